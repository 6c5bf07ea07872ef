set_option maxHeartbeats 4000000 in
set_option maxRecDepth 100000 in
theorem c_X12_restore_224 (l : Launch) (G : zGT) (sz : Nat) (a0 a1 a2 a3 a4 a5 a6 a7 a8 a9 a10 a11 a12 a13 a14 a15 a16 a17 a18 a19 a20 a21 a22 a23 a24 a25 a26 a27 a28 a29 a30 a31 a32 a33 : Nat) (p0 : Int32) : Met l yX12_restore (.code yX12_restore cX12_restore 3 (some .boolean) :: zT) ({ frames := 1, cells := 0, slots := 0, locals := 86 }) (va_Pc [.ref a0, .int p0] (zPc G [zo a0 10 [.int 0, .ref a2, .int 0, .ref a3, .int 0, .ref a4, .ref a5, .ref a6, .ref a7, .ref a8, .int 0, .int 0, .int 0, .int 0, .int 0, .int 0, .int (-1), .int 0, .ref a9, .int 0, .int 0, .ref a10, .int 0, .int 0, .ref a11, .int 0, .int 0, .ref a12, .ref a13, .ref a14, .ref a15, .int 0, .int 0, .ref a16, .ref a1, .ref a17, .ref a18, .ref a19, .int 0, .ref a20, .ref a21, .int 0, .int 0, .ref a22, .ref a23, .ref a24, .ref a25, .ref a26, .int (-1), .ref a27, .ref a28, .ref a29, .ref a30, .ref a31, .ref a32, .ref a33], zz G a1 3 (fun _ => 0)] sz)) ((fun A => va_Qi (fun (r : Int32) (_ : Unit) => r = 0) (fun (_ : Unit) t => zQ G [] A t) A) (va_A [zo a0 10 [.int 0, .ref a2, .int 0, .ref a3, .int 0, .ref a4, .ref a5, .ref a6, .ref a7, .ref a8, .int 0, .int 0, .int 0, .int 0, .int 0, .int 0, .int (-1), .int 0, .ref a9, .int 0, .int 0, .ref a10, .int 0, .int 0, .ref a11, .int 0, .int 0, .ref a12, .ref a13, .ref a14, .ref a15, .int 0, .int 0, .ref a16, .ref a1, .ref a17, .ref a18, .ref a19, .int 0, .ref a20, .ref a21, .int 0, .int 0, .ref a22, .ref a23, .ref a24, .ref a25, .ref a26, .int (-1), .ref a27, .ref a28, .ref a29, .ref a30, .ref a31, .ref a32, .ref a33], zz G a1 3 (fun _ => 0)] sz)) 0 0 (va_A [zo a0 10 [.int 0, .ref a2, .int 0, .ref a3, .int 0, .ref a4, .ref a5, .ref a6, .ref a7, .ref a8, .int 0, .int 0, .int 0, .int 0, .int 0, .int 0, .int (-1), .int 0, .ref a9, .int 0, .int 0, .ref a10, .int 0, .int 0, .ref a11, .int 0, .int 0, .ref a12, .ref a13, .ref a14, .ref a15, .int 0, .int 0, .ref a16, .ref a1, .ref a17, .ref a18, .ref a19, .int 0, .ref a20, .ref a21, .int 0, .int 0, .ref a22, .ref a23, .ref a24, .ref a25, .ref a26, .int (-1), .ref a27, .ref a28, .ref a29, .ref a30, .ref a31, .ref a32, .ref a33], zz G a1 3 (fun _ => 0)] sz) := by
  refine z_start (QA := (fun A => va_Qi (fun (r : Int32) (_ : Unit) => r = 0) (fun (_ : Unit) t => zQ G [] A t) A)) (by decide) ⟨Nat.le_of_ble_eq_true rfl, trivial⟩ ?_
  intro p e s m below meth c A ls E B hr hlocks hin hl
  have hl : lv_has ls 3 [(0, .ref a0), (1, .int p0)] := hl
  have B : zB G A s.heap [zo a0 10 [.int 0, .ref a2, .int 0, .ref a3, .int 0, .ref a4, .ref a5, .ref a6, .ref a7, .ref a8, .int 0, .int 0, .int 0, .int 0, .int 0, .int 0, .int (-1), .int 0, .ref a9, .int 0, .int 0, .ref a10, .int 0, .int 0, .ref a11, .int 0, .int 0, .ref a12, .ref a13, .ref a14, .ref a15, .int 0, .int 0, .ref a16, .ref a1, .ref a17, .ref a18, .ref a19, .int 0, .ref a20, .ref a21, .int 0, .int 0, .ref a22, .ref a23, .ref a24, .ref a25, .ref a26, .int (-1), .ref a27, .ref a28, .ref a29, .ref a30, .ref a31, .ref a32, .ref a33], zz G a1 3 (fun _ => 0)] s.heap [] := B
  refine lv_iload_n E.x E.b dX12_restore_0 rfl (lv_at hl 1 rfl) ?_
  refine lv_iconst (v := 0) E.x E.b dX12_restore_1 (by decide) ?_
  refine lv_iconst (v := 2) E.x E.b dX12_restore_2 (by decide) ?_
  refine z_calli E B (wc := []) (wr := [zo a0 10 [.int 0, .ref a2, .int 0, .ref a3, .int 0, .ref a4, .ref a5, .ref a6, .ref a7, .ref a8, .int 0, .int 0, .int 0, .int 0, .int 0, .int 0, .int (-1), .int 0, .ref a9, .int 0, .int 0, .ref a10, .int 0, .int 0, .ref a11, .int 0, .int 0, .ref a12, .ref a13, .ref a14, .ref a15, .int 0, .int 0, .ref a16, .ref a1, .ref a17, .ref a18, .ref a19, .int 0, .ref a20, .ref a21, .int 0, .int 0, .ref a22, .ref a23, .ref a24, .ref a25, .ref a26, .int (-1), .ref a27, .ref a28, .ref a29, .ref a30, .ref a31, .ref a32, .ref a33], zz G a1 3 (fun _ => 0)]) [] [0, 1] rfl rfl (by decide) (by decide) (z_runS E B (As := [.int p0, .int 0, .int 2]) (rest := []) [] rfl (by decide) ms_X12_in t_1439 (c_X12_in_218 l G _ p0) rfl rfl ⟨Nat.le_of_ble_eq_true rfl, Nat.le_of_ble_eq_true rfl⟩ rfl hl.1 rfl (Nat.le_of_ble_eq_true rfl) dX12_restore_3 ⟨(Nat.le_of_ble_eq_true rfl), (Nat.le_of_ble_eq_true rfl)⟩) (fun r t H locs hp hB J => ?_)
  have hq := hB
  have B := J _ hq
  have B : zB G A s.heap [zo a0 10 [.int 0, .ref a2, .int 0, .ref a3, .int 0, .ref a4, .ref a5, .ref a6, .ref a7, .ref a8, .int 0, .int 0, .int 0, .int 0, .int 0, .int 0, .int (-1), .int 0, .ref a9, .int 0, .int 0, .ref a10, .int 0, .int 0, .ref a11, .int 0, .int 0, .ref a12, .ref a13, .ref a14, .ref a15, .int 0, .int 0, .ref a16, .ref a1, .ref a17, .ref a18, .ref a19, .int 0, .ref a20, .ref a21, .int 0, .int 0, .ref a22, .ref a23, .ref a24, .ref a25, .ref a26, .int (-1), .ref a27, .ref a28, .ref a29, .ref a30, .ref a31, .ref a32, .ref a33], zz G a1 3 (fun _ => 0)] _ _ := B
  rcases hp with ⟨c_1, rfl⟩ | ⟨c_2, rfl⟩ | ⟨c_3, c_4, rfl⟩
  · skip
    refine lv_if_eq (tgt := 18) E.x E.b dX12_restore_6 (by decide) (fun _ => ?_) (fun c => absurd (by decide +kernel) c)
    refine lv_iconst (v := 0) E.x E.b dX12_restore_18 (by decide) ?_
    refine W.widen (k := 0) (n := 0) (Nat.le_of_ble_eq_true rfl) (Nat.le_of_ble_eq_true rfl) ?_
    exact z_zret E hr hlocks B (v := 0) rfl rfl (fun t ht => z_q B [] (by decide) rfl ht) dX12_restore_19
  · skip
    refine lv_if_eq (tgt := 18) E.x E.b dX12_restore_6 (by decide) (fun _ => ?_) (fun c => absurd (by decide +kernel) c)
    refine lv_iconst (v := 0) E.x E.b dX12_restore_18 (by decide) ?_
    refine W.widen (k := 0) (n := 0) (Nat.le_of_ble_eq_true rfl) (Nat.le_of_ble_eq_true rfl) ?_
    exact z_zret E hr hlocks B (v := 0) rfl rfl (fun t ht => z_q B [] (by decide) rfl ht) dX12_restore_19
  · skip
    refine lv_if_eq (tgt := 18) E.x E.b dX12_restore_6 (by decide) (fun c => absurd c (by decide +kernel)) (fun _ => ?_)
    refine lv_aload_n E.x E.b dX12_restore_9 rfl (lv_at hl 0 rfl) ?_
    refine z_get E B z_inX12 (ci := 10) rfl 34 (by decide) t_1226 0 rfl rfl dX12_restore_10 ?_
    refine lv_iload_n E.x E.b dX12_restore_13 rfl (lv_at hl 1 rfl) ?_
    by_cases e_5 : p0 = 0
    · subst e_5
      refine z_zald E B 1 rfl (show ¬ ((0 : Int32) < 0 ∨ 3 ≤ (0 : Int32).toNatClampNeg) by decide +kernel) dX12_restore_14 (z_topi 0 rfl ?_)
      refine lv_if_ne (tgt := 20) E.x E.b dX12_restore_15 (by decide) (fun c => absurd (by decide +kernel) c) (fun _ => ?_)
      refine lv_iconst (v := 0) E.x E.b dX12_restore_18 (by decide) ?_
      refine W.widen (k := 0) (n := 0) (Nat.le_of_ble_eq_true rfl) (Nat.le_of_ble_eq_true rfl) ?_
      exact z_zret E hr hlocks B (v := 0) rfl rfl (fun t ht => z_q B [] (by decide) rfl ht) dX12_restore_19
    · have e_5m : ¬ p0.toInt = 0 := zi_ne e_5
      by_cases e_6 : p0 = 1
      · subst e_6
        refine z_zald E B 1 rfl (show ¬ ((1 : Int32) < 0 ∨ 3 ≤ (1 : Int32).toNatClampNeg) by decide +kernel) dX12_restore_14 (z_topi 0 rfl ?_)
        refine lv_if_ne (tgt := 20) E.x E.b dX12_restore_15 (by decide) (fun c => absurd (by decide +kernel) c) (fun _ => ?_)
        refine lv_iconst (v := 0) E.x E.b dX12_restore_18 (by decide) ?_
        refine W.widen (k := 0) (n := 0) (Nat.le_of_ble_eq_true rfl) (Nat.le_of_ble_eq_true rfl) ?_
        exact z_zret E hr hlocks B (v := 0) rfl rfl (fun t ht => z_q B [] (by decide) rfl ht) dX12_restore_19
      · have e_6m : ¬ p0.toInt = 1 := zi_ne e_6
        by_cases e_7 : p0 = 2
        · subst e_7
          refine z_zald E B 1 rfl (show ¬ ((2 : Int32) < 0 ∨ 3 ≤ (2 : Int32).toNatClampNeg) by decide +kernel) dX12_restore_14 (z_topi 0 rfl ?_)
          refine lv_if_ne (tgt := 20) E.x E.b dX12_restore_15 (by decide) (fun c => absurd (by decide +kernel) c) (fun _ => ?_)
          refine lv_iconst (v := 0) E.x E.b dX12_restore_18 (by decide) ?_
          refine W.widen (k := 0) (n := 0) (Nat.le_of_ble_eq_true rfl) (Nat.le_of_ble_eq_true rfl) ?_
          exact z_zret E hr hlocks B (v := 0) rfl rfl (fun t ht => z_q B [] (by decide) rfl ht) dX12_restore_19
        · exfalso
          have e_7n := zi_ne e_7
          have e_7m : ¬ p0.toInt = 2 := e_7n
          omega
set_option maxHeartbeats 4000000 in
set_option maxRecDepth 100000 in
theorem c_X12_in_225 (l : Launch) (G : zGT) (sz : Nat) (p0 : Int32) : Met l yX12_in (.code yX12_in cX12_in 3 (some .boolean) :: zT) ({ frames := 0, cells := 0, slots := 0, locals := 64 }) (va_Pc [.int p0, .int 9, .int 12] (zPc G [] sz)) ((fun A => va_Qi (fun (r : Int32) (_ : Unit) => (p0.toInt ≤ 8 ∧ r = 0) ∨ (13 ≤ p0.toInt ∧ r = 0) ∨ (9 ≤ p0.toInt ∧ p0.toInt ≤ 12 ∧ r = 1)) (fun (_ : Unit) t => zQ G [] A t) A) (va_A [] sz)) 0 0 (va_A [] sz) := by
  refine z_start (QA := (fun A => va_Qi (fun (r : Int32) (_ : Unit) => (p0.toInt ≤ 8 ∧ r = 0) ∨ (13 ≤ p0.toInt ∧ r = 0) ∨ (9 ≤ p0.toInt ∧ p0.toInt ≤ 12 ∧ r = 1)) (fun (_ : Unit) t => zQ G [] A t) A)) (by decide) ⟨Nat.le_of_ble_eq_true rfl, trivial⟩ ?_
  intro p e s m below meth c A ls E B hr hlocks hin hl
  have hl : lv_has ls 3 [(0, .int p0), (1, .int 9), (2, .int 12)] := hl
  have B : zB G A s.heap [] s.heap [] := B
  refine lv_iload_n E.x E.b dX12_in_0 rfl (lv_at hl 0 rfl) ?_
  refine lv_iload_n E.x E.b dX12_in_1 rfl (lv_at hl 1 rfl) ?_
  refine lv_icmp_lt (tgt := 14) E.x E.b dX12_in_2 (by decide) (fun c_1 => ?_) (fun c_1 => ?_)
  · have c_1f : p0.toInt < 9 := zi_lt c_1
    refine lv_iconst (v := 0) E.x E.b dX12_in_14 (by decide) ?_
    refine W.widen (k := 0) (n := 0) (Nat.le_of_ble_eq_true rfl) (Nat.le_of_ble_eq_true rfl) ?_
    exact z_zret E hr hlocks B (v := 0) rfl (Or.inl ⟨(by first | decide | omega), rfl⟩) (fun t ht => z_q B [] (by decide) rfl ht) dX12_in_15
  · have c_1f : 9 ≤ p0.toInt := zi_nlt c_1
    refine lv_iload_n E.x E.b dX12_in_5 rfl (lv_at hl 0 rfl) ?_
    refine lv_iload_n E.x E.b dX12_in_6 rfl (lv_at hl 2 rfl) ?_
    refine lv_icmp_gt (tgt := 14) E.x E.b dX12_in_7 (by decide) (fun c_2 => ?_) (fun c_2 => ?_)
    · have c_2f : 12 < p0.toInt := zi_lt c_2
      refine lv_iconst (v := 0) E.x E.b dX12_in_14 (by decide) ?_
      refine W.widen (k := 0) (n := 0) (Nat.le_of_ble_eq_true rfl) (Nat.le_of_ble_eq_true rfl) ?_
      exact z_zret E hr hlocks B (v := 0) rfl (Or.inr (Or.inl ⟨(by first | decide | omega), rfl⟩)) (fun t ht => z_q B [] (by decide) rfl ht) dX12_in_15
    · have c_2f : p0.toInt ≤ 12 := zi_nlt c_2
      refine lv_iconst (v := 1) E.x E.b dX12_in_10 (by decide) ?_
      refine lv_goto (tgt := 15) E.x E.b dX12_in_11 (by decide) ?_
      refine W.widen (k := 0) (n := 0) (Nat.le_of_ble_eq_true rfl) (Nat.le_of_ble_eq_true rfl) ?_
      exact z_zret E hr hlocks B (v := 1) rfl (Or.inr (Or.inr (⟨(by first | decide | omega), (by first | decide | omega), rfl⟩))) (fun t ht => z_q B [] (by decide) rfl ht) dX12_in_15
set_option maxHeartbeats 4000000 in
set_option maxRecDepth 100000 in
theorem c_X12_cost_226 (l : Launch) (G : zGT) (sz : Nat) (a0 a1 a2 a3 a4 a5 a6 a7 a8 a9 a10 a11 a12 a13 a14 a15 a16 a17 a18 a19 a20 a21 a22 a23 a24 a25 a26 a27 a28 a29 a30 a31 a32 a33 : Nat) : Met l yX12_cost (.code yX12_cost cX12_cost 3 (some .int) :: zT) ({ frames := 1, cells := 0, slots := 0, locals := 84 }) (va_Pc [.ref a0] (zPc G [zo a0 10 [.int 0, .ref a2, .int 0, .ref a3, .int 0, .ref a4, .ref a5, .ref a6, .ref a7, .ref a8, .int 0, .int 0, .int 0, .int 0, .int 0, .int 0, .int (-1), .int 0, .ref a9, .int 0, .int 0, .ref a10, .int 0, .int 0, .ref a11, .int 0, .int 0, .ref a12, .ref a1, .ref a13, .ref a14, .int 0, .int 0, .ref a15, .ref a16, .ref a17, .ref a18, .ref a19, .int 0, .ref a20, .ref a21, .int 0, .int 0, .ref a22, .ref a23, .ref a24, .ref a25, .ref a26, .int (-1), .ref a27, .ref a28, .ref a29, .ref a30, .ref a31, .ref a32, .ref a33], zi G a1 49 (fun _ => 0)] sz)) ((fun A => va_Qi (fun (r : Int32) (_ : Unit) => r = 0) (fun (_ : Unit) t => zQ G [zo a0 10 [.int 0, .ref a2, .int 0, .ref a3, .int 0, .ref a4, .ref a5, .ref a6, .ref a7, .ref a8, .int 0, .int 0, .int 0, .int 0, .int 0, .int 0, .int (-1), .int 0, .ref a9, .int 0, .int 0, .ref a10, .int 0, .int 0, .ref a11, .int 0, .int 0, .ref a12, .ref a1, .ref a13, .ref a14, .int 0, .int 0, .ref a15, .ref a16, .ref a17, .ref a18, .ref a19, .int 0, .ref a20, .ref a21, .int 0, .int 0, .ref a22, .ref a23, .ref a24, .ref a25, .ref a26, .int (-1), .ref a27, .ref a28, .ref a29, .ref a30, .ref a31, .ref a32, .ref a33], zi G a1 49 (fun _ => 0)] A t) A) (va_A [zo a0 10 [.int 0, .ref a2, .int 0, .ref a3, .int 0, .ref a4, .ref a5, .ref a6, .ref a7, .ref a8, .int 0, .int 0, .int 0, .int 0, .int 0, .int 0, .int (-1), .int 0, .ref a9, .int 0, .int 0, .ref a10, .int 0, .int 0, .ref a11, .int 0, .int 0, .ref a12, .ref a1, .ref a13, .ref a14, .int 0, .int 0, .ref a15, .ref a16, .ref a17, .ref a18, .ref a19, .int 0, .ref a20, .ref a21, .int 0, .int 0, .ref a22, .ref a23, .ref a24, .ref a25, .ref a26, .int (-1), .ref a27, .ref a28, .ref a29, .ref a30, .ref a31, .ref a32, .ref a33], zi G a1 49 (fun _ => 0)] sz)) 0 0 (va_A [zo a0 10 [.int 0, .ref a2, .int 0, .ref a3, .int 0, .ref a4, .ref a5, .ref a6, .ref a7, .ref a8, .int 0, .int 0, .int 0, .int 0, .int 0, .int 0, .int (-1), .int 0, .ref a9, .int 0, .int 0, .ref a10, .int 0, .int 0, .ref a11, .int 0, .int 0, .ref a12, .ref a1, .ref a13, .ref a14, .int 0, .int 0, .ref a15, .ref a16, .ref a17, .ref a18, .ref a19, .int 0, .ref a20, .ref a21, .int 0, .int 0, .ref a22, .ref a23, .ref a24, .ref a25, .ref a26, .int (-1), .ref a27, .ref a28, .ref a29, .ref a30, .ref a31, .ref a32, .ref a33], zi G a1 49 (fun _ => 0)] sz) := by
  refine z_start (QA := (fun A => va_Qi (fun (r : Int32) (_ : Unit) => r = 0) (fun (_ : Unit) t => zQ G [zo a0 10 [.int 0, .ref a2, .int 0, .ref a3, .int 0, .ref a4, .ref a5, .ref a6, .ref a7, .ref a8, .int 0, .int 0, .int 0, .int 0, .int 0, .int 0, .int (-1), .int 0, .ref a9, .int 0, .int 0, .ref a10, .int 0, .int 0, .ref a11, .int 0, .int 0, .ref a12, .ref a1, .ref a13, .ref a14, .int 0, .int 0, .ref a15, .ref a16, .ref a17, .ref a18, .ref a19, .int 0, .ref a20, .ref a21, .int 0, .int 0, .ref a22, .ref a23, .ref a24, .ref a25, .ref a26, .int (-1), .ref a27, .ref a28, .ref a29, .ref a30, .ref a31, .ref a32, .ref a33], zi G a1 49 (fun _ => 0)] A t) A)) (by decide) ⟨Nat.le_of_ble_eq_true rfl, trivial⟩ ?_
  intro p e s m below meth c A ls E B hr hlocks hin hl
  have hl : lv_has ls 3 [(0, .ref a0)] := hl
  have B : zB G A s.heap [zo a0 10 [.int 0, .ref a2, .int 0, .ref a3, .int 0, .ref a4, .ref a5, .ref a6, .ref a7, .ref a8, .int 0, .int 0, .int 0, .int 0, .int 0, .int 0, .int (-1), .int 0, .ref a9, .int 0, .int 0, .ref a10, .int 0, .int 0, .ref a11, .int 0, .int 0, .ref a12, .ref a1, .ref a13, .ref a14, .int 0, .int 0, .ref a15, .ref a16, .ref a17, .ref a18, .ref a19, .int 0, .ref a20, .ref a21, .int 0, .int 0, .ref a22, .ref a23, .ref a24, .ref a25, .ref a26, .int (-1), .ref a27, .ref a28, .ref a29, .ref a30, .ref a31, .ref a32, .ref a33], zi G a1 49 (fun _ => 0)] s.heap [] := B
  refine lv_iconst (v := 0) E.x E.b dX12_cost_0 (by decide) ?_
  refine lv_istore_n (lv' := [(1, .int 0), (0, .ref a0)]) E.x E.b dX12_cost_1 rfl hl (by decide) rfl (fun ls hl => ?_)
  refine lv_iconst (v := 0) E.x E.b dX12_cost_2 (by decide) ?_
  refine lv_istore_n (lv' := [(2, .int 0), (1, .int 0), (0, .ref a0)]) E.x E.b dX12_cost_3 rfl hl (by decide) rfl (fun ls hl => ?_)
  refine lv_iload_n E.x E.b dX12_cost_4 rfl (lv_at hl 0 rfl) ?_
  refine lv_aload_n E.x E.b dX12_cost_5 rfl (lv_at hl 2 rfl) ?_
  refine z_calli E B (wc := [zo a0 10 [.int 0, .ref a2, .int 0, .ref a3, .int 0, .ref a4, .ref a5, .ref a6, .ref a7, .ref a8, .int 0, .int 0, .int 0, .int 0, .int 0, .int 0, .int (-1), .int 0, .ref a9, .int 0, .int 0, .ref a10, .int 0, .int 0, .ref a11, .int 0, .int 0, .ref a12, .ref a1, .ref a13, .ref a14, .int 0, .int 0, .ref a15, .ref a16, .ref a17, .ref a18, .ref a19, .int 0, .ref a20, .ref a21, .int 0, .int 0, .ref a22, .ref a23, .ref a24, .ref a25, .ref a26, .int (-1), .ref a27, .ref a28, .ref a29, .ref a30, .ref a31, .ref a32, .ref a33], zi G a1 49 (fun _ => 0)]) (wr := []) [0, 1] [] rfl rfl (by decide) (by decide) (z_runV E B (As := []) (rest := [.int 0]) [0, 1] rfl (by decide) mv_X12_gates t_1454 0 (ci := 10) rfl rfl rfl (c_X12_gates_160 l G _ a0 a1 a2 a3 a4 a5 a6 a7 a8 a9 a10 a11 a12 a13 a14 a15 a16 a17 a18 a19 a20 a21 a22 a23 a24 a25 a26 a27 a28 a29 a30 a31 a32 a33) rfl rfl ⟨Nat.le_of_ble_eq_true rfl, Nat.le_of_ble_eq_true rfl⟩ rfl hl.1 rfl (Nat.le_of_ble_eq_true rfl) dX12_cost_6 ⟨(Nat.le_of_ble_eq_true rfl), (Nat.le_of_ble_eq_true rfl)⟩) (fun r t H locs hp hB J => ?_)
  have hq := hB
  have B := J _ hq
  have B : zB G A s.heap [zo a0 10 [.int 0, .ref a2, .int 0, .ref a3, .int 0, .ref a4, .ref a5, .ref a6, .ref a7, .ref a8, .int 0, .int 0, .int 0, .int 0, .int 0, .int 0, .int (-1), .int 0, .ref a9, .int 0, .int 0, .ref a10, .int 0, .int 0, .ref a11, .int 0, .int 0, .ref a12, .ref a1, .ref a13, .ref a14, .int 0, .int 0, .ref a15, .ref a16, .ref a17, .ref a18, .ref a19, .int 0, .ref a20, .ref a21, .int 0, .int 0, .ref a22, .ref a23, .ref a24, .ref a25, .ref a26, .int (-1), .ref a27, .ref a28, .ref a29, .ref a30, .ref a31, .ref a32, .ref a33], zi G a1 49 (fun _ => 0)] _ _ := B
  have hp := hp.symm
  subst hp
  refine lv_icmp_ge (tgt := 31) E.x E.b dX12_cost_9 (by decide) (fun _ => ?_) (fun c => absurd (by decide +kernel) c)
  refine lv_iload_n E.x E.b dX12_cost_31 rfl (lv_at hl 1 rfl) ?_
  refine W.widen (k := 0) (n := 0) (Nat.le_of_ble_eq_true rfl) (Nat.le_of_ble_eq_true rfl) ?_
  exact z_iret E hr hlocks B (v := 0) rfl (fun t ht => z_q B [0, 1] (by decide) rfl ht) dX12_cost_32
set_option maxHeartbeats 4000000 in
set_option maxRecDepth 100000 in
theorem c_X12_laysLevels_227 (l : Launch) (G : zGT) (sz : Nat) (a0 a1 a2 a3 a4 a5 a6 a7 a8 a9 a10 a11 a12 a13 a14 a15 a16 a17 a18 a19 a20 a21 a22 a23 a24 a25 a26 a27 a28 a29 a30 a31 a32 a33 : Nat) : Met l yX12_laysLevels (.code yX12_laysLevels cX12_laysLevels 4 (some .int) :: zT) ({ frames := 1, cells := 0, slots := 0, locals := 84 }) (va_Pc [.ref a0] (zPc G [zo a0 10 [.int 0, .ref a2, .int 0, .ref a3, .int 0, .ref a4, .ref a5, .ref a6, .ref a7, .ref a8, .int 0, .int 0, .int 0, .int 0, .int 0, .int 0, .int (-1), .int 0, .ref a9, .int 0, .int 0, .ref a10, .int 0, .int 0, .ref a11, .int 0, .int 0, .ref a12, .ref a1, .ref a13, .ref a14, .int 0, .int 0, .ref a15, .ref a16, .ref a17, .ref a18, .ref a19, .int 0, .ref a20, .ref a21, .int 0, .int 0, .ref a22, .ref a23, .ref a24, .ref a25, .ref a26, .int (-1), .ref a27, .ref a28, .ref a29, .ref a30, .ref a31, .ref a32, .ref a33], zi G a1 49 (fun _ => 0)] sz)) ((fun A => va_Qi (fun (r : Int32) (_ : Unit) => r = 0) (fun (_ : Unit) t => zQ G [zo a0 10 [.int 0, .ref a2, .int 0, .ref a3, .int 0, .ref a4, .ref a5, .ref a6, .ref a7, .ref a8, .int 0, .int 0, .int 0, .int 0, .int 0, .int 0, .int (-1), .int 0, .ref a9, .int 0, .int 0, .ref a10, .int 0, .int 0, .ref a11, .int 0, .int 0, .ref a12, .ref a1, .ref a13, .ref a14, .int 0, .int 0, .ref a15, .ref a16, .ref a17, .ref a18, .ref a19, .int 0, .ref a20, .ref a21, .int 0, .int 0, .ref a22, .ref a23, .ref a24, .ref a25, .ref a26, .int (-1), .ref a27, .ref a28, .ref a29, .ref a30, .ref a31, .ref a32, .ref a33], zi G a1 49 (fun _ => 0)] A t) A) (va_A [zo a0 10 [.int 0, .ref a2, .int 0, .ref a3, .int 0, .ref a4, .ref a5, .ref a6, .ref a7, .ref a8, .int 0, .int 0, .int 0, .int 0, .int 0, .int 0, .int (-1), .int 0, .ref a9, .int 0, .int 0, .ref a10, .int 0, .int 0, .ref a11, .int 0, .int 0, .ref a12, .ref a1, .ref a13, .ref a14, .int 0, .int 0, .ref a15, .ref a16, .ref a17, .ref a18, .ref a19, .int 0, .ref a20, .ref a21, .int 0, .int 0, .ref a22, .ref a23, .ref a24, .ref a25, .ref a26, .int (-1), .ref a27, .ref a28, .ref a29, .ref a30, .ref a31, .ref a32, .ref a33], zi G a1 49 (fun _ => 0)] sz)) 0 0 (va_A [zo a0 10 [.int 0, .ref a2, .int 0, .ref a3, .int 0, .ref a4, .ref a5, .ref a6, .ref a7, .ref a8, .int 0, .int 0, .int 0, .int 0, .int 0, .int 0, .int (-1), .int 0, .ref a9, .int 0, .int 0, .ref a10, .int 0, .int 0, .ref a11, .int 0, .int 0, .ref a12, .ref a1, .ref a13, .ref a14, .int 0, .int 0, .ref a15, .ref a16, .ref a17, .ref a18, .ref a19, .int 0, .ref a20, .ref a21, .int 0, .int 0, .ref a22, .ref a23, .ref a24, .ref a25, .ref a26, .int (-1), .ref a27, .ref a28, .ref a29, .ref a30, .ref a31, .ref a32, .ref a33], zi G a1 49 (fun _ => 0)] sz) := by
  refine z_start (QA := (fun A => va_Qi (fun (r : Int32) (_ : Unit) => r = 0) (fun (_ : Unit) t => zQ G [zo a0 10 [.int 0, .ref a2, .int 0, .ref a3, .int 0, .ref a4, .ref a5, .ref a6, .ref a7, .ref a8, .int 0, .int 0, .int 0, .int 0, .int 0, .int 0, .int (-1), .int 0, .ref a9, .int 0, .int 0, .ref a10, .int 0, .int 0, .ref a11, .int 0, .int 0, .ref a12, .ref a1, .ref a13, .ref a14, .int 0, .int 0, .ref a15, .ref a16, .ref a17, .ref a18, .ref a19, .int 0, .ref a20, .ref a21, .int 0, .int 0, .ref a22, .ref a23, .ref a24, .ref a25, .ref a26, .int (-1), .ref a27, .ref a28, .ref a29, .ref a30, .ref a31, .ref a32, .ref a33], zi G a1 49 (fun _ => 0)] A t) A)) (by decide) ⟨Nat.le_of_ble_eq_true rfl, trivial⟩ ?_
  intro p e s m below meth c A ls E B hr hlocks hin hl
  have hl : lv_has ls 4 [(0, .ref a0)] := hl
  have B : zB G A s.heap [zo a0 10 [.int 0, .ref a2, .int 0, .ref a3, .int 0, .ref a4, .ref a5, .ref a6, .ref a7, .ref a8, .int 0, .int 0, .int 0, .int 0, .int 0, .int 0, .int (-1), .int 0, .ref a9, .int 0, .int 0, .ref a10, .int 0, .int 0, .ref a11, .int 0, .int 0, .ref a12, .ref a1, .ref a13, .ref a14, .int 0, .int 0, .ref a15, .ref a16, .ref a17, .ref a18, .ref a19, .int 0, .ref a20, .ref a21, .int 0, .int 0, .ref a22, .ref a23, .ref a24, .ref a25, .ref a26, .int (-1), .ref a27, .ref a28, .ref a29, .ref a30, .ref a31, .ref a32, .ref a33], zi G a1 49 (fun _ => 0)] s.heap [] := B
  refine lv_iconst (v := 0) E.x E.b dX12_laysLevels_0 (by decide) ?_
  refine lv_istore_n (lv' := [(1, .int 0), (0, .ref a0)]) E.x E.b dX12_laysLevels_1 rfl hl (by decide) rfl (fun ls hl => ?_)
  refine lv_iconst (v := 0) E.x E.b dX12_laysLevels_2 (by decide) ?_
  refine lv_istore_n (lv' := [(2, .int 0), (1, .int 0), (0, .ref a0)]) E.x E.b dX12_laysLevels_3 rfl hl (by decide) rfl (fun ls hl => ?_)
  refine lv_iload_n E.x E.b dX12_laysLevels_4 rfl (lv_at hl 0 rfl) ?_
  refine lv_aload_n E.x E.b dX12_laysLevels_5 rfl (lv_at hl 2 rfl) ?_
  refine z_calli E B (wc := [zo a0 10 [.int 0, .ref a2, .int 0, .ref a3, .int 0, .ref a4, .ref a5, .ref a6, .ref a7, .ref a8, .int 0, .int 0, .int 0, .int 0, .int 0, .int 0, .int (-1), .int 0, .ref a9, .int 0, .int 0, .ref a10, .int 0, .int 0, .ref a11, .int 0, .int 0, .ref a12, .ref a1, .ref a13, .ref a14, .int 0, .int 0, .ref a15, .ref a16, .ref a17, .ref a18, .ref a19, .int 0, .ref a20, .ref a21, .int 0, .int 0, .ref a22, .ref a23, .ref a24, .ref a25, .ref a26, .int (-1), .ref a27, .ref a28, .ref a29, .ref a30, .ref a31, .ref a32, .ref a33], zi G a1 49 (fun _ => 0)]) (wr := []) [0, 1] [] rfl rfl (by decide) (by decide) (z_runV E B (As := []) (rest := [.int 0]) [0, 1] rfl (by decide) mv_X12_gates t_1454 0 (ci := 10) rfl rfl rfl (c_X12_gates_160 l G _ a0 a1 a2 a3 a4 a5 a6 a7 a8 a9 a10 a11 a12 a13 a14 a15 a16 a17 a18 a19 a20 a21 a22 a23 a24 a25 a26 a27 a28 a29 a30 a31 a32 a33) rfl rfl ⟨Nat.le_of_ble_eq_true rfl, Nat.le_of_ble_eq_true rfl⟩ rfl hl.1 rfl (Nat.le_of_ble_eq_true rfl) dX12_laysLevels_6 ⟨(Nat.le_of_ble_eq_true rfl), (Nat.le_of_ble_eq_true rfl)⟩) (fun r t H locs hp hB J => ?_)
  have hq := hB
  have B := J _ hq
  have B : zB G A s.heap [zo a0 10 [.int 0, .ref a2, .int 0, .ref a3, .int 0, .ref a4, .ref a5, .ref a6, .ref a7, .ref a8, .int 0, .int 0, .int 0, .int 0, .int 0, .int 0, .int (-1), .int 0, .ref a9, .int 0, .int 0, .ref a10, .int 0, .int 0, .ref a11, .int 0, .int 0, .ref a12, .ref a1, .ref a13, .ref a14, .int 0, .int 0, .ref a15, .ref a16, .ref a17, .ref a18, .ref a19, .int 0, .ref a20, .ref a21, .int 0, .int 0, .ref a22, .ref a23, .ref a24, .ref a25, .ref a26, .int (-1), .ref a27, .ref a28, .ref a29, .ref a30, .ref a31, .ref a32, .ref a33], zi G a1 49 (fun _ => 0)] _ _ := B
  have hp := hp.symm
  subst hp
  refine lv_icmp_ge (tgt := 106) E.x E.b dX12_laysLevels_9 (by decide) (fun _ => ?_) (fun c => absurd (by decide +kernel) c)
  refine lv_iload_n E.x E.b dX12_laysLevels_106 rfl (lv_at hl 1 rfl) ?_
  refine W.widen (k := 0) (n := 0) (Nat.le_of_ble_eq_true rfl) (Nat.le_of_ble_eq_true rfl) ?_
  exact z_iret E hr hlocks B (v := 0) rfl (fun t ht => z_q B [0, 1] (by decide) rfl ht) dX12_laysLevels_107
set_option maxHeartbeats 4000000 in
set_option maxRecDepth 100000 in
theorem c_X12_agreeing_228 (l : Launch) (G : zGT) (sz : Nat) (a0 a1 a2 a3 a4 a5 a6 a7 a8 a9 a10 a11 a12 a13 a14 a15 a16 a17 a18 a19 a20 a21 a22 a23 a24 a25 a26 a27 a28 a29 a30 a31 a32 a33 : Nat) : Met l yX12_agreeing (.code yX12_agreeing cX12_agreeing 5 (some .int) :: zT) ({ frames := 1, cells := 0, slots := 0, locals := 84 }) (va_Pc [.ref a0] (zPc G [zo a0 10 [.int 0, .ref a2, .int 0, .ref a3, .int 0, .ref a4, .ref a5, .ref a6, .ref a7, .ref a8, .int 0, .int 0, .int 0, .int 0, .int 0, .int 0, .int (-1), .int 0, .ref a9, .int 0, .int 0, .ref a10, .int 0, .int 0, .ref a11, .int 0, .int 0, .ref a12, .ref a1, .ref a13, .ref a14, .int 0, .int 0, .ref a15, .ref a16, .ref a17, .ref a18, .ref a19, .int 0, .ref a20, .ref a21, .int 0, .int 0, .ref a22, .ref a23, .ref a24, .ref a25, .ref a26, .int (-1), .ref a27, .ref a28, .ref a29, .ref a30, .ref a31, .ref a32, .ref a33], zi G a1 49 (fun _ => 0)] sz)) ((fun A => va_Qi (fun (r : Int32) (_ : Unit) => r = 0) (fun (_ : Unit) t => zQ G [zo a0 10 [.int 0, .ref a2, .int 0, .ref a3, .int 0, .ref a4, .ref a5, .ref a6, .ref a7, .ref a8, .int 0, .int 0, .int 0, .int 0, .int 0, .int 0, .int (-1), .int 0, .ref a9, .int 0, .int 0, .ref a10, .int 0, .int 0, .ref a11, .int 0, .int 0, .ref a12, .ref a1, .ref a13, .ref a14, .int 0, .int 0, .ref a15, .ref a16, .ref a17, .ref a18, .ref a19, .int 0, .ref a20, .ref a21, .int 0, .int 0, .ref a22, .ref a23, .ref a24, .ref a25, .ref a26, .int (-1), .ref a27, .ref a28, .ref a29, .ref a30, .ref a31, .ref a32, .ref a33], zi G a1 49 (fun _ => 0)] A t) A) (va_A [zo a0 10 [.int 0, .ref a2, .int 0, .ref a3, .int 0, .ref a4, .ref a5, .ref a6, .ref a7, .ref a8, .int 0, .int 0, .int 0, .int 0, .int 0, .int 0, .int (-1), .int 0, .ref a9, .int 0, .int 0, .ref a10, .int 0, .int 0, .ref a11, .int 0, .int 0, .ref a12, .ref a1, .ref a13, .ref a14, .int 0, .int 0, .ref a15, .ref a16, .ref a17, .ref a18, .ref a19, .int 0, .ref a20, .ref a21, .int 0, .int 0, .ref a22, .ref a23, .ref a24, .ref a25, .ref a26, .int (-1), .ref a27, .ref a28, .ref a29, .ref a30, .ref a31, .ref a32, .ref a33], zi G a1 49 (fun _ => 0)] sz)) 0 0 (va_A [zo a0 10 [.int 0, .ref a2, .int 0, .ref a3, .int 0, .ref a4, .ref a5, .ref a6, .ref a7, .ref a8, .int 0, .int 0, .int 0, .int 0, .int 0, .int 0, .int (-1), .int 0, .ref a9, .int 0, .int 0, .ref a10, .int 0, .int 0, .ref a11, .int 0, .int 0, .ref a12, .ref a1, .ref a13, .ref a14, .int 0, .int 0, .ref a15, .ref a16, .ref a17, .ref a18, .ref a19, .int 0, .ref a20, .ref a21, .int 0, .int 0, .ref a22, .ref a23, .ref a24, .ref a25, .ref a26, .int (-1), .ref a27, .ref a28, .ref a29, .ref a30, .ref a31, .ref a32, .ref a33], zi G a1 49 (fun _ => 0)] sz) := by
  refine z_start (QA := (fun A => va_Qi (fun (r : Int32) (_ : Unit) => r = 0) (fun (_ : Unit) t => zQ G [zo a0 10 [.int 0, .ref a2, .int 0, .ref a3, .int 0, .ref a4, .ref a5, .ref a6, .ref a7, .ref a8, .int 0, .int 0, .int 0, .int 0, .int 0, .int 0, .int (-1), .int 0, .ref a9, .int 0, .int 0, .ref a10, .int 0, .int 0, .ref a11, .int 0, .int 0, .ref a12, .ref a1, .ref a13, .ref a14, .int 0, .int 0, .ref a15, .ref a16, .ref a17, .ref a18, .ref a19, .int 0, .ref a20, .ref a21, .int 0, .int 0, .ref a22, .ref a23, .ref a24, .ref a25, .ref a26, .int (-1), .ref a27, .ref a28, .ref a29, .ref a30, .ref a31, .ref a32, .ref a33], zi G a1 49 (fun _ => 0)] A t) A)) (by decide) ⟨Nat.le_of_ble_eq_true rfl, trivial⟩ ?_
  intro p e s m below meth c A ls E B hr hlocks hin hl
  have hl : lv_has ls 5 [(0, .ref a0)] := hl
  have B : zB G A s.heap [zo a0 10 [.int 0, .ref a2, .int 0, .ref a3, .int 0, .ref a4, .ref a5, .ref a6, .ref a7, .ref a8, .int 0, .int 0, .int 0, .int 0, .int 0, .int 0, .int (-1), .int 0, .ref a9, .int 0, .int 0, .ref a10, .int 0, .int 0, .ref a11, .int 0, .int 0, .ref a12, .ref a1, .ref a13, .ref a14, .int 0, .int 0, .ref a15, .ref a16, .ref a17, .ref a18, .ref a19, .int 0, .ref a20, .ref a21, .int 0, .int 0, .ref a22, .ref a23, .ref a24, .ref a25, .ref a26, .int (-1), .ref a27, .ref a28, .ref a29, .ref a30, .ref a31, .ref a32, .ref a33], zi G a1 49 (fun _ => 0)] s.heap [] := B
  refine lv_iconst (v := 0) E.x E.b dX12_agreeing_0 (by decide) ?_
  refine lv_istore_n (lv' := [(1, .int 0), (0, .ref a0)]) E.x E.b dX12_agreeing_1 rfl hl (by decide) rfl (fun ls hl => ?_)
  refine lv_iconst (v := 0) E.x E.b dX12_agreeing_2 (by decide) ?_
  refine lv_istore_n (lv' := [(2, .int 0), (1, .int 0), (0, .ref a0)]) E.x E.b dX12_agreeing_3 rfl hl (by decide) rfl (fun ls hl => ?_)
  refine lv_iload_n E.x E.b dX12_agreeing_4 rfl (lv_at hl 0 rfl) ?_
  refine lv_aload_n E.x E.b dX12_agreeing_5 rfl (lv_at hl 2 rfl) ?_
  refine z_calli E B (wc := [zo a0 10 [.int 0, .ref a2, .int 0, .ref a3, .int 0, .ref a4, .ref a5, .ref a6, .ref a7, .ref a8, .int 0, .int 0, .int 0, .int 0, .int 0, .int 0, .int (-1), .int 0, .ref a9, .int 0, .int 0, .ref a10, .int 0, .int 0, .ref a11, .int 0, .int 0, .ref a12, .ref a1, .ref a13, .ref a14, .int 0, .int 0, .ref a15, .ref a16, .ref a17, .ref a18, .ref a19, .int 0, .ref a20, .ref a21, .int 0, .int 0, .ref a22, .ref a23, .ref a24, .ref a25, .ref a26, .int (-1), .ref a27, .ref a28, .ref a29, .ref a30, .ref a31, .ref a32, .ref a33], zi G a1 49 (fun _ => 0)]) (wr := []) [0, 1] [] rfl rfl (by decide) (by decide) (z_runV E B (As := []) (rest := [.int 0]) [0, 1] rfl (by decide) mv_X12_gates t_1454 0 (ci := 10) rfl rfl rfl (c_X12_gates_160 l G _ a0 a1 a2 a3 a4 a5 a6 a7 a8 a9 a10 a11 a12 a13 a14 a15 a16 a17 a18 a19 a20 a21 a22 a23 a24 a25 a26 a27 a28 a29 a30 a31 a32 a33) rfl rfl ⟨Nat.le_of_ble_eq_true rfl, Nat.le_of_ble_eq_true rfl⟩ rfl hl.1 rfl (Nat.le_of_ble_eq_true rfl) dX12_agreeing_6 ⟨(Nat.le_of_ble_eq_true rfl), (Nat.le_of_ble_eq_true rfl)⟩) (fun r t H locs hp hB J => ?_)
  have hq := hB
  have B := J _ hq
  have B : zB G A s.heap [zo a0 10 [.int 0, .ref a2, .int 0, .ref a3, .int 0, .ref a4, .ref a5, .ref a6, .ref a7, .ref a8, .int 0, .int 0, .int 0, .int 0, .int 0, .int 0, .int (-1), .int 0, .ref a9, .int 0, .int 0, .ref a10, .int 0, .int 0, .ref a11, .int 0, .int 0, .ref a12, .ref a1, .ref a13, .ref a14, .int 0, .int 0, .ref a15, .ref a16, .ref a17, .ref a18, .ref a19, .int 0, .ref a20, .ref a21, .int 0, .int 0, .ref a22, .ref a23, .ref a24, .ref a25, .ref a26, .int (-1), .ref a27, .ref a28, .ref a29, .ref a30, .ref a31, .ref a32, .ref a33], zi G a1 49 (fun _ => 0)] _ _ := B
  have hp := hp.symm
  subst hp
  refine lv_icmp_ge (tgt := 64) E.x E.b dX12_agreeing_9 (by decide) (fun _ => ?_) (fun c => absurd (by decide +kernel) c)
  refine lv_iload_n E.x E.b dX12_agreeing_64 rfl (lv_at hl 1 rfl) ?_
  refine W.widen (k := 0) (n := 0) (Nat.le_of_ble_eq_true rfl) (Nat.le_of_ble_eq_true rfl) ?_
  exact z_iret E hr hlocks B (v := 0) rfl (fun t ht => z_q B [0, 1] (by decide) rfl ht) dX12_agreeing_65
set_option maxHeartbeats 4000000 in
set_option maxRecDepth 100000 in
theorem c_X12_seeing_229 (l : Launch) (G : zGT) (sz : Nat) (a0 a1 a2 a3 a4 a5 a6 a7 a8 a9 a10 a11 a12 a13 a14 a15 a16 a17 a18 a19 a20 a21 a22 a23 a24 a25 a26 a27 a28 a29 a30 a31 a32 a33 : Nat) : Met l yX12_seeing (.code yX12_seeing cX12_seeing 3 (some .int) :: zT) ({ frames := 1, cells := 0, slots := 0, locals := 87 }) (va_Pc [.ref a0] (zPc G [zo a0 10 [.int 0, .ref a1, .int 0, .ref a2, .int 0, .ref a3, .ref a4, .ref a5, .ref a6, .ref a7, .int 0, .int 0, .int 0, .int 0, .int 0, .int 0, .int (-1), .int 0, .ref a8, .int 0, .int 0, .ref a9, .int 0, .int 0, .ref a10, .int 0, .int 0, .ref a11, .ref a12, .ref a13, .ref a14, .int 0, .int 0, .ref a15, .ref a16, .ref a17, .ref a18, .ref a19, .int 0, .ref a20, .ref a21, .int 0, .int 0, .ref a22, .ref a23, .ref a24, .ref a25, .ref a26, .int (-1), .ref a27, .ref a28, .ref a29, .ref a30, .ref a31, .ref a32, .ref a33]] sz)) ((fun A => va_Qi (fun (r : Int32) (_ : Unit) => r = 0) (fun (_ : Unit) t => zQ G [zo a0 10 [.int 0, .ref a1, .int 0, .ref a2, .int 0, .ref a3, .ref a4, .ref a5, .ref a6, .ref a7, .int 0, .int 0, .int 0, .int 0, .int 0, .int 0, .int (-1), .int 0, .ref a8, .int 0, .int 0, .ref a9, .int 0, .int 0, .ref a10, .int 0, .int 0, .ref a11, .ref a12, .ref a13, .ref a14, .int 0, .int 0, .ref a15, .ref a16, .ref a17, .ref a18, .ref a19, .int 0, .ref a20, .ref a21, .int 0, .int 0, .ref a22, .ref a23, .ref a24, .ref a25, .ref a26, .int (-1), .ref a27, .ref a28, .ref a29, .ref a30, .ref a31, .ref a32, .ref a33]] A t) A) (va_A [zo a0 10 [.int 0, .ref a1, .int 0, .ref a2, .int 0, .ref a3, .ref a4, .ref a5, .ref a6, .ref a7, .int 0, .int 0, .int 0, .int 0, .int 0, .int 0, .int (-1), .int 0, .ref a8, .int 0, .int 0, .ref a9, .int 0, .int 0, .ref a10, .int 0, .int 0, .ref a11, .ref a12, .ref a13, .ref a14, .int 0, .int 0, .ref a15, .ref a16, .ref a17, .ref a18, .ref a19, .int 0, .ref a20, .ref a21, .int 0, .int 0, .ref a22, .ref a23, .ref a24, .ref a25, .ref a26, .int (-1), .ref a27, .ref a28, .ref a29, .ref a30, .ref a31, .ref a32, .ref a33]] sz)) 0 0 (va_A [zo a0 10 [.int 0, .ref a1, .int 0, .ref a2, .int 0, .ref a3, .ref a4, .ref a5, .ref a6, .ref a7, .int 0, .int 0, .int 0, .int 0, .int 0, .int 0, .int (-1), .int 0, .ref a8, .int 0, .int 0, .ref a9, .int 0, .int 0, .ref a10, .int 0, .int 0, .ref a11, .ref a12, .ref a13, .ref a14, .int 0, .int 0, .ref a15, .ref a16, .ref a17, .ref a18, .ref a19, .int 0, .ref a20, .ref a21, .int 0, .int 0, .ref a22, .ref a23, .ref a24, .ref a25, .ref a26, .int (-1), .ref a27, .ref a28, .ref a29, .ref a30, .ref a31, .ref a32, .ref a33]] sz) := by
  refine z_start (QA := (fun A => va_Qi (fun (r : Int32) (_ : Unit) => r = 0) (fun (_ : Unit) t => zQ G [zo a0 10 [.int 0, .ref a1, .int 0, .ref a2, .int 0, .ref a3, .ref a4, .ref a5, .ref a6, .ref a7, .int 0, .int 0, .int 0, .int 0, .int 0, .int 0, .int (-1), .int 0, .ref a8, .int 0, .int 0, .ref a9, .int 0, .int 0, .ref a10, .int 0, .int 0, .ref a11, .ref a12, .ref a13, .ref a14, .int 0, .int 0, .ref a15, .ref a16, .ref a17, .ref a18, .ref a19, .int 0, .ref a20, .ref a21, .int 0, .int 0, .ref a22, .ref a23, .ref a24, .ref a25, .ref a26, .int (-1), .ref a27, .ref a28, .ref a29, .ref a30, .ref a31, .ref a32, .ref a33]] A t) A)) (by decide) ⟨Nat.le_of_ble_eq_true rfl, trivial⟩ ?_
  intro p e s m below meth c A ls E B hr hlocks hin hl
  have hl : lv_has ls 3 [(0, .ref a0)] := hl
  have B : zB G A s.heap [zo a0 10 [.int 0, .ref a1, .int 0, .ref a2, .int 0, .ref a3, .ref a4, .ref a5, .ref a6, .ref a7, .int 0, .int 0, .int 0, .int 0, .int 0, .int 0, .int (-1), .int 0, .ref a8, .int 0, .int 0, .ref a9, .int 0, .int 0, .ref a10, .int 0, .int 0, .ref a11, .ref a12, .ref a13, .ref a14, .int 0, .int 0, .ref a15, .ref a16, .ref a17, .ref a18, .ref a19, .int 0, .ref a20, .ref a21, .int 0, .int 0, .ref a22, .ref a23, .ref a24, .ref a25, .ref a26, .int (-1), .ref a27, .ref a28, .ref a29, .ref a30, .ref a31, .ref a32, .ref a33]] s.heap [] := B
  refine lv_iconst (v := 0) E.x E.b dX12_seeing_0 (by decide) ?_
  refine lv_istore_n (lv' := [(1, .int 0), (0, .ref a0)]) E.x E.b dX12_seeing_1 rfl hl (by decide) rfl (fun ls hl => ?_)
  refine lv_iconst (v := 0) E.x E.b dX12_seeing_2 (by decide) ?_
  refine lv_istore_n (lv' := [(2, .int 0), (1, .int 0), (0, .ref a0)]) E.x E.b dX12_seeing_3 rfl hl (by decide) rfl (fun ls hl => ?_)
  refine lv_iload_n E.x E.b dX12_seeing_4 rfl (lv_at hl 0 rfl) ?_
  refine lv_aload_n E.x E.b dX12_seeing_5 rfl (lv_at hl 2 rfl) ?_
  refine z_calli E B (wc := [zo a0 10 [.int 0, .ref a1, .int 0, .ref a2, .int 0, .ref a3, .ref a4, .ref a5, .ref a6, .ref a7, .int 0, .int 0, .int 0, .int 0, .int 0, .int 0, .int (-1), .int 0, .ref a8, .int 0, .int 0, .ref a9, .int 0, .int 0, .ref a10, .int 0, .int 0, .ref a11, .ref a12, .ref a13, .ref a14, .int 0, .int 0, .ref a15, .ref a16, .ref a17, .ref a18, .ref a19, .int 0, .ref a20, .ref a21, .int 0, .int 0, .ref a22, .ref a23, .ref a24, .ref a25, .ref a26, .int (-1), .ref a27, .ref a28, .ref a29, .ref a30, .ref a31, .ref a32, .ref a33]]) (wr := []) [0] [] rfl rfl (by decide) (by decide) (z_runV E B (As := []) (rest := [.int 0]) [0] rfl (by decide) mv_X12_rows t_1462 0 (ci := 10) rfl rfl rfl (c_X12_rows_168 l G _ a0 a1 a2 a3 a4 a5 a6 a7 a8 a9 a10 a11 a12 a13 a14 a15 a16 a17 a18 a19 a20 a21 a22 a23 a24 a25 a26 a27 a28 a29 a30 a31 a32 a33) rfl rfl ⟨Nat.le_of_ble_eq_true rfl, Nat.le_of_ble_eq_true rfl⟩ rfl hl.1 rfl (Nat.le_of_ble_eq_true rfl) dX12_seeing_6 ⟨(Nat.le_of_ble_eq_true rfl), (Nat.le_of_ble_eq_true rfl)⟩) (fun r t H locs hp hB J => ?_)
  have hq := hB
  have B := J _ hq
  have B : zB G A s.heap [zo a0 10 [.int 0, .ref a1, .int 0, .ref a2, .int 0, .ref a3, .ref a4, .ref a5, .ref a6, .ref a7, .int 0, .int 0, .int 0, .int 0, .int 0, .int 0, .int (-1), .int 0, .ref a8, .int 0, .int 0, .ref a9, .int 0, .int 0, .ref a10, .int 0, .int 0, .ref a11, .ref a12, .ref a13, .ref a14, .int 0, .int 0, .ref a15, .ref a16, .ref a17, .ref a18, .ref a19, .int 0, .ref a20, .ref a21, .int 0, .int 0, .ref a22, .ref a23, .ref a24, .ref a25, .ref a26, .int (-1), .ref a27, .ref a28, .ref a29, .ref a30, .ref a31, .ref a32, .ref a33]] _ _ := B
  have hp := hp.symm
  subst hp
  refine lv_icmp_ge (tgt := 32) E.x E.b dX12_seeing_9 (by decide) (fun c => absurd c (by decide +kernel)) (fun _ => ?_)
  refine lv_aload_n E.x E.b dX12_seeing_12 rfl (lv_at hl 2 rfl) ?_
  refine lv_iload_n E.x E.b dX12_seeing_13 rfl (lv_at hl 0 rfl) ?_
  refine z_calli E B (wc := [zo a0 10 [.int 0, .ref a1, .int 0, .ref a2, .int 0, .ref a3, .ref a4, .ref a5, .ref a6, .ref a7, .int 0, .int 0, .int 0, .int 0, .int 0, .int 0, .int (-1), .int 0, .ref a8, .int 0, .int 0, .ref a9, .int 0, .int 0, .ref a10, .int 0, .int 0, .ref a11, .ref a12, .ref a13, .ref a14, .int 0, .int 0, .ref a15, .ref a16, .ref a17, .ref a18, .ref a19, .int 0, .ref a20, .ref a21, .int 0, .int 0, .ref a22, .ref a23, .ref a24, .ref a25, .ref a26, .int (-1), .ref a27, .ref a28, .ref a29, .ref a30, .ref a31, .ref a32, .ref a33]]) (wr := []) [0] [] rfl rfl (by decide) (by decide) (z_runV E B (As := [.int 0]) (rest := []) [0] rfl (by decide) mv_X12_seenBy t_1677 0 (ci := 10) rfl rfl rfl (c_X12_seenBy_212 l G _ a0 a1 a2 a3 a4 a5 a6 a7 a8 a9 a10 a11 a12 a13 a14 a15 a16 a17 a18 a19 a20 a21 a22 a23 a24 a25 a26 a27 a28 a29 a30 a31 a32 a33) rfl rfl ⟨Nat.le_of_ble_eq_true rfl, Nat.le_of_ble_eq_true rfl⟩ rfl hl.1 rfl (Nat.le_of_ble_eq_true rfl) dX12_seeing_14 ⟨(Nat.le_of_ble_eq_true rfl), (Nat.le_of_ble_eq_true rfl)⟩) (fun r t H locs hp hB J => ?_)
  have hq := hB
  have B := J _ hq
  have B : zB G A s.heap [zo a0 10 [.int 0, .ref a1, .int 0, .ref a2, .int 0, .ref a3, .ref a4, .ref a5, .ref a6, .ref a7, .int 0, .int 0, .int 0, .int 0, .int 0, .int 0, .int (-1), .int 0, .ref a8, .int 0, .int 0, .ref a9, .int 0, .int 0, .ref a10, .int 0, .int 0, .ref a11, .ref a12, .ref a13, .ref a14, .int 0, .int 0, .ref a15, .ref a16, .ref a17, .ref a18, .ref a19, .int 0, .ref a20, .ref a21, .int 0, .int 0, .ref a22, .ref a23, .ref a24, .ref a25, .ref a26, .int (-1), .ref a27, .ref a28, .ref a29, .ref a30, .ref a31, .ref a32, .ref a33]] _ _ := B
  have hp := hp.symm
  subst hp
  refine lv_if_eq (tgt := 26) E.x E.b dX12_seeing_17 (by decide) (fun _ => ?_) (fun c => absurd (by decide +kernel) c)
  refine lv_iinc (v := 1) (lv' := [(2, .int 1), (1, .int 0), (0, .ref a0)]) E.x E.b dX12_seeing_26 hl (k := 0) rfl (by decide +kernel) (by decide) rfl (fun ls hl => ?_)
  refine lv_goto (tgt := 4) E.x E.b dX12_seeing_29 (by decide) ?_
  refine lv_iload_n E.x E.b dX12_seeing_4 rfl (lv_at hl 0 rfl) ?_
  refine lv_aload_n E.x E.b dX12_seeing_5 rfl (lv_at hl 2 rfl) ?_
  refine z_calli E B (wc := [zo a0 10 [.int 0, .ref a1, .int 0, .ref a2, .int 0, .ref a3, .ref a4, .ref a5, .ref a6, .ref a7, .int 0, .int 0, .int 0, .int 0, .int 0, .int 0, .int (-1), .int 0, .ref a8, .int 0, .int 0, .ref a9, .int 0, .int 0, .ref a10, .int 0, .int 0, .ref a11, .ref a12, .ref a13, .ref a14, .int 0, .int 0, .ref a15, .ref a16, .ref a17, .ref a18, .ref a19, .int 0, .ref a20, .ref a21, .int 0, .int 0, .ref a22, .ref a23, .ref a24, .ref a25, .ref a26, .int (-1), .ref a27, .ref a28, .ref a29, .ref a30, .ref a31, .ref a32, .ref a33]]) (wr := []) [0] [] rfl rfl (by decide) (by decide) (z_runV E B (As := []) (rest := [.int 1]) [0] rfl (by decide) mv_X12_rows t_1462 0 (ci := 10) rfl rfl rfl (c_X12_rows_168 l G _ a0 a1 a2 a3 a4 a5 a6 a7 a8 a9 a10 a11 a12 a13 a14 a15 a16 a17 a18 a19 a20 a21 a22 a23 a24 a25 a26 a27 a28 a29 a30 a31 a32 a33) rfl rfl ⟨Nat.le_of_ble_eq_true rfl, Nat.le_of_ble_eq_true rfl⟩ rfl hl.1 rfl (Nat.le_of_ble_eq_true rfl) dX12_seeing_6 ⟨(Nat.le_of_ble_eq_true rfl), (Nat.le_of_ble_eq_true rfl)⟩) (fun r t H locs hp hB J => ?_)
  have hq := hB
  have B := J _ hq
  have B : zB G A s.heap [zo a0 10 [.int 0, .ref a1, .int 0, .ref a2, .int 0, .ref a3, .ref a4, .ref a5, .ref a6, .ref a7, .int 0, .int 0, .int 0, .int 0, .int 0, .int 0, .int (-1), .int 0, .ref a8, .int 0, .int 0, .ref a9, .int 0, .int 0, .ref a10, .int 0, .int 0, .ref a11, .ref a12, .ref a13, .ref a14, .int 0, .int 0, .ref a15, .ref a16, .ref a17, .ref a18, .ref a19, .int 0, .ref a20, .ref a21, .int 0, .int 0, .ref a22, .ref a23, .ref a24, .ref a25, .ref a26, .int (-1), .ref a27, .ref a28, .ref a29, .ref a30, .ref a31, .ref a32, .ref a33]] _ _ := B
  have hp := hp.symm
  subst hp
  refine lv_icmp_ge (tgt := 32) E.x E.b dX12_seeing_9 (by decide) (fun _ => ?_) (fun c => absurd (by decide +kernel) c)
  refine lv_iload_n E.x E.b dX12_seeing_32 rfl (lv_at hl 1 rfl) ?_
  refine W.widen (k := 0) (n := 0) (Nat.le_of_ble_eq_true rfl) (Nat.le_of_ble_eq_true rfl) ?_
  exact z_iret E hr hlocks B (v := 0) rfl (fun t ht => z_q B [0] (by decide) rfl ht) dX12_seeing_33
set_option maxHeartbeats 4000000 in
set_option maxRecDepth 100000 in
theorem c_X12_degree_230 (l : Launch) (G : zGT) (sz : Nat) (a0 a1 a2 a3 a4 a5 a6 a7 a8 a9 a10 a11 a12 a13 a14 a15 a16 a17 a18 a19 a20 a21 a22 a23 a24 a25 a26 a27 a28 a29 a30 a31 a32 a33 : Nat) : Met l yX12_degree (.code yX12_degree cX12_degree 5 (some .int) :: zT) ({ frames := 0, cells := 0, slots := 0, locals := 64 }) (va_Pc [.ref a0] (zPc G [zo a0 10 [.int 0, .ref a1, .int 0, .ref a2, .int 0, .ref a3, .ref a4, .ref a5, .ref a6, .ref a7, .int 0, .int 0, .int 0, .int 0, .int 0, .int 0, .int (-1), .int 0, .ref a8, .int 0, .int 0, .ref a9, .int 0, .int 0, .ref a10, .int 0, .int 0, .ref a11, .ref a12, .ref a13, .ref a14, .int 0, .int 0, .ref a15, .ref a16, .ref a17, .ref a18, .ref a19, .int 0, .ref a20, .ref a21, .int 0, .int 0, .ref a22, .ref a23, .ref a24, .ref a25, .ref a26, .int (-1), .ref a27, .ref a28, .ref a29, .ref a30, .ref a31, .ref a32, .ref a33]] sz)) ((fun A => va_Qi (fun (r : Int32) (_ : Unit) => r = 0) (fun (_ : Unit) t => zQ G [zo a0 10 [.int 0, .ref a1, .int 0, .ref a2, .int 0, .ref a3, .ref a4, .ref a5, .ref a6, .ref a7, .int 0, .int 0, .int 0, .int 0, .int 0, .int 0, .int (-1), .int 0, .ref a8, .int 0, .int 0, .ref a9, .int 0, .int 0, .ref a10, .int 0, .int 0, .ref a11, .ref a12, .ref a13, .ref a14, .int 0, .int 0, .ref a15, .ref a16, .ref a17, .ref a18, .ref a19, .int 0, .ref a20, .ref a21, .int 0, .int 0, .ref a22, .ref a23, .ref a24, .ref a25, .ref a26, .int (-1), .ref a27, .ref a28, .ref a29, .ref a30, .ref a31, .ref a32, .ref a33]] A t) A) (va_A [zo a0 10 [.int 0, .ref a1, .int 0, .ref a2, .int 0, .ref a3, .ref a4, .ref a5, .ref a6, .ref a7, .int 0, .int 0, .int 0, .int 0, .int 0, .int 0, .int (-1), .int 0, .ref a8, .int 0, .int 0, .ref a9, .int 0, .int 0, .ref a10, .int 0, .int 0, .ref a11, .ref a12, .ref a13, .ref a14, .int 0, .int 0, .ref a15, .ref a16, .ref a17, .ref a18, .ref a19, .int 0, .ref a20, .ref a21, .int 0, .int 0, .ref a22, .ref a23, .ref a24, .ref a25, .ref a26, .int (-1), .ref a27, .ref a28, .ref a29, .ref a30, .ref a31, .ref a32, .ref a33]] sz)) 0 0 (va_A [zo a0 10 [.int 0, .ref a1, .int 0, .ref a2, .int 0, .ref a3, .ref a4, .ref a5, .ref a6, .ref a7, .int 0, .int 0, .int 0, .int 0, .int 0, .int 0, .int (-1), .int 0, .ref a8, .int 0, .int 0, .ref a9, .int 0, .int 0, .ref a10, .int 0, .int 0, .ref a11, .ref a12, .ref a13, .ref a14, .int 0, .int 0, .ref a15, .ref a16, .ref a17, .ref a18, .ref a19, .int 0, .ref a20, .ref a21, .int 0, .int 0, .ref a22, .ref a23, .ref a24, .ref a25, .ref a26, .int (-1), .ref a27, .ref a28, .ref a29, .ref a30, .ref a31, .ref a32, .ref a33]] sz) := by
  refine z_start (QA := (fun A => va_Qi (fun (r : Int32) (_ : Unit) => r = 0) (fun (_ : Unit) t => zQ G [zo a0 10 [.int 0, .ref a1, .int 0, .ref a2, .int 0, .ref a3, .ref a4, .ref a5, .ref a6, .ref a7, .int 0, .int 0, .int 0, .int 0, .int 0, .int 0, .int (-1), .int 0, .ref a8, .int 0, .int 0, .ref a9, .int 0, .int 0, .ref a10, .int 0, .int 0, .ref a11, .ref a12, .ref a13, .ref a14, .int 0, .int 0, .ref a15, .ref a16, .ref a17, .ref a18, .ref a19, .int 0, .ref a20, .ref a21, .int 0, .int 0, .ref a22, .ref a23, .ref a24, .ref a25, .ref a26, .int (-1), .ref a27, .ref a28, .ref a29, .ref a30, .ref a31, .ref a32, .ref a33]] A t) A)) (by decide) ⟨Nat.le_of_ble_eq_true rfl, trivial⟩ ?_
  intro p e s m below meth c A ls E B hr hlocks hin hl
  have hl : lv_has ls 5 [(0, .ref a0)] := hl
  have B : zB G A s.heap [zo a0 10 [.int 0, .ref a1, .int 0, .ref a2, .int 0, .ref a3, .ref a4, .ref a5, .ref a6, .ref a7, .int 0, .int 0, .int 0, .int 0, .int 0, .int 0, .int (-1), .int 0, .ref a8, .int 0, .int 0, .ref a9, .int 0, .int 0, .ref a10, .int 0, .int 0, .ref a11, .ref a12, .ref a13, .ref a14, .int 0, .int 0, .ref a15, .ref a16, .ref a17, .ref a18, .ref a19, .int 0, .ref a20, .ref a21, .int 0, .int 0, .ref a22, .ref a23, .ref a24, .ref a25, .ref a26, .int (-1), .ref a27, .ref a28, .ref a29, .ref a30, .ref a31, .ref a32, .ref a33]] s.heap [] := B
  refine lv_iconst (v := 0) E.x E.b dX12_degree_0 (by decide) ?_
  refine lv_istore_n (lv' := [(1, .int 0), (0, .ref a0)]) E.x E.b dX12_degree_1 rfl hl (by decide) rfl (fun ls hl => ?_)
  refine lv_iconst (v := 0) E.x E.b dX12_degree_2 (by decide) ?_
  refine lv_istore_n (lv' := [(2, .int 0), (1, .int 0), (0, .ref a0)]) E.x E.b dX12_degree_3 rfl hl (by decide) rfl (fun ls hl => ?_)
  refine lv_iload_n E.x E.b dX12_degree_4 rfl (lv_at hl 0 rfl) ?_
  refine lv_aload_n E.x E.b dX12_degree_5 rfl (lv_at hl 2 rfl) ?_
  refine z_get E B z_inX12 (ci := 10) rfl 17 (by decide) t_1209 0 rfl rfl dX12_degree_6 ?_
  refine lv_icmp_ge (tgt := 66) E.x E.b dX12_degree_9 (by decide) (fun _ => ?_) (fun c => absurd (by decide +kernel) c)
  refine lv_iload_n E.x E.b dX12_degree_66 rfl (lv_at hl 1 rfl) ?_
  refine W.widen (k := 0) (n := 0) (Nat.le_of_ble_eq_true rfl) (Nat.le_of_ble_eq_true rfl) ?_
  exact z_iret E hr hlocks B (v := 0) rfl (fun t ht => z_q B [0] (by decide) rfl ht) dX12_degree_67
set_option maxHeartbeats 4000000 in
set_option maxRecDepth 100000 in
theorem c_X12_sorts_231 (l : Launch) (G : zGT) (sz : Nat) (a0 a1 a2 a3 a4 a5 a6 a7 a8 a9 a10 a11 a12 a13 a14 a15 a16 a17 a18 a19 a20 a21 a22 a23 a24 a25 a26 a27 a28 a29 a30 a31 a32 a33 : Nat) : Met l yX12_sorts (.code yX12_sorts cX12_sorts 5 (some .int) :: zT) ({ frames := 1, cells := 0, slots := 0, locals := 84 }) (va_Pc [.ref a0] (zPc G [zo a0 10 [.int 0, .ref a2, .int 0, .ref a3, .int 0, .ref a4, .ref a5, .ref a6, .ref a7, .ref a8, .int 0, .int 0, .int 0, .int 0, .int 0, .int 0, .int (-1), .int 0, .ref a9, .int 0, .int 0, .ref a10, .int 0, .int 0, .ref a11, .int 0, .int 0, .ref a12, .ref a1, .ref a13, .ref a14, .int 0, .int 0, .ref a15, .ref a16, .ref a17, .ref a18, .ref a19, .int 0, .ref a20, .ref a21, .int 0, .int 0, .ref a22, .ref a23, .ref a24, .ref a25, .ref a26, .int (-1), .ref a27, .ref a28, .ref a29, .ref a30, .ref a31, .ref a32, .ref a33], zi G a1 49 (fun _ => 0)] sz)) ((fun A => va_Qi (fun (r : Int32) (_ : Unit) => r = 0) (fun (_ : Unit) t => zQ G [zo a0 10 [.int 0, .ref a2, .int 0, .ref a3, .int 0, .ref a4, .ref a5, .ref a6, .ref a7, .ref a8, .int 0, .int 0, .int 0, .int 0, .int 0, .int 0, .int (-1), .int 0, .ref a9, .int 0, .int 0, .ref a10, .int 0, .int 0, .ref a11, .int 0, .int 0, .ref a12, .ref a1, .ref a13, .ref a14, .int 0, .int 0, .ref a15, .ref a16, .ref a17, .ref a18, .ref a19, .int 0, .ref a20, .ref a21, .int 0, .int 0, .ref a22, .ref a23, .ref a24, .ref a25, .ref a26, .int (-1), .ref a27, .ref a28, .ref a29, .ref a30, .ref a31, .ref a32, .ref a33], zi G a1 49 (fun _ => 0)] A t) A) (va_A [zo a0 10 [.int 0, .ref a2, .int 0, .ref a3, .int 0, .ref a4, .ref a5, .ref a6, .ref a7, .ref a8, .int 0, .int 0, .int 0, .int 0, .int 0, .int 0, .int (-1), .int 0, .ref a9, .int 0, .int 0, .ref a10, .int 0, .int 0, .ref a11, .int 0, .int 0, .ref a12, .ref a1, .ref a13, .ref a14, .int 0, .int 0, .ref a15, .ref a16, .ref a17, .ref a18, .ref a19, .int 0, .ref a20, .ref a21, .int 0, .int 0, .ref a22, .ref a23, .ref a24, .ref a25, .ref a26, .int (-1), .ref a27, .ref a28, .ref a29, .ref a30, .ref a31, .ref a32, .ref a33], zi G a1 49 (fun _ => 0)] sz)) 0 0 (va_A [zo a0 10 [.int 0, .ref a2, .int 0, .ref a3, .int 0, .ref a4, .ref a5, .ref a6, .ref a7, .ref a8, .int 0, .int 0, .int 0, .int 0, .int 0, .int 0, .int (-1), .int 0, .ref a9, .int 0, .int 0, .ref a10, .int 0, .int 0, .ref a11, .int 0, .int 0, .ref a12, .ref a1, .ref a13, .ref a14, .int 0, .int 0, .ref a15, .ref a16, .ref a17, .ref a18, .ref a19, .int 0, .ref a20, .ref a21, .int 0, .int 0, .ref a22, .ref a23, .ref a24, .ref a25, .ref a26, .int (-1), .ref a27, .ref a28, .ref a29, .ref a30, .ref a31, .ref a32, .ref a33], zi G a1 49 (fun _ => 0)] sz) := by
  refine z_start (QA := (fun A => va_Qi (fun (r : Int32) (_ : Unit) => r = 0) (fun (_ : Unit) t => zQ G [zo a0 10 [.int 0, .ref a2, .int 0, .ref a3, .int 0, .ref a4, .ref a5, .ref a6, .ref a7, .ref a8, .int 0, .int 0, .int 0, .int 0, .int 0, .int 0, .int (-1), .int 0, .ref a9, .int 0, .int 0, .ref a10, .int 0, .int 0, .ref a11, .int 0, .int 0, .ref a12, .ref a1, .ref a13, .ref a14, .int 0, .int 0, .ref a15, .ref a16, .ref a17, .ref a18, .ref a19, .int 0, .ref a20, .ref a21, .int 0, .int 0, .ref a22, .ref a23, .ref a24, .ref a25, .ref a26, .int (-1), .ref a27, .ref a28, .ref a29, .ref a30, .ref a31, .ref a32, .ref a33], zi G a1 49 (fun _ => 0)] A t) A)) (by decide) ⟨Nat.le_of_ble_eq_true rfl, trivial⟩ ?_
  intro p e s m below meth c A ls E B hr hlocks hin hl
  have hl : lv_has ls 5 [(0, .ref a0)] := hl
  have B : zB G A s.heap [zo a0 10 [.int 0, .ref a2, .int 0, .ref a3, .int 0, .ref a4, .ref a5, .ref a6, .ref a7, .ref a8, .int 0, .int 0, .int 0, .int 0, .int 0, .int 0, .int (-1), .int 0, .ref a9, .int 0, .int 0, .ref a10, .int 0, .int 0, .ref a11, .int 0, .int 0, .ref a12, .ref a1, .ref a13, .ref a14, .int 0, .int 0, .ref a15, .ref a16, .ref a17, .ref a18, .ref a19, .int 0, .ref a20, .ref a21, .int 0, .int 0, .ref a22, .ref a23, .ref a24, .ref a25, .ref a26, .int (-1), .ref a27, .ref a28, .ref a29, .ref a30, .ref a31, .ref a32, .ref a33], zi G a1 49 (fun _ => 0)] s.heap [] := B
  refine lv_iconst (v := 0) E.x E.b dX12_sorts_0 (by decide) ?_
  refine lv_istore_n (lv' := [(1, .int 0), (0, .ref a0)]) E.x E.b dX12_sorts_1 rfl hl (by decide) rfl (fun ls hl => ?_)
  refine lv_iconst (v := 0) E.x E.b dX12_sorts_2 (by decide) ?_
  refine lv_istore_n (lv' := [(2, .int 0), (1, .int 0), (0, .ref a0)]) E.x E.b dX12_sorts_3 rfl hl (by decide) rfl (fun ls hl => ?_)
  refine lv_iload_n E.x E.b dX12_sorts_4 rfl (lv_at hl 0 rfl) ?_
  refine lv_aload_n E.x E.b dX12_sorts_5 rfl (lv_at hl 2 rfl) ?_
  refine z_calli E B (wc := [zo a0 10 [.int 0, .ref a2, .int 0, .ref a3, .int 0, .ref a4, .ref a5, .ref a6, .ref a7, .ref a8, .int 0, .int 0, .int 0, .int 0, .int 0, .int 0, .int (-1), .int 0, .ref a9, .int 0, .int 0, .ref a10, .int 0, .int 0, .ref a11, .int 0, .int 0, .ref a12, .ref a1, .ref a13, .ref a14, .int 0, .int 0, .ref a15, .ref a16, .ref a17, .ref a18, .ref a19, .int 0, .ref a20, .ref a21, .int 0, .int 0, .ref a22, .ref a23, .ref a24, .ref a25, .ref a26, .int (-1), .ref a27, .ref a28, .ref a29, .ref a30, .ref a31, .ref a32, .ref a33], zi G a1 49 (fun _ => 0)]) (wr := []) [0, 1] [] rfl rfl (by decide) (by decide) (z_runV E B (As := []) (rest := [.int 0]) [0, 1] rfl (by decide) mv_X12_gates t_1454 0 (ci := 10) rfl rfl rfl (c_X12_gates_160 l G _ a0 a1 a2 a3 a4 a5 a6 a7 a8 a9 a10 a11 a12 a13 a14 a15 a16 a17 a18 a19 a20 a21 a22 a23 a24 a25 a26 a27 a28 a29 a30 a31 a32 a33) rfl rfl ⟨Nat.le_of_ble_eq_true rfl, Nat.le_of_ble_eq_true rfl⟩ rfl hl.1 rfl (Nat.le_of_ble_eq_true rfl) dX12_sorts_6 ⟨(Nat.le_of_ble_eq_true rfl), (Nat.le_of_ble_eq_true rfl)⟩) (fun r t H locs hp hB J => ?_)
  have hq := hB
  have B := J _ hq
  have B : zB G A s.heap [zo a0 10 [.int 0, .ref a2, .int 0, .ref a3, .int 0, .ref a4, .ref a5, .ref a6, .ref a7, .ref a8, .int 0, .int 0, .int 0, .int 0, .int 0, .int 0, .int (-1), .int 0, .ref a9, .int 0, .int 0, .ref a10, .int 0, .int 0, .ref a11, .int 0, .int 0, .ref a12, .ref a1, .ref a13, .ref a14, .int 0, .int 0, .ref a15, .ref a16, .ref a17, .ref a18, .ref a19, .int 0, .ref a20, .ref a21, .int 0, .int 0, .ref a22, .ref a23, .ref a24, .ref a25, .ref a26, .int (-1), .ref a27, .ref a28, .ref a29, .ref a30, .ref a31, .ref a32, .ref a33], zi G a1 49 (fun _ => 0)] _ _ := B
  have hp := hp.symm
  subst hp
  refine lv_icmp_ge (tgt := 108) E.x E.b dX12_sorts_9 (by decide) (fun _ => ?_) (fun c => absurd (by decide +kernel) c)
  refine lv_iload_n E.x E.b dX12_sorts_108 rfl (lv_at hl 1 rfl) ?_
  refine W.widen (k := 0) (n := 0) (Nat.le_of_ble_eq_true rfl) (Nat.le_of_ble_eq_true rfl) ?_
  exact z_iret E hr hlocks B (v := 0) rfl (fun t ht => z_q B [0, 1] (by decide) rfl ht) dX12_sorts_109
set_option maxHeartbeats 4000000 in
set_option maxRecDepth 100000 in
theorem c_X12_count_232 (l : Launch) (G : zGT) (sz : Nat) (a0 a1 a2 a3 a4 a5 a6 a7 a8 a9 a10 a11 a12 a13 a14 a15 a16 a17 a18 a19 a20 a21 a22 a23 a24 a25 a26 a27 a28 a29 a30 a31 a32 a33 : Nat) (p0 : Int32) : Met l yX12_count (.code yX12_count cX12_count 4 (some .int) :: zT) ({ frames := 2, cells := 0, slots := 0, locals := 109 }) (va_Pc [.ref a0, .int p0] (zPc G [zo a0 10 [.int 0, .ref a4, .int 0, .ref a5, .int 0, .ref a6, .ref a7, .ref a8, .ref a9, .ref a10, .int 0, .int 0, .int 0, .int 0, .int 0, .int 0, .int (-1), .int 0, .ref a3, .int 0, .int 0, .ref a11, .int 0, .int 0, .ref a12, .int 0, .int 0, .ref a13, .ref a1, .ref a14, .ref a15, .int 0, .int 0, .ref a16, .ref a2, .ref a17, .ref a18, .ref a19, .int 0, .ref a20, .ref a21, .int 0, .int 0, .ref a22, .ref a23, .ref a24, .ref a25, .ref a26, .int (-1), .ref a27, .ref a28, .ref a29, .ref a30, .ref a31, .ref a32, .ref a33], zi G a1 49 (fun _ => 0), zz G a2 3 (fun _ => 0), zi G a3 4 (upd (upd (upd (upd (fun _ => 0) 0 1) 1 1) 2 5) 3 13)] sz)) ((fun A => va_Qi (fun (r : Int32) (_ : Unit) => (p0.toInt = 0 ∧ r = 0) ∨ (p0.toInt = 1 ∧ r = 0) ∨ (p0.toInt = 2 ∧ r = 0) ∨ (p0.toInt = 3 ∧ r = 0) ∨ (p0.toInt = 4 ∧ r = 0) ∨ (p0.toInt = 5 ∧ r = 0) ∨ (p0.toInt = 6 ∧ r = 0) ∨ (p0.toInt = 7 ∧ r = 0) ∨ (p0.toInt = 8 ∧ r = 0) ∨ (p0.toInt ≤ (-1) ∧ r = (-1)) ∨ (p0.toInt = 13 ∧ r = 0) ∨ (p0.toInt = 14 ∧ r = 0) ∨ (p0.toInt = 15 ∧ r = 0) ∨ (p0.toInt = 16 ∧ r = 0) ∨ (17 ≤ p0.toInt ∧ r = (-1)) ∨ (p0.toInt = 9 ∧ r = 1) ∨ (p0.toInt = 10 ∧ r = 1) ∨ (p0.toInt = 11 ∧ r = 5) ∨ (p0.toInt = 12 ∧ r = 13)) (fun (_ : Unit) t => zQ G [] A t) A) (va_A [zo a0 10 [.int 0, .ref a4, .int 0, .ref a5, .int 0, .ref a6, .ref a7, .ref a8, .ref a9, .ref a10, .int 0, .int 0, .int 0, .int 0, .int 0, .int 0, .int (-1), .int 0, .ref a3, .int 0, .int 0, .ref a11, .int 0, .int 0, .ref a12, .int 0, .int 0, .ref a13, .ref a1, .ref a14, .ref a15, .int 0, .int 0, .ref a16, .ref a2, .ref a17, .ref a18, .ref a19, .int 0, .ref a20, .ref a21, .int 0, .int 0, .ref a22, .ref a23, .ref a24, .ref a25, .ref a26, .int (-1), .ref a27, .ref a28, .ref a29, .ref a30, .ref a31, .ref a32, .ref a33], zi G a1 49 (fun _ => 0), zz G a2 3 (fun _ => 0), zi G a3 4 (upd (upd (upd (upd (fun _ => 0) 0 1) 1 1) 2 5) 3 13)] sz)) 0 0 (va_A [zo a0 10 [.int 0, .ref a4, .int 0, .ref a5, .int 0, .ref a6, .ref a7, .ref a8, .ref a9, .ref a10, .int 0, .int 0, .int 0, .int 0, .int 0, .int 0, .int (-1), .int 0, .ref a3, .int 0, .int 0, .ref a11, .int 0, .int 0, .ref a12, .int 0, .int 0, .ref a13, .ref a1, .ref a14, .ref a15, .int 0, .int 0, .ref a16, .ref a2, .ref a17, .ref a18, .ref a19, .int 0, .ref a20, .ref a21, .int 0, .int 0, .ref a22, .ref a23, .ref a24, .ref a25, .ref a26, .int (-1), .ref a27, .ref a28, .ref a29, .ref a30, .ref a31, .ref a32, .ref a33], zi G a1 49 (fun _ => 0), zz G a2 3 (fun _ => 0), zi G a3 4 (upd (upd (upd (upd (fun _ => 0) 0 1) 1 1) 2 5) 3 13)] sz) := by
  refine z_start (QA := (fun A => va_Qi (fun (r : Int32) (_ : Unit) => (p0.toInt = 0 ∧ r = 0) ∨ (p0.toInt = 1 ∧ r = 0) ∨ (p0.toInt = 2 ∧ r = 0) ∨ (p0.toInt = 3 ∧ r = 0) ∨ (p0.toInt = 4 ∧ r = 0) ∨ (p0.toInt = 5 ∧ r = 0) ∨ (p0.toInt = 6 ∧ r = 0) ∨ (p0.toInt = 7 ∧ r = 0) ∨ (p0.toInt = 8 ∧ r = 0) ∨ (p0.toInt ≤ (-1) ∧ r = (-1)) ∨ (p0.toInt = 13 ∧ r = 0) ∨ (p0.toInt = 14 ∧ r = 0) ∨ (p0.toInt = 15 ∧ r = 0) ∨ (p0.toInt = 16 ∧ r = 0) ∨ (17 ≤ p0.toInt ∧ r = (-1)) ∨ (p0.toInt = 9 ∧ r = 1) ∨ (p0.toInt = 10 ∧ r = 1) ∨ (p0.toInt = 11 ∧ r = 5) ∨ (p0.toInt = 12 ∧ r = 13)) (fun (_ : Unit) t => zQ G [] A t) A)) (by decide) ⟨Nat.le_of_ble_eq_true rfl, trivial⟩ ?_
  intro p e s m below meth c A ls E B hr hlocks hin hl
  have hl : lv_has ls 4 [(0, .ref a0), (1, .int p0)] := hl
  have B : zB G A s.heap [zo a0 10 [.int 0, .ref a4, .int 0, .ref a5, .int 0, .ref a6, .ref a7, .ref a8, .ref a9, .ref a10, .int 0, .int 0, .int 0, .int 0, .int 0, .int 0, .int (-1), .int 0, .ref a3, .int 0, .int 0, .ref a11, .int 0, .int 0, .ref a12, .int 0, .int 0, .ref a13, .ref a1, .ref a14, .ref a15, .int 0, .int 0, .ref a16, .ref a2, .ref a17, .ref a18, .ref a19, .int 0, .ref a20, .ref a21, .int 0, .int 0, .ref a22, .ref a23, .ref a24, .ref a25, .ref a26, .int (-1), .ref a27, .ref a28, .ref a29, .ref a30, .ref a31, .ref a32, .ref a33], zi G a1 49 (fun _ => 0), zz G a2 3 (fun _ => 0), zi G a3 4 (upd (upd (upd (upd (fun _ => 0) 0 1) 1 1) 2 5) 3 13)] s.heap [] := B
  refine lv_iload_n E.x E.b dX12_count_0 rfl (lv_at hl 1 rfl) ?_
  refine lv_bipush (v := 9) E.x E.b dX12_count_1 (by decide) ?_
  refine lv_bipush (v := 12) E.x E.b dX12_count_3 (by decide) ?_
  refine z_calli E B (wc := []) (wr := [zo a0 10 [.int 0, .ref a4, .int 0, .ref a5, .int 0, .ref a6, .ref a7, .ref a8, .ref a9, .ref a10, .int 0, .int 0, .int 0, .int 0, .int 0, .int 0, .int (-1), .int 0, .ref a3, .int 0, .int 0, .ref a11, .int 0, .int 0, .ref a12, .int 0, .int 0, .ref a13, .ref a1, .ref a14, .ref a15, .int 0, .int 0, .ref a16, .ref a2, .ref a17, .ref a18, .ref a19, .int 0, .ref a20, .ref a21, .int 0, .int 0, .ref a22, .ref a23, .ref a24, .ref a25, .ref a26, .int (-1), .ref a27, .ref a28, .ref a29, .ref a30, .ref a31, .ref a32, .ref a33], zi G a1 49 (fun _ => 0), zz G a2 3 (fun _ => 0), zi G a3 4 (upd (upd (upd (upd (fun _ => 0) 0 1) 1 1) 2 5) 3 13)]) [] [0, 1, 2, 3] rfl rfl (by decide) (by decide) (z_runS E B (As := [.int p0, .int 9, .int 12]) (rest := []) [] rfl (by decide) ms_X12_in t_1439 (c_X12_in_225 l G _ p0) rfl rfl ⟨Nat.le_of_ble_eq_true rfl, Nat.le_of_ble_eq_true rfl⟩ rfl hl.1 rfl (Nat.le_of_ble_eq_true rfl) dX12_count_5 ⟨(Nat.le_of_ble_eq_true rfl), (Nat.le_of_ble_eq_true rfl)⟩) (fun r t H locs hp hB J => ?_)
  have hq := hB
  have B := J _ hq
  have B : zB G A s.heap [zo a0 10 [.int 0, .ref a4, .int 0, .ref a5, .int 0, .ref a6, .ref a7, .ref a8, .ref a9, .ref a10, .int 0, .int 0, .int 0, .int 0, .int 0, .int 0, .int (-1), .int 0, .ref a3, .int 0, .int 0, .ref a11, .int 0, .int 0, .ref a12, .int 0, .int 0, .ref a13, .ref a1, .ref a14, .ref a15, .int 0, .int 0, .ref a16, .ref a2, .ref a17, .ref a18, .ref a19, .int 0, .ref a20, .ref a21, .int 0, .int 0, .ref a22, .ref a23, .ref a24, .ref a25, .ref a26, .int (-1), .ref a27, .ref a28, .ref a29, .ref a30, .ref a31, .ref a32, .ref a33], zi G a1 49 (fun _ => 0), zz G a2 3 (fun _ => 0), zi G a3 4 (upd (upd (upd (upd (fun _ => 0) 0 1) 1 1) 2 5) 3 13)] _ _ := B
  rcases hp with ⟨c_1, rfl⟩ | ⟨c_2, rfl⟩ | ⟨c_3, c_4, rfl⟩
  · skip
    refine lv_if_eq (tgt := 21) E.x E.b dX12_count_8 (by decide) (fun _ => ?_) (fun c => absurd (by decide +kernel) c)
    refine lv_iconst (v := 0) E.x E.b dX12_count_21 (by decide) ?_
    refine lv_istore_n (lv' := [(2, .int 0), (0, .ref a0), (1, .int p0)]) E.x E.b dX12_count_22 rfl hl (by decide) rfl (fun ls hl => ?_)
    refine lv_iload_n E.x E.b dX12_count_23 rfl (lv_at hl 2 rfl) ?_
    by_cases e_5 : p0 = 0
    · subst e_5
      refine lv_tableIn (off := 84) (tgt := 108) E.x E.b dX12_count_24 (by decide) (by decide) (by decide +kernel) (by decide) ?_
      refine lv_aload_n E.x E.b dX12_count_108 rfl (lv_at hl 1 rfl) ?_
      refine z_get E B z_inX12 (ci := 10) rfl 17 (by decide) t_1209 0 rfl rfl dX12_count_109 ?_
      refine W.widen (k := 0) (n := 0) (Nat.le_of_ble_eq_true rfl) (Nat.le_of_ble_eq_true rfl) ?_
      exact z_iret E hr hlocks B (v := 0) (Or.inl ⟨(by first | decide | omega), rfl⟩) (fun t ht => z_q B [] (by decide) rfl ht) dX12_count_112
    · have e_5m : ¬ p0.toInt = 0 := zi_ne e_5
      by_cases e_6 : p0 = 1
      · subst e_6
        refine lv_tableIn (off := 89) (tgt := 113) E.x E.b dX12_count_24 (by decide) (by decide) (by decide +kernel) (by decide) ?_
        refine lv_aload_n E.x E.b dX12_count_113 rfl (lv_at hl 1 rfl) ?_
        refine z_calli E B (wc := [zo a0 10 [.int 0, .ref a4, .int 0, .ref a5, .int 0, .ref a6, .ref a7, .ref a8, .ref a9, .ref a10, .int 0, .int 0, .int 0, .int 0, .int 0, .int 0, .int (-1), .int 0, .ref a3, .int 0, .int 0, .ref a11, .int 0, .int 0, .ref a12, .int 0, .int 0, .ref a13, .ref a1, .ref a14, .ref a15, .int 0, .int 0, .ref a16, .ref a2, .ref a17, .ref a18, .ref a19, .int 0, .ref a20, .ref a21, .int 0, .int 0, .ref a22, .ref a23, .ref a24, .ref a25, .ref a26, .int (-1), .ref a27, .ref a28, .ref a29, .ref a30, .ref a31, .ref a32, .ref a33], zi G a1 49 (fun _ => 0)]) (wr := [zz G a2 3 (fun _ => 0), zi G a3 4 (upd (upd (upd (upd (fun _ => 0) 0 1) 1 1) 2 5) 3 13)]) [0, 1] [2, 3] rfl rfl (by decide) (by decide) (z_runV E B (As := []) (rest := []) [0, 1] rfl (by decide) mv_X12_gates t_1454 0 (ci := 10) rfl rfl rfl (c_X12_gates_160 l G _ a0 a1 a4 a5 a6 a7 a8 a9 a10 a3 a11 a12 a13 a14 a15 a16 a2 a17 a18 a19 a20 a21 a22 a23 a24 a25 a26 a27 a28 a29 a30 a31 a32 a33) rfl rfl ⟨Nat.le_of_ble_eq_true rfl, Nat.le_of_ble_eq_true rfl⟩ rfl hl.1 rfl (Nat.le_of_ble_eq_true rfl) dX12_count_114 ⟨(Nat.le_of_ble_eq_true rfl), (Nat.le_of_ble_eq_true rfl)⟩) (fun r t H locs hp hB J => ?_)
        have hq := hB
        have B := J _ hq
        have B : zB G A s.heap [zz G a2 3 (fun _ => 0), zi G a3 4 (upd (upd (upd (upd (fun _ => 0) 0 1) 1 1) 2 5) 3 13), zo a0 10 [.int 0, .ref a4, .int 0, .ref a5, .int 0, .ref a6, .ref a7, .ref a8, .ref a9, .ref a10, .int 0, .int 0, .int 0, .int 0, .int 0, .int 0, .int (-1), .int 0, .ref a3, .int 0, .int 0, .ref a11, .int 0, .int 0, .ref a12, .int 0, .int 0, .ref a13, .ref a1, .ref a14, .ref a15, .int 0, .int 0, .ref a16, .ref a2, .ref a17, .ref a18, .ref a19, .int 0, .ref a20, .ref a21, .int 0, .int 0, .ref a22, .ref a23, .ref a24, .ref a25, .ref a26, .int (-1), .ref a27, .ref a28, .ref a29, .ref a30, .ref a31, .ref a32, .ref a33], zi G a1 49 (fun _ => 0)] _ _ := B
        have hp := hp.symm
        subst hp
        refine W.widen (k := 0) (n := 0) (Nat.le_of_ble_eq_true rfl) (Nat.le_of_ble_eq_true rfl) ?_
        exact z_iret E hr hlocks B (v := 0) (Or.inr (Or.inl ⟨(by first | decide | omega), rfl⟩)) (fun t ht => z_q B [] (by decide) rfl ht) dX12_count_117
      · have e_6m : ¬ p0.toInt = 1 := zi_ne e_6
        by_cases e_7 : p0 = 2
        · subst e_7
          refine lv_tableIn (off := 94) (tgt := 118) E.x E.b dX12_count_24 (by decide) (by decide) (by decide +kernel) (by decide) ?_
          refine lv_aload_n E.x E.b dX12_count_118 rfl (lv_at hl 1 rfl) ?_
          refine z_calli E B (wc := [zo a0 10 [.int 0, .ref a4, .int 0, .ref a5, .int 0, .ref a6, .ref a7, .ref a8, .ref a9, .ref a10, .int 0, .int 0, .int 0, .int 0, .int 0, .int 0, .int (-1), .int 0, .ref a3, .int 0, .int 0, .ref a11, .int 0, .int 0, .ref a12, .int 0, .int 0, .ref a13, .ref a1, .ref a14, .ref a15, .int 0, .int 0, .ref a16, .ref a2, .ref a17, .ref a18, .ref a19, .int 0, .ref a20, .ref a21, .int 0, .int 0, .ref a22, .ref a23, .ref a24, .ref a25, .ref a26, .int (-1), .ref a27, .ref a28, .ref a29, .ref a30, .ref a31, .ref a32, .ref a33], zi G a1 49 (fun _ => 0)]) (wr := [zz G a2 3 (fun _ => 0), zi G a3 4 (upd (upd (upd (upd (fun _ => 0) 0 1) 1 1) 2 5) 3 13)]) [0, 1] [2, 3] rfl rfl (by decide) (by decide) (z_runV E B (As := []) (rest := []) [0, 1] rfl (by decide) mv_X12_cost t_1728 0 (ci := 10) rfl rfl rfl (c_X12_cost_226 l G _ a0 a1 a4 a5 a6 a7 a8 a9 a10 a3 a11 a12 a13 a14 a15 a16 a2 a17 a18 a19 a20 a21 a22 a23 a24 a25 a26 a27 a28 a29 a30 a31 a32 a33) rfl rfl ⟨Nat.le_of_ble_eq_true rfl, Nat.le_of_ble_eq_true rfl⟩ rfl hl.1 rfl (Nat.le_of_ble_eq_true rfl) dX12_count_119 ⟨(Nat.le_of_ble_eq_true rfl), (Nat.le_of_ble_eq_true rfl)⟩) (fun r t H locs hp hB J => ?_)
          have hq := hB
          have B := J _ hq
          have B : zB G A s.heap [zz G a2 3 (fun _ => 0), zi G a3 4 (upd (upd (upd (upd (fun _ => 0) 0 1) 1 1) 2 5) 3 13), zo a0 10 [.int 0, .ref a4, .int 0, .ref a5, .int 0, .ref a6, .ref a7, .ref a8, .ref a9, .ref a10, .int 0, .int 0, .int 0, .int 0, .int 0, .int 0, .int (-1), .int 0, .ref a3, .int 0, .int 0, .ref a11, .int 0, .int 0, .ref a12, .int 0, .int 0, .ref a13, .ref a1, .ref a14, .ref a15, .int 0, .int 0, .ref a16, .ref a2, .ref a17, .ref a18, .ref a19, .int 0, .ref a20, .ref a21, .int 0, .int 0, .ref a22, .ref a23, .ref a24, .ref a25, .ref a26, .int (-1), .ref a27, .ref a28, .ref a29, .ref a30, .ref a31, .ref a32, .ref a33], zi G a1 49 (fun _ => 0)] _ _ := B
          have hp := hp.symm
          subst hp
          refine W.widen (k := 0) (n := 0) (Nat.le_of_ble_eq_true rfl) (Nat.le_of_ble_eq_true rfl) ?_
          exact z_iret E hr hlocks B (v := 0) (Or.inr (Or.inr (Or.inl ⟨(by first | decide | omega), rfl⟩))) (fun t ht => z_q B [] (by decide) rfl ht) dX12_count_122
        · have e_7m : ¬ p0.toInt = 2 := zi_ne e_7
          by_cases e_8 : p0 = 3
          · subst e_8
            refine lv_tableIn (off := 99) (tgt := 123) E.x E.b dX12_count_24 (by decide) (by decide) (by decide +kernel) (by decide) ?_
            refine lv_aload_n E.x E.b dX12_count_123 rfl (lv_at hl 1 rfl) ?_
            refine z_calli E B (wc := [zo a0 10 [.int 0, .ref a4, .int 0, .ref a5, .int 0, .ref a6, .ref a7, .ref a8, .ref a9, .ref a10, .int 0, .int 0, .int 0, .int 0, .int 0, .int 0, .int (-1), .int 0, .ref a3, .int 0, .int 0, .ref a11, .int 0, .int 0, .ref a12, .int 0, .int 0, .ref a13, .ref a1, .ref a14, .ref a15, .int 0, .int 0, .ref a16, .ref a2, .ref a17, .ref a18, .ref a19, .int 0, .ref a20, .ref a21, .int 0, .int 0, .ref a22, .ref a23, .ref a24, .ref a25, .ref a26, .int (-1), .ref a27, .ref a28, .ref a29, .ref a30, .ref a31, .ref a32, .ref a33], zi G a1 49 (fun _ => 0)]) (wr := [zz G a2 3 (fun _ => 0), zi G a3 4 (upd (upd (upd (upd (fun _ => 0) 0 1) 1 1) 2 5) 3 13)]) [0, 1] [2, 3] rfl rfl (by decide) (by decide) (z_runV E B (As := []) (rest := []) [0, 1] rfl (by decide) mv_X12_laysLevels t_1614 0 (ci := 10) rfl rfl rfl (c_X12_laysLevels_227 l G _ a0 a1 a4 a5 a6 a7 a8 a9 a10 a3 a11 a12 a13 a14 a15 a16 a2 a17 a18 a19 a20 a21 a22 a23 a24 a25 a26 a27 a28 a29 a30 a31 a32 a33) rfl rfl ⟨Nat.le_of_ble_eq_true rfl, Nat.le_of_ble_eq_true rfl⟩ rfl hl.1 rfl (Nat.le_of_ble_eq_true rfl) dX12_count_124 ⟨(Nat.le_of_ble_eq_true rfl), (Nat.le_of_ble_eq_true rfl)⟩) (fun r t H locs hp hB J => ?_)
            have hq := hB
            have B := J _ hq
            have B : zB G A s.heap [zz G a2 3 (fun _ => 0), zi G a3 4 (upd (upd (upd (upd (fun _ => 0) 0 1) 1 1) 2 5) 3 13), zo a0 10 [.int 0, .ref a4, .int 0, .ref a5, .int 0, .ref a6, .ref a7, .ref a8, .ref a9, .ref a10, .int 0, .int 0, .int 0, .int 0, .int 0, .int 0, .int (-1), .int 0, .ref a3, .int 0, .int 0, .ref a11, .int 0, .int 0, .ref a12, .int 0, .int 0, .ref a13, .ref a1, .ref a14, .ref a15, .int 0, .int 0, .ref a16, .ref a2, .ref a17, .ref a18, .ref a19, .int 0, .ref a20, .ref a21, .int 0, .int 0, .ref a22, .ref a23, .ref a24, .ref a25, .ref a26, .int (-1), .ref a27, .ref a28, .ref a29, .ref a30, .ref a31, .ref a32, .ref a33], zi G a1 49 (fun _ => 0)] _ _ := B
            have hp := hp.symm
            subst hp
            refine W.widen (k := 0) (n := 0) (Nat.le_of_ble_eq_true rfl) (Nat.le_of_ble_eq_true rfl) ?_
            exact z_iret E hr hlocks B (v := 0) (Or.inr (Or.inr (Or.inr (Or.inl ⟨(by first | decide | omega), rfl⟩)))) (fun t ht => z_q B [] (by decide) rfl ht) dX12_count_127
          · have e_8m : ¬ p0.toInt = 3 := zi_ne e_8
            by_cases e_9 : p0 = 4
            · subst e_9
              refine lv_tableIn (off := 104) (tgt := 128) E.x E.b dX12_count_24 (by decide) (by decide) (by decide +kernel) (by decide) ?_
              refine lv_aload_n E.x E.b dX12_count_128 rfl (lv_at hl 1 rfl) ?_
              refine z_calli E B (wc := [zo a0 10 [.int 0, .ref a4, .int 0, .ref a5, .int 0, .ref a6, .ref a7, .ref a8, .ref a9, .ref a10, .int 0, .int 0, .int 0, .int 0, .int 0, .int 0, .int (-1), .int 0, .ref a3, .int 0, .int 0, .ref a11, .int 0, .int 0, .ref a12, .int 0, .int 0, .ref a13, .ref a1, .ref a14, .ref a15, .int 0, .int 0, .ref a16, .ref a2, .ref a17, .ref a18, .ref a19, .int 0, .ref a20, .ref a21, .int 0, .int 0, .ref a22, .ref a23, .ref a24, .ref a25, .ref a26, .int (-1), .ref a27, .ref a28, .ref a29, .ref a30, .ref a31, .ref a32, .ref a33], zi G a1 49 (fun _ => 0)]) (wr := [zz G a2 3 (fun _ => 0), zi G a3 4 (upd (upd (upd (upd (fun _ => 0) 0 1) 1 1) 2 5) 3 13)]) [0, 1] [2, 3] rfl rfl (by decide) (by decide) (z_runV E B (As := []) (rest := []) [0, 1] rfl (by decide) mv_X12_agreeing t_1732 0 (ci := 10) rfl rfl rfl (c_X12_agreeing_228 l G _ a0 a1 a4 a5 a6 a7 a8 a9 a10 a3 a11 a12 a13 a14 a15 a16 a2 a17 a18 a19 a20 a21 a22 a23 a24 a25 a26 a27 a28 a29 a30 a31 a32 a33) rfl rfl ⟨Nat.le_of_ble_eq_true rfl, Nat.le_of_ble_eq_true rfl⟩ rfl hl.1 rfl (Nat.le_of_ble_eq_true rfl) dX12_count_129 ⟨(Nat.le_of_ble_eq_true rfl), (Nat.le_of_ble_eq_true rfl)⟩) (fun r t H locs hp hB J => ?_)
              have hq := hB
              have B := J _ hq
              have B : zB G A s.heap [zz G a2 3 (fun _ => 0), zi G a3 4 (upd (upd (upd (upd (fun _ => 0) 0 1) 1 1) 2 5) 3 13), zo a0 10 [.int 0, .ref a4, .int 0, .ref a5, .int 0, .ref a6, .ref a7, .ref a8, .ref a9, .ref a10, .int 0, .int 0, .int 0, .int 0, .int 0, .int 0, .int (-1), .int 0, .ref a3, .int 0, .int 0, .ref a11, .int 0, .int 0, .ref a12, .int 0, .int 0, .ref a13, .ref a1, .ref a14, .ref a15, .int 0, .int 0, .ref a16, .ref a2, .ref a17, .ref a18, .ref a19, .int 0, .ref a20, .ref a21, .int 0, .int 0, .ref a22, .ref a23, .ref a24, .ref a25, .ref a26, .int (-1), .ref a27, .ref a28, .ref a29, .ref a30, .ref a31, .ref a32, .ref a33], zi G a1 49 (fun _ => 0)] _ _ := B
              have hp := hp.symm
              subst hp
              refine W.widen (k := 0) (n := 0) (Nat.le_of_ble_eq_true rfl) (Nat.le_of_ble_eq_true rfl) ?_
              exact z_iret E hr hlocks B (v := 0) (Or.inr (Or.inr (Or.inr (Or.inr (Or.inl ⟨(by first | decide | omega), rfl⟩))))) (fun t ht => z_q B [] (by decide) rfl ht) dX12_count_132
            · have e_9m : ¬ p0.toInt = 4 := zi_ne e_9
              by_cases e_10 : p0 = 5
              · subst e_10
                refine lv_tableIn (off := 109) (tgt := 133) E.x E.b dX12_count_24 (by decide) (by decide) (by decide +kernel) (by decide) ?_
                refine lv_iconst (v := 0) E.x E.b dX12_count_133 (by decide) ?_
                refine lv_istore_n (lv' := [(3, .int 0), (2, .int 0), (0, .ref a0), (1, .int 5)]) E.x E.b dX12_count_134 rfl hl (by decide) rfl (fun ls hl => ?_)
                refine lv_iload_n E.x E.b dX12_count_135 rfl (lv_at hl 0 rfl) ?_
                refine lv_aload_n E.x E.b dX12_count_136 rfl (lv_at hl 2 rfl) ?_
                refine z_calli E B (wc := [zo a0 10 [.int 0, .ref a4, .int 0, .ref a5, .int 0, .ref a6, .ref a7, .ref a8, .ref a9, .ref a10, .int 0, .int 0, .int 0, .int 0, .int 0, .int 0, .int (-1), .int 0, .ref a3, .int 0, .int 0, .ref a11, .int 0, .int 0, .ref a12, .int 0, .int 0, .ref a13, .ref a1, .ref a14, .ref a15, .int 0, .int 0, .ref a16, .ref a2, .ref a17, .ref a18, .ref a19, .int 0, .ref a20, .ref a21, .int 0, .int 0, .ref a22, .ref a23, .ref a24, .ref a25, .ref a26, .int (-1), .ref a27, .ref a28, .ref a29, .ref a30, .ref a31, .ref a32, .ref a33], zi G a1 49 (fun _ => 0)]) (wr := [zz G a2 3 (fun _ => 0), zi G a3 4 (upd (upd (upd (upd (fun _ => 0) 0 1) 1 1) 2 5) 3 13)]) [0, 1] [2, 3] rfl rfl (by decide) (by decide) (z_runV E B (As := []) (rest := [.int 0]) [0, 1] rfl (by decide) mv_X12_gates t_1454 0 (ci := 10) rfl rfl rfl (c_X12_gates_160 l G _ a0 a1 a4 a5 a6 a7 a8 a9 a10 a3 a11 a12 a13 a14 a15 a16 a2 a17 a18 a19 a20 a21 a22 a23 a24 a25 a26 a27 a28 a29 a30 a31 a32 a33) rfl rfl ⟨Nat.le_of_ble_eq_true rfl, Nat.le_of_ble_eq_true rfl⟩ rfl hl.1 rfl (Nat.le_of_ble_eq_true rfl) dX12_count_137 ⟨(Nat.le_of_ble_eq_true rfl), (Nat.le_of_ble_eq_true rfl)⟩) (fun r t H locs hp hB J => ?_)
                have hq := hB
                have B := J _ hq
                have B : zB G A s.heap [zz G a2 3 (fun _ => 0), zi G a3 4 (upd (upd (upd (upd (fun _ => 0) 0 1) 1 1) 2 5) 3 13), zo a0 10 [.int 0, .ref a4, .int 0, .ref a5, .int 0, .ref a6, .ref a7, .ref a8, .ref a9, .ref a10, .int 0, .int 0, .int 0, .int 0, .int 0, .int 0, .int (-1), .int 0, .ref a3, .int 0, .int 0, .ref a11, .int 0, .int 0, .ref a12, .int 0, .int 0, .ref a13, .ref a1, .ref a14, .ref a15, .int 0, .int 0, .ref a16, .ref a2, .ref a17, .ref a18, .ref a19, .int 0, .ref a20, .ref a21, .int 0, .int 0, .ref a22, .ref a23, .ref a24, .ref a25, .ref a26, .int (-1), .ref a27, .ref a28, .ref a29, .ref a30, .ref a31, .ref a32, .ref a33], zi G a1 49 (fun _ => 0)] _ _ := B
                have hp := hp.symm
                subst hp
                refine lv_icmp_ge (tgt := 160) E.x E.b dX12_count_140 (by decide) (fun _ => ?_) (fun c => absurd (by decide +kernel) c)
                refine lv_iload_n E.x E.b dX12_count_160 rfl (lv_at hl 1 rfl) ?_
                refine W.widen (k := 0) (n := 0) (Nat.le_of_ble_eq_true rfl) (Nat.le_of_ble_eq_true rfl) ?_
                exact z_iret E hr hlocks B (v := 0) (Or.inr (Or.inr (Or.inr (Or.inr (Or.inr (Or.inl ⟨(by first | decide | omega), rfl⟩)))))) (fun t ht => z_q B [] (by decide) rfl ht) dX12_count_161
              · have e_10m : ¬ p0.toInt = 5 := zi_ne e_10
                by_cases e_11 : p0 = 6
                · subst e_11
                  refine lv_tableIn (off := 138) (tgt := 162) E.x E.b dX12_count_24 (by decide) (by decide) (by decide +kernel) (by decide) ?_
                  refine lv_aload_n E.x E.b dX12_count_162 rfl (lv_at hl 1 rfl) ?_
                  refine z_get E B z_inX12 (ci := 10) rfl 2 (by decide) t_1194 0 rfl rfl dX12_count_163 ?_
                  refine W.widen (k := 0) (n := 0) (Nat.le_of_ble_eq_true rfl) (Nat.le_of_ble_eq_true rfl) ?_
                  exact z_iret E hr hlocks B (v := 0) (Or.inr (Or.inr (Or.inr (Or.inr (Or.inr (Or.inr (Or.inl ⟨(by first | decide | omega), rfl⟩))))))) (fun t ht => z_q B [] (by decide) rfl ht) dX12_count_166
                · have e_11m : ¬ p0.toInt = 6 := zi_ne e_11
                  by_cases e_12 : p0 = 7
                  · subst e_12
                    refine lv_tableIn (off := 143) (tgt := 167) E.x E.b dX12_count_24 (by decide) (by decide) (by decide +kernel) (by decide) ?_
                    refine lv_aload_n E.x E.b dX12_count_167 rfl (lv_at hl 1 rfl) ?_
                    refine z_get E B z_inX12 (ci := 10) rfl 32 (by decide) t_1224 0 rfl rfl dX12_count_168 ?_
                    refine W.widen (k := 0) (n := 0) (Nat.le_of_ble_eq_true rfl) (Nat.le_of_ble_eq_true rfl) ?_
                    exact z_iret E hr hlocks B (v := 0) (Or.inr (Or.inr (Or.inr (Or.inr (Or.inr (Or.inr (Or.inr (Or.inl ⟨(by first | decide | omega), rfl⟩)))))))) (fun t ht => z_q B [] (by decide) rfl ht) dX12_count_171
                  · have e_12m : ¬ p0.toInt = 7 := zi_ne e_12
                    by_cases e_13 : p0 = 8
                    · subst e_13
                      refine lv_tableIn (off := 148) (tgt := 172) E.x E.b dX12_count_24 (by decide) (by decide) (by decide +kernel) (by decide) ?_
                      refine lv_aload_n E.x E.b dX12_count_172 rfl (lv_at hl 1 rfl) ?_
                      refine z_get E B z_inX12 (ci := 10) rfl 34 (by decide) t_1226 0 rfl rfl dX12_count_173 ?_
                      refine lv_iconst (v := 0) E.x E.b dX12_count_176 (by decide) ?_
                      refine z_zald E B 2 rfl (show ¬ ((0 : Int32) < 0 ∨ 3 ≤ (0 : Int32).toNatClampNeg) by decide +kernel) dX12_count_177 (z_topi 0 rfl ?_)
                      refine lv_if_eq (tgt := 185) E.x E.b dX12_count_178 (by decide) (fun _ => ?_) (fun c => absurd (by decide +kernel) c)
                      refine lv_iconst (v := 0) E.x E.b dX12_count_185 (by decide) ?_
                      refine lv_aload_n E.x E.b dX12_count_186 rfl (lv_at hl 1 rfl) ?_
                      refine z_get E B z_inX12 (ci := 10) rfl 34 (by decide) t_1226 0 rfl rfl dX12_count_187 ?_
                      refine lv_iconst (v := 1) E.x E.b dX12_count_190 (by decide) ?_
                      refine z_zald E B 2 rfl (show ¬ ((1 : Int32) < 0 ∨ 3 ≤ (1 : Int32).toNatClampNeg) by decide +kernel) dX12_count_191 (z_topi 0 rfl ?_)
                      refine lv_if_eq (tgt := 199) E.x E.b dX12_count_192 (by decide) (fun _ => ?_) (fun c => absurd (by decide +kernel) c)
                      refine lv_iconst (v := 0) E.x E.b dX12_count_199 (by decide) ?_
                      refine lv_iadd E.x E.b dX12_count_200 (z_topi 0 (by decide +kernel) ?_)
                      refine lv_aload_n E.x E.b dX12_count_201 rfl (lv_at hl 1 rfl) ?_
                      refine z_get E B z_inX12 (ci := 10) rfl 34 (by decide) t_1226 0 rfl rfl dX12_count_202 ?_
                      refine lv_iconst (v := 2) E.x E.b dX12_count_205 (by decide) ?_
                      refine z_zald E B 2 rfl (show ¬ ((2 : Int32) < 0 ∨ 3 ≤ (2 : Int32).toNatClampNeg) by decide +kernel) dX12_count_206 (z_topi 0 rfl ?_)
                      refine lv_if_eq (tgt := 214) E.x E.b dX12_count_207 (by decide) (fun _ => ?_) (fun c => absurd (by decide +kernel) c)
                      refine lv_iconst (v := 0) E.x E.b dX12_count_214 (by decide) ?_
                      refine lv_iadd E.x E.b dX12_count_215 (z_topi 0 (by decide +kernel) ?_)
                      refine W.widen (k := 0) (n := 0) (Nat.le_of_ble_eq_true rfl) (Nat.le_of_ble_eq_true rfl) ?_
                      exact z_iret E hr hlocks B (v := 0) (Or.inr (Or.inr (Or.inr (Or.inr (Or.inr (Or.inr (Or.inr (Or.inr (Or.inl ⟨(by first | decide | omega), rfl⟩))))))))) (fun t ht => z_q B [] (by decide) rfl ht) dX12_count_216
                    · have e_13m : ¬ p0.toInt = 8 := zi_ne e_13
                      refine lv_tableOut (tgt := 258) E.x E.b dX12_count_24 (by omega) (by decide) ?_
                      refine lv_iconst (v := (-1)) E.x E.b dX12_count_258 (by decide) ?_
                      refine W.widen (k := 0) (n := 0) (Nat.le_of_ble_eq_true rfl) (Nat.le_of_ble_eq_true rfl) ?_
                      exact z_iret E hr hlocks B (v := (-1)) (Or.inr (Or.inr (Or.inr (Or.inr (Or.inr (Or.inr (Or.inr (Or.inr (Or.inr (Or.inl ⟨(by first | decide | omega), rfl⟩)))))))))) (fun t ht => z_q B [] (by decide) rfl ht) dX12_count_259
  · skip
    refine lv_if_eq (tgt := 21) E.x E.b dX12_count_8 (by decide) (fun _ => ?_) (fun c => absurd (by decide +kernel) c)
    refine lv_iconst (v := 0) E.x E.b dX12_count_21 (by decide) ?_
    refine lv_istore_n (lv' := [(2, .int 0), (0, .ref a0), (1, .int p0)]) E.x E.b dX12_count_22 rfl hl (by decide) rfl (fun ls hl => ?_)
    refine lv_iload_n E.x E.b dX12_count_23 rfl (lv_at hl 2 rfl) ?_
    by_cases e_14 : p0 = 13
    · subst e_14
      refine lv_tableIn (off := 193) (tgt := 217) E.x E.b dX12_count_24 (by decide) (by decide) (by decide +kernel) (by decide) ?_
      refine lv_iconst (v := 0) E.x E.b dX12_count_217 (by decide) ?_
      refine lv_istore_n (lv' := [(3, .int 0), (2, .int 0), (0, .ref a0), (1, .int 13)]) E.x E.b dX12_count_218 rfl hl (by decide) rfl (fun ls hl => ?_)
      refine lv_iload_n E.x E.b dX12_count_219 rfl (lv_at hl 0 rfl) ?_
      refine lv_aload_n E.x E.b dX12_count_220 rfl (lv_at hl 2 rfl) ?_
      refine z_calli E B (wc := [zo a0 10 [.int 0, .ref a4, .int 0, .ref a5, .int 0, .ref a6, .ref a7, .ref a8, .ref a9, .ref a10, .int 0, .int 0, .int 0, .int 0, .int 0, .int 0, .int (-1), .int 0, .ref a3, .int 0, .int 0, .ref a11, .int 0, .int 0, .ref a12, .int 0, .int 0, .ref a13, .ref a1, .ref a14, .ref a15, .int 0, .int 0, .ref a16, .ref a2, .ref a17, .ref a18, .ref a19, .int 0, .ref a20, .ref a21, .int 0, .int 0, .ref a22, .ref a23, .ref a24, .ref a25, .ref a26, .int (-1), .ref a27, .ref a28, .ref a29, .ref a30, .ref a31, .ref a32, .ref a33], zi G a1 49 (fun _ => 0)]) (wr := [zz G a2 3 (fun _ => 0), zi G a3 4 (upd (upd (upd (upd (fun _ => 0) 0 1) 1 1) 2 5) 3 13)]) [0, 1] [2, 3] rfl rfl (by decide) (by decide) (z_runV E B (As := []) (rest := [.int 0]) [0, 1] rfl (by decide) mv_X12_gates t_1454 0 (ci := 10) rfl rfl rfl (c_X12_gates_160 l G _ a0 a1 a4 a5 a6 a7 a8 a9 a10 a3 a11 a12 a13 a14 a15 a16 a2 a17 a18 a19 a20 a21 a22 a23 a24 a25 a26 a27 a28 a29 a30 a31 a32 a33) rfl rfl ⟨Nat.le_of_ble_eq_true rfl, Nat.le_of_ble_eq_true rfl⟩ rfl hl.1 rfl (Nat.le_of_ble_eq_true rfl) dX12_count_221 ⟨(Nat.le_of_ble_eq_true rfl), (Nat.le_of_ble_eq_true rfl)⟩) (fun r t H locs hp hB J => ?_)
      have hq := hB
      have B := J _ hq
      have B : zB G A s.heap [zz G a2 3 (fun _ => 0), zi G a3 4 (upd (upd (upd (upd (fun _ => 0) 0 1) 1 1) 2 5) 3 13), zo a0 10 [.int 0, .ref a4, .int 0, .ref a5, .int 0, .ref a6, .ref a7, .ref a8, .ref a9, .ref a10, .int 0, .int 0, .int 0, .int 0, .int 0, .int 0, .int (-1), .int 0, .ref a3, .int 0, .int 0, .ref a11, .int 0, .int 0, .ref a12, .int 0, .int 0, .ref a13, .ref a1, .ref a14, .ref a15, .int 0, .int 0, .ref a16, .ref a2, .ref a17, .ref a18, .ref a19, .int 0, .ref a20, .ref a21, .int 0, .int 0, .ref a22, .ref a23, .ref a24, .ref a25, .ref a26, .int (-1), .ref a27, .ref a28, .ref a29, .ref a30, .ref a31, .ref a32, .ref a33], zi G a1 49 (fun _ => 0)] _ _ := B
      have hp := hp.symm
      subst hp
      refine lv_icmp_ge (tgt := 241) E.x E.b dX12_count_224 (by decide) (fun _ => ?_) (fun c => absurd (by decide +kernel) c)
      refine lv_iload_n E.x E.b dX12_count_241 rfl (lv_at hl 1 rfl) ?_
      refine W.widen (k := 0) (n := 0) (Nat.le_of_ble_eq_true rfl) (Nat.le_of_ble_eq_true rfl) ?_
      exact z_iret E hr hlocks B (v := 0) (Or.inr (Or.inr (Or.inr (Or.inr (Or.inr (Or.inr (Or.inr (Or.inr (Or.inr (Or.inr (Or.inl ⟨(by first | decide | omega), rfl⟩))))))))))) (fun t ht => z_q B [] (by decide) rfl ht) dX12_count_242
    · have e_14m : ¬ p0.toInt = 13 := zi_ne e_14
      by_cases e_15 : p0 = 14
      · subst e_15
        refine lv_tableIn (off := 219) (tgt := 243) E.x E.b dX12_count_24 (by decide) (by decide) (by decide +kernel) (by decide) ?_
        refine lv_aload_n E.x E.b dX12_count_243 rfl (lv_at hl 1 rfl) ?_
        refine z_calli E B (wc := [zo a0 10 [.int 0, .ref a4, .int 0, .ref a5, .int 0, .ref a6, .ref a7, .ref a8, .ref a9, .ref a10, .int 0, .int 0, .int 0, .int 0, .int 0, .int 0, .int (-1), .int 0, .ref a3, .int 0, .int 0, .ref a11, .int 0, .int 0, .ref a12, .int 0, .int 0, .ref a13, .ref a1, .ref a14, .ref a15, .int 0, .int 0, .ref a16, .ref a2, .ref a17, .ref a18, .ref a19, .int 0, .ref a20, .ref a21, .int 0, .int 0, .ref a22, .ref a23, .ref a24, .ref a25, .ref a26, .int (-1), .ref a27, .ref a28, .ref a29, .ref a30, .ref a31, .ref a32, .ref a33]]) (wr := [zi G a1 49 (fun _ => 0), zz G a2 3 (fun _ => 0), zi G a3 4 (upd (upd (upd (upd (fun _ => 0) 0 1) 1 1) 2 5) 3 13)]) [0] [1, 2, 3] rfl rfl (by decide) (by decide) (z_runV E B (As := []) (rest := []) [0] rfl (by decide) mv_X12_seeing t_1736 0 (ci := 10) rfl rfl rfl (c_X12_seeing_229 l G _ a0 a4 a5 a6 a7 a8 a9 a10 a3 a11 a12 a13 a1 a14 a15 a16 a2 a17 a18 a19 a20 a21 a22 a23 a24 a25 a26 a27 a28 a29 a30 a31 a32 a33) rfl rfl ⟨Nat.le_of_ble_eq_true rfl, Nat.le_of_ble_eq_true rfl⟩ rfl hl.1 rfl (Nat.le_of_ble_eq_true rfl) dX12_count_244 ⟨(Nat.le_of_ble_eq_true rfl), (Nat.le_of_ble_eq_true rfl)⟩) (fun r t H locs hp hB J => ?_)
        have hq := hB
        have B := J _ hq
        have B : zB G A s.heap [zi G a1 49 (fun _ => 0), zz G a2 3 (fun _ => 0), zi G a3 4 (upd (upd (upd (upd (fun _ => 0) 0 1) 1 1) 2 5) 3 13), zo a0 10 [.int 0, .ref a4, .int 0, .ref a5, .int 0, .ref a6, .ref a7, .ref a8, .ref a9, .ref a10, .int 0, .int 0, .int 0, .int 0, .int 0, .int 0, .int (-1), .int 0, .ref a3, .int 0, .int 0, .ref a11, .int 0, .int 0, .ref a12, .int 0, .int 0, .ref a13, .ref a1, .ref a14, .ref a15, .int 0, .int 0, .ref a16, .ref a2, .ref a17, .ref a18, .ref a19, .int 0, .ref a20, .ref a21, .int 0, .int 0, .ref a22, .ref a23, .ref a24, .ref a25, .ref a26, .int (-1), .ref a27, .ref a28, .ref a29, .ref a30, .ref a31, .ref a32, .ref a33]] _ _ := B
        have hp := hp.symm
        subst hp
        refine W.widen (k := 0) (n := 0) (Nat.le_of_ble_eq_true rfl) (Nat.le_of_ble_eq_true rfl) ?_
        exact z_iret E hr hlocks B (v := 0) (Or.inr (Or.inr (Or.inr (Or.inr (Or.inr (Or.inr (Or.inr (Or.inr (Or.inr (Or.inr (Or.inr (Or.inl ⟨(by first | decide | omega), rfl⟩)))))))))))) (fun t ht => z_q B [] (by decide) rfl ht) dX12_count_247
      · have e_15m : ¬ p0.toInt = 14 := zi_ne e_15
        by_cases e_16 : p0 = 15
        · subst e_16
          refine lv_tableIn (off := 224) (tgt := 248) E.x E.b dX12_count_24 (by decide) (by decide) (by decide +kernel) (by decide) ?_
          refine lv_aload_n E.x E.b dX12_count_248 rfl (lv_at hl 1 rfl) ?_
          refine z_calli E B (wc := [zo a0 10 [.int 0, .ref a4, .int 0, .ref a5, .int 0, .ref a6, .ref a7, .ref a8, .ref a9, .ref a10, .int 0, .int 0, .int 0, .int 0, .int 0, .int 0, .int (-1), .int 0, .ref a3, .int 0, .int 0, .ref a11, .int 0, .int 0, .ref a12, .int 0, .int 0, .ref a13, .ref a1, .ref a14, .ref a15, .int 0, .int 0, .ref a16, .ref a2, .ref a17, .ref a18, .ref a19, .int 0, .ref a20, .ref a21, .int 0, .int 0, .ref a22, .ref a23, .ref a24, .ref a25, .ref a26, .int (-1), .ref a27, .ref a28, .ref a29, .ref a30, .ref a31, .ref a32, .ref a33]]) (wr := [zi G a1 49 (fun _ => 0), zz G a2 3 (fun _ => 0), zi G a3 4 (upd (upd (upd (upd (fun _ => 0) 0 1) 1 1) 2 5) 3 13)]) [0] [1, 2, 3] rfl rfl (by decide) (by decide) (z_runV E B (As := []) (rest := []) [0] rfl (by decide) mv_X12_degree t_1740 0 (ci := 10) rfl rfl rfl (c_X12_degree_230 l G _ a0 a4 a5 a6 a7 a8 a9 a10 a3 a11 a12 a13 a1 a14 a15 a16 a2 a17 a18 a19 a20 a21 a22 a23 a24 a25 a26 a27 a28 a29 a30 a31 a32 a33) rfl rfl ⟨Nat.le_of_ble_eq_true rfl, Nat.le_of_ble_eq_true rfl⟩ rfl hl.1 rfl (Nat.le_of_ble_eq_true rfl) dX12_count_249 ⟨(Nat.le_of_ble_eq_true rfl), (Nat.le_of_ble_eq_true rfl)⟩) (fun r t H locs hp hB J => ?_)
          have hq := hB
          have B := J _ hq
          have B : zB G A s.heap [zi G a1 49 (fun _ => 0), zz G a2 3 (fun _ => 0), zi G a3 4 (upd (upd (upd (upd (fun _ => 0) 0 1) 1 1) 2 5) 3 13), zo a0 10 [.int 0, .ref a4, .int 0, .ref a5, .int 0, .ref a6, .ref a7, .ref a8, .ref a9, .ref a10, .int 0, .int 0, .int 0, .int 0, .int 0, .int 0, .int (-1), .int 0, .ref a3, .int 0, .int 0, .ref a11, .int 0, .int 0, .ref a12, .int 0, .int 0, .ref a13, .ref a1, .ref a14, .ref a15, .int 0, .int 0, .ref a16, .ref a2, .ref a17, .ref a18, .ref a19, .int 0, .ref a20, .ref a21, .int 0, .int 0, .ref a22, .ref a23, .ref a24, .ref a25, .ref a26, .int (-1), .ref a27, .ref a28, .ref a29, .ref a30, .ref a31, .ref a32, .ref a33]] _ _ := B
          have hp := hp.symm
          subst hp
          refine W.widen (k := 0) (n := 0) (Nat.le_of_ble_eq_true rfl) (Nat.le_of_ble_eq_true rfl) ?_
          exact z_iret E hr hlocks B (v := 0) (Or.inr (Or.inr (Or.inr (Or.inr (Or.inr (Or.inr (Or.inr (Or.inr (Or.inr (Or.inr (Or.inr (Or.inr (Or.inl ⟨(by first | decide | omega), rfl⟩))))))))))))) (fun t ht => z_q B [] (by decide) rfl ht) dX12_count_252
        · have e_16m : ¬ p0.toInt = 15 := zi_ne e_16
          by_cases e_17 : p0 = 16
          · subst e_17
            refine lv_tableIn (off := 229) (tgt := 253) E.x E.b dX12_count_24 (by decide) (by decide) (by decide +kernel) (by decide) ?_
            refine lv_aload_n E.x E.b dX12_count_253 rfl (lv_at hl 1 rfl) ?_
            refine z_calli E B (wc := [zo a0 10 [.int 0, .ref a4, .int 0, .ref a5, .int 0, .ref a6, .ref a7, .ref a8, .ref a9, .ref a10, .int 0, .int 0, .int 0, .int 0, .int 0, .int 0, .int (-1), .int 0, .ref a3, .int 0, .int 0, .ref a11, .int 0, .int 0, .ref a12, .int 0, .int 0, .ref a13, .ref a1, .ref a14, .ref a15, .int 0, .int 0, .ref a16, .ref a2, .ref a17, .ref a18, .ref a19, .int 0, .ref a20, .ref a21, .int 0, .int 0, .ref a22, .ref a23, .ref a24, .ref a25, .ref a26, .int (-1), .ref a27, .ref a28, .ref a29, .ref a30, .ref a31, .ref a32, .ref a33], zi G a1 49 (fun _ => 0)]) (wr := [zz G a2 3 (fun _ => 0), zi G a3 4 (upd (upd (upd (upd (fun _ => 0) 0 1) 1 1) 2 5) 3 13)]) [0, 1] [2, 3] rfl rfl (by decide) (by decide) (z_runV E B (As := []) (rest := []) [0, 1] rfl (by decide) mv_X12_sorts t_1744 0 (ci := 10) rfl rfl rfl (c_X12_sorts_231 l G _ a0 a1 a4 a5 a6 a7 a8 a9 a10 a3 a11 a12 a13 a14 a15 a16 a2 a17 a18 a19 a20 a21 a22 a23 a24 a25 a26 a27 a28 a29 a30 a31 a32 a33) rfl rfl ⟨Nat.le_of_ble_eq_true rfl, Nat.le_of_ble_eq_true rfl⟩ rfl hl.1 rfl (Nat.le_of_ble_eq_true rfl) dX12_count_254 ⟨(Nat.le_of_ble_eq_true rfl), (Nat.le_of_ble_eq_true rfl)⟩) (fun r t H locs hp hB J => ?_)
            have hq := hB
            have B := J _ hq
            have B : zB G A s.heap [zz G a2 3 (fun _ => 0), zi G a3 4 (upd (upd (upd (upd (fun _ => 0) 0 1) 1 1) 2 5) 3 13), zo a0 10 [.int 0, .ref a4, .int 0, .ref a5, .int 0, .ref a6, .ref a7, .ref a8, .ref a9, .ref a10, .int 0, .int 0, .int 0, .int 0, .int 0, .int 0, .int (-1), .int 0, .ref a3, .int 0, .int 0, .ref a11, .int 0, .int 0, .ref a12, .int 0, .int 0, .ref a13, .ref a1, .ref a14, .ref a15, .int 0, .int 0, .ref a16, .ref a2, .ref a17, .ref a18, .ref a19, .int 0, .ref a20, .ref a21, .int 0, .int 0, .ref a22, .ref a23, .ref a24, .ref a25, .ref a26, .int (-1), .ref a27, .ref a28, .ref a29, .ref a30, .ref a31, .ref a32, .ref a33], zi G a1 49 (fun _ => 0)] _ _ := B
            have hp := hp.symm
            subst hp
            refine W.widen (k := 0) (n := 0) (Nat.le_of_ble_eq_true rfl) (Nat.le_of_ble_eq_true rfl) ?_
            exact z_iret E hr hlocks B (v := 0) (Or.inr (Or.inr (Or.inr (Or.inr (Or.inr (Or.inr (Or.inr (Or.inr (Or.inr (Or.inr (Or.inr (Or.inr (Or.inr (Or.inl ⟨(by first | decide | omega), rfl⟩)))))))))))))) (fun t ht => z_q B [] (by decide) rfl ht) dX12_count_257
          · have e_17m : ¬ p0.toInt = 16 := zi_ne e_17
            refine lv_tableOut (tgt := 258) E.x E.b dX12_count_24 (by omega) (by decide) ?_
            refine lv_iconst (v := (-1)) E.x E.b dX12_count_258 (by decide) ?_
            refine W.widen (k := 0) (n := 0) (Nat.le_of_ble_eq_true rfl) (Nat.le_of_ble_eq_true rfl) ?_
            exact z_iret E hr hlocks B (v := (-1)) (Or.inr (Or.inr (Or.inr (Or.inr (Or.inr (Or.inr (Or.inr (Or.inr (Or.inr (Or.inr (Or.inr (Or.inr (Or.inr (Or.inr (Or.inl ⟨(by first | decide | omega), rfl⟩))))))))))))))) (fun t ht => z_q B [] (by decide) rfl ht) dX12_count_259
  · skip
    refine lv_if_eq (tgt := 21) E.x E.b dX12_count_8 (by decide) (fun c => absurd c (by decide +kernel)) (fun _ => ?_)
    refine lv_aload_n E.x E.b dX12_count_11 rfl (lv_at hl 0 rfl) ?_
    refine z_get E B z_inX12 (ci := 10) rfl 18 (by decide) t_1210 0 rfl rfl dX12_count_12 ?_
    refine lv_iload_n E.x E.b dX12_count_15 rfl (lv_at hl 1 rfl) ?_
    refine lv_bipush (v := 9) E.x E.b dX12_count_16 (by decide) ?_
    by_cases e_18 : p0 = 9
    · subst e_18
      refine lv_isub E.x E.b dX12_count_18 (z_topi 0 (by decide +kernel) ?_)
      refine z_iald E B 3 rfl (show ¬ ((0 : Int32) < 0 ∨ 4 ≤ (0 : Int32).toNatClampNeg) by decide +kernel) dX12_count_19 (z_topi 1 (by decide +kernel) ?_)
      refine W.widen (k := 0) (n := 0) (Nat.le_of_ble_eq_true rfl) (Nat.le_of_ble_eq_true rfl) ?_
      exact z_iret E hr hlocks B (v := 1) (Or.inr (Or.inr (Or.inr (Or.inr (Or.inr (Or.inr (Or.inr (Or.inr (Or.inr (Or.inr (Or.inr (Or.inr (Or.inr (Or.inr (Or.inr (Or.inl ⟨(by first | decide | omega), rfl⟩)))))))))))))))) (fun t ht => z_q B [] (by decide) rfl ht) dX12_count_20
    · have e_18m : ¬ p0.toInt = 9 := zi_ne e_18
      by_cases e_19 : p0 = 10
      · subst e_19
        refine lv_isub E.x E.b dX12_count_18 (z_topi 1 (by decide +kernel) ?_)
        refine z_iald E B 3 rfl (show ¬ ((1 : Int32) < 0 ∨ 4 ≤ (1 : Int32).toNatClampNeg) by decide +kernel) dX12_count_19 (z_topi 1 (by decide +kernel) ?_)
        refine W.widen (k := 0) (n := 0) (Nat.le_of_ble_eq_true rfl) (Nat.le_of_ble_eq_true rfl) ?_
        exact z_iret E hr hlocks B (v := 1) (Or.inr (Or.inr (Or.inr (Or.inr (Or.inr (Or.inr (Or.inr (Or.inr (Or.inr (Or.inr (Or.inr (Or.inr (Or.inr (Or.inr (Or.inr (Or.inr (Or.inl ⟨(by first | decide | omega), rfl⟩))))))))))))))))) (fun t ht => z_q B [] (by decide) rfl ht) dX12_count_20
      · have e_19m : ¬ p0.toInt = 10 := zi_ne e_19
        by_cases e_20 : p0 = 11
        · subst e_20
          refine lv_isub E.x E.b dX12_count_18 (z_topi 2 (by decide +kernel) ?_)
          refine z_iald E B 3 rfl (show ¬ ((2 : Int32) < 0 ∨ 4 ≤ (2 : Int32).toNatClampNeg) by decide +kernel) dX12_count_19 (z_topi 5 (by decide +kernel) ?_)
          refine W.widen (k := 0) (n := 0) (Nat.le_of_ble_eq_true rfl) (Nat.le_of_ble_eq_true rfl) ?_
          exact z_iret E hr hlocks B (v := 5) (Or.inr (Or.inr (Or.inr (Or.inr (Or.inr (Or.inr (Or.inr (Or.inr (Or.inr (Or.inr (Or.inr (Or.inr (Or.inr (Or.inr (Or.inr (Or.inr (Or.inr (Or.inl ⟨(by first | decide | omega), rfl⟩)))))))))))))))))) (fun t ht => z_q B [] (by decide) rfl ht) dX12_count_20
        · have e_20m : ¬ p0.toInt = 11 := zi_ne e_20
          by_cases e_21 : p0 = 12
          · subst e_21
            refine lv_isub E.x E.b dX12_count_18 (z_topi 3 (by decide +kernel) ?_)
            refine z_iald E B 3 rfl (show ¬ ((3 : Int32) < 0 ∨ 4 ≤ (3 : Int32).toNatClampNeg) by decide +kernel) dX12_count_19 (z_topi 13 (by decide +kernel) ?_)
            refine W.widen (k := 0) (n := 0) (Nat.le_of_ble_eq_true rfl) (Nat.le_of_ble_eq_true rfl) ?_
            exact z_iret E hr hlocks B (v := 13) (Or.inr (Or.inr (Or.inr (Or.inr (Or.inr (Or.inr (Or.inr (Or.inr (Or.inr (Or.inr (Or.inr (Or.inr (Or.inr (Or.inr (Or.inr (Or.inr (Or.inr (Or.inr (⟨(by first | decide | omega), rfl⟩))))))))))))))))))) (fun t ht => z_q B [] (by decide) rfl ht) dX12_count_20
          · exfalso
            have e_21n := zi_ne e_21
            have e_21m : ¬ p0.toInt = 12 := e_21n
            omega
