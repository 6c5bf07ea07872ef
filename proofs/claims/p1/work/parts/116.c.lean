set_option maxHeartbeats 4000000 in
set_option maxRecDepth 100000 in
theorem c_X12_laysBecome_177 (l : Launch) (G : zGT) (sz : Nat) (a0 a1 a2 a3 a4 a5 a6 a7 a8 a9 a10 a11 a12 a13 a14 a15 a16 a17 a18 a19 a20 a21 a22 a23 a24 a25 a26 a27 a28 a29 a30 a31 a32 a33 : Nat) (p0 : Int32) (hp0 : 0 ≤ p0.toInt) (hp1 : p0.toInt ≤ 3) : Met l yX12_laysBecome (.code yX12_laysBecome cX12_laysBecome 3 none :: zT) ({ frames := 2, cells := 0, slots := 0, locals := 115 }) (va_Pc [.ref a0, .int p0] (zPc G [zo a0 10 [.int 0, .ref a4, .int 0, .ref a5, .int 0, .ref a6, .ref a7, .ref a8, .ref a9, .ref a10, .int 0, .int 0, .int 0, .int 0, .int 0, .int 0, .int (-1), .int 0, .ref a11, .int 0, .int 0, .ref a12, .int 0, .int 0, .ref a13, .int 0, .int 0, .ref a14, .ref a2, .ref a15, .ref a16, .int 0, .int 0, .ref a17, .ref a18, .ref a1, .ref a19, .ref a3, .int 0, .ref a20, .ref a21, .int 0, .int 0, .ref a22, .ref a23, .ref a24, .ref a25, .ref a26, .int (-1), .ref a27, .ref a28, .ref a29, .ref a30, .ref a31, .ref a32, .ref a33], zi G a1 64 (fun _ => 0), zi G a2 49 (fun _ => 0), zi G a3 49 (fun _ => 0)] sz)) ((fun A => va_Qv (fun (_ : Unit) => True) (fun (_ : Unit) t => zQ G [zo a0 10 [.int 0, .ref a4, .int 0, .ref a5, .int 0, .ref a6, .ref a7, .ref a8, .ref a9, .ref a10, .int 0, .int 0, .int 0, .int 0, .int 0, .int 0, .int (-1), .int 0, .ref a11, .int 0, .int 0, .ref a12, .int 0, .int 0, .ref a13, .int 0, .int 0, .ref a14, .ref a2, .ref a15, .ref a16, .int 0, .int 0, .ref a17, .ref a18, .ref a1, .ref a19, .ref a3, .int 0, .ref a20, .ref a21, .int 0, .int 0, .ref a22, .ref a23, .ref a24, .ref a25, .ref a26, .int (-1), .ref a27, .ref a28, .ref a29, .ref a30, .ref a31, .ref a32, .ref a33], zi G a1 64 (fun _ => 0), zi G a2 49 (fun _ => 0), zi G a3 49 (fun _ => 0)] A t) A) (va_A [zo a0 10 [.int 0, .ref a4, .int 0, .ref a5, .int 0, .ref a6, .ref a7, .ref a8, .ref a9, .ref a10, .int 0, .int 0, .int 0, .int 0, .int 0, .int 0, .int (-1), .int 0, .ref a11, .int 0, .int 0, .ref a12, .int 0, .int 0, .ref a13, .int 0, .int 0, .ref a14, .ref a2, .ref a15, .ref a16, .int 0, .int 0, .ref a17, .ref a18, .ref a1, .ref a19, .ref a3, .int 0, .ref a20, .ref a21, .int 0, .int 0, .ref a22, .ref a23, .ref a24, .ref a25, .ref a26, .int (-1), .ref a27, .ref a28, .ref a29, .ref a30, .ref a31, .ref a32, .ref a33], zi G a1 64 (fun _ => 0), zi G a2 49 (fun _ => 0), zi G a3 49 (fun _ => 0)] sz)) 0 0 (va_A [zo a0 10 [.int 0, .ref a4, .int 0, .ref a5, .int 0, .ref a6, .ref a7, .ref a8, .ref a9, .ref a10, .int 0, .int 0, .int 0, .int 0, .int 0, .int 0, .int (-1), .int 0, .ref a11, .int 0, .int 0, .ref a12, .int 0, .int 0, .ref a13, .int 0, .int 0, .ref a14, .ref a2, .ref a15, .ref a16, .int 0, .int 0, .ref a17, .ref a18, .ref a1, .ref a19, .ref a3, .int 0, .ref a20, .ref a21, .int 0, .int 0, .ref a22, .ref a23, .ref a24, .ref a25, .ref a26, .int (-1), .ref a27, .ref a28, .ref a29, .ref a30, .ref a31, .ref a32, .ref a33], zi G a1 64 (fun _ => 0), zi G a2 49 (fun _ => 0), zi G a3 49 (fun _ => 0)] sz) := by
  refine z_start (QA := (fun A => va_Qv (fun (_ : Unit) => True) (fun (_ : Unit) t => zQ G [zo a0 10 [.int 0, .ref a4, .int 0, .ref a5, .int 0, .ref a6, .ref a7, .ref a8, .ref a9, .ref a10, .int 0, .int 0, .int 0, .int 0, .int 0, .int 0, .int (-1), .int 0, .ref a11, .int 0, .int 0, .ref a12, .int 0, .int 0, .ref a13, .int 0, .int 0, .ref a14, .ref a2, .ref a15, .ref a16, .int 0, .int 0, .ref a17, .ref a18, .ref a1, .ref a19, .ref a3, .int 0, .ref a20, .ref a21, .int 0, .int 0, .ref a22, .ref a23, .ref a24, .ref a25, .ref a26, .int (-1), .ref a27, .ref a28, .ref a29, .ref a30, .ref a31, .ref a32, .ref a33], zi G a1 64 (fun _ => 0), zi G a2 49 (fun _ => 0), zi G a3 49 (fun _ => 0)] A t) A)) (by decide) ⟨Nat.le_of_ble_eq_true rfl, trivial⟩ ?_
  intro p e s m below meth c A ls E B hr hlocks hin hl
  have hl : lv_has ls 3 [(0, .ref a0), (1, .int p0)] := hl
  have B : zB G A s.heap [zo a0 10 [.int 0, .ref a4, .int 0, .ref a5, .int 0, .ref a6, .ref a7, .ref a8, .ref a9, .ref a10, .int 0, .int 0, .int 0, .int 0, .int 0, .int 0, .int (-1), .int 0, .ref a11, .int 0, .int 0, .ref a12, .int 0, .int 0, .ref a13, .int 0, .int 0, .ref a14, .ref a2, .ref a15, .ref a16, .int 0, .int 0, .ref a17, .ref a18, .ref a1, .ref a19, .ref a3, .int 0, .ref a20, .ref a21, .int 0, .int 0, .ref a22, .ref a23, .ref a24, .ref a25, .ref a26, .int (-1), .ref a27, .ref a28, .ref a29, .ref a30, .ref a31, .ref a32, .ref a33], zi G a1 64 (fun _ => 0), zi G a2 49 (fun _ => 0), zi G a3 49 (fun _ => 0)] s.heap [] := B
  refine lv_iload_n E.x E.b dX12_laysBecome_0 rfl (lv_at hl 1 rfl) ?_
  refine lv_if_ne (tgt := 8) E.x E.b dX12_laysBecome_1 (by decide) (fun c_1 => ?_) (fun c_1 => ?_)
  · have c_1f : ¬ p0.toInt = 0 := zi_ne c_1
    refine lv_iload_n E.x E.b dX12_laysBecome_8 rfl (lv_at hl 1 rfl) ?_
    refine lv_iconst (v := 3) E.x E.b dX12_laysBecome_9 (by decide) ?_
    refine lv_icmp_ne (tgt := 59) E.x E.b dX12_laysBecome_10 (by decide) (fun c_2 => ?_) (fun c_2 => ?_)
    · have c_2f : ¬ p0.toInt = 3 := zi_ne c_2
      refine lv_iload_n E.x E.b dX12_laysBecome_59 rfl (lv_at hl 1 rfl) ?_
      refine lv_iconst (v := 1) E.x E.b dX12_laysBecome_60 (by decide) ?_
      refine lv_icmp_eq (tgt := 69) E.x E.b dX12_laysBecome_61 (by decide) (fun c_3 => ?_) (fun c_3 => ?_)
      · have c_3f : p0.toInt = 1 := zi_eq c_3
        obtain rfl := zi_pt (x := p0) 1 (by show p0.toInt = 1; omega)
        refine lv_aload_n E.x E.b dX12_laysBecome_69 rfl (lv_at hl 0 rfl) ?_
        refine lv_aload_n E.x E.b dX12_laysBecome_70 rfl (lv_at hl 0 rfl) ?_
        refine z_get E B z_inX12 (ci := 10) rfl 28 (by decide) t_1220 0 rfl rfl dX12_laysBecome_71 ?_
        refine z_callv E B (wc := [zo a0 10 [.int 0, .ref a4, .int 0, .ref a5, .int 0, .ref a6, .ref a7, .ref a8, .ref a9, .ref a10, .int 0, .int 0, .int 0, .int 0, .int 0, .int 0, .int (-1), .int 0, .ref a11, .int 0, .int 0, .ref a12, .int 0, .int 0, .ref a13, .int 0, .int 0, .ref a14, .ref a2, .ref a15, .ref a16, .int 0, .int 0, .ref a17, .ref a18, .ref a1, .ref a19, .ref a3, .int 0, .ref a20, .ref a21, .int 0, .int 0, .ref a22, .ref a23, .ref a24, .ref a25, .ref a26, .int (-1), .ref a27, .ref a28, .ref a29, .ref a30, .ref a31, .ref a32, .ref a33], zi G a1 64 (fun _ => 0), zi G a2 49 (fun _ => 0)]) (wr := [zi G a3 49 (fun _ => 0)]) [0, 1, 2] [3] rfl rfl (by decide) (by decide) (z_runV E B (As := [.ref a2]) (rest := []) [0, 1, 2] rfl (by decide) mv_X12_laysOrder t_1535 0 (ci := 10) rfl rfl rfl (c_X12_laysOrder_169 l G _ a0 a2 a1 a4 a5 a6 a7 a8 a9 a10 a11 a12 a13 a14 a15 a16 a17 a18 a19 a3 a20 a21 a22 a23 a24 a25 a26 a27 a28 a29 a30 a31 a32 a33) rfl rfl ⟨Nat.le_of_ble_eq_true rfl, Nat.le_of_ble_eq_true rfl⟩ rfl hl.1 rfl (Nat.le_of_ble_eq_true rfl) dX12_laysBecome_74 ⟨(Nat.le_of_ble_eq_true rfl), (Nat.le_of_ble_eq_true rfl)⟩) (fun  t H locs hp hB J => ?_)
        have hq := hB
        have B := J _ hq
        have B : zB G A s.heap [zi G a3 49 (fun _ => 0), zo a0 10 [.int 0, .ref a4, .int 0, .ref a5, .int 0, .ref a6, .ref a7, .ref a8, .ref a9, .ref a10, .int 0, .int 0, .int 0, .int 0, .int 0, .int 0, .int (-1), .int 0, .ref a11, .int 0, .int 0, .ref a12, .int 0, .int 0, .ref a13, .int 0, .int 0, .ref a14, .ref a2, .ref a15, .ref a16, .int 0, .int 0, .ref a17, .ref a18, .ref a1, .ref a19, .ref a3, .int 0, .ref a20, .ref a21, .int 0, .int 0, .ref a22, .ref a23, .ref a24, .ref a25, .ref a26, .int (-1), .ref a27, .ref a28, .ref a29, .ref a30, .ref a31, .ref a32, .ref a33], zi G a1 64 (fun _ => 0), zi G a2 49 (fun _ => 0)] _ _ := B
        refine lv_aload_n E.x E.b dX12_laysBecome_77 rfl (lv_at hl 0 rfl) ?_
        refine lv_aload_n E.x E.b dX12_laysBecome_78 rfl (lv_at hl 0 rfl) ?_
        refine z_get E B z_inX12 (ci := 10) rfl 17 (by decide) t_1209 1 rfl rfl dX12_laysBecome_79 ?_
        refine lv_iload_n E.x E.b dX12_laysBecome_82 rfl (lv_at hl 1 rfl) ?_
        refine lv_iconst (v := 2) E.x E.b dX12_laysBecome_83 (by decide) ?_
        refine lv_icmp_ne (tgt := 91) E.x E.b dX12_laysBecome_84 (by decide) (fun _ => ?_) (fun c => absurd c (by decide +kernel))
        refine lv_iconst (v := 0) E.x E.b dX12_laysBecome_91 (by decide) ?_
        refine z_callv E B (wc := [zo a0 10 [.int 0, .ref a4, .int 0, .ref a5, .int 0, .ref a6, .ref a7, .ref a8, .ref a9, .ref a10, .int 0, .int 0, .int 0, .int 0, .int 0, .int 0, .int (-1), .int 0, .ref a11, .int 0, .int 0, .ref a12, .int 0, .int 0, .ref a13, .int 0, .int 0, .ref a14, .ref a2, .ref a15, .ref a16, .int 0, .int 0, .ref a17, .ref a18, .ref a1, .ref a19, .ref a3, .int 0, .ref a20, .ref a21, .int 0, .int 0, .ref a22, .ref a23, .ref a24, .ref a25, .ref a26, .int (-1), .ref a27, .ref a28, .ref a29, .ref a30, .ref a31, .ref a32, .ref a33], zi G a1 64 (fun _ => 0)]) (wr := [zi G a3 49 (fun _ => 0), zi G a2 49 (fun _ => 0)]) [1, 2] [0, 3] rfl rfl (by decide) (by decide) (z_runV E B (As := [.int 0, .int 0]) (rest := []) [1, 2] rfl (by decide) mv_X12_laysFound t_1539 0 (ci := 10) rfl rfl rfl (c_X12_laysFound_170 l G _ a0 a1 a4 a5 a6 a7 a8 a9 a10 a11 a12 a13 a14 a2 a15 a16 a17 a18 a19 a3 a20 a21 a22 a23 a24 a25 a26 a27 a28 a29 a30 a31 a32 a33) rfl rfl ⟨Nat.le_of_ble_eq_true rfl, Nat.le_of_ble_eq_true rfl⟩ rfl hl.1 rfl (Nat.le_of_ble_eq_true rfl) dX12_laysBecome_92 ⟨(Nat.le_of_ble_eq_true rfl), (Nat.le_of_ble_eq_true rfl)⟩) (fun  t H locs hp hB J => ?_)
        have hq := hB
        have B := J _ hq
        have B : zB G A s.heap [zi G a3 49 (fun _ => 0), zi G a2 49 (fun _ => 0), zo a0 10 [.int 0, .ref a4, .int 0, .ref a5, .int 0, .ref a6, .ref a7, .ref a8, .ref a9, .ref a10, .int 0, .int 0, .int 0, .int 0, .int 0, .int 0, .int (-1), .int 0, .ref a11, .int 0, .int 0, .ref a12, .int 0, .int 0, .ref a13, .int 0, .int 0, .ref a14, .ref a2, .ref a15, .ref a16, .int 0, .int 0, .ref a17, .ref a18, .ref a1, .ref a19, .ref a3, .int 0, .ref a20, .ref a21, .int 0, .int 0, .ref a22, .ref a23, .ref a24, .ref a25, .ref a26, .int (-1), .ref a27, .ref a28, .ref a29, .ref a30, .ref a31, .ref a32, .ref a33], zi G a1 64 (fun _ => 0)] _ _ := B
        refine lv_iload_n E.x E.b dX12_laysBecome_95 rfl (lv_at hl 1 rfl) ?_
        refine lv_iconst (v := 4) E.x E.b dX12_laysBecome_96 (by decide) ?_
        refine lv_icmp_ne (tgt := 104) E.x E.b dX12_laysBecome_97 (by decide) (fun _ => ?_) (fun c => absurd c (by decide +kernel))
        refine lv_iload_n E.x E.b dX12_laysBecome_104 rfl (lv_at hl 1 rfl) ?_
        refine lv_if_eq (tgt := 113) E.x E.b dX12_laysBecome_105 (by decide) (fun c => absurd c (by decide +kernel)) (fun _ => ?_)
        refine lv_iload_n E.x E.b dX12_laysBecome_108 rfl (lv_at hl 1 rfl) ?_
        refine lv_iconst (v := 3) E.x E.b dX12_laysBecome_109 (by decide) ?_
        refine lv_icmp_ne (tgt := 114) E.x E.b dX12_laysBecome_110 (by decide) (fun _ => ?_) (fun c => absurd c (by decide +kernel))
        refine lv_aload_n E.x E.b dX12_laysBecome_114 rfl (lv_at hl 0 rfl) ?_
        refine z_get E B z_inX12 (ci := 10) rfl 37 (by decide) t_1229 2 rfl rfl dX12_laysBecome_115 ?_
        refine lv_iconst (v := 0) E.x E.b dX12_laysBecome_118 (by decide) ?_
        refine lv_aload_n E.x E.b dX12_laysBecome_119 rfl (lv_at hl 0 rfl) ?_
        refine z_get E B z_inX12 (ci := 10) rfl 38 (by decide) t_1230 2 rfl rfl dX12_laysBecome_120 ?_
        refine z_iast0 E B 0 rfl (show ¬ ((0 : Int32) < 0 ∨ 49 ≤ (0 : Int32).toNatClampNeg) by decide +kernel) dX12_laysBecome_123 (fun H locs B => ?_)
        have B : zB G A s.heap [zi G a3 49 (fun _ => 0), zi G a2 49 (fun _ => 0), zo a0 10 [.int 0, .ref a4, .int 0, .ref a5, .int 0, .ref a6, .ref a7, .ref a8, .ref a9, .ref a10, .int 0, .int 0, .int 0, .int 0, .int 0, .int 0, .int (-1), .int 0, .ref a11, .int 0, .int 0, .ref a12, .int 0, .int 0, .ref a13, .int 0, .int 0, .ref a14, .ref a2, .ref a15, .ref a16, .int 0, .int 0, .ref a17, .ref a18, .ref a1, .ref a19, .ref a3, .int 0, .ref a20, .ref a21, .int 0, .int 0, .ref a22, .ref a23, .ref a24, .ref a25, .ref a26, .int (-1), .ref a27, .ref a28, .ref a29, .ref a30, .ref a31, .ref a32, .ref a33], zi G a1 64 (fun _ => 0)] _ _ := B
        refine lv_iconst (v := 0) E.x E.b dX12_laysBecome_124 (by decide) ?_
        refine lv_istore_n (lv' := [(2, .int 0), (0, .ref a0), (1, .int 1)]) E.x E.b dX12_laysBecome_125 rfl hl (by decide) rfl (fun ls hl => ?_)
        refine lv_iload_n E.x E.b dX12_laysBecome_126 rfl (lv_at hl 0 rfl) ?_
        refine lv_aload_n E.x E.b dX12_laysBecome_127 rfl (lv_at hl 1 rfl) ?_
        refine z_get E B z_inX12 (ci := 10) rfl 38 (by decide) t_1230 2 rfl rfl dX12_laysBecome_128 ?_
        refine lv_icmp_ge (tgt := 167) E.x E.b dX12_laysBecome_131 (by decide) (fun _ => ?_) (fun c => absurd (by decide +kernel) c)
        refine W.widen (k := 0) (n := 0) (Nat.le_of_ble_eq_true rfl) (Nat.le_of_ble_eq_true rfl) ?_
        exact z_vret E hr hlocks B trivial (fun t ht => z_q B [2, 3, 1, 0] (by decide) rfl ht) dX12_laysBecome_167
      · have c_3f : ¬ p0.toInt = 1 := zi_ne c_3
        obtain rfl := zi_pt (x := p0) 2 (by show p0.toInt = 2; omega)
        refine lv_iload_n E.x E.b dX12_laysBecome_64 rfl (lv_at hl 1 rfl) ?_
        refine lv_iconst (v := 2) E.x E.b dX12_laysBecome_65 (by decide) ?_
        refine lv_icmp_ne (tgt := 95) E.x E.b dX12_laysBecome_66 (by decide) (fun c => absurd (by decide +kernel) c) (fun _ => ?_)
        refine lv_aload_n E.x E.b dX12_laysBecome_69 rfl (lv_at hl 0 rfl) ?_
        refine lv_aload_n E.x E.b dX12_laysBecome_70 rfl (lv_at hl 0 rfl) ?_
        refine z_get E B z_inX12 (ci := 10) rfl 28 (by decide) t_1220 0 rfl rfl dX12_laysBecome_71 ?_
        refine z_callv E B (wc := [zo a0 10 [.int 0, .ref a4, .int 0, .ref a5, .int 0, .ref a6, .ref a7, .ref a8, .ref a9, .ref a10, .int 0, .int 0, .int 0, .int 0, .int 0, .int 0, .int (-1), .int 0, .ref a11, .int 0, .int 0, .ref a12, .int 0, .int 0, .ref a13, .int 0, .int 0, .ref a14, .ref a2, .ref a15, .ref a16, .int 0, .int 0, .ref a17, .ref a18, .ref a1, .ref a19, .ref a3, .int 0, .ref a20, .ref a21, .int 0, .int 0, .ref a22, .ref a23, .ref a24, .ref a25, .ref a26, .int (-1), .ref a27, .ref a28, .ref a29, .ref a30, .ref a31, .ref a32, .ref a33], zi G a1 64 (fun _ => 0), zi G a2 49 (fun _ => 0)]) (wr := [zi G a3 49 (fun _ => 0)]) [0, 1, 2] [3] rfl rfl (by decide) (by decide) (z_runV E B (As := [.ref a2]) (rest := []) [0, 1, 2] rfl (by decide) mv_X12_laysOrder t_1535 0 (ci := 10) rfl rfl rfl (c_X12_laysOrder_169 l G _ a0 a2 a1 a4 a5 a6 a7 a8 a9 a10 a11 a12 a13 a14 a15 a16 a17 a18 a19 a3 a20 a21 a22 a23 a24 a25 a26 a27 a28 a29 a30 a31 a32 a33) rfl rfl ⟨Nat.le_of_ble_eq_true rfl, Nat.le_of_ble_eq_true rfl⟩ rfl hl.1 rfl (Nat.le_of_ble_eq_true rfl) dX12_laysBecome_74 ⟨(Nat.le_of_ble_eq_true rfl), (Nat.le_of_ble_eq_true rfl)⟩) (fun  t H locs hp hB J => ?_)
        have hq := hB
        have B := J _ hq
        have B : zB G A s.heap [zi G a3 49 (fun _ => 0), zo a0 10 [.int 0, .ref a4, .int 0, .ref a5, .int 0, .ref a6, .ref a7, .ref a8, .ref a9, .ref a10, .int 0, .int 0, .int 0, .int 0, .int 0, .int 0, .int (-1), .int 0, .ref a11, .int 0, .int 0, .ref a12, .int 0, .int 0, .ref a13, .int 0, .int 0, .ref a14, .ref a2, .ref a15, .ref a16, .int 0, .int 0, .ref a17, .ref a18, .ref a1, .ref a19, .ref a3, .int 0, .ref a20, .ref a21, .int 0, .int 0, .ref a22, .ref a23, .ref a24, .ref a25, .ref a26, .int (-1), .ref a27, .ref a28, .ref a29, .ref a30, .ref a31, .ref a32, .ref a33], zi G a1 64 (fun _ => 0), zi G a2 49 (fun _ => 0)] _ _ := B
        refine lv_aload_n E.x E.b dX12_laysBecome_77 rfl (lv_at hl 0 rfl) ?_
        refine lv_aload_n E.x E.b dX12_laysBecome_78 rfl (lv_at hl 0 rfl) ?_
        refine z_get E B z_inX12 (ci := 10) rfl 17 (by decide) t_1209 1 rfl rfl dX12_laysBecome_79 ?_
        refine lv_iload_n E.x E.b dX12_laysBecome_82 rfl (lv_at hl 1 rfl) ?_
        refine lv_iconst (v := 2) E.x E.b dX12_laysBecome_83 (by decide) ?_
        refine lv_icmp_ne (tgt := 91) E.x E.b dX12_laysBecome_84 (by decide) (fun c => absurd (by decide +kernel) c) (fun _ => ?_)
        refine lv_iconst (v := 1) E.x E.b dX12_laysBecome_87 (by decide) ?_
        refine lv_goto (tgt := 92) E.x E.b dX12_laysBecome_88 (by decide) ?_
        refine z_callv E B (wc := [zo a0 10 [.int 0, .ref a4, .int 0, .ref a5, .int 0, .ref a6, .ref a7, .ref a8, .ref a9, .ref a10, .int 0, .int 0, .int 0, .int 0, .int 0, .int 0, .int (-1), .int 0, .ref a11, .int 0, .int 0, .ref a12, .int 0, .int 0, .ref a13, .int 0, .int 0, .ref a14, .ref a2, .ref a15, .ref a16, .int 0, .int 0, .ref a17, .ref a18, .ref a1, .ref a19, .ref a3, .int 0, .ref a20, .ref a21, .int 0, .int 0, .ref a22, .ref a23, .ref a24, .ref a25, .ref a26, .int (-1), .ref a27, .ref a28, .ref a29, .ref a30, .ref a31, .ref a32, .ref a33], zi G a1 64 (fun _ => 0)]) (wr := [zi G a3 49 (fun _ => 0), zi G a2 49 (fun _ => 0)]) [1, 2] [0, 3] rfl rfl (by decide) (by decide) (z_runV E B (As := [.int 0, .int 1]) (rest := []) [1, 2] rfl (by decide) mv_X12_laysFound t_1539 0 (ci := 10) rfl rfl rfl (c_X12_laysFound_172 l G _ a0 a1 a4 a5 a6 a7 a8 a9 a10 a11 a12 a13 a14 a2 a15 a16 a17 a18 a19 a3 a20 a21 a22 a23 a24 a25 a26 a27 a28 a29 a30 a31 a32 a33) rfl rfl ⟨Nat.le_of_ble_eq_true rfl, Nat.le_of_ble_eq_true rfl⟩ rfl hl.1 rfl (Nat.le_of_ble_eq_true rfl) dX12_laysBecome_92 ⟨(Nat.le_of_ble_eq_true rfl), (Nat.le_of_ble_eq_true rfl)⟩) (fun  t H locs hp hB J => ?_)
        have hq := hB
        have B := J _ hq
        have B : zB G A s.heap [zi G a3 49 (fun _ => 0), zi G a2 49 (fun _ => 0), zo a0 10 [.int 0, .ref a4, .int 0, .ref a5, .int 0, .ref a6, .ref a7, .ref a8, .ref a9, .ref a10, .int 0, .int 0, .int 0, .int 0, .int 0, .int 0, .int (-1), .int 0, .ref a11, .int 0, .int 0, .ref a12, .int 0, .int 0, .ref a13, .int 0, .int 0, .ref a14, .ref a2, .ref a15, .ref a16, .int 0, .int 0, .ref a17, .ref a18, .ref a1, .ref a19, .ref a3, .int 0, .ref a20, .ref a21, .int 0, .int 0, .ref a22, .ref a23, .ref a24, .ref a25, .ref a26, .int (-1), .ref a27, .ref a28, .ref a29, .ref a30, .ref a31, .ref a32, .ref a33], zi G a1 64 (fun _ => 0)] _ _ := B
        refine lv_iload_n E.x E.b dX12_laysBecome_95 rfl (lv_at hl 1 rfl) ?_
        refine lv_iconst (v := 4) E.x E.b dX12_laysBecome_96 (by decide) ?_
        refine lv_icmp_ne (tgt := 104) E.x E.b dX12_laysBecome_97 (by decide) (fun _ => ?_) (fun c => absurd c (by decide +kernel))
        refine lv_iload_n E.x E.b dX12_laysBecome_104 rfl (lv_at hl 1 rfl) ?_
        refine lv_if_eq (tgt := 113) E.x E.b dX12_laysBecome_105 (by decide) (fun c => absurd c (by decide +kernel)) (fun _ => ?_)
        refine lv_iload_n E.x E.b dX12_laysBecome_108 rfl (lv_at hl 1 rfl) ?_
        refine lv_iconst (v := 3) E.x E.b dX12_laysBecome_109 (by decide) ?_
        refine lv_icmp_ne (tgt := 114) E.x E.b dX12_laysBecome_110 (by decide) (fun _ => ?_) (fun c => absurd c (by decide +kernel))
        refine lv_aload_n E.x E.b dX12_laysBecome_114 rfl (lv_at hl 0 rfl) ?_
        refine z_get E B z_inX12 (ci := 10) rfl 37 (by decide) t_1229 2 rfl rfl dX12_laysBecome_115 ?_
        refine lv_iconst (v := 0) E.x E.b dX12_laysBecome_118 (by decide) ?_
        refine lv_aload_n E.x E.b dX12_laysBecome_119 rfl (lv_at hl 0 rfl) ?_
        refine z_get E B z_inX12 (ci := 10) rfl 38 (by decide) t_1230 2 rfl rfl dX12_laysBecome_120 ?_
        refine z_iast0 E B 0 rfl (show ¬ ((0 : Int32) < 0 ∨ 49 ≤ (0 : Int32).toNatClampNeg) by decide +kernel) dX12_laysBecome_123 (fun H locs B => ?_)
        have B : zB G A s.heap [zi G a3 49 (fun _ => 0), zi G a2 49 (fun _ => 0), zo a0 10 [.int 0, .ref a4, .int 0, .ref a5, .int 0, .ref a6, .ref a7, .ref a8, .ref a9, .ref a10, .int 0, .int 0, .int 0, .int 0, .int 0, .int 0, .int (-1), .int 0, .ref a11, .int 0, .int 0, .ref a12, .int 0, .int 0, .ref a13, .int 0, .int 0, .ref a14, .ref a2, .ref a15, .ref a16, .int 0, .int 0, .ref a17, .ref a18, .ref a1, .ref a19, .ref a3, .int 0, .ref a20, .ref a21, .int 0, .int 0, .ref a22, .ref a23, .ref a24, .ref a25, .ref a26, .int (-1), .ref a27, .ref a28, .ref a29, .ref a30, .ref a31, .ref a32, .ref a33], zi G a1 64 (fun _ => 0)] _ _ := B
        refine lv_iconst (v := 0) E.x E.b dX12_laysBecome_124 (by decide) ?_
        refine lv_istore_n (lv' := [(2, .int 0), (0, .ref a0), (1, .int 2)]) E.x E.b dX12_laysBecome_125 rfl hl (by decide) rfl (fun ls hl => ?_)
        refine lv_iload_n E.x E.b dX12_laysBecome_126 rfl (lv_at hl 0 rfl) ?_
        refine lv_aload_n E.x E.b dX12_laysBecome_127 rfl (lv_at hl 1 rfl) ?_
        refine z_get E B z_inX12 (ci := 10) rfl 38 (by decide) t_1230 2 rfl rfl dX12_laysBecome_128 ?_
        refine lv_icmp_ge (tgt := 167) E.x E.b dX12_laysBecome_131 (by decide) (fun _ => ?_) (fun c => absurd (by decide +kernel) c)
        refine W.widen (k := 0) (n := 0) (Nat.le_of_ble_eq_true rfl) (Nat.le_of_ble_eq_true rfl) ?_
        exact z_vret E hr hlocks B trivial (fun t ht => z_q B [2, 3, 1, 0] (by decide) rfl ht) dX12_laysBecome_167
    · have c_2f : p0.toInt = 3 := zi_eq c_2
      obtain rfl := zi_pt (x := p0) 3 (by show p0.toInt = 3; omega)
      refine lv_aload_n E.x E.b dX12_laysBecome_13 rfl (lv_at hl 0 rfl) ?_
      refine z_get E B z_inX12 (ci := 10) rfl 37 (by decide) t_1229 0 rfl rfl dX12_laysBecome_14 ?_
      refine lv_iconst (v := 0) E.x E.b dX12_laysBecome_17 (by decide) ?_
      refine lv_aload_n E.x E.b dX12_laysBecome_18 rfl (lv_at hl 0 rfl) ?_
      refine z_calli E B (wc := [zo a0 10 [.int 0, .ref a4, .int 0, .ref a5, .int 0, .ref a6, .ref a7, .ref a8, .ref a9, .ref a10, .int 0, .int 0, .int 0, .int 0, .int 0, .int 0, .int (-1), .int 0, .ref a11, .int 0, .int 0, .ref a12, .int 0, .int 0, .ref a13, .int 0, .int 0, .ref a14, .ref a2, .ref a15, .ref a16, .int 0, .int 0, .ref a17, .ref a18, .ref a1, .ref a19, .ref a3, .int 0, .ref a20, .ref a21, .int 0, .int 0, .ref a22, .ref a23, .ref a24, .ref a25, .ref a26, .int (-1), .ref a27, .ref a28, .ref a29, .ref a30, .ref a31, .ref a32, .ref a33], zi G a2 49 (fun _ => 0)]) (wr := [zi G a1 64 (fun _ => 0), zi G a3 49 (fun _ => 0)]) [0, 2] [1, 3] rfl rfl (by decide) (by decide) (z_runV E B (As := []) (rest := [.int 0, .ref a3]) [0, 2] rfl (by decide) mv_X12_gates t_1454 0 (ci := 10) rfl rfl rfl (c_X12_gates_160 l G _ a0 a2 a4 a5 a6 a7 a8 a9 a10 a11 a12 a13 a14 a15 a16 a17 a18 a1 a19 a3 a20 a21 a22 a23 a24 a25 a26 a27 a28 a29 a30 a31 a32 a33) rfl rfl ⟨Nat.le_of_ble_eq_true rfl, Nat.le_of_ble_eq_true rfl⟩ rfl hl.1 rfl (Nat.le_of_ble_eq_true rfl) dX12_laysBecome_19 ⟨(Nat.le_of_ble_eq_true rfl), (Nat.le_of_ble_eq_true rfl)⟩) (fun r t H locs hp hB J => ?_)
      have hq := hB
      have B := J _ hq
      have B : zB G A s.heap [zi G a1 64 (fun _ => 0), zi G a3 49 (fun _ => 0), zo a0 10 [.int 0, .ref a4, .int 0, .ref a5, .int 0, .ref a6, .ref a7, .ref a8, .ref a9, .ref a10, .int 0, .int 0, .int 0, .int 0, .int 0, .int 0, .int (-1), .int 0, .ref a11, .int 0, .int 0, .ref a12, .int 0, .int 0, .ref a13, .int 0, .int 0, .ref a14, .ref a2, .ref a15, .ref a16, .int 0, .int 0, .ref a17, .ref a18, .ref a1, .ref a19, .ref a3, .int 0, .ref a20, .ref a21, .int 0, .int 0, .ref a22, .ref a23, .ref a24, .ref a25, .ref a26, .int (-1), .ref a27, .ref a28, .ref a29, .ref a30, .ref a31, .ref a32, .ref a33], zi G a2 49 (fun _ => 0)] _ _ := B
      have hp := hp.symm
      subst hp
      refine z_iast0 E B 1 rfl (show ¬ ((0 : Int32) < 0 ∨ 49 ≤ (0 : Int32).toNatClampNeg) by decide +kernel) dX12_laysBecome_22 (fun H locs B => ?_)
      have B : zB G A s.heap [zi G a1 64 (fun _ => 0), zi G a3 49 (fun _ => 0), zo a0 10 [.int 0, .ref a4, .int 0, .ref a5, .int 0, .ref a6, .ref a7, .ref a8, .ref a9, .ref a10, .int 0, .int 0, .int 0, .int 0, .int 0, .int 0, .int (-1), .int 0, .ref a11, .int 0, .int 0, .ref a12, .int 0, .int 0, .ref a13, .int 0, .int 0, .ref a14, .ref a2, .ref a15, .ref a16, .int 0, .int 0, .ref a17, .ref a18, .ref a1, .ref a19, .ref a3, .int 0, .ref a20, .ref a21, .int 0, .int 0, .ref a22, .ref a23, .ref a24, .ref a25, .ref a26, .int (-1), .ref a27, .ref a28, .ref a29, .ref a30, .ref a31, .ref a32, .ref a33], zi G a2 49 (fun _ => 0)] _ _ := B
      refine lv_iconst (v := 0) E.x E.b dX12_laysBecome_23 (by decide) ?_
      refine lv_istore_n (lv' := [(2, .int 0), (0, .ref a0), (1, .int 3)]) E.x E.b dX12_laysBecome_24 rfl hl (by decide) rfl (fun ls hl => ?_)
      refine lv_iload_n E.x E.b dX12_laysBecome_25 rfl (lv_at hl 0 rfl) ?_
      refine lv_aload_n E.x E.b dX12_laysBecome_26 rfl (lv_at hl 1 rfl) ?_
      refine z_calli E B (wc := [zo a0 10 [.int 0, .ref a4, .int 0, .ref a5, .int 0, .ref a6, .ref a7, .ref a8, .ref a9, .ref a10, .int 0, .int 0, .int 0, .int 0, .int 0, .int 0, .int (-1), .int 0, .ref a11, .int 0, .int 0, .ref a12, .int 0, .int 0, .ref a13, .int 0, .int 0, .ref a14, .ref a2, .ref a15, .ref a16, .int 0, .int 0, .ref a17, .ref a18, .ref a1, .ref a19, .ref a3, .int 0, .ref a20, .ref a21, .int 0, .int 0, .ref a22, .ref a23, .ref a24, .ref a25, .ref a26, .int (-1), .ref a27, .ref a28, .ref a29, .ref a30, .ref a31, .ref a32, .ref a33], zi G a2 49 (fun _ => 0)]) (wr := [zi G a1 64 (fun _ => 0), zi G a3 49 (fun _ => 0)]) [2, 3] [0, 1] rfl rfl (by decide) (by decide) (z_runV E B (As := []) (rest := [.int 0]) [2, 3] rfl (by decide) mv_X12_gates t_1454 0 (ci := 10) rfl rfl rfl (c_X12_gates_160 l G _ a0 a2 a4 a5 a6 a7 a8 a9 a10 a11 a12 a13 a14 a15 a16 a17 a18 a1 a19 a3 a20 a21 a22 a23 a24 a25 a26 a27 a28 a29 a30 a31 a32 a33) rfl rfl ⟨Nat.le_of_ble_eq_true rfl, Nat.le_of_ble_eq_true rfl⟩ rfl hl.1 rfl (Nat.le_of_ble_eq_true rfl) dX12_laysBecome_27 ⟨(Nat.le_of_ble_eq_true rfl), (Nat.le_of_ble_eq_true rfl)⟩) (fun r t H locs hp hB J => ?_)
      have hq := hB
      have B := J _ hq
      have B : zB G A s.heap [zi G a1 64 (fun _ => 0), zi G a3 49 (fun _ => 0), zo a0 10 [.int 0, .ref a4, .int 0, .ref a5, .int 0, .ref a6, .ref a7, .ref a8, .ref a9, .ref a10, .int 0, .int 0, .int 0, .int 0, .int 0, .int 0, .int (-1), .int 0, .ref a11, .int 0, .int 0, .ref a12, .int 0, .int 0, .ref a13, .int 0, .int 0, .ref a14, .ref a2, .ref a15, .ref a16, .int 0, .int 0, .ref a17, .ref a18, .ref a1, .ref a19, .ref a3, .int 0, .ref a20, .ref a21, .int 0, .int 0, .ref a22, .ref a23, .ref a24, .ref a25, .ref a26, .int (-1), .ref a27, .ref a28, .ref a29, .ref a30, .ref a31, .ref a32, .ref a33], zi G a2 49 (fun _ => 0)] _ _ := B
      have hp := hp.symm
      subst hp
      refine lv_icmp_ge (tgt := 59) E.x E.b dX12_laysBecome_30 (by decide) (fun _ => ?_) (fun c => absurd (by decide +kernel) c)
      refine lv_iload_n E.x E.b dX12_laysBecome_59 rfl (lv_at hl 2 rfl) ?_
      refine lv_iconst (v := 1) E.x E.b dX12_laysBecome_60 (by decide) ?_
      refine lv_icmp_eq (tgt := 69) E.x E.b dX12_laysBecome_61 (by decide) (fun c => absurd c (by decide +kernel)) (fun _ => ?_)
      refine lv_iload_n E.x E.b dX12_laysBecome_64 rfl (lv_at hl 2 rfl) ?_
      refine lv_iconst (v := 2) E.x E.b dX12_laysBecome_65 (by decide) ?_
      refine lv_icmp_ne (tgt := 95) E.x E.b dX12_laysBecome_66 (by decide) (fun _ => ?_) (fun c => absurd c (by decide +kernel))
      refine lv_iload_n E.x E.b dX12_laysBecome_95 rfl (lv_at hl 2 rfl) ?_
      refine lv_iconst (v := 4) E.x E.b dX12_laysBecome_96 (by decide) ?_
      refine lv_icmp_ne (tgt := 104) E.x E.b dX12_laysBecome_97 (by decide) (fun _ => ?_) (fun c => absurd c (by decide +kernel))
      refine lv_iload_n E.x E.b dX12_laysBecome_104 rfl (lv_at hl 2 rfl) ?_
      refine lv_if_eq (tgt := 113) E.x E.b dX12_laysBecome_105 (by decide) (fun c => absurd c (by decide +kernel)) (fun _ => ?_)
      refine lv_iload_n E.x E.b dX12_laysBecome_108 rfl (lv_at hl 2 rfl) ?_
      refine lv_iconst (v := 3) E.x E.b dX12_laysBecome_109 (by decide) ?_
      refine lv_icmp_ne (tgt := 114) E.x E.b dX12_laysBecome_110 (by decide) (fun c => absurd (by decide +kernel) c) (fun _ => ?_)
      refine W.widen (k := 0) (n := 0) (Nat.le_of_ble_eq_true rfl) (Nat.le_of_ble_eq_true rfl) ?_
      exact z_vret E hr hlocks B trivial (fun t ht => z_q B [2, 0, 3, 1] (by decide) rfl ht) dX12_laysBecome_113
  · have c_1f : p0.toInt = 0 := zi_eq c_1
    obtain rfl := zi_pt (x := p0) 0 (by show p0.toInt = 0; omega)
    refine lv_aload_n E.x E.b dX12_laysBecome_4 rfl (lv_at hl 0 rfl) ?_
    refine z_callv E B (wc := [zo a0 10 [.int 0, .ref a4, .int 0, .ref a5, .int 0, .ref a6, .ref a7, .ref a8, .ref a9, .ref a10, .int 0, .int 0, .int 0, .int 0, .int 0, .int 0, .int (-1), .int 0, .ref a11, .int 0, .int 0, .ref a12, .int 0, .int 0, .ref a13, .int 0, .int 0, .ref a14, .ref a2, .ref a15, .ref a16, .int 0, .int 0, .ref a17, .ref a18, .ref a1, .ref a19, .ref a3, .int 0, .ref a20, .ref a21, .int 0, .int 0, .ref a22, .ref a23, .ref a24, .ref a25, .ref a26, .int (-1), .ref a27, .ref a28, .ref a29, .ref a30, .ref a31, .ref a32, .ref a33], zi G a2 49 (fun _ => 0), zi G a3 49 (fun _ => 0)]) (wr := [zi G a1 64 (fun _ => 0)]) [0, 2, 3] [1] rfl rfl (by decide) (by decide) (z_runV E B (As := []) (rest := []) [0, 2, 3] rfl (by decide) mv_X12_laysShrunk t_1502 0 (ci := 10) rfl rfl rfl (c_X12_laysShrunk_176 l G _ a0 a2 a3 a4 a5 a6 a7 a8 a9 a10 a11 a12 a13 a14 a15 a16 a17 a18 a1 a19 a20 a21 a22 a23 a24 a25 a26 a27 a28 a29 a30 a31 a32 a33) rfl rfl ⟨Nat.le_of_ble_eq_true rfl, Nat.le_of_ble_eq_true rfl⟩ rfl hl.1 rfl (Nat.le_of_ble_eq_true rfl) dX12_laysBecome_5 ⟨(Nat.le_of_ble_eq_true rfl), (Nat.le_of_ble_eq_true rfl)⟩) (fun  t H locs hp hB J => ?_)
    have hq := hB
    have B := J _ hq
    have B : zB G A s.heap [zi G a1 64 (fun _ => 0), zo a0 10 [.int 0, .ref a4, .int 0, .ref a5, .int 0, .ref a6, .ref a7, .ref a8, .ref a9, .ref a10, .int 0, .int 0, .int 0, .int 0, .int 0, .int 0, .int (-1), .int 0, .ref a11, .int 0, .int 0, .ref a12, .int 0, .int 0, .ref a13, .int 0, .int 0, .ref a14, .ref a2, .ref a15, .ref a16, .int 0, .int 0, .ref a17, .ref a18, .ref a1, .ref a19, .ref a3, .int 0, .ref a20, .ref a21, .int 0, .int 0, .ref a22, .ref a23, .ref a24, .ref a25, .ref a26, .int (-1), .ref a27, .ref a28, .ref a29, .ref a30, .ref a31, .ref a32, .ref a33], zi G a2 49 (fun _ => 0), zi G a3 49 (fun _ => 0)] _ _ := B
    refine lv_iload_n E.x E.b dX12_laysBecome_8 rfl (lv_at hl 1 rfl) ?_
    refine lv_iconst (v := 3) E.x E.b dX12_laysBecome_9 (by decide) ?_
    refine lv_icmp_ne (tgt := 59) E.x E.b dX12_laysBecome_10 (by decide) (fun _ => ?_) (fun c => absurd c (by decide +kernel))
    refine lv_iload_n E.x E.b dX12_laysBecome_59 rfl (lv_at hl 1 rfl) ?_
    refine lv_iconst (v := 1) E.x E.b dX12_laysBecome_60 (by decide) ?_
    refine lv_icmp_eq (tgt := 69) E.x E.b dX12_laysBecome_61 (by decide) (fun c => absurd c (by decide +kernel)) (fun _ => ?_)
    refine lv_iload_n E.x E.b dX12_laysBecome_64 rfl (lv_at hl 1 rfl) ?_
    refine lv_iconst (v := 2) E.x E.b dX12_laysBecome_65 (by decide) ?_
    refine lv_icmp_ne (tgt := 95) E.x E.b dX12_laysBecome_66 (by decide) (fun _ => ?_) (fun c => absurd c (by decide +kernel))
    refine lv_iload_n E.x E.b dX12_laysBecome_95 rfl (lv_at hl 1 rfl) ?_
    refine lv_iconst (v := 4) E.x E.b dX12_laysBecome_96 (by decide) ?_
    refine lv_icmp_ne (tgt := 104) E.x E.b dX12_laysBecome_97 (by decide) (fun _ => ?_) (fun c => absurd c (by decide +kernel))
    refine lv_iload_n E.x E.b dX12_laysBecome_104 rfl (lv_at hl 1 rfl) ?_
    refine lv_if_eq (tgt := 113) E.x E.b dX12_laysBecome_105 (by decide) (fun _ => ?_) (fun c => absurd (by decide +kernel) c)
    refine W.widen (k := 0) (n := 0) (Nat.le_of_ble_eq_true rfl) (Nat.le_of_ble_eq_true rfl) ?_
    exact z_vret E hr hlocks B trivial (fun t ht => z_q B [1, 0, 2, 3] (by decide) rfl ht) dX12_laysBecome_113
set_option maxHeartbeats 4000000 in
set_option maxRecDepth 100000 in
theorem c_X12_marks_178 (l : Launch) (G : zGT) (sz : Nat) (a0 a1 a2 a3 a4 a5 a6 a7 a8 a9 a10 a11 a12 a13 a14 a15 a16 a17 a18 a19 a20 a21 a22 a23 a24 a25 a26 a27 a28 a29 a30 a31 a32 a33 : Nat) : Met l yX12_marks (.code yX12_marks cX12_marks 3 none :: zT) ({ frames := 0, cells := 0, slots := 0, locals := 64 }) (va_Pc [.ref a0] (zPc G [zo a0 10 [.int 0, .ref a3, .int 0, .ref a4, .int 0, .ref a5, .ref a6, .ref a7, .ref a8, .ref a9, .int 0, .int 0, .int 0, .int 0, .int 0, .int 0, .int (-1), .int 0, .ref a10, .int 0, .int 0, .ref a11, .int 0, .int 0, .ref a12, .int 0, .int 0, .ref a13, .ref a1, .ref a14, .ref a2, .int 0, .int 0, .ref a15, .ref a16, .ref a17, .ref a18, .ref a19, .int 0, .ref a20, .ref a21, .int 0, .int 0, .ref a22, .ref a23, .ref a24, .ref a25, .ref a26, .int (-1), .ref a27, .ref a28, .ref a29, .ref a30, .ref a31, .ref a32, .ref a33], zi G a1 49 (fun _ => 0), zi G a2 1960 (fun _ => 0)] sz)) ((fun A => va_Qv (fun (_ : Unit) => True) (fun (_ : Unit) t => zQ G [zo a0 10 [.int 0, .ref a3, .int 0, .ref a4, .int 0, .ref a5, .ref a6, .ref a7, .ref a8, .ref a9, .int 0, .int 0, .int 0, .int 0, .int 0, .int 0, .int (-1), .int 0, .ref a10, .int 0, .int 0, .ref a11, .int 0, .int 0, .ref a12, .int 0, .int 0, .ref a13, .ref a1, .ref a14, .ref a2, .int 0, .int 1, .ref a15, .ref a16, .ref a17, .ref a18, .ref a19, .int 0, .ref a20, .ref a21, .int 0, .int 0, .ref a22, .ref a23, .ref a24, .ref a25, .ref a26, .int (-1), .ref a27, .ref a28, .ref a29, .ref a30, .ref a31, .ref a32, .ref a33], zi G a1 49 (fun _ => 0), zi G a2 1960 (fun _ => 0)] A t) A) (va_A [zo a0 10 [.int 0, .ref a3, .int 0, .ref a4, .int 0, .ref a5, .ref a6, .ref a7, .ref a8, .ref a9, .int 0, .int 0, .int 0, .int 0, .int 0, .int 0, .int (-1), .int 0, .ref a10, .int 0, .int 0, .ref a11, .int 0, .int 0, .ref a12, .int 0, .int 0, .ref a13, .ref a1, .ref a14, .ref a2, .int 0, .int 0, .ref a15, .ref a16, .ref a17, .ref a18, .ref a19, .int 0, .ref a20, .ref a21, .int 0, .int 0, .ref a22, .ref a23, .ref a24, .ref a25, .ref a26, .int (-1), .ref a27, .ref a28, .ref a29, .ref a30, .ref a31, .ref a32, .ref a33], zi G a1 49 (fun _ => 0), zi G a2 1960 (fun _ => 0)] sz)) 0 0 (va_A [zo a0 10 [.int 0, .ref a3, .int 0, .ref a4, .int 0, .ref a5, .ref a6, .ref a7, .ref a8, .ref a9, .int 0, .int 0, .int 0, .int 0, .int 0, .int 0, .int (-1), .int 0, .ref a10, .int 0, .int 0, .ref a11, .int 0, .int 0, .ref a12, .int 0, .int 0, .ref a13, .ref a1, .ref a14, .ref a2, .int 0, .int 0, .ref a15, .ref a16, .ref a17, .ref a18, .ref a19, .int 0, .ref a20, .ref a21, .int 0, .int 0, .ref a22, .ref a23, .ref a24, .ref a25, .ref a26, .int (-1), .ref a27, .ref a28, .ref a29, .ref a30, .ref a31, .ref a32, .ref a33], zi G a1 49 (fun _ => 0), zi G a2 1960 (fun _ => 0)] sz) := by
  refine z_start (QA := (fun A => va_Qv (fun (_ : Unit) => True) (fun (_ : Unit) t => zQ G [zo a0 10 [.int 0, .ref a3, .int 0, .ref a4, .int 0, .ref a5, .ref a6, .ref a7, .ref a8, .ref a9, .int 0, .int 0, .int 0, .int 0, .int 0, .int 0, .int (-1), .int 0, .ref a10, .int 0, .int 0, .ref a11, .int 0, .int 0, .ref a12, .int 0, .int 0, .ref a13, .ref a1, .ref a14, .ref a2, .int 0, .int 1, .ref a15, .ref a16, .ref a17, .ref a18, .ref a19, .int 0, .ref a20, .ref a21, .int 0, .int 0, .ref a22, .ref a23, .ref a24, .ref a25, .ref a26, .int (-1), .ref a27, .ref a28, .ref a29, .ref a30, .ref a31, .ref a32, .ref a33], zi G a1 49 (fun _ => 0), zi G a2 1960 (fun _ => 0)] A t) A)) (by decide) ⟨Nat.le_of_ble_eq_true rfl, trivial⟩ ?_
  intro p e s m below meth c A ls E B hr hlocks hin hl
  have hl : lv_has ls 3 [(0, .ref a0)] := hl
  have B : zB G A s.heap [zo a0 10 [.int 0, .ref a3, .int 0, .ref a4, .int 0, .ref a5, .ref a6, .ref a7, .ref a8, .ref a9, .int 0, .int 0, .int 0, .int 0, .int 0, .int 0, .int (-1), .int 0, .ref a10, .int 0, .int 0, .ref a11, .int 0, .int 0, .ref a12, .int 0, .int 0, .ref a13, .ref a1, .ref a14, .ref a2, .int 0, .int 0, .ref a15, .ref a16, .ref a17, .ref a18, .ref a19, .int 0, .ref a20, .ref a21, .int 0, .int 0, .ref a22, .ref a23, .ref a24, .ref a25, .ref a26, .int (-1), .ref a27, .ref a28, .ref a29, .ref a30, .ref a31, .ref a32, .ref a33], zi G a1 49 (fun _ => 0), zi G a2 1960 (fun _ => 0)] s.heap [] := B
  refine lv_aload_n E.x E.b dX12_marks_0 rfl (lv_at hl 0 rfl) ?_
  refine z_get E B z_inX12 (ci := 10) rfl 32 (by decide) t_1224 0 rfl rfl dX12_marks_1 ?_
  refine lv_bipush (v := 40) E.x E.b dX12_marks_4 (by decide) ?_
  refine lv_icmp_ne (tgt := 32) E.x E.b dX12_marks_6 (by decide) (fun _ => ?_) (fun c => absurd c (by decide +kernel))
  refine lv_bipush (v := 49) E.x E.b dX12_marks_32 (by decide) ?_
  refine lv_aload_n E.x E.b dX12_marks_34 rfl (lv_at hl 0 rfl) ?_
  refine z_get E B z_inX12 (ci := 10) rfl 31 (by decide) t_1223 0 rfl rfl dX12_marks_35 ?_
  refine lv_aload_n E.x E.b dX12_marks_38 rfl (lv_at hl 0 rfl) ?_
  refine z_get E B z_inX12 (ci := 10) rfl 32 (by decide) t_1224 0 rfl rfl dX12_marks_39 ?_
  refine lv_iadd E.x E.b dX12_marks_42 (z_topi 0 (by decide +kernel) ?_)
  refine lv_bipush (v := 40) E.x E.b dX12_marks_43 (by decide) ?_
  refine lv_irem E.x E.b dX12_marks_45 (by decide) (z_topi 0 (by decide +kernel) ?_)
  refine lv_imul E.x E.b dX12_marks_46 (z_topi 0 (by decide +kernel) ?_)
  refine lv_istore_n (lv' := [(1, .int 0), (0, .ref a0)]) E.x E.b dX12_marks_47 rfl hl (by decide) rfl (fun ls hl => ?_)
  refine lv_iconst (v := 0) E.x E.b dX12_marks_48 (by decide) ?_
  refine lv_istore_n (lv' := [(2, .int 0), (1, .int 0), (0, .ref a0)]) E.x E.b dX12_marks_49 rfl hl (by decide) rfl (fun ls hl => ?_)
  refine z_loop 49 (fun _ => 0) (fun _ => 0) (fun i H locs ls => (zB G A s.heap [zo a0 10 [.int 0, .ref a3, .int 0, .ref a4, .int 0, .ref a5, .ref a6, .ref a7, .ref a8, .ref a9, .int 0, .int 0, .int 0, .int 0, .int 0, .int 0, .int (-1), .int 0, .ref a10, .int 0, .int 0, .ref a11, .int 0, .int 0, .ref a12, .int 0, .int 0, .ref a13, .ref a1, .ref a14, .ref a2, .int 0, .int 0, .ref a15, .ref a16, .ref a17, .ref a18, .ref a19, .int 0, .ref a20, .ref a21, .int 0, .int 0, .ref a22, .ref a23, .ref a24, .ref a25, .ref a26, .int (-1), .ref a27, .ref a28, .ref a29, .ref a30, .ref a31, .ref a32, .ref a33], zi G a1 49 (fun _ => 0), zi G a2 1960 (fun _ => 0)] H locs) ∧ lv_has ls 3 [(2, .int (nI i)), (1, .int 0), (0, .ref a0)]) (Nat.le_of_ble_eq_true rfl) (Nat.le_of_ble_eq_true rfl) ⟨B, hl⟩ (fun i1 H locs ls hi ih hI => ?_) (fun H locs ls hI => ?_)
  · obtain ⟨B, hl⟩ := hI
    have hl : lv_has ls 3 [(2, .int (nI i1)), (1, .int 0), (0, .ref a0)] := hl
    have hii : (nI i1).toInt = ((i1 : Nat) : Int) := nI_toInt (by omega)
    refine lv_iload_n E.x E.b dX12_marks_50 rfl (lv_at hl 0 rfl) ?_
    refine lv_bipush (v := 49) E.x E.b dX12_marks_51 (by decide) ?_
    refine lv_icmp_ge (tgt := 76) E.x E.b dX12_marks_53 (by decide) (fun c_2 => ?_) (fun c_2 => ?_)
    · have c_2f : 49 ≤ (nI i1).toInt := zi_le c_2
      exfalso; omega
    · have c_2f : (nI i1).toInt < 49 := zi_nle c_2
      refine lv_aload_n E.x E.b dX12_marks_56 rfl (lv_at hl 2 rfl) ?_
      refine z_get E B z_inX12 (ci := 10) rfl 30 (by decide) t_1222 0 rfl rfl dX12_marks_57 ?_
      refine lv_iload_n E.x E.b dX12_marks_60 rfl (lv_at hl 1 rfl) ?_
      refine lv_iload_n E.x E.b dX12_marks_61 rfl (lv_at hl 0 rfl) ?_
      refine lv_iadd E.x E.b dX12_marks_62 (z_topi (nI (0 + i1)) (nI_add 0 (i1)) ?_)
      refine lv_aload_n E.x E.b dX12_marks_63 rfl (lv_at hl 2 rfl) ?_
      refine z_get E B z_inX12 (ci := 10) rfl 28 (by decide) t_1220 0 rfl rfl dX12_marks_64 ?_
      refine lv_iload_n E.x E.b dX12_marks_67 rfl (lv_at hl 0 rfl) ?_
      refine z_iald E B 1 rfl (vp_in_nI (by omega) (by decide)) dX12_marks_68 (z_topi 0 rfl ?_)
      refine z_iast0 E B 2 rfl (vp_in_nI (by omega) (by decide)) dX12_marks_69 (fun H locs B => ?_)
      have B : zB G A s.heap [zo a0 10 [.int 0, .ref a3, .int 0, .ref a4, .int 0, .ref a5, .ref a6, .ref a7, .ref a8, .ref a9, .int 0, .int 0, .int 0, .int 0, .int 0, .int 0, .int (-1), .int 0, .ref a10, .int 0, .int 0, .ref a11, .int 0, .int 0, .ref a12, .int 0, .int 0, .ref a13, .ref a1, .ref a14, .ref a2, .int 0, .int 0, .ref a15, .ref a16, .ref a17, .ref a18, .ref a19, .int 0, .ref a20, .ref a21, .int 0, .int 0, .ref a22, .ref a23, .ref a24, .ref a25, .ref a26, .int (-1), .ref a27, .ref a28, .ref a29, .ref a30, .ref a31, .ref a32, .ref a33], zi G a1 49 (fun _ => 0), zi G a2 1960 (fun _ => 0)] _ _ := B
      refine lv_iinc (v := (nI (i1 + 1))) (lv' := [(2, .int (nI (i1 + 1))), (1, .int 0), (0, .ref a0)]) E.x E.b dX12_marks_70 hl (k := 0) rfl (nI_1 _) (by decide) rfl (fun ls hl => ?_)
      refine lv_goto (tgt := 50) E.x E.b dX12_marks_73 (by decide) ?_
      exact ih _ _ _ ⟨B, lv_sub hl [0, 1, 2] rfl⟩
  · obtain ⟨B, hl⟩ := hI
    have hl : lv_has ls 3 [(2, .int 49), (1, .int 0), (0, .ref a0)] := hl
    refine lv_iload_n E.x E.b dX12_marks_50 rfl (lv_at hl 0 rfl) ?_
    refine lv_bipush (v := 49) E.x E.b dX12_marks_51 (by decide) ?_
    refine lv_icmp_ge (tgt := 76) E.x E.b dX12_marks_53 (by decide) (fun _ => ?_) (fun c => absurd (by decide +kernel) c)
    refine lv_aload_n E.x E.b dX12_marks_76 rfl (lv_at hl 2 rfl) ?_
    refine lv_dup E.x E.b dX12_marks_77 rfl ?_
    refine z_get E B z_inX12 (ci := 10) rfl 32 (by decide) t_1224 0 rfl rfl dX12_marks_78 ?_
    refine lv_iconst (v := 1) E.x E.b dX12_marks_81 (by decide) ?_
    refine lv_iadd E.x E.b dX12_marks_82 (z_topi 1 (by decide +kernel) ?_)
    refine z_put E B z_inX12 tyX12 tyX12_ok nmX12 (ci := 10) rfl 32 (by decide) rfl (ty := .int) (by decide +kernel) t_1224 0 rfl (Nat.le_of_ble_eq_true rfl) rfl rfl dX12_marks_83 (fun H locs B => ?_)
    have B : zB G A s.heap [zo a0 10 [.int 0, .ref a3, .int 0, .ref a4, .int 0, .ref a5, .ref a6, .ref a7, .ref a8, .ref a9, .int 0, .int 0, .int 0, .int 0, .int 0, .int 0, .int (-1), .int 0, .ref a10, .int 0, .int 0, .ref a11, .int 0, .int 0, .ref a12, .int 0, .int 0, .ref a13, .ref a1, .ref a14, .ref a2, .int 0, .int 1, .ref a15, .ref a16, .ref a17, .ref a18, .ref a19, .int 0, .ref a20, .ref a21, .int 0, .int 0, .ref a22, .ref a23, .ref a24, .ref a25, .ref a26, .int (-1), .ref a27, .ref a28, .ref a29, .ref a30, .ref a31, .ref a32, .ref a33], zi G a1 49 (fun _ => 0), zi G a2 1960 (fun _ => 0)] _ _ := B
    refine W.widen (k := 0) (n := 0) (Nat.le_of_ble_eq_true rfl) (Nat.le_of_ble_eq_true rfl) ?_
    exact z_vret E hr hlocks B trivial (fun t ht => z_q B [0, 1, 2] (by decide) rfl ht) dX12_marks_86
set_option maxHeartbeats 4000000 in
set_option maxRecDepth 100000 in
theorem c_X12_gates_179 (l : Launch) (G : zGT) (sz : Nat) (a0 a1 a2 a3 a4 a5 a6 a7 a8 a9 a10 a11 a12 a13 a14 a15 a16 a17 a18 a19 a20 a21 a22 a23 a24 a25 a26 a27 a28 a29 a30 a31 a32 a33 : Nat) : Met l yX12_gates (.code yX12_gates cX12_gates 1 (some .int) :: zT) ({ frames := 0, cells := 0, slots := 0, locals := 64 }) (va_Pc [.ref a0] (zPc G [zo a0 10 [.int 0, .ref a2, .int 0, .ref a3, .int 0, .ref a4, .ref a5, .ref a6, .ref a7, .ref a8, .int 0, .int 0, .int 0, .int 0, .int 0, .int 0, .int (-1), .int 0, .ref a9, .int 0, .int 0, .ref a10, .int 0, .int 0, .ref a11, .int 0, .int 0, .ref a12, .ref a1, .ref a13, .ref a14, .int 0, .int 1, .ref a15, .ref a16, .ref a17, .ref a18, .ref a19, .int 0, .ref a20, .ref a21, .int 0, .int 0, .ref a22, .ref a23, .ref a24, .ref a25, .ref a26, .int (-1), .ref a27, .ref a28, .ref a29, .ref a30, .ref a31, .ref a32, .ref a33], zi G a1 49 (fun _ => 0)] sz)) ((fun A => va_Qi (fun (r : Int32) (_ : Unit) => r = 0) (fun (_ : Unit) t => zQ G [zo a0 10 [.int 0, .ref a2, .int 0, .ref a3, .int 0, .ref a4, .ref a5, .ref a6, .ref a7, .ref a8, .int 0, .int 0, .int 0, .int 0, .int 0, .int 0, .int (-1), .int 0, .ref a9, .int 0, .int 0, .ref a10, .int 0, .int 0, .ref a11, .int 0, .int 0, .ref a12, .ref a1, .ref a13, .ref a14, .int 0, .int 1, .ref a15, .ref a16, .ref a17, .ref a18, .ref a19, .int 0, .ref a20, .ref a21, .int 0, .int 0, .ref a22, .ref a23, .ref a24, .ref a25, .ref a26, .int (-1), .ref a27, .ref a28, .ref a29, .ref a30, .ref a31, .ref a32, .ref a33], zi G a1 49 (fun _ => 0)] A t) A) (va_A [zo a0 10 [.int 0, .ref a2, .int 0, .ref a3, .int 0, .ref a4, .ref a5, .ref a6, .ref a7, .ref a8, .int 0, .int 0, .int 0, .int 0, .int 0, .int 0, .int (-1), .int 0, .ref a9, .int 0, .int 0, .ref a10, .int 0, .int 0, .ref a11, .int 0, .int 0, .ref a12, .ref a1, .ref a13, .ref a14, .int 0, .int 1, .ref a15, .ref a16, .ref a17, .ref a18, .ref a19, .int 0, .ref a20, .ref a21, .int 0, .int 0, .ref a22, .ref a23, .ref a24, .ref a25, .ref a26, .int (-1), .ref a27, .ref a28, .ref a29, .ref a30, .ref a31, .ref a32, .ref a33], zi G a1 49 (fun _ => 0)] sz)) 0 0 (va_A [zo a0 10 [.int 0, .ref a2, .int 0, .ref a3, .int 0, .ref a4, .ref a5, .ref a6, .ref a7, .ref a8, .int 0, .int 0, .int 0, .int 0, .int 0, .int 0, .int (-1), .int 0, .ref a9, .int 0, .int 0, .ref a10, .int 0, .int 0, .ref a11, .int 0, .int 0, .ref a12, .ref a1, .ref a13, .ref a14, .int 0, .int 1, .ref a15, .ref a16, .ref a17, .ref a18, .ref a19, .int 0, .ref a20, .ref a21, .int 0, .int 0, .ref a22, .ref a23, .ref a24, .ref a25, .ref a26, .int (-1), .ref a27, .ref a28, .ref a29, .ref a30, .ref a31, .ref a32, .ref a33], zi G a1 49 (fun _ => 0)] sz) := by
  refine z_start (QA := (fun A => va_Qi (fun (r : Int32) (_ : Unit) => r = 0) (fun (_ : Unit) t => zQ G [zo a0 10 [.int 0, .ref a2, .int 0, .ref a3, .int 0, .ref a4, .ref a5, .ref a6, .ref a7, .ref a8, .int 0, .int 0, .int 0, .int 0, .int 0, .int 0, .int (-1), .int 0, .ref a9, .int 0, .int 0, .ref a10, .int 0, .int 0, .ref a11, .int 0, .int 0, .ref a12, .ref a1, .ref a13, .ref a14, .int 0, .int 1, .ref a15, .ref a16, .ref a17, .ref a18, .ref a19, .int 0, .ref a20, .ref a21, .int 0, .int 0, .ref a22, .ref a23, .ref a24, .ref a25, .ref a26, .int (-1), .ref a27, .ref a28, .ref a29, .ref a30, .ref a31, .ref a32, .ref a33], zi G a1 49 (fun _ => 0)] A t) A)) (by decide) ⟨Nat.le_of_ble_eq_true rfl, trivial⟩ ?_
  intro p e s m below meth c A ls E B hr hlocks hin hl
  have hl : lv_has ls 1 [(0, .ref a0)] := hl
  have B : zB G A s.heap [zo a0 10 [.int 0, .ref a2, .int 0, .ref a3, .int 0, .ref a4, .ref a5, .ref a6, .ref a7, .ref a8, .int 0, .int 0, .int 0, .int 0, .int 0, .int 0, .int (-1), .int 0, .ref a9, .int 0, .int 0, .ref a10, .int 0, .int 0, .ref a11, .int 0, .int 0, .ref a12, .ref a1, .ref a13, .ref a14, .int 0, .int 1, .ref a15, .ref a16, .ref a17, .ref a18, .ref a19, .int 0, .ref a20, .ref a21, .int 0, .int 0, .ref a22, .ref a23, .ref a24, .ref a25, .ref a26, .int (-1), .ref a27, .ref a28, .ref a29, .ref a30, .ref a31, .ref a32, .ref a33], zi G a1 49 (fun _ => 0)] s.heap [] := B
  refine lv_aload_n E.x E.b dX12_gates_0 rfl (lv_at hl 0 rfl) ?_
  refine z_get E B z_inX12 (ci := 10) rfl 28 (by decide) t_1220 0 rfl rfl dX12_gates_1 ?_
  refine lv_iconst (v := 0) E.x E.b dX12_gates_4 (by decide) ?_
  refine z_iald E B 1 rfl (show ¬ ((0 : Int32) < 0 ∨ 49 ≤ (0 : Int32).toNatClampNeg) by decide +kernel) dX12_gates_5 (z_topi 0 rfl ?_)
  refine W.widen (k := 0) (n := 0) (Nat.le_of_ble_eq_true rfl) (Nat.le_of_ble_eq_true rfl) ?_
  exact z_iret E hr hlocks B (v := 0) rfl (fun t ht => z_q B [0, 1] (by decide) rfl ht) dX12_gates_6
set_option maxHeartbeats 4000000 in
set_option maxRecDepth 100000 in
theorem c_X12_rows_180 (l : Launch) (G : zGT) (sz : Nat) (a0 a1 a2 a3 a4 a5 a6 a7 a8 a9 a10 a11 a12 a13 a14 a15 a16 a17 a18 a19 a20 a21 a22 a23 a24 a25 a26 a27 a28 a29 a30 a31 a32 a33 : Nat) : Met l yX12_rows (.code yX12_rows cX12_rows 1 (some .int) :: zT) ({ frames := 0, cells := 0, slots := 0, locals := 64 }) (va_Pc [.ref a0] (zPc G [zo a0 10 [.int 0, .ref a1, .int 0, .ref a2, .int 0, .ref a3, .ref a4, .ref a5, .ref a6, .ref a7, .int 0, .int 0, .int 0, .int 0, .int 0, .int 0, .int (-1), .int 0, .ref a8, .int 0, .int 0, .ref a9, .int 0, .int 0, .ref a10, .int 0, .int 0, .ref a11, .ref a12, .ref a13, .ref a14, .int 0, .int 0, .ref a15, .ref a16, .ref a17, .ref a18, .ref a19, .int 0, .ref a20, .ref a21, .int 0, .int 0, .ref a22, .ref a23, .ref a24, .ref a25, .ref a26, .int 0, .ref a27, .ref a28, .ref a29, .ref a30, .ref a31, .ref a32, .ref a33]] sz)) ((fun A => va_Qi (fun (r : Int32) (_ : Unit) => r = 1) (fun (_ : Unit) t => zQ G [zo a0 10 [.int 0, .ref a1, .int 0, .ref a2, .int 0, .ref a3, .ref a4, .ref a5, .ref a6, .ref a7, .int 0, .int 0, .int 0, .int 0, .int 0, .int 0, .int (-1), .int 0, .ref a8, .int 0, .int 0, .ref a9, .int 0, .int 0, .ref a10, .int 0, .int 0, .ref a11, .ref a12, .ref a13, .ref a14, .int 0, .int 0, .ref a15, .ref a16, .ref a17, .ref a18, .ref a19, .int 0, .ref a20, .ref a21, .int 0, .int 0, .ref a22, .ref a23, .ref a24, .ref a25, .ref a26, .int 0, .ref a27, .ref a28, .ref a29, .ref a30, .ref a31, .ref a32, .ref a33]] A t) A) (va_A [zo a0 10 [.int 0, .ref a1, .int 0, .ref a2, .int 0, .ref a3, .ref a4, .ref a5, .ref a6, .ref a7, .int 0, .int 0, .int 0, .int 0, .int 0, .int 0, .int (-1), .int 0, .ref a8, .int 0, .int 0, .ref a9, .int 0, .int 0, .ref a10, .int 0, .int 0, .ref a11, .ref a12, .ref a13, .ref a14, .int 0, .int 0, .ref a15, .ref a16, .ref a17, .ref a18, .ref a19, .int 0, .ref a20, .ref a21, .int 0, .int 0, .ref a22, .ref a23, .ref a24, .ref a25, .ref a26, .int 0, .ref a27, .ref a28, .ref a29, .ref a30, .ref a31, .ref a32, .ref a33]] sz)) 0 0 (va_A [zo a0 10 [.int 0, .ref a1, .int 0, .ref a2, .int 0, .ref a3, .ref a4, .ref a5, .ref a6, .ref a7, .int 0, .int 0, .int 0, .int 0, .int 0, .int 0, .int (-1), .int 0, .ref a8, .int 0, .int 0, .ref a9, .int 0, .int 0, .ref a10, .int 0, .int 0, .ref a11, .ref a12, .ref a13, .ref a14, .int 0, .int 0, .ref a15, .ref a16, .ref a17, .ref a18, .ref a19, .int 0, .ref a20, .ref a21, .int 0, .int 0, .ref a22, .ref a23, .ref a24, .ref a25, .ref a26, .int 0, .ref a27, .ref a28, .ref a29, .ref a30, .ref a31, .ref a32, .ref a33]] sz) := by
  refine z_start (QA := (fun A => va_Qi (fun (r : Int32) (_ : Unit) => r = 1) (fun (_ : Unit) t => zQ G [zo a0 10 [.int 0, .ref a1, .int 0, .ref a2, .int 0, .ref a3, .ref a4, .ref a5, .ref a6, .ref a7, .int 0, .int 0, .int 0, .int 0, .int 0, .int 0, .int (-1), .int 0, .ref a8, .int 0, .int 0, .ref a9, .int 0, .int 0, .ref a10, .int 0, .int 0, .ref a11, .ref a12, .ref a13, .ref a14, .int 0, .int 0, .ref a15, .ref a16, .ref a17, .ref a18, .ref a19, .int 0, .ref a20, .ref a21, .int 0, .int 0, .ref a22, .ref a23, .ref a24, .ref a25, .ref a26, .int 0, .ref a27, .ref a28, .ref a29, .ref a30, .ref a31, .ref a32, .ref a33]] A t) A)) (by decide) ⟨Nat.le_of_ble_eq_true rfl, trivial⟩ ?_
  intro p e s m below meth c A ls E B hr hlocks hin hl
  have hl : lv_has ls 1 [(0, .ref a0)] := hl
  have B : zB G A s.heap [zo a0 10 [.int 0, .ref a1, .int 0, .ref a2, .int 0, .ref a3, .ref a4, .ref a5, .ref a6, .ref a7, .int 0, .int 0, .int 0, .int 0, .int 0, .int 0, .int (-1), .int 0, .ref a8, .int 0, .int 0, .ref a9, .int 0, .int 0, .ref a10, .int 0, .int 0, .ref a11, .ref a12, .ref a13, .ref a14, .int 0, .int 0, .ref a15, .ref a16, .ref a17, .ref a18, .ref a19, .int 0, .ref a20, .ref a21, .int 0, .int 0, .ref a22, .ref a23, .ref a24, .ref a25, .ref a26, .int 0, .ref a27, .ref a28, .ref a29, .ref a30, .ref a31, .ref a32, .ref a33]] s.heap [] := B
  refine lv_iconst (v := 1) E.x E.b dX12_rows_0 (by decide) ?_
  refine lv_aload_n E.x E.b dX12_rows_1 rfl (lv_at hl 0 rfl) ?_
  refine z_get E B z_inX12 (ci := 10) rfl 17 (by decide) t_1209 0 rfl rfl dX12_rows_2 ?_
  refine lv_ishl E.x E.b dX12_rows_5 (z_topi 1 (by decide +kernel) ?_)
  refine W.widen (k := 0) (n := 0) (Nat.le_of_ble_eq_true rfl) (Nat.le_of_ble_eq_true rfl) ?_
  exact z_iret E hr hlocks B (v := 1) rfl (fun t ht => z_q B [0] (by decide) rfl ht) dX12_rows_6
set_option maxHeartbeats 4000000 in
set_option maxRecDepth 100000 in
theorem c_X12_placeOf_181 (l : Launch) (G : zGT) (sz : Nat) (a0 a1 a2 a3 a4 a5 a6 a7 a8 a9 a10 a11 a12 a13 a14 a15 a16 a17 a18 a19 a20 a21 a22 a23 a24 a25 a26 a27 a28 a29 a30 a31 a32 a33 : Nat) : Met l yX12_placeOf (.code yX12_placeOf cX12_placeOf 6 (some .int) :: zT) ({ frames := 0, cells := 0, slots := 0, locals := 64 }) (va_Pc [.ref a0, .int 1] (zPc G [zo a0 10 [.int 0, .ref a1, .int 0, .ref a2, .int 0, .ref a3, .ref a4, .ref a5, .ref a6, .ref a7, .int 0, .int 0, .int 0, .int 0, .int 0, .int 0, .int (-1), .int 0, .ref a8, .int 0, .int 0, .ref a9, .int 0, .int 0, .ref a10, .int 0, .int 0, .ref a11, .ref a12, .ref a13, .ref a14, .int 0, .int 0, .ref a15, .ref a16, .ref a17, .ref a18, .ref a19, .int 0, .ref a20, .ref a21, .int 0, .int 0, .ref a22, .ref a23, .ref a24, .ref a25, .ref a26, .int 0, .ref a27, .ref a28, .ref a29, .ref a30, .ref a31, .ref a32, .ref a33]] sz)) ((fun A => va_Qi (fun (r : Int32) (_ : Unit) => r = 0) (fun (_ : Unit) t => zQ G [zo a0 10 [.int 0, .ref a1, .int 0, .ref a2, .int 0, .ref a3, .ref a4, .ref a5, .ref a6, .ref a7, .int 0, .int 0, .int 0, .int 0, .int 0, .int 0, .int (-1), .int 0, .ref a8, .int 0, .int 0, .ref a9, .int 0, .int 0, .ref a10, .int 0, .int 0, .ref a11, .ref a12, .ref a13, .ref a14, .int 0, .int 0, .ref a15, .ref a16, .ref a17, .ref a18, .ref a19, .int 0, .ref a20, .ref a21, .int 0, .int 0, .ref a22, .ref a23, .ref a24, .ref a25, .ref a26, .int 0, .ref a27, .ref a28, .ref a29, .ref a30, .ref a31, .ref a32, .ref a33]] A t) A) (va_A [zo a0 10 [.int 0, .ref a1, .int 0, .ref a2, .int 0, .ref a3, .ref a4, .ref a5, .ref a6, .ref a7, .int 0, .int 0, .int 0, .int 0, .int 0, .int 0, .int (-1), .int 0, .ref a8, .int 0, .int 0, .ref a9, .int 0, .int 0, .ref a10, .int 0, .int 0, .ref a11, .ref a12, .ref a13, .ref a14, .int 0, .int 0, .ref a15, .ref a16, .ref a17, .ref a18, .ref a19, .int 0, .ref a20, .ref a21, .int 0, .int 0, .ref a22, .ref a23, .ref a24, .ref a25, .ref a26, .int 0, .ref a27, .ref a28, .ref a29, .ref a30, .ref a31, .ref a32, .ref a33]] sz)) 0 0 (va_A [zo a0 10 [.int 0, .ref a1, .int 0, .ref a2, .int 0, .ref a3, .ref a4, .ref a5, .ref a6, .ref a7, .int 0, .int 0, .int 0, .int 0, .int 0, .int 0, .int (-1), .int 0, .ref a8, .int 0, .int 0, .ref a9, .int 0, .int 0, .ref a10, .int 0, .int 0, .ref a11, .ref a12, .ref a13, .ref a14, .int 0, .int 0, .ref a15, .ref a16, .ref a17, .ref a18, .ref a19, .int 0, .ref a20, .ref a21, .int 0, .int 0, .ref a22, .ref a23, .ref a24, .ref a25, .ref a26, .int 0, .ref a27, .ref a28, .ref a29, .ref a30, .ref a31, .ref a32, .ref a33]] sz) := by
  refine z_start (QA := (fun A => va_Qi (fun (r : Int32) (_ : Unit) => r = 0) (fun (_ : Unit) t => zQ G [zo a0 10 [.int 0, .ref a1, .int 0, .ref a2, .int 0, .ref a3, .ref a4, .ref a5, .ref a6, .ref a7, .int 0, .int 0, .int 0, .int 0, .int 0, .int 0, .int (-1), .int 0, .ref a8, .int 0, .int 0, .ref a9, .int 0, .int 0, .ref a10, .int 0, .int 0, .ref a11, .ref a12, .ref a13, .ref a14, .int 0, .int 0, .ref a15, .ref a16, .ref a17, .ref a18, .ref a19, .int 0, .ref a20, .ref a21, .int 0, .int 0, .ref a22, .ref a23, .ref a24, .ref a25, .ref a26, .int 0, .ref a27, .ref a28, .ref a29, .ref a30, .ref a31, .ref a32, .ref a33]] A t) A)) (by decide) ⟨Nat.le_of_ble_eq_true rfl, trivial⟩ ?_
  intro p e s m below meth c A ls E B hr hlocks hin hl
  have hl : lv_has ls 6 [(0, .ref a0), (1, .int 1)] := hl
  have B : zB G A s.heap [zo a0 10 [.int 0, .ref a1, .int 0, .ref a2, .int 0, .ref a3, .ref a4, .ref a5, .ref a6, .ref a7, .int 0, .int 0, .int 0, .int 0, .int 0, .int 0, .int (-1), .int 0, .ref a8, .int 0, .int 0, .ref a9, .int 0, .int 0, .ref a10, .int 0, .int 0, .ref a11, .ref a12, .ref a13, .ref a14, .int 0, .int 0, .ref a15, .ref a16, .ref a17, .ref a18, .ref a19, .int 0, .ref a20, .ref a21, .int 0, .int 0, .ref a22, .ref a23, .ref a24, .ref a25, .ref a26, .int 0, .ref a27, .ref a28, .ref a29, .ref a30, .ref a31, .ref a32, .ref a33]] s.heap [] := B
  refine lv_iconst (v := 0) E.x E.b dX12_placeOf_0 (by decide) ?_
  refine lv_istore_n (lv' := [(2, .int 0), (0, .ref a0), (1, .int 1)]) E.x E.b dX12_placeOf_1 rfl hl (by decide) rfl (fun ls hl => ?_)
  refine lv_iconst (v := 0) E.x E.b dX12_placeOf_2 (by decide) ?_
  refine lv_istore_n (lv' := [(3, .int 0), (2, .int 0), (0, .ref a0), (1, .int 1)]) E.x E.b dX12_placeOf_3 rfl hl (by decide) rfl (fun ls hl => ?_)
  refine lv_iload_n E.x E.b dX12_placeOf_4 rfl (lv_at hl 0 rfl) ?_
  refine lv_iload_n E.x E.b dX12_placeOf_5 rfl (lv_at hl 3 rfl) ?_
  refine lv_icmp_ge (tgt := 63) E.x E.b dX12_placeOf_6 (by decide) (fun c => absurd c (by decide +kernel)) (fun _ => ?_)
  refine lv_iconst (v := 0) E.x E.b dX12_placeOf_9 (by decide) ?_
  refine lv_istore (lv' := [(4, .int 0), (3, .int 0), (2, .int 0), (0, .ref a0), (1, .int 1)]) E.x E.b dX12_placeOf_10 hl (by decide) rfl (fun ls hl => ?_)
  refine lv_iload_n E.x E.b dX12_placeOf_12 rfl (lv_at hl 1 rfl) ?_
  refine lv_iconst (v := 1) E.x E.b dX12_placeOf_13 (by decide) ?_
  refine lv_iadd E.x E.b dX12_placeOf_14 (z_topi 1 (by decide +kernel) ?_)
  refine lv_istore (lv' := [(5, .int 1), (4, .int 0), (3, .int 0), (2, .int 0), (0, .ref a0), (1, .int 1)]) E.x E.b dX12_placeOf_15 hl (by decide) rfl (fun ls hl => ?_)
  refine lv_iload E.x E.b dX12_placeOf_17 (lv_at hl 0 rfl) ?_
  refine lv_iload_n E.x E.b dX12_placeOf_19 rfl (lv_at hl 5 rfl) ?_
  refine lv_icmp_ge (tgt := 48) E.x E.b dX12_placeOf_20 (by decide) (fun _ => ?_) (fun c => absurd (by decide +kernel) c)
  refine lv_iload_n E.x E.b dX12_placeOf_48 rfl (lv_at hl 3 rfl) ?_
  refine lv_iload_n E.x E.b dX12_placeOf_49 rfl (lv_at hl 5 rfl) ?_
  refine lv_iload_n E.x E.b dX12_placeOf_50 rfl (lv_at hl 2 rfl) ?_
  refine lv_isub E.x E.b dX12_placeOf_51 (z_topi 1 (by decide +kernel) ?_)
  refine lv_imul E.x E.b dX12_placeOf_52 (z_topi 0 (by decide +kernel) ?_)
  refine lv_iload E.x E.b dX12_placeOf_53 (lv_at hl 1 rfl) ?_
  refine lv_iadd E.x E.b dX12_placeOf_55 (z_topi 0 (by decide +kernel) ?_)
  refine lv_istore_n (lv' := [(2, .int 0), (5, .int 1), (4, .int 0), (3, .int 0), (0, .ref a0), (1, .int 1)]) E.x E.b dX12_placeOf_56 rfl hl (by decide) rfl (fun ls hl => ?_)
  refine lv_iinc (v := 1) (lv' := [(3, .int 1), (2, .int 0), (5, .int 1), (4, .int 0), (0, .ref a0), (1, .int 1)]) E.x E.b dX12_placeOf_57 hl (k := 3) rfl (by decide +kernel) (by decide) rfl (fun ls hl => ?_)
  refine lv_goto (tgt := 4) E.x E.b dX12_placeOf_60 (by decide) ?_
  refine lv_iload_n E.x E.b dX12_placeOf_4 rfl (lv_at hl 0 rfl) ?_
  refine lv_iload_n E.x E.b dX12_placeOf_5 rfl (lv_at hl 5 rfl) ?_
  refine lv_icmp_ge (tgt := 63) E.x E.b dX12_placeOf_6 (by decide) (fun _ => ?_) (fun c => absurd (by decide +kernel) c)
  refine lv_iload_n E.x E.b dX12_placeOf_63 rfl (lv_at hl 1 rfl) ?_
  refine W.widen (k := 0) (n := 0) (Nat.le_of_ble_eq_true rfl) (Nat.le_of_ble_eq_true rfl) ?_
  exact z_iret E hr hlocks B (v := 0) rfl (fun t ht => z_q B [0] (by decide) rfl ht) dX12_placeOf_64
set_option maxHeartbeats 4000000 in
set_option maxRecDepth 100000 in
theorem c_X12_laysPlace_182 (l : Launch) (G : zGT) (sz : Nat) (a0 a1 a2 a3 a4 a5 a6 a7 a8 a9 a10 a11 a12 a13 a14 a15 a16 a17 a18 a19 a20 a21 a22 a23 a24 a25 a26 a27 a28 a29 a30 a31 a32 a33 : Nat) : Met l yX12_laysPlace (.code yX12_laysPlace cX12_laysPlace 6 none :: zT) ({ frames := 0, cells := 0, slots := 0, locals := 64 }) (va_Pc [.ref a0, .int 0, .int 1] (zPc G [zo a0 10 [.int 0, .ref a2, .int 0, .ref a3, .int 0, .ref a4, .ref a5, .ref a6, .ref a7, .ref a8, .int 0, .int 0, .int 0, .int 0, .int 0, .int 0, .int (-1), .int 0, .ref a9, .int 0, .int 0, .ref a10, .int 0, .int 0, .ref a11, .int 0, .int 0, .ref a12, .ref a13, .ref a14, .ref a15, .int 0, .int 0, .ref a16, .ref a17, .ref a18, .ref a19, .ref a20, .int 0, .ref a21, .ref a22, .int 0, .int 0, .ref a23, .ref a24, .ref a25, .ref a26, .ref a27, .int 0, .ref a28, .ref a29, .ref a1, .ref a30, .ref a31, .ref a32, .ref a33], zi G a1 8 (fun _ => 0)] sz)) ((fun A => va_Qv (fun (_ : Unit) => True) (fun (_ : Unit) t => zQ G [zo a0 10 [.int 0, .ref a2, .int 0, .ref a3, .int 0, .ref a4, .ref a5, .ref a6, .ref a7, .ref a8, .int 0, .int 0, .int 0, .int 0, .int 0, .int 0, .int (-1), .int 0, .ref a9, .int 0, .int 0, .ref a10, .int 0, .int 0, .ref a11, .int 0, .int 0, .ref a12, .ref a13, .ref a14, .ref a15, .int 0, .int 0, .ref a16, .ref a17, .ref a18, .ref a19, .ref a20, .int 0, .ref a21, .ref a22, .int 0, .int 0, .ref a23, .ref a24, .ref a25, .ref a26, .ref a27, .int 0, .ref a28, .ref a29, .ref a1, .ref a30, .ref a31, .ref a32, .ref a33], zi G a1 8 (fun _ => 0)] A t) A) (va_A [zo a0 10 [.int 0, .ref a2, .int 0, .ref a3, .int 0, .ref a4, .ref a5, .ref a6, .ref a7, .ref a8, .int 0, .int 0, .int 0, .int 0, .int 0, .int 0, .int (-1), .int 0, .ref a9, .int 0, .int 0, .ref a10, .int 0, .int 0, .ref a11, .int 0, .int 0, .ref a12, .ref a13, .ref a14, .ref a15, .int 0, .int 0, .ref a16, .ref a17, .ref a18, .ref a19, .ref a20, .int 0, .ref a21, .ref a22, .int 0, .int 0, .ref a23, .ref a24, .ref a25, .ref a26, .ref a27, .int 0, .ref a28, .ref a29, .ref a1, .ref a30, .ref a31, .ref a32, .ref a33], zi G a1 8 (fun _ => 0)] sz)) 0 0 (va_A [zo a0 10 [.int 0, .ref a2, .int 0, .ref a3, .int 0, .ref a4, .ref a5, .ref a6, .ref a7, .ref a8, .int 0, .int 0, .int 0, .int 0, .int 0, .int 0, .int (-1), .int 0, .ref a9, .int 0, .int 0, .ref a10, .int 0, .int 0, .ref a11, .int 0, .int 0, .ref a12, .ref a13, .ref a14, .ref a15, .int 0, .int 0, .ref a16, .ref a17, .ref a18, .ref a19, .ref a20, .int 0, .ref a21, .ref a22, .int 0, .int 0, .ref a23, .ref a24, .ref a25, .ref a26, .ref a27, .int 0, .ref a28, .ref a29, .ref a1, .ref a30, .ref a31, .ref a32, .ref a33], zi G a1 8 (fun _ => 0)] sz) := by
  refine z_start (QA := (fun A => va_Qv (fun (_ : Unit) => True) (fun (_ : Unit) t => zQ G [zo a0 10 [.int 0, .ref a2, .int 0, .ref a3, .int 0, .ref a4, .ref a5, .ref a6, .ref a7, .ref a8, .int 0, .int 0, .int 0, .int 0, .int 0, .int 0, .int (-1), .int 0, .ref a9, .int 0, .int 0, .ref a10, .int 0, .int 0, .ref a11, .int 0, .int 0, .ref a12, .ref a13, .ref a14, .ref a15, .int 0, .int 0, .ref a16, .ref a17, .ref a18, .ref a19, .ref a20, .int 0, .ref a21, .ref a22, .int 0, .int 0, .ref a23, .ref a24, .ref a25, .ref a26, .ref a27, .int 0, .ref a28, .ref a29, .ref a1, .ref a30, .ref a31, .ref a32, .ref a33], zi G a1 8 (fun _ => 0)] A t) A)) (by decide) ⟨Nat.le_of_ble_eq_true rfl, trivial⟩ ?_
  intro p e s m below meth c A ls E B hr hlocks hin hl
  have hl : lv_has ls 6 [(0, .ref a0), (1, .int 0), (2, .int 1)] := hl
  have B : zB G A s.heap [zo a0 10 [.int 0, .ref a2, .int 0, .ref a3, .int 0, .ref a4, .ref a5, .ref a6, .ref a7, .ref a8, .int 0, .int 0, .int 0, .int 0, .int 0, .int 0, .int (-1), .int 0, .ref a9, .int 0, .int 0, .ref a10, .int 0, .int 0, .ref a11, .int 0, .int 0, .ref a12, .ref a13, .ref a14, .ref a15, .int 0, .int 0, .ref a16, .ref a17, .ref a18, .ref a19, .ref a20, .int 0, .ref a21, .ref a22, .int 0, .int 0, .ref a23, .ref a24, .ref a25, .ref a26, .ref a27, .int 0, .ref a28, .ref a29, .ref a1, .ref a30, .ref a31, .ref a32, .ref a33], zi G a1 8 (fun _ => 0)] s.heap [] := B
  refine lv_iload_n E.x E.b dX12_laysPlace_0 rfl (lv_at hl 1 rfl) ?_
  refine lv_istore_n (lv' := [(3, .int 0), (0, .ref a0), (1, .int 0), (2, .int 1)]) E.x E.b dX12_laysPlace_1 rfl hl (by decide) rfl (fun ls hl => ?_)
  refine lv_iload_n E.x E.b dX12_laysPlace_2 rfl (lv_at hl 3 rfl) ?_
  refine lv_iconst (v := 1) E.x E.b dX12_laysPlace_3 (by decide) ?_
  refine lv_isub E.x E.b dX12_laysPlace_4 (z_topi 0 (by decide +kernel) ?_)
  refine lv_istore (lv' := [(4, .int 0), (3, .int 0), (0, .ref a0), (1, .int 0), (2, .int 1)]) E.x E.b dX12_laysPlace_5 hl (by decide) rfl (fun ls hl => ?_)
  refine lv_iload E.x E.b dX12_laysPlace_7 (lv_at hl 0 rfl) ?_
  refine lv_if_lt (tgt := 84) E.x E.b dX12_laysPlace_9 (by decide) (fun c => absurd c (by decide +kernel)) (fun _ => ?_)
  refine lv_aload_n E.x E.b dX12_laysPlace_12 rfl (lv_at hl 2 rfl) ?_
  refine z_get E B z_inX12 (ci := 10) rfl 51 (by decide) t_1243 0 rfl rfl dX12_laysPlace_13 ?_
  refine lv_iload E.x E.b dX12_laysPlace_16 (lv_at hl 0 rfl) ?_
  refine lv_iload_n E.x E.b dX12_laysPlace_18 rfl (lv_at hl 1 rfl) ?_
  refine lv_iload_n E.x E.b dX12_laysPlace_19 rfl (lv_at hl 4 rfl) ?_
  refine lv_iload E.x E.b dX12_laysPlace_20 (lv_at hl 0 rfl) ?_
  refine lv_isub E.x E.b dX12_laysPlace_22 (z_topi 1 (by decide +kernel) ?_)
  refine lv_irem E.x E.b dX12_laysPlace_23 (by decide) (z_topi 0 (by decide +kernel) ?_)
  refine z_iast0 E B 1 rfl (show ¬ ((0 : Int32) < 0 ∨ 8 ≤ (0 : Int32).toNatClampNeg) by decide +kernel) dX12_laysPlace_24 (fun H locs B => ?_)
  have B : zB G A s.heap [zo a0 10 [.int 0, .ref a2, .int 0, .ref a3, .int 0, .ref a4, .ref a5, .ref a6, .ref a7, .ref a8, .int 0, .int 0, .int 0, .int 0, .int 0, .int 0, .int (-1), .int 0, .ref a9, .int 0, .int 0, .ref a10, .int 0, .int 0, .ref a11, .int 0, .int 0, .ref a12, .ref a13, .ref a14, .ref a15, .int 0, .int 0, .ref a16, .ref a17, .ref a18, .ref a19, .ref a20, .int 0, .ref a21, .ref a22, .int 0, .int 0, .ref a23, .ref a24, .ref a25, .ref a26, .ref a27, .int 0, .ref a28, .ref a29, .ref a1, .ref a30, .ref a31, .ref a32, .ref a33], zi G a1 8 (fun _ => 0)] _ _ := B
  refine lv_iload_n E.x E.b dX12_laysPlace_25 rfl (lv_at hl 1 rfl) ?_
  refine lv_iload_n E.x E.b dX12_laysPlace_26 rfl (lv_at hl 4 rfl) ?_
  refine lv_iload E.x E.b dX12_laysPlace_27 (lv_at hl 0 rfl) ?_
  refine lv_isub E.x E.b dX12_laysPlace_29 (z_topi 1 (by decide +kernel) ?_)
  refine lv_idiv E.x E.b dX12_laysPlace_30 (by decide) (z_topi 0 (by decide +kernel) ?_)
  refine lv_istore_n (lv' := [(3, .int 0), (4, .int 0), (0, .ref a0), (1, .int 0), (2, .int 1)]) E.x E.b dX12_laysPlace_31 rfl hl (by decide) rfl (fun ls hl => ?_)
  refine lv_iload E.x E.b dX12_laysPlace_32 (lv_at hl 1 rfl) ?_
  refine lv_iconst (v := 1) E.x E.b dX12_laysPlace_34 (by decide) ?_
  refine lv_iadd E.x E.b dX12_laysPlace_35 (z_topi 1 (by decide +kernel) ?_)
  refine lv_istore (lv' := [(5, .int 1), (3, .int 0), (4, .int 0), (0, .ref a0), (1, .int 0), (2, .int 1)]) E.x E.b dX12_laysPlace_36 hl (by decide) rfl (fun ls hl => ?_)
  refine lv_iload E.x E.b dX12_laysPlace_38 (lv_at hl 0 rfl) ?_
  refine lv_iload_n E.x E.b dX12_laysPlace_40 rfl (lv_at hl 5 rfl) ?_
  refine lv_icmp_ge (tgt := 78) E.x E.b dX12_laysPlace_41 (by decide) (fun _ => ?_) (fun c => absurd (by decide +kernel) c)
  refine lv_iinc (v := (-1)) (lv' := [(4, .int (-1)), (5, .int 1), (3, .int 0), (0, .ref a0), (1, .int 0), (2, .int 1)]) E.x E.b dX12_laysPlace_78 hl (k := 2) rfl (by decide +kernel) (by decide) rfl (fun ls hl => ?_)
  refine lv_goto (tgt := 7) E.x E.b dX12_laysPlace_81 (by decide) ?_
  refine lv_iload E.x E.b dX12_laysPlace_7 (lv_at hl 0 rfl) ?_
  refine lv_if_lt (tgt := 84) E.x E.b dX12_laysPlace_9 (by decide) (fun _ => ?_) (fun c => absurd (by decide +kernel) c)
  refine W.widen (k := 0) (n := 0) (Nat.le_of_ble_eq_true rfl) (Nat.le_of_ble_eq_true rfl) ?_
  exact z_vret E hr hlocks B trivial (fun t ht => z_q B [0, 1] (by decide) rfl ht) dX12_laysPlace_84
