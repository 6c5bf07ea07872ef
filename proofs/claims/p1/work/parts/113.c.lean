set_option maxHeartbeats 4000000 in
set_option maxRecDepth 100000 in
theorem c_X12_read_158 (l : Launch) (G : zGT) (sz : Nat) (a0 a1 a2 a3 a4 a5 a6 a7 a8 a9 a10 a11 a12 a13 a14 a15 a16 a17 a18 a19 a20 a21 a22 a23 a24 a25 a26 a27 a28 a29 a30 a31 a32 a33 : Nat) : Met l yX12_read (.code yX12_read cX12_read 2 (some .int) :: zT) ({ frames := 2, cells := 0, slots := 0, locals := 116 }) (va_Pc [.ref a0] (zPc G [zo a0 10 [.int 0, .ref a12, .int 0, .ref a13, .int 0, .ref a1, .ref a2, .ref a3, .ref a4, .ref a14, .int 0, .int 0, .int 0, .int 0, .int 0, .int 0, .int (-1), .int 0, .ref a7, .int 0, .int 0, .ref a9, .int 0, .int 0, .ref a6, .int 0, .int 0, .ref a8, .ref a10, .ref a5, .ref a15, .int 0, .int 0, .ref a16, .ref a11, .ref a17, .ref a18, .ref a19, .int 0, .ref a20, .ref a21, .int 0, .int 0, .ref a22, .ref a23, .ref a24, .ref a25, .ref a26, .int (-1), .ref a27, .ref a28, .ref a29, .ref a30, .ref a31, .ref a32, .ref a33], zi G a1 403 (fun _ => 0), zi G a2 403 (fun _ => 0), zi G a3 403 (fun _ => 0), zj G a4 403 (fun _ => 0), zi G a5 49 (fun _ => 0), zi G a6 4 (fun _ => 0), zi G a7 4 (upd (upd (upd (upd (fun _ => 0) 0 1) 1 1) 2 5) 3 13), zi G a8 8 (fun _ => 0), zi G a9 8 (fun _ => 0), zi G a10 49 (fun _ => 0), zz G a11 3 (fun _ => 0)] sz)) ((fun A => va_Qi (fun (r : Int32) (_ : Unit) => r = 0) (fun (_ : Unit) t => zQ G [] A t) A) (va_A [zo a0 10 [.int 0, .ref a12, .int 0, .ref a13, .int 0, .ref a1, .ref a2, .ref a3, .ref a4, .ref a14, .int 0, .int 0, .int 0, .int 0, .int 0, .int 0, .int (-1), .int 0, .ref a7, .int 0, .int 0, .ref a9, .int 0, .int 0, .ref a6, .int 0, .int 0, .ref a8, .ref a10, .ref a5, .ref a15, .int 0, .int 0, .ref a16, .ref a11, .ref a17, .ref a18, .ref a19, .int 0, .ref a20, .ref a21, .int 0, .int 0, .ref a22, .ref a23, .ref a24, .ref a25, .ref a26, .int (-1), .ref a27, .ref a28, .ref a29, .ref a30, .ref a31, .ref a32, .ref a33], zi G a1 403 (fun _ => 0), zi G a2 403 (fun _ => 0), zi G a3 403 (fun _ => 0), zj G a4 403 (fun _ => 0), zi G a5 49 (fun _ => 0), zi G a6 4 (fun _ => 0), zi G a7 4 (upd (upd (upd (upd (fun _ => 0) 0 1) 1 1) 2 5) 3 13), zi G a8 8 (fun _ => 0), zi G a9 8 (fun _ => 0), zi G a10 49 (fun _ => 0), zz G a11 3 (fun _ => 0)] sz)) 0 0 (va_A [zo a0 10 [.int 0, .ref a12, .int 0, .ref a13, .int 0, .ref a1, .ref a2, .ref a3, .ref a4, .ref a14, .int 0, .int 0, .int 0, .int 0, .int 0, .int 0, .int (-1), .int 0, .ref a7, .int 0, .int 0, .ref a9, .int 0, .int 0, .ref a6, .int 0, .int 0, .ref a8, .ref a10, .ref a5, .ref a15, .int 0, .int 0, .ref a16, .ref a11, .ref a17, .ref a18, .ref a19, .int 0, .ref a20, .ref a21, .int 0, .int 0, .ref a22, .ref a23, .ref a24, .ref a25, .ref a26, .int (-1), .ref a27, .ref a28, .ref a29, .ref a30, .ref a31, .ref a32, .ref a33], zi G a1 403 (fun _ => 0), zi G a2 403 (fun _ => 0), zi G a3 403 (fun _ => 0), zj G a4 403 (fun _ => 0), zi G a5 49 (fun _ => 0), zi G a6 4 (fun _ => 0), zi G a7 4 (upd (upd (upd (upd (fun _ => 0) 0 1) 1 1) 2 5) 3 13), zi G a8 8 (fun _ => 0), zi G a9 8 (fun _ => 0), zi G a10 49 (fun _ => 0), zz G a11 3 (fun _ => 0)] sz) := by
  refine z_start (QA := (fun A => va_Qi (fun (r : Int32) (_ : Unit) => r = 0) (fun (_ : Unit) t => zQ G [] A t) A)) (by decide) ⟨Nat.le_of_ble_eq_true rfl, trivial⟩ ?_
  intro p e s m below meth c A ls E B hr hlocks hin hl
  have hl : lv_has ls 2 [(0, .ref a0)] := hl
  have B : zB G A s.heap [zo a0 10 [.int 0, .ref a12, .int 0, .ref a13, .int 0, .ref a1, .ref a2, .ref a3, .ref a4, .ref a14, .int 0, .int 0, .int 0, .int 0, .int 0, .int 0, .int (-1), .int 0, .ref a7, .int 0, .int 0, .ref a9, .int 0, .int 0, .ref a6, .int 0, .int 0, .ref a8, .ref a10, .ref a5, .ref a15, .int 0, .int 0, .ref a16, .ref a11, .ref a17, .ref a18, .ref a19, .int 0, .ref a20, .ref a21, .int 0, .int 0, .ref a22, .ref a23, .ref a24, .ref a25, .ref a26, .int (-1), .ref a27, .ref a28, .ref a29, .ref a30, .ref a31, .ref a32, .ref a33], zi G a1 403 (fun _ => 0), zi G a2 403 (fun _ => 0), zi G a3 403 (fun _ => 0), zj G a4 403 (fun _ => 0), zi G a5 49 (fun _ => 0), zi G a6 4 (fun _ => 0), zi G a7 4 (upd (upd (upd (upd (fun _ => 0) 0 1) 1 1) 2 5) 3 13), zi G a8 8 (fun _ => 0), zi G a9 8 (fun _ => 0), zi G a10 49 (fun _ => 0), zz G a11 3 (fun _ => 0)] s.heap [] := B
  refine lv_aload_n E.x E.b dX12_read_0 rfl (lv_at hl 0 rfl) ?_
  refine lv_aload_n E.x E.b dX12_read_1 rfl (lv_at hl 0 rfl) ?_
  refine z_get E B z_inX12 (ci := 10) rfl 2 (by decide) t_1194 0 rfl rfl dX12_read_2 ?_
  refine z_put E B z_inX12 tyX12 tyX12_ok nmX12 (ci := 10) rfl 4 (by decide) rfl (ty := .int) (by decide +kernel) t_1196 0 rfl (Nat.le_of_ble_eq_true rfl) rfl rfl dX12_read_5 (fun H locs B => ?_)
  have B : zB G A s.heap [zo a0 10 [.int 0, .ref a12, .int 0, .ref a13, .int 0, .ref a1, .ref a2, .ref a3, .ref a4, .ref a14, .int 0, .int 0, .int 0, .int 0, .int 0, .int 0, .int (-1), .int 0, .ref a7, .int 0, .int 0, .ref a9, .int 0, .int 0, .ref a6, .int 0, .int 0, .ref a8, .ref a10, .ref a5, .ref a15, .int 0, .int 0, .ref a16, .ref a11, .ref a17, .ref a18, .ref a19, .int 0, .ref a20, .ref a21, .int 0, .int 0, .ref a22, .ref a23, .ref a24, .ref a25, .ref a26, .int (-1), .ref a27, .ref a28, .ref a29, .ref a30, .ref a31, .ref a32, .ref a33], zi G a1 403 (fun _ => 0), zi G a2 403 (fun _ => 0), zi G a3 403 (fun _ => 0), zj G a4 403 (fun _ => 0), zi G a5 49 (fun _ => 0), zi G a6 4 (fun _ => 0), zi G a7 4 (upd (upd (upd (upd (fun _ => 0) 0 1) 1 1) 2 5) 3 13), zi G a8 8 (fun _ => 0), zi G a9 8 (fun _ => 0), zi G a10 49 (fun _ => 0), zz G a11 3 (fun _ => 0)] _ _ := B
  refine lv_iconst (v := 0) E.x E.b dX12_read_8 (by decide) ?_
  refine lv_istore_n (lv' := [(1, .int 0), (0, .ref a0)]) E.x E.b dX12_read_9 rfl hl (by decide) rfl (fun ls hl => ?_)
  refine lv_iload_n E.x E.b dX12_read_10 rfl (lv_at hl 0 rfl) ?_
  refine lv_aload_n E.x E.b dX12_read_11 rfl (lv_at hl 1 rfl) ?_
  refine z_get E B z_inX12 (ci := 10) rfl 4 (by decide) t_1196 0 rfl rfl dX12_read_12 ?_
  refine lv_icmp_ge (tgt := 36) E.x E.b dX12_read_15 (by decide) (fun _ => ?_) (fun c => absurd (by decide +kernel) c)
  refine lv_aload_n E.x E.b dX12_read_36 rfl (lv_at hl 1 rfl) ?_
  refine lv_iconst (v := 0) E.x E.b dX12_read_37 (by decide) ?_
  refine z_put E B z_inX12 tyX12 tyX12_ok nmX12 (ci := 10) rfl 2 (by decide) rfl (ty := .int) (by decide +kernel) t_1194 0 rfl (Nat.le_of_ble_eq_true rfl) rfl rfl dX12_read_38 (fun H locs B => ?_)
  have B : zB G A s.heap [zo a0 10 [.int 0, .ref a12, .int 0, .ref a13, .int 0, .ref a1, .ref a2, .ref a3, .ref a4, .ref a14, .int 0, .int 0, .int 0, .int 0, .int 0, .int 0, .int (-1), .int 0, .ref a7, .int 0, .int 0, .ref a9, .int 0, .int 0, .ref a6, .int 0, .int 0, .ref a8, .ref a10, .ref a5, .ref a15, .int 0, .int 0, .ref a16, .ref a11, .ref a17, .ref a18, .ref a19, .int 0, .ref a20, .ref a21, .int 0, .int 0, .ref a22, .ref a23, .ref a24, .ref a25, .ref a26, .int (-1), .ref a27, .ref a28, .ref a29, .ref a30, .ref a31, .ref a32, .ref a33], zi G a1 403 (fun _ => 0), zi G a2 403 (fun _ => 0), zi G a3 403 (fun _ => 0), zj G a4 403 (fun _ => 0), zi G a5 49 (fun _ => 0), zi G a6 4 (fun _ => 0), zi G a7 4 (upd (upd (upd (upd (fun _ => 0) 0 1) 1 1) 2 5) 3 13), zi G a8 8 (fun _ => 0), zi G a9 8 (fun _ => 0), zi G a10 49 (fun _ => 0), zz G a11 3 (fun _ => 0)] _ _ := B
  refine lv_aload_n E.x E.b dX12_read_41 rfl (lv_at hl 1 rfl) ?_
  refine z_callv E B (wc := [zo a0 10 [.int 0, .ref a12, .int 0, .ref a13, .int 0, .ref a1, .ref a2, .ref a3, .ref a4, .ref a14, .int 0, .int 0, .int 0, .int 0, .int 0, .int 0, .int (-1), .int 0, .ref a7, .int 0, .int 0, .ref a9, .int 0, .int 0, .ref a6, .int 0, .int 0, .ref a8, .ref a10, .ref a5, .ref a15, .int 0, .int 0, .ref a16, .ref a11, .ref a17, .ref a18, .ref a19, .int 0, .ref a20, .ref a21, .int 0, .int 0, .ref a22, .ref a23, .ref a24, .ref a25, .ref a26, .int (-1), .ref a27, .ref a28, .ref a29, .ref a30, .ref a31, .ref a32, .ref a33], zi G a1 403 (fun _ => 0), zi G a2 403 (fun _ => 0), zi G a3 403 (fun _ => 0), zj G a4 403 (fun _ => 0)]) (wr := [zi G a5 49 (fun _ => 0), zi G a6 4 (fun _ => 0), zi G a7 4 (upd (upd (upd (upd (fun _ => 0) 0 1) 1 1) 2 5) 3 13), zi G a8 8 (fun _ => 0), zi G a9 8 (fun _ => 0), zi G a10 49 (fun _ => 0), zz G a11 3 (fun _ => 0)]) [0, 1, 2, 3, 4] [5, 6, 7, 8, 9, 10, 11] rfl rfl (by decide) (by decide) (z_runV E B (As := []) (rest := []) [0, 1, 2, 3, 4] rfl (by decide) mv_X12_cutsText t_1377 0 (ci := 10) rfl rfl rfl (c_X12_cutsText_155 l G _ a0 a1 a2 a3 a4 a12 a13 a14 a7 a9 a6 a8 a10 a5 a15 a16 a11 a17 a18 a19 a20 a21 a22 a23 a24 a25 a26 a27 a28 a29 a30 a31 a32 a33) rfl rfl ⟨Nat.le_of_ble_eq_true rfl, Nat.le_of_ble_eq_true rfl⟩ rfl hl.1 rfl (Nat.le_of_ble_eq_true rfl) dX12_read_42 ⟨(Nat.le_of_ble_eq_true rfl), (Nat.le_of_ble_eq_true rfl)⟩) (fun  t H locs hp hB J => ?_)
  obtain ⟨g_1, hq⟩ := hB
  have B := J _ hq
  have B : zB G A s.heap [zi G a5 49 (fun _ => 0), zi G a6 4 (fun _ => 0), zi G a7 4 (upd (upd (upd (upd (fun _ => 0) 0 1) 1 1) 2 5) 3 13), zi G a8 8 (fun _ => 0), zi G a9 8 (fun _ => 0), zi G a10 49 (fun _ => 0), zz G a11 3 (fun _ => 0), zo a0 10 [.int 0, .ref a12, .int 0, .ref a13, .int 0, .ref a1, .ref a2, .ref a3, .ref a4, .ref a14, .int 1, .int 0, .int 0, .int 0, .int 0, .int 0, .int (-1), .int 0, .ref a7, .int 0, .int 0, .ref a9, .int 0, .int 0, .ref a6, .int 0, .int 0, .ref a8, .ref a10, .ref a5, .ref a15, .int 0, .int 0, .ref a16, .ref a11, .ref a17, .ref a18, .ref a19, .int 0, .ref a20, .ref a21, .int 0, .int 0, .ref a22, .ref a23, .ref a24, .ref a25, .ref a26, .int (-1), .ref a27, .ref a28, .ref a29, .ref a30, .ref a31, .ref a32, .ref a33], zi G a1 403 (fun _ => 0), zi G a2 403 (fun _ => 0), zi G a3 403 (fun _ => 0), zj G a4 403 g_1] _ _ := B
  refine lv_aload_n E.x E.b dX12_read_45 rfl (lv_at hl 1 rfl) ?_
  refine lv_iconst (v := 0) E.x E.b dX12_read_46 (by decide) ?_
  refine z_put E B z_inX12 tyX12 tyX12_ok nmX12 (ci := 10) rfl 11 (by decide) rfl (ty := .int) (by decide +kernel) t_1203 7 rfl (Nat.le_of_ble_eq_true rfl) rfl rfl dX12_read_47 (fun H locs B => ?_)
  have B : zB G A s.heap [zi G a5 49 (fun _ => 0), zi G a6 4 (fun _ => 0), zi G a7 4 (upd (upd (upd (upd (fun _ => 0) 0 1) 1 1) 2 5) 3 13), zi G a8 8 (fun _ => 0), zi G a9 8 (fun _ => 0), zi G a10 49 (fun _ => 0), zz G a11 3 (fun _ => 0), zo a0 10 [.int 0, .ref a12, .int 0, .ref a13, .int 0, .ref a1, .ref a2, .ref a3, .ref a4, .ref a14, .int 1, .int 0, .int 0, .int 0, .int 0, .int 0, .int (-1), .int 0, .ref a7, .int 0, .int 0, .ref a9, .int 0, .int 0, .ref a6, .int 0, .int 0, .ref a8, .ref a10, .ref a5, .ref a15, .int 0, .int 0, .ref a16, .ref a11, .ref a17, .ref a18, .ref a19, .int 0, .ref a20, .ref a21, .int 0, .int 0, .ref a22, .ref a23, .ref a24, .ref a25, .ref a26, .int (-1), .ref a27, .ref a28, .ref a29, .ref a30, .ref a31, .ref a32, .ref a33], zi G a1 403 (fun _ => 0), zi G a2 403 (fun _ => 0), zi G a3 403 (fun _ => 0), zj G a4 403 g_1] _ _ := B
  refine lv_aload_n E.x E.b dX12_read_50 rfl (lv_at hl 1 rfl) ?_
  refine lv_iconst (v := 0) E.x E.b dX12_read_51 (by decide) ?_
  refine z_put E B z_inX12 tyX12 tyX12_ok nmX12 (ci := 10) rfl 12 (by decide) rfl (ty := .int) (by decide +kernel) t_1204 7 rfl (Nat.le_of_ble_eq_true rfl) rfl rfl dX12_read_52 (fun H locs B => ?_)
  have B : zB G A s.heap [zi G a5 49 (fun _ => 0), zi G a6 4 (fun _ => 0), zi G a7 4 (upd (upd (upd (upd (fun _ => 0) 0 1) 1 1) 2 5) 3 13), zi G a8 8 (fun _ => 0), zi G a9 8 (fun _ => 0), zi G a10 49 (fun _ => 0), zz G a11 3 (fun _ => 0), zo a0 10 [.int 0, .ref a12, .int 0, .ref a13, .int 0, .ref a1, .ref a2, .ref a3, .ref a4, .ref a14, .int 1, .int 0, .int 0, .int 0, .int 0, .int 0, .int (-1), .int 0, .ref a7, .int 0, .int 0, .ref a9, .int 0, .int 0, .ref a6, .int 0, .int 0, .ref a8, .ref a10, .ref a5, .ref a15, .int 0, .int 0, .ref a16, .ref a11, .ref a17, .ref a18, .ref a19, .int 0, .ref a20, .ref a21, .int 0, .int 0, .ref a22, .ref a23, .ref a24, .ref a25, .ref a26, .int (-1), .ref a27, .ref a28, .ref a29, .ref a30, .ref a31, .ref a32, .ref a33], zi G a1 403 (fun _ => 0), zi G a2 403 (fun _ => 0), zi G a3 403 (fun _ => 0), zj G a4 403 g_1] _ _ := B
  refine lv_aload_n E.x E.b dX12_read_55 rfl (lv_at hl 1 rfl) ?_
  refine lv_iconst (v := 0) E.x E.b dX12_read_56 (by decide) ?_
  refine z_put E B z_inX12 tyX12 tyX12_ok nmX12 (ci := 10) rfl 14 (by decide) rfl (ty := .int) (by decide +kernel) t_1206 7 rfl (Nat.le_of_ble_eq_true rfl) rfl rfl dX12_read_57 (fun H locs B => ?_)
  have B : zB G A s.heap [zi G a5 49 (fun _ => 0), zi G a6 4 (fun _ => 0), zi G a7 4 (upd (upd (upd (upd (fun _ => 0) 0 1) 1 1) 2 5) 3 13), zi G a8 8 (fun _ => 0), zi G a9 8 (fun _ => 0), zi G a10 49 (fun _ => 0), zz G a11 3 (fun _ => 0), zo a0 10 [.int 0, .ref a12, .int 0, .ref a13, .int 0, .ref a1, .ref a2, .ref a3, .ref a4, .ref a14, .int 1, .int 0, .int 0, .int 0, .int 0, .int 0, .int (-1), .int 0, .ref a7, .int 0, .int 0, .ref a9, .int 0, .int 0, .ref a6, .int 0, .int 0, .ref a8, .ref a10, .ref a5, .ref a15, .int 0, .int 0, .ref a16, .ref a11, .ref a17, .ref a18, .ref a19, .int 0, .ref a20, .ref a21, .int 0, .int 0, .ref a22, .ref a23, .ref a24, .ref a25, .ref a26, .int (-1), .ref a27, .ref a28, .ref a29, .ref a30, .ref a31, .ref a32, .ref a33], zi G a1 403 (fun _ => 0), zi G a2 403 (fun _ => 0), zi G a3 403 (fun _ => 0), zj G a4 403 g_1] _ _ := B
  refine lv_aload_n E.x E.b dX12_read_60 rfl (lv_at hl 1 rfl) ?_
  refine lv_iconst (v := 0) E.x E.b dX12_read_61 (by decide) ?_
  refine z_put E B z_inX12 tyX12 tyX12_ok nmX12 (ci := 10) rfl 22 (by decide) rfl (ty := .int) (by decide +kernel) t_1214 7 rfl (Nat.le_of_ble_eq_true rfl) rfl rfl dX12_read_62 (fun H locs B => ?_)
  have B : zB G A s.heap [zi G a5 49 (fun _ => 0), zi G a6 4 (fun _ => 0), zi G a7 4 (upd (upd (upd (upd (fun _ => 0) 0 1) 1 1) 2 5) 3 13), zi G a8 8 (fun _ => 0), zi G a9 8 (fun _ => 0), zi G a10 49 (fun _ => 0), zz G a11 3 (fun _ => 0), zo a0 10 [.int 0, .ref a12, .int 0, .ref a13, .int 0, .ref a1, .ref a2, .ref a3, .ref a4, .ref a14, .int 1, .int 0, .int 0, .int 0, .int 0, .int 0, .int (-1), .int 0, .ref a7, .int 0, .int 0, .ref a9, .int 0, .int 0, .ref a6, .int 0, .int 0, .ref a8, .ref a10, .ref a5, .ref a15, .int 0, .int 0, .ref a16, .ref a11, .ref a17, .ref a18, .ref a19, .int 0, .ref a20, .ref a21, .int 0, .int 0, .ref a22, .ref a23, .ref a24, .ref a25, .ref a26, .int (-1), .ref a27, .ref a28, .ref a29, .ref a30, .ref a31, .ref a32, .ref a33], zi G a1 403 (fun _ => 0), zi G a2 403 (fun _ => 0), zi G a3 403 (fun _ => 0), zj G a4 403 g_1] _ _ := B
  refine lv_aload_n E.x E.b dX12_read_65 rfl (lv_at hl 1 rfl) ?_
  refine lv_iconst (v := 0) E.x E.b dX12_read_66 (by decide) ?_
  refine z_put E B z_inX12 tyX12 tyX12_ok nmX12 (ci := 10) rfl 23 (by decide) rfl (ty := .int) (by decide +kernel) t_1215 7 rfl (Nat.le_of_ble_eq_true rfl) rfl rfl dX12_read_67 (fun H locs B => ?_)
  have B : zB G A s.heap [zi G a5 49 (fun _ => 0), zi G a6 4 (fun _ => 0), zi G a7 4 (upd (upd (upd (upd (fun _ => 0) 0 1) 1 1) 2 5) 3 13), zi G a8 8 (fun _ => 0), zi G a9 8 (fun _ => 0), zi G a10 49 (fun _ => 0), zz G a11 3 (fun _ => 0), zo a0 10 [.int 0, .ref a12, .int 0, .ref a13, .int 0, .ref a1, .ref a2, .ref a3, .ref a4, .ref a14, .int 1, .int 0, .int 0, .int 0, .int 0, .int 0, .int (-1), .int 0, .ref a7, .int 0, .int 0, .ref a9, .int 0, .int 0, .ref a6, .int 0, .int 0, .ref a8, .ref a10, .ref a5, .ref a15, .int 0, .int 0, .ref a16, .ref a11, .ref a17, .ref a18, .ref a19, .int 0, .ref a20, .ref a21, .int 0, .int 0, .ref a22, .ref a23, .ref a24, .ref a25, .ref a26, .int (-1), .ref a27, .ref a28, .ref a29, .ref a30, .ref a31, .ref a32, .ref a33], zi G a1 403 (fun _ => 0), zi G a2 403 (fun _ => 0), zi G a3 403 (fun _ => 0), zj G a4 403 g_1] _ _ := B
  refine lv_aload_n E.x E.b dX12_read_70 rfl (lv_at hl 1 rfl) ?_
  refine z_get E B z_inX12 (ci := 10) rfl 12 (by decide) t_1204 7 rfl rfl dX12_read_71 ?_
  refine lv_if_ne (tgt := 92) E.x E.b dX12_read_74 (by decide) (fun c => absurd (by decide +kernel) c) (fun _ => ?_)
  refine lv_aload_n E.x E.b dX12_read_77 rfl (lv_at hl 1 rfl) ?_
  refine lv_iconst (v := 0) E.x E.b dX12_read_78 (by decide) ?_
  refine z_calli E B (wc := [zo a0 10 [.int 0, .ref a12, .int 0, .ref a13, .int 0, .ref a1, .ref a2, .ref a3, .ref a4, .ref a14, .int 1, .int 0, .int 0, .int 0, .int 0, .int 0, .int (-1), .int 0, .ref a7, .int 0, .int 0, .ref a9, .int 0, .int 0, .ref a6, .int 0, .int 0, .ref a8, .ref a10, .ref a5, .ref a15, .int 0, .int 0, .ref a16, .ref a11, .ref a17, .ref a18, .ref a19, .int 0, .ref a20, .ref a21, .int 0, .int 0, .ref a22, .ref a23, .ref a24, .ref a25, .ref a26, .int (-1), .ref a27, .ref a28, .ref a29, .ref a30, .ref a31, .ref a32, .ref a33], zi G a1 403 (fun _ => 0)]) (wr := [zi G a5 49 (fun _ => 0), zi G a6 4 (fun _ => 0), zi G a7 4 (upd (upd (upd (upd (fun _ => 0) 0 1) 1 1) 2 5) 3 13), zi G a8 8 (fun _ => 0), zi G a9 8 (fun _ => 0), zi G a10 49 (fun _ => 0), zz G a11 3 (fun _ => 0), zi G a2 403 (fun _ => 0), zi G a3 403 (fun _ => 0), zj G a4 403 g_1]) [7, 8] [0, 1, 2, 3, 4, 5, 6, 9, 10, 11] rfl rfl (by decide) (by decide) (z_runV E B (As := [.int 0]) (rest := []) [7, 8] rfl (by decide) mv_X12_is t_1399 0 (ci := 10) rfl rfl rfl (c_X12_is_156 l G _ a0 a1 a12 a13 a2 a3 a4 a14 a7 a9 a6 a8 a10 a5 a15 a16 a11 a17 a18 a19 a20 a21 a22 a23 a24 a25 a26 a27 a28 a29 a30 a31 a32 a33) rfl rfl ⟨Nat.le_of_ble_eq_true rfl, Nat.le_of_ble_eq_true rfl⟩ rfl hl.1 rfl (Nat.le_of_ble_eq_true rfl) dX12_read_79 ⟨(Nat.le_of_ble_eq_true rfl), (Nat.le_of_ble_eq_true rfl)⟩) (fun r t H locs hp hB J => ?_)
  have hq := hB
  have B := J _ hq
  have B : zB G A s.heap [zi G a5 49 (fun _ => 0), zi G a6 4 (fun _ => 0), zi G a7 4 (upd (upd (upd (upd (fun _ => 0) 0 1) 1 1) 2 5) 3 13), zi G a8 8 (fun _ => 0), zi G a9 8 (fun _ => 0), zi G a10 49 (fun _ => 0), zz G a11 3 (fun _ => 0), zi G a2 403 (fun _ => 0), zi G a3 403 (fun _ => 0), zj G a4 403 g_1, zo a0 10 [.int 0, .ref a12, .int 0, .ref a13, .int 0, .ref a1, .ref a2, .ref a3, .ref a4, .ref a14, .int 1, .int 0, .int 0, .int 0, .int 0, .int 0, .int (-1), .int 0, .ref a7, .int 0, .int 0, .ref a9, .int 0, .int 0, .ref a6, .int 0, .int 0, .ref a8, .ref a10, .ref a5, .ref a15, .int 0, .int 0, .ref a16, .ref a11, .ref a17, .ref a18, .ref a19, .int 0, .ref a20, .ref a21, .int 0, .int 0, .ref a22, .ref a23, .ref a24, .ref a25, .ref a26, .int (-1), .ref a27, .ref a28, .ref a29, .ref a30, .ref a31, .ref a32, .ref a33], zi G a1 403 (fun _ => 0)] _ _ := B
  have hp := hp.symm
  subst hp
  refine lv_if_ne (tgt := 92) E.x E.b dX12_read_82 (by decide) (fun _ => ?_) (fun c => absurd c (by decide +kernel))
  refine lv_aload_n E.x E.b dX12_read_92 rfl (lv_at hl 1 rfl) ?_
  refine z_get E B z_inX12 (ci := 10) rfl 12 (by decide) t_1204 10 rfl rfl dX12_read_93 ?_
  refine lv_if_ne (tgt := 103) E.x E.b dX12_read_96 (by decide) (fun c => absurd (by decide +kernel) c) (fun _ => ?_)
  refine lv_aload_n E.x E.b dX12_read_99 rfl (lv_at hl 1 rfl) ?_
  refine z_callv E B (wc := [zo a0 10 [.int 0, .ref a12, .int 0, .ref a13, .int 0, .ref a1, .ref a2, .ref a3, .ref a4, .ref a14, .int 1, .int 0, .int 0, .int 0, .int 0, .int 0, .int (-1), .int 0, .ref a7, .int 0, .int 0, .ref a9, .int 0, .int 0, .ref a6, .int 0, .int 0, .ref a8, .ref a10, .ref a5, .ref a15, .int 0, .int 0, .ref a16, .ref a11, .ref a17, .ref a18, .ref a19, .int 0, .ref a20, .ref a21, .int 0, .int 0, .ref a22, .ref a23, .ref a24, .ref a25, .ref a26, .int (-1), .ref a27, .ref a28, .ref a29, .ref a30, .ref a31, .ref a32, .ref a33], zi G a5 49 (fun _ => 0), zi G a6 4 (fun _ => 0), zi G a1 403 (fun _ => 0)]) (wr := [zi G a7 4 (upd (upd (upd (upd (fun _ => 0) 0 1) 1 1) 2 5) 3 13), zi G a8 8 (fun _ => 0), zi G a9 8 (fun _ => 0), zi G a10 49 (fun _ => 0), zz G a11 3 (fun _ => 0), zi G a2 403 (fun _ => 0), zi G a3 403 (fun _ => 0), zj G a4 403 g_1]) [10, 0, 1, 11] [2, 3, 4, 5, 6, 7, 8, 9] rfl rfl (by decide) (by decide) (z_runV E B (As := []) (rest := []) [10, 0, 1, 11] rfl (by decide) mv_X12_means t_1423 0 (ci := 10) rfl rfl rfl (c_X12_means_157 l G _ a0 a5 a6 a1 a12 a13 a2 a3 a4 a14 a7 a9 a8 a10 a15 a16 a11 a17 a18 a19 a20 a21 a22 a23 a24 a25 a26 a27 a28 a29 a30 a31 a32 a33) rfl rfl ⟨Nat.le_of_ble_eq_true rfl, Nat.le_of_ble_eq_true rfl⟩ rfl hl.1 rfl (Nat.le_of_ble_eq_true rfl) dX12_read_100 ⟨(Nat.le_of_ble_eq_true rfl), (Nat.le_of_ble_eq_true rfl)⟩) (fun  t H locs hp hB J => ?_)
  have hq := hB
  have B := J _ hq
  have B : zB G A s.heap [zi G a7 4 (upd (upd (upd (upd (fun _ => 0) 0 1) 1 1) 2 5) 3 13), zi G a8 8 (fun _ => 0), zi G a9 8 (fun _ => 0), zi G a10 49 (fun _ => 0), zz G a11 3 (fun _ => 0), zi G a2 403 (fun _ => 0), zi G a3 403 (fun _ => 0), zj G a4 403 g_1, zo a0 10 [.int 0, .ref a12, .int 0, .ref a13, .int 0, .ref a1, .ref a2, .ref a3, .ref a4, .ref a14, .int 1, .int 0, .int 0, .int 0, .int 0, .int 0, .int (-1), .int 0, .ref a7, .int 0, .int 0, .ref a9, .int 0, .int 0, .ref a6, .int 0, .int 0, .ref a8, .ref a10, .ref a5, .ref a15, .int 0, .int 0, .ref a16, .ref a11, .ref a17, .ref a18, .ref a19, .int 0, .ref a20, .ref a21, .int 0, .int 0, .ref a22, .ref a23, .ref a24, .ref a25, .ref a26, .int (-1), .ref a27, .ref a28, .ref a29, .ref a30, .ref a31, .ref a32, .ref a33], zi G a5 49 (fun _ => 0), zi G a6 4 (upd (upd (upd (upd (fun _ => 0) 0 1) 1 1) 2 5) 3 13), zi G a1 403 (fun _ => 0)] _ _ := B
  refine lv_aload_n E.x E.b dX12_read_103 rfl (lv_at hl 1 rfl) ?_
  refine lv_aload_n E.x E.b dX12_read_104 rfl (lv_at hl 1 rfl) ?_
  refine z_get E B z_inX12 (ci := 10) rfl 12 (by decide) t_1204 8 rfl rfl dX12_read_105 ?_
  refine lv_if_le (tgt := 118) E.x E.b dX12_read_108 (by decide) (fun _ => ?_) (fun c => absurd (by decide +kernel) c)
  refine lv_aload_n E.x E.b dX12_read_118 rfl (lv_at hl 1 rfl) ?_
  refine z_get E B z_inX12 (ci := 10) rfl 14 (by decide) t_1206 8 rfl rfl dX12_read_119 ?_
  refine lv_if_le (tgt := 132) E.x E.b dX12_read_122 (by decide) (fun _ => ?_) (fun c => absurd (by decide +kernel) c)
  refine lv_iconst (v := (-1)) E.x E.b dX12_read_132 (by decide) ?_
  refine z_put E B z_inX12 tyX12 tyX12_ok nmX12 (ci := 10) rfl 16 (by decide) rfl (ty := .int) (by decide +kernel) t_1208 8 rfl (Nat.le_of_ble_eq_true rfl) rfl rfl dX12_read_133 (fun H locs B => ?_)
  have B : zB G A s.heap [zi G a7 4 (upd (upd (upd (upd (fun _ => 0) 0 1) 1 1) 2 5) 3 13), zi G a8 8 (fun _ => 0), zi G a9 8 (fun _ => 0), zi G a10 49 (fun _ => 0), zz G a11 3 (fun _ => 0), zi G a2 403 (fun _ => 0), zi G a3 403 (fun _ => 0), zj G a4 403 g_1, zo a0 10 [.int 0, .ref a12, .int 0, .ref a13, .int 0, .ref a1, .ref a2, .ref a3, .ref a4, .ref a14, .int 1, .int 0, .int 0, .int 0, .int 0, .int 0, .int (-1), .int 0, .ref a7, .int 0, .int 0, .ref a9, .int 0, .int 0, .ref a6, .int 0, .int 0, .ref a8, .ref a10, .ref a5, .ref a15, .int 0, .int 0, .ref a16, .ref a11, .ref a17, .ref a18, .ref a19, .int 0, .ref a20, .ref a21, .int 0, .int 0, .ref a22, .ref a23, .ref a24, .ref a25, .ref a26, .int (-1), .ref a27, .ref a28, .ref a29, .ref a30, .ref a31, .ref a32, .ref a33], zi G a5 49 (fun _ => 0), zi G a6 4 (upd (upd (upd (upd (fun _ => 0) 0 1) 1 1) 2 5) 3 13), zi G a1 403 (fun _ => 0)] _ _ := B
  refine lv_aload_n E.x E.b dX12_read_136 rfl (lv_at hl 1 rfl) ?_
  refine z_get E B z_inX12 (ci := 10) rfl 12 (by decide) t_1204 8 rfl rfl dX12_read_137 ?_
  refine lv_if_le (tgt := 148) E.x E.b dX12_read_140 (by decide) (fun _ => ?_) (fun c => absurd (by decide +kernel) c)
  refine lv_aload_n E.x E.b dX12_read_148 rfl (lv_at hl 1 rfl) ?_
  refine z_get E B z_inX12 (ci := 10) rfl 14 (by decide) t_1206 8 rfl rfl dX12_read_149 ?_
  refine lv_if_le (tgt := 160) E.x E.b dX12_read_152 (by decide) (fun _ => ?_) (fun c => absurd (by decide +kernel) c)
  refine lv_aload_n E.x E.b dX12_read_160 rfl (lv_at hl 1 rfl) ?_
  refine lv_aload_n E.x E.b dX12_read_161 rfl (lv_at hl 1 rfl) ?_
  refine z_get E B z_inX12 (ci := 10) rfl 22 (by decide) t_1214 8 rfl rfl dX12_read_162 ?_
  refine z_put E B z_inX12 tyX12 tyX12_ok nmX12 (ci := 10) rfl 17 (by decide) rfl (ty := .int) (by decide +kernel) t_1209 8 rfl (Nat.le_of_ble_eq_true rfl) rfl rfl dX12_read_165 (fun H locs B => ?_)
  have B : zB G A s.heap [zi G a7 4 (upd (upd (upd (upd (fun _ => 0) 0 1) 1 1) 2 5) 3 13), zi G a8 8 (fun _ => 0), zi G a9 8 (fun _ => 0), zi G a10 49 (fun _ => 0), zz G a11 3 (fun _ => 0), zi G a2 403 (fun _ => 0), zi G a3 403 (fun _ => 0), zj G a4 403 g_1, zo a0 10 [.int 0, .ref a12, .int 0, .ref a13, .int 0, .ref a1, .ref a2, .ref a3, .ref a4, .ref a14, .int 1, .int 0, .int 0, .int 0, .int 0, .int 0, .int (-1), .int 0, .ref a7, .int 0, .int 0, .ref a9, .int 0, .int 0, .ref a6, .int 0, .int 0, .ref a8, .ref a10, .ref a5, .ref a15, .int 0, .int 0, .ref a16, .ref a11, .ref a17, .ref a18, .ref a19, .int 0, .ref a20, .ref a21, .int 0, .int 0, .ref a22, .ref a23, .ref a24, .ref a25, .ref a26, .int (-1), .ref a27, .ref a28, .ref a29, .ref a30, .ref a31, .ref a32, .ref a33], zi G a5 49 (fun _ => 0), zi G a6 4 (upd (upd (upd (upd (fun _ => 0) 0 1) 1 1) 2 5) 3 13), zi G a1 403 (fun _ => 0)] _ _ := B
  refine lv_iconst (v := 0) E.x E.b dX12_read_168 (by decide) ?_
  refine lv_istore_n (lv' := [(1, .int 0), (0, .ref a0)]) E.x E.b dX12_read_169 rfl hl (by decide) rfl (fun ls hl => ?_)
  refine lv_iload_n E.x E.b dX12_read_170 rfl (lv_at hl 0 rfl) ?_
  refine lv_iconst (v := 4) E.x E.b dX12_read_171 (by decide) ?_
  refine lv_icmp_ge (tgt := 193) E.x E.b dX12_read_172 (by decide) (fun c => absurd c (by decide +kernel)) (fun _ => ?_)
  refine lv_aload_n E.x E.b dX12_read_175 rfl (lv_at hl 1 rfl) ?_
  refine z_get E B z_inX12 (ci := 10) rfl 18 (by decide) t_1210 8 rfl rfl dX12_read_176 ?_
  refine lv_iload_n E.x E.b dX12_read_179 rfl (lv_at hl 0 rfl) ?_
  refine lv_aload_n E.x E.b dX12_read_180 rfl (lv_at hl 1 rfl) ?_
  refine z_get E B z_inX12 (ci := 10) rfl 24 (by decide) t_1216 8 rfl rfl dX12_read_181 ?_
  refine lv_iload_n E.x E.b dX12_read_184 rfl (lv_at hl 0 rfl) ?_
  refine z_iald E B 10 rfl (show ¬ ((0 : Int32) < 0 ∨ 4 ≤ (0 : Int32).toNatClampNeg) by decide +kernel) dX12_read_185 (z_topi 1 (by decide +kernel) ?_)
  refine z_iast E B 0 rfl (show ¬ ((0 : Int32) < 0 ∨ 4 ≤ (0 : Int32).toNatClampNeg) by decide +kernel) dX12_read_186 (fun H locs B => ?_)
  have B : zB G A s.heap [zi G a7 4 (upd (upd (upd (upd (upd (fun _ => 0) 0 1) 1 1) 2 5) 3 13) 0 1), zi G a8 8 (fun _ => 0), zi G a9 8 (fun _ => 0), zi G a10 49 (fun _ => 0), zz G a11 3 (fun _ => 0), zi G a2 403 (fun _ => 0), zi G a3 403 (fun _ => 0), zj G a4 403 g_1, zo a0 10 [.int 0, .ref a12, .int 0, .ref a13, .int 0, .ref a1, .ref a2, .ref a3, .ref a4, .ref a14, .int 1, .int 0, .int 0, .int 0, .int 0, .int 0, .int (-1), .int 0, .ref a7, .int 0, .int 0, .ref a9, .int 0, .int 0, .ref a6, .int 0, .int 0, .ref a8, .ref a10, .ref a5, .ref a15, .int 0, .int 0, .ref a16, .ref a11, .ref a17, .ref a18, .ref a19, .int 0, .ref a20, .ref a21, .int 0, .int 0, .ref a22, .ref a23, .ref a24, .ref a25, .ref a26, .int (-1), .ref a27, .ref a28, .ref a29, .ref a30, .ref a31, .ref a32, .ref a33], zi G a5 49 (fun _ => 0), zi G a6 4 (upd (upd (upd (upd (fun _ => 0) 0 1) 1 1) 2 5) 3 13), zi G a1 403 (fun _ => 0)] _ _ := B
  refine lv_iinc (v := 1) (lv' := [(1, .int 1), (0, .ref a0)]) E.x E.b dX12_read_187 hl (k := 0) rfl (by decide +kernel) (by decide) rfl (fun ls hl => ?_)
  refine lv_goto (tgt := 170) E.x E.b dX12_read_190 (by decide) ?_
  refine lv_iload_n E.x E.b dX12_read_170 rfl (lv_at hl 0 rfl) ?_
  refine lv_iconst (v := 4) E.x E.b dX12_read_171 (by decide) ?_
  refine lv_icmp_ge (tgt := 193) E.x E.b dX12_read_172 (by decide) (fun c => absurd c (by decide +kernel)) (fun _ => ?_)
  refine lv_aload_n E.x E.b dX12_read_175 rfl (lv_at hl 1 rfl) ?_
  refine z_get E B z_inX12 (ci := 10) rfl 18 (by decide) t_1210 8 rfl rfl dX12_read_176 ?_
  refine lv_iload_n E.x E.b dX12_read_179 rfl (lv_at hl 0 rfl) ?_
  refine lv_aload_n E.x E.b dX12_read_180 rfl (lv_at hl 1 rfl) ?_
  refine z_get E B z_inX12 (ci := 10) rfl 24 (by decide) t_1216 8 rfl rfl dX12_read_181 ?_
  refine lv_iload_n E.x E.b dX12_read_184 rfl (lv_at hl 0 rfl) ?_
  refine z_iald E B 10 rfl (show ¬ ((1 : Int32) < 0 ∨ 4 ≤ (1 : Int32).toNatClampNeg) by decide +kernel) dX12_read_185 (z_topi 1 (by decide +kernel) ?_)
  refine z_iast E B 0 rfl (show ¬ ((1 : Int32) < 0 ∨ 4 ≤ (1 : Int32).toNatClampNeg) by decide +kernel) dX12_read_186 (fun H locs B => ?_)
  have B : zB G A s.heap [zi G a7 4 (upd (upd (upd (upd (upd (upd (fun _ => 0) 0 1) 1 1) 2 5) 3 13) 0 1) 1 1), zi G a8 8 (fun _ => 0), zi G a9 8 (fun _ => 0), zi G a10 49 (fun _ => 0), zz G a11 3 (fun _ => 0), zi G a2 403 (fun _ => 0), zi G a3 403 (fun _ => 0), zj G a4 403 g_1, zo a0 10 [.int 0, .ref a12, .int 0, .ref a13, .int 0, .ref a1, .ref a2, .ref a3, .ref a4, .ref a14, .int 1, .int 0, .int 0, .int 0, .int 0, .int 0, .int (-1), .int 0, .ref a7, .int 0, .int 0, .ref a9, .int 0, .int 0, .ref a6, .int 0, .int 0, .ref a8, .ref a10, .ref a5, .ref a15, .int 0, .int 0, .ref a16, .ref a11, .ref a17, .ref a18, .ref a19, .int 0, .ref a20, .ref a21, .int 0, .int 0, .ref a22, .ref a23, .ref a24, .ref a25, .ref a26, .int (-1), .ref a27, .ref a28, .ref a29, .ref a30, .ref a31, .ref a32, .ref a33], zi G a5 49 (fun _ => 0), zi G a6 4 (upd (upd (upd (upd (fun _ => 0) 0 1) 1 1) 2 5) 3 13), zi G a1 403 (fun _ => 0)] _ _ := B
  refine lv_iinc (v := 2) (lv' := [(1, .int 2), (0, .ref a0)]) E.x E.b dX12_read_187 hl (k := 0) rfl (by decide +kernel) (by decide) rfl (fun ls hl => ?_)
  refine lv_goto (tgt := 170) E.x E.b dX12_read_190 (by decide) ?_
  refine lv_iload_n E.x E.b dX12_read_170 rfl (lv_at hl 0 rfl) ?_
  refine lv_iconst (v := 4) E.x E.b dX12_read_171 (by decide) ?_
  refine lv_icmp_ge (tgt := 193) E.x E.b dX12_read_172 (by decide) (fun c => absurd c (by decide +kernel)) (fun _ => ?_)
  refine lv_aload_n E.x E.b dX12_read_175 rfl (lv_at hl 1 rfl) ?_
  refine z_get E B z_inX12 (ci := 10) rfl 18 (by decide) t_1210 8 rfl rfl dX12_read_176 ?_
  refine lv_iload_n E.x E.b dX12_read_179 rfl (lv_at hl 0 rfl) ?_
  refine lv_aload_n E.x E.b dX12_read_180 rfl (lv_at hl 1 rfl) ?_
  refine z_get E B z_inX12 (ci := 10) rfl 24 (by decide) t_1216 8 rfl rfl dX12_read_181 ?_
  refine lv_iload_n E.x E.b dX12_read_184 rfl (lv_at hl 0 rfl) ?_
  refine z_iald E B 10 rfl (show ¬ ((2 : Int32) < 0 ∨ 4 ≤ (2 : Int32).toNatClampNeg) by decide +kernel) dX12_read_185 (z_topi 5 (by decide +kernel) ?_)
  refine z_iast E B 0 rfl (show ¬ ((2 : Int32) < 0 ∨ 4 ≤ (2 : Int32).toNatClampNeg) by decide +kernel) dX12_read_186 (fun H locs B => ?_)
  have B : zB G A s.heap [zi G a7 4 (upd (upd (upd (upd (upd (upd (upd (fun _ => 0) 0 1) 1 1) 2 5) 3 13) 0 1) 1 1) 2 5), zi G a8 8 (fun _ => 0), zi G a9 8 (fun _ => 0), zi G a10 49 (fun _ => 0), zz G a11 3 (fun _ => 0), zi G a2 403 (fun _ => 0), zi G a3 403 (fun _ => 0), zj G a4 403 g_1, zo a0 10 [.int 0, .ref a12, .int 0, .ref a13, .int 0, .ref a1, .ref a2, .ref a3, .ref a4, .ref a14, .int 1, .int 0, .int 0, .int 0, .int 0, .int 0, .int (-1), .int 0, .ref a7, .int 0, .int 0, .ref a9, .int 0, .int 0, .ref a6, .int 0, .int 0, .ref a8, .ref a10, .ref a5, .ref a15, .int 0, .int 0, .ref a16, .ref a11, .ref a17, .ref a18, .ref a19, .int 0, .ref a20, .ref a21, .int 0, .int 0, .ref a22, .ref a23, .ref a24, .ref a25, .ref a26, .int (-1), .ref a27, .ref a28, .ref a29, .ref a30, .ref a31, .ref a32, .ref a33], zi G a5 49 (fun _ => 0), zi G a6 4 (upd (upd (upd (upd (fun _ => 0) 0 1) 1 1) 2 5) 3 13), zi G a1 403 (fun _ => 0)] _ _ := B
  refine lv_iinc (v := 3) (lv' := [(1, .int 3), (0, .ref a0)]) E.x E.b dX12_read_187 hl (k := 0) rfl (by decide +kernel) (by decide) rfl (fun ls hl => ?_)
  refine lv_goto (tgt := 170) E.x E.b dX12_read_190 (by decide) ?_
  refine lv_iload_n E.x E.b dX12_read_170 rfl (lv_at hl 0 rfl) ?_
  refine lv_iconst (v := 4) E.x E.b dX12_read_171 (by decide) ?_
  refine lv_icmp_ge (tgt := 193) E.x E.b dX12_read_172 (by decide) (fun c => absurd c (by decide +kernel)) (fun _ => ?_)
  refine lv_aload_n E.x E.b dX12_read_175 rfl (lv_at hl 1 rfl) ?_
  refine z_get E B z_inX12 (ci := 10) rfl 18 (by decide) t_1210 8 rfl rfl dX12_read_176 ?_
  refine lv_iload_n E.x E.b dX12_read_179 rfl (lv_at hl 0 rfl) ?_
  refine lv_aload_n E.x E.b dX12_read_180 rfl (lv_at hl 1 rfl) ?_
  refine z_get E B z_inX12 (ci := 10) rfl 24 (by decide) t_1216 8 rfl rfl dX12_read_181 ?_
  refine lv_iload_n E.x E.b dX12_read_184 rfl (lv_at hl 0 rfl) ?_
  refine z_iald E B 10 rfl (show ¬ ((3 : Int32) < 0 ∨ 4 ≤ (3 : Int32).toNatClampNeg) by decide +kernel) dX12_read_185 (z_topi 13 (by decide +kernel) ?_)
  refine z_iast E B 0 rfl (show ¬ ((3 : Int32) < 0 ∨ 4 ≤ (3 : Int32).toNatClampNeg) by decide +kernel) dX12_read_186 (fun H locs B => ?_)
  have B : zB G A s.heap [zi G a7 4 (upd (upd (upd (upd (upd (upd (upd (upd (fun _ => 0) 0 1) 1 1) 2 5) 3 13) 0 1) 1 1) 2 5) 3 13), zi G a8 8 (fun _ => 0), zi G a9 8 (fun _ => 0), zi G a10 49 (fun _ => 0), zz G a11 3 (fun _ => 0), zi G a2 403 (fun _ => 0), zi G a3 403 (fun _ => 0), zj G a4 403 g_1, zo a0 10 [.int 0, .ref a12, .int 0, .ref a13, .int 0, .ref a1, .ref a2, .ref a3, .ref a4, .ref a14, .int 1, .int 0, .int 0, .int 0, .int 0, .int 0, .int (-1), .int 0, .ref a7, .int 0, .int 0, .ref a9, .int 0, .int 0, .ref a6, .int 0, .int 0, .ref a8, .ref a10, .ref a5, .ref a15, .int 0, .int 0, .ref a16, .ref a11, .ref a17, .ref a18, .ref a19, .int 0, .ref a20, .ref a21, .int 0, .int 0, .ref a22, .ref a23, .ref a24, .ref a25, .ref a26, .int (-1), .ref a27, .ref a28, .ref a29, .ref a30, .ref a31, .ref a32, .ref a33], zi G a5 49 (fun _ => 0), zi G a6 4 (upd (upd (upd (upd (fun _ => 0) 0 1) 1 1) 2 5) 3 13), zi G a1 403 (fun _ => 0)] _ _ := B
  refine lv_iinc (v := 4) (lv' := [(1, .int 4), (0, .ref a0)]) E.x E.b dX12_read_187 hl (k := 0) rfl (by decide +kernel) (by decide) rfl (fun ls hl => ?_)
  refine lv_goto (tgt := 170) E.x E.b dX12_read_190 (by decide) ?_
  refine lv_iload_n E.x E.b dX12_read_170 rfl (lv_at hl 0 rfl) ?_
  refine lv_iconst (v := 4) E.x E.b dX12_read_171 (by decide) ?_
  refine lv_icmp_ge (tgt := 193) E.x E.b dX12_read_172 (by decide) (fun _ => ?_) (fun c => absurd (by decide +kernel) c)
  refine lv_aload_n E.x E.b dX12_read_193 rfl (lv_at hl 1 rfl) ?_
  refine lv_aload_n E.x E.b dX12_read_194 rfl (lv_at hl 1 rfl) ?_
  refine z_get E B z_inX12 (ci := 10) rfl 25 (by decide) t_1217 8 rfl rfl dX12_read_195 ?_
  refine z_put E B z_inX12 tyX12 tyX12_ok nmX12 (ci := 10) rfl 19 (by decide) rfl (ty := .int) (by decide +kernel) t_1211 8 rfl (Nat.le_of_ble_eq_true rfl) rfl rfl dX12_read_198 (fun H locs B => ?_)
  have B : zB G A s.heap [zi G a7 4 (upd (upd (upd (upd (upd (upd (upd (upd (fun _ => 0) 0 1) 1 1) 2 5) 3 13) 0 1) 1 1) 2 5) 3 13), zi G a8 8 (fun _ => 0), zi G a9 8 (fun _ => 0), zi G a10 49 (fun _ => 0), zz G a11 3 (fun _ => 0), zi G a2 403 (fun _ => 0), zi G a3 403 (fun _ => 0), zj G a4 403 g_1, zo a0 10 [.int 0, .ref a12, .int 0, .ref a13, .int 0, .ref a1, .ref a2, .ref a3, .ref a4, .ref a14, .int 1, .int 0, .int 0, .int 0, .int 0, .int 0, .int (-1), .int 0, .ref a7, .int 0, .int 0, .ref a9, .int 0, .int 0, .ref a6, .int 0, .int 0, .ref a8, .ref a10, .ref a5, .ref a15, .int 0, .int 0, .ref a16, .ref a11, .ref a17, .ref a18, .ref a19, .int 0, .ref a20, .ref a21, .int 0, .int 0, .ref a22, .ref a23, .ref a24, .ref a25, .ref a26, .int (-1), .ref a27, .ref a28, .ref a29, .ref a30, .ref a31, .ref a32, .ref a33], zi G a5 49 (fun _ => 0), zi G a6 4 (upd (upd (upd (upd (fun _ => 0) 0 1) 1 1) 2 5) 3 13), zi G a1 403 (fun _ => 0)] _ _ := B
  refine lv_aload_n E.x E.b dX12_read_201 rfl (lv_at hl 1 rfl) ?_
  refine lv_aload_n E.x E.b dX12_read_202 rfl (lv_at hl 1 rfl) ?_
  refine z_get E B z_inX12 (ci := 10) rfl 26 (by decide) t_1218 8 rfl rfl dX12_read_203 ?_
  refine z_put E B z_inX12 tyX12 tyX12_ok nmX12 (ci := 10) rfl 20 (by decide) rfl (ty := .int) (by decide +kernel) t_1212 8 rfl (Nat.le_of_ble_eq_true rfl) rfl rfl dX12_read_206 (fun H locs B => ?_)
  have B : zB G A s.heap [zi G a7 4 (upd (upd (upd (upd (upd (upd (upd (upd (fun _ => 0) 0 1) 1 1) 2 5) 3 13) 0 1) 1 1) 2 5) 3 13), zi G a8 8 (fun _ => 0), zi G a9 8 (fun _ => 0), zi G a10 49 (fun _ => 0), zz G a11 3 (fun _ => 0), zi G a2 403 (fun _ => 0), zi G a3 403 (fun _ => 0), zj G a4 403 g_1, zo a0 10 [.int 0, .ref a12, .int 0, .ref a13, .int 0, .ref a1, .ref a2, .ref a3, .ref a4, .ref a14, .int 1, .int 0, .int 0, .int 0, .int 0, .int 0, .int (-1), .int 0, .ref a7, .int 0, .int 0, .ref a9, .int 0, .int 0, .ref a6, .int 0, .int 0, .ref a8, .ref a10, .ref a5, .ref a15, .int 0, .int 0, .ref a16, .ref a11, .ref a17, .ref a18, .ref a19, .int 0, .ref a20, .ref a21, .int 0, .int 0, .ref a22, .ref a23, .ref a24, .ref a25, .ref a26, .int (-1), .ref a27, .ref a28, .ref a29, .ref a30, .ref a31, .ref a32, .ref a33], zi G a5 49 (fun _ => 0), zi G a6 4 (upd (upd (upd (upd (fun _ => 0) 0 1) 1 1) 2 5) 3 13), zi G a1 403 (fun _ => 0)] _ _ := B
  refine lv_iconst (v := 0) E.x E.b dX12_read_209 (by decide) ?_
  refine lv_istore_n (lv' := [(1, .int 0), (0, .ref a0)]) E.x E.b dX12_read_210 rfl hl (by decide) rfl (fun ls hl => ?_)
  refine lv_iload_n E.x E.b dX12_read_211 rfl (lv_at hl 0 rfl) ?_
  refine lv_bipush (v := 8) E.x E.b dX12_read_212 (by decide) ?_
  refine lv_icmp_ge (tgt := 235) E.x E.b dX12_read_214 (by decide) (fun c => absurd c (by decide +kernel)) (fun _ => ?_)
  refine lv_aload_n E.x E.b dX12_read_217 rfl (lv_at hl 1 rfl) ?_
  refine z_get E B z_inX12 (ci := 10) rfl 21 (by decide) t_1213 8 rfl rfl dX12_read_218 ?_
  refine lv_iload_n E.x E.b dX12_read_221 rfl (lv_at hl 0 rfl) ?_
  refine lv_aload_n E.x E.b dX12_read_222 rfl (lv_at hl 1 rfl) ?_
  refine z_get E B z_inX12 (ci := 10) rfl 27 (by decide) t_1219 8 rfl rfl dX12_read_223 ?_
  refine lv_iload_n E.x E.b dX12_read_226 rfl (lv_at hl 0 rfl) ?_
  refine z_iald E B 1 rfl (show ¬ ((0 : Int32) < 0 ∨ 8 ≤ (0 : Int32).toNatClampNeg) by decide +kernel) dX12_read_227 (z_topi 0 rfl ?_)
  refine z_iast0 E B 2 rfl (show ¬ ((0 : Int32) < 0 ∨ 8 ≤ (0 : Int32).toNatClampNeg) by decide +kernel) dX12_read_228 (fun H locs B => ?_)
  have B : zB G A s.heap [zi G a7 4 (upd (upd (upd (upd (upd (upd (upd (upd (fun _ => 0) 0 1) 1 1) 2 5) 3 13) 0 1) 1 1) 2 5) 3 13), zi G a8 8 (fun _ => 0), zi G a9 8 (fun _ => 0), zi G a10 49 (fun _ => 0), zz G a11 3 (fun _ => 0), zi G a2 403 (fun _ => 0), zi G a3 403 (fun _ => 0), zj G a4 403 g_1, zo a0 10 [.int 0, .ref a12, .int 0, .ref a13, .int 0, .ref a1, .ref a2, .ref a3, .ref a4, .ref a14, .int 1, .int 0, .int 0, .int 0, .int 0, .int 0, .int (-1), .int 0, .ref a7, .int 0, .int 0, .ref a9, .int 0, .int 0, .ref a6, .int 0, .int 0, .ref a8, .ref a10, .ref a5, .ref a15, .int 0, .int 0, .ref a16, .ref a11, .ref a17, .ref a18, .ref a19, .int 0, .ref a20, .ref a21, .int 0, .int 0, .ref a22, .ref a23, .ref a24, .ref a25, .ref a26, .int (-1), .ref a27, .ref a28, .ref a29, .ref a30, .ref a31, .ref a32, .ref a33], zi G a5 49 (fun _ => 0), zi G a6 4 (upd (upd (upd (upd (fun _ => 0) 0 1) 1 1) 2 5) 3 13), zi G a1 403 (fun _ => 0)] _ _ := B
  refine lv_iinc (v := 1) (lv' := [(1, .int 1), (0, .ref a0)]) E.x E.b dX12_read_229 hl (k := 0) rfl (by decide +kernel) (by decide) rfl (fun ls hl => ?_)
  refine lv_goto (tgt := 211) E.x E.b dX12_read_232 (by decide) ?_
  refine lv_iload_n E.x E.b dX12_read_211 rfl (lv_at hl 0 rfl) ?_
  refine lv_bipush (v := 8) E.x E.b dX12_read_212 (by decide) ?_
  refine lv_icmp_ge (tgt := 235) E.x E.b dX12_read_214 (by decide) (fun c => absurd c (by decide +kernel)) (fun _ => ?_)
  refine lv_aload_n E.x E.b dX12_read_217 rfl (lv_at hl 1 rfl) ?_
  refine z_get E B z_inX12 (ci := 10) rfl 21 (by decide) t_1213 8 rfl rfl dX12_read_218 ?_
  refine lv_iload_n E.x E.b dX12_read_221 rfl (lv_at hl 0 rfl) ?_
  refine lv_aload_n E.x E.b dX12_read_222 rfl (lv_at hl 1 rfl) ?_
  refine z_get E B z_inX12 (ci := 10) rfl 27 (by decide) t_1219 8 rfl rfl dX12_read_223 ?_
  refine lv_iload_n E.x E.b dX12_read_226 rfl (lv_at hl 0 rfl) ?_
  refine z_iald E B 1 rfl (show ¬ ((1 : Int32) < 0 ∨ 8 ≤ (1 : Int32).toNatClampNeg) by decide +kernel) dX12_read_227 (z_topi 0 rfl ?_)
  refine z_iast0 E B 2 rfl (show ¬ ((1 : Int32) < 0 ∨ 8 ≤ (1 : Int32).toNatClampNeg) by decide +kernel) dX12_read_228 (fun H locs B => ?_)
  have B : zB G A s.heap [zi G a7 4 (upd (upd (upd (upd (upd (upd (upd (upd (fun _ => 0) 0 1) 1 1) 2 5) 3 13) 0 1) 1 1) 2 5) 3 13), zi G a8 8 (fun _ => 0), zi G a9 8 (fun _ => 0), zi G a10 49 (fun _ => 0), zz G a11 3 (fun _ => 0), zi G a2 403 (fun _ => 0), zi G a3 403 (fun _ => 0), zj G a4 403 g_1, zo a0 10 [.int 0, .ref a12, .int 0, .ref a13, .int 0, .ref a1, .ref a2, .ref a3, .ref a4, .ref a14, .int 1, .int 0, .int 0, .int 0, .int 0, .int 0, .int (-1), .int 0, .ref a7, .int 0, .int 0, .ref a9, .int 0, .int 0, .ref a6, .int 0, .int 0, .ref a8, .ref a10, .ref a5, .ref a15, .int 0, .int 0, .ref a16, .ref a11, .ref a17, .ref a18, .ref a19, .int 0, .ref a20, .ref a21, .int 0, .int 0, .ref a22, .ref a23, .ref a24, .ref a25, .ref a26, .int (-1), .ref a27, .ref a28, .ref a29, .ref a30, .ref a31, .ref a32, .ref a33], zi G a5 49 (fun _ => 0), zi G a6 4 (upd (upd (upd (upd (fun _ => 0) 0 1) 1 1) 2 5) 3 13), zi G a1 403 (fun _ => 0)] _ _ := B
  refine lv_iinc (v := 2) (lv' := [(1, .int 2), (0, .ref a0)]) E.x E.b dX12_read_229 hl (k := 0) rfl (by decide +kernel) (by decide) rfl (fun ls hl => ?_)
  refine lv_goto (tgt := 211) E.x E.b dX12_read_232 (by decide) ?_
  refine lv_iload_n E.x E.b dX12_read_211 rfl (lv_at hl 0 rfl) ?_
  refine lv_bipush (v := 8) E.x E.b dX12_read_212 (by decide) ?_
  refine lv_icmp_ge (tgt := 235) E.x E.b dX12_read_214 (by decide) (fun c => absurd c (by decide +kernel)) (fun _ => ?_)
  refine lv_aload_n E.x E.b dX12_read_217 rfl (lv_at hl 1 rfl) ?_
  refine z_get E B z_inX12 (ci := 10) rfl 21 (by decide) t_1213 8 rfl rfl dX12_read_218 ?_
  refine lv_iload_n E.x E.b dX12_read_221 rfl (lv_at hl 0 rfl) ?_
  refine lv_aload_n E.x E.b dX12_read_222 rfl (lv_at hl 1 rfl) ?_
  refine z_get E B z_inX12 (ci := 10) rfl 27 (by decide) t_1219 8 rfl rfl dX12_read_223 ?_
  refine lv_iload_n E.x E.b dX12_read_226 rfl (lv_at hl 0 rfl) ?_
  refine z_iald E B 1 rfl (show ¬ ((2 : Int32) < 0 ∨ 8 ≤ (2 : Int32).toNatClampNeg) by decide +kernel) dX12_read_227 (z_topi 0 rfl ?_)
  refine z_iast0 E B 2 rfl (show ¬ ((2 : Int32) < 0 ∨ 8 ≤ (2 : Int32).toNatClampNeg) by decide +kernel) dX12_read_228 (fun H locs B => ?_)
  have B : zB G A s.heap [zi G a7 4 (upd (upd (upd (upd (upd (upd (upd (upd (fun _ => 0) 0 1) 1 1) 2 5) 3 13) 0 1) 1 1) 2 5) 3 13), zi G a8 8 (fun _ => 0), zi G a9 8 (fun _ => 0), zi G a10 49 (fun _ => 0), zz G a11 3 (fun _ => 0), zi G a2 403 (fun _ => 0), zi G a3 403 (fun _ => 0), zj G a4 403 g_1, zo a0 10 [.int 0, .ref a12, .int 0, .ref a13, .int 0, .ref a1, .ref a2, .ref a3, .ref a4, .ref a14, .int 1, .int 0, .int 0, .int 0, .int 0, .int 0, .int (-1), .int 0, .ref a7, .int 0, .int 0, .ref a9, .int 0, .int 0, .ref a6, .int 0, .int 0, .ref a8, .ref a10, .ref a5, .ref a15, .int 0, .int 0, .ref a16, .ref a11, .ref a17, .ref a18, .ref a19, .int 0, .ref a20, .ref a21, .int 0, .int 0, .ref a22, .ref a23, .ref a24, .ref a25, .ref a26, .int (-1), .ref a27, .ref a28, .ref a29, .ref a30, .ref a31, .ref a32, .ref a33], zi G a5 49 (fun _ => 0), zi G a6 4 (upd (upd (upd (upd (fun _ => 0) 0 1) 1 1) 2 5) 3 13), zi G a1 403 (fun _ => 0)] _ _ := B
  refine lv_iinc (v := 3) (lv' := [(1, .int 3), (0, .ref a0)]) E.x E.b dX12_read_229 hl (k := 0) rfl (by decide +kernel) (by decide) rfl (fun ls hl => ?_)
  refine lv_goto (tgt := 211) E.x E.b dX12_read_232 (by decide) ?_
  refine lv_iload_n E.x E.b dX12_read_211 rfl (lv_at hl 0 rfl) ?_
  refine lv_bipush (v := 8) E.x E.b dX12_read_212 (by decide) ?_
  refine lv_icmp_ge (tgt := 235) E.x E.b dX12_read_214 (by decide) (fun c => absurd c (by decide +kernel)) (fun _ => ?_)
  refine lv_aload_n E.x E.b dX12_read_217 rfl (lv_at hl 1 rfl) ?_
  refine z_get E B z_inX12 (ci := 10) rfl 21 (by decide) t_1213 8 rfl rfl dX12_read_218 ?_
  refine lv_iload_n E.x E.b dX12_read_221 rfl (lv_at hl 0 rfl) ?_
  refine lv_aload_n E.x E.b dX12_read_222 rfl (lv_at hl 1 rfl) ?_
  refine z_get E B z_inX12 (ci := 10) rfl 27 (by decide) t_1219 8 rfl rfl dX12_read_223 ?_
  refine lv_iload_n E.x E.b dX12_read_226 rfl (lv_at hl 0 rfl) ?_
  refine z_iald E B 1 rfl (show ¬ ((3 : Int32) < 0 ∨ 8 ≤ (3 : Int32).toNatClampNeg) by decide +kernel) dX12_read_227 (z_topi 0 rfl ?_)
  refine z_iast0 E B 2 rfl (show ¬ ((3 : Int32) < 0 ∨ 8 ≤ (3 : Int32).toNatClampNeg) by decide +kernel) dX12_read_228 (fun H locs B => ?_)
  have B : zB G A s.heap [zi G a7 4 (upd (upd (upd (upd (upd (upd (upd (upd (fun _ => 0) 0 1) 1 1) 2 5) 3 13) 0 1) 1 1) 2 5) 3 13), zi G a8 8 (fun _ => 0), zi G a9 8 (fun _ => 0), zi G a10 49 (fun _ => 0), zz G a11 3 (fun _ => 0), zi G a2 403 (fun _ => 0), zi G a3 403 (fun _ => 0), zj G a4 403 g_1, zo a0 10 [.int 0, .ref a12, .int 0, .ref a13, .int 0, .ref a1, .ref a2, .ref a3, .ref a4, .ref a14, .int 1, .int 0, .int 0, .int 0, .int 0, .int 0, .int (-1), .int 0, .ref a7, .int 0, .int 0, .ref a9, .int 0, .int 0, .ref a6, .int 0, .int 0, .ref a8, .ref a10, .ref a5, .ref a15, .int 0, .int 0, .ref a16, .ref a11, .ref a17, .ref a18, .ref a19, .int 0, .ref a20, .ref a21, .int 0, .int 0, .ref a22, .ref a23, .ref a24, .ref a25, .ref a26, .int (-1), .ref a27, .ref a28, .ref a29, .ref a30, .ref a31, .ref a32, .ref a33], zi G a5 49 (fun _ => 0), zi G a6 4 (upd (upd (upd (upd (fun _ => 0) 0 1) 1 1) 2 5) 3 13), zi G a1 403 (fun _ => 0)] _ _ := B
  refine lv_iinc (v := 4) (lv' := [(1, .int 4), (0, .ref a0)]) E.x E.b dX12_read_229 hl (k := 0) rfl (by decide +kernel) (by decide) rfl (fun ls hl => ?_)
  refine lv_goto (tgt := 211) E.x E.b dX12_read_232 (by decide) ?_
  refine lv_iload_n E.x E.b dX12_read_211 rfl (lv_at hl 0 rfl) ?_
  refine lv_bipush (v := 8) E.x E.b dX12_read_212 (by decide) ?_
  refine lv_icmp_ge (tgt := 235) E.x E.b dX12_read_214 (by decide) (fun c => absurd c (by decide +kernel)) (fun _ => ?_)
  refine lv_aload_n E.x E.b dX12_read_217 rfl (lv_at hl 1 rfl) ?_
  refine z_get E B z_inX12 (ci := 10) rfl 21 (by decide) t_1213 8 rfl rfl dX12_read_218 ?_
  refine lv_iload_n E.x E.b dX12_read_221 rfl (lv_at hl 0 rfl) ?_
  refine lv_aload_n E.x E.b dX12_read_222 rfl (lv_at hl 1 rfl) ?_
  refine z_get E B z_inX12 (ci := 10) rfl 27 (by decide) t_1219 8 rfl rfl dX12_read_223 ?_
  refine lv_iload_n E.x E.b dX12_read_226 rfl (lv_at hl 0 rfl) ?_
  refine z_iald E B 1 rfl (show ¬ ((4 : Int32) < 0 ∨ 8 ≤ (4 : Int32).toNatClampNeg) by decide +kernel) dX12_read_227 (z_topi 0 rfl ?_)
  refine z_iast0 E B 2 rfl (show ¬ ((4 : Int32) < 0 ∨ 8 ≤ (4 : Int32).toNatClampNeg) by decide +kernel) dX12_read_228 (fun H locs B => ?_)
  have B : zB G A s.heap [zi G a7 4 (upd (upd (upd (upd (upd (upd (upd (upd (fun _ => 0) 0 1) 1 1) 2 5) 3 13) 0 1) 1 1) 2 5) 3 13), zi G a8 8 (fun _ => 0), zi G a9 8 (fun _ => 0), zi G a10 49 (fun _ => 0), zz G a11 3 (fun _ => 0), zi G a2 403 (fun _ => 0), zi G a3 403 (fun _ => 0), zj G a4 403 g_1, zo a0 10 [.int 0, .ref a12, .int 0, .ref a13, .int 0, .ref a1, .ref a2, .ref a3, .ref a4, .ref a14, .int 1, .int 0, .int 0, .int 0, .int 0, .int 0, .int (-1), .int 0, .ref a7, .int 0, .int 0, .ref a9, .int 0, .int 0, .ref a6, .int 0, .int 0, .ref a8, .ref a10, .ref a5, .ref a15, .int 0, .int 0, .ref a16, .ref a11, .ref a17, .ref a18, .ref a19, .int 0, .ref a20, .ref a21, .int 0, .int 0, .ref a22, .ref a23, .ref a24, .ref a25, .ref a26, .int (-1), .ref a27, .ref a28, .ref a29, .ref a30, .ref a31, .ref a32, .ref a33], zi G a5 49 (fun _ => 0), zi G a6 4 (upd (upd (upd (upd (fun _ => 0) 0 1) 1 1) 2 5) 3 13), zi G a1 403 (fun _ => 0)] _ _ := B
  refine lv_iinc (v := 5) (lv' := [(1, .int 5), (0, .ref a0)]) E.x E.b dX12_read_229 hl (k := 0) rfl (by decide +kernel) (by decide) rfl (fun ls hl => ?_)
  refine lv_goto (tgt := 211) E.x E.b dX12_read_232 (by decide) ?_
  refine lv_iload_n E.x E.b dX12_read_211 rfl (lv_at hl 0 rfl) ?_
  refine lv_bipush (v := 8) E.x E.b dX12_read_212 (by decide) ?_
  refine lv_icmp_ge (tgt := 235) E.x E.b dX12_read_214 (by decide) (fun c => absurd c (by decide +kernel)) (fun _ => ?_)
  refine lv_aload_n E.x E.b dX12_read_217 rfl (lv_at hl 1 rfl) ?_
  refine z_get E B z_inX12 (ci := 10) rfl 21 (by decide) t_1213 8 rfl rfl dX12_read_218 ?_
  refine lv_iload_n E.x E.b dX12_read_221 rfl (lv_at hl 0 rfl) ?_
  refine lv_aload_n E.x E.b dX12_read_222 rfl (lv_at hl 1 rfl) ?_
  refine z_get E B z_inX12 (ci := 10) rfl 27 (by decide) t_1219 8 rfl rfl dX12_read_223 ?_
  refine lv_iload_n E.x E.b dX12_read_226 rfl (lv_at hl 0 rfl) ?_
  refine z_iald E B 1 rfl (show ¬ ((5 : Int32) < 0 ∨ 8 ≤ (5 : Int32).toNatClampNeg) by decide +kernel) dX12_read_227 (z_topi 0 rfl ?_)
  refine z_iast0 E B 2 rfl (show ¬ ((5 : Int32) < 0 ∨ 8 ≤ (5 : Int32).toNatClampNeg) by decide +kernel) dX12_read_228 (fun H locs B => ?_)
  have B : zB G A s.heap [zi G a7 4 (upd (upd (upd (upd (upd (upd (upd (upd (fun _ => 0) 0 1) 1 1) 2 5) 3 13) 0 1) 1 1) 2 5) 3 13), zi G a8 8 (fun _ => 0), zi G a9 8 (fun _ => 0), zi G a10 49 (fun _ => 0), zz G a11 3 (fun _ => 0), zi G a2 403 (fun _ => 0), zi G a3 403 (fun _ => 0), zj G a4 403 g_1, zo a0 10 [.int 0, .ref a12, .int 0, .ref a13, .int 0, .ref a1, .ref a2, .ref a3, .ref a4, .ref a14, .int 1, .int 0, .int 0, .int 0, .int 0, .int 0, .int (-1), .int 0, .ref a7, .int 0, .int 0, .ref a9, .int 0, .int 0, .ref a6, .int 0, .int 0, .ref a8, .ref a10, .ref a5, .ref a15, .int 0, .int 0, .ref a16, .ref a11, .ref a17, .ref a18, .ref a19, .int 0, .ref a20, .ref a21, .int 0, .int 0, .ref a22, .ref a23, .ref a24, .ref a25, .ref a26, .int (-1), .ref a27, .ref a28, .ref a29, .ref a30, .ref a31, .ref a32, .ref a33], zi G a5 49 (fun _ => 0), zi G a6 4 (upd (upd (upd (upd (fun _ => 0) 0 1) 1 1) 2 5) 3 13), zi G a1 403 (fun _ => 0)] _ _ := B
  refine lv_iinc (v := 6) (lv' := [(1, .int 6), (0, .ref a0)]) E.x E.b dX12_read_229 hl (k := 0) rfl (by decide +kernel) (by decide) rfl (fun ls hl => ?_)
  refine lv_goto (tgt := 211) E.x E.b dX12_read_232 (by decide) ?_
  refine lv_iload_n E.x E.b dX12_read_211 rfl (lv_at hl 0 rfl) ?_
  refine lv_bipush (v := 8) E.x E.b dX12_read_212 (by decide) ?_
  refine lv_icmp_ge (tgt := 235) E.x E.b dX12_read_214 (by decide) (fun c => absurd c (by decide +kernel)) (fun _ => ?_)
  refine lv_aload_n E.x E.b dX12_read_217 rfl (lv_at hl 1 rfl) ?_
  refine z_get E B z_inX12 (ci := 10) rfl 21 (by decide) t_1213 8 rfl rfl dX12_read_218 ?_
  refine lv_iload_n E.x E.b dX12_read_221 rfl (lv_at hl 0 rfl) ?_
  refine lv_aload_n E.x E.b dX12_read_222 rfl (lv_at hl 1 rfl) ?_
  refine z_get E B z_inX12 (ci := 10) rfl 27 (by decide) t_1219 8 rfl rfl dX12_read_223 ?_
  refine lv_iload_n E.x E.b dX12_read_226 rfl (lv_at hl 0 rfl) ?_
  refine z_iald E B 1 rfl (show ¬ ((6 : Int32) < 0 ∨ 8 ≤ (6 : Int32).toNatClampNeg) by decide +kernel) dX12_read_227 (z_topi 0 rfl ?_)
  refine z_iast0 E B 2 rfl (show ¬ ((6 : Int32) < 0 ∨ 8 ≤ (6 : Int32).toNatClampNeg) by decide +kernel) dX12_read_228 (fun H locs B => ?_)
  have B : zB G A s.heap [zi G a7 4 (upd (upd (upd (upd (upd (upd (upd (upd (fun _ => 0) 0 1) 1 1) 2 5) 3 13) 0 1) 1 1) 2 5) 3 13), zi G a8 8 (fun _ => 0), zi G a9 8 (fun _ => 0), zi G a10 49 (fun _ => 0), zz G a11 3 (fun _ => 0), zi G a2 403 (fun _ => 0), zi G a3 403 (fun _ => 0), zj G a4 403 g_1, zo a0 10 [.int 0, .ref a12, .int 0, .ref a13, .int 0, .ref a1, .ref a2, .ref a3, .ref a4, .ref a14, .int 1, .int 0, .int 0, .int 0, .int 0, .int 0, .int (-1), .int 0, .ref a7, .int 0, .int 0, .ref a9, .int 0, .int 0, .ref a6, .int 0, .int 0, .ref a8, .ref a10, .ref a5, .ref a15, .int 0, .int 0, .ref a16, .ref a11, .ref a17, .ref a18, .ref a19, .int 0, .ref a20, .ref a21, .int 0, .int 0, .ref a22, .ref a23, .ref a24, .ref a25, .ref a26, .int (-1), .ref a27, .ref a28, .ref a29, .ref a30, .ref a31, .ref a32, .ref a33], zi G a5 49 (fun _ => 0), zi G a6 4 (upd (upd (upd (upd (fun _ => 0) 0 1) 1 1) 2 5) 3 13), zi G a1 403 (fun _ => 0)] _ _ := B
  refine lv_iinc (v := 7) (lv' := [(1, .int 7), (0, .ref a0)]) E.x E.b dX12_read_229 hl (k := 0) rfl (by decide +kernel) (by decide) rfl (fun ls hl => ?_)
  refine lv_goto (tgt := 211) E.x E.b dX12_read_232 (by decide) ?_
  refine lv_iload_n E.x E.b dX12_read_211 rfl (lv_at hl 0 rfl) ?_
  refine lv_bipush (v := 8) E.x E.b dX12_read_212 (by decide) ?_
  refine lv_icmp_ge (tgt := 235) E.x E.b dX12_read_214 (by decide) (fun c => absurd c (by decide +kernel)) (fun _ => ?_)
  refine lv_aload_n E.x E.b dX12_read_217 rfl (lv_at hl 1 rfl) ?_
  refine z_get E B z_inX12 (ci := 10) rfl 21 (by decide) t_1213 8 rfl rfl dX12_read_218 ?_
  refine lv_iload_n E.x E.b dX12_read_221 rfl (lv_at hl 0 rfl) ?_
  refine lv_aload_n E.x E.b dX12_read_222 rfl (lv_at hl 1 rfl) ?_
  refine z_get E B z_inX12 (ci := 10) rfl 27 (by decide) t_1219 8 rfl rfl dX12_read_223 ?_
  refine lv_iload_n E.x E.b dX12_read_226 rfl (lv_at hl 0 rfl) ?_
  refine z_iald E B 1 rfl (show ¬ ((7 : Int32) < 0 ∨ 8 ≤ (7 : Int32).toNatClampNeg) by decide +kernel) dX12_read_227 (z_topi 0 rfl ?_)
  refine z_iast0 E B 2 rfl (show ¬ ((7 : Int32) < 0 ∨ 8 ≤ (7 : Int32).toNatClampNeg) by decide +kernel) dX12_read_228 (fun H locs B => ?_)
  have B : zB G A s.heap [zi G a7 4 (upd (upd (upd (upd (upd (upd (upd (upd (fun _ => 0) 0 1) 1 1) 2 5) 3 13) 0 1) 1 1) 2 5) 3 13), zi G a8 8 (fun _ => 0), zi G a9 8 (fun _ => 0), zi G a10 49 (fun _ => 0), zz G a11 3 (fun _ => 0), zi G a2 403 (fun _ => 0), zi G a3 403 (fun _ => 0), zj G a4 403 g_1, zo a0 10 [.int 0, .ref a12, .int 0, .ref a13, .int 0, .ref a1, .ref a2, .ref a3, .ref a4, .ref a14, .int 1, .int 0, .int 0, .int 0, .int 0, .int 0, .int (-1), .int 0, .ref a7, .int 0, .int 0, .ref a9, .int 0, .int 0, .ref a6, .int 0, .int 0, .ref a8, .ref a10, .ref a5, .ref a15, .int 0, .int 0, .ref a16, .ref a11, .ref a17, .ref a18, .ref a19, .int 0, .ref a20, .ref a21, .int 0, .int 0, .ref a22, .ref a23, .ref a24, .ref a25, .ref a26, .int (-1), .ref a27, .ref a28, .ref a29, .ref a30, .ref a31, .ref a32, .ref a33], zi G a5 49 (fun _ => 0), zi G a6 4 (upd (upd (upd (upd (fun _ => 0) 0 1) 1 1) 2 5) 3 13), zi G a1 403 (fun _ => 0)] _ _ := B
  refine lv_iinc (v := 8) (lv' := [(1, .int 8), (0, .ref a0)]) E.x E.b dX12_read_229 hl (k := 0) rfl (by decide +kernel) (by decide) rfl (fun ls hl => ?_)
  refine lv_goto (tgt := 211) E.x E.b dX12_read_232 (by decide) ?_
  refine lv_iload_n E.x E.b dX12_read_211 rfl (lv_at hl 0 rfl) ?_
  refine lv_bipush (v := 8) E.x E.b dX12_read_212 (by decide) ?_
  refine lv_icmp_ge (tgt := 235) E.x E.b dX12_read_214 (by decide) (fun _ => ?_) (fun c => absurd (by decide +kernel) c)
  refine lv_iconst (v := 0) E.x E.b dX12_read_235 (by decide) ?_
  refine lv_istore_n (lv' := [(1, .int 0), (0, .ref a0)]) E.x E.b dX12_read_236 rfl hl (by decide) rfl (fun ls hl => ?_)
  refine z_loop 49 (fun _ => 0) (fun _ => 0) (fun i H locs ls => (zB G A s.heap [zi G a7 4 (upd (upd (upd (upd (upd (upd (upd (upd (fun _ => 0) 0 1) 1 1) 2 5) 3 13) 0 1) 1 1) 2 5) 3 13), zi G a8 8 (fun _ => 0), zi G a9 8 (fun _ => 0), zi G a10 49 (fun _ => 0), zz G a11 3 (fun _ => 0), zi G a2 403 (fun _ => 0), zi G a3 403 (fun _ => 0), zj G a4 403 g_1, zo a0 10 [.int 0, .ref a12, .int 0, .ref a13, .int 0, .ref a1, .ref a2, .ref a3, .ref a4, .ref a14, .int 1, .int 0, .int 0, .int 0, .int 0, .int 0, .int (-1), .int 0, .ref a7, .int 0, .int 0, .ref a9, .int 0, .int 0, .ref a6, .int 0, .int 0, .ref a8, .ref a10, .ref a5, .ref a15, .int 0, .int 0, .ref a16, .ref a11, .ref a17, .ref a18, .ref a19, .int 0, .ref a20, .ref a21, .int 0, .int 0, .ref a22, .ref a23, .ref a24, .ref a25, .ref a26, .int (-1), .ref a27, .ref a28, .ref a29, .ref a30, .ref a31, .ref a32, .ref a33], zi G a5 49 (fun _ => 0), zi G a6 4 (upd (upd (upd (upd (fun _ => 0) 0 1) 1 1) 2 5) 3 13), zi G a1 403 (fun _ => 0)] H locs) ∧ lv_has ls 2 [(1, .int (nI i)), (0, .ref a0)]) (Nat.le_of_ble_eq_true rfl) (Nat.le_of_ble_eq_true rfl) ⟨B, hl⟩ (fun i2 H locs ls hi ih hI => ?_) (fun H locs ls hI => ?_)
  · obtain ⟨B, hl⟩ := hI
    have hl : lv_has ls 2 [(1, .int (nI i2)), (0, .ref a0)] := hl
    have hii : (nI i2).toInt = ((i2 : Nat) : Int) := nI_toInt (by omega)
    refine lv_iload_n E.x E.b dX12_read_237 rfl (lv_at hl 0 rfl) ?_
    refine lv_bipush (v := 49) E.x E.b dX12_read_238 (by decide) ?_
    refine lv_icmp_ge (tgt := 261) E.x E.b dX12_read_240 (by decide) (fun c_3 => ?_) (fun c_3 => ?_)
    · have c_3f : 49 ≤ (nI i2).toInt := zi_le c_3
      exfalso; omega
    · have c_3f : (nI i2).toInt < 49 := zi_nle c_3
      refine lv_aload_n E.x E.b dX12_read_243 rfl (lv_at hl 1 rfl) ?_
      refine z_get E B z_inX12 (ci := 10) rfl 28 (by decide) t_1220 8 rfl rfl dX12_read_244 ?_
      refine lv_iload_n E.x E.b dX12_read_247 rfl (lv_at hl 0 rfl) ?_
      refine lv_aload_n E.x E.b dX12_read_248 rfl (lv_at hl 1 rfl) ?_
      refine z_get E B z_inX12 (ci := 10) rfl 29 (by decide) t_1221 8 rfl rfl dX12_read_249 ?_
      refine lv_iload_n E.x E.b dX12_read_252 rfl (lv_at hl 0 rfl) ?_
      refine z_iald E B 9 rfl (vp_in_nI (by omega) (by decide)) dX12_read_253 (z_topi 0 rfl ?_)
      refine z_iast0 E B 3 rfl (vp_in_nI (by omega) (by decide)) dX12_read_254 (fun H locs B => ?_)
      have B : zB G A s.heap [zi G a7 4 (upd (upd (upd (upd (upd (upd (upd (upd (fun _ => 0) 0 1) 1 1) 2 5) 3 13) 0 1) 1 1) 2 5) 3 13), zi G a8 8 (fun _ => 0), zi G a9 8 (fun _ => 0), zi G a10 49 (fun _ => 0), zz G a11 3 (fun _ => 0), zi G a2 403 (fun _ => 0), zi G a3 403 (fun _ => 0), zj G a4 403 g_1, zo a0 10 [.int 0, .ref a12, .int 0, .ref a13, .int 0, .ref a1, .ref a2, .ref a3, .ref a4, .ref a14, .int 1, .int 0, .int 0, .int 0, .int 0, .int 0, .int (-1), .int 0, .ref a7, .int 0, .int 0, .ref a9, .int 0, .int 0, .ref a6, .int 0, .int 0, .ref a8, .ref a10, .ref a5, .ref a15, .int 0, .int 0, .ref a16, .ref a11, .ref a17, .ref a18, .ref a19, .int 0, .ref a20, .ref a21, .int 0, .int 0, .ref a22, .ref a23, .ref a24, .ref a25, .ref a26, .int (-1), .ref a27, .ref a28, .ref a29, .ref a30, .ref a31, .ref a32, .ref a33], zi G a5 49 (fun _ => 0), zi G a6 4 (upd (upd (upd (upd (fun _ => 0) 0 1) 1 1) 2 5) 3 13), zi G a1 403 (fun _ => 0)] _ _ := B
      refine lv_iinc (v := (nI (i2 + 1))) (lv' := [(1, .int (nI (i2 + 1))), (0, .ref a0)]) E.x E.b dX12_read_255 hl (k := 0) rfl (nI_1 _) (by decide) rfl (fun ls hl => ?_)
      refine lv_goto (tgt := 237) E.x E.b dX12_read_258 (by decide) ?_
      exact ih _ _ _ ⟨B, lv_sub hl [0, 1] rfl⟩
  · obtain ⟨B, hl⟩ := hI
    have hl : lv_has ls 2 [(1, .int 49), (0, .ref a0)] := hl
    refine lv_iload_n E.x E.b dX12_read_237 rfl (lv_at hl 0 rfl) ?_
    refine lv_bipush (v := 49) E.x E.b dX12_read_238 (by decide) ?_
    refine lv_icmp_ge (tgt := 261) E.x E.b dX12_read_240 (by decide) (fun _ => ?_) (fun c => absurd (by decide +kernel) c)
    refine lv_aload_n E.x E.b dX12_read_261 rfl (lv_at hl 1 rfl) ?_
    refine lv_iconst (v := 0) E.x E.b dX12_read_262 (by decide) ?_
    refine z_put E B z_inX12 tyX12 tyX12_ok nmX12 (ci := 10) rfl 32 (by decide) rfl (ty := .int) (by decide +kernel) t_1224 8 rfl (Nat.le_of_ble_eq_true rfl) rfl rfl dX12_read_263 (fun H locs B => ?_)
    have B : zB G A s.heap [zi G a7 4 (upd (upd (upd (upd (upd (upd (upd (upd (fun _ => 0) 0 1) 1 1) 2 5) 3 13) 0 1) 1 1) 2 5) 3 13), zi G a8 8 (fun _ => 0), zi G a9 8 (fun _ => 0), zi G a10 49 (fun _ => 0), zz G a11 3 (fun _ => 0), zi G a2 403 (fun _ => 0), zi G a3 403 (fun _ => 0), zj G a4 403 g_1, zo a0 10 [.int 0, .ref a12, .int 0, .ref a13, .int 0, .ref a1, .ref a2, .ref a3, .ref a4, .ref a14, .int 1, .int 0, .int 0, .int 0, .int 0, .int 0, .int (-1), .int 0, .ref a7, .int 0, .int 0, .ref a9, .int 0, .int 0, .ref a6, .int 0, .int 0, .ref a8, .ref a10, .ref a5, .ref a15, .int 0, .int 0, .ref a16, .ref a11, .ref a17, .ref a18, .ref a19, .int 0, .ref a20, .ref a21, .int 0, .int 0, .ref a22, .ref a23, .ref a24, .ref a25, .ref a26, .int (-1), .ref a27, .ref a28, .ref a29, .ref a30, .ref a31, .ref a32, .ref a33], zi G a5 49 (fun _ => 0), zi G a6 4 (upd (upd (upd (upd (fun _ => 0) 0 1) 1 1) 2 5) 3 13), zi G a1 403 (fun _ => 0)] _ _ := B
    refine lv_iconst (v := 0) E.x E.b dX12_read_266 (by decide) ?_
    refine lv_istore_n (lv' := [(1, .int 0), (0, .ref a0)]) E.x E.b dX12_read_267 rfl hl (by decide) rfl (fun ls hl => ?_)
    refine lv_iload_n E.x E.b dX12_read_268 rfl (lv_at hl 0 rfl) ?_
    refine lv_iconst (v := 3) E.x E.b dX12_read_269 (by decide) ?_
    refine lv_icmp_ge (tgt := 286) E.x E.b dX12_read_270 (by decide) (fun c => absurd c (by decide +kernel)) (fun _ => ?_)
    refine lv_aload_n E.x E.b dX12_read_273 rfl (lv_at hl 1 rfl) ?_
    refine z_get E B z_inX12 (ci := 10) rfl 34 (by decide) t_1226 8 rfl rfl dX12_read_274 ?_
    refine lv_iload_n E.x E.b dX12_read_277 rfl (lv_at hl 0 rfl) ?_
    refine lv_iconst (v := 0) E.x E.b dX12_read_278 (by decide) ?_
    refine z_zast0 E B 4 rfl (show ¬ ((0 : Int32) < 0 ∨ 3 ≤ (0 : Int32).toNatClampNeg) by decide +kernel) dX12_read_279 (fun H locs B => ?_)
    have B : zB G A s.heap [zi G a7 4 (upd (upd (upd (upd (upd (upd (upd (upd (fun _ => 0) 0 1) 1 1) 2 5) 3 13) 0 1) 1 1) 2 5) 3 13), zi G a8 8 (fun _ => 0), zi G a9 8 (fun _ => 0), zi G a10 49 (fun _ => 0), zz G a11 3 (fun _ => 0), zi G a2 403 (fun _ => 0), zi G a3 403 (fun _ => 0), zj G a4 403 g_1, zo a0 10 [.int 0, .ref a12, .int 0, .ref a13, .int 0, .ref a1, .ref a2, .ref a3, .ref a4, .ref a14, .int 1, .int 0, .int 0, .int 0, .int 0, .int 0, .int (-1), .int 0, .ref a7, .int 0, .int 0, .ref a9, .int 0, .int 0, .ref a6, .int 0, .int 0, .ref a8, .ref a10, .ref a5, .ref a15, .int 0, .int 0, .ref a16, .ref a11, .ref a17, .ref a18, .ref a19, .int 0, .ref a20, .ref a21, .int 0, .int 0, .ref a22, .ref a23, .ref a24, .ref a25, .ref a26, .int (-1), .ref a27, .ref a28, .ref a29, .ref a30, .ref a31, .ref a32, .ref a33], zi G a5 49 (fun _ => 0), zi G a6 4 (upd (upd (upd (upd (fun _ => 0) 0 1) 1 1) 2 5) 3 13), zi G a1 403 (fun _ => 0)] _ _ := B
    refine lv_iinc (v := 1) (lv' := [(1, .int 1), (0, .ref a0)]) E.x E.b dX12_read_280 hl (k := 0) rfl (by decide +kernel) (by decide) rfl (fun ls hl => ?_)
    refine lv_goto (tgt := 268) E.x E.b dX12_read_283 (by decide) ?_
    refine lv_iload_n E.x E.b dX12_read_268 rfl (lv_at hl 0 rfl) ?_
    refine lv_iconst (v := 3) E.x E.b dX12_read_269 (by decide) ?_
    refine lv_icmp_ge (tgt := 286) E.x E.b dX12_read_270 (by decide) (fun c => absurd c (by decide +kernel)) (fun _ => ?_)
    refine lv_aload_n E.x E.b dX12_read_273 rfl (lv_at hl 1 rfl) ?_
    refine z_get E B z_inX12 (ci := 10) rfl 34 (by decide) t_1226 8 rfl rfl dX12_read_274 ?_
    refine lv_iload_n E.x E.b dX12_read_277 rfl (lv_at hl 0 rfl) ?_
    refine lv_iconst (v := 0) E.x E.b dX12_read_278 (by decide) ?_
    refine z_zast0 E B 4 rfl (show ¬ ((1 : Int32) < 0 ∨ 3 ≤ (1 : Int32).toNatClampNeg) by decide +kernel) dX12_read_279 (fun H locs B => ?_)
    have B : zB G A s.heap [zi G a7 4 (upd (upd (upd (upd (upd (upd (upd (upd (fun _ => 0) 0 1) 1 1) 2 5) 3 13) 0 1) 1 1) 2 5) 3 13), zi G a8 8 (fun _ => 0), zi G a9 8 (fun _ => 0), zi G a10 49 (fun _ => 0), zz G a11 3 (fun _ => 0), zi G a2 403 (fun _ => 0), zi G a3 403 (fun _ => 0), zj G a4 403 g_1, zo a0 10 [.int 0, .ref a12, .int 0, .ref a13, .int 0, .ref a1, .ref a2, .ref a3, .ref a4, .ref a14, .int 1, .int 0, .int 0, .int 0, .int 0, .int 0, .int (-1), .int 0, .ref a7, .int 0, .int 0, .ref a9, .int 0, .int 0, .ref a6, .int 0, .int 0, .ref a8, .ref a10, .ref a5, .ref a15, .int 0, .int 0, .ref a16, .ref a11, .ref a17, .ref a18, .ref a19, .int 0, .ref a20, .ref a21, .int 0, .int 0, .ref a22, .ref a23, .ref a24, .ref a25, .ref a26, .int (-1), .ref a27, .ref a28, .ref a29, .ref a30, .ref a31, .ref a32, .ref a33], zi G a5 49 (fun _ => 0), zi G a6 4 (upd (upd (upd (upd (fun _ => 0) 0 1) 1 1) 2 5) 3 13), zi G a1 403 (fun _ => 0)] _ _ := B
    refine lv_iinc (v := 2) (lv' := [(1, .int 2), (0, .ref a0)]) E.x E.b dX12_read_280 hl (k := 0) rfl (by decide +kernel) (by decide) rfl (fun ls hl => ?_)
    refine lv_goto (tgt := 268) E.x E.b dX12_read_283 (by decide) ?_
    refine lv_iload_n E.x E.b dX12_read_268 rfl (lv_at hl 0 rfl) ?_
    refine lv_iconst (v := 3) E.x E.b dX12_read_269 (by decide) ?_
    refine lv_icmp_ge (tgt := 286) E.x E.b dX12_read_270 (by decide) (fun c => absurd c (by decide +kernel)) (fun _ => ?_)
    refine lv_aload_n E.x E.b dX12_read_273 rfl (lv_at hl 1 rfl) ?_
    refine z_get E B z_inX12 (ci := 10) rfl 34 (by decide) t_1226 8 rfl rfl dX12_read_274 ?_
    refine lv_iload_n E.x E.b dX12_read_277 rfl (lv_at hl 0 rfl) ?_
    refine lv_iconst (v := 0) E.x E.b dX12_read_278 (by decide) ?_
    refine z_zast0 E B 4 rfl (show ¬ ((2 : Int32) < 0 ∨ 3 ≤ (2 : Int32).toNatClampNeg) by decide +kernel) dX12_read_279 (fun H locs B => ?_)
    have B : zB G A s.heap [zi G a7 4 (upd (upd (upd (upd (upd (upd (upd (upd (fun _ => 0) 0 1) 1 1) 2 5) 3 13) 0 1) 1 1) 2 5) 3 13), zi G a8 8 (fun _ => 0), zi G a9 8 (fun _ => 0), zi G a10 49 (fun _ => 0), zz G a11 3 (fun _ => 0), zi G a2 403 (fun _ => 0), zi G a3 403 (fun _ => 0), zj G a4 403 g_1, zo a0 10 [.int 0, .ref a12, .int 0, .ref a13, .int 0, .ref a1, .ref a2, .ref a3, .ref a4, .ref a14, .int 1, .int 0, .int 0, .int 0, .int 0, .int 0, .int (-1), .int 0, .ref a7, .int 0, .int 0, .ref a9, .int 0, .int 0, .ref a6, .int 0, .int 0, .ref a8, .ref a10, .ref a5, .ref a15, .int 0, .int 0, .ref a16, .ref a11, .ref a17, .ref a18, .ref a19, .int 0, .ref a20, .ref a21, .int 0, .int 0, .ref a22, .ref a23, .ref a24, .ref a25, .ref a26, .int (-1), .ref a27, .ref a28, .ref a29, .ref a30, .ref a31, .ref a32, .ref a33], zi G a5 49 (fun _ => 0), zi G a6 4 (upd (upd (upd (upd (fun _ => 0) 0 1) 1 1) 2 5) 3 13), zi G a1 403 (fun _ => 0)] _ _ := B
    refine lv_iinc (v := 3) (lv' := [(1, .int 3), (0, .ref a0)]) E.x E.b dX12_read_280 hl (k := 0) rfl (by decide +kernel) (by decide) rfl (fun ls hl => ?_)
    refine lv_goto (tgt := 268) E.x E.b dX12_read_283 (by decide) ?_
    refine lv_iload_n E.x E.b dX12_read_268 rfl (lv_at hl 0 rfl) ?_
    refine lv_iconst (v := 3) E.x E.b dX12_read_269 (by decide) ?_
    refine lv_icmp_ge (tgt := 286) E.x E.b dX12_read_270 (by decide) (fun _ => ?_) (fun c => absurd (by decide +kernel) c)
    refine lv_iconst (v := 0) E.x E.b dX12_read_286 (by decide) ?_
    refine W.widen (k := 0) (n := 0) (Nat.le_of_ble_eq_true rfl) (Nat.le_of_ble_eq_true rfl) ?_
    exact z_iret E hr hlocks B (v := 0) rfl (fun t ht => z_q B [] (by decide) rfl ht) dX12_read_287
