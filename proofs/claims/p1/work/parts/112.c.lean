set_option maxHeartbeats 4000000 in
set_option maxRecDepth 100000 in
theorem c_X12_lays_147 (l : Launch) (G : zGT) (sz : Nat) (a0 a1 a2 a3 a4 a5 a6 a7 a8 a9 a10 a11 a12 a13 a14 a15 a16 a17 a18 a19 a20 a21 a22 a23 a24 a25 a26 a27 a28 a29 a30 a31 a32 a33 : Nat) (p0 : Int32) (f0 : Nat → Int32) : Met l yX12_lays (.code yX12_lays cX12_lays 3 none :: zT) ({ frames := 0, cells := 0, slots := 0, locals := 64 }) (va_Pc [.ref a0, .int p0] (zPc G [zo a0 10 (.int 0 :: .ref a1 :: .int 4 :: .ref a2 :: .int 0 :: .ref a3 :: .ref a4 :: .ref a5 :: .ref a6 :: .ref a7 :: .int 0 :: .int 0 :: .int 0 :: .int 0 :: .int 0 :: .int 0 :: .int (-1) :: .int 0 :: .ref a8 :: .int 0 :: .int 0 :: .ref a9 :: .int 0 :: .int 0 :: .ref a10 :: .int 0 :: .int 0 :: .ref a11 :: .ref a12 :: .ref a13 :: .ref a14 :: .int 0 :: .int 0 :: .ref a15 :: .ref a16 :: .ref a17 :: .ref a18 :: .ref a19 :: .int 0 :: .ref a20 :: .ref a21 :: .int 0 :: .int 0 :: .ref a22 :: .ref a23 :: .ref a24 :: .ref a25 :: .ref a26 :: .int (-1) :: .ref a27 :: .ref a28 :: .ref a29 :: .ref a30 :: .ref a31 :: .ref a32 :: .ref a33 :: []), zb G a1 2000 f0] sz)) ((fun A => va_Qv (fun (_ : Unit) => True) (fun (_ : Unit) t => ∃ (F1 : Nat → Int32), zQ G [zo a0 10 (.int 0 :: .ref a1 :: .int 8 :: .ref a2 :: .int 0 :: .ref a3 :: .ref a4 :: .ref a5 :: .ref a6 :: .ref a7 :: .int 0 :: .int 0 :: .int 0 :: .int 0 :: .int 0 :: .int 0 :: .int (-1) :: .int 0 :: .ref a8 :: .int 0 :: .int 0 :: .ref a9 :: .int 0 :: .int 0 :: .ref a10 :: .int 0 :: .int 0 :: .ref a11 :: .ref a12 :: .ref a13 :: .ref a14 :: .int 0 :: .int 0 :: .ref a15 :: .ref a16 :: .ref a17 :: .ref a18 :: .ref a19 :: .int 0 :: .ref a20 :: .ref a21 :: .int 0 :: .int 0 :: .ref a22 :: .ref a23 :: .ref a24 :: .ref a25 :: .ref a26 :: .int (-1) :: .ref a27 :: .ref a28 :: .ref a29 :: .ref a30 :: .ref a31 :: .ref a32 :: .ref a33 :: []), zb G a1 2000 F1] A t) A) (va_A [zo a0 10 (.int 0 :: .ref a1 :: .int 4 :: .ref a2 :: .int 0 :: .ref a3 :: .ref a4 :: .ref a5 :: .ref a6 :: .ref a7 :: .int 0 :: .int 0 :: .int 0 :: .int 0 :: .int 0 :: .int 0 :: .int (-1) :: .int 0 :: .ref a8 :: .int 0 :: .int 0 :: .ref a9 :: .int 0 :: .int 0 :: .ref a10 :: .int 0 :: .int 0 :: .ref a11 :: .ref a12 :: .ref a13 :: .ref a14 :: .int 0 :: .int 0 :: .ref a15 :: .ref a16 :: .ref a17 :: .ref a18 :: .ref a19 :: .int 0 :: .ref a20 :: .ref a21 :: .int 0 :: .int 0 :: .ref a22 :: .ref a23 :: .ref a24 :: .ref a25 :: .ref a26 :: .int (-1) :: .ref a27 :: .ref a28 :: .ref a29 :: .ref a30 :: .ref a31 :: .ref a32 :: .ref a33 :: []), zb G a1 2000 f0] sz)) 0 0 (va_A [zo a0 10 (.int 0 :: .ref a1 :: .int 4 :: .ref a2 :: .int 0 :: .ref a3 :: .ref a4 :: .ref a5 :: .ref a6 :: .ref a7 :: .int 0 :: .int 0 :: .int 0 :: .int 0 :: .int 0 :: .int 0 :: .int (-1) :: .int 0 :: .ref a8 :: .int 0 :: .int 0 :: .ref a9 :: .int 0 :: .int 0 :: .ref a10 :: .int 0 :: .int 0 :: .ref a11 :: .ref a12 :: .ref a13 :: .ref a14 :: .int 0 :: .int 0 :: .ref a15 :: .ref a16 :: .ref a17 :: .ref a18 :: .ref a19 :: .int 0 :: .ref a20 :: .ref a21 :: .int 0 :: .int 0 :: .ref a22 :: .ref a23 :: .ref a24 :: .ref a25 :: .ref a26 :: .int (-1) :: .ref a27 :: .ref a28 :: .ref a29 :: .ref a30 :: .ref a31 :: .ref a32 :: .ref a33 :: []), zb G a1 2000 f0] sz) := by
  refine z_start (y := yX12_lays) (bytes := cX12_lays) (maxL := 3) (ret := none) (av := [.ref a0, .int p0]) (QA := (fun A => va_Qv (fun (_ : Unit) => True) (fun (_ : Unit) t => ∃ (F1 : Nat → Int32), zQ G [zo a0 10 (.int 0 :: .ref a1 :: .int 8 :: .ref a2 :: .int 0 :: .ref a3 :: .ref a4 :: .ref a5 :: .ref a6 :: .ref a7 :: .int 0 :: .int 0 :: .int 0 :: .int 0 :: .int 0 :: .int 0 :: .int (-1) :: .int 0 :: .ref a8 :: .int 0 :: .int 0 :: .ref a9 :: .int 0 :: .int 0 :: .ref a10 :: .int 0 :: .int 0 :: .ref a11 :: .ref a12 :: .ref a13 :: .ref a14 :: .int 0 :: .int 0 :: .ref a15 :: .ref a16 :: .ref a17 :: .ref a18 :: .ref a19 :: .int 0 :: .ref a20 :: .ref a21 :: .int 0 :: .int 0 :: .ref a22 :: .ref a23 :: .ref a24 :: .ref a25 :: .ref a26 :: .int (-1) :: .ref a27 :: .ref a28 :: .ref a29 :: .ref a30 :: .ref a31 :: .ref a32 :: .ref a33 :: []), zb G a1 2000 F1] A t) A)) (by decide) ⟨Nat.le_of_ble_eq_true rfl, trivial⟩ ?_
  intro p e s m below meth c A ls E B hr hlocks hin hl
  have hl : lv_has ls 3 [(0, .ref a0), (1, .int p0)] := hl
  have B : zB G A s.heap [zo a0 10 (.int 0 :: .ref a1 :: .int 4 :: .ref a2 :: .int 0 :: .ref a3 :: .ref a4 :: .ref a5 :: .ref a6 :: .ref a7 :: .int 0 :: .int 0 :: .int 0 :: .int 0 :: .int 0 :: .int 0 :: .int (-1) :: .int 0 :: .ref a8 :: .int 0 :: .int 0 :: .ref a9 :: .int 0 :: .int 0 :: .ref a10 :: .int 0 :: .int 0 :: .ref a11 :: .ref a12 :: .ref a13 :: .ref a14 :: .int 0 :: .int 0 :: .ref a15 :: .ref a16 :: .ref a17 :: .ref a18 :: .ref a19 :: .int 0 :: .ref a20 :: .ref a21 :: .int 0 :: .int 0 :: .ref a22 :: .ref a23 :: .ref a24 :: .ref a25 :: .ref a26 :: .int (-1) :: .ref a27 :: .ref a28 :: .ref a29 :: .ref a30 :: .ref a31 :: .ref a32 :: .ref a33 :: []), zb G a1 2000 f0] s.heap [] := B
  refine lv_bipush (v := 24) E.x E.b dX12_lays_0 (by decide) ?_
  refine lv_istore_n (lv' := [(2, .int 24), (0, .ref a0), (1, .int p0)]) E.x E.b dX12_lays_2 rfl hl (by decide) rfl (fun ls hl => ?_)
  refine lv_iload_n E.x E.b dX12_lays_3 rfl (lv_at hl 0 rfl) ?_
  refine lv_if_lt (tgt := 36) E.x E.b dX12_lays_4 (by decide) (fun c => absurd c (by decide +kernel)) (fun _ => ?_)
  refine lv_aload_n E.x E.b dX12_lays_7 rfl (lv_at hl 1 rfl) ?_
  refine z_get E B z_inX12 (ci := 10) rfl 1 (by decide) t_1193 0 rfl rfl dX12_lays_8 ?_
  refine lv_aload_n E.x E.b dX12_lays_11 rfl (lv_at hl 1 rfl) ?_
  refine z_get E B z_inX12 (ci := 10) rfl 2 (by decide) t_1194 0 rfl rfl dX12_lays_12 ?_
  refine lv_iload_n E.x E.b dX12_lays_15 rfl (lv_at hl 2 rfl) ?_
  refine lv_iload_n E.x E.b dX12_lays_16 rfl (lv_at hl 0 rfl) ?_
  refine lv_ishr E.x E.b dX12_lays_17 ?_
  refine lv_topi (fun x_1 _ => ?_)
  refine lv_i2b (v := _) E.x E.b dX12_lays_18 rfl ?_
  refine lv_topi (fun x_2 _ => ?_)
  refine z_bast E B 1 rfl (show ¬ ((4 : Int32) < 0 ∨ 2000 ≤ (4 : Int32).toNatClampNeg) by decide +kernel) dX12_lays_19 (fun H locs g_3 B => ?_)
  have B : zB G A s.heap [zo a0 10 (.int 0 :: .ref a1 :: .int 4 :: .ref a2 :: .int 0 :: .ref a3 :: .ref a4 :: .ref a5 :: .ref a6 :: .ref a7 :: .int 0 :: .int 0 :: .int 0 :: .int 0 :: .int 0 :: .int 0 :: .int (-1) :: .int 0 :: .ref a8 :: .int 0 :: .int 0 :: .ref a9 :: .int 0 :: .int 0 :: .ref a10 :: .int 0 :: .int 0 :: .ref a11 :: .ref a12 :: .ref a13 :: .ref a14 :: .int 0 :: .int 0 :: .ref a15 :: .ref a16 :: .ref a17 :: .ref a18 :: .ref a19 :: .int 0 :: .ref a20 :: .ref a21 :: .int 0 :: .int 0 :: .ref a22 :: .ref a23 :: .ref a24 :: .ref a25 :: .ref a26 :: .int (-1) :: .ref a27 :: .ref a28 :: .ref a29 :: .ref a30 :: .ref a31 :: .ref a32 :: .ref a33 :: []), zb G a1 2000 g_3] _ _ := B
  refine lv_aload_n E.x E.b dX12_lays_20 rfl (lv_at hl 1 rfl) ?_
  refine lv_dup E.x E.b dX12_lays_21 rfl ?_
  refine z_get E B z_inX12 (ci := 10) rfl 2 (by decide) t_1194 0 rfl rfl dX12_lays_22 ?_
  refine lv_iconst (v := 1) E.x E.b dX12_lays_25 (by decide) ?_
  refine lv_iadd E.x E.b dX12_lays_26 (z_topi 5 (by decide +kernel) ?_)
  refine z_put E B z_inX12 tyX12 tyX12_ok nmX12 (ci := 10) rfl 2 (by decide) rfl (ty := .int) (by decide +kernel) t_1194 0 rfl (Nat.le_of_ble_eq_true rfl) rfl rfl dX12_lays_27 (fun H locs B => ?_)
  have B : zB G A s.heap [zo a0 10 (.int 0 :: .ref a1 :: .int 5 :: .ref a2 :: .int 0 :: .ref a3 :: .ref a4 :: .ref a5 :: .ref a6 :: .ref a7 :: .int 0 :: .int 0 :: .int 0 :: .int 0 :: .int 0 :: .int 0 :: .int (-1) :: .int 0 :: .ref a8 :: .int 0 :: .int 0 :: .ref a9 :: .int 0 :: .int 0 :: .ref a10 :: .int 0 :: .int 0 :: .ref a11 :: .ref a12 :: .ref a13 :: .ref a14 :: .int 0 :: .int 0 :: .ref a15 :: .ref a16 :: .ref a17 :: .ref a18 :: .ref a19 :: .int 0 :: .ref a20 :: .ref a21 :: .int 0 :: .int 0 :: .ref a22 :: .ref a23 :: .ref a24 :: .ref a25 :: .ref a26 :: .int (-1) :: .ref a27 :: .ref a28 :: .ref a29 :: .ref a30 :: .ref a31 :: .ref a32 :: .ref a33 :: []), zb G a1 2000 g_3] _ _ := B
  refine lv_iinc (v := 16) (lv' := [(2, .int 16), (0, .ref a0), (1, .int p0)]) E.x E.b dX12_lays_30 hl (k := 0) rfl (by decide +kernel) (by decide) rfl (fun ls hl => ?_)
  refine lv_goto (tgt := 3) E.x E.b dX12_lays_33 (by decide) ?_
  refine lv_iload_n E.x E.b dX12_lays_3 rfl (lv_at hl 0 rfl) ?_
  refine lv_if_lt (tgt := 36) E.x E.b dX12_lays_4 (by decide) (fun c => absurd c (by decide +kernel)) (fun _ => ?_)
  refine lv_aload_n E.x E.b dX12_lays_7 rfl (lv_at hl 1 rfl) ?_
  refine z_get E B z_inX12 (ci := 10) rfl 1 (by decide) t_1193 0 rfl rfl dX12_lays_8 ?_
  refine lv_aload_n E.x E.b dX12_lays_11 rfl (lv_at hl 1 rfl) ?_
  refine z_get E B z_inX12 (ci := 10) rfl 2 (by decide) t_1194 0 rfl rfl dX12_lays_12 ?_
  refine lv_iload_n E.x E.b dX12_lays_15 rfl (lv_at hl 2 rfl) ?_
  refine lv_iload_n E.x E.b dX12_lays_16 rfl (lv_at hl 0 rfl) ?_
  refine lv_ishr E.x E.b dX12_lays_17 ?_
  refine lv_topi (fun x_4 _ => ?_)
  refine lv_i2b (v := _) E.x E.b dX12_lays_18 rfl ?_
  refine lv_topi (fun x_5 _ => ?_)
  refine z_bast E B 1 rfl (show ¬ ((5 : Int32) < 0 ∨ 2000 ≤ (5 : Int32).toNatClampNeg) by decide +kernel) dX12_lays_19 (fun H locs g_6 B => ?_)
  have B : zB G A s.heap [zo a0 10 (.int 0 :: .ref a1 :: .int 5 :: .ref a2 :: .int 0 :: .ref a3 :: .ref a4 :: .ref a5 :: .ref a6 :: .ref a7 :: .int 0 :: .int 0 :: .int 0 :: .int 0 :: .int 0 :: .int 0 :: .int (-1) :: .int 0 :: .ref a8 :: .int 0 :: .int 0 :: .ref a9 :: .int 0 :: .int 0 :: .ref a10 :: .int 0 :: .int 0 :: .ref a11 :: .ref a12 :: .ref a13 :: .ref a14 :: .int 0 :: .int 0 :: .ref a15 :: .ref a16 :: .ref a17 :: .ref a18 :: .ref a19 :: .int 0 :: .ref a20 :: .ref a21 :: .int 0 :: .int 0 :: .ref a22 :: .ref a23 :: .ref a24 :: .ref a25 :: .ref a26 :: .int (-1) :: .ref a27 :: .ref a28 :: .ref a29 :: .ref a30 :: .ref a31 :: .ref a32 :: .ref a33 :: []), zb G a1 2000 g_6] _ _ := B
  refine lv_aload_n E.x E.b dX12_lays_20 rfl (lv_at hl 1 rfl) ?_
  refine lv_dup E.x E.b dX12_lays_21 rfl ?_
  refine z_get E B z_inX12 (ci := 10) rfl 2 (by decide) t_1194 0 rfl rfl dX12_lays_22 ?_
  refine lv_iconst (v := 1) E.x E.b dX12_lays_25 (by decide) ?_
  refine lv_iadd E.x E.b dX12_lays_26 (z_topi 6 (by decide +kernel) ?_)
  refine z_put E B z_inX12 tyX12 tyX12_ok nmX12 (ci := 10) rfl 2 (by decide) rfl (ty := .int) (by decide +kernel) t_1194 0 rfl (Nat.le_of_ble_eq_true rfl) rfl rfl dX12_lays_27 (fun H locs B => ?_)
  have B : zB G A s.heap [zo a0 10 (.int 0 :: .ref a1 :: .int 6 :: .ref a2 :: .int 0 :: .ref a3 :: .ref a4 :: .ref a5 :: .ref a6 :: .ref a7 :: .int 0 :: .int 0 :: .int 0 :: .int 0 :: .int 0 :: .int 0 :: .int (-1) :: .int 0 :: .ref a8 :: .int 0 :: .int 0 :: .ref a9 :: .int 0 :: .int 0 :: .ref a10 :: .int 0 :: .int 0 :: .ref a11 :: .ref a12 :: .ref a13 :: .ref a14 :: .int 0 :: .int 0 :: .ref a15 :: .ref a16 :: .ref a17 :: .ref a18 :: .ref a19 :: .int 0 :: .ref a20 :: .ref a21 :: .int 0 :: .int 0 :: .ref a22 :: .ref a23 :: .ref a24 :: .ref a25 :: .ref a26 :: .int (-1) :: .ref a27 :: .ref a28 :: .ref a29 :: .ref a30 :: .ref a31 :: .ref a32 :: .ref a33 :: []), zb G a1 2000 g_6] _ _ := B
  refine lv_iinc (v := 8) (lv' := [(2, .int 8), (0, .ref a0), (1, .int p0)]) E.x E.b dX12_lays_30 hl (k := 0) rfl (by decide +kernel) (by decide) rfl (fun ls hl => ?_)
  refine lv_goto (tgt := 3) E.x E.b dX12_lays_33 (by decide) ?_
  refine lv_iload_n E.x E.b dX12_lays_3 rfl (lv_at hl 0 rfl) ?_
  refine lv_if_lt (tgt := 36) E.x E.b dX12_lays_4 (by decide) (fun c => absurd c (by decide +kernel)) (fun _ => ?_)
  refine lv_aload_n E.x E.b dX12_lays_7 rfl (lv_at hl 1 rfl) ?_
  refine z_get E B z_inX12 (ci := 10) rfl 1 (by decide) t_1193 0 rfl rfl dX12_lays_8 ?_
  refine lv_aload_n E.x E.b dX12_lays_11 rfl (lv_at hl 1 rfl) ?_
  refine z_get E B z_inX12 (ci := 10) rfl 2 (by decide) t_1194 0 rfl rfl dX12_lays_12 ?_
  refine lv_iload_n E.x E.b dX12_lays_15 rfl (lv_at hl 2 rfl) ?_
  refine lv_iload_n E.x E.b dX12_lays_16 rfl (lv_at hl 0 rfl) ?_
  refine lv_ishr E.x E.b dX12_lays_17 ?_
  refine lv_topi (fun x_7 _ => ?_)
  refine lv_i2b (v := _) E.x E.b dX12_lays_18 rfl ?_
  refine lv_topi (fun x_8 _ => ?_)
  refine z_bast E B 1 rfl (show ¬ ((6 : Int32) < 0 ∨ 2000 ≤ (6 : Int32).toNatClampNeg) by decide +kernel) dX12_lays_19 (fun H locs g_9 B => ?_)
  have B : zB G A s.heap [zo a0 10 (.int 0 :: .ref a1 :: .int 6 :: .ref a2 :: .int 0 :: .ref a3 :: .ref a4 :: .ref a5 :: .ref a6 :: .ref a7 :: .int 0 :: .int 0 :: .int 0 :: .int 0 :: .int 0 :: .int 0 :: .int (-1) :: .int 0 :: .ref a8 :: .int 0 :: .int 0 :: .ref a9 :: .int 0 :: .int 0 :: .ref a10 :: .int 0 :: .int 0 :: .ref a11 :: .ref a12 :: .ref a13 :: .ref a14 :: .int 0 :: .int 0 :: .ref a15 :: .ref a16 :: .ref a17 :: .ref a18 :: .ref a19 :: .int 0 :: .ref a20 :: .ref a21 :: .int 0 :: .int 0 :: .ref a22 :: .ref a23 :: .ref a24 :: .ref a25 :: .ref a26 :: .int (-1) :: .ref a27 :: .ref a28 :: .ref a29 :: .ref a30 :: .ref a31 :: .ref a32 :: .ref a33 :: []), zb G a1 2000 g_9] _ _ := B
  refine lv_aload_n E.x E.b dX12_lays_20 rfl (lv_at hl 1 rfl) ?_
  refine lv_dup E.x E.b dX12_lays_21 rfl ?_
  refine z_get E B z_inX12 (ci := 10) rfl 2 (by decide) t_1194 0 rfl rfl dX12_lays_22 ?_
  refine lv_iconst (v := 1) E.x E.b dX12_lays_25 (by decide) ?_
  refine lv_iadd E.x E.b dX12_lays_26 (z_topi 7 (by decide +kernel) ?_)
  refine z_put E B z_inX12 tyX12 tyX12_ok nmX12 (ci := 10) rfl 2 (by decide) rfl (ty := .int) (by decide +kernel) t_1194 0 rfl (Nat.le_of_ble_eq_true rfl) rfl rfl dX12_lays_27 (fun H locs B => ?_)
  have B : zB G A s.heap [zo a0 10 (.int 0 :: .ref a1 :: .int 7 :: .ref a2 :: .int 0 :: .ref a3 :: .ref a4 :: .ref a5 :: .ref a6 :: .ref a7 :: .int 0 :: .int 0 :: .int 0 :: .int 0 :: .int 0 :: .int 0 :: .int (-1) :: .int 0 :: .ref a8 :: .int 0 :: .int 0 :: .ref a9 :: .int 0 :: .int 0 :: .ref a10 :: .int 0 :: .int 0 :: .ref a11 :: .ref a12 :: .ref a13 :: .ref a14 :: .int 0 :: .int 0 :: .ref a15 :: .ref a16 :: .ref a17 :: .ref a18 :: .ref a19 :: .int 0 :: .ref a20 :: .ref a21 :: .int 0 :: .int 0 :: .ref a22 :: .ref a23 :: .ref a24 :: .ref a25 :: .ref a26 :: .int (-1) :: .ref a27 :: .ref a28 :: .ref a29 :: .ref a30 :: .ref a31 :: .ref a32 :: .ref a33 :: []), zb G a1 2000 g_9] _ _ := B
  refine lv_iinc (v := 0) (lv' := [(2, .int 0), (0, .ref a0), (1, .int p0)]) E.x E.b dX12_lays_30 hl (k := 0) rfl (by decide +kernel) (by decide) rfl (fun ls hl => ?_)
  refine lv_goto (tgt := 3) E.x E.b dX12_lays_33 (by decide) ?_
  refine lv_iload_n E.x E.b dX12_lays_3 rfl (lv_at hl 0 rfl) ?_
  refine lv_if_lt (tgt := 36) E.x E.b dX12_lays_4 (by decide) (fun c => absurd c (by decide +kernel)) (fun _ => ?_)
  refine lv_aload_n E.x E.b dX12_lays_7 rfl (lv_at hl 1 rfl) ?_
  refine z_get E B z_inX12 (ci := 10) rfl 1 (by decide) t_1193 0 rfl rfl dX12_lays_8 ?_
  refine lv_aload_n E.x E.b dX12_lays_11 rfl (lv_at hl 1 rfl) ?_
  refine z_get E B z_inX12 (ci := 10) rfl 2 (by decide) t_1194 0 rfl rfl dX12_lays_12 ?_
  refine lv_iload_n E.x E.b dX12_lays_15 rfl (lv_at hl 2 rfl) ?_
  refine lv_iload_n E.x E.b dX12_lays_16 rfl (lv_at hl 0 rfl) ?_
  refine lv_ishr E.x E.b dX12_lays_17 ?_
  refine lv_topi (fun x_10 _ => ?_)
  refine lv_i2b (v := _) E.x E.b dX12_lays_18 rfl ?_
  refine lv_topi (fun x_11 _ => ?_)
  refine z_bast E B 1 rfl (show ¬ ((7 : Int32) < 0 ∨ 2000 ≤ (7 : Int32).toNatClampNeg) by decide +kernel) dX12_lays_19 (fun H locs g_12 B => ?_)
  have B : zB G A s.heap [zo a0 10 (.int 0 :: .ref a1 :: .int 7 :: .ref a2 :: .int 0 :: .ref a3 :: .ref a4 :: .ref a5 :: .ref a6 :: .ref a7 :: .int 0 :: .int 0 :: .int 0 :: .int 0 :: .int 0 :: .int 0 :: .int (-1) :: .int 0 :: .ref a8 :: .int 0 :: .int 0 :: .ref a9 :: .int 0 :: .int 0 :: .ref a10 :: .int 0 :: .int 0 :: .ref a11 :: .ref a12 :: .ref a13 :: .ref a14 :: .int 0 :: .int 0 :: .ref a15 :: .ref a16 :: .ref a17 :: .ref a18 :: .ref a19 :: .int 0 :: .ref a20 :: .ref a21 :: .int 0 :: .int 0 :: .ref a22 :: .ref a23 :: .ref a24 :: .ref a25 :: .ref a26 :: .int (-1) :: .ref a27 :: .ref a28 :: .ref a29 :: .ref a30 :: .ref a31 :: .ref a32 :: .ref a33 :: []), zb G a1 2000 g_12] _ _ := B
  refine lv_aload_n E.x E.b dX12_lays_20 rfl (lv_at hl 1 rfl) ?_
  refine lv_dup E.x E.b dX12_lays_21 rfl ?_
  refine z_get E B z_inX12 (ci := 10) rfl 2 (by decide) t_1194 0 rfl rfl dX12_lays_22 ?_
  refine lv_iconst (v := 1) E.x E.b dX12_lays_25 (by decide) ?_
  refine lv_iadd E.x E.b dX12_lays_26 (z_topi 8 (by decide +kernel) ?_)
  refine z_put E B z_inX12 tyX12 tyX12_ok nmX12 (ci := 10) rfl 2 (by decide) rfl (ty := .int) (by decide +kernel) t_1194 0 rfl (Nat.le_of_ble_eq_true rfl) rfl rfl dX12_lays_27 (fun H locs B => ?_)
  have B : zB G A s.heap [zo a0 10 (.int 0 :: .ref a1 :: .int 8 :: .ref a2 :: .int 0 :: .ref a3 :: .ref a4 :: .ref a5 :: .ref a6 :: .ref a7 :: .int 0 :: .int 0 :: .int 0 :: .int 0 :: .int 0 :: .int 0 :: .int (-1) :: .int 0 :: .ref a8 :: .int 0 :: .int 0 :: .ref a9 :: .int 0 :: .int 0 :: .ref a10 :: .int 0 :: .int 0 :: .ref a11 :: .ref a12 :: .ref a13 :: .ref a14 :: .int 0 :: .int 0 :: .ref a15 :: .ref a16 :: .ref a17 :: .ref a18 :: .ref a19 :: .int 0 :: .ref a20 :: .ref a21 :: .int 0 :: .int 0 :: .ref a22 :: .ref a23 :: .ref a24 :: .ref a25 :: .ref a26 :: .int (-1) :: .ref a27 :: .ref a28 :: .ref a29 :: .ref a30 :: .ref a31 :: .ref a32 :: .ref a33 :: []), zb G a1 2000 g_12] _ _ := B
  refine lv_iinc (v := (-8)) (lv' := [(2, .int (-8)), (0, .ref a0), (1, .int p0)]) E.x E.b dX12_lays_30 hl (k := 0) rfl (by decide +kernel) (by decide) rfl (fun ls hl => ?_)
  refine lv_goto (tgt := 3) E.x E.b dX12_lays_33 (by decide) ?_
  refine lv_iload_n E.x E.b dX12_lays_3 rfl (lv_at hl 0 rfl) ?_
  refine lv_if_lt (tgt := 36) E.x E.b dX12_lays_4 (by decide) (fun _ => ?_) (fun c => absurd (by decide +kernel) c)
  refine W.widen (k := 0) (n := 0) (Nat.le_of_ble_eq_true rfl) (Nat.le_of_ble_eq_true rfl) ?_
  exact z_vret E hr hlocks B trivial (fun t ht => ⟨_, z_q B [0, 1] (by decide) rfl ht⟩) dX12_lays_36
set_option maxHeartbeats 4000000 in
set_option maxRecDepth 100000 in
theorem c_X12_lays_148 (l : Launch) (G : zGT) (sz : Nat) (a0 a1 a2 a3 a4 a5 a6 a7 a8 a9 a10 a11 a12 a13 a14 a15 a16 a17 a18 a19 a20 a21 a22 a23 a24 a25 a26 a27 a28 a29 a30 a31 a32 a33 : Nat) (p0 : Int32) (f0 : Nat → Int32) : Met l yX12_lays (.code yX12_lays cX12_lays 3 none :: zT) ({ frames := 0, cells := 0, slots := 0, locals := 64 }) (va_Pc [.ref a0, .int p0] (zPc G [zo a0 10 (.int 0 :: .ref a1 :: .int 8 :: .ref a2 :: .int 0 :: .ref a3 :: .ref a4 :: .ref a5 :: .ref a6 :: .ref a7 :: .int 0 :: .int 0 :: .int 0 :: .int 0 :: .int 0 :: .int 0 :: .int (-1) :: .int 0 :: .ref a8 :: .int 0 :: .int 0 :: .ref a9 :: .int 0 :: .int 0 :: .ref a10 :: .int 0 :: .int 0 :: .ref a11 :: .ref a12 :: .ref a13 :: .ref a14 :: .int 0 :: .int 0 :: .ref a15 :: .ref a16 :: .ref a17 :: .ref a18 :: .ref a19 :: .int 0 :: .ref a20 :: .ref a21 :: .int 0 :: .int 0 :: .ref a22 :: .ref a23 :: .ref a24 :: .ref a25 :: .ref a26 :: .int (-1) :: .ref a27 :: .ref a28 :: .ref a29 :: .ref a30 :: .ref a31 :: .ref a32 :: .ref a33 :: []), zb G a1 2000 f0] sz)) ((fun A => va_Qv (fun (_ : Unit) => True) (fun (_ : Unit) t => ∃ (F1 : Nat → Int32), zQ G [zo a0 10 (.int 0 :: .ref a1 :: .int 12 :: .ref a2 :: .int 0 :: .ref a3 :: .ref a4 :: .ref a5 :: .ref a6 :: .ref a7 :: .int 0 :: .int 0 :: .int 0 :: .int 0 :: .int 0 :: .int 0 :: .int (-1) :: .int 0 :: .ref a8 :: .int 0 :: .int 0 :: .ref a9 :: .int 0 :: .int 0 :: .ref a10 :: .int 0 :: .int 0 :: .ref a11 :: .ref a12 :: .ref a13 :: .ref a14 :: .int 0 :: .int 0 :: .ref a15 :: .ref a16 :: .ref a17 :: .ref a18 :: .ref a19 :: .int 0 :: .ref a20 :: .ref a21 :: .int 0 :: .int 0 :: .ref a22 :: .ref a23 :: .ref a24 :: .ref a25 :: .ref a26 :: .int (-1) :: .ref a27 :: .ref a28 :: .ref a29 :: .ref a30 :: .ref a31 :: .ref a32 :: .ref a33 :: []), zb G a1 2000 F1] A t) A) (va_A [zo a0 10 (.int 0 :: .ref a1 :: .int 8 :: .ref a2 :: .int 0 :: .ref a3 :: .ref a4 :: .ref a5 :: .ref a6 :: .ref a7 :: .int 0 :: .int 0 :: .int 0 :: .int 0 :: .int 0 :: .int 0 :: .int (-1) :: .int 0 :: .ref a8 :: .int 0 :: .int 0 :: .ref a9 :: .int 0 :: .int 0 :: .ref a10 :: .int 0 :: .int 0 :: .ref a11 :: .ref a12 :: .ref a13 :: .ref a14 :: .int 0 :: .int 0 :: .ref a15 :: .ref a16 :: .ref a17 :: .ref a18 :: .ref a19 :: .int 0 :: .ref a20 :: .ref a21 :: .int 0 :: .int 0 :: .ref a22 :: .ref a23 :: .ref a24 :: .ref a25 :: .ref a26 :: .int (-1) :: .ref a27 :: .ref a28 :: .ref a29 :: .ref a30 :: .ref a31 :: .ref a32 :: .ref a33 :: []), zb G a1 2000 f0] sz)) 0 0 (va_A [zo a0 10 (.int 0 :: .ref a1 :: .int 8 :: .ref a2 :: .int 0 :: .ref a3 :: .ref a4 :: .ref a5 :: .ref a6 :: .ref a7 :: .int 0 :: .int 0 :: .int 0 :: .int 0 :: .int 0 :: .int 0 :: .int (-1) :: .int 0 :: .ref a8 :: .int 0 :: .int 0 :: .ref a9 :: .int 0 :: .int 0 :: .ref a10 :: .int 0 :: .int 0 :: .ref a11 :: .ref a12 :: .ref a13 :: .ref a14 :: .int 0 :: .int 0 :: .ref a15 :: .ref a16 :: .ref a17 :: .ref a18 :: .ref a19 :: .int 0 :: .ref a20 :: .ref a21 :: .int 0 :: .int 0 :: .ref a22 :: .ref a23 :: .ref a24 :: .ref a25 :: .ref a26 :: .int (-1) :: .ref a27 :: .ref a28 :: .ref a29 :: .ref a30 :: .ref a31 :: .ref a32 :: .ref a33 :: []), zb G a1 2000 f0] sz) := by
  refine z_start (y := yX12_lays) (bytes := cX12_lays) (maxL := 3) (ret := none) (av := [.ref a0, .int p0]) (QA := (fun A => va_Qv (fun (_ : Unit) => True) (fun (_ : Unit) t => ∃ (F1 : Nat → Int32), zQ G [zo a0 10 (.int 0 :: .ref a1 :: .int 12 :: .ref a2 :: .int 0 :: .ref a3 :: .ref a4 :: .ref a5 :: .ref a6 :: .ref a7 :: .int 0 :: .int 0 :: .int 0 :: .int 0 :: .int 0 :: .int 0 :: .int (-1) :: .int 0 :: .ref a8 :: .int 0 :: .int 0 :: .ref a9 :: .int 0 :: .int 0 :: .ref a10 :: .int 0 :: .int 0 :: .ref a11 :: .ref a12 :: .ref a13 :: .ref a14 :: .int 0 :: .int 0 :: .ref a15 :: .ref a16 :: .ref a17 :: .ref a18 :: .ref a19 :: .int 0 :: .ref a20 :: .ref a21 :: .int 0 :: .int 0 :: .ref a22 :: .ref a23 :: .ref a24 :: .ref a25 :: .ref a26 :: .int (-1) :: .ref a27 :: .ref a28 :: .ref a29 :: .ref a30 :: .ref a31 :: .ref a32 :: .ref a33 :: []), zb G a1 2000 F1] A t) A)) (by decide) ⟨Nat.le_of_ble_eq_true rfl, trivial⟩ ?_
  intro p e s m below meth c A ls E B hr hlocks hin hl
  have hl : lv_has ls 3 [(0, .ref a0), (1, .int p0)] := hl
  have B : zB G A s.heap [zo a0 10 (.int 0 :: .ref a1 :: .int 8 :: .ref a2 :: .int 0 :: .ref a3 :: .ref a4 :: .ref a5 :: .ref a6 :: .ref a7 :: .int 0 :: .int 0 :: .int 0 :: .int 0 :: .int 0 :: .int 0 :: .int (-1) :: .int 0 :: .ref a8 :: .int 0 :: .int 0 :: .ref a9 :: .int 0 :: .int 0 :: .ref a10 :: .int 0 :: .int 0 :: .ref a11 :: .ref a12 :: .ref a13 :: .ref a14 :: .int 0 :: .int 0 :: .ref a15 :: .ref a16 :: .ref a17 :: .ref a18 :: .ref a19 :: .int 0 :: .ref a20 :: .ref a21 :: .int 0 :: .int 0 :: .ref a22 :: .ref a23 :: .ref a24 :: .ref a25 :: .ref a26 :: .int (-1) :: .ref a27 :: .ref a28 :: .ref a29 :: .ref a30 :: .ref a31 :: .ref a32 :: .ref a33 :: []), zb G a1 2000 f0] s.heap [] := B
  refine lv_bipush (v := 24) E.x E.b dX12_lays_0 (by decide) ?_
  refine lv_istore_n (lv' := [(2, .int 24), (0, .ref a0), (1, .int p0)]) E.x E.b dX12_lays_2 rfl hl (by decide) rfl (fun ls hl => ?_)
  refine lv_iload_n E.x E.b dX12_lays_3 rfl (lv_at hl 0 rfl) ?_
  refine lv_if_lt (tgt := 36) E.x E.b dX12_lays_4 (by decide) (fun c => absurd c (by decide +kernel)) (fun _ => ?_)
  refine lv_aload_n E.x E.b dX12_lays_7 rfl (lv_at hl 1 rfl) ?_
  refine z_get E B z_inX12 (ci := 10) rfl 1 (by decide) t_1193 0 rfl rfl dX12_lays_8 ?_
  refine lv_aload_n E.x E.b dX12_lays_11 rfl (lv_at hl 1 rfl) ?_
  refine z_get E B z_inX12 (ci := 10) rfl 2 (by decide) t_1194 0 rfl rfl dX12_lays_12 ?_
  refine lv_iload_n E.x E.b dX12_lays_15 rfl (lv_at hl 2 rfl) ?_
  refine lv_iload_n E.x E.b dX12_lays_16 rfl (lv_at hl 0 rfl) ?_
  refine lv_ishr E.x E.b dX12_lays_17 ?_
  refine lv_topi (fun x_1 _ => ?_)
  refine lv_i2b (v := _) E.x E.b dX12_lays_18 rfl ?_
  refine lv_topi (fun x_2 _ => ?_)
  refine z_bast E B 1 rfl (show ¬ ((8 : Int32) < 0 ∨ 2000 ≤ (8 : Int32).toNatClampNeg) by decide +kernel) dX12_lays_19 (fun H locs g_3 B => ?_)
  have B : zB G A s.heap [zo a0 10 (.int 0 :: .ref a1 :: .int 8 :: .ref a2 :: .int 0 :: .ref a3 :: .ref a4 :: .ref a5 :: .ref a6 :: .ref a7 :: .int 0 :: .int 0 :: .int 0 :: .int 0 :: .int 0 :: .int 0 :: .int (-1) :: .int 0 :: .ref a8 :: .int 0 :: .int 0 :: .ref a9 :: .int 0 :: .int 0 :: .ref a10 :: .int 0 :: .int 0 :: .ref a11 :: .ref a12 :: .ref a13 :: .ref a14 :: .int 0 :: .int 0 :: .ref a15 :: .ref a16 :: .ref a17 :: .ref a18 :: .ref a19 :: .int 0 :: .ref a20 :: .ref a21 :: .int 0 :: .int 0 :: .ref a22 :: .ref a23 :: .ref a24 :: .ref a25 :: .ref a26 :: .int (-1) :: .ref a27 :: .ref a28 :: .ref a29 :: .ref a30 :: .ref a31 :: .ref a32 :: .ref a33 :: []), zb G a1 2000 g_3] _ _ := B
  refine lv_aload_n E.x E.b dX12_lays_20 rfl (lv_at hl 1 rfl) ?_
  refine lv_dup E.x E.b dX12_lays_21 rfl ?_
  refine z_get E B z_inX12 (ci := 10) rfl 2 (by decide) t_1194 0 rfl rfl dX12_lays_22 ?_
  refine lv_iconst (v := 1) E.x E.b dX12_lays_25 (by decide) ?_
  refine lv_iadd E.x E.b dX12_lays_26 (z_topi 9 (by decide +kernel) ?_)
  refine z_put E B z_inX12 tyX12 tyX12_ok nmX12 (ci := 10) rfl 2 (by decide) rfl (ty := .int) (by decide +kernel) t_1194 0 rfl (Nat.le_of_ble_eq_true rfl) rfl rfl dX12_lays_27 (fun H locs B => ?_)
  have B : zB G A s.heap [zo a0 10 (.int 0 :: .ref a1 :: .int 9 :: .ref a2 :: .int 0 :: .ref a3 :: .ref a4 :: .ref a5 :: .ref a6 :: .ref a7 :: .int 0 :: .int 0 :: .int 0 :: .int 0 :: .int 0 :: .int 0 :: .int (-1) :: .int 0 :: .ref a8 :: .int 0 :: .int 0 :: .ref a9 :: .int 0 :: .int 0 :: .ref a10 :: .int 0 :: .int 0 :: .ref a11 :: .ref a12 :: .ref a13 :: .ref a14 :: .int 0 :: .int 0 :: .ref a15 :: .ref a16 :: .ref a17 :: .ref a18 :: .ref a19 :: .int 0 :: .ref a20 :: .ref a21 :: .int 0 :: .int 0 :: .ref a22 :: .ref a23 :: .ref a24 :: .ref a25 :: .ref a26 :: .int (-1) :: .ref a27 :: .ref a28 :: .ref a29 :: .ref a30 :: .ref a31 :: .ref a32 :: .ref a33 :: []), zb G a1 2000 g_3] _ _ := B
  refine lv_iinc (v := 16) (lv' := [(2, .int 16), (0, .ref a0), (1, .int p0)]) E.x E.b dX12_lays_30 hl (k := 0) rfl (by decide +kernel) (by decide) rfl (fun ls hl => ?_)
  refine lv_goto (tgt := 3) E.x E.b dX12_lays_33 (by decide) ?_
  refine lv_iload_n E.x E.b dX12_lays_3 rfl (lv_at hl 0 rfl) ?_
  refine lv_if_lt (tgt := 36) E.x E.b dX12_lays_4 (by decide) (fun c => absurd c (by decide +kernel)) (fun _ => ?_)
  refine lv_aload_n E.x E.b dX12_lays_7 rfl (lv_at hl 1 rfl) ?_
  refine z_get E B z_inX12 (ci := 10) rfl 1 (by decide) t_1193 0 rfl rfl dX12_lays_8 ?_
  refine lv_aload_n E.x E.b dX12_lays_11 rfl (lv_at hl 1 rfl) ?_
  refine z_get E B z_inX12 (ci := 10) rfl 2 (by decide) t_1194 0 rfl rfl dX12_lays_12 ?_
  refine lv_iload_n E.x E.b dX12_lays_15 rfl (lv_at hl 2 rfl) ?_
  refine lv_iload_n E.x E.b dX12_lays_16 rfl (lv_at hl 0 rfl) ?_
  refine lv_ishr E.x E.b dX12_lays_17 ?_
  refine lv_topi (fun x_4 _ => ?_)
  refine lv_i2b (v := _) E.x E.b dX12_lays_18 rfl ?_
  refine lv_topi (fun x_5 _ => ?_)
  refine z_bast E B 1 rfl (show ¬ ((9 : Int32) < 0 ∨ 2000 ≤ (9 : Int32).toNatClampNeg) by decide +kernel) dX12_lays_19 (fun H locs g_6 B => ?_)
  have B : zB G A s.heap [zo a0 10 (.int 0 :: .ref a1 :: .int 9 :: .ref a2 :: .int 0 :: .ref a3 :: .ref a4 :: .ref a5 :: .ref a6 :: .ref a7 :: .int 0 :: .int 0 :: .int 0 :: .int 0 :: .int 0 :: .int 0 :: .int (-1) :: .int 0 :: .ref a8 :: .int 0 :: .int 0 :: .ref a9 :: .int 0 :: .int 0 :: .ref a10 :: .int 0 :: .int 0 :: .ref a11 :: .ref a12 :: .ref a13 :: .ref a14 :: .int 0 :: .int 0 :: .ref a15 :: .ref a16 :: .ref a17 :: .ref a18 :: .ref a19 :: .int 0 :: .ref a20 :: .ref a21 :: .int 0 :: .int 0 :: .ref a22 :: .ref a23 :: .ref a24 :: .ref a25 :: .ref a26 :: .int (-1) :: .ref a27 :: .ref a28 :: .ref a29 :: .ref a30 :: .ref a31 :: .ref a32 :: .ref a33 :: []), zb G a1 2000 g_6] _ _ := B
  refine lv_aload_n E.x E.b dX12_lays_20 rfl (lv_at hl 1 rfl) ?_
  refine lv_dup E.x E.b dX12_lays_21 rfl ?_
  refine z_get E B z_inX12 (ci := 10) rfl 2 (by decide) t_1194 0 rfl rfl dX12_lays_22 ?_
  refine lv_iconst (v := 1) E.x E.b dX12_lays_25 (by decide) ?_
  refine lv_iadd E.x E.b dX12_lays_26 (z_topi 10 (by decide +kernel) ?_)
  refine z_put E B z_inX12 tyX12 tyX12_ok nmX12 (ci := 10) rfl 2 (by decide) rfl (ty := .int) (by decide +kernel) t_1194 0 rfl (Nat.le_of_ble_eq_true rfl) rfl rfl dX12_lays_27 (fun H locs B => ?_)
  have B : zB G A s.heap [zo a0 10 (.int 0 :: .ref a1 :: .int 10 :: .ref a2 :: .int 0 :: .ref a3 :: .ref a4 :: .ref a5 :: .ref a6 :: .ref a7 :: .int 0 :: .int 0 :: .int 0 :: .int 0 :: .int 0 :: .int 0 :: .int (-1) :: .int 0 :: .ref a8 :: .int 0 :: .int 0 :: .ref a9 :: .int 0 :: .int 0 :: .ref a10 :: .int 0 :: .int 0 :: .ref a11 :: .ref a12 :: .ref a13 :: .ref a14 :: .int 0 :: .int 0 :: .ref a15 :: .ref a16 :: .ref a17 :: .ref a18 :: .ref a19 :: .int 0 :: .ref a20 :: .ref a21 :: .int 0 :: .int 0 :: .ref a22 :: .ref a23 :: .ref a24 :: .ref a25 :: .ref a26 :: .int (-1) :: .ref a27 :: .ref a28 :: .ref a29 :: .ref a30 :: .ref a31 :: .ref a32 :: .ref a33 :: []), zb G a1 2000 g_6] _ _ := B
  refine lv_iinc (v := 8) (lv' := [(2, .int 8), (0, .ref a0), (1, .int p0)]) E.x E.b dX12_lays_30 hl (k := 0) rfl (by decide +kernel) (by decide) rfl (fun ls hl => ?_)
  refine lv_goto (tgt := 3) E.x E.b dX12_lays_33 (by decide) ?_
  refine lv_iload_n E.x E.b dX12_lays_3 rfl (lv_at hl 0 rfl) ?_
  refine lv_if_lt (tgt := 36) E.x E.b dX12_lays_4 (by decide) (fun c => absurd c (by decide +kernel)) (fun _ => ?_)
  refine lv_aload_n E.x E.b dX12_lays_7 rfl (lv_at hl 1 rfl) ?_
  refine z_get E B z_inX12 (ci := 10) rfl 1 (by decide) t_1193 0 rfl rfl dX12_lays_8 ?_
  refine lv_aload_n E.x E.b dX12_lays_11 rfl (lv_at hl 1 rfl) ?_
  refine z_get E B z_inX12 (ci := 10) rfl 2 (by decide) t_1194 0 rfl rfl dX12_lays_12 ?_
  refine lv_iload_n E.x E.b dX12_lays_15 rfl (lv_at hl 2 rfl) ?_
  refine lv_iload_n E.x E.b dX12_lays_16 rfl (lv_at hl 0 rfl) ?_
  refine lv_ishr E.x E.b dX12_lays_17 ?_
  refine lv_topi (fun x_7 _ => ?_)
  refine lv_i2b (v := _) E.x E.b dX12_lays_18 rfl ?_
  refine lv_topi (fun x_8 _ => ?_)
  refine z_bast E B 1 rfl (show ¬ ((10 : Int32) < 0 ∨ 2000 ≤ (10 : Int32).toNatClampNeg) by decide +kernel) dX12_lays_19 (fun H locs g_9 B => ?_)
  have B : zB G A s.heap [zo a0 10 (.int 0 :: .ref a1 :: .int 10 :: .ref a2 :: .int 0 :: .ref a3 :: .ref a4 :: .ref a5 :: .ref a6 :: .ref a7 :: .int 0 :: .int 0 :: .int 0 :: .int 0 :: .int 0 :: .int 0 :: .int (-1) :: .int 0 :: .ref a8 :: .int 0 :: .int 0 :: .ref a9 :: .int 0 :: .int 0 :: .ref a10 :: .int 0 :: .int 0 :: .ref a11 :: .ref a12 :: .ref a13 :: .ref a14 :: .int 0 :: .int 0 :: .ref a15 :: .ref a16 :: .ref a17 :: .ref a18 :: .ref a19 :: .int 0 :: .ref a20 :: .ref a21 :: .int 0 :: .int 0 :: .ref a22 :: .ref a23 :: .ref a24 :: .ref a25 :: .ref a26 :: .int (-1) :: .ref a27 :: .ref a28 :: .ref a29 :: .ref a30 :: .ref a31 :: .ref a32 :: .ref a33 :: []), zb G a1 2000 g_9] _ _ := B
  refine lv_aload_n E.x E.b dX12_lays_20 rfl (lv_at hl 1 rfl) ?_
  refine lv_dup E.x E.b dX12_lays_21 rfl ?_
  refine z_get E B z_inX12 (ci := 10) rfl 2 (by decide) t_1194 0 rfl rfl dX12_lays_22 ?_
  refine lv_iconst (v := 1) E.x E.b dX12_lays_25 (by decide) ?_
  refine lv_iadd E.x E.b dX12_lays_26 (z_topi 11 (by decide +kernel) ?_)
  refine z_put E B z_inX12 tyX12 tyX12_ok nmX12 (ci := 10) rfl 2 (by decide) rfl (ty := .int) (by decide +kernel) t_1194 0 rfl (Nat.le_of_ble_eq_true rfl) rfl rfl dX12_lays_27 (fun H locs B => ?_)
  have B : zB G A s.heap [zo a0 10 (.int 0 :: .ref a1 :: .int 11 :: .ref a2 :: .int 0 :: .ref a3 :: .ref a4 :: .ref a5 :: .ref a6 :: .ref a7 :: .int 0 :: .int 0 :: .int 0 :: .int 0 :: .int 0 :: .int 0 :: .int (-1) :: .int 0 :: .ref a8 :: .int 0 :: .int 0 :: .ref a9 :: .int 0 :: .int 0 :: .ref a10 :: .int 0 :: .int 0 :: .ref a11 :: .ref a12 :: .ref a13 :: .ref a14 :: .int 0 :: .int 0 :: .ref a15 :: .ref a16 :: .ref a17 :: .ref a18 :: .ref a19 :: .int 0 :: .ref a20 :: .ref a21 :: .int 0 :: .int 0 :: .ref a22 :: .ref a23 :: .ref a24 :: .ref a25 :: .ref a26 :: .int (-1) :: .ref a27 :: .ref a28 :: .ref a29 :: .ref a30 :: .ref a31 :: .ref a32 :: .ref a33 :: []), zb G a1 2000 g_9] _ _ := B
  refine lv_iinc (v := 0) (lv' := [(2, .int 0), (0, .ref a0), (1, .int p0)]) E.x E.b dX12_lays_30 hl (k := 0) rfl (by decide +kernel) (by decide) rfl (fun ls hl => ?_)
  refine lv_goto (tgt := 3) E.x E.b dX12_lays_33 (by decide) ?_
  refine lv_iload_n E.x E.b dX12_lays_3 rfl (lv_at hl 0 rfl) ?_
  refine lv_if_lt (tgt := 36) E.x E.b dX12_lays_4 (by decide) (fun c => absurd c (by decide +kernel)) (fun _ => ?_)
  refine lv_aload_n E.x E.b dX12_lays_7 rfl (lv_at hl 1 rfl) ?_
  refine z_get E B z_inX12 (ci := 10) rfl 1 (by decide) t_1193 0 rfl rfl dX12_lays_8 ?_
  refine lv_aload_n E.x E.b dX12_lays_11 rfl (lv_at hl 1 rfl) ?_
  refine z_get E B z_inX12 (ci := 10) rfl 2 (by decide) t_1194 0 rfl rfl dX12_lays_12 ?_
  refine lv_iload_n E.x E.b dX12_lays_15 rfl (lv_at hl 2 rfl) ?_
  refine lv_iload_n E.x E.b dX12_lays_16 rfl (lv_at hl 0 rfl) ?_
  refine lv_ishr E.x E.b dX12_lays_17 ?_
  refine lv_topi (fun x_10 _ => ?_)
  refine lv_i2b (v := _) E.x E.b dX12_lays_18 rfl ?_
  refine lv_topi (fun x_11 _ => ?_)
  refine z_bast E B 1 rfl (show ¬ ((11 : Int32) < 0 ∨ 2000 ≤ (11 : Int32).toNatClampNeg) by decide +kernel) dX12_lays_19 (fun H locs g_12 B => ?_)
  have B : zB G A s.heap [zo a0 10 (.int 0 :: .ref a1 :: .int 11 :: .ref a2 :: .int 0 :: .ref a3 :: .ref a4 :: .ref a5 :: .ref a6 :: .ref a7 :: .int 0 :: .int 0 :: .int 0 :: .int 0 :: .int 0 :: .int 0 :: .int (-1) :: .int 0 :: .ref a8 :: .int 0 :: .int 0 :: .ref a9 :: .int 0 :: .int 0 :: .ref a10 :: .int 0 :: .int 0 :: .ref a11 :: .ref a12 :: .ref a13 :: .ref a14 :: .int 0 :: .int 0 :: .ref a15 :: .ref a16 :: .ref a17 :: .ref a18 :: .ref a19 :: .int 0 :: .ref a20 :: .ref a21 :: .int 0 :: .int 0 :: .ref a22 :: .ref a23 :: .ref a24 :: .ref a25 :: .ref a26 :: .int (-1) :: .ref a27 :: .ref a28 :: .ref a29 :: .ref a30 :: .ref a31 :: .ref a32 :: .ref a33 :: []), zb G a1 2000 g_12] _ _ := B
  refine lv_aload_n E.x E.b dX12_lays_20 rfl (lv_at hl 1 rfl) ?_
  refine lv_dup E.x E.b dX12_lays_21 rfl ?_
  refine z_get E B z_inX12 (ci := 10) rfl 2 (by decide) t_1194 0 rfl rfl dX12_lays_22 ?_
  refine lv_iconst (v := 1) E.x E.b dX12_lays_25 (by decide) ?_
  refine lv_iadd E.x E.b dX12_lays_26 (z_topi 12 (by decide +kernel) ?_)
  refine z_put E B z_inX12 tyX12 tyX12_ok nmX12 (ci := 10) rfl 2 (by decide) rfl (ty := .int) (by decide +kernel) t_1194 0 rfl (Nat.le_of_ble_eq_true rfl) rfl rfl dX12_lays_27 (fun H locs B => ?_)
  have B : zB G A s.heap [zo a0 10 (.int 0 :: .ref a1 :: .int 12 :: .ref a2 :: .int 0 :: .ref a3 :: .ref a4 :: .ref a5 :: .ref a6 :: .ref a7 :: .int 0 :: .int 0 :: .int 0 :: .int 0 :: .int 0 :: .int 0 :: .int (-1) :: .int 0 :: .ref a8 :: .int 0 :: .int 0 :: .ref a9 :: .int 0 :: .int 0 :: .ref a10 :: .int 0 :: .int 0 :: .ref a11 :: .ref a12 :: .ref a13 :: .ref a14 :: .int 0 :: .int 0 :: .ref a15 :: .ref a16 :: .ref a17 :: .ref a18 :: .ref a19 :: .int 0 :: .ref a20 :: .ref a21 :: .int 0 :: .int 0 :: .ref a22 :: .ref a23 :: .ref a24 :: .ref a25 :: .ref a26 :: .int (-1) :: .ref a27 :: .ref a28 :: .ref a29 :: .ref a30 :: .ref a31 :: .ref a32 :: .ref a33 :: []), zb G a1 2000 g_12] _ _ := B
  refine lv_iinc (v := (-8)) (lv' := [(2, .int (-8)), (0, .ref a0), (1, .int p0)]) E.x E.b dX12_lays_30 hl (k := 0) rfl (by decide +kernel) (by decide) rfl (fun ls hl => ?_)
  refine lv_goto (tgt := 3) E.x E.b dX12_lays_33 (by decide) ?_
  refine lv_iload_n E.x E.b dX12_lays_3 rfl (lv_at hl 0 rfl) ?_
  refine lv_if_lt (tgt := 36) E.x E.b dX12_lays_4 (by decide) (fun _ => ?_) (fun c => absurd (by decide +kernel) c)
  refine W.widen (k := 0) (n := 0) (Nat.le_of_ble_eq_true rfl) (Nat.le_of_ble_eq_true rfl) ?_
  exact z_vret E hr hlocks B trivial (fun t ht => ⟨_, z_q B [0, 1] (by decide) rfl ht⟩) dX12_lays_36
set_option maxHeartbeats 4000000 in
set_option maxRecDepth 100000 in
theorem c_X12_lays_149 (l : Launch) (G : zGT) (sz : Nat) (a0 a1 a2 a3 a4 a5 a6 a7 a8 a9 a10 a11 a12 a13 a14 a15 a16 a17 a18 a19 a20 a21 a22 a23 a24 a25 a26 a27 a28 a29 a30 a31 a32 a33 : Nat) (p0 : Int32) (f0 : Nat → Int32) : Met l yX12_lays (.code yX12_lays cX12_lays 3 none :: zT) ({ frames := 0, cells := 0, slots := 0, locals := 64 }) (va_Pc [.ref a0, .int p0] (zPc G [zo a0 10 (.int 0 :: .ref a1 :: .int 12 :: .ref a2 :: .int 0 :: .ref a3 :: .ref a4 :: .ref a5 :: .ref a6 :: .ref a7 :: .int 0 :: .int 0 :: .int 0 :: .int 0 :: .int 0 :: .int 0 :: .int (-1) :: .int 0 :: .ref a8 :: .int 0 :: .int 0 :: .ref a9 :: .int 0 :: .int 0 :: .ref a10 :: .int 0 :: .int 0 :: .ref a11 :: .ref a12 :: .ref a13 :: .ref a14 :: .int 0 :: .int 0 :: .ref a15 :: .ref a16 :: .ref a17 :: .ref a18 :: .ref a19 :: .int 0 :: .ref a20 :: .ref a21 :: .int 0 :: .int 0 :: .ref a22 :: .ref a23 :: .ref a24 :: .ref a25 :: .ref a26 :: .int (-1) :: .ref a27 :: .ref a28 :: .ref a29 :: .ref a30 :: .ref a31 :: .ref a32 :: .ref a33 :: []), zb G a1 2000 f0] sz)) ((fun A => va_Qv (fun (_ : Unit) => True) (fun (_ : Unit) t => ∃ (F1 : Nat → Int32), zQ G [zo a0 10 (.int 0 :: .ref a1 :: .int 16 :: .ref a2 :: .int 0 :: .ref a3 :: .ref a4 :: .ref a5 :: .ref a6 :: .ref a7 :: .int 0 :: .int 0 :: .int 0 :: .int 0 :: .int 0 :: .int 0 :: .int (-1) :: .int 0 :: .ref a8 :: .int 0 :: .int 0 :: .ref a9 :: .int 0 :: .int 0 :: .ref a10 :: .int 0 :: .int 0 :: .ref a11 :: .ref a12 :: .ref a13 :: .ref a14 :: .int 0 :: .int 0 :: .ref a15 :: .ref a16 :: .ref a17 :: .ref a18 :: .ref a19 :: .int 0 :: .ref a20 :: .ref a21 :: .int 0 :: .int 0 :: .ref a22 :: .ref a23 :: .ref a24 :: .ref a25 :: .ref a26 :: .int (-1) :: .ref a27 :: .ref a28 :: .ref a29 :: .ref a30 :: .ref a31 :: .ref a32 :: .ref a33 :: []), zb G a1 2000 F1] A t) A) (va_A [zo a0 10 (.int 0 :: .ref a1 :: .int 12 :: .ref a2 :: .int 0 :: .ref a3 :: .ref a4 :: .ref a5 :: .ref a6 :: .ref a7 :: .int 0 :: .int 0 :: .int 0 :: .int 0 :: .int 0 :: .int 0 :: .int (-1) :: .int 0 :: .ref a8 :: .int 0 :: .int 0 :: .ref a9 :: .int 0 :: .int 0 :: .ref a10 :: .int 0 :: .int 0 :: .ref a11 :: .ref a12 :: .ref a13 :: .ref a14 :: .int 0 :: .int 0 :: .ref a15 :: .ref a16 :: .ref a17 :: .ref a18 :: .ref a19 :: .int 0 :: .ref a20 :: .ref a21 :: .int 0 :: .int 0 :: .ref a22 :: .ref a23 :: .ref a24 :: .ref a25 :: .ref a26 :: .int (-1) :: .ref a27 :: .ref a28 :: .ref a29 :: .ref a30 :: .ref a31 :: .ref a32 :: .ref a33 :: []), zb G a1 2000 f0] sz)) 0 0 (va_A [zo a0 10 (.int 0 :: .ref a1 :: .int 12 :: .ref a2 :: .int 0 :: .ref a3 :: .ref a4 :: .ref a5 :: .ref a6 :: .ref a7 :: .int 0 :: .int 0 :: .int 0 :: .int 0 :: .int 0 :: .int 0 :: .int (-1) :: .int 0 :: .ref a8 :: .int 0 :: .int 0 :: .ref a9 :: .int 0 :: .int 0 :: .ref a10 :: .int 0 :: .int 0 :: .ref a11 :: .ref a12 :: .ref a13 :: .ref a14 :: .int 0 :: .int 0 :: .ref a15 :: .ref a16 :: .ref a17 :: .ref a18 :: .ref a19 :: .int 0 :: .ref a20 :: .ref a21 :: .int 0 :: .int 0 :: .ref a22 :: .ref a23 :: .ref a24 :: .ref a25 :: .ref a26 :: .int (-1) :: .ref a27 :: .ref a28 :: .ref a29 :: .ref a30 :: .ref a31 :: .ref a32 :: .ref a33 :: []), zb G a1 2000 f0] sz) := by
  refine z_start (y := yX12_lays) (bytes := cX12_lays) (maxL := 3) (ret := none) (av := [.ref a0, .int p0]) (QA := (fun A => va_Qv (fun (_ : Unit) => True) (fun (_ : Unit) t => ∃ (F1 : Nat → Int32), zQ G [zo a0 10 (.int 0 :: .ref a1 :: .int 16 :: .ref a2 :: .int 0 :: .ref a3 :: .ref a4 :: .ref a5 :: .ref a6 :: .ref a7 :: .int 0 :: .int 0 :: .int 0 :: .int 0 :: .int 0 :: .int 0 :: .int (-1) :: .int 0 :: .ref a8 :: .int 0 :: .int 0 :: .ref a9 :: .int 0 :: .int 0 :: .ref a10 :: .int 0 :: .int 0 :: .ref a11 :: .ref a12 :: .ref a13 :: .ref a14 :: .int 0 :: .int 0 :: .ref a15 :: .ref a16 :: .ref a17 :: .ref a18 :: .ref a19 :: .int 0 :: .ref a20 :: .ref a21 :: .int 0 :: .int 0 :: .ref a22 :: .ref a23 :: .ref a24 :: .ref a25 :: .ref a26 :: .int (-1) :: .ref a27 :: .ref a28 :: .ref a29 :: .ref a30 :: .ref a31 :: .ref a32 :: .ref a33 :: []), zb G a1 2000 F1] A t) A)) (by decide) ⟨Nat.le_of_ble_eq_true rfl, trivial⟩ ?_
  intro p e s m below meth c A ls E B hr hlocks hin hl
  have hl : lv_has ls 3 [(0, .ref a0), (1, .int p0)] := hl
  have B : zB G A s.heap [zo a0 10 (.int 0 :: .ref a1 :: .int 12 :: .ref a2 :: .int 0 :: .ref a3 :: .ref a4 :: .ref a5 :: .ref a6 :: .ref a7 :: .int 0 :: .int 0 :: .int 0 :: .int 0 :: .int 0 :: .int 0 :: .int (-1) :: .int 0 :: .ref a8 :: .int 0 :: .int 0 :: .ref a9 :: .int 0 :: .int 0 :: .ref a10 :: .int 0 :: .int 0 :: .ref a11 :: .ref a12 :: .ref a13 :: .ref a14 :: .int 0 :: .int 0 :: .ref a15 :: .ref a16 :: .ref a17 :: .ref a18 :: .ref a19 :: .int 0 :: .ref a20 :: .ref a21 :: .int 0 :: .int 0 :: .ref a22 :: .ref a23 :: .ref a24 :: .ref a25 :: .ref a26 :: .int (-1) :: .ref a27 :: .ref a28 :: .ref a29 :: .ref a30 :: .ref a31 :: .ref a32 :: .ref a33 :: []), zb G a1 2000 f0] s.heap [] := B
  refine lv_bipush (v := 24) E.x E.b dX12_lays_0 (by decide) ?_
  refine lv_istore_n (lv' := [(2, .int 24), (0, .ref a0), (1, .int p0)]) E.x E.b dX12_lays_2 rfl hl (by decide) rfl (fun ls hl => ?_)
  refine lv_iload_n E.x E.b dX12_lays_3 rfl (lv_at hl 0 rfl) ?_
  refine lv_if_lt (tgt := 36) E.x E.b dX12_lays_4 (by decide) (fun c => absurd c (by decide +kernel)) (fun _ => ?_)
  refine lv_aload_n E.x E.b dX12_lays_7 rfl (lv_at hl 1 rfl) ?_
  refine z_get E B z_inX12 (ci := 10) rfl 1 (by decide) t_1193 0 rfl rfl dX12_lays_8 ?_
  refine lv_aload_n E.x E.b dX12_lays_11 rfl (lv_at hl 1 rfl) ?_
  refine z_get E B z_inX12 (ci := 10) rfl 2 (by decide) t_1194 0 rfl rfl dX12_lays_12 ?_
  refine lv_iload_n E.x E.b dX12_lays_15 rfl (lv_at hl 2 rfl) ?_
  refine lv_iload_n E.x E.b dX12_lays_16 rfl (lv_at hl 0 rfl) ?_
  refine lv_ishr E.x E.b dX12_lays_17 ?_
  refine lv_topi (fun x_1 _ => ?_)
  refine lv_i2b (v := _) E.x E.b dX12_lays_18 rfl ?_
  refine lv_topi (fun x_2 _ => ?_)
  refine z_bast E B 1 rfl (show ¬ ((12 : Int32) < 0 ∨ 2000 ≤ (12 : Int32).toNatClampNeg) by decide +kernel) dX12_lays_19 (fun H locs g_3 B => ?_)
  have B : zB G A s.heap [zo a0 10 (.int 0 :: .ref a1 :: .int 12 :: .ref a2 :: .int 0 :: .ref a3 :: .ref a4 :: .ref a5 :: .ref a6 :: .ref a7 :: .int 0 :: .int 0 :: .int 0 :: .int 0 :: .int 0 :: .int 0 :: .int (-1) :: .int 0 :: .ref a8 :: .int 0 :: .int 0 :: .ref a9 :: .int 0 :: .int 0 :: .ref a10 :: .int 0 :: .int 0 :: .ref a11 :: .ref a12 :: .ref a13 :: .ref a14 :: .int 0 :: .int 0 :: .ref a15 :: .ref a16 :: .ref a17 :: .ref a18 :: .ref a19 :: .int 0 :: .ref a20 :: .ref a21 :: .int 0 :: .int 0 :: .ref a22 :: .ref a23 :: .ref a24 :: .ref a25 :: .ref a26 :: .int (-1) :: .ref a27 :: .ref a28 :: .ref a29 :: .ref a30 :: .ref a31 :: .ref a32 :: .ref a33 :: []), zb G a1 2000 g_3] _ _ := B
  refine lv_aload_n E.x E.b dX12_lays_20 rfl (lv_at hl 1 rfl) ?_
  refine lv_dup E.x E.b dX12_lays_21 rfl ?_
  refine z_get E B z_inX12 (ci := 10) rfl 2 (by decide) t_1194 0 rfl rfl dX12_lays_22 ?_
  refine lv_iconst (v := 1) E.x E.b dX12_lays_25 (by decide) ?_
  refine lv_iadd E.x E.b dX12_lays_26 (z_topi 13 (by decide +kernel) ?_)
  refine z_put E B z_inX12 tyX12 tyX12_ok nmX12 (ci := 10) rfl 2 (by decide) rfl (ty := .int) (by decide +kernel) t_1194 0 rfl (Nat.le_of_ble_eq_true rfl) rfl rfl dX12_lays_27 (fun H locs B => ?_)
  have B : zB G A s.heap [zo a0 10 (.int 0 :: .ref a1 :: .int 13 :: .ref a2 :: .int 0 :: .ref a3 :: .ref a4 :: .ref a5 :: .ref a6 :: .ref a7 :: .int 0 :: .int 0 :: .int 0 :: .int 0 :: .int 0 :: .int 0 :: .int (-1) :: .int 0 :: .ref a8 :: .int 0 :: .int 0 :: .ref a9 :: .int 0 :: .int 0 :: .ref a10 :: .int 0 :: .int 0 :: .ref a11 :: .ref a12 :: .ref a13 :: .ref a14 :: .int 0 :: .int 0 :: .ref a15 :: .ref a16 :: .ref a17 :: .ref a18 :: .ref a19 :: .int 0 :: .ref a20 :: .ref a21 :: .int 0 :: .int 0 :: .ref a22 :: .ref a23 :: .ref a24 :: .ref a25 :: .ref a26 :: .int (-1) :: .ref a27 :: .ref a28 :: .ref a29 :: .ref a30 :: .ref a31 :: .ref a32 :: .ref a33 :: []), zb G a1 2000 g_3] _ _ := B
  refine lv_iinc (v := 16) (lv' := [(2, .int 16), (0, .ref a0), (1, .int p0)]) E.x E.b dX12_lays_30 hl (k := 0) rfl (by decide +kernel) (by decide) rfl (fun ls hl => ?_)
  refine lv_goto (tgt := 3) E.x E.b dX12_lays_33 (by decide) ?_
  refine lv_iload_n E.x E.b dX12_lays_3 rfl (lv_at hl 0 rfl) ?_
  refine lv_if_lt (tgt := 36) E.x E.b dX12_lays_4 (by decide) (fun c => absurd c (by decide +kernel)) (fun _ => ?_)
  refine lv_aload_n E.x E.b dX12_lays_7 rfl (lv_at hl 1 rfl) ?_
  refine z_get E B z_inX12 (ci := 10) rfl 1 (by decide) t_1193 0 rfl rfl dX12_lays_8 ?_
  refine lv_aload_n E.x E.b dX12_lays_11 rfl (lv_at hl 1 rfl) ?_
  refine z_get E B z_inX12 (ci := 10) rfl 2 (by decide) t_1194 0 rfl rfl dX12_lays_12 ?_
  refine lv_iload_n E.x E.b dX12_lays_15 rfl (lv_at hl 2 rfl) ?_
  refine lv_iload_n E.x E.b dX12_lays_16 rfl (lv_at hl 0 rfl) ?_
  refine lv_ishr E.x E.b dX12_lays_17 ?_
  refine lv_topi (fun x_4 _ => ?_)
  refine lv_i2b (v := _) E.x E.b dX12_lays_18 rfl ?_
  refine lv_topi (fun x_5 _ => ?_)
  refine z_bast E B 1 rfl (show ¬ ((13 : Int32) < 0 ∨ 2000 ≤ (13 : Int32).toNatClampNeg) by decide +kernel) dX12_lays_19 (fun H locs g_6 B => ?_)
  have B : zB G A s.heap [zo a0 10 (.int 0 :: .ref a1 :: .int 13 :: .ref a2 :: .int 0 :: .ref a3 :: .ref a4 :: .ref a5 :: .ref a6 :: .ref a7 :: .int 0 :: .int 0 :: .int 0 :: .int 0 :: .int 0 :: .int 0 :: .int (-1) :: .int 0 :: .ref a8 :: .int 0 :: .int 0 :: .ref a9 :: .int 0 :: .int 0 :: .ref a10 :: .int 0 :: .int 0 :: .ref a11 :: .ref a12 :: .ref a13 :: .ref a14 :: .int 0 :: .int 0 :: .ref a15 :: .ref a16 :: .ref a17 :: .ref a18 :: .ref a19 :: .int 0 :: .ref a20 :: .ref a21 :: .int 0 :: .int 0 :: .ref a22 :: .ref a23 :: .ref a24 :: .ref a25 :: .ref a26 :: .int (-1) :: .ref a27 :: .ref a28 :: .ref a29 :: .ref a30 :: .ref a31 :: .ref a32 :: .ref a33 :: []), zb G a1 2000 g_6] _ _ := B
  refine lv_aload_n E.x E.b dX12_lays_20 rfl (lv_at hl 1 rfl) ?_
  refine lv_dup E.x E.b dX12_lays_21 rfl ?_
  refine z_get E B z_inX12 (ci := 10) rfl 2 (by decide) t_1194 0 rfl rfl dX12_lays_22 ?_
  refine lv_iconst (v := 1) E.x E.b dX12_lays_25 (by decide) ?_
  refine lv_iadd E.x E.b dX12_lays_26 (z_topi 14 (by decide +kernel) ?_)
  refine z_put E B z_inX12 tyX12 tyX12_ok nmX12 (ci := 10) rfl 2 (by decide) rfl (ty := .int) (by decide +kernel) t_1194 0 rfl (Nat.le_of_ble_eq_true rfl) rfl rfl dX12_lays_27 (fun H locs B => ?_)
  have B : zB G A s.heap [zo a0 10 (.int 0 :: .ref a1 :: .int 14 :: .ref a2 :: .int 0 :: .ref a3 :: .ref a4 :: .ref a5 :: .ref a6 :: .ref a7 :: .int 0 :: .int 0 :: .int 0 :: .int 0 :: .int 0 :: .int 0 :: .int (-1) :: .int 0 :: .ref a8 :: .int 0 :: .int 0 :: .ref a9 :: .int 0 :: .int 0 :: .ref a10 :: .int 0 :: .int 0 :: .ref a11 :: .ref a12 :: .ref a13 :: .ref a14 :: .int 0 :: .int 0 :: .ref a15 :: .ref a16 :: .ref a17 :: .ref a18 :: .ref a19 :: .int 0 :: .ref a20 :: .ref a21 :: .int 0 :: .int 0 :: .ref a22 :: .ref a23 :: .ref a24 :: .ref a25 :: .ref a26 :: .int (-1) :: .ref a27 :: .ref a28 :: .ref a29 :: .ref a30 :: .ref a31 :: .ref a32 :: .ref a33 :: []), zb G a1 2000 g_6] _ _ := B
  refine lv_iinc (v := 8) (lv' := [(2, .int 8), (0, .ref a0), (1, .int p0)]) E.x E.b dX12_lays_30 hl (k := 0) rfl (by decide +kernel) (by decide) rfl (fun ls hl => ?_)
  refine lv_goto (tgt := 3) E.x E.b dX12_lays_33 (by decide) ?_
  refine lv_iload_n E.x E.b dX12_lays_3 rfl (lv_at hl 0 rfl) ?_
  refine lv_if_lt (tgt := 36) E.x E.b dX12_lays_4 (by decide) (fun c => absurd c (by decide +kernel)) (fun _ => ?_)
  refine lv_aload_n E.x E.b dX12_lays_7 rfl (lv_at hl 1 rfl) ?_
  refine z_get E B z_inX12 (ci := 10) rfl 1 (by decide) t_1193 0 rfl rfl dX12_lays_8 ?_
  refine lv_aload_n E.x E.b dX12_lays_11 rfl (lv_at hl 1 rfl) ?_
  refine z_get E B z_inX12 (ci := 10) rfl 2 (by decide) t_1194 0 rfl rfl dX12_lays_12 ?_
  refine lv_iload_n E.x E.b dX12_lays_15 rfl (lv_at hl 2 rfl) ?_
  refine lv_iload_n E.x E.b dX12_lays_16 rfl (lv_at hl 0 rfl) ?_
  refine lv_ishr E.x E.b dX12_lays_17 ?_
  refine lv_topi (fun x_7 _ => ?_)
  refine lv_i2b (v := _) E.x E.b dX12_lays_18 rfl ?_
  refine lv_topi (fun x_8 _ => ?_)
  refine z_bast E B 1 rfl (show ¬ ((14 : Int32) < 0 ∨ 2000 ≤ (14 : Int32).toNatClampNeg) by decide +kernel) dX12_lays_19 (fun H locs g_9 B => ?_)
  have B : zB G A s.heap [zo a0 10 (.int 0 :: .ref a1 :: .int 14 :: .ref a2 :: .int 0 :: .ref a3 :: .ref a4 :: .ref a5 :: .ref a6 :: .ref a7 :: .int 0 :: .int 0 :: .int 0 :: .int 0 :: .int 0 :: .int 0 :: .int (-1) :: .int 0 :: .ref a8 :: .int 0 :: .int 0 :: .ref a9 :: .int 0 :: .int 0 :: .ref a10 :: .int 0 :: .int 0 :: .ref a11 :: .ref a12 :: .ref a13 :: .ref a14 :: .int 0 :: .int 0 :: .ref a15 :: .ref a16 :: .ref a17 :: .ref a18 :: .ref a19 :: .int 0 :: .ref a20 :: .ref a21 :: .int 0 :: .int 0 :: .ref a22 :: .ref a23 :: .ref a24 :: .ref a25 :: .ref a26 :: .int (-1) :: .ref a27 :: .ref a28 :: .ref a29 :: .ref a30 :: .ref a31 :: .ref a32 :: .ref a33 :: []), zb G a1 2000 g_9] _ _ := B
  refine lv_aload_n E.x E.b dX12_lays_20 rfl (lv_at hl 1 rfl) ?_
  refine lv_dup E.x E.b dX12_lays_21 rfl ?_
  refine z_get E B z_inX12 (ci := 10) rfl 2 (by decide) t_1194 0 rfl rfl dX12_lays_22 ?_
  refine lv_iconst (v := 1) E.x E.b dX12_lays_25 (by decide) ?_
  refine lv_iadd E.x E.b dX12_lays_26 (z_topi 15 (by decide +kernel) ?_)
  refine z_put E B z_inX12 tyX12 tyX12_ok nmX12 (ci := 10) rfl 2 (by decide) rfl (ty := .int) (by decide +kernel) t_1194 0 rfl (Nat.le_of_ble_eq_true rfl) rfl rfl dX12_lays_27 (fun H locs B => ?_)
  have B : zB G A s.heap [zo a0 10 (.int 0 :: .ref a1 :: .int 15 :: .ref a2 :: .int 0 :: .ref a3 :: .ref a4 :: .ref a5 :: .ref a6 :: .ref a7 :: .int 0 :: .int 0 :: .int 0 :: .int 0 :: .int 0 :: .int 0 :: .int (-1) :: .int 0 :: .ref a8 :: .int 0 :: .int 0 :: .ref a9 :: .int 0 :: .int 0 :: .ref a10 :: .int 0 :: .int 0 :: .ref a11 :: .ref a12 :: .ref a13 :: .ref a14 :: .int 0 :: .int 0 :: .ref a15 :: .ref a16 :: .ref a17 :: .ref a18 :: .ref a19 :: .int 0 :: .ref a20 :: .ref a21 :: .int 0 :: .int 0 :: .ref a22 :: .ref a23 :: .ref a24 :: .ref a25 :: .ref a26 :: .int (-1) :: .ref a27 :: .ref a28 :: .ref a29 :: .ref a30 :: .ref a31 :: .ref a32 :: .ref a33 :: []), zb G a1 2000 g_9] _ _ := B
  refine lv_iinc (v := 0) (lv' := [(2, .int 0), (0, .ref a0), (1, .int p0)]) E.x E.b dX12_lays_30 hl (k := 0) rfl (by decide +kernel) (by decide) rfl (fun ls hl => ?_)
  refine lv_goto (tgt := 3) E.x E.b dX12_lays_33 (by decide) ?_
  refine lv_iload_n E.x E.b dX12_lays_3 rfl (lv_at hl 0 rfl) ?_
  refine lv_if_lt (tgt := 36) E.x E.b dX12_lays_4 (by decide) (fun c => absurd c (by decide +kernel)) (fun _ => ?_)
  refine lv_aload_n E.x E.b dX12_lays_7 rfl (lv_at hl 1 rfl) ?_
  refine z_get E B z_inX12 (ci := 10) rfl 1 (by decide) t_1193 0 rfl rfl dX12_lays_8 ?_
  refine lv_aload_n E.x E.b dX12_lays_11 rfl (lv_at hl 1 rfl) ?_
  refine z_get E B z_inX12 (ci := 10) rfl 2 (by decide) t_1194 0 rfl rfl dX12_lays_12 ?_
  refine lv_iload_n E.x E.b dX12_lays_15 rfl (lv_at hl 2 rfl) ?_
  refine lv_iload_n E.x E.b dX12_lays_16 rfl (lv_at hl 0 rfl) ?_
  refine lv_ishr E.x E.b dX12_lays_17 ?_
  refine lv_topi (fun x_10 _ => ?_)
  refine lv_i2b (v := _) E.x E.b dX12_lays_18 rfl ?_
  refine lv_topi (fun x_11 _ => ?_)
  refine z_bast E B 1 rfl (show ¬ ((15 : Int32) < 0 ∨ 2000 ≤ (15 : Int32).toNatClampNeg) by decide +kernel) dX12_lays_19 (fun H locs g_12 B => ?_)
  have B : zB G A s.heap [zo a0 10 (.int 0 :: .ref a1 :: .int 15 :: .ref a2 :: .int 0 :: .ref a3 :: .ref a4 :: .ref a5 :: .ref a6 :: .ref a7 :: .int 0 :: .int 0 :: .int 0 :: .int 0 :: .int 0 :: .int 0 :: .int (-1) :: .int 0 :: .ref a8 :: .int 0 :: .int 0 :: .ref a9 :: .int 0 :: .int 0 :: .ref a10 :: .int 0 :: .int 0 :: .ref a11 :: .ref a12 :: .ref a13 :: .ref a14 :: .int 0 :: .int 0 :: .ref a15 :: .ref a16 :: .ref a17 :: .ref a18 :: .ref a19 :: .int 0 :: .ref a20 :: .ref a21 :: .int 0 :: .int 0 :: .ref a22 :: .ref a23 :: .ref a24 :: .ref a25 :: .ref a26 :: .int (-1) :: .ref a27 :: .ref a28 :: .ref a29 :: .ref a30 :: .ref a31 :: .ref a32 :: .ref a33 :: []), zb G a1 2000 g_12] _ _ := B
  refine lv_aload_n E.x E.b dX12_lays_20 rfl (lv_at hl 1 rfl) ?_
  refine lv_dup E.x E.b dX12_lays_21 rfl ?_
  refine z_get E B z_inX12 (ci := 10) rfl 2 (by decide) t_1194 0 rfl rfl dX12_lays_22 ?_
  refine lv_iconst (v := 1) E.x E.b dX12_lays_25 (by decide) ?_
  refine lv_iadd E.x E.b dX12_lays_26 (z_topi 16 (by decide +kernel) ?_)
  refine z_put E B z_inX12 tyX12 tyX12_ok nmX12 (ci := 10) rfl 2 (by decide) rfl (ty := .int) (by decide +kernel) t_1194 0 rfl (Nat.le_of_ble_eq_true rfl) rfl rfl dX12_lays_27 (fun H locs B => ?_)
  have B : zB G A s.heap [zo a0 10 (.int 0 :: .ref a1 :: .int 16 :: .ref a2 :: .int 0 :: .ref a3 :: .ref a4 :: .ref a5 :: .ref a6 :: .ref a7 :: .int 0 :: .int 0 :: .int 0 :: .int 0 :: .int 0 :: .int 0 :: .int (-1) :: .int 0 :: .ref a8 :: .int 0 :: .int 0 :: .ref a9 :: .int 0 :: .int 0 :: .ref a10 :: .int 0 :: .int 0 :: .ref a11 :: .ref a12 :: .ref a13 :: .ref a14 :: .int 0 :: .int 0 :: .ref a15 :: .ref a16 :: .ref a17 :: .ref a18 :: .ref a19 :: .int 0 :: .ref a20 :: .ref a21 :: .int 0 :: .int 0 :: .ref a22 :: .ref a23 :: .ref a24 :: .ref a25 :: .ref a26 :: .int (-1) :: .ref a27 :: .ref a28 :: .ref a29 :: .ref a30 :: .ref a31 :: .ref a32 :: .ref a33 :: []), zb G a1 2000 g_12] _ _ := B
  refine lv_iinc (v := (-8)) (lv' := [(2, .int (-8)), (0, .ref a0), (1, .int p0)]) E.x E.b dX12_lays_30 hl (k := 0) rfl (by decide +kernel) (by decide) rfl (fun ls hl => ?_)
  refine lv_goto (tgt := 3) E.x E.b dX12_lays_33 (by decide) ?_
  refine lv_iload_n E.x E.b dX12_lays_3 rfl (lv_at hl 0 rfl) ?_
  refine lv_if_lt (tgt := 36) E.x E.b dX12_lays_4 (by decide) (fun _ => ?_) (fun c => absurd (by decide +kernel) c)
  refine W.widen (k := 0) (n := 0) (Nat.le_of_ble_eq_true rfl) (Nat.le_of_ble_eq_true rfl) ?_
  exact z_vret E hr hlocks B trivial (fun t ht => ⟨_, z_q B [0, 1] (by decide) rfl ht⟩) dX12_lays_36
set_option maxHeartbeats 4000000 in
set_option maxRecDepth 100000 in
theorem c_X12_lays_150 (l : Launch) (G : zGT) (sz : Nat) (a0 a1 a2 a3 a4 a5 a6 a7 a8 a9 a10 a11 a12 a13 a14 a15 a16 a17 a18 a19 a20 a21 a22 a23 a24 a25 a26 a27 a28 a29 a30 a31 a32 a33 : Nat) (p0 : Int32) (f0 : Nat → Int32) : Met l yX12_lays (.code yX12_lays cX12_lays 3 none :: zT) ({ frames := 0, cells := 0, slots := 0, locals := 64 }) (va_Pc [.ref a0, .int p0] (zPc G [zo a0 10 (.int 0 :: .ref a1 :: .int 16 :: .ref a2 :: .int 0 :: .ref a3 :: .ref a4 :: .ref a5 :: .ref a6 :: .ref a7 :: .int 0 :: .int 0 :: .int 0 :: .int 0 :: .int 0 :: .int 0 :: .int (-1) :: .int 0 :: .ref a8 :: .int 0 :: .int 0 :: .ref a9 :: .int 0 :: .int 0 :: .ref a10 :: .int 0 :: .int 0 :: .ref a11 :: .ref a12 :: .ref a13 :: .ref a14 :: .int 0 :: .int 0 :: .ref a15 :: .ref a16 :: .ref a17 :: .ref a18 :: .ref a19 :: .int 0 :: .ref a20 :: .ref a21 :: .int 0 :: .int 0 :: .ref a22 :: .ref a23 :: .ref a24 :: .ref a25 :: .ref a26 :: .int (-1) :: .ref a27 :: .ref a28 :: .ref a29 :: .ref a30 :: .ref a31 :: .ref a32 :: .ref a33 :: []), zb G a1 2000 f0] sz)) ((fun A => va_Qv (fun (_ : Unit) => True) (fun (_ : Unit) t => ∃ (F1 : Nat → Int32), zQ G [zo a0 10 (.int 0 :: .ref a1 :: .int 20 :: .ref a2 :: .int 0 :: .ref a3 :: .ref a4 :: .ref a5 :: .ref a6 :: .ref a7 :: .int 0 :: .int 0 :: .int 0 :: .int 0 :: .int 0 :: .int 0 :: .int (-1) :: .int 0 :: .ref a8 :: .int 0 :: .int 0 :: .ref a9 :: .int 0 :: .int 0 :: .ref a10 :: .int 0 :: .int 0 :: .ref a11 :: .ref a12 :: .ref a13 :: .ref a14 :: .int 0 :: .int 0 :: .ref a15 :: .ref a16 :: .ref a17 :: .ref a18 :: .ref a19 :: .int 0 :: .ref a20 :: .ref a21 :: .int 0 :: .int 0 :: .ref a22 :: .ref a23 :: .ref a24 :: .ref a25 :: .ref a26 :: .int (-1) :: .ref a27 :: .ref a28 :: .ref a29 :: .ref a30 :: .ref a31 :: .ref a32 :: .ref a33 :: []), zb G a1 2000 F1] A t) A) (va_A [zo a0 10 (.int 0 :: .ref a1 :: .int 16 :: .ref a2 :: .int 0 :: .ref a3 :: .ref a4 :: .ref a5 :: .ref a6 :: .ref a7 :: .int 0 :: .int 0 :: .int 0 :: .int 0 :: .int 0 :: .int 0 :: .int (-1) :: .int 0 :: .ref a8 :: .int 0 :: .int 0 :: .ref a9 :: .int 0 :: .int 0 :: .ref a10 :: .int 0 :: .int 0 :: .ref a11 :: .ref a12 :: .ref a13 :: .ref a14 :: .int 0 :: .int 0 :: .ref a15 :: .ref a16 :: .ref a17 :: .ref a18 :: .ref a19 :: .int 0 :: .ref a20 :: .ref a21 :: .int 0 :: .int 0 :: .ref a22 :: .ref a23 :: .ref a24 :: .ref a25 :: .ref a26 :: .int (-1) :: .ref a27 :: .ref a28 :: .ref a29 :: .ref a30 :: .ref a31 :: .ref a32 :: .ref a33 :: []), zb G a1 2000 f0] sz)) 0 0 (va_A [zo a0 10 (.int 0 :: .ref a1 :: .int 16 :: .ref a2 :: .int 0 :: .ref a3 :: .ref a4 :: .ref a5 :: .ref a6 :: .ref a7 :: .int 0 :: .int 0 :: .int 0 :: .int 0 :: .int 0 :: .int 0 :: .int (-1) :: .int 0 :: .ref a8 :: .int 0 :: .int 0 :: .ref a9 :: .int 0 :: .int 0 :: .ref a10 :: .int 0 :: .int 0 :: .ref a11 :: .ref a12 :: .ref a13 :: .ref a14 :: .int 0 :: .int 0 :: .ref a15 :: .ref a16 :: .ref a17 :: .ref a18 :: .ref a19 :: .int 0 :: .ref a20 :: .ref a21 :: .int 0 :: .int 0 :: .ref a22 :: .ref a23 :: .ref a24 :: .ref a25 :: .ref a26 :: .int (-1) :: .ref a27 :: .ref a28 :: .ref a29 :: .ref a30 :: .ref a31 :: .ref a32 :: .ref a33 :: []), zb G a1 2000 f0] sz) := by
  refine z_start (y := yX12_lays) (bytes := cX12_lays) (maxL := 3) (ret := none) (av := [.ref a0, .int p0]) (QA := (fun A => va_Qv (fun (_ : Unit) => True) (fun (_ : Unit) t => ∃ (F1 : Nat → Int32), zQ G [zo a0 10 (.int 0 :: .ref a1 :: .int 20 :: .ref a2 :: .int 0 :: .ref a3 :: .ref a4 :: .ref a5 :: .ref a6 :: .ref a7 :: .int 0 :: .int 0 :: .int 0 :: .int 0 :: .int 0 :: .int 0 :: .int (-1) :: .int 0 :: .ref a8 :: .int 0 :: .int 0 :: .ref a9 :: .int 0 :: .int 0 :: .ref a10 :: .int 0 :: .int 0 :: .ref a11 :: .ref a12 :: .ref a13 :: .ref a14 :: .int 0 :: .int 0 :: .ref a15 :: .ref a16 :: .ref a17 :: .ref a18 :: .ref a19 :: .int 0 :: .ref a20 :: .ref a21 :: .int 0 :: .int 0 :: .ref a22 :: .ref a23 :: .ref a24 :: .ref a25 :: .ref a26 :: .int (-1) :: .ref a27 :: .ref a28 :: .ref a29 :: .ref a30 :: .ref a31 :: .ref a32 :: .ref a33 :: []), zb G a1 2000 F1] A t) A)) (by decide) ⟨Nat.le_of_ble_eq_true rfl, trivial⟩ ?_
  intro p e s m below meth c A ls E B hr hlocks hin hl
  have hl : lv_has ls 3 [(0, .ref a0), (1, .int p0)] := hl
  have B : zB G A s.heap [zo a0 10 (.int 0 :: .ref a1 :: .int 16 :: .ref a2 :: .int 0 :: .ref a3 :: .ref a4 :: .ref a5 :: .ref a6 :: .ref a7 :: .int 0 :: .int 0 :: .int 0 :: .int 0 :: .int 0 :: .int 0 :: .int (-1) :: .int 0 :: .ref a8 :: .int 0 :: .int 0 :: .ref a9 :: .int 0 :: .int 0 :: .ref a10 :: .int 0 :: .int 0 :: .ref a11 :: .ref a12 :: .ref a13 :: .ref a14 :: .int 0 :: .int 0 :: .ref a15 :: .ref a16 :: .ref a17 :: .ref a18 :: .ref a19 :: .int 0 :: .ref a20 :: .ref a21 :: .int 0 :: .int 0 :: .ref a22 :: .ref a23 :: .ref a24 :: .ref a25 :: .ref a26 :: .int (-1) :: .ref a27 :: .ref a28 :: .ref a29 :: .ref a30 :: .ref a31 :: .ref a32 :: .ref a33 :: []), zb G a1 2000 f0] s.heap [] := B
  refine lv_bipush (v := 24) E.x E.b dX12_lays_0 (by decide) ?_
  refine lv_istore_n (lv' := [(2, .int 24), (0, .ref a0), (1, .int p0)]) E.x E.b dX12_lays_2 rfl hl (by decide) rfl (fun ls hl => ?_)
  refine lv_iload_n E.x E.b dX12_lays_3 rfl (lv_at hl 0 rfl) ?_
  refine lv_if_lt (tgt := 36) E.x E.b dX12_lays_4 (by decide) (fun c => absurd c (by decide +kernel)) (fun _ => ?_)
  refine lv_aload_n E.x E.b dX12_lays_7 rfl (lv_at hl 1 rfl) ?_
  refine z_get E B z_inX12 (ci := 10) rfl 1 (by decide) t_1193 0 rfl rfl dX12_lays_8 ?_
  refine lv_aload_n E.x E.b dX12_lays_11 rfl (lv_at hl 1 rfl) ?_
  refine z_get E B z_inX12 (ci := 10) rfl 2 (by decide) t_1194 0 rfl rfl dX12_lays_12 ?_
  refine lv_iload_n E.x E.b dX12_lays_15 rfl (lv_at hl 2 rfl) ?_
  refine lv_iload_n E.x E.b dX12_lays_16 rfl (lv_at hl 0 rfl) ?_
  refine lv_ishr E.x E.b dX12_lays_17 ?_
  refine lv_topi (fun x_1 _ => ?_)
  refine lv_i2b (v := _) E.x E.b dX12_lays_18 rfl ?_
  refine lv_topi (fun x_2 _ => ?_)
  refine z_bast E B 1 rfl (show ¬ ((16 : Int32) < 0 ∨ 2000 ≤ (16 : Int32).toNatClampNeg) by decide +kernel) dX12_lays_19 (fun H locs g_3 B => ?_)
  have B : zB G A s.heap [zo a0 10 (.int 0 :: .ref a1 :: .int 16 :: .ref a2 :: .int 0 :: .ref a3 :: .ref a4 :: .ref a5 :: .ref a6 :: .ref a7 :: .int 0 :: .int 0 :: .int 0 :: .int 0 :: .int 0 :: .int 0 :: .int (-1) :: .int 0 :: .ref a8 :: .int 0 :: .int 0 :: .ref a9 :: .int 0 :: .int 0 :: .ref a10 :: .int 0 :: .int 0 :: .ref a11 :: .ref a12 :: .ref a13 :: .ref a14 :: .int 0 :: .int 0 :: .ref a15 :: .ref a16 :: .ref a17 :: .ref a18 :: .ref a19 :: .int 0 :: .ref a20 :: .ref a21 :: .int 0 :: .int 0 :: .ref a22 :: .ref a23 :: .ref a24 :: .ref a25 :: .ref a26 :: .int (-1) :: .ref a27 :: .ref a28 :: .ref a29 :: .ref a30 :: .ref a31 :: .ref a32 :: .ref a33 :: []), zb G a1 2000 g_3] _ _ := B
  refine lv_aload_n E.x E.b dX12_lays_20 rfl (lv_at hl 1 rfl) ?_
  refine lv_dup E.x E.b dX12_lays_21 rfl ?_
  refine z_get E B z_inX12 (ci := 10) rfl 2 (by decide) t_1194 0 rfl rfl dX12_lays_22 ?_
  refine lv_iconst (v := 1) E.x E.b dX12_lays_25 (by decide) ?_
  refine lv_iadd E.x E.b dX12_lays_26 (z_topi 17 (by decide +kernel) ?_)
  refine z_put E B z_inX12 tyX12 tyX12_ok nmX12 (ci := 10) rfl 2 (by decide) rfl (ty := .int) (by decide +kernel) t_1194 0 rfl (Nat.le_of_ble_eq_true rfl) rfl rfl dX12_lays_27 (fun H locs B => ?_)
  have B : zB G A s.heap [zo a0 10 (.int 0 :: .ref a1 :: .int 17 :: .ref a2 :: .int 0 :: .ref a3 :: .ref a4 :: .ref a5 :: .ref a6 :: .ref a7 :: .int 0 :: .int 0 :: .int 0 :: .int 0 :: .int 0 :: .int 0 :: .int (-1) :: .int 0 :: .ref a8 :: .int 0 :: .int 0 :: .ref a9 :: .int 0 :: .int 0 :: .ref a10 :: .int 0 :: .int 0 :: .ref a11 :: .ref a12 :: .ref a13 :: .ref a14 :: .int 0 :: .int 0 :: .ref a15 :: .ref a16 :: .ref a17 :: .ref a18 :: .ref a19 :: .int 0 :: .ref a20 :: .ref a21 :: .int 0 :: .int 0 :: .ref a22 :: .ref a23 :: .ref a24 :: .ref a25 :: .ref a26 :: .int (-1) :: .ref a27 :: .ref a28 :: .ref a29 :: .ref a30 :: .ref a31 :: .ref a32 :: .ref a33 :: []), zb G a1 2000 g_3] _ _ := B
  refine lv_iinc (v := 16) (lv' := [(2, .int 16), (0, .ref a0), (1, .int p0)]) E.x E.b dX12_lays_30 hl (k := 0) rfl (by decide +kernel) (by decide) rfl (fun ls hl => ?_)
  refine lv_goto (tgt := 3) E.x E.b dX12_lays_33 (by decide) ?_
  refine lv_iload_n E.x E.b dX12_lays_3 rfl (lv_at hl 0 rfl) ?_
  refine lv_if_lt (tgt := 36) E.x E.b dX12_lays_4 (by decide) (fun c => absurd c (by decide +kernel)) (fun _ => ?_)
  refine lv_aload_n E.x E.b dX12_lays_7 rfl (lv_at hl 1 rfl) ?_
  refine z_get E B z_inX12 (ci := 10) rfl 1 (by decide) t_1193 0 rfl rfl dX12_lays_8 ?_
  refine lv_aload_n E.x E.b dX12_lays_11 rfl (lv_at hl 1 rfl) ?_
  refine z_get E B z_inX12 (ci := 10) rfl 2 (by decide) t_1194 0 rfl rfl dX12_lays_12 ?_
  refine lv_iload_n E.x E.b dX12_lays_15 rfl (lv_at hl 2 rfl) ?_
  refine lv_iload_n E.x E.b dX12_lays_16 rfl (lv_at hl 0 rfl) ?_
  refine lv_ishr E.x E.b dX12_lays_17 ?_
  refine lv_topi (fun x_4 _ => ?_)
  refine lv_i2b (v := _) E.x E.b dX12_lays_18 rfl ?_
  refine lv_topi (fun x_5 _ => ?_)
  refine z_bast E B 1 rfl (show ¬ ((17 : Int32) < 0 ∨ 2000 ≤ (17 : Int32).toNatClampNeg) by decide +kernel) dX12_lays_19 (fun H locs g_6 B => ?_)
  have B : zB G A s.heap [zo a0 10 (.int 0 :: .ref a1 :: .int 17 :: .ref a2 :: .int 0 :: .ref a3 :: .ref a4 :: .ref a5 :: .ref a6 :: .ref a7 :: .int 0 :: .int 0 :: .int 0 :: .int 0 :: .int 0 :: .int 0 :: .int (-1) :: .int 0 :: .ref a8 :: .int 0 :: .int 0 :: .ref a9 :: .int 0 :: .int 0 :: .ref a10 :: .int 0 :: .int 0 :: .ref a11 :: .ref a12 :: .ref a13 :: .ref a14 :: .int 0 :: .int 0 :: .ref a15 :: .ref a16 :: .ref a17 :: .ref a18 :: .ref a19 :: .int 0 :: .ref a20 :: .ref a21 :: .int 0 :: .int 0 :: .ref a22 :: .ref a23 :: .ref a24 :: .ref a25 :: .ref a26 :: .int (-1) :: .ref a27 :: .ref a28 :: .ref a29 :: .ref a30 :: .ref a31 :: .ref a32 :: .ref a33 :: []), zb G a1 2000 g_6] _ _ := B
  refine lv_aload_n E.x E.b dX12_lays_20 rfl (lv_at hl 1 rfl) ?_
  refine lv_dup E.x E.b dX12_lays_21 rfl ?_
  refine z_get E B z_inX12 (ci := 10) rfl 2 (by decide) t_1194 0 rfl rfl dX12_lays_22 ?_
  refine lv_iconst (v := 1) E.x E.b dX12_lays_25 (by decide) ?_
  refine lv_iadd E.x E.b dX12_lays_26 (z_topi 18 (by decide +kernel) ?_)
  refine z_put E B z_inX12 tyX12 tyX12_ok nmX12 (ci := 10) rfl 2 (by decide) rfl (ty := .int) (by decide +kernel) t_1194 0 rfl (Nat.le_of_ble_eq_true rfl) rfl rfl dX12_lays_27 (fun H locs B => ?_)
  have B : zB G A s.heap [zo a0 10 (.int 0 :: .ref a1 :: .int 18 :: .ref a2 :: .int 0 :: .ref a3 :: .ref a4 :: .ref a5 :: .ref a6 :: .ref a7 :: .int 0 :: .int 0 :: .int 0 :: .int 0 :: .int 0 :: .int 0 :: .int (-1) :: .int 0 :: .ref a8 :: .int 0 :: .int 0 :: .ref a9 :: .int 0 :: .int 0 :: .ref a10 :: .int 0 :: .int 0 :: .ref a11 :: .ref a12 :: .ref a13 :: .ref a14 :: .int 0 :: .int 0 :: .ref a15 :: .ref a16 :: .ref a17 :: .ref a18 :: .ref a19 :: .int 0 :: .ref a20 :: .ref a21 :: .int 0 :: .int 0 :: .ref a22 :: .ref a23 :: .ref a24 :: .ref a25 :: .ref a26 :: .int (-1) :: .ref a27 :: .ref a28 :: .ref a29 :: .ref a30 :: .ref a31 :: .ref a32 :: .ref a33 :: []), zb G a1 2000 g_6] _ _ := B
  refine lv_iinc (v := 8) (lv' := [(2, .int 8), (0, .ref a0), (1, .int p0)]) E.x E.b dX12_lays_30 hl (k := 0) rfl (by decide +kernel) (by decide) rfl (fun ls hl => ?_)
  refine lv_goto (tgt := 3) E.x E.b dX12_lays_33 (by decide) ?_
  refine lv_iload_n E.x E.b dX12_lays_3 rfl (lv_at hl 0 rfl) ?_
  refine lv_if_lt (tgt := 36) E.x E.b dX12_lays_4 (by decide) (fun c => absurd c (by decide +kernel)) (fun _ => ?_)
  refine lv_aload_n E.x E.b dX12_lays_7 rfl (lv_at hl 1 rfl) ?_
  refine z_get E B z_inX12 (ci := 10) rfl 1 (by decide) t_1193 0 rfl rfl dX12_lays_8 ?_
  refine lv_aload_n E.x E.b dX12_lays_11 rfl (lv_at hl 1 rfl) ?_
  refine z_get E B z_inX12 (ci := 10) rfl 2 (by decide) t_1194 0 rfl rfl dX12_lays_12 ?_
  refine lv_iload_n E.x E.b dX12_lays_15 rfl (lv_at hl 2 rfl) ?_
  refine lv_iload_n E.x E.b dX12_lays_16 rfl (lv_at hl 0 rfl) ?_
  refine lv_ishr E.x E.b dX12_lays_17 ?_
  refine lv_topi (fun x_7 _ => ?_)
  refine lv_i2b (v := _) E.x E.b dX12_lays_18 rfl ?_
  refine lv_topi (fun x_8 _ => ?_)
  refine z_bast E B 1 rfl (show ¬ ((18 : Int32) < 0 ∨ 2000 ≤ (18 : Int32).toNatClampNeg) by decide +kernel) dX12_lays_19 (fun H locs g_9 B => ?_)
  have B : zB G A s.heap [zo a0 10 (.int 0 :: .ref a1 :: .int 18 :: .ref a2 :: .int 0 :: .ref a3 :: .ref a4 :: .ref a5 :: .ref a6 :: .ref a7 :: .int 0 :: .int 0 :: .int 0 :: .int 0 :: .int 0 :: .int 0 :: .int (-1) :: .int 0 :: .ref a8 :: .int 0 :: .int 0 :: .ref a9 :: .int 0 :: .int 0 :: .ref a10 :: .int 0 :: .int 0 :: .ref a11 :: .ref a12 :: .ref a13 :: .ref a14 :: .int 0 :: .int 0 :: .ref a15 :: .ref a16 :: .ref a17 :: .ref a18 :: .ref a19 :: .int 0 :: .ref a20 :: .ref a21 :: .int 0 :: .int 0 :: .ref a22 :: .ref a23 :: .ref a24 :: .ref a25 :: .ref a26 :: .int (-1) :: .ref a27 :: .ref a28 :: .ref a29 :: .ref a30 :: .ref a31 :: .ref a32 :: .ref a33 :: []), zb G a1 2000 g_9] _ _ := B
  refine lv_aload_n E.x E.b dX12_lays_20 rfl (lv_at hl 1 rfl) ?_
  refine lv_dup E.x E.b dX12_lays_21 rfl ?_
  refine z_get E B z_inX12 (ci := 10) rfl 2 (by decide) t_1194 0 rfl rfl dX12_lays_22 ?_
  refine lv_iconst (v := 1) E.x E.b dX12_lays_25 (by decide) ?_
  refine lv_iadd E.x E.b dX12_lays_26 (z_topi 19 (by decide +kernel) ?_)
  refine z_put E B z_inX12 tyX12 tyX12_ok nmX12 (ci := 10) rfl 2 (by decide) rfl (ty := .int) (by decide +kernel) t_1194 0 rfl (Nat.le_of_ble_eq_true rfl) rfl rfl dX12_lays_27 (fun H locs B => ?_)
  have B : zB G A s.heap [zo a0 10 (.int 0 :: .ref a1 :: .int 19 :: .ref a2 :: .int 0 :: .ref a3 :: .ref a4 :: .ref a5 :: .ref a6 :: .ref a7 :: .int 0 :: .int 0 :: .int 0 :: .int 0 :: .int 0 :: .int 0 :: .int (-1) :: .int 0 :: .ref a8 :: .int 0 :: .int 0 :: .ref a9 :: .int 0 :: .int 0 :: .ref a10 :: .int 0 :: .int 0 :: .ref a11 :: .ref a12 :: .ref a13 :: .ref a14 :: .int 0 :: .int 0 :: .ref a15 :: .ref a16 :: .ref a17 :: .ref a18 :: .ref a19 :: .int 0 :: .ref a20 :: .ref a21 :: .int 0 :: .int 0 :: .ref a22 :: .ref a23 :: .ref a24 :: .ref a25 :: .ref a26 :: .int (-1) :: .ref a27 :: .ref a28 :: .ref a29 :: .ref a30 :: .ref a31 :: .ref a32 :: .ref a33 :: []), zb G a1 2000 g_9] _ _ := B
  refine lv_iinc (v := 0) (lv' := [(2, .int 0), (0, .ref a0), (1, .int p0)]) E.x E.b dX12_lays_30 hl (k := 0) rfl (by decide +kernel) (by decide) rfl (fun ls hl => ?_)
  refine lv_goto (tgt := 3) E.x E.b dX12_lays_33 (by decide) ?_
  refine lv_iload_n E.x E.b dX12_lays_3 rfl (lv_at hl 0 rfl) ?_
  refine lv_if_lt (tgt := 36) E.x E.b dX12_lays_4 (by decide) (fun c => absurd c (by decide +kernel)) (fun _ => ?_)
  refine lv_aload_n E.x E.b dX12_lays_7 rfl (lv_at hl 1 rfl) ?_
  refine z_get E B z_inX12 (ci := 10) rfl 1 (by decide) t_1193 0 rfl rfl dX12_lays_8 ?_
  refine lv_aload_n E.x E.b dX12_lays_11 rfl (lv_at hl 1 rfl) ?_
  refine z_get E B z_inX12 (ci := 10) rfl 2 (by decide) t_1194 0 rfl rfl dX12_lays_12 ?_
  refine lv_iload_n E.x E.b dX12_lays_15 rfl (lv_at hl 2 rfl) ?_
  refine lv_iload_n E.x E.b dX12_lays_16 rfl (lv_at hl 0 rfl) ?_
  refine lv_ishr E.x E.b dX12_lays_17 ?_
  refine lv_topi (fun x_10 _ => ?_)
  refine lv_i2b (v := _) E.x E.b dX12_lays_18 rfl ?_
  refine lv_topi (fun x_11 _ => ?_)
  refine z_bast E B 1 rfl (show ¬ ((19 : Int32) < 0 ∨ 2000 ≤ (19 : Int32).toNatClampNeg) by decide +kernel) dX12_lays_19 (fun H locs g_12 B => ?_)
  have B : zB G A s.heap [zo a0 10 (.int 0 :: .ref a1 :: .int 19 :: .ref a2 :: .int 0 :: .ref a3 :: .ref a4 :: .ref a5 :: .ref a6 :: .ref a7 :: .int 0 :: .int 0 :: .int 0 :: .int 0 :: .int 0 :: .int 0 :: .int (-1) :: .int 0 :: .ref a8 :: .int 0 :: .int 0 :: .ref a9 :: .int 0 :: .int 0 :: .ref a10 :: .int 0 :: .int 0 :: .ref a11 :: .ref a12 :: .ref a13 :: .ref a14 :: .int 0 :: .int 0 :: .ref a15 :: .ref a16 :: .ref a17 :: .ref a18 :: .ref a19 :: .int 0 :: .ref a20 :: .ref a21 :: .int 0 :: .int 0 :: .ref a22 :: .ref a23 :: .ref a24 :: .ref a25 :: .ref a26 :: .int (-1) :: .ref a27 :: .ref a28 :: .ref a29 :: .ref a30 :: .ref a31 :: .ref a32 :: .ref a33 :: []), zb G a1 2000 g_12] _ _ := B
  refine lv_aload_n E.x E.b dX12_lays_20 rfl (lv_at hl 1 rfl) ?_
  refine lv_dup E.x E.b dX12_lays_21 rfl ?_
  refine z_get E B z_inX12 (ci := 10) rfl 2 (by decide) t_1194 0 rfl rfl dX12_lays_22 ?_
  refine lv_iconst (v := 1) E.x E.b dX12_lays_25 (by decide) ?_
  refine lv_iadd E.x E.b dX12_lays_26 (z_topi 20 (by decide +kernel) ?_)
  refine z_put E B z_inX12 tyX12 tyX12_ok nmX12 (ci := 10) rfl 2 (by decide) rfl (ty := .int) (by decide +kernel) t_1194 0 rfl (Nat.le_of_ble_eq_true rfl) rfl rfl dX12_lays_27 (fun H locs B => ?_)
  have B : zB G A s.heap [zo a0 10 (.int 0 :: .ref a1 :: .int 20 :: .ref a2 :: .int 0 :: .ref a3 :: .ref a4 :: .ref a5 :: .ref a6 :: .ref a7 :: .int 0 :: .int 0 :: .int 0 :: .int 0 :: .int 0 :: .int 0 :: .int (-1) :: .int 0 :: .ref a8 :: .int 0 :: .int 0 :: .ref a9 :: .int 0 :: .int 0 :: .ref a10 :: .int 0 :: .int 0 :: .ref a11 :: .ref a12 :: .ref a13 :: .ref a14 :: .int 0 :: .int 0 :: .ref a15 :: .ref a16 :: .ref a17 :: .ref a18 :: .ref a19 :: .int 0 :: .ref a20 :: .ref a21 :: .int 0 :: .int 0 :: .ref a22 :: .ref a23 :: .ref a24 :: .ref a25 :: .ref a26 :: .int (-1) :: .ref a27 :: .ref a28 :: .ref a29 :: .ref a30 :: .ref a31 :: .ref a32 :: .ref a33 :: []), zb G a1 2000 g_12] _ _ := B
  refine lv_iinc (v := (-8)) (lv' := [(2, .int (-8)), (0, .ref a0), (1, .int p0)]) E.x E.b dX12_lays_30 hl (k := 0) rfl (by decide +kernel) (by decide) rfl (fun ls hl => ?_)
  refine lv_goto (tgt := 3) E.x E.b dX12_lays_33 (by decide) ?_
  refine lv_iload_n E.x E.b dX12_lays_3 rfl (lv_at hl 0 rfl) ?_
  refine lv_if_lt (tgt := 36) E.x E.b dX12_lays_4 (by decide) (fun _ => ?_) (fun c => absurd (by decide +kernel) c)
  refine W.widen (k := 0) (n := 0) (Nat.le_of_ble_eq_true rfl) (Nat.le_of_ble_eq_true rfl) ?_
  exact z_vret E hr hlocks B trivial (fun t ht => ⟨_, z_q B [0, 1] (by decide) rfl ht⟩) dX12_lays_36
