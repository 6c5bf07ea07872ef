set_option maxHeartbeats 4000000 in
set_option maxRecDepth 100000 in
theorem c_X8_addWord_40 (l : Launch) (G : zGT) (sz : Nat) (a0 a1 a2 a3 a4 : Nat) (p0 : Int32) (f0 : Nat → Int32) : Met l yX8_addWord (.code yX8_addWord cX8_addWord 3 none :: zT) ({ frames := 0, cells := 0, slots := 0, locals := 64 }) (va_Pc [.ref a0, .int p0] (zPc G [zo a0 6 [.ref a1, .ref a2, .ref a3, .ref a4, .int 12, .int 0, .int 0, .int 0, .int 0, .long 0], zb G a1 2000 f0] sz)) ((fun A => va_Qv (fun (_ : Unit) => True) (fun (_ : Unit) t => ∃ (F1 : Nat → Int32), zQ G [zo a0 6 [.ref a1, .ref a2, .ref a3, .ref a4, .int 16, .int 0, .int 0, .int 0, .int 0, .long 0], zb G a1 2000 F1] A t) A) (va_A [zo a0 6 [.ref a1, .ref a2, .ref a3, .ref a4, .int 12, .int 0, .int 0, .int 0, .int 0, .long 0], zb G a1 2000 f0] sz)) 0 0 (va_A [zo a0 6 [.ref a1, .ref a2, .ref a3, .ref a4, .int 12, .int 0, .int 0, .int 0, .int 0, .long 0], zb G a1 2000 f0] sz) := by
  refine z_start (y := yX8_addWord) (bytes := cX8_addWord) (maxL := 3) (ret := none) (av := [.ref a0, .int p0]) (QA := (fun A => va_Qv (fun (_ : Unit) => True) (fun (_ : Unit) t => ∃ (F1 : Nat → Int32), zQ G [zo a0 6 [.ref a1, .ref a2, .ref a3, .ref a4, .int 16, .int 0, .int 0, .int 0, .int 0, .long 0], zb G a1 2000 F1] A t) A)) (by decide) ⟨Nat.le_of_ble_eq_true rfl, trivial⟩ ?_
  intro p e s m below meth c A ls E B hr hlocks hin hl
  have hl : lv_has ls 3 [(0, .ref a0), (1, .int p0)] := hl
  have B : zB G A s.heap [zo a0 6 [.ref a1, .ref a2, .ref a3, .ref a4, .int 12, .int 0, .int 0, .int 0, .int 0, .long 0], zb G a1 2000 f0] s.heap [] := B
  refine lv_bipush (v := 24) E.x E.b dX8_addWord_0 (by decide) ?_
  refine lv_istore_n (lv' := [(2, .int 24), (0, .ref a0), (1, .int p0)]) E.x E.b dX8_addWord_2 rfl hl (by decide) rfl (fun ls hl => ?_)
  refine lv_iload_n E.x E.b dX8_addWord_3 rfl (lv_at hl 0 rfl) ?_
  refine lv_if_lt (tgt := 46) E.x E.b dX8_addWord_4 (by decide) (fun c => absurd c (by decide +kernel)) (fun _ => ?_)
  refine lv_aload_n E.x E.b dX8_addWord_7 rfl (lv_at hl 1 rfl) ?_
  refine z_get E B z_inX8 (ci := 6) rfl 4 (by decide) t_160 0 rfl rfl dX8_addWord_8 ?_
  refine lv_sipush (v := 2000) E.x E.b dX8_addWord_11 (by decide) ?_
  refine lv_icmp_ge (tgt := 40) E.x E.b dX8_addWord_14 (by decide) (fun c => absurd c (by decide +kernel)) (fun _ => ?_)
  refine lv_aload_n E.x E.b dX8_addWord_17 rfl (lv_at hl 1 rfl) ?_
  refine z_get E B z_inX8 (ci := 6) rfl 0 (by decide) t_156 0 rfl rfl dX8_addWord_18 ?_
  refine lv_aload_n E.x E.b dX8_addWord_21 rfl (lv_at hl 1 rfl) ?_
  refine z_get E B z_inX8 (ci := 6) rfl 4 (by decide) t_160 0 rfl rfl dX8_addWord_22 ?_
  refine lv_iload_n E.x E.b dX8_addWord_25 rfl (lv_at hl 2 rfl) ?_
  refine lv_iload_n E.x E.b dX8_addWord_26 rfl (lv_at hl 0 rfl) ?_
  refine lv_iushr (v := _) E.x E.b dX8_addWord_27 rfl ?_
  refine lv_topi (fun x_1 _ => ?_)
  refine lv_i2b (v := _) E.x E.b dX8_addWord_28 rfl ?_
  refine lv_topi (fun x_2 _ => ?_)
  refine z_bast E B 1 rfl (show ¬ ((12 : Int32) < 0 ∨ 2000 ≤ (12 : Int32).toNatClampNeg) by decide +kernel) dX8_addWord_29 (fun H locs g_3 B => ?_)
  have B : zB G A s.heap [zo a0 6 [.ref a1, .ref a2, .ref a3, .ref a4, .int 12, .int 0, .int 0, .int 0, .int 0, .long 0], zb G a1 2000 g_3] _ _ := B
  refine lv_aload_n E.x E.b dX8_addWord_30 rfl (lv_at hl 1 rfl) ?_
  refine lv_dup E.x E.b dX8_addWord_31 rfl ?_
  refine z_get E B z_inX8 (ci := 6) rfl 4 (by decide) t_160 0 rfl rfl dX8_addWord_32 ?_
  refine lv_iconst (v := 1) E.x E.b dX8_addWord_35 (by decide) ?_
  refine lv_iadd E.x E.b dX8_addWord_36 (z_topi 13 (by decide +kernel) ?_)
  refine z_put E B z_inX8 tyX8 tyX8_ok nmX8 (ci := 6) rfl 4 (by decide) rfl (ty := .int) (by decide +kernel) t_160 0 rfl (Nat.le_of_ble_eq_true rfl) rfl rfl dX8_addWord_37 (fun H locs B => ?_)
  have B : zB G A s.heap [zo a0 6 [.ref a1, .ref a2, .ref a3, .ref a4, .int 13, .int 0, .int 0, .int 0, .int 0, .long 0], zb G a1 2000 g_3] _ _ := B
  refine lv_iinc (v := 16) (lv' := [(2, .int 16), (0, .ref a0), (1, .int p0)]) E.x E.b dX8_addWord_40 hl (k := 0) rfl (by decide +kernel) (by decide) rfl (fun ls hl => ?_)
  refine lv_goto (tgt := 3) E.x E.b dX8_addWord_43 (by decide) ?_
  refine lv_iload_n E.x E.b dX8_addWord_3 rfl (lv_at hl 0 rfl) ?_
  refine lv_if_lt (tgt := 46) E.x E.b dX8_addWord_4 (by decide) (fun c => absurd c (by decide +kernel)) (fun _ => ?_)
  refine lv_aload_n E.x E.b dX8_addWord_7 rfl (lv_at hl 1 rfl) ?_
  refine z_get E B z_inX8 (ci := 6) rfl 4 (by decide) t_160 0 rfl rfl dX8_addWord_8 ?_
  refine lv_sipush (v := 2000) E.x E.b dX8_addWord_11 (by decide) ?_
  refine lv_icmp_ge (tgt := 40) E.x E.b dX8_addWord_14 (by decide) (fun c => absurd c (by decide +kernel)) (fun _ => ?_)
  refine lv_aload_n E.x E.b dX8_addWord_17 rfl (lv_at hl 1 rfl) ?_
  refine z_get E B z_inX8 (ci := 6) rfl 0 (by decide) t_156 0 rfl rfl dX8_addWord_18 ?_
  refine lv_aload_n E.x E.b dX8_addWord_21 rfl (lv_at hl 1 rfl) ?_
  refine z_get E B z_inX8 (ci := 6) rfl 4 (by decide) t_160 0 rfl rfl dX8_addWord_22 ?_
  refine lv_iload_n E.x E.b dX8_addWord_25 rfl (lv_at hl 2 rfl) ?_
  refine lv_iload_n E.x E.b dX8_addWord_26 rfl (lv_at hl 0 rfl) ?_
  refine lv_iushr (v := _) E.x E.b dX8_addWord_27 rfl ?_
  refine lv_topi (fun x_4 _ => ?_)
  refine lv_i2b (v := _) E.x E.b dX8_addWord_28 rfl ?_
  refine lv_topi (fun x_5 _ => ?_)
  refine z_bast E B 1 rfl (show ¬ ((13 : Int32) < 0 ∨ 2000 ≤ (13 : Int32).toNatClampNeg) by decide +kernel) dX8_addWord_29 (fun H locs g_6 B => ?_)
  have B : zB G A s.heap [zo a0 6 [.ref a1, .ref a2, .ref a3, .ref a4, .int 13, .int 0, .int 0, .int 0, .int 0, .long 0], zb G a1 2000 g_6] _ _ := B
  refine lv_aload_n E.x E.b dX8_addWord_30 rfl (lv_at hl 1 rfl) ?_
  refine lv_dup E.x E.b dX8_addWord_31 rfl ?_
  refine z_get E B z_inX8 (ci := 6) rfl 4 (by decide) t_160 0 rfl rfl dX8_addWord_32 ?_
  refine lv_iconst (v := 1) E.x E.b dX8_addWord_35 (by decide) ?_
  refine lv_iadd E.x E.b dX8_addWord_36 (z_topi 14 (by decide +kernel) ?_)
  refine z_put E B z_inX8 tyX8 tyX8_ok nmX8 (ci := 6) rfl 4 (by decide) rfl (ty := .int) (by decide +kernel) t_160 0 rfl (Nat.le_of_ble_eq_true rfl) rfl rfl dX8_addWord_37 (fun H locs B => ?_)
  have B : zB G A s.heap [zo a0 6 [.ref a1, .ref a2, .ref a3, .ref a4, .int 14, .int 0, .int 0, .int 0, .int 0, .long 0], zb G a1 2000 g_6] _ _ := B
  refine lv_iinc (v := 8) (lv' := [(2, .int 8), (0, .ref a0), (1, .int p0)]) E.x E.b dX8_addWord_40 hl (k := 0) rfl (by decide +kernel) (by decide) rfl (fun ls hl => ?_)
  refine lv_goto (tgt := 3) E.x E.b dX8_addWord_43 (by decide) ?_
  refine lv_iload_n E.x E.b dX8_addWord_3 rfl (lv_at hl 0 rfl) ?_
  refine lv_if_lt (tgt := 46) E.x E.b dX8_addWord_4 (by decide) (fun c => absurd c (by decide +kernel)) (fun _ => ?_)
  refine lv_aload_n E.x E.b dX8_addWord_7 rfl (lv_at hl 1 rfl) ?_
  refine z_get E B z_inX8 (ci := 6) rfl 4 (by decide) t_160 0 rfl rfl dX8_addWord_8 ?_
  refine lv_sipush (v := 2000) E.x E.b dX8_addWord_11 (by decide) ?_
  refine lv_icmp_ge (tgt := 40) E.x E.b dX8_addWord_14 (by decide) (fun c => absurd c (by decide +kernel)) (fun _ => ?_)
  refine lv_aload_n E.x E.b dX8_addWord_17 rfl (lv_at hl 1 rfl) ?_
  refine z_get E B z_inX8 (ci := 6) rfl 0 (by decide) t_156 0 rfl rfl dX8_addWord_18 ?_
  refine lv_aload_n E.x E.b dX8_addWord_21 rfl (lv_at hl 1 rfl) ?_
  refine z_get E B z_inX8 (ci := 6) rfl 4 (by decide) t_160 0 rfl rfl dX8_addWord_22 ?_
  refine lv_iload_n E.x E.b dX8_addWord_25 rfl (lv_at hl 2 rfl) ?_
  refine lv_iload_n E.x E.b dX8_addWord_26 rfl (lv_at hl 0 rfl) ?_
  refine lv_iushr (v := _) E.x E.b dX8_addWord_27 rfl ?_
  refine lv_topi (fun x_7 _ => ?_)
  refine lv_i2b (v := _) E.x E.b dX8_addWord_28 rfl ?_
  refine lv_topi (fun x_8 _ => ?_)
  refine z_bast E B 1 rfl (show ¬ ((14 : Int32) < 0 ∨ 2000 ≤ (14 : Int32).toNatClampNeg) by decide +kernel) dX8_addWord_29 (fun H locs g_9 B => ?_)
  have B : zB G A s.heap [zo a0 6 [.ref a1, .ref a2, .ref a3, .ref a4, .int 14, .int 0, .int 0, .int 0, .int 0, .long 0], zb G a1 2000 g_9] _ _ := B
  refine lv_aload_n E.x E.b dX8_addWord_30 rfl (lv_at hl 1 rfl) ?_
  refine lv_dup E.x E.b dX8_addWord_31 rfl ?_
  refine z_get E B z_inX8 (ci := 6) rfl 4 (by decide) t_160 0 rfl rfl dX8_addWord_32 ?_
  refine lv_iconst (v := 1) E.x E.b dX8_addWord_35 (by decide) ?_
  refine lv_iadd E.x E.b dX8_addWord_36 (z_topi 15 (by decide +kernel) ?_)
  refine z_put E B z_inX8 tyX8 tyX8_ok nmX8 (ci := 6) rfl 4 (by decide) rfl (ty := .int) (by decide +kernel) t_160 0 rfl (Nat.le_of_ble_eq_true rfl) rfl rfl dX8_addWord_37 (fun H locs B => ?_)
  have B : zB G A s.heap [zo a0 6 [.ref a1, .ref a2, .ref a3, .ref a4, .int 15, .int 0, .int 0, .int 0, .int 0, .long 0], zb G a1 2000 g_9] _ _ := B
  refine lv_iinc (v := 0) (lv' := [(2, .int 0), (0, .ref a0), (1, .int p0)]) E.x E.b dX8_addWord_40 hl (k := 0) rfl (by decide +kernel) (by decide) rfl (fun ls hl => ?_)
  refine lv_goto (tgt := 3) E.x E.b dX8_addWord_43 (by decide) ?_
  refine lv_iload_n E.x E.b dX8_addWord_3 rfl (lv_at hl 0 rfl) ?_
  refine lv_if_lt (tgt := 46) E.x E.b dX8_addWord_4 (by decide) (fun c => absurd c (by decide +kernel)) (fun _ => ?_)
  refine lv_aload_n E.x E.b dX8_addWord_7 rfl (lv_at hl 1 rfl) ?_
  refine z_get E B z_inX8 (ci := 6) rfl 4 (by decide) t_160 0 rfl rfl dX8_addWord_8 ?_
  refine lv_sipush (v := 2000) E.x E.b dX8_addWord_11 (by decide) ?_
  refine lv_icmp_ge (tgt := 40) E.x E.b dX8_addWord_14 (by decide) (fun c => absurd c (by decide +kernel)) (fun _ => ?_)
  refine lv_aload_n E.x E.b dX8_addWord_17 rfl (lv_at hl 1 rfl) ?_
  refine z_get E B z_inX8 (ci := 6) rfl 0 (by decide) t_156 0 rfl rfl dX8_addWord_18 ?_
  refine lv_aload_n E.x E.b dX8_addWord_21 rfl (lv_at hl 1 rfl) ?_
  refine z_get E B z_inX8 (ci := 6) rfl 4 (by decide) t_160 0 rfl rfl dX8_addWord_22 ?_
  refine lv_iload_n E.x E.b dX8_addWord_25 rfl (lv_at hl 2 rfl) ?_
  refine lv_iload_n E.x E.b dX8_addWord_26 rfl (lv_at hl 0 rfl) ?_
  refine lv_iushr (v := _) E.x E.b dX8_addWord_27 rfl ?_
  refine lv_topi (fun x_10 _ => ?_)
  refine lv_i2b (v := _) E.x E.b dX8_addWord_28 rfl ?_
  refine lv_topi (fun x_11 _ => ?_)
  refine z_bast E B 1 rfl (show ¬ ((15 : Int32) < 0 ∨ 2000 ≤ (15 : Int32).toNatClampNeg) by decide +kernel) dX8_addWord_29 (fun H locs g_12 B => ?_)
  have B : zB G A s.heap [zo a0 6 [.ref a1, .ref a2, .ref a3, .ref a4, .int 15, .int 0, .int 0, .int 0, .int 0, .long 0], zb G a1 2000 g_12] _ _ := B
  refine lv_aload_n E.x E.b dX8_addWord_30 rfl (lv_at hl 1 rfl) ?_
  refine lv_dup E.x E.b dX8_addWord_31 rfl ?_
  refine z_get E B z_inX8 (ci := 6) rfl 4 (by decide) t_160 0 rfl rfl dX8_addWord_32 ?_
  refine lv_iconst (v := 1) E.x E.b dX8_addWord_35 (by decide) ?_
  refine lv_iadd E.x E.b dX8_addWord_36 (z_topi 16 (by decide +kernel) ?_)
  refine z_put E B z_inX8 tyX8 tyX8_ok nmX8 (ci := 6) rfl 4 (by decide) rfl (ty := .int) (by decide +kernel) t_160 0 rfl (Nat.le_of_ble_eq_true rfl) rfl rfl dX8_addWord_37 (fun H locs B => ?_)
  have B : zB G A s.heap [zo a0 6 [.ref a1, .ref a2, .ref a3, .ref a4, .int 16, .int 0, .int 0, .int 0, .int 0, .long 0], zb G a1 2000 g_12] _ _ := B
  refine lv_iinc (v := (-8)) (lv' := [(2, .int (-8)), (0, .ref a0), (1, .int p0)]) E.x E.b dX8_addWord_40 hl (k := 0) rfl (by decide +kernel) (by decide) rfl (fun ls hl => ?_)
  refine lv_goto (tgt := 3) E.x E.b dX8_addWord_43 (by decide) ?_
  refine lv_iload_n E.x E.b dX8_addWord_3 rfl (lv_at hl 0 rfl) ?_
  refine lv_if_lt (tgt := 46) E.x E.b dX8_addWord_4 (by decide) (fun _ => ?_) (fun c => absurd (by decide +kernel) c)
  refine W.widen (k := 0) (n := 0) (Nat.le_of_ble_eq_true rfl) (Nat.le_of_ble_eq_true rfl) ?_
  exact z_vret E hr hlocks B trivial (fun t ht => ⟨_, z_q B [0, 1] (by decide) rfl ht⟩) dX8_addWord_46
set_option maxHeartbeats 4000000 in
set_option maxRecDepth 100000 in
theorem c_X8_addWord_41 (l : Launch) (G : zGT) (sz : Nat) (a0 a1 a2 a3 a4 : Nat) (p0 : Int32) (f0 : Nat → Int32) : Met l yX8_addWord (.code yX8_addWord cX8_addWord 3 none :: zT) ({ frames := 0, cells := 0, slots := 0, locals := 64 }) (va_Pc [.ref a0, .int p0] (zPc G [zo a0 6 [.ref a1, .ref a2, .ref a3, .ref a4, .int 16, .int 0, .int 0, .int 0, .int 0, .long 0], zb G a1 2000 f0] sz)) ((fun A => va_Qv (fun (_ : Unit) => True) (fun (_ : Unit) t => ∃ (F1 : Nat → Int32), zQ G [zo a0 6 [.ref a1, .ref a2, .ref a3, .ref a4, .int 20, .int 0, .int 0, .int 0, .int 0, .long 0], zb G a1 2000 F1] A t) A) (va_A [zo a0 6 [.ref a1, .ref a2, .ref a3, .ref a4, .int 16, .int 0, .int 0, .int 0, .int 0, .long 0], zb G a1 2000 f0] sz)) 0 0 (va_A [zo a0 6 [.ref a1, .ref a2, .ref a3, .ref a4, .int 16, .int 0, .int 0, .int 0, .int 0, .long 0], zb G a1 2000 f0] sz) := by
  refine z_start (y := yX8_addWord) (bytes := cX8_addWord) (maxL := 3) (ret := none) (av := [.ref a0, .int p0]) (QA := (fun A => va_Qv (fun (_ : Unit) => True) (fun (_ : Unit) t => ∃ (F1 : Nat → Int32), zQ G [zo a0 6 [.ref a1, .ref a2, .ref a3, .ref a4, .int 20, .int 0, .int 0, .int 0, .int 0, .long 0], zb G a1 2000 F1] A t) A)) (by decide) ⟨Nat.le_of_ble_eq_true rfl, trivial⟩ ?_
  intro p e s m below meth c A ls E B hr hlocks hin hl
  have hl : lv_has ls 3 [(0, .ref a0), (1, .int p0)] := hl
  have B : zB G A s.heap [zo a0 6 [.ref a1, .ref a2, .ref a3, .ref a4, .int 16, .int 0, .int 0, .int 0, .int 0, .long 0], zb G a1 2000 f0] s.heap [] := B
  refine lv_bipush (v := 24) E.x E.b dX8_addWord_0 (by decide) ?_
  refine lv_istore_n (lv' := [(2, .int 24), (0, .ref a0), (1, .int p0)]) E.x E.b dX8_addWord_2 rfl hl (by decide) rfl (fun ls hl => ?_)
  refine lv_iload_n E.x E.b dX8_addWord_3 rfl (lv_at hl 0 rfl) ?_
  refine lv_if_lt (tgt := 46) E.x E.b dX8_addWord_4 (by decide) (fun c => absurd c (by decide +kernel)) (fun _ => ?_)
  refine lv_aload_n E.x E.b dX8_addWord_7 rfl (lv_at hl 1 rfl) ?_
  refine z_get E B z_inX8 (ci := 6) rfl 4 (by decide) t_160 0 rfl rfl dX8_addWord_8 ?_
  refine lv_sipush (v := 2000) E.x E.b dX8_addWord_11 (by decide) ?_
  refine lv_icmp_ge (tgt := 40) E.x E.b dX8_addWord_14 (by decide) (fun c => absurd c (by decide +kernel)) (fun _ => ?_)
  refine lv_aload_n E.x E.b dX8_addWord_17 rfl (lv_at hl 1 rfl) ?_
  refine z_get E B z_inX8 (ci := 6) rfl 0 (by decide) t_156 0 rfl rfl dX8_addWord_18 ?_
  refine lv_aload_n E.x E.b dX8_addWord_21 rfl (lv_at hl 1 rfl) ?_
  refine z_get E B z_inX8 (ci := 6) rfl 4 (by decide) t_160 0 rfl rfl dX8_addWord_22 ?_
  refine lv_iload_n E.x E.b dX8_addWord_25 rfl (lv_at hl 2 rfl) ?_
  refine lv_iload_n E.x E.b dX8_addWord_26 rfl (lv_at hl 0 rfl) ?_
  refine lv_iushr (v := _) E.x E.b dX8_addWord_27 rfl ?_
  refine lv_topi (fun x_1 _ => ?_)
  refine lv_i2b (v := _) E.x E.b dX8_addWord_28 rfl ?_
  refine lv_topi (fun x_2 _ => ?_)
  refine z_bast E B 1 rfl (show ¬ ((16 : Int32) < 0 ∨ 2000 ≤ (16 : Int32).toNatClampNeg) by decide +kernel) dX8_addWord_29 (fun H locs g_3 B => ?_)
  have B : zB G A s.heap [zo a0 6 [.ref a1, .ref a2, .ref a3, .ref a4, .int 16, .int 0, .int 0, .int 0, .int 0, .long 0], zb G a1 2000 g_3] _ _ := B
  refine lv_aload_n E.x E.b dX8_addWord_30 rfl (lv_at hl 1 rfl) ?_
  refine lv_dup E.x E.b dX8_addWord_31 rfl ?_
  refine z_get E B z_inX8 (ci := 6) rfl 4 (by decide) t_160 0 rfl rfl dX8_addWord_32 ?_
  refine lv_iconst (v := 1) E.x E.b dX8_addWord_35 (by decide) ?_
  refine lv_iadd E.x E.b dX8_addWord_36 (z_topi 17 (by decide +kernel) ?_)
  refine z_put E B z_inX8 tyX8 tyX8_ok nmX8 (ci := 6) rfl 4 (by decide) rfl (ty := .int) (by decide +kernel) t_160 0 rfl (Nat.le_of_ble_eq_true rfl) rfl rfl dX8_addWord_37 (fun H locs B => ?_)
  have B : zB G A s.heap [zo a0 6 [.ref a1, .ref a2, .ref a3, .ref a4, .int 17, .int 0, .int 0, .int 0, .int 0, .long 0], zb G a1 2000 g_3] _ _ := B
  refine lv_iinc (v := 16) (lv' := [(2, .int 16), (0, .ref a0), (1, .int p0)]) E.x E.b dX8_addWord_40 hl (k := 0) rfl (by decide +kernel) (by decide) rfl (fun ls hl => ?_)
  refine lv_goto (tgt := 3) E.x E.b dX8_addWord_43 (by decide) ?_
  refine lv_iload_n E.x E.b dX8_addWord_3 rfl (lv_at hl 0 rfl) ?_
  refine lv_if_lt (tgt := 46) E.x E.b dX8_addWord_4 (by decide) (fun c => absurd c (by decide +kernel)) (fun _ => ?_)
  refine lv_aload_n E.x E.b dX8_addWord_7 rfl (lv_at hl 1 rfl) ?_
  refine z_get E B z_inX8 (ci := 6) rfl 4 (by decide) t_160 0 rfl rfl dX8_addWord_8 ?_
  refine lv_sipush (v := 2000) E.x E.b dX8_addWord_11 (by decide) ?_
  refine lv_icmp_ge (tgt := 40) E.x E.b dX8_addWord_14 (by decide) (fun c => absurd c (by decide +kernel)) (fun _ => ?_)
  refine lv_aload_n E.x E.b dX8_addWord_17 rfl (lv_at hl 1 rfl) ?_
  refine z_get E B z_inX8 (ci := 6) rfl 0 (by decide) t_156 0 rfl rfl dX8_addWord_18 ?_
  refine lv_aload_n E.x E.b dX8_addWord_21 rfl (lv_at hl 1 rfl) ?_
  refine z_get E B z_inX8 (ci := 6) rfl 4 (by decide) t_160 0 rfl rfl dX8_addWord_22 ?_
  refine lv_iload_n E.x E.b dX8_addWord_25 rfl (lv_at hl 2 rfl) ?_
  refine lv_iload_n E.x E.b dX8_addWord_26 rfl (lv_at hl 0 rfl) ?_
  refine lv_iushr (v := _) E.x E.b dX8_addWord_27 rfl ?_
  refine lv_topi (fun x_4 _ => ?_)
  refine lv_i2b (v := _) E.x E.b dX8_addWord_28 rfl ?_
  refine lv_topi (fun x_5 _ => ?_)
  refine z_bast E B 1 rfl (show ¬ ((17 : Int32) < 0 ∨ 2000 ≤ (17 : Int32).toNatClampNeg) by decide +kernel) dX8_addWord_29 (fun H locs g_6 B => ?_)
  have B : zB G A s.heap [zo a0 6 [.ref a1, .ref a2, .ref a3, .ref a4, .int 17, .int 0, .int 0, .int 0, .int 0, .long 0], zb G a1 2000 g_6] _ _ := B
  refine lv_aload_n E.x E.b dX8_addWord_30 rfl (lv_at hl 1 rfl) ?_
  refine lv_dup E.x E.b dX8_addWord_31 rfl ?_
  refine z_get E B z_inX8 (ci := 6) rfl 4 (by decide) t_160 0 rfl rfl dX8_addWord_32 ?_
  refine lv_iconst (v := 1) E.x E.b dX8_addWord_35 (by decide) ?_
  refine lv_iadd E.x E.b dX8_addWord_36 (z_topi 18 (by decide +kernel) ?_)
  refine z_put E B z_inX8 tyX8 tyX8_ok nmX8 (ci := 6) rfl 4 (by decide) rfl (ty := .int) (by decide +kernel) t_160 0 rfl (Nat.le_of_ble_eq_true rfl) rfl rfl dX8_addWord_37 (fun H locs B => ?_)
  have B : zB G A s.heap [zo a0 6 [.ref a1, .ref a2, .ref a3, .ref a4, .int 18, .int 0, .int 0, .int 0, .int 0, .long 0], zb G a1 2000 g_6] _ _ := B
  refine lv_iinc (v := 8) (lv' := [(2, .int 8), (0, .ref a0), (1, .int p0)]) E.x E.b dX8_addWord_40 hl (k := 0) rfl (by decide +kernel) (by decide) rfl (fun ls hl => ?_)
  refine lv_goto (tgt := 3) E.x E.b dX8_addWord_43 (by decide) ?_
  refine lv_iload_n E.x E.b dX8_addWord_3 rfl (lv_at hl 0 rfl) ?_
  refine lv_if_lt (tgt := 46) E.x E.b dX8_addWord_4 (by decide) (fun c => absurd c (by decide +kernel)) (fun _ => ?_)
  refine lv_aload_n E.x E.b dX8_addWord_7 rfl (lv_at hl 1 rfl) ?_
  refine z_get E B z_inX8 (ci := 6) rfl 4 (by decide) t_160 0 rfl rfl dX8_addWord_8 ?_
  refine lv_sipush (v := 2000) E.x E.b dX8_addWord_11 (by decide) ?_
  refine lv_icmp_ge (tgt := 40) E.x E.b dX8_addWord_14 (by decide) (fun c => absurd c (by decide +kernel)) (fun _ => ?_)
  refine lv_aload_n E.x E.b dX8_addWord_17 rfl (lv_at hl 1 rfl) ?_
  refine z_get E B z_inX8 (ci := 6) rfl 0 (by decide) t_156 0 rfl rfl dX8_addWord_18 ?_
  refine lv_aload_n E.x E.b dX8_addWord_21 rfl (lv_at hl 1 rfl) ?_
  refine z_get E B z_inX8 (ci := 6) rfl 4 (by decide) t_160 0 rfl rfl dX8_addWord_22 ?_
  refine lv_iload_n E.x E.b dX8_addWord_25 rfl (lv_at hl 2 rfl) ?_
  refine lv_iload_n E.x E.b dX8_addWord_26 rfl (lv_at hl 0 rfl) ?_
  refine lv_iushr (v := _) E.x E.b dX8_addWord_27 rfl ?_
  refine lv_topi (fun x_7 _ => ?_)
  refine lv_i2b (v := _) E.x E.b dX8_addWord_28 rfl ?_
  refine lv_topi (fun x_8 _ => ?_)
  refine z_bast E B 1 rfl (show ¬ ((18 : Int32) < 0 ∨ 2000 ≤ (18 : Int32).toNatClampNeg) by decide +kernel) dX8_addWord_29 (fun H locs g_9 B => ?_)
  have B : zB G A s.heap [zo a0 6 [.ref a1, .ref a2, .ref a3, .ref a4, .int 18, .int 0, .int 0, .int 0, .int 0, .long 0], zb G a1 2000 g_9] _ _ := B
  refine lv_aload_n E.x E.b dX8_addWord_30 rfl (lv_at hl 1 rfl) ?_
  refine lv_dup E.x E.b dX8_addWord_31 rfl ?_
  refine z_get E B z_inX8 (ci := 6) rfl 4 (by decide) t_160 0 rfl rfl dX8_addWord_32 ?_
  refine lv_iconst (v := 1) E.x E.b dX8_addWord_35 (by decide) ?_
  refine lv_iadd E.x E.b dX8_addWord_36 (z_topi 19 (by decide +kernel) ?_)
  refine z_put E B z_inX8 tyX8 tyX8_ok nmX8 (ci := 6) rfl 4 (by decide) rfl (ty := .int) (by decide +kernel) t_160 0 rfl (Nat.le_of_ble_eq_true rfl) rfl rfl dX8_addWord_37 (fun H locs B => ?_)
  have B : zB G A s.heap [zo a0 6 [.ref a1, .ref a2, .ref a3, .ref a4, .int 19, .int 0, .int 0, .int 0, .int 0, .long 0], zb G a1 2000 g_9] _ _ := B
  refine lv_iinc (v := 0) (lv' := [(2, .int 0), (0, .ref a0), (1, .int p0)]) E.x E.b dX8_addWord_40 hl (k := 0) rfl (by decide +kernel) (by decide) rfl (fun ls hl => ?_)
  refine lv_goto (tgt := 3) E.x E.b dX8_addWord_43 (by decide) ?_
  refine lv_iload_n E.x E.b dX8_addWord_3 rfl (lv_at hl 0 rfl) ?_
  refine lv_if_lt (tgt := 46) E.x E.b dX8_addWord_4 (by decide) (fun c => absurd c (by decide +kernel)) (fun _ => ?_)
  refine lv_aload_n E.x E.b dX8_addWord_7 rfl (lv_at hl 1 rfl) ?_
  refine z_get E B z_inX8 (ci := 6) rfl 4 (by decide) t_160 0 rfl rfl dX8_addWord_8 ?_
  refine lv_sipush (v := 2000) E.x E.b dX8_addWord_11 (by decide) ?_
  refine lv_icmp_ge (tgt := 40) E.x E.b dX8_addWord_14 (by decide) (fun c => absurd c (by decide +kernel)) (fun _ => ?_)
  refine lv_aload_n E.x E.b dX8_addWord_17 rfl (lv_at hl 1 rfl) ?_
  refine z_get E B z_inX8 (ci := 6) rfl 0 (by decide) t_156 0 rfl rfl dX8_addWord_18 ?_
  refine lv_aload_n E.x E.b dX8_addWord_21 rfl (lv_at hl 1 rfl) ?_
  refine z_get E B z_inX8 (ci := 6) rfl 4 (by decide) t_160 0 rfl rfl dX8_addWord_22 ?_
  refine lv_iload_n E.x E.b dX8_addWord_25 rfl (lv_at hl 2 rfl) ?_
  refine lv_iload_n E.x E.b dX8_addWord_26 rfl (lv_at hl 0 rfl) ?_
  refine lv_iushr (v := _) E.x E.b dX8_addWord_27 rfl ?_
  refine lv_topi (fun x_10 _ => ?_)
  refine lv_i2b (v := _) E.x E.b dX8_addWord_28 rfl ?_
  refine lv_topi (fun x_11 _ => ?_)
  refine z_bast E B 1 rfl (show ¬ ((19 : Int32) < 0 ∨ 2000 ≤ (19 : Int32).toNatClampNeg) by decide +kernel) dX8_addWord_29 (fun H locs g_12 B => ?_)
  have B : zB G A s.heap [zo a0 6 [.ref a1, .ref a2, .ref a3, .ref a4, .int 19, .int 0, .int 0, .int 0, .int 0, .long 0], zb G a1 2000 g_12] _ _ := B
  refine lv_aload_n E.x E.b dX8_addWord_30 rfl (lv_at hl 1 rfl) ?_
  refine lv_dup E.x E.b dX8_addWord_31 rfl ?_
  refine z_get E B z_inX8 (ci := 6) rfl 4 (by decide) t_160 0 rfl rfl dX8_addWord_32 ?_
  refine lv_iconst (v := 1) E.x E.b dX8_addWord_35 (by decide) ?_
  refine lv_iadd E.x E.b dX8_addWord_36 (z_topi 20 (by decide +kernel) ?_)
  refine z_put E B z_inX8 tyX8 tyX8_ok nmX8 (ci := 6) rfl 4 (by decide) rfl (ty := .int) (by decide +kernel) t_160 0 rfl (Nat.le_of_ble_eq_true rfl) rfl rfl dX8_addWord_37 (fun H locs B => ?_)
  have B : zB G A s.heap [zo a0 6 [.ref a1, .ref a2, .ref a3, .ref a4, .int 20, .int 0, .int 0, .int 0, .int 0, .long 0], zb G a1 2000 g_12] _ _ := B
  refine lv_iinc (v := (-8)) (lv' := [(2, .int (-8)), (0, .ref a0), (1, .int p0)]) E.x E.b dX8_addWord_40 hl (k := 0) rfl (by decide +kernel) (by decide) rfl (fun ls hl => ?_)
  refine lv_goto (tgt := 3) E.x E.b dX8_addWord_43 (by decide) ?_
  refine lv_iload_n E.x E.b dX8_addWord_3 rfl (lv_at hl 0 rfl) ?_
  refine lv_if_lt (tgt := 46) E.x E.b dX8_addWord_4 (by decide) (fun _ => ?_) (fun c => absurd (by decide +kernel) c)
  refine W.widen (k := 0) (n := 0) (Nat.le_of_ble_eq_true rfl) (Nat.le_of_ble_eq_true rfl) ?_
  exact z_vret E hr hlocks B trivial (fun t ht => ⟨_, z_q B [0, 1] (by decide) rfl ht⟩) dX8_addWord_46
set_option maxHeartbeats 4000000 in
set_option maxRecDepth 100000 in
theorem c_X11_feed_42 (l : Launch) (G : zGT) (sz : Nat) (a0 a1 a2 a3 a4 a5 a6 a7 a8 a9 a10 a11 a12 a13 a14 a15 a16 a17 : Nat) (p0 p1 p2 p3 p4 : Int32) : Met l yX11_feed (.code yX11_feed cX11_feed 6 (some .int) :: zT) ({ frames := 1, cells := 0, slots := 0, locals := 86 }) (va_Pc [.ref a0, .int p0, .int p1, .int p2, .int p3, .int p4] (zPc G [zo a0 9 [.ref a1, .ref a3, .ref a4, .ref a5, .ref a6, .ref a7, .ref a8, .ref a9, .ref a10, .ref a11, .ref a12, .ref a13, .ref a14, .null, .int 0, .int (-1)], zo a1 6 [.ref a2, .ref a15, .ref a16, .ref a17, .int 0, .int 0, .int 0, .int 0, .int 0, .long 0], zb G a2 2000 (fun _ => 0)] sz)) ((fun A => va_Qi (fun (r : Int32) (_ : Unit) => r = 20) (fun (_ : Unit) t => zQ G [] A t) A) (va_A [zo a0 9 [.ref a1, .ref a3, .ref a4, .ref a5, .ref a6, .ref a7, .ref a8, .ref a9, .ref a10, .ref a11, .ref a12, .ref a13, .ref a14, .null, .int 0, .int (-1)], zo a1 6 [.ref a2, .ref a15, .ref a16, .ref a17, .int 0, .int 0, .int 0, .int 0, .int 0, .long 0], zb G a2 2000 (fun _ => 0)] sz)) 0 0 (va_A [zo a0 9 [.ref a1, .ref a3, .ref a4, .ref a5, .ref a6, .ref a7, .ref a8, .ref a9, .ref a10, .ref a11, .ref a12, .ref a13, .ref a14, .null, .int 0, .int (-1)], zo a1 6 [.ref a2, .ref a15, .ref a16, .ref a17, .int 0, .int 0, .int 0, .int 0, .int 0, .long 0], zb G a2 2000 (fun _ => 0)] sz) := by
  refine z_start (y := yX11_feed) (bytes := cX11_feed) (maxL := 6) (ret := (some .int)) (av := [.ref a0, .int p0, .int p1, .int p2, .int p3, .int p4]) (QA := (fun A => va_Qi (fun (r : Int32) (_ : Unit) => r = 20) (fun (_ : Unit) t => zQ G [] A t) A)) (by decide) ⟨Nat.le_of_ble_eq_true rfl, trivial⟩ ?_
  intro p e s m below meth c A ls E B hr hlocks hin hl
  have hl : lv_has ls 6 [(0, .ref a0), (1, .int p0), (2, .int p1), (3, .int p2), (4, .int p3), (5, .int p4)] := hl
  have B : zB G A s.heap [zo a0 9 [.ref a1, .ref a3, .ref a4, .ref a5, .ref a6, .ref a7, .ref a8, .ref a9, .ref a10, .ref a11, .ref a12, .ref a13, .ref a14, .null, .int 0, .int (-1)], zo a1 6 [.ref a2, .ref a15, .ref a16, .ref a17, .int 0, .int 0, .int 0, .int 0, .int 0, .long 0], zb G a2 2000 (fun _ => 0)] s.heap [] := B
  refine lv_aload_n E.x E.b dX11_feed_0 rfl (lv_at hl 0 rfl) ?_
  refine z_get E B z_inX11 (ci := 9) rfl 0 (by decide) t_369 0 rfl rfl dX11_feed_1 ?_
  refine lv_bipush (v := 20) E.x E.b dX11_feed_4 (by decide) ?_
  refine z_calli E B (wc := [zo a1 6 [.ref a2, .ref a15, .ref a16, .ref a17, .int 0, .int 0, .int 0, .int 0, .int 0, .long 0]]) (wr := [zo a0 9 [.ref a1, .ref a3, .ref a4, .ref a5, .ref a6, .ref a7, .ref a8, .ref a9, .ref a10, .ref a11, .ref a12, .ref a13, .ref a14, .null, .int 0, .int (-1)], zb G a2 2000 (fun _ => 0)]) [1] [0, 2] rfl rfl (by decide) (by decide) (z_runV E B (As := [.int 20]) (rest := []) [1] rfl (by decide) mv_X8_hasRoomFor t_422 0 (ci := 6) rfl rfl rfl (c_X8_hasRoomFor_36 l G _ a1 a2 a15 a16 a17) rfl rfl ⟨Nat.le_of_ble_eq_true rfl, Nat.le_of_ble_eq_true rfl⟩ rfl hl.1 rfl (Nat.le_of_ble_eq_true rfl) dX11_feed_6 ⟨(Nat.le_of_ble_eq_true rfl), (Nat.le_of_ble_eq_true rfl)⟩) (fun r t H locs hp hB J => ?_)
  have hq := hB
  have B := J _ hq
  have B : zB G A s.heap [zo a0 9 [.ref a1, .ref a3, .ref a4, .ref a5, .ref a6, .ref a7, .ref a8, .ref a9, .ref a10, .ref a11, .ref a12, .ref a13, .ref a14, .null, .int 0, .int (-1)], zb G a2 2000 (fun _ => 0), zo a1 6 [.ref a2, .ref a15, .ref a16, .ref a17, .int 0, .int 0, .int 0, .int 0, .int 0, .long 0]] _ _ := B
  have hp := hp.symm
  subst hp
  refine lv_if_ne (tgt := 14) E.x E.b dX11_feed_9 (by decide) (fun _ => ?_) (fun c => absurd c (by decide +kernel))
  refine lv_aload_n E.x E.b dX11_feed_14 rfl (lv_at hl 0 rfl) ?_
  refine z_get E B z_inX11 (ci := 9) rfl 0 (by decide) t_369 0 rfl rfl dX11_feed_15 ?_
  refine lv_iload_n E.x E.b dX11_feed_18 rfl (lv_at hl 1 rfl) ?_
  refine z_callv E B (wc := [zo a1 6 [.ref a2, .ref a15, .ref a16, .ref a17, .int 0, .int 0, .int 0, .int 0, .int 0, .long 0], zb G a2 2000 (fun _ => 0)]) (wr := [zo a0 9 [.ref a1, .ref a3, .ref a4, .ref a5, .ref a6, .ref a7, .ref a8, .ref a9, .ref a10, .ref a11, .ref a12, .ref a13, .ref a14, .null, .int 0, .int (-1)]]) [2, 1] [0] rfl rfl (by decide) (by decide) (z_runV E B (As := [.int p0]) (rest := []) [2, 1] rfl (by decide) mv_X8_addWord t_426 0 (ci := 6) rfl rfl rfl (c_X8_addWord_37 l G _ a1 a2 a15 a16 a17 p0) rfl rfl ⟨Nat.le_of_ble_eq_true rfl, Nat.le_of_ble_eq_true rfl⟩ rfl hl.1 rfl (Nat.le_of_ble_eq_true rfl) dX11_feed_19 ⟨(Nat.le_of_ble_eq_true rfl), (Nat.le_of_ble_eq_true rfl)⟩) (fun  t H locs hp hB J => ?_)
  obtain ⟨g_1, hq⟩ := hB
  have B := J _ hq
  have B : zB G A s.heap [zo a0 9 [.ref a1, .ref a3, .ref a4, .ref a5, .ref a6, .ref a7, .ref a8, .ref a9, .ref a10, .ref a11, .ref a12, .ref a13, .ref a14, .null, .int 0, .int (-1)], zo a1 6 [.ref a2, .ref a15, .ref a16, .ref a17, .int 4, .int 0, .int 0, .int 0, .int 0, .long 0], zb G a2 2000 g_1] _ _ := B
  refine lv_aload_n E.x E.b dX11_feed_22 rfl (lv_at hl 0 rfl) ?_
  refine z_get E B z_inX11 (ci := 9) rfl 0 (by decide) t_369 0 rfl rfl dX11_feed_23 ?_
  refine lv_iload_n E.x E.b dX11_feed_26 rfl (lv_at hl 2 rfl) ?_
  refine z_callv E B (wc := [zo a1 6 [.ref a2, .ref a15, .ref a16, .ref a17, .int 4, .int 0, .int 0, .int 0, .int 0, .long 0], zb G a2 2000 g_1]) (wr := [zo a0 9 [.ref a1, .ref a3, .ref a4, .ref a5, .ref a6, .ref a7, .ref a8, .ref a9, .ref a10, .ref a11, .ref a12, .ref a13, .ref a14, .null, .int 0, .int (-1)]]) [1, 2] [0] rfl rfl (by decide) (by decide) (z_runV E B (As := [.int p1]) (rest := []) [1, 2] rfl (by decide) mv_X8_addWord t_426 0 (ci := 6) rfl rfl rfl (c_X8_addWord_38 l G _ a1 a2 a15 a16 a17 p1 g_1) rfl rfl ⟨Nat.le_of_ble_eq_true rfl, Nat.le_of_ble_eq_true rfl⟩ rfl hl.1 rfl (Nat.le_of_ble_eq_true rfl) dX11_feed_27 ⟨(Nat.le_of_ble_eq_true rfl), (Nat.le_of_ble_eq_true rfl)⟩) (fun  t H locs hp hB J => ?_)
  obtain ⟨g_2, hq⟩ := hB
  have B := J _ hq
  have B : zB G A s.heap [zo a0 9 [.ref a1, .ref a3, .ref a4, .ref a5, .ref a6, .ref a7, .ref a8, .ref a9, .ref a10, .ref a11, .ref a12, .ref a13, .ref a14, .null, .int 0, .int (-1)], zo a1 6 [.ref a2, .ref a15, .ref a16, .ref a17, .int 8, .int 0, .int 0, .int 0, .int 0, .long 0], zb G a2 2000 g_2] _ _ := B
  refine lv_aload_n E.x E.b dX11_feed_30 rfl (lv_at hl 0 rfl) ?_
  refine z_get E B z_inX11 (ci := 9) rfl 0 (by decide) t_369 0 rfl rfl dX11_feed_31 ?_
  refine lv_iload_n E.x E.b dX11_feed_34 rfl (lv_at hl 3 rfl) ?_
  refine z_callv E B (wc := [zo a1 6 [.ref a2, .ref a15, .ref a16, .ref a17, .int 8, .int 0, .int 0, .int 0, .int 0, .long 0], zb G a2 2000 g_2]) (wr := [zo a0 9 [.ref a1, .ref a3, .ref a4, .ref a5, .ref a6, .ref a7, .ref a8, .ref a9, .ref a10, .ref a11, .ref a12, .ref a13, .ref a14, .null, .int 0, .int (-1)]]) [1, 2] [0] rfl rfl (by decide) (by decide) (z_runV E B (As := [.int p2]) (rest := []) [1, 2] rfl (by decide) mv_X8_addWord t_426 0 (ci := 6) rfl rfl rfl (c_X8_addWord_39 l G _ a1 a2 a15 a16 a17 p2 g_2) rfl rfl ⟨Nat.le_of_ble_eq_true rfl, Nat.le_of_ble_eq_true rfl⟩ rfl hl.1 rfl (Nat.le_of_ble_eq_true rfl) dX11_feed_35 ⟨(Nat.le_of_ble_eq_true rfl), (Nat.le_of_ble_eq_true rfl)⟩) (fun  t H locs hp hB J => ?_)
  obtain ⟨g_3, hq⟩ := hB
  have B := J _ hq
  have B : zB G A s.heap [zo a0 9 [.ref a1, .ref a3, .ref a4, .ref a5, .ref a6, .ref a7, .ref a8, .ref a9, .ref a10, .ref a11, .ref a12, .ref a13, .ref a14, .null, .int 0, .int (-1)], zo a1 6 [.ref a2, .ref a15, .ref a16, .ref a17, .int 12, .int 0, .int 0, .int 0, .int 0, .long 0], zb G a2 2000 g_3] _ _ := B
  refine lv_aload_n E.x E.b dX11_feed_38 rfl (lv_at hl 0 rfl) ?_
  refine z_get E B z_inX11 (ci := 9) rfl 0 (by decide) t_369 0 rfl rfl dX11_feed_39 ?_
  refine lv_iload E.x E.b dX11_feed_42 (lv_at hl 4 rfl) ?_
  refine z_callv E B (wc := [zo a1 6 [.ref a2, .ref a15, .ref a16, .ref a17, .int 12, .int 0, .int 0, .int 0, .int 0, .long 0], zb G a2 2000 g_3]) (wr := [zo a0 9 [.ref a1, .ref a3, .ref a4, .ref a5, .ref a6, .ref a7, .ref a8, .ref a9, .ref a10, .ref a11, .ref a12, .ref a13, .ref a14, .null, .int 0, .int (-1)]]) [1, 2] [0] rfl rfl (by decide) (by decide) (z_runV E B (As := [.int p3]) (rest := []) [1, 2] rfl (by decide) mv_X8_addWord t_426 0 (ci := 6) rfl rfl rfl (c_X8_addWord_40 l G _ a1 a2 a15 a16 a17 p3 g_3) rfl rfl ⟨Nat.le_of_ble_eq_true rfl, Nat.le_of_ble_eq_true rfl⟩ rfl hl.1 rfl (Nat.le_of_ble_eq_true rfl) dX11_feed_44 ⟨(Nat.le_of_ble_eq_true rfl), (Nat.le_of_ble_eq_true rfl)⟩) (fun  t H locs hp hB J => ?_)
  obtain ⟨g_4, hq⟩ := hB
  have B := J _ hq
  have B : zB G A s.heap [zo a0 9 [.ref a1, .ref a3, .ref a4, .ref a5, .ref a6, .ref a7, .ref a8, .ref a9, .ref a10, .ref a11, .ref a12, .ref a13, .ref a14, .null, .int 0, .int (-1)], zo a1 6 [.ref a2, .ref a15, .ref a16, .ref a17, .int 16, .int 0, .int 0, .int 0, .int 0, .long 0], zb G a2 2000 g_4] _ _ := B
  refine lv_aload_n E.x E.b dX11_feed_47 rfl (lv_at hl 0 rfl) ?_
  refine z_get E B z_inX11 (ci := 9) rfl 0 (by decide) t_369 0 rfl rfl dX11_feed_48 ?_
  refine lv_iload E.x E.b dX11_feed_51 (lv_at hl 5 rfl) ?_
  refine z_callv E B (wc := [zo a1 6 [.ref a2, .ref a15, .ref a16, .ref a17, .int 16, .int 0, .int 0, .int 0, .int 0, .long 0], zb G a2 2000 g_4]) (wr := [zo a0 9 [.ref a1, .ref a3, .ref a4, .ref a5, .ref a6, .ref a7, .ref a8, .ref a9, .ref a10, .ref a11, .ref a12, .ref a13, .ref a14, .null, .int 0, .int (-1)]]) [1, 2] [0] rfl rfl (by decide) (by decide) (z_runV E B (As := [.int p4]) (rest := []) [1, 2] rfl (by decide) mv_X8_addWord t_426 0 (ci := 6) rfl rfl rfl (c_X8_addWord_41 l G _ a1 a2 a15 a16 a17 p4 g_4) rfl rfl ⟨Nat.le_of_ble_eq_true rfl, Nat.le_of_ble_eq_true rfl⟩ rfl hl.1 rfl (Nat.le_of_ble_eq_true rfl) dX11_feed_53 ⟨(Nat.le_of_ble_eq_true rfl), (Nat.le_of_ble_eq_true rfl)⟩) (fun  t H locs hp hB J => ?_)
  obtain ⟨g_5, hq⟩ := hB
  have B := J _ hq
  have B : zB G A s.heap [zo a0 9 [.ref a1, .ref a3, .ref a4, .ref a5, .ref a6, .ref a7, .ref a8, .ref a9, .ref a10, .ref a11, .ref a12, .ref a13, .ref a14, .null, .int 0, .int (-1)], zo a1 6 [.ref a2, .ref a15, .ref a16, .ref a17, .int 20, .int 0, .int 0, .int 0, .int 0, .long 0], zb G a2 2000 g_5] _ _ := B
  refine lv_aload_n E.x E.b dX11_feed_56 rfl (lv_at hl 0 rfl) ?_
  refine z_get E B z_inX11 (ci := 9) rfl 0 (by decide) t_369 0 rfl rfl dX11_feed_57 ?_
  refine z_get E B z_inX8 (ci := 6) rfl 4 (by decide) t_162 1 rfl rfl dX11_feed_60 ?_
  refine W.widen (k := 0) (n := 0) (Nat.le_of_ble_eq_true rfl) (Nat.le_of_ble_eq_true rfl) ?_
  exact z_iret E hr hlocks B (v := 20) rfl (fun t ht => z_q B [] (by decide) rfl ht) dX11_feed_63
set_option maxHeartbeats 4000000 in
set_option maxRecDepth 100000 in
theorem c_X11_back_43 (l : Launch) (G : zGT) (sz : Nat) (a0 a1 a2 a3 a4 a5 a6 a7 a8 a9 a10 a11 a12 a13 a14 a15 a16 a17 : Nat) (p0 : Int32) : Met l yX11_back (.code yX11_back cX11_back 2 (some .int) :: zT) ({ frames := 0, cells := 0, slots := 0, locals := 64 }) (va_Pc [.ref a0, .int p0] (zPc G [zo a0 9 [.ref a1, .ref a2, .ref a3, .ref a4, .ref a5, .ref a6, .ref a7, .ref a8, .ref a9, .ref a10, .ref a11, .ref a12, .ref a13, .null, .int 0, .int (-1)], zo a1 6 [.ref a14, .ref a15, .ref a16, .ref a17, .int 0, .int 0, .int 0, .int 0, .int 0, .long 0]] sz)) ((fun A => va_Qi (fun (r : Int32) (_ : Unit) => (p0.toInt ≤ (-1) ∧ r = (-1)) ∨ (p0.toInt = 0 ∧ r = 0) ∨ (1 ≤ p0.toInt ∧ r = (-1))) (fun (_ : Unit) t => zQ G [] A t) A) (va_A [zo a0 9 [.ref a1, .ref a2, .ref a3, .ref a4, .ref a5, .ref a6, .ref a7, .ref a8, .ref a9, .ref a10, .ref a11, .ref a12, .ref a13, .null, .int 0, .int (-1)], zo a1 6 [.ref a14, .ref a15, .ref a16, .ref a17, .int 0, .int 0, .int 0, .int 0, .int 0, .long 0]] sz)) 0 0 (va_A [zo a0 9 [.ref a1, .ref a2, .ref a3, .ref a4, .ref a5, .ref a6, .ref a7, .ref a8, .ref a9, .ref a10, .ref a11, .ref a12, .ref a13, .null, .int 0, .int (-1)], zo a1 6 [.ref a14, .ref a15, .ref a16, .ref a17, .int 0, .int 0, .int 0, .int 0, .int 0, .long 0]] sz) := by
  refine z_start (y := yX11_back) (bytes := cX11_back) (maxL := 2) (ret := (some .int)) (av := [.ref a0, .int p0]) (QA := (fun A => va_Qi (fun (r : Int32) (_ : Unit) => (p0.toInt ≤ (-1) ∧ r = (-1)) ∨ (p0.toInt = 0 ∧ r = 0) ∨ (1 ≤ p0.toInt ∧ r = (-1))) (fun (_ : Unit) t => zQ G [] A t) A)) (by decide) ⟨Nat.le_of_ble_eq_true rfl, trivial⟩ ?_
  intro p e s m below meth c A ls E B hr hlocks hin hl
  have hl : lv_has ls 2 [(0, .ref a0), (1, .int p0)] := hl
  have B : zB G A s.heap [zo a0 9 [.ref a1, .ref a2, .ref a3, .ref a4, .ref a5, .ref a6, .ref a7, .ref a8, .ref a9, .ref a10, .ref a11, .ref a12, .ref a13, .null, .int 0, .int (-1)], zo a1 6 [.ref a14, .ref a15, .ref a16, .ref a17, .int 0, .int 0, .int 0, .int 0, .int 0, .long 0]] s.heap [] := B
  refine lv_iload_n E.x E.b dX11_back_0 rfl (lv_at hl 1 rfl) ?_
  refine lv_if_lt (tgt := 15) E.x E.b dX11_back_1 (by decide) (fun c_1 => ?_) (fun c_1 => ?_)
  · have c_1f : p0.toInt < 0 := zi_lt c_1
    refine lv_iconst (v := (-1)) E.x E.b dX11_back_15 (by decide) ?_
    refine W.widen (k := 0) (n := 0) (Nat.le_of_ble_eq_true rfl) (Nat.le_of_ble_eq_true rfl) ?_
    exact z_iret E hr hlocks B (v := (-1)) (Or.inl ⟨(by first | decide | omega), rfl⟩) (fun t ht => z_q B [] (by decide) rfl ht) dX11_back_16
  · have c_1f : 0 ≤ p0.toInt := zi_nlt c_1
    refine lv_iload_n E.x E.b dX11_back_4 rfl (lv_at hl 1 rfl) ?_
    refine lv_aload_n E.x E.b dX11_back_5 rfl (lv_at hl 0 rfl) ?_
    refine z_get E B z_inX11 (ci := 9) rfl 0 (by decide) t_369 0 rfl rfl dX11_back_6 ?_
    refine z_get E B z_inX8 (ci := 6) rfl 4 (by decide) t_162 1 rfl rfl dX11_back_9 ?_
    refine lv_icmp_le (tgt := 17) E.x E.b dX11_back_12 (by decide) (fun c_2 => ?_) (fun c_2 => ?_)
    · have c_2f : p0.toInt ≤ 0 := zi_le c_2
      obtain rfl := zi_pt (x := p0) 0 (by show p0.toInt = 0; omega)
      refine lv_aload_n E.x E.b dX11_back_17 rfl (lv_at hl 0 rfl) ?_
      refine z_get E B z_inX11 (ci := 9) rfl 0 (by decide) t_369 0 rfl rfl dX11_back_18 ?_
      refine lv_dup E.x E.b dX11_back_21 rfl ?_
      refine z_get E B z_inX8 (ci := 6) rfl 4 (by decide) t_162 1 rfl rfl dX11_back_22 ?_
      refine lv_iload_n E.x E.b dX11_back_25 rfl (lv_at hl 1 rfl) ?_
      refine lv_isub E.x E.b dX11_back_26 (z_topi 0 (by decide +kernel) ?_)
      refine z_put E B z_inX8 tyX8 tyX8_ok nmX8 (ci := 6) rfl 4 (by decide) rfl (ty := .int) (by decide +kernel) t_162 1 rfl (Nat.le_of_ble_eq_true rfl) rfl rfl dX11_back_27 (fun H locs B => ?_)
      have B : zB G A s.heap [zo a0 9 [.ref a1, .ref a2, .ref a3, .ref a4, .ref a5, .ref a6, .ref a7, .ref a8, .ref a9, .ref a10, .ref a11, .ref a12, .ref a13, .null, .int 0, .int (-1)], zo a1 6 [.ref a14, .ref a15, .ref a16, .ref a17, .int 0, .int 0, .int 0, .int 0, .int 0, .long 0]] _ _ := B
      refine lv_aload_n E.x E.b dX11_back_30 rfl (lv_at hl 0 rfl) ?_
      refine z_get E B z_inX11 (ci := 9) rfl 0 (by decide) t_369 0 rfl rfl dX11_back_31 ?_
      refine z_get E B z_inX8 (ci := 6) rfl 4 (by decide) t_162 1 rfl rfl dX11_back_34 ?_
      refine W.widen (k := 0) (n := 0) (Nat.le_of_ble_eq_true rfl) (Nat.le_of_ble_eq_true rfl) ?_
      exact z_iret E hr hlocks B (v := 0) (Or.inr (Or.inl ⟨(by first | decide | omega), rfl⟩)) (fun t ht => z_q B [] (by decide) rfl ht) dX11_back_37
    · have c_2f : 0 < p0.toInt := zi_nle c_2
      refine lv_iconst (v := (-1)) E.x E.b dX11_back_15 (by decide) ?_
      refine W.widen (k := 0) (n := 0) (Nat.le_of_ble_eq_true rfl) (Nat.le_of_ble_eq_true rfl) ?_
      exact z_iret E hr hlocks B (v := (-1)) (Or.inr (Or.inr (⟨(by first | decide | omega), rfl⟩))) (fun t ht => z_q B [] (by decide) rfl ht) dX11_back_16
set_option maxHeartbeats 4000000 in
set_option maxRecDepth 100000 in
theorem c_X8_begin_44 (l : Launch) (G : zGT) (sz : Nat) (a0 a1 a2 a3 a4 : Nat) : Met l yX8_begin (.code yX8_begin cX8_begin 1 none :: zT) ({ frames := 0, cells := 0, slots := 0, locals := 64 }) (va_Pc [.ref a0] (zPc G [zo a0 6 [.ref a1, .ref a2, .ref a3, .ref a4, .int 0, .int 0, .int 0, .int 0, .int 0, .long 0]] sz)) ((fun A => va_Qv (fun (_ : Unit) => True) (fun (_ : Unit) t => zQ G [zo a0 6 [.ref a1, .ref a2, .ref a3, .ref a4, .int 0, .int 0, .int 0, .int 0, .int 0, .long 0]] A t) A) (va_A [zo a0 6 [.ref a1, .ref a2, .ref a3, .ref a4, .int 0, .int 0, .int 0, .int 0, .int 0, .long 0]] sz)) 0 0 (va_A [zo a0 6 [.ref a1, .ref a2, .ref a3, .ref a4, .int 0, .int 0, .int 0, .int 0, .int 0, .long 0]] sz) := by
  refine z_start (y := yX8_begin) (bytes := cX8_begin) (maxL := 1) (ret := none) (av := [.ref a0]) (QA := (fun A => va_Qv (fun (_ : Unit) => True) (fun (_ : Unit) t => zQ G [zo a0 6 [.ref a1, .ref a2, .ref a3, .ref a4, .int 0, .int 0, .int 0, .int 0, .int 0, .long 0]] A t) A)) (by decide) ⟨Nat.le_of_ble_eq_true rfl, trivial⟩ ?_
  intro p e s m below meth c A ls E B hr hlocks hin hl
  have hl : lv_has ls 1 [(0, .ref a0)] := hl
  have B : zB G A s.heap [zo a0 6 [.ref a1, .ref a2, .ref a3, .ref a4, .int 0, .int 0, .int 0, .int 0, .int 0, .long 0]] s.heap [] := B
  refine lv_aload_n E.x E.b dX8_begin_0 rfl (lv_at hl 0 rfl) ?_
  refine lv_iconst (v := 0) E.x E.b dX8_begin_1 (by decide) ?_
  refine z_put E B z_inX8 tyX8 tyX8_ok nmX8 (ci := 6) rfl 5 (by decide) rfl (ty := .int) (by decide +kernel) t_164 0 rfl (Nat.le_of_ble_eq_true rfl) rfl rfl dX8_begin_2 (fun H locs B => ?_)
  have B : zB G A s.heap [zo a0 6 [.ref a1, .ref a2, .ref a3, .ref a4, .int 0, .int 0, .int 0, .int 0, .int 0, .long 0]] _ _ := B
  refine lv_aload_n E.x E.b dX8_begin_5 rfl (lv_at hl 0 rfl) ?_
  refine lv_iconst (v := 0) E.x E.b dX8_begin_6 (by decide) ?_
  refine z_put E B z_inX8 tyX8 tyX8_ok nmX8 (ci := 6) rfl 8 (by decide) rfl (ty := .int) (by decide +kernel) t_169 0 rfl (Nat.le_of_ble_eq_true rfl) rfl rfl dX8_begin_7 (fun H locs B => ?_)
  have B : zB G A s.heap [zo a0 6 [.ref a1, .ref a2, .ref a3, .ref a4, .int 0, .int 0, .int 0, .int 0, .int 0, .long 0]] _ _ := B
  refine W.widen (k := 0) (n := 0) (Nat.le_of_ble_eq_true rfl) (Nat.le_of_ble_eq_true rfl) ?_
  exact z_vret E hr hlocks B trivial (fun t ht => z_q B [0] (by decide) rfl ht) dX8_begin_10
set_option maxHeartbeats 4000000 in
set_option maxRecDepth 100000 in
theorem c_X3_begin_45 (l : Launch) (G : zGT) (sz : Nat) (a0 a1 a2 a3 a4 a5 : Nat) : Met l yX3_begin (.code yX3_begin cX3_begin 2 none :: zT) ({ frames := 1, cells := 0, slots := 0, locals := 84 }) (va_Pc [.ref a0, .ref a1] (zPc G [zo a0 2 [.int 0, .int 0, .int 0, .int 0, .int 0, .int 0], zo a1 6 [.ref a2, .ref a3, .ref a4, .ref a5, .int 0, .int 0, .int 0, .int 0, .int 0, .long 0]] sz)) ((fun A => va_Qv (fun (_ : Unit) => True) (fun (_ : Unit) t => zQ G [zo a0 2 [.int (-1), .int 0, .int 0, .int 0, .int 0, .int 0], zo a1 6 [.ref a2, .ref a3, .ref a4, .ref a5, .int 0, .int 0, .int 0, .int 0, .int 0, .long 0]] A t) A) (va_A [zo a0 2 [.int 0, .int 0, .int 0, .int 0, .int 0, .int 0], zo a1 6 [.ref a2, .ref a3, .ref a4, .ref a5, .int 0, .int 0, .int 0, .int 0, .int 0, .long 0]] sz)) 0 0 (va_A [zo a0 2 [.int 0, .int 0, .int 0, .int 0, .int 0, .int 0], zo a1 6 [.ref a2, .ref a3, .ref a4, .ref a5, .int 0, .int 0, .int 0, .int 0, .int 0, .long 0]] sz) := by
  refine z_start (y := yX3_begin) (bytes := cX3_begin) (maxL := 2) (ret := none) (av := [.ref a0, .ref a1]) (QA := (fun A => va_Qv (fun (_ : Unit) => True) (fun (_ : Unit) t => zQ G [zo a0 2 [.int (-1), .int 0, .int 0, .int 0, .int 0, .int 0], zo a1 6 [.ref a2, .ref a3, .ref a4, .ref a5, .int 0, .int 0, .int 0, .int 0, .int 0, .long 0]] A t) A)) (by decide) ⟨Nat.le_of_ble_eq_true rfl, trivial⟩ ?_
  intro p e s m below meth c A ls E B hr hlocks hin hl
  have hl : lv_has ls 2 [(0, .ref a0), (1, .ref a1)] := hl
  have B : zB G A s.heap [zo a0 2 [.int 0, .int 0, .int 0, .int 0, .int 0, .int 0], zo a1 6 [.ref a2, .ref a3, .ref a4, .ref a5, .int 0, .int 0, .int 0, .int 0, .int 0, .long 0]] s.heap [] := B
  refine lv_aload_n E.x E.b dX3_begin_0 rfl (lv_at hl 1 rfl) ?_
  refine z_callv E B (wc := [zo a1 6 [.ref a2, .ref a3, .ref a4, .ref a5, .int 0, .int 0, .int 0, .int 0, .int 0, .long 0]]) (wr := [zo a0 2 [.int 0, .int 0, .int 0, .int 0, .int 0, .int 0]]) [1] [0] rfl rfl (by decide) (by decide) (z_runV E B (As := []) (rest := []) [1] rfl (by decide) mv_X8_begin t_446 0 (ci := 6) rfl rfl rfl (c_X8_begin_44 l G _ a1 a2 a3 a4 a5) rfl rfl ⟨Nat.le_of_ble_eq_true rfl, Nat.le_of_ble_eq_true rfl⟩ rfl hl.1 rfl (Nat.le_of_ble_eq_true rfl) dX3_begin_1 ⟨(Nat.le_of_ble_eq_true rfl), (Nat.le_of_ble_eq_true rfl)⟩) (fun  t H locs hp hB J => ?_)
  have hq := hB
  have B := J _ hq
  have B : zB G A s.heap [zo a0 2 [.int 0, .int 0, .int 0, .int 0, .int 0, .int 0], zo a1 6 [.ref a2, .ref a3, .ref a4, .ref a5, .int 0, .int 0, .int 0, .int 0, .int 0, .long 0]] _ _ := B
  refine lv_aload_n E.x E.b dX3_begin_4 rfl (lv_at hl 0 rfl) ?_
  refine lv_iconst (v := (-1)) E.x E.b dX3_begin_5 (by decide) ?_
  refine z_put E B z_inX3 tyX3 tyX3_ok nmX3 (ci := 2) rfl 0 (by decide) rfl (ty := .int) (by decide +kernel) t_201 0 rfl (Nat.le_of_ble_eq_true rfl) rfl rfl dX3_begin_6 (fun H locs B => ?_)
  have B : zB G A s.heap [zo a0 2 [.int (-1), .int 0, .int 0, .int 0, .int 0, .int 0], zo a1 6 [.ref a2, .ref a3, .ref a4, .ref a5, .int 0, .int 0, .int 0, .int 0, .int 0, .long 0]] _ _ := B
  refine lv_aload_n E.x E.b dX3_begin_9 rfl (lv_at hl 0 rfl) ?_
  refine lv_iconst (v := 0) E.x E.b dX3_begin_10 (by decide) ?_
  refine z_put E B z_inX3 tyX3 tyX3_ok nmX3 (ci := 2) rfl 1 (by decide) rfl (ty := .int) (by decide +kernel) t_203 0 rfl (Nat.le_of_ble_eq_true rfl) rfl rfl dX3_begin_11 (fun H locs B => ?_)
  have B : zB G A s.heap [zo a0 2 [.int (-1), .int 0, .int 0, .int 0, .int 0, .int 0], zo a1 6 [.ref a2, .ref a3, .ref a4, .ref a5, .int 0, .int 0, .int 0, .int 0, .int 0, .long 0]] _ _ := B
  refine lv_aload_n E.x E.b dX3_begin_14 rfl (lv_at hl 0 rfl) ?_
  refine lv_iconst (v := 0) E.x E.b dX3_begin_15 (by decide) ?_
  refine z_put E B z_inX3 tyX3 tyX3_ok nmX3 (ci := 2) rfl 2 (by decide) rfl (ty := .int) (by decide +kernel) t_204 0 rfl (Nat.le_of_ble_eq_true rfl) rfl rfl dX3_begin_16 (fun H locs B => ?_)
  have B : zB G A s.heap [zo a0 2 [.int (-1), .int 0, .int 0, .int 0, .int 0, .int 0], zo a1 6 [.ref a2, .ref a3, .ref a4, .ref a5, .int 0, .int 0, .int 0, .int 0, .int 0, .long 0]] _ _ := B
  refine lv_aload_n E.x E.b dX3_begin_19 rfl (lv_at hl 0 rfl) ?_
  refine lv_iconst (v := 0) E.x E.b dX3_begin_20 (by decide) ?_
  refine z_put E B z_inX3 tyX3 tyX3_ok nmX3 (ci := 2) rfl 3 (by decide) rfl (ty := .int) (by decide +kernel) t_205 0 rfl (Nat.le_of_ble_eq_true rfl) rfl rfl dX3_begin_21 (fun H locs B => ?_)
  have B : zB G A s.heap [zo a0 2 [.int (-1), .int 0, .int 0, .int 0, .int 0, .int 0], zo a1 6 [.ref a2, .ref a3, .ref a4, .ref a5, .int 0, .int 0, .int 0, .int 0, .int 0, .long 0]] _ _ := B
  refine W.widen (k := 0) (n := 0) (Nat.le_of_ble_eq_true rfl) (Nat.le_of_ble_eq_true rfl) ?_
  exact z_vret E hr hlocks B trivial (fun t ht => z_q B [0, 1] (by decide) rfl ht) dX3_begin_24
set_option maxHeartbeats 4000000 in
set_option maxRecDepth 100000 in
theorem c_X8_byteAt_46 (l : Launch) (G : zGT) (sz : Nat) (a0 a1 a2 a3 a4 : Nat) : Met l yX8_byteAt (.code yX8_byteAt cX8_byteAt 2 (some .int) :: zT) ({ frames := 0, cells := 0, slots := 0, locals := 64 }) (va_Pc [.ref a0, .int 0] (zPc G [zo a0 6 [.ref a1, .ref a2, .ref a3, .ref a4, .int 0, .int 0, .int 0, .int 0, .int 0, .long 0]] sz)) ((fun A => va_Qi (fun (r : Int32) (_ : Unit) => r = (-1)) (fun (_ : Unit) t => zQ G [zo a0 6 [.ref a1, .ref a2, .ref a3, .ref a4, .int 0, .int 0, .int 0, .int 0, .int 0, .long 0]] A t) A) (va_A [zo a0 6 [.ref a1, .ref a2, .ref a3, .ref a4, .int 0, .int 0, .int 0, .int 0, .int 0, .long 0]] sz)) 0 0 (va_A [zo a0 6 [.ref a1, .ref a2, .ref a3, .ref a4, .int 0, .int 0, .int 0, .int 0, .int 0, .long 0]] sz) := by
  refine z_start (y := yX8_byteAt) (bytes := cX8_byteAt) (maxL := 2) (ret := (some .int)) (av := [.ref a0, .int 0]) (QA := (fun A => va_Qi (fun (r : Int32) (_ : Unit) => r = (-1)) (fun (_ : Unit) t => zQ G [zo a0 6 [.ref a1, .ref a2, .ref a3, .ref a4, .int 0, .int 0, .int 0, .int 0, .int 0, .long 0]] A t) A)) (by decide) ⟨Nat.le_of_ble_eq_true rfl, trivial⟩ ?_
  intro p e s m below meth c A ls E B hr hlocks hin hl
  have hl : lv_has ls 2 [(0, .ref a0), (1, .int 0)] := hl
  have B : zB G A s.heap [zo a0 6 [.ref a1, .ref a2, .ref a3, .ref a4, .int 0, .int 0, .int 0, .int 0, .int 0, .long 0]] s.heap [] := B
  refine lv_iload_n E.x E.b dX8_byteAt_0 rfl (lv_at hl 1 rfl) ?_
  refine lv_if_lt (tgt := 32) E.x E.b dX8_byteAt_1 (by decide) (fun c => absurd c (by decide +kernel)) (fun _ => ?_)
  refine lv_iload_n E.x E.b dX8_byteAt_4 rfl (lv_at hl 1 rfl) ?_
  refine lv_aload_n E.x E.b dX8_byteAt_5 rfl (lv_at hl 0 rfl) ?_
  refine z_get E B z_inX8 (ci := 6) rfl 4 (by decide) t_160 0 rfl rfl dX8_byteAt_6 ?_
  refine lv_icmp_ge (tgt := 32) E.x E.b dX8_byteAt_9 (by decide) (fun _ => ?_) (fun c => absurd (by decide +kernel) c)
  refine lv_iconst (v := (-1)) E.x E.b dX8_byteAt_32 (by decide) ?_
  refine W.widen (k := 0) (n := 0) (Nat.le_of_ble_eq_true rfl) (Nat.le_of_ble_eq_true rfl) ?_
  exact z_iret E hr hlocks B (v := (-1)) rfl (fun t ht => z_q B [0] (by decide) rfl ht) dX8_byteAt_33
set_option maxHeartbeats 4000000 in
set_option maxRecDepth 100000 in
theorem c_X8_advance_47 (l : Launch) (G : zGT) (sz : Nat) (a0 a1 a2 a3 a4 : Nat) : Met l yX8_advance (.code yX8_advance cX8_advance 2 none :: zT) ({ frames := 1, cells := 0, slots := 0, locals := 85 }) (va_Pc [.ref a0] (zPc G [zo a0 6 [.ref a1, .ref a2, .ref a3, .ref a4, .int 0, .int 0, .int 0, .int 0, .int 0, .long 0]] sz)) ((fun A => va_Qv (fun (_ : Unit) => True) (fun (_ : Unit) t => zQ G [zo a0 6 [.ref a1, .ref a2, .ref a3, .ref a4, .int 0, .int 0, .int 1, .int 0, .int 0, .long 0]] A t) A) (va_A [zo a0 6 [.ref a1, .ref a2, .ref a3, .ref a4, .int 0, .int 0, .int 0, .int 0, .int 0, .long 0]] sz)) 0 0 (va_A [zo a0 6 [.ref a1, .ref a2, .ref a3, .ref a4, .int 0, .int 0, .int 0, .int 0, .int 0, .long 0]] sz) := by
  refine z_start (y := yX8_advance) (bytes := cX8_advance) (maxL := 2) (ret := none) (av := [.ref a0]) (QA := (fun A => va_Qv (fun (_ : Unit) => True) (fun (_ : Unit) t => zQ G [zo a0 6 [.ref a1, .ref a2, .ref a3, .ref a4, .int 0, .int 0, .int 1, .int 0, .int 0, .long 0]] A t) A)) (by decide) ⟨Nat.le_of_ble_eq_true rfl, trivial⟩ ?_
  intro p e s m below meth c A ls E B hr hlocks hin hl
  have hl : lv_has ls 2 [(0, .ref a0)] := hl
  have B : zB G A s.heap [zo a0 6 [.ref a1, .ref a2, .ref a3, .ref a4, .int 0, .int 0, .int 0, .int 0, .int 0, .long 0]] s.heap [] := B
  refine lv_aload_n E.x E.b dX8_advance_0 rfl (lv_at hl 0 rfl) ?_
  refine z_get E B z_inX8 (ci := 6) rfl 8 (by decide) t_169 0 rfl rfl dX8_advance_1 ?_
  refine lv_aload_n E.x E.b dX8_advance_4 rfl (lv_at hl 0 rfl) ?_
  refine z_get E B z_inX8 (ci := 6) rfl 4 (by decide) t_160 0 rfl rfl dX8_advance_5 ?_
  refine lv_icmp_ge (tgt := 38) E.x E.b dX8_advance_8 (by decide) (fun _ => ?_) (fun c => absurd (by decide +kernel) c)
  refine lv_aload_n E.x E.b dX8_advance_38 rfl (lv_at hl 0 rfl) ?_
  refine lv_aload_n E.x E.b dX8_advance_39 rfl (lv_at hl 0 rfl) ?_
  refine z_get E B z_inX8 (ci := 6) rfl 8 (by decide) t_169 0 rfl rfl dX8_advance_40 ?_
  refine z_put E B z_inX8 tyX8 tyX8_ok nmX8 (ci := 6) rfl 7 (by decide) rfl (ty := .int) (by decide +kernel) t_168 0 rfl (Nat.le_of_ble_eq_true rfl) rfl rfl dX8_advance_43 (fun H locs B => ?_)
  have B : zB G A s.heap [zo a0 6 [.ref a1, .ref a2, .ref a3, .ref a4, .int 0, .int 0, .int 0, .int 0, .int 0, .long 0]] _ _ := B
  refine lv_aload_n E.x E.b dX8_advance_46 rfl (lv_at hl 0 rfl) ?_
  refine lv_lconst (v := 0) E.x E.b dX8_advance_47 (by decide) ?_
  refine z_put E B z_inX8 tyX8 tyX8_ok nmX8 (ci := 6) rfl 9 (by decide) rfl (ty := .long) (by decide +kernel) t_170 0 rfl (Nat.le_of_ble_eq_true rfl) rfl rfl dX8_advance_48 (fun H locs B => ?_)
  have B : zB G A s.heap [zo a0 6 [.ref a1, .ref a2, .ref a3, .ref a4, .int 0, .int 0, .int 0, .int 0, .int 0, .long 0]] _ _ := B
  refine lv_aload_n E.x E.b dX8_advance_51 rfl (lv_at hl 0 rfl) ?_
  refine lv_aload_n E.x E.b dX8_advance_52 rfl (lv_at hl 0 rfl) ?_
  refine z_get E B z_inX8 (ci := 6) rfl 7 (by decide) t_168 0 rfl rfl dX8_advance_53 ?_
  refine z_calli E B (wc := [zo a0 6 [.ref a1, .ref a2, .ref a3, .ref a4, .int 0, .int 0, .int 0, .int 0, .int 0, .long 0]]) (wr := []) [0] [] rfl rfl (by decide) (by decide) (z_runV E B (As := [.int 0]) (rest := []) [0] rfl (by decide) mv_X8_byteAt t_454 0 (ci := 6) rfl rfl rfl (c_X8_byteAt_46 l G _ a0 a1 a2 a3 a4) rfl rfl ⟨Nat.le_of_ble_eq_true rfl, Nat.le_of_ble_eq_true rfl⟩ rfl hl.1 rfl (Nat.le_of_ble_eq_true rfl) dX8_advance_56 ⟨(Nat.le_of_ble_eq_true rfl), (Nat.le_of_ble_eq_true rfl)⟩) (fun r t H locs hp hB J => ?_)
  have hq := hB
  have B := J _ hq
  have B : zB G A s.heap [zo a0 6 [.ref a1, .ref a2, .ref a3, .ref a4, .int 0, .int 0, .int 0, .int 0, .int 0, .long 0]] _ _ := B
  have hp := hp.symm
  subst hp
  refine lv_istore_n (lv' := [(1, .int (-1)), (0, .ref a0)]) E.x E.b dX8_advance_59 rfl hl (by decide) rfl (fun ls hl => ?_)
  refine lv_iload_n E.x E.b dX8_advance_60 rfl (lv_at hl 0 rfl) ?_
  refine lv_iconst (v := (-1)) E.x E.b dX8_advance_61 (by decide) ?_
  refine lv_icmp_ne (tgt := 73) E.x E.b dX8_advance_62 (by decide) (fun c => absurd (by decide +kernel) c) (fun _ => ?_)
  refine lv_aload_n E.x E.b dX8_advance_65 rfl (lv_at hl 1 rfl) ?_
  refine lv_iconst (v := 1) E.x E.b dX8_advance_66 (by decide) ?_
  refine z_put E B z_inX8 tyX8 tyX8_ok nmX8 (ci := 6) rfl 6 (by decide) rfl (ty := .int) (by decide +kernel) t_166 0 rfl (Nat.le_of_ble_eq_true rfl) rfl rfl dX8_advance_67 (fun H locs B => ?_)
  have B : zB G A s.heap [zo a0 6 [.ref a1, .ref a2, .ref a3, .ref a4, .int 0, .int 0, .int 1, .int 0, .int 0, .long 0]] _ _ := B
  refine lv_goto (tgt := 119) E.x E.b dX8_advance_70 (by decide) ?_
  refine W.widen (k := 0) (n := 0) (Nat.le_of_ble_eq_true rfl) (Nat.le_of_ble_eq_true rfl) ?_
  exact z_vret E hr hlocks B trivial (fun t ht => z_q B [0] (by decide) rfl ht) dX8_advance_119
set_option maxHeartbeats 4000000 in
set_option maxRecDepth 100000 in
theorem c_X3_check_48 (l : Launch) (G : zGT) (sz : Nat) (a0 a1 a2 a3 a4 a5 : Nat) : Met l yX3_check (.code yX3_check cX3_check 4 (some .int) :: zT) ({ frames := 2, cells := 0, slots := 0, locals := 106 }) (va_Pc [.ref a0, .ref a1] (zPc G [zo a0 2 [.int 0, .int 0, .int 0, .int 0, .int 0, .int 0], zo a1 6 [.ref a2, .ref a3, .ref a4, .ref a5, .int 0, .int 0, .int 0, .int 0, .int 0, .long 0]] sz)) ((fun A => va_Qi (fun (r : Int32) (_ : Unit) => r = 0) (fun (_ : Unit) t => zQ G [zo a0 2 [.int (-1), .int 0, .int 0, .int 0, .int 0, .int 0], zo a1 6 [.ref a2, .ref a3, .ref a4, .ref a5, .int 0, .int 0, .int 1, .int 0, .int 0, .long 0]] A t) A) (va_A [zo a0 2 [.int 0, .int 0, .int 0, .int 0, .int 0, .int 0], zo a1 6 [.ref a2, .ref a3, .ref a4, .ref a5, .int 0, .int 0, .int 0, .int 0, .int 0, .long 0]] sz)) 0 0 (va_A [zo a0 2 [.int 0, .int 0, .int 0, .int 0, .int 0, .int 0], zo a1 6 [.ref a2, .ref a3, .ref a4, .ref a5, .int 0, .int 0, .int 0, .int 0, .int 0, .long 0]] sz) := by
  refine z_start (y := yX3_check) (bytes := cX3_check) (maxL := 4) (ret := (some .int)) (av := [.ref a0, .ref a1]) (QA := (fun A => va_Qi (fun (r : Int32) (_ : Unit) => r = 0) (fun (_ : Unit) t => zQ G [zo a0 2 [.int (-1), .int 0, .int 0, .int 0, .int 0, .int 0], zo a1 6 [.ref a2, .ref a3, .ref a4, .ref a5, .int 0, .int 0, .int 1, .int 0, .int 0, .long 0]] A t) A)) (by decide) ⟨Nat.le_of_ble_eq_true rfl, trivial⟩ ?_
  intro p e s m below meth c A ls E B hr hlocks hin hl
  have hl : lv_has ls 4 [(0, .ref a0), (1, .ref a1)] := hl
  have B : zB G A s.heap [zo a0 2 [.int 0, .int 0, .int 0, .int 0, .int 0, .int 0], zo a1 6 [.ref a2, .ref a3, .ref a4, .ref a5, .int 0, .int 0, .int 0, .int 0, .int 0, .long 0]] s.heap [] := B
  refine lv_aload_n E.x E.b dX3_check_0 rfl (lv_at hl 0 rfl) ?_
  refine lv_aload_n E.x E.b dX3_check_1 rfl (lv_at hl 1 rfl) ?_
  refine z_callv E B (wc := [zo a0 2 [.int 0, .int 0, .int 0, .int 0, .int 0, .int 0], zo a1 6 [.ref a2, .ref a3, .ref a4, .ref a5, .int 0, .int 0, .int 0, .int 0, .int 0, .long 0]]) (wr := []) [0, 1] [] rfl rfl (by decide) (by decide) (z_runV E B (As := [.ref a1]) (rest := []) [0, 1] rfl (by decide) mv_X3_begin t_442 0 (ci := 2) rfl rfl rfl (c_X3_begin_45 l G _ a0 a1 a2 a3 a4 a5) rfl rfl ⟨Nat.le_of_ble_eq_true rfl, Nat.le_of_ble_eq_true rfl⟩ rfl hl.1 rfl (Nat.le_of_ble_eq_true rfl) dX3_check_2 ⟨(Nat.le_of_ble_eq_true rfl), (Nat.le_of_ble_eq_true rfl)⟩) (fun  t H locs hp hB J => ?_)
  have hq := hB
  have B := J _ hq
  have B : zB G A s.heap [zo a0 2 [.int (-1), .int 0, .int 0, .int 0, .int 0, .int 0], zo a1 6 [.ref a2, .ref a3, .ref a4, .ref a5, .int 0, .int 0, .int 0, .int 0, .int 0, .long 0]] _ _ := B
  refine lv_aload_n E.x E.b dX3_check_5 rfl (lv_at hl 1 rfl) ?_
  refine z_get E B z_inX8 (ci := 6) rfl 4 (by decide) t_161 1 rfl rfl dX3_check_6 ?_
  refine lv_istore_n (lv' := [(2, .int 0), (0, .ref a0), (1, .ref a1)]) E.x E.b dX3_check_9 rfl hl (by decide) rfl (fun ls hl => ?_)
  refine lv_iload_n E.x E.b dX3_check_10 rfl (lv_at hl 0 rfl) ?_
  refine lv_if_lt (tgt := 65) E.x E.b dX3_check_11 (by decide) (fun c => absurd c (by decide +kernel)) (fun _ => ?_)
  refine lv_aload_n E.x E.b dX3_check_14 rfl (lv_at hl 2 rfl) ?_
  refine z_callv E B (wc := [zo a1 6 [.ref a2, .ref a3, .ref a4, .ref a5, .int 0, .int 0, .int 0, .int 0, .int 0, .long 0]]) (wr := [zo a0 2 [.int (-1), .int 0, .int 0, .int 0, .int 0, .int 0]]) [1] [0] rfl rfl (by decide) (by decide) (z_runV E B (As := []) (rest := []) [1] rfl (by decide) mv_X8_advance t_450 0 (ci := 6) rfl rfl rfl (c_X8_advance_47 l G _ a1 a2 a3 a4 a5) rfl rfl ⟨Nat.le_of_ble_eq_true rfl, Nat.le_of_ble_eq_true rfl⟩ rfl hl.1 rfl (Nat.le_of_ble_eq_true rfl) dX3_check_15 ⟨(Nat.le_of_ble_eq_true rfl), (Nat.le_of_ble_eq_true rfl)⟩) (fun  t H locs hp hB J => ?_)
  have hq := hB
  have B := J _ hq
  have B : zB G A s.heap [zo a0 2 [.int (-1), .int 0, .int 0, .int 0, .int 0, .int 0], zo a1 6 [.ref a2, .ref a3, .ref a4, .ref a5, .int 0, .int 0, .int 1, .int 0, .int 0, .long 0]] _ _ := B
  refine lv_aload_n E.x E.b dX3_check_18 rfl (lv_at hl 2 rfl) ?_
  refine z_get E B z_inX8 (ci := 6) rfl 6 (by decide) t_165 1 rfl rfl dX3_check_19 ?_
  refine lv_iconst (v := 1) E.x E.b dX3_check_22 (by decide) ?_
  refine lv_icmp_ne (tgt := 35) E.x E.b dX3_check_23 (by decide) (fun c => absurd (by decide +kernel) c) (fun _ => ?_)
  refine lv_aload_n E.x E.b dX3_check_26 rfl (lv_at hl 1 rfl) ?_
  refine z_get E B z_inX3 (ci := 2) rfl 1 (by decide) t_203 0 rfl rfl dX3_check_27 ?_
  refine lv_if_ne (tgt := 35) E.x E.b dX3_check_30 (by decide) (fun c => absurd (by decide +kernel) c) (fun _ => ?_)
  refine lv_iconst (v := 0) E.x E.b dX3_check_33 (by decide) ?_
  refine W.widen (k := 0) (n := 0) (Nat.le_of_ble_eq_true rfl) (Nat.le_of_ble_eq_true rfl) ?_
  exact z_iret E hr hlocks B (v := 0) rfl (fun t ht => z_q B [0, 1] (by decide) rfl ht) dX3_check_34
set_option maxHeartbeats 4000000 in
set_option maxRecDepth 100000 in
theorem c_X5_collectNames_49 (l : Launch) (G : zGT) (sz : Nat) (a0 a1 a2 a3 a4 a5 a6 : Nat) : Met l yX5_collectNames (.code yX5_collectNames cX5_collectNames 3 none :: zT) ({ frames := 0, cells := 0, slots := 0, locals := 64 }) (va_Pc [.ref a0, .ref a1] (zPc G [zo a0 4 [.int (-1), .int 0, .ref a2], zo a1 6 [.ref a3, .ref a4, .ref a5, .ref a6, .int 0, .int 0, .int 1, .int 0, .int 0, .long 0]] sz)) ((fun A => va_Qv (fun (_ : Unit) => True) (fun (_ : Unit) t => zQ G [zo a0 4 [.int (-1), .int 0, .ref a2], zo a1 6 [.ref a3, .ref a4, .ref a5, .ref a6, .int 0, .int 0, .int 1, .int 0, .int 0, .long 0]] A t) A) (va_A [zo a0 4 [.int (-1), .int 0, .ref a2], zo a1 6 [.ref a3, .ref a4, .ref a5, .ref a6, .int 0, .int 0, .int 1, .int 0, .int 0, .long 0]] sz)) 0 0 (va_A [zo a0 4 [.int (-1), .int 0, .ref a2], zo a1 6 [.ref a3, .ref a4, .ref a5, .ref a6, .int 0, .int 0, .int 1, .int 0, .int 0, .long 0]] sz) := by
  refine z_start (y := yX5_collectNames) (bytes := cX5_collectNames) (maxL := 3) (ret := none) (av := [.ref a0, .ref a1]) (QA := (fun A => va_Qv (fun (_ : Unit) => True) (fun (_ : Unit) t => zQ G [zo a0 4 [.int (-1), .int 0, .ref a2], zo a1 6 [.ref a3, .ref a4, .ref a5, .ref a6, .int 0, .int 0, .int 1, .int 0, .int 0, .long 0]] A t) A)) (by decide) ⟨Nat.le_of_ble_eq_true rfl, trivial⟩ ?_
  intro p e s m below meth c A ls E B hr hlocks hin hl
  have hl : lv_has ls 3 [(0, .ref a0), (1, .ref a1)] := hl
  have B : zB G A s.heap [zo a0 4 [.int (-1), .int 0, .ref a2], zo a1 6 [.ref a3, .ref a4, .ref a5, .ref a6, .int 0, .int 0, .int 1, .int 0, .int 0, .long 0]] s.heap [] := B
  refine lv_aload_n E.x E.b dX5_collectNames_0 rfl (lv_at hl 0 rfl) ?_
  refine lv_iconst (v := 0) E.x E.b dX5_collectNames_1 (by decide) ?_
  refine z_put E B z_inX5 tyX5 tyX5_ok nmX5 (ci := 4) rfl 1 (by decide) rfl (ty := .int) (by decide +kernel) t_229 0 rfl (Nat.le_of_ble_eq_true rfl) rfl rfl dX5_collectNames_2 (fun H locs B => ?_)
  have B : zB G A s.heap [zo a0 4 [.int (-1), .int 0, .ref a2], zo a1 6 [.ref a3, .ref a4, .ref a5, .ref a6, .int 0, .int 0, .int 1, .int 0, .int 0, .long 0]] _ _ := B
  refine lv_iconst (v := 0) E.x E.b dX5_collectNames_5 (by decide) ?_
  refine lv_istore_n (lv' := [(2, .int 0), (0, .ref a0), (1, .ref a1)]) E.x E.b dX5_collectNames_6 rfl hl (by decide) rfl (fun ls hl => ?_)
  refine lv_iload_n E.x E.b dX5_collectNames_7 rfl (lv_at hl 0 rfl) ?_
  refine lv_aload_n E.x E.b dX5_collectNames_8 rfl (lv_at hl 2 rfl) ?_
  refine z_get E B z_inX8 (ci := 6) rfl 5 (by decide) t_163 1 rfl rfl dX5_collectNames_9 ?_
  refine lv_icmp_ge (tgt := 64) E.x E.b dX5_collectNames_12 (by decide) (fun _ => ?_) (fun c => absurd (by decide +kernel) c)
  refine W.widen (k := 0) (n := 0) (Nat.le_of_ble_eq_true rfl) (Nat.le_of_ble_eq_true rfl) ?_
  exact z_vret E hr hlocks B trivial (fun t ht => z_q B [0, 1] (by decide) rfl ht) dX5_collectNames_64
