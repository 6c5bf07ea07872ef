set_option maxHeartbeats 4000000 in
set_option maxRecDepth 100000 in
theorem c_X7_keep_85 (l : Launch) (G : zGT) (sz : Nat) (a0 a1 a2 a3 a4 a5 a6 : Nat) : Met l yX7_keep (.code yX7_keep cX7_keep 3 none :: zT) ({ frames := 1, cells := 0, slots := 0, locals := 87 }) (va_Pc [.ref a0, .int 0, .int 0] (zPc G [zo a0 5 [.ref a3, .ref a2, .ref a1, .ref a4, .ref a5, .ref a6, .int 0, .int 0, .int 0, .int (-1)], zi G a1 3600 (fun _ => 0), zi G a2 8192 (fun _ => 0)] sz)) ((fun A => va_Qv (fun (_ : Unit) => True) (fun (_ : Unit) t => zQ G [zo a0 5 [.ref a3, .ref a2, .ref a1, .ref a4, .ref a5, .ref a6, .int 1, .int 0, .int 0, .int (-1)], zi G a1 3600 (fun _ => 0), zi G a2 8192 (upd (fun _ => 0) 0 16777216)] A t) A) (va_A [zo a0 5 [.ref a3, .ref a2, .ref a1, .ref a4, .ref a5, .ref a6, .int 0, .int 0, .int 0, .int (-1)], zi G a1 3600 (fun _ => 0), zi G a2 8192 (fun _ => 0)] sz)) 0 0 (va_A [zo a0 5 [.ref a3, .ref a2, .ref a1, .ref a4, .ref a5, .ref a6, .int 0, .int 0, .int 0, .int (-1)], zi G a1 3600 (fun _ => 0), zi G a2 8192 (fun _ => 0)] sz) := by
  refine z_start (y := yX7_keep) (bytes := cX7_keep) (maxL := 3) (ret := none) (av := [.ref a0, .int 0, .int 0]) (QA := (fun A => va_Qv (fun (_ : Unit) => True) (fun (_ : Unit) t => zQ G [zo a0 5 [.ref a3, .ref a2, .ref a1, .ref a4, .ref a5, .ref a6, .int 1, .int 0, .int 0, .int (-1)], zi G a1 3600 (fun _ => 0), zi G a2 8192 (upd (fun _ => 0) 0 16777216)] A t) A)) (by decide) ⟨Nat.le_of_ble_eq_true rfl, trivial⟩ ?_
  intro p e s m below meth c A ls E B hr hlocks hin hl
  have hl : lv_has ls 3 [(0, .ref a0), (1, .int 0), (2, .int 0)] := hl
  have B : zB G A s.heap [zo a0 5 [.ref a3, .ref a2, .ref a1, .ref a4, .ref a5, .ref a6, .int 0, .int 0, .int 0, .int (-1)], zi G a1 3600 (fun _ => 0), zi G a2 8192 (fun _ => 0)] s.heap [] := B
  refine lv_aload_n E.x E.b dX7_keep_0 rfl (lv_at hl 0 rfl) ?_
  refine z_get E B z_inX7 (ci := 5) rfl 6 (by decide) t_863 0 rfl rfl dX7_keep_1 ?_
  refine lv_sipush (v := 3600) E.x E.b dX7_keep_4 (by decide) ?_
  refine lv_icmp_lt (tgt := 11) E.x E.b dX7_keep_7 (by decide) (fun _ => ?_) (fun c => absurd (by decide +kernel) c)
  refine lv_aload_n E.x E.b dX7_keep_11 rfl (lv_at hl 0 rfl) ?_
  refine z_get E B z_inX7 (ci := 5) rfl 2 (by decide) t_859 0 rfl rfl dX7_keep_12 ?_
  refine lv_aload_n E.x E.b dX7_keep_15 rfl (lv_at hl 0 rfl) ?_
  refine z_get E B z_inX7 (ci := 5) rfl 6 (by decide) t_863 0 rfl rfl dX7_keep_16 ?_
  refine lv_iload_n E.x E.b dX7_keep_19 rfl (lv_at hl 1 rfl) ?_
  refine z_iast0 E B 1 rfl (show ¬ ((0 : Int32) < 0 ∨ 3600 ≤ (0 : Int32).toNatClampNeg) by decide +kernel) dX7_keep_20 (fun H locs B => ?_)
  have B : zB G A s.heap [zo a0 5 [.ref a3, .ref a2, .ref a1, .ref a4, .ref a5, .ref a6, .int 0, .int 0, .int 0, .int (-1)], zi G a1 3600 (fun _ => 0), zi G a2 8192 (fun _ => 0)] _ _ := B
  refine lv_aload_n E.x E.b dX7_keep_21 rfl (lv_at hl 0 rfl) ?_
  refine lv_dup E.x E.b dX7_keep_22 rfl ?_
  refine z_get E B z_inX7 (ci := 5) rfl 6 (by decide) t_863 0 rfl rfl dX7_keep_23 ?_
  refine lv_iconst (v := 1) E.x E.b dX7_keep_26 (by decide) ?_
  refine lv_iadd E.x E.b dX7_keep_27 (z_topi 1 (by decide +kernel) ?_)
  refine z_put E B z_inX7 tyX7 tyX7_ok nmX7 (ci := 5) rfl 6 (by decide) rfl (ty := .int) (by decide +kernel) t_863 0 rfl (Nat.le_of_ble_eq_true rfl) rfl rfl dX7_keep_28 (fun H locs B => ?_)
  have B : zB G A s.heap [zo a0 5 [.ref a3, .ref a2, .ref a1, .ref a4, .ref a5, .ref a6, .int 1, .int 0, .int 0, .int (-1)], zi G a1 3600 (fun _ => 0), zi G a2 8192 (fun _ => 0)] _ _ := B
  refine lv_aload_n E.x E.b dX7_keep_31 rfl (lv_at hl 0 rfl) ?_
  refine z_get E B z_inX7 (ci := 5) rfl 1 (by decide) t_858 0 rfl rfl dX7_keep_32 ?_
  refine lv_aload_n E.x E.b dX7_keep_35 rfl (lv_at hl 0 rfl) ?_
  refine lv_iload_n E.x E.b dX7_keep_36 rfl (lv_at hl 1 rfl) ?_
  refine z_calli E B (wc := [zo a0 5 [.ref a3, .ref a2, .ref a1, .ref a4, .ref a5, .ref a6, .int 1, .int 0, .int 0, .int (-1)], zi G a2 8192 (fun _ => 0)]) (wr := [zi G a1 3600 (fun _ => 0)]) [0, 2] [1] rfl rfl (by decide) (by decide) (z_runV E B (As := [.int 0]) (rest := [.ref a2]) [0, 2] rfl (by decide) mv_X7_placeOf t_909 0 (ci := 5) rfl rfl rfl (c_X7_placeOf_84 l G _ a0 a2 a3 a1 a4 a5 a6) rfl rfl ⟨Nat.le_of_ble_eq_true rfl, Nat.le_of_ble_eq_true rfl⟩ rfl hl.1 rfl (Nat.le_of_ble_eq_true rfl) dX7_keep_37 ⟨(Nat.le_of_ble_eq_true rfl), (Nat.le_of_ble_eq_true rfl)⟩) (fun r t H locs hp hB J => ?_)
  have hq := hB
  have B := J _ hq
  have B : zB G A s.heap [zi G a1 3600 (fun _ => 0), zo a0 5 [.ref a3, .ref a2, .ref a1, .ref a4, .ref a5, .ref a6, .int 1, .int 0, .int 0, .int (-1)], zi G a2 8192 (fun _ => 0)] _ _ := B
  have hp := hp.symm
  subst hp
  refine lv_iload_n E.x E.b dX7_keep_40 rfl (lv_at hl 2 rfl) ?_
  refine lv_iconst (v := 1) E.x E.b dX7_keep_41 (by decide) ?_
  refine lv_iadd E.x E.b dX7_keep_42 (z_topi 1 (by decide +kernel) ?_)
  refine lv_bipush (v := 24) E.x E.b dX7_keep_43 (by decide) ?_
  refine lv_ishl E.x E.b dX7_keep_45 (z_topi 16777216 (by decide +kernel) ?_)
  refine lv_iload_n E.x E.b dX7_keep_46 rfl (lv_at hl 1 rfl) ?_
  refine lv_ior E.x E.b dX7_keep_47 (z_topi 16777216 (by decide +kernel) ?_)
  refine z_iast E B 2 rfl (show ¬ ((0 : Int32) < 0 ∨ 8192 ≤ (0 : Int32).toNatClampNeg) by decide +kernel) dX7_keep_48 (fun H locs B => ?_)
  have B : zB G A s.heap [zi G a1 3600 (fun _ => 0), zo a0 5 [.ref a3, .ref a2, .ref a1, .ref a4, .ref a5, .ref a6, .int 1, .int 0, .int 0, .int (-1)], zi G a2 8192 (upd (fun _ => 0) 0 16777216)] _ _ := B
  refine W.widen (k := 0) (n := 0) (Nat.le_of_ble_eq_true rfl) (Nat.le_of_ble_eq_true rfl) ?_
  exact z_vret E hr hlocks B trivial (fun t ht => z_q B [1, 0, 2] (by decide) rfl ht) dX7_keep_49
set_option maxHeartbeats 4000000 in
set_option maxRecDepth 100000 in
theorem c_X7_keepNext_86 (l : Launch) (G : zGT) (sz : Nat) (a0 a1 a2 a3 a4 a5 a6 : Nat) : Met l yX7_keepNext (.code yX7_keepNext cX7_keepNext 5 none :: zT) ({ frames := 0, cells := 0, slots := 0, locals := 64 }) (va_Pc [.ref a0, .int 0, .int 1] (zPc G [zo a0 5 [.ref a1, .ref a2, .ref a3, .ref a4, .ref a5, .ref a6, .int 1, .int 0, .int 0, .int (-1)]] sz)) ((fun A => va_Qv (fun (_ : Unit) => True) (fun (_ : Unit) t => zQ G [zo a0 5 [.ref a1, .ref a2, .ref a3, .ref a4, .ref a5, .ref a6, .int 1, .int 0, .int 0, .int (-1)]] A t) A) (va_A [zo a0 5 [.ref a1, .ref a2, .ref a3, .ref a4, .ref a5, .ref a6, .int 1, .int 0, .int 0, .int (-1)]] sz)) 0 0 (va_A [zo a0 5 [.ref a1, .ref a2, .ref a3, .ref a4, .ref a5, .ref a6, .int 1, .int 0, .int 0, .int (-1)]] sz) := by
  refine z_start (y := yX7_keepNext) (bytes := cX7_keepNext) (maxL := 5) (ret := none) (av := [.ref a0, .int 0, .int 1]) (QA := (fun A => va_Qv (fun (_ : Unit) => True) (fun (_ : Unit) t => zQ G [zo a0 5 [.ref a1, .ref a2, .ref a3, .ref a4, .ref a5, .ref a6, .int 1, .int 0, .int 0, .int (-1)]] A t) A)) (by decide) ⟨Nat.le_of_ble_eq_true rfl, trivial⟩ ?_
  intro p e s m below meth c A ls E B hr hlocks hin hl
  have hl : lv_has ls 5 [(0, .ref a0), (1, .int 0), (2, .int 1)] := hl
  have B : zB G A s.heap [zo a0 5 [.ref a1, .ref a2, .ref a3, .ref a4, .ref a5, .ref a6, .int 1, .int 0, .int 0, .int (-1)]] s.heap [] := B
  refine lv_iconst (v := 0) E.x E.b dX7_keepNext_0 (by decide) ?_
  refine lv_istore_n (lv' := [(3, .int 0), (0, .ref a0), (1, .int 0), (2, .int 1)]) E.x E.b dX7_keepNext_1 rfl hl (by decide) rfl (fun ls hl => ?_)
  refine lv_iload_n E.x E.b dX7_keepNext_2 rfl (lv_at hl 0 rfl) ?_
  refine lv_aload_n E.x E.b dX7_keepNext_3 rfl (lv_at hl 1 rfl) ?_
  refine z_get E B z_inX7 (ci := 5) rfl 7 (by decide) t_864 0 rfl rfl dX7_keepNext_4 ?_
  refine lv_icmp_ge (tgt := 41) E.x E.b dX7_keepNext_7 (by decide) (fun _ => ?_) (fun c => absurd (by decide +kernel) c)
  refine W.widen (k := 0) (n := 0) (Nat.le_of_ble_eq_true rfl) (Nat.le_of_ble_eq_true rfl) ?_
  exact z_vret E hr hlocks B trivial (fun t ht => z_q B [0] (by decide) rfl ht) dX7_keepNext_41
set_option maxHeartbeats 4000000 in
set_option maxRecDepth 100000 in
theorem c_X7_prepare_87 (l : Launch) (G : zGT) (sz : Nat) (a0 a1 a2 a3 a4 a5 a6 : Nat) : Met l yX7_prepare (.code yX7_prepare cX7_prepare 7 none :: zT) ({ frames := 2, cells := 0, slots := 0, locals := 109 }) (va_Pc [.ref a0, .int 0] (zPc G [zo a0 5 [.ref a3, .ref a1, .ref a2, .ref a4, .ref a5, .ref a6, .int 0, .int 0, .int (-1), .int (-1)], zi G a1 8192 (fun _ => 0), zi G a2 3600 (fun _ => 0)] sz)) ((fun A => va_Qv (fun (_ : Unit) => True) (fun (_ : Unit) t => zQ G [zo a0 5 [.ref a3, .ref a1, .ref a2, .ref a4, .ref a5, .ref a6, .int 1, .int 0, .int 0, .int (-1)], zi G a1 8192 (upd (fun _ => 0) 0 16777216), zi G a2 3600 (fun _ => 0)] A t) A) (va_A [zo a0 5 [.ref a3, .ref a1, .ref a2, .ref a4, .ref a5, .ref a6, .int 0, .int 0, .int (-1), .int (-1)], zi G a1 8192 (fun _ => 0), zi G a2 3600 (fun _ => 0)] sz)) 0 0 (va_A [zo a0 5 [.ref a3, .ref a1, .ref a2, .ref a4, .ref a5, .ref a6, .int 0, .int 0, .int (-1), .int (-1)], zi G a1 8192 (fun _ => 0), zi G a2 3600 (fun _ => 0)] sz) := by
  refine z_start (y := yX7_prepare) (bytes := cX7_prepare) (maxL := 7) (ret := none) (av := [.ref a0, .int 0]) (QA := (fun A => va_Qv (fun (_ : Unit) => True) (fun (_ : Unit) t => zQ G [zo a0 5 [.ref a3, .ref a1, .ref a2, .ref a4, .ref a5, .ref a6, .int 1, .int 0, .int 0, .int (-1)], zi G a1 8192 (upd (fun _ => 0) 0 16777216), zi G a2 3600 (fun _ => 0)] A t) A)) (by decide) ⟨Nat.le_of_ble_eq_true rfl, trivial⟩ ?_
  intro p e s m below meth c A ls E B hr hlocks hin hl
  have hl : lv_has ls 7 [(0, .ref a0), (1, .int 0)] := hl
  have B : zB G A s.heap [zo a0 5 [.ref a3, .ref a1, .ref a2, .ref a4, .ref a5, .ref a6, .int 0, .int 0, .int (-1), .int (-1)], zi G a1 8192 (fun _ => 0), zi G a2 3600 (fun _ => 0)] s.heap [] := B
  refine lv_aload_n E.x E.b dX7_prepare_0 rfl (lv_at hl 0 rfl) ?_
  refine lv_iload_n E.x E.b dX7_prepare_1 rfl (lv_at hl 1 rfl) ?_
  refine z_put E B z_inX7 tyX7 tyX7_ok nmX7 (ci := 5) rfl 8 (by decide) rfl (ty := .int) (by decide +kernel) t_865 0 rfl (Nat.le_of_ble_eq_true rfl) rfl rfl dX7_prepare_2 (fun H locs B => ?_)
  have B : zB G A s.heap [zo a0 5 [.ref a3, .ref a1, .ref a2, .ref a4, .ref a5, .ref a6, .int 0, .int 0, .int 0, .int (-1)], zi G a1 8192 (fun _ => 0), zi G a2 3600 (fun _ => 0)] _ _ := B
  refine lv_aload_n E.x E.b dX7_prepare_5 rfl (lv_at hl 0 rfl) ?_
  refine lv_iconst (v := (-1)) E.x E.b dX7_prepare_6 (by decide) ?_
  refine z_put E B z_inX7 tyX7 tyX7_ok nmX7 (ci := 5) rfl 9 (by decide) rfl (ty := .int) (by decide +kernel) t_866 0 rfl (Nat.le_of_ble_eq_true rfl) rfl rfl dX7_prepare_7 (fun H locs B => ?_)
  have B : zB G A s.heap [zo a0 5 [.ref a3, .ref a1, .ref a2, .ref a4, .ref a5, .ref a6, .int 0, .int 0, .int 0, .int (-1)], zi G a1 8192 (fun _ => 0), zi G a2 3600 (fun _ => 0)] _ _ := B
  refine lv_aload_n E.x E.b dX7_prepare_10 rfl (lv_at hl 0 rfl) ?_
  refine z_callv E B (wc := [zo a0 5 [.ref a3, .ref a1, .ref a2, .ref a4, .ref a5, .ref a6, .int 0, .int 0, .int 0, .int (-1)]]) (wr := [zi G a1 8192 (fun _ => 0), zi G a2 3600 (fun _ => 0)]) [0] [1, 2] rfl rfl (by decide) (by decide) (z_runV E B (As := []) (rest := []) [0] rfl (by decide) mv_X7_setKinds t_896 0 (ci := 5) rfl rfl rfl (c_X7_setKinds_83 l G _ a0 a3 a1 a2 a4 a5 a6) rfl rfl ⟨Nat.le_of_ble_eq_true rfl, Nat.le_of_ble_eq_true rfl⟩ rfl hl.1 rfl (Nat.le_of_ble_eq_true rfl) dX7_prepare_11 ⟨(Nat.le_of_ble_eq_true rfl), (Nat.le_of_ble_eq_true rfl)⟩) (fun  t H locs hp hB J => ?_)
  have hq := hB
  have B := J _ hq
  have B : zB G A s.heap [zi G a1 8192 (fun _ => 0), zi G a2 3600 (fun _ => 0), zo a0 5 [.ref a3, .ref a1, .ref a2, .ref a4, .ref a5, .ref a6, .int 0, .int 0, .int 0, .int (-1)]] _ _ := B
  refine lv_iconst (v := 0) E.x E.b dX7_prepare_14 (by decide) ?_
  refine lv_istore_n (lv' := [(2, .int 0), (0, .ref a0), (1, .int 0)]) E.x E.b dX7_prepare_15 rfl hl (by decide) rfl (fun ls hl => ?_)
  refine z_loop 8192 (fun _ => 0) (fun _ => 0) (fun i H locs ls => (zB G A s.heap [zi G a1 8192 (fun _ => 0), zi G a2 3600 (fun _ => 0), zo a0 5 [.ref a3, .ref a1, .ref a2, .ref a4, .ref a5, .ref a6, .int 0, .int 0, .int 0, .int (-1)]] H locs) ∧ lv_has ls 7 [(2, .int (nI i)), (0, .ref a0), (1, .int 0)]) (Nat.le_of_ble_eq_true rfl) (Nat.le_of_ble_eq_true rfl) ⟨B, hl⟩ (fun i1 H locs ls hi ih hI => ?_) (fun H locs ls hI => ?_)
  · obtain ⟨B, hl⟩ := hI
    have hl : lv_has ls 7 [(2, .int (nI i1)), (0, .ref a0), (1, .int 0)] := hl
    have hii : (nI i1).toInt = ((i1 : Nat) : Int) := nI_toInt (by omega)
    refine lv_iload_n E.x E.b dX7_prepare_16 rfl (lv_at hl 0 rfl) ?_
    refine lv_sipush (v := 8192) E.x E.b dX7_prepare_17 (by decide) ?_
    refine lv_icmp_ge (tgt := 36) E.x E.b dX7_prepare_20 (by decide) (fun c_2 => ?_) (fun c_2 => ?_)
    · have c_2f : 8192 ≤ (nI i1).toInt := zi_le c_2
      exfalso; omega
    · have c_2f : (nI i1).toInt < 8192 := zi_nle c_2
      refine lv_aload_n E.x E.b dX7_prepare_23 rfl (lv_at hl 1 rfl) ?_
      refine z_get E B z_inX7 (ci := 5) rfl 1 (by decide) t_858 2 rfl rfl dX7_prepare_24 ?_
      refine lv_iload_n E.x E.b dX7_prepare_27 rfl (lv_at hl 0 rfl) ?_
      refine lv_iconst (v := 0) E.x E.b dX7_prepare_28 (by decide) ?_
      refine z_iast0 E B 0 rfl (vp_in_nI (by omega) (by decide)) dX7_prepare_29 (fun H locs B => ?_)
      have B : zB G A s.heap [zi G a1 8192 (fun _ => 0), zi G a2 3600 (fun _ => 0), zo a0 5 [.ref a3, .ref a1, .ref a2, .ref a4, .ref a5, .ref a6, .int 0, .int 0, .int 0, .int (-1)]] _ _ := B
      refine lv_iinc (v := (nI (i1 + 1))) (lv' := [(2, .int (nI (i1 + 1))), (0, .ref a0), (1, .int 0)]) E.x E.b dX7_prepare_30 hl (k := 0) rfl (nI_1 _) (by decide) rfl (fun ls hl => ?_)
      refine lv_goto (tgt := 16) E.x E.b dX7_prepare_33 (by decide) ?_
      exact ih _ _ _ ⟨B, lv_sub hl [0, 1, 2] rfl⟩
  · obtain ⟨B, hl⟩ := hI
    have hl : lv_has ls 7 [(2, .int 8192), (0, .ref a0), (1, .int 0)] := hl
    refine lv_iload_n E.x E.b dX7_prepare_16 rfl (lv_at hl 0 rfl) ?_
    refine lv_sipush (v := 8192) E.x E.b dX7_prepare_17 (by decide) ?_
    refine lv_icmp_ge (tgt := 36) E.x E.b dX7_prepare_20 (by decide) (fun _ => ?_) (fun c => absurd (by decide +kernel) c)
    refine lv_aload_n E.x E.b dX7_prepare_36 rfl (lv_at hl 1 rfl) ?_
    refine lv_iconst (v := 0) E.x E.b dX7_prepare_37 (by decide) ?_
    refine z_put E B z_inX7 tyX7 tyX7_ok nmX7 (ci := 5) rfl 6 (by decide) rfl (ty := .int) (by decide +kernel) t_863 2 rfl (Nat.le_of_ble_eq_true rfl) rfl rfl dX7_prepare_38 (fun H locs B => ?_)
    have B : zB G A s.heap [zi G a1 8192 (fun _ => 0), zi G a2 3600 (fun _ => 0), zo a0 5 [.ref a3, .ref a1, .ref a2, .ref a4, .ref a5, .ref a6, .int 0, .int 0, .int 0, .int (-1)]] _ _ := B
    refine lv_iconst (v := 0) E.x E.b dX7_prepare_41 (by decide) ?_
    refine lv_istore_n (lv' := [(2, .int 0), (0, .ref a0), (1, .int 0)]) E.x E.b dX7_prepare_42 rfl hl (by decide) rfl (fun ls hl => ?_)
    refine lv_iconst (v := 0) E.x E.b dX7_prepare_43 (by decide) ?_
    refine lv_istore_n (lv' := [(3, .int 0), (2, .int 0), (0, .ref a0), (1, .int 0)]) E.x E.b dX7_prepare_44 rfl hl (by decide) rfl (fun ls hl => ?_)
    refine lv_iload_n E.x E.b dX7_prepare_45 rfl (lv_at hl 0 rfl) ?_
    refine lv_iconst (v := 1) E.x E.b dX7_prepare_46 (by decide) ?_
    refine lv_aload_n E.x E.b dX7_prepare_47 rfl (lv_at hl 2 rfl) ?_
    refine z_get E B z_inX7 (ci := 5) rfl 8 (by decide) t_865 2 rfl rfl dX7_prepare_48 ?_
    refine lv_ishl E.x E.b dX7_prepare_51 (z_topi 1 (by decide +kernel) ?_)
    refine lv_icmp_ge (tgt := 69) E.x E.b dX7_prepare_52 (by decide) (fun c => absurd c (by decide +kernel)) (fun _ => ?_)
    refine lv_iload_n E.x E.b dX7_prepare_55 rfl (lv_at hl 1 rfl) ?_
    refine lv_iload_n E.x E.b dX7_prepare_56 rfl (lv_at hl 0 rfl) ?_
    refine lv_iconst (v := 3) E.x E.b dX7_prepare_57 (by decide) ?_
    refine lv_iload_n E.x E.b dX7_prepare_58 rfl (lv_at hl 0 rfl) ?_
    refine lv_imul E.x E.b dX7_prepare_59 (z_topi 0 (by decide +kernel) ?_)
    refine lv_ishl E.x E.b dX7_prepare_60 (z_topi 0 (by decide +kernel) ?_)
    refine lv_ior E.x E.b dX7_prepare_61 (z_topi 0 (by decide +kernel) ?_)
    refine lv_istore_n (lv' := [(2, .int 0), (3, .int 0), (0, .ref a0), (1, .int 0)]) E.x E.b dX7_prepare_62 rfl hl (by decide) rfl (fun ls hl => ?_)
    refine lv_iinc (v := 1) (lv' := [(3, .int 1), (2, .int 0), (0, .ref a0), (1, .int 0)]) E.x E.b dX7_prepare_63 hl (k := 1) rfl (by decide +kernel) (by decide) rfl (fun ls hl => ?_)
    refine lv_goto (tgt := 45) E.x E.b dX7_prepare_66 (by decide) ?_
    refine lv_iload_n E.x E.b dX7_prepare_45 rfl (lv_at hl 0 rfl) ?_
    refine lv_iconst (v := 1) E.x E.b dX7_prepare_46 (by decide) ?_
    refine lv_aload_n E.x E.b dX7_prepare_47 rfl (lv_at hl 2 rfl) ?_
    refine z_get E B z_inX7 (ci := 5) rfl 8 (by decide) t_865 2 rfl rfl dX7_prepare_48 ?_
    refine lv_ishl E.x E.b dX7_prepare_51 (z_topi 1 (by decide +kernel) ?_)
    refine lv_icmp_ge (tgt := 69) E.x E.b dX7_prepare_52 (by decide) (fun _ => ?_) (fun c => absurd (by decide +kernel) c)
    refine lv_aload_n E.x E.b dX7_prepare_69 rfl (lv_at hl 2 rfl) ?_
    refine lv_iload_n E.x E.b dX7_prepare_70 rfl (lv_at hl 1 rfl) ?_
    refine lv_iconst (v := 0) E.x E.b dX7_prepare_71 (by decide) ?_
    refine z_callv E B (wc := [zo a0 5 [.ref a3, .ref a1, .ref a2, .ref a4, .ref a5, .ref a6, .int 0, .int 0, .int 0, .int (-1)], zi G a2 3600 (fun _ => 0), zi G a1 8192 (fun _ => 0)]) (wr := []) [2, 1, 0] [] rfl rfl (by decide) (by decide) (z_runV E B (As := [.int 0, .int 0]) (rest := []) [2, 1, 0] rfl (by decide) mv_X7_keep t_905 0 (ci := 5) rfl rfl rfl (c_X7_keep_85 l G _ a0 a2 a1 a3 a4 a5 a6) rfl rfl ⟨Nat.le_of_ble_eq_true rfl, Nat.le_of_ble_eq_true rfl⟩ rfl hl.1 rfl (Nat.le_of_ble_eq_true rfl) dX7_prepare_72 ⟨(Nat.le_of_ble_eq_true rfl), (Nat.le_of_ble_eq_true rfl)⟩) (fun  t H locs hp hB J => ?_)
    have hq := hB
    have B := J _ hq
    have B : zB G A s.heap [zo a0 5 [.ref a3, .ref a1, .ref a2, .ref a4, .ref a5, .ref a6, .int 1, .int 0, .int 0, .int (-1)], zi G a2 3600 (fun _ => 0), zi G a1 8192 (upd (fun _ => 0) 0 16777216)] _ _ := B
    refine lv_iconst (v := 0) E.x E.b dX7_prepare_75 (by decide) ?_
    refine lv_istore_n (lv' := [(3, .int 0), (2, .int 0), (0, .ref a0), (1, .int 0)]) E.x E.b dX7_prepare_76 rfl hl (by decide) rfl (fun ls hl => ?_)
    refine lv_iconst (v := 1) E.x E.b dX7_prepare_77 (by decide) ?_
    refine lv_istore (lv' := [(4, .int 1), (3, .int 0), (2, .int 0), (0, .ref a0), (1, .int 0)]) E.x E.b dX7_prepare_78 hl (by decide) rfl (fun ls hl => ?_)
    refine lv_iload E.x E.b dX7_prepare_80 (lv_at hl 0 rfl) ?_
    refine lv_iconst (v := 4) E.x E.b dX7_prepare_82 (by decide) ?_
    refine lv_icmp_gt (tgt := 138) E.x E.b dX7_prepare_83 (by decide) (fun c => absurd c (by decide +kernel)) (fun _ => ?_)
    refine lv_aload_n E.x E.b dX7_prepare_86 rfl (lv_at hl 3 rfl) ?_
    refine z_get E B z_inX7 (ci := 5) rfl 6 (by decide) t_863 0 rfl rfl dX7_prepare_87 ?_
    refine lv_istore (lv' := [(5, .int 1), (4, .int 1), (3, .int 0), (2, .int 0), (0, .ref a0), (1, .int 0)]) E.x E.b dX7_prepare_90 hl (by decide) rfl (fun ls hl => ?_)
    refine lv_iload_n E.x E.b dX7_prepare_92 rfl (lv_at hl 2 rfl) ?_
    refine lv_istore (lv' := [(6, .int 0), (5, .int 1), (4, .int 1), (3, .int 0), (2, .int 0), (0, .ref a0), (1, .int 0)]) E.x E.b dX7_prepare_93 hl (by decide) rfl (fun ls hl => ?_)
    refine lv_iload E.x E.b dX7_prepare_95 (lv_at hl 0 rfl) ?_
    refine lv_iload E.x E.b dX7_prepare_97 (lv_at hl 1 rfl) ?_
    refine lv_icmp_ge (tgt := 129) E.x E.b dX7_prepare_99 (by decide) (fun c => absurd c (by decide +kernel)) (fun _ => ?_)
    refine lv_iload E.x E.b dX7_prepare_102 (lv_at hl 0 rfl) ?_
    refine lv_sipush (v := 3600) E.x E.b dX7_prepare_104 (by decide) ?_
    refine lv_icmp_ge (tgt := 129) E.x E.b dX7_prepare_107 (by decide) (fun c => absurd c (by decide +kernel)) (fun _ => ?_)
    refine lv_aload_n E.x E.b dX7_prepare_110 rfl (lv_at hl 5 rfl) ?_
    refine lv_aload_n E.x E.b dX7_prepare_111 rfl (lv_at hl 5 rfl) ?_
    refine z_get E B z_inX7 (ci := 5) rfl 2 (by decide) t_859 0 rfl rfl dX7_prepare_112 ?_
    refine lv_iload E.x E.b dX7_prepare_115 (lv_at hl 0 rfl) ?_
    refine z_iald E B 1 rfl (show ¬ ((0 : Int32) < 0 ∨ 3600 ≤ (0 : Int32).toNatClampNeg) by decide +kernel) dX7_prepare_117 (z_topi 0 rfl ?_)
    refine lv_iload E.x E.b dX7_prepare_118 (lv_at hl 2 rfl) ?_
    refine z_callv E B (wc := [zo a0 5 [.ref a3, .ref a1, .ref a2, .ref a4, .ref a5, .ref a6, .int 1, .int 0, .int 0, .int (-1)]]) (wr := [zi G a2 3600 (fun _ => 0), zi G a1 8192 (upd (fun _ => 0) 0 16777216)]) [0] [1, 2] rfl rfl (by decide) (by decide) (z_runV E B (As := [.int 0, .int 1]) (rest := []) [0] rfl (by decide) mv_X7_keepNext t_915 0 (ci := 5) rfl rfl rfl (c_X7_keepNext_86 l G _ a0 a3 a1 a2 a4 a5 a6) rfl rfl ⟨Nat.le_of_ble_eq_true rfl, Nat.le_of_ble_eq_true rfl⟩ rfl hl.1 rfl (Nat.le_of_ble_eq_true rfl) dX7_prepare_120 ⟨(Nat.le_of_ble_eq_true rfl), (Nat.le_of_ble_eq_true rfl)⟩) (fun  t H locs hp hB J => ?_)
    have hq := hB
    have B := J _ hq
    have B : zB G A s.heap [zi G a2 3600 (fun _ => 0), zi G a1 8192 (upd (fun _ => 0) 0 16777216), zo a0 5 [.ref a3, .ref a1, .ref a2, .ref a4, .ref a5, .ref a6, .int 1, .int 0, .int 0, .int (-1)]] _ _ := B
    refine lv_iinc (v := 1) (lv' := [(6, .int 1), (5, .int 1), (4, .int 1), (3, .int 0), (2, .int 0), (0, .ref a0), (1, .int 0)]) E.x E.b dX7_prepare_123 hl (k := 0) rfl (by decide +kernel) (by decide) rfl (fun ls hl => ?_)
    refine lv_goto (tgt := 95) E.x E.b dX7_prepare_126 (by decide) ?_
    refine lv_iload E.x E.b dX7_prepare_95 (lv_at hl 0 rfl) ?_
    refine lv_iload E.x E.b dX7_prepare_97 (lv_at hl 1 rfl) ?_
    refine lv_icmp_ge (tgt := 129) E.x E.b dX7_prepare_99 (by decide) (fun _ => ?_) (fun c => absurd (by decide +kernel) c)
    refine lv_iload E.x E.b dX7_prepare_129 (lv_at hl 1 rfl) ?_
    refine lv_istore_n (lv' := [(3, .int 1), (6, .int 1), (5, .int 1), (4, .int 1), (2, .int 0), (0, .ref a0), (1, .int 0)]) E.x E.b dX7_prepare_131 rfl hl (by decide) rfl (fun ls hl => ?_)
    refine lv_iinc (v := 2) (lv' := [(4, .int 2), (3, .int 1), (6, .int 1), (5, .int 1), (2, .int 0), (0, .ref a0), (1, .int 0)]) E.x E.b dX7_prepare_132 hl (k := 3) rfl (by decide +kernel) (by decide) rfl (fun ls hl => ?_)
    refine lv_goto (tgt := 80) E.x E.b dX7_prepare_135 (by decide) ?_
    refine lv_iload E.x E.b dX7_prepare_80 (lv_at hl 0 rfl) ?_
    refine lv_iconst (v := 4) E.x E.b dX7_prepare_82 (by decide) ?_
    refine lv_icmp_gt (tgt := 138) E.x E.b dX7_prepare_83 (by decide) (fun c => absurd c (by decide +kernel)) (fun _ => ?_)
    refine lv_aload_n E.x E.b dX7_prepare_86 rfl (lv_at hl 5 rfl) ?_
    refine z_get E B z_inX7 (ci := 5) rfl 6 (by decide) t_863 2 rfl rfl dX7_prepare_87 ?_
    refine lv_istore (lv' := [(5, .int 1), (4, .int 2), (3, .int 1), (6, .int 1), (2, .int 0), (0, .ref a0), (1, .int 0)]) E.x E.b dX7_prepare_90 hl (by decide) rfl (fun ls hl => ?_)
    refine lv_iload_n E.x E.b dX7_prepare_92 rfl (lv_at hl 2 rfl) ?_
    refine lv_istore (lv' := [(6, .int 1), (5, .int 1), (4, .int 2), (3, .int 1), (2, .int 0), (0, .ref a0), (1, .int 0)]) E.x E.b dX7_prepare_93 hl (by decide) rfl (fun ls hl => ?_)
    refine lv_iload E.x E.b dX7_prepare_95 (lv_at hl 0 rfl) ?_
    refine lv_iload E.x E.b dX7_prepare_97 (lv_at hl 1 rfl) ?_
    refine lv_icmp_ge (tgt := 129) E.x E.b dX7_prepare_99 (by decide) (fun _ => ?_) (fun c => absurd (by decide +kernel) c)
    refine lv_iload E.x E.b dX7_prepare_129 (lv_at hl 1 rfl) ?_
    refine lv_istore_n (lv' := [(3, .int 1), (6, .int 1), (5, .int 1), (4, .int 2), (2, .int 0), (0, .ref a0), (1, .int 0)]) E.x E.b dX7_prepare_131 rfl hl (by decide) rfl (fun ls hl => ?_)
    refine lv_iinc (v := 3) (lv' := [(4, .int 3), (3, .int 1), (6, .int 1), (5, .int 1), (2, .int 0), (0, .ref a0), (1, .int 0)]) E.x E.b dX7_prepare_132 hl (k := 3) rfl (by decide +kernel) (by decide) rfl (fun ls hl => ?_)
    refine lv_goto (tgt := 80) E.x E.b dX7_prepare_135 (by decide) ?_
    refine lv_iload E.x E.b dX7_prepare_80 (lv_at hl 0 rfl) ?_
    refine lv_iconst (v := 4) E.x E.b dX7_prepare_82 (by decide) ?_
    refine lv_icmp_gt (tgt := 138) E.x E.b dX7_prepare_83 (by decide) (fun c => absurd c (by decide +kernel)) (fun _ => ?_)
    refine lv_aload_n E.x E.b dX7_prepare_86 rfl (lv_at hl 5 rfl) ?_
    refine z_get E B z_inX7 (ci := 5) rfl 6 (by decide) t_863 2 rfl rfl dX7_prepare_87 ?_
    refine lv_istore (lv' := [(5, .int 1), (4, .int 3), (3, .int 1), (6, .int 1), (2, .int 0), (0, .ref a0), (1, .int 0)]) E.x E.b dX7_prepare_90 hl (by decide) rfl (fun ls hl => ?_)
    refine lv_iload_n E.x E.b dX7_prepare_92 rfl (lv_at hl 2 rfl) ?_
    refine lv_istore (lv' := [(6, .int 1), (5, .int 1), (4, .int 3), (3, .int 1), (2, .int 0), (0, .ref a0), (1, .int 0)]) E.x E.b dX7_prepare_93 hl (by decide) rfl (fun ls hl => ?_)
    refine lv_iload E.x E.b dX7_prepare_95 (lv_at hl 0 rfl) ?_
    refine lv_iload E.x E.b dX7_prepare_97 (lv_at hl 1 rfl) ?_
    refine lv_icmp_ge (tgt := 129) E.x E.b dX7_prepare_99 (by decide) (fun _ => ?_) (fun c => absurd (by decide +kernel) c)
    refine lv_iload E.x E.b dX7_prepare_129 (lv_at hl 1 rfl) ?_
    refine lv_istore_n (lv' := [(3, .int 1), (6, .int 1), (5, .int 1), (4, .int 3), (2, .int 0), (0, .ref a0), (1, .int 0)]) E.x E.b dX7_prepare_131 rfl hl (by decide) rfl (fun ls hl => ?_)
    refine lv_iinc (v := 4) (lv' := [(4, .int 4), (3, .int 1), (6, .int 1), (5, .int 1), (2, .int 0), (0, .ref a0), (1, .int 0)]) E.x E.b dX7_prepare_132 hl (k := 3) rfl (by decide +kernel) (by decide) rfl (fun ls hl => ?_)
    refine lv_goto (tgt := 80) E.x E.b dX7_prepare_135 (by decide) ?_
    refine lv_iload E.x E.b dX7_prepare_80 (lv_at hl 0 rfl) ?_
    refine lv_iconst (v := 4) E.x E.b dX7_prepare_82 (by decide) ?_
    refine lv_icmp_gt (tgt := 138) E.x E.b dX7_prepare_83 (by decide) (fun c => absurd c (by decide +kernel)) (fun _ => ?_)
    refine lv_aload_n E.x E.b dX7_prepare_86 rfl (lv_at hl 5 rfl) ?_
    refine z_get E B z_inX7 (ci := 5) rfl 6 (by decide) t_863 2 rfl rfl dX7_prepare_87 ?_
    refine lv_istore (lv' := [(5, .int 1), (4, .int 4), (3, .int 1), (6, .int 1), (2, .int 0), (0, .ref a0), (1, .int 0)]) E.x E.b dX7_prepare_90 hl (by decide) rfl (fun ls hl => ?_)
    refine lv_iload_n E.x E.b dX7_prepare_92 rfl (lv_at hl 2 rfl) ?_
    refine lv_istore (lv' := [(6, .int 1), (5, .int 1), (4, .int 4), (3, .int 1), (2, .int 0), (0, .ref a0), (1, .int 0)]) E.x E.b dX7_prepare_93 hl (by decide) rfl (fun ls hl => ?_)
    refine lv_iload E.x E.b dX7_prepare_95 (lv_at hl 0 rfl) ?_
    refine lv_iload E.x E.b dX7_prepare_97 (lv_at hl 1 rfl) ?_
    refine lv_icmp_ge (tgt := 129) E.x E.b dX7_prepare_99 (by decide) (fun _ => ?_) (fun c => absurd (by decide +kernel) c)
    refine lv_iload E.x E.b dX7_prepare_129 (lv_at hl 1 rfl) ?_
    refine lv_istore_n (lv' := [(3, .int 1), (6, .int 1), (5, .int 1), (4, .int 4), (2, .int 0), (0, .ref a0), (1, .int 0)]) E.x E.b dX7_prepare_131 rfl hl (by decide) rfl (fun ls hl => ?_)
    refine lv_iinc (v := 5) (lv' := [(4, .int 5), (3, .int 1), (6, .int 1), (5, .int 1), (2, .int 0), (0, .ref a0), (1, .int 0)]) E.x E.b dX7_prepare_132 hl (k := 3) rfl (by decide +kernel) (by decide) rfl (fun ls hl => ?_)
    refine lv_goto (tgt := 80) E.x E.b dX7_prepare_135 (by decide) ?_
    refine lv_iload E.x E.b dX7_prepare_80 (lv_at hl 0 rfl) ?_
    refine lv_iconst (v := 4) E.x E.b dX7_prepare_82 (by decide) ?_
    refine lv_icmp_gt (tgt := 138) E.x E.b dX7_prepare_83 (by decide) (fun _ => ?_) (fun c => absurd (by decide +kernel) c)
    refine W.widen (k := 0) (n := 0) (Nat.le_of_ble_eq_true rfl) (Nat.le_of_ble_eq_true rfl) ?_
    exact z_vret E hr hlocks B trivial (fun t ht => z_q B [2, 1, 0] (by decide) rfl ht) dX7_prepare_138
set_option maxHeartbeats 4000000 in
set_option maxRecDepth 100000 in
theorem c_X7_pack_88 (l : Launch) (G : zGT) (sz : Nat) (a0 a1 a2 a3 a4 a5 a6 a7 : Nat) : Met l yX7_pack (.code yX7_pack cX7_pack 4 (some .int) :: zT) ({ frames := 0, cells := 0, slots := 0, locals := 64 }) (va_Pc [.ref a0, .ref a1] (zPc G [zo a0 5 [.ref a2, .ref a3, .ref a4, .ref a5, .ref a6, .ref a7, .int 1, .int 0, .int 0, .int (-1)], zi G a1 64 (fun _ => 0)] sz)) ((fun A => va_Qi (fun (r : Int32) (_ : Unit) => r = 0) (fun (_ : Unit) t => zQ G [zo a0 5 [.ref a2, .ref a3, .ref a4, .ref a5, .ref a6, .ref a7, .int 1, .int 0, .int 0, .int (-1)], zi G a1 64 (fun _ => 0)] A t) A) (va_A [zo a0 5 [.ref a2, .ref a3, .ref a4, .ref a5, .ref a6, .ref a7, .int 1, .int 0, .int 0, .int (-1)], zi G a1 64 (fun _ => 0)] sz)) 0 0 (va_A [zo a0 5 [.ref a2, .ref a3, .ref a4, .ref a5, .ref a6, .ref a7, .int 1, .int 0, .int 0, .int (-1)], zi G a1 64 (fun _ => 0)] sz) := by
  refine z_start (y := yX7_pack) (bytes := cX7_pack) (maxL := 4) (ret := (some .int)) (av := [.ref a0, .ref a1]) (QA := (fun A => va_Qi (fun (r : Int32) (_ : Unit) => r = 0) (fun (_ : Unit) t => zQ G [zo a0 5 [.ref a2, .ref a3, .ref a4, .ref a5, .ref a6, .ref a7, .int 1, .int 0, .int 0, .int (-1)], zi G a1 64 (fun _ => 0)] A t) A)) (by decide) ⟨Nat.le_of_ble_eq_true rfl, trivial⟩ ?_
  intro p e s m below meth c A ls E B hr hlocks hin hl
  have hl : lv_has ls 4 [(0, .ref a0), (1, .ref a1)] := hl
  have B : zB G A s.heap [zo a0 5 [.ref a2, .ref a3, .ref a4, .ref a5, .ref a6, .ref a7, .int 1, .int 0, .int 0, .int (-1)], zi G a1 64 (fun _ => 0)] s.heap [] := B
  refine lv_iconst (v := 0) E.x E.b dX7_pack_0 (by decide) ?_
  refine lv_istore_n (lv' := [(2, .int 0), (0, .ref a0), (1, .ref a1)]) E.x E.b dX7_pack_1 rfl hl (by decide) rfl (fun ls hl => ?_)
  refine lv_iconst (v := 0) E.x E.b dX7_pack_2 (by decide) ?_
  refine lv_istore_n (lv' := [(3, .int 0), (2, .int 0), (0, .ref a0), (1, .ref a1)]) E.x E.b dX7_pack_3 rfl hl (by decide) rfl (fun ls hl => ?_)
  refine lv_iload_n E.x E.b dX7_pack_4 rfl (lv_at hl 0 rfl) ?_
  refine lv_iconst (v := 1) E.x E.b dX7_pack_5 (by decide) ?_
  refine lv_aload_n E.x E.b dX7_pack_6 rfl (lv_at hl 2 rfl) ?_
  refine z_get E B z_inX7 (ci := 5) rfl 8 (by decide) t_865 0 rfl rfl dX7_pack_7 ?_
  refine lv_ishl E.x E.b dX7_pack_10 (z_topi 1 (by decide +kernel) ?_)
  refine lv_icmp_ge (tgt := 36) E.x E.b dX7_pack_11 (by decide) (fun c => absurd c (by decide +kernel)) (fun _ => ?_)
  refine lv_iload_n E.x E.b dX7_pack_14 rfl (lv_at hl 0 rfl) ?_
  refine lv_aload_n E.x E.b dX7_pack_15 rfl (lv_at hl 3 rfl) ?_
  refine z_ilen E B 1 rfl (v := 64) (by decide +kernel) dX7_pack_16 ?_
  refine lv_icmp_ge (tgt := 36) E.x E.b dX7_pack_17 (by decide) (fun c => absurd c (by decide +kernel)) (fun _ => ?_)
  refine lv_iload_n E.x E.b dX7_pack_20 rfl (lv_at hl 1 rfl) ?_
  refine lv_aload_n E.x E.b dX7_pack_21 rfl (lv_at hl 3 rfl) ?_
  refine lv_iload_n E.x E.b dX7_pack_22 rfl (lv_at hl 0 rfl) ?_
  refine z_iald E B 1 rfl (show ¬ ((0 : Int32) < 0 ∨ 64 ≤ (0 : Int32).toNatClampNeg) by decide +kernel) dX7_pack_23 (z_topi 0 rfl ?_)
  refine lv_iconst (v := 3) E.x E.b dX7_pack_24 (by decide) ?_
  refine lv_iload_n E.x E.b dX7_pack_25 rfl (lv_at hl 0 rfl) ?_
  refine lv_imul E.x E.b dX7_pack_26 (z_topi 0 (by decide +kernel) ?_)
  refine lv_ishl E.x E.b dX7_pack_27 (z_topi 0 (by decide +kernel) ?_)
  refine lv_ior E.x E.b dX7_pack_28 (z_topi 0 (by decide +kernel) ?_)
  refine lv_istore_n (lv' := [(2, .int 0), (3, .int 0), (0, .ref a0), (1, .ref a1)]) E.x E.b dX7_pack_29 rfl hl (by decide) rfl (fun ls hl => ?_)
  refine lv_iinc (v := 1) (lv' := [(3, .int 1), (2, .int 0), (0, .ref a0), (1, .ref a1)]) E.x E.b dX7_pack_30 hl (k := 1) rfl (by decide +kernel) (by decide) rfl (fun ls hl => ?_)
  refine lv_goto (tgt := 4) E.x E.b dX7_pack_33 (by decide) ?_
  refine lv_iload_n E.x E.b dX7_pack_4 rfl (lv_at hl 0 rfl) ?_
  refine lv_iconst (v := 1) E.x E.b dX7_pack_5 (by decide) ?_
  refine lv_aload_n E.x E.b dX7_pack_6 rfl (lv_at hl 2 rfl) ?_
  refine z_get E B z_inX7 (ci := 5) rfl 8 (by decide) t_865 0 rfl rfl dX7_pack_7 ?_
  refine lv_ishl E.x E.b dX7_pack_10 (z_topi 1 (by decide +kernel) ?_)
  refine lv_icmp_ge (tgt := 36) E.x E.b dX7_pack_11 (by decide) (fun _ => ?_) (fun c => absurd (by decide +kernel) c)
  refine lv_iload_n E.x E.b dX7_pack_36 rfl (lv_at hl 1 rfl) ?_
  refine W.widen (k := 0) (n := 0) (Nat.le_of_ble_eq_true rfl) (Nat.le_of_ble_eq_true rfl) ?_
  exact z_iret E hr hlocks B (v := 0) rfl (fun t ht => z_q B [0, 1] (by decide) rfl ht) dX7_pack_37
set_option maxHeartbeats 4000000 in
set_option maxRecDepth 100000 in
theorem c_X7_placeOf_89 (l : Launch) (G : zGT) (sz : Nat) (a0 a1 a2 a3 a4 a5 a6 : Nat) : Met l yX7_placeOf (.code yX7_placeOf cX7_placeOf 4 (some .int) :: zT) ({ frames := 0, cells := 0, slots := 0, locals := 64 }) (va_Pc [.ref a0, .int 0] (zPc G [zo a0 5 [.ref a2, .ref a1, .ref a3, .ref a4, .ref a5, .ref a6, .int 1, .int 0, .int 0, .int 0], zi G a1 8192 (upd (fun _ => 0) 0 16777216)] sz)) ((fun A => va_Qi (fun (r : Int32) (_ : Unit) => r = 0) (fun (_ : Unit) t => zQ G [zo a0 5 [.ref a2, .ref a1, .ref a3, .ref a4, .ref a5, .ref a6, .int 1, .int 0, .int 0, .int 0], zi G a1 8192 (upd (fun _ => 0) 0 16777216)] A t) A) (va_A [zo a0 5 [.ref a2, .ref a1, .ref a3, .ref a4, .ref a5, .ref a6, .int 1, .int 0, .int 0, .int 0], zi G a1 8192 (upd (fun _ => 0) 0 16777216)] sz)) 0 0 (va_A [zo a0 5 [.ref a2, .ref a1, .ref a3, .ref a4, .ref a5, .ref a6, .int 1, .int 0, .int 0, .int 0], zi G a1 8192 (upd (fun _ => 0) 0 16777216)] sz) := by
  refine z_start (y := yX7_placeOf) (bytes := cX7_placeOf) (maxL := 4) (ret := (some .int)) (av := [.ref a0, .int 0]) (QA := (fun A => va_Qi (fun (r : Int32) (_ : Unit) => r = 0) (fun (_ : Unit) t => zQ G [zo a0 5 [.ref a2, .ref a1, .ref a3, .ref a4, .ref a5, .ref a6, .int 1, .int 0, .int 0, .int 0], zi G a1 8192 (upd (fun _ => 0) 0 16777216)] A t) A)) (by decide) ⟨Nat.le_of_ble_eq_true rfl, trivial⟩ ?_
  intro p e s m below meth c A ls E B hr hlocks hin hl
  have hl : lv_has ls 4 [(0, .ref a0), (1, .int 0)] := hl
  have B : zB G A s.heap [zo a0 5 [.ref a2, .ref a1, .ref a3, .ref a4, .ref a5, .ref a6, .int 1, .int 0, .int 0, .int 0], zi G a1 8192 (upd (fun _ => 0) 0 16777216)] s.heap [] := B
  refine lv_iload_n E.x E.b dX7_placeOf_0 rfl (lv_at hl 1 rfl) ?_
  refine lv_ldc E.x E.b E.ow (E.w t_913) dX7_placeOf_1 ?_
  refine lv_imul E.x E.b dX7_placeOf_3 (z_topi 0 (by decide +kernel) ?_)
  refine lv_bipush (v := 19) E.x E.b dX7_placeOf_4 (by decide) ?_
  refine lv_iushr (v := 0) E.x E.b dX7_placeOf_6 (by decide +kernel) ?_
  refine lv_istore_n (lv' := [(2, .int 0), (0, .ref a0), (1, .int 0)]) E.x E.b dX7_placeOf_7 rfl hl (by decide) rfl (fun ls hl => ?_)
  refine lv_iconst (v := 0) E.x E.b dX7_placeOf_8 (by decide) ?_
  refine lv_istore_n (lv' := [(3, .int 0), (2, .int 0), (0, .ref a0), (1, .int 0)]) E.x E.b dX7_placeOf_9 rfl hl (by decide) rfl (fun ls hl => ?_)
  refine lv_iload_n E.x E.b dX7_placeOf_10 rfl (lv_at hl 0 rfl) ?_
  refine lv_sipush (v := 8192) E.x E.b dX7_placeOf_11 (by decide) ?_
  refine lv_icmp_ge (tgt := 55) E.x E.b dX7_placeOf_14 (by decide) (fun c => absurd c (by decide +kernel)) (fun _ => ?_)
  refine lv_aload_n E.x E.b dX7_placeOf_17 rfl (lv_at hl 2 rfl) ?_
  refine z_get E B z_inX7 (ci := 5) rfl 1 (by decide) t_858 0 rfl rfl dX7_placeOf_18 ?_
  refine lv_iload_n E.x E.b dX7_placeOf_21 rfl (lv_at hl 1 rfl) ?_
  refine z_iald E B 1 rfl (show ¬ ((0 : Int32) < 0 ∨ 8192 ≤ (0 : Int32).toNatClampNeg) by decide +kernel) dX7_placeOf_22 (z_topi 16777216 (by decide +kernel) ?_)
  refine lv_if_eq (tgt := 39) E.x E.b dX7_placeOf_23 (by decide) (fun c => absurd c (by decide +kernel)) (fun _ => ?_)
  refine lv_aload_n E.x E.b dX7_placeOf_26 rfl (lv_at hl 2 rfl) ?_
  refine z_get E B z_inX7 (ci := 5) rfl 1 (by decide) t_858 0 rfl rfl dX7_placeOf_27 ?_
  refine lv_iload_n E.x E.b dX7_placeOf_30 rfl (lv_at hl 1 rfl) ?_
  refine z_iald E B 1 rfl (show ¬ ((0 : Int32) < 0 ∨ 8192 ≤ (0 : Int32).toNatClampNeg) by decide +kernel) dX7_placeOf_31 (z_topi 16777216 (by decide +kernel) ?_)
  refine lv_ldc E.x E.b E.ow (E.w t_914) dX7_placeOf_32 ?_
  refine lv_iand E.x E.b dX7_placeOf_34 (z_topi 0 (by decide +kernel) ?_)
  refine lv_iload_n E.x E.b dX7_placeOf_35 rfl (lv_at hl 3 rfl) ?_
  refine lv_icmp_ne (tgt := 41) E.x E.b dX7_placeOf_36 (by decide) (fun c => absurd (by decide +kernel) c) (fun _ => ?_)
  refine lv_iload_n E.x E.b dX7_placeOf_39 rfl (lv_at hl 1 rfl) ?_
  refine W.widen (k := 0) (n := 0) (Nat.le_of_ble_eq_true rfl) (Nat.le_of_ble_eq_true rfl) ?_
  exact z_iret E hr hlocks B (v := 0) rfl (fun t ht => z_q B [0, 1] (by decide) rfl ht) dX7_placeOf_40
set_option maxHeartbeats 4000000 in
set_option maxRecDepth 100000 in
theorem c_X7_depthOf_90 (l : Launch) (G : zGT) (sz : Nat) (a0 a1 a2 a3 a4 a5 a6 : Nat) : Met l yX7_depthOf (.code yX7_depthOf cX7_depthOf 3 (some .int) :: zT) ({ frames := 1, cells := 0, slots := 0, locals := 87 }) (va_Pc [.ref a0, .int 0] (zPc G [zo a0 5 [.ref a2, .ref a1, .ref a3, .ref a4, .ref a5, .ref a6, .int 1, .int 0, .int 0, .int 0], zi G a1 8192 (upd (fun _ => 0) 0 16777216)] sz)) ((fun A => va_Qi (fun (r : Int32) (_ : Unit) => r = 0) (fun (_ : Unit) t => zQ G [zo a0 5 [.ref a2, .ref a1, .ref a3, .ref a4, .ref a5, .ref a6, .int 1, .int 0, .int 0, .int 0], zi G a1 8192 (upd (fun _ => 0) 0 16777216)] A t) A) (va_A [zo a0 5 [.ref a2, .ref a1, .ref a3, .ref a4, .ref a5, .ref a6, .int 1, .int 0, .int 0, .int 0], zi G a1 8192 (upd (fun _ => 0) 0 16777216)] sz)) 0 0 (va_A [zo a0 5 [.ref a2, .ref a1, .ref a3, .ref a4, .ref a5, .ref a6, .int 1, .int 0, .int 0, .int 0], zi G a1 8192 (upd (fun _ => 0) 0 16777216)] sz) := by
  refine z_start (y := yX7_depthOf) (bytes := cX7_depthOf) (maxL := 3) (ret := (some .int)) (av := [.ref a0, .int 0]) (QA := (fun A => va_Qi (fun (r : Int32) (_ : Unit) => r = 0) (fun (_ : Unit) t => zQ G [zo a0 5 [.ref a2, .ref a1, .ref a3, .ref a4, .ref a5, .ref a6, .int 1, .int 0, .int 0, .int 0], zi G a1 8192 (upd (fun _ => 0) 0 16777216)] A t) A)) (by decide) ⟨Nat.le_of_ble_eq_true rfl, trivial⟩ ?_
  intro p e s m below meth c A ls E B hr hlocks hin hl
  have hl : lv_has ls 3 [(0, .ref a0), (1, .int 0)] := hl
  have B : zB G A s.heap [zo a0 5 [.ref a2, .ref a1, .ref a3, .ref a4, .ref a5, .ref a6, .int 1, .int 0, .int 0, .int 0], zi G a1 8192 (upd (fun _ => 0) 0 16777216)] s.heap [] := B
  refine lv_aload_n E.x E.b dX7_depthOf_0 rfl (lv_at hl 0 rfl) ?_
  refine z_get E B z_inX7 (ci := 5) rfl 1 (by decide) t_858 0 rfl rfl dX7_depthOf_1 ?_
  refine lv_aload_n E.x E.b dX7_depthOf_4 rfl (lv_at hl 0 rfl) ?_
  refine lv_iload_n E.x E.b dX7_depthOf_5 rfl (lv_at hl 1 rfl) ?_
  refine z_calli E B (wc := [zo a0 5 [.ref a2, .ref a1, .ref a3, .ref a4, .ref a5, .ref a6, .int 1, .int 0, .int 0, .int 0], zi G a1 8192 (upd (fun _ => 0) 0 16777216)]) (wr := []) [0, 1] [] rfl rfl (by decide) (by decide) (z_runV E B (As := [.int 0]) (rest := [.ref a1]) [0, 1] rfl (by decide) mv_X7_placeOf t_909 0 (ci := 5) rfl rfl rfl (c_X7_placeOf_89 l G _ a0 a1 a2 a3 a4 a5 a6) rfl rfl ⟨Nat.le_of_ble_eq_true rfl, Nat.le_of_ble_eq_true rfl⟩ rfl hl.1 rfl (Nat.le_of_ble_eq_true rfl) dX7_depthOf_6 ⟨(Nat.le_of_ble_eq_true rfl), (Nat.le_of_ble_eq_true rfl)⟩) (fun r t H locs hp hB J => ?_)
  have hq := hB
  have B := J _ hq
  have B : zB G A s.heap [zo a0 5 [.ref a2, .ref a1, .ref a3, .ref a4, .ref a5, .ref a6, .int 1, .int 0, .int 0, .int 0], zi G a1 8192 (upd (fun _ => 0) 0 16777216)] _ _ := B
  have hp := hp.symm
  subst hp
  refine z_iald E B 1 rfl (show ¬ ((0 : Int32) < 0 ∨ 8192 ≤ (0 : Int32).toNatClampNeg) by decide +kernel) dX7_depthOf_9 (z_topi 16777216 (by decide +kernel) ?_)
  refine lv_istore_n (lv' := [(2, .int 16777216), (0, .ref a0), (1, .int 0)]) E.x E.b dX7_depthOf_10 rfl hl (by decide) rfl (fun ls hl => ?_)
  refine lv_iload_n E.x E.b dX7_depthOf_11 rfl (lv_at hl 0 rfl) ?_
  refine lv_if_ne (tgt := 19) E.x E.b dX7_depthOf_12 (by decide) (fun _ => ?_) (fun c => absurd c (by decide +kernel))
  refine lv_iload_n E.x E.b dX7_depthOf_19 rfl (lv_at hl 0 rfl) ?_
  refine lv_bipush (v := 24) E.x E.b dX7_depthOf_20 (by decide) ?_
  refine lv_ishr E.x E.b dX7_depthOf_22 (z_topi 1 (by decide +kernel) ?_)
  refine lv_iconst (v := 1) E.x E.b dX7_depthOf_23 (by decide) ?_
  refine lv_isub E.x E.b dX7_depthOf_24 (z_topi 0 (by decide +kernel) ?_)
  refine W.widen (k := 0) (n := 0) (Nat.le_of_ble_eq_true rfl) (Nat.le_of_ble_eq_true rfl) ?_
  exact z_iret E hr hlocks B (v := 0) rfl (fun t ht => z_q B [0, 1] (by decide) rfl ht) dX7_depthOf_25
set_option maxHeartbeats 4000000 in
set_option maxRecDepth 100000 in
theorem c_X7_finish_91 (l : Launch) (G : zGT) (sz : Nat) (a0 a1 a2 a3 a4 a5 a6 : Nat) : Met l yX7_finish (.code yX7_finish cX7_finish 7 (some .boolean) :: zT) ({ frames := 2, cells := 0, slots := 0, locals := 109 }) (va_Pc [.ref a0, .int 0] (zPc G [zo a0 5 [.ref a2, .ref a1, .ref a3, .ref a4, .ref a5, .ref a6, .int 1, .int 0, .int 0, .int 0], zi G a1 8192 (upd (fun _ => 0) 0 16777216)] sz)) ((fun A => va_Qi (fun (r : Int32) (_ : Unit) => r = 1) (fun (_ : Unit) t => zQ G [zo a0 5 [.ref a2, .ref a1, .ref a3, .ref a4, .ref a5, .ref a6, .int 1, .int 0, .int 0, .int 0], zi G a1 8192 (upd (fun _ => 0) 0 16777216)] A t) A) (va_A [zo a0 5 [.ref a2, .ref a1, .ref a3, .ref a4, .ref a5, .ref a6, .int 1, .int 0, .int 0, .int 0], zi G a1 8192 (upd (fun _ => 0) 0 16777216)] sz)) 0 0 (va_A [zo a0 5 [.ref a2, .ref a1, .ref a3, .ref a4, .ref a5, .ref a6, .int 1, .int 0, .int 0, .int 0], zi G a1 8192 (upd (fun _ => 0) 0 16777216)] sz) := by
  refine z_start (y := yX7_finish) (bytes := cX7_finish) (maxL := 7) (ret := (some .boolean)) (av := [.ref a0, .int 0]) (QA := (fun A => va_Qi (fun (r : Int32) (_ : Unit) => r = 1) (fun (_ : Unit) t => zQ G [zo a0 5 [.ref a2, .ref a1, .ref a3, .ref a4, .ref a5, .ref a6, .int 1, .int 0, .int 0, .int 0], zi G a1 8192 (upd (fun _ => 0) 0 16777216)] A t) A)) (by decide) ⟨Nat.le_of_ble_eq_true rfl, trivial⟩ ?_
  intro p e s m below meth c A ls E B hr hlocks hin hl
  have hl : lv_has ls 7 [(0, .ref a0), (1, .int 0)] := hl
  have B : zB G A s.heap [zo a0 5 [.ref a2, .ref a1, .ref a3, .ref a4, .ref a5, .ref a6, .int 1, .int 0, .int 0, .int 0], zi G a1 8192 (upd (fun _ => 0) 0 16777216)] s.heap [] := B
  refine lv_iload_n E.x E.b dX7_finish_0 rfl (lv_at hl 1 rfl) ?_
  refine lv_istore_n (lv' := [(2, .int 0), (0, .ref a0), (1, .int 0)]) E.x E.b dX7_finish_1 rfl hl (by decide) rfl (fun ls hl => ?_)
  refine lv_aload_n E.x E.b dX7_finish_2 rfl (lv_at hl 1 rfl) ?_
  refine lv_iload_n E.x E.b dX7_finish_3 rfl (lv_at hl 2 rfl) ?_
  refine z_calli E B (wc := [zo a0 5 [.ref a2, .ref a1, .ref a3, .ref a4, .ref a5, .ref a6, .int 1, .int 0, .int 0, .int 0], zi G a1 8192 (upd (fun _ => 0) 0 16777216)]) (wr := []) [0, 1] [] rfl rfl (by decide) (by decide) (z_runV E B (As := [.int 0]) (rest := []) [0, 1] rfl (by decide) mv_X7_depthOf t_923 0 (ci := 5) rfl rfl rfl (c_X7_depthOf_90 l G _ a0 a1 a2 a3 a4 a5 a6) rfl rfl ⟨Nat.le_of_ble_eq_true rfl, Nat.le_of_ble_eq_true rfl⟩ rfl hl.1 rfl (Nat.le_of_ble_eq_true rfl) dX7_finish_4 ⟨(Nat.le_of_ble_eq_true rfl), (Nat.le_of_ble_eq_true rfl)⟩) (fun r t H locs hp hB J => ?_)
  have hq := hB
  have B := J _ hq
  have B : zB G A s.heap [zo a0 5 [.ref a2, .ref a1, .ref a3, .ref a4, .ref a5, .ref a6, .int 1, .int 0, .int 0, .int 0], zi G a1 8192 (upd (fun _ => 0) 0 16777216)] _ _ := B
  have hp := hp.symm
  subst hp
  refine lv_istore_n (lv' := [(3, .int 0), (2, .int 0), (0, .ref a0), (1, .int 0)]) E.x E.b dX7_finish_7 rfl hl (by decide) rfl (fun ls hl => ?_)
  refine lv_iload_n E.x E.b dX7_finish_8 rfl (lv_at hl 0 rfl) ?_
  refine lv_iconst (v := 1) E.x E.b dX7_finish_9 (by decide) ?_
  refine lv_isub E.x E.b dX7_finish_10 (z_topi (-1) (by decide +kernel) ?_)
  refine lv_istore (lv' := [(4, .int (-1)), (3, .int 0), (2, .int 0), (0, .ref a0), (1, .int 0)]) E.x E.b dX7_finish_11 hl (by decide) rfl (fun ls hl => ?_)
  refine lv_iload E.x E.b dX7_finish_13 (lv_at hl 0 rfl) ?_
  refine lv_if_lt (tgt := 82) E.x E.b dX7_finish_15 (by decide) (fun _ => ?_) (fun c => absurd (by decide +kernel) c)
  refine lv_iload_n E.x E.b dX7_finish_82 rfl (lv_at hl 1 rfl) ?_
  refine lv_iconst (v := (-1)) E.x E.b dX7_finish_83 (by decide) ?_
  refine lv_icmp_eq (tgt := 91) E.x E.b dX7_finish_84 (by decide) (fun c => absurd c (by decide +kernel)) (fun _ => ?_)
  refine lv_iconst (v := 1) E.x E.b dX7_finish_87 (by decide) ?_
  refine lv_goto (tgt := 92) E.x E.b dX7_finish_88 (by decide) ?_
  refine W.widen (k := 0) (n := 0) (Nat.le_of_ble_eq_true rfl) (Nat.le_of_ble_eq_true rfl) ?_
  exact z_zret E hr hlocks B (v := 1) rfl rfl (fun t ht => z_q B [0, 1] (by decide) rfl ht) dX7_finish_92
set_option maxHeartbeats 4000000 in
set_option maxRecDepth 100000 in
theorem c_X7_lookAhead_92 (l : Launch) (G : zGT) (sz : Nat) (a0 a1 a2 a3 a4 a5 a6 : Nat) : Met l yX7_lookAhead (.code yX7_lookAhead cX7_lookAhead 4 (some .boolean) :: zT) ({ frames := 3, cells := 0, slots := 0, locals := 135 }) (va_Pc [.ref a0, .int 0, .int 0] (zPc G [zo a0 5 [.ref a2, .ref a1, .ref a3, .ref a4, .ref a5, .ref a6, .int 1, .int 0, .int 0, .int 0], zi G a1 8192 (upd (fun _ => 0) 0 16777216)] sz)) ((fun A => va_Qi (fun (r : Int32) (_ : Unit) => r = 1) (fun (_ : Unit) t => zQ G [zo a0 5 [.ref a2, .ref a1, .ref a3, .ref a4, .ref a5, .ref a6, .int 1, .int 0, .int 0, .int 0], zi G a1 8192 (upd (fun _ => 0) 0 16777216)] A t) A) (va_A [zo a0 5 [.ref a2, .ref a1, .ref a3, .ref a4, .ref a5, .ref a6, .int 1, .int 0, .int 0, .int 0], zi G a1 8192 (upd (fun _ => 0) 0 16777216)] sz)) 0 0 (va_A [zo a0 5 [.ref a2, .ref a1, .ref a3, .ref a4, .ref a5, .ref a6, .int 1, .int 0, .int 0, .int 0], zi G a1 8192 (upd (fun _ => 0) 0 16777216)] sz) := by
  refine z_start (y := yX7_lookAhead) (bytes := cX7_lookAhead) (maxL := 4) (ret := (some .boolean)) (av := [.ref a0, .int 0, .int 0]) (QA := (fun A => va_Qi (fun (r : Int32) (_ : Unit) => r = 1) (fun (_ : Unit) t => zQ G [zo a0 5 [.ref a2, .ref a1, .ref a3, .ref a4, .ref a5, .ref a6, .int 1, .int 0, .int 0, .int 0], zi G a1 8192 (upd (fun _ => 0) 0 16777216)] A t) A)) (by decide) ⟨Nat.le_of_ble_eq_true rfl, trivial⟩ ?_
  intro p e s m below meth c A ls E B hr hlocks hin hl
  have hl : lv_has ls 4 [(0, .ref a0), (1, .int 0), (2, .int 0)] := hl
  have B : zB G A s.heap [zo a0 5 [.ref a2, .ref a1, .ref a3, .ref a4, .ref a5, .ref a6, .int 1, .int 0, .int 0, .int 0], zi G a1 8192 (upd (fun _ => 0) 0 16777216)] s.heap [] := B
  refine lv_iload_n E.x E.b dX7_lookAhead_0 rfl (lv_at hl 2 rfl) ?_
  refine lv_if_gt (tgt := 10) E.x E.b dX7_lookAhead_1 (by decide) (fun c => absurd c (by decide +kernel)) (fun _ => ?_)
  refine lv_aload_n E.x E.b dX7_lookAhead_4 rfl (lv_at hl 0 rfl) ?_
  refine lv_iload_n E.x E.b dX7_lookAhead_5 rfl (lv_at hl 1 rfl) ?_
  refine z_calli E B (wc := [zo a0 5 [.ref a2, .ref a1, .ref a3, .ref a4, .ref a5, .ref a6, .int 1, .int 0, .int 0, .int 0], zi G a1 8192 (upd (fun _ => 0) 0 16777216)]) (wr := []) [0, 1] [] rfl rfl (by decide) (by decide) (z_runV E B (As := [.int 0]) (rest := []) [0, 1] rfl (by decide) mv_X7_finish t_935 0 (ci := 5) rfl rfl rfl (c_X7_finish_91 l G _ a0 a1 a2 a3 a4 a5 a6) rfl rfl ⟨Nat.le_of_ble_eq_true rfl, Nat.le_of_ble_eq_true rfl⟩ rfl hl.1 rfl (Nat.le_of_ble_eq_true rfl) dX7_lookAhead_6 ⟨(Nat.le_of_ble_eq_true rfl), (Nat.le_of_ble_eq_true rfl)⟩) (fun r t H locs hp hB J => ?_)
  have hq := hB
  have B := J _ hq
  have B : zB G A s.heap [zo a0 5 [.ref a2, .ref a1, .ref a3, .ref a4, .ref a5, .ref a6, .int 1, .int 0, .int 0, .int 0], zi G a1 8192 (upd (fun _ => 0) 0 16777216)] _ _ := B
  have hp := hp.symm
  subst hp
  refine W.widen (k := 0) (n := 0) (Nat.le_of_ble_eq_true rfl) (Nat.le_of_ble_eq_true rfl) ?_
  exact z_zret E hr hlocks B (v := 1) rfl rfl (fun t ht => z_q B [0, 1] (by decide) rfl ht) dX7_lookAhead_9
set_option maxHeartbeats 4000000 in
set_option maxRecDepth 100000 in
theorem c_X7_solve_93 (l : Launch) (G : zGT) (sz : Nat) (a0 a1 a2 a3 a4 a5 a6 a7 a8 : Nat) : Met l yX7_solve (.code yX7_solve cX7_solve 5 none :: zT) ({ frames := 4, cells := 0, slots := 0, locals := 158 }) (va_Pc [.ref a0, .int 0, .ref a1] (zPc G [zo a0 5 [.ref a4, .ref a2, .ref a3, .ref a5, .ref a6, .ref a7, .int 0, .int 0, .int (-1), .int (-1)], zi G a2 8192 (fun _ => 0), zi G a3 3600 (fun _ => 0), zi G a1 64 (fun _ => 0), zo a4 0 [.ref a8, .int 0]] sz)) ((fun A => va_Qv (fun (_ : Unit) => True) (fun (_ : Unit) t => zQ G [zo a0 5 [.ref a4, .ref a2, .ref a3, .ref a5, .ref a6, .ref a7, .int 1, .int 0, .int 0, .int 0], zi G a2 8192 (upd (fun _ => 0) 0 16777216), zi G a3 3600 (fun _ => 0), zi G a1 64 (fun _ => 0), zo a4 0 [.ref a8, .int 0]] A t) A) (va_A [zo a0 5 [.ref a4, .ref a2, .ref a3, .ref a5, .ref a6, .ref a7, .int 0, .int 0, .int (-1), .int (-1)], zi G a2 8192 (fun _ => 0), zi G a3 3600 (fun _ => 0), zi G a1 64 (fun _ => 0), zo a4 0 [.ref a8, .int 0]] sz)) 0 0 (va_A [zo a0 5 [.ref a4, .ref a2, .ref a3, .ref a5, .ref a6, .ref a7, .int 0, .int 0, .int (-1), .int (-1)], zi G a2 8192 (fun _ => 0), zi G a3 3600 (fun _ => 0), zi G a1 64 (fun _ => 0), zo a4 0 [.ref a8, .int 0]] sz) := by
  refine z_start (y := yX7_solve) (bytes := cX7_solve) (maxL := 5) (ret := none) (av := [.ref a0, .int 0, .ref a1]) (QA := (fun A => va_Qv (fun (_ : Unit) => True) (fun (_ : Unit) t => zQ G [zo a0 5 [.ref a4, .ref a2, .ref a3, .ref a5, .ref a6, .ref a7, .int 1, .int 0, .int 0, .int 0], zi G a2 8192 (upd (fun _ => 0) 0 16777216), zi G a3 3600 (fun _ => 0), zi G a1 64 (fun _ => 0), zo a4 0 [.ref a8, .int 0]] A t) A)) (by decide) ⟨Nat.le_of_ble_eq_true rfl, trivial⟩ ?_
  intro p e s m below meth c A ls E B hr hlocks hin hl
  have hl : lv_has ls 5 [(0, .ref a0), (1, .int 0), (2, .ref a1)] := hl
  have B : zB G A s.heap [zo a0 5 [.ref a4, .ref a2, .ref a3, .ref a5, .ref a6, .ref a7, .int 0, .int 0, .int (-1), .int (-1)], zi G a2 8192 (fun _ => 0), zi G a3 3600 (fun _ => 0), zi G a1 64 (fun _ => 0), zo a4 0 [.ref a8, .int 0]] s.heap [] := B
  refine lv_aload_n E.x E.b dX7_solve_0 rfl (lv_at hl 0 rfl) ?_
  refine z_get E B z_inX7 (ci := 5) rfl 8 (by decide) t_865 0 rfl rfl dX7_solve_1 ?_
  refine lv_iload_n E.x E.b dX7_solve_4 rfl (lv_at hl 1 rfl) ?_
  refine lv_icmp_eq (tgt := 13) E.x E.b dX7_solve_5 (by decide) (fun c => absurd c (by decide +kernel)) (fun _ => ?_)
  refine lv_aload_n E.x E.b dX7_solve_8 rfl (lv_at hl 0 rfl) ?_
  refine lv_iload_n E.x E.b dX7_solve_9 rfl (lv_at hl 1 rfl) ?_
  refine z_callv E B (wc := [zo a0 5 [.ref a4, .ref a2, .ref a3, .ref a5, .ref a6, .ref a7, .int 0, .int 0, .int (-1), .int (-1)], zi G a2 8192 (fun _ => 0), zi G a3 3600 (fun _ => 0)]) (wr := [zi G a1 64 (fun _ => 0), zo a4 0 [.ref a8, .int 0]]) [0, 1, 2] [3, 4] rfl rfl (by decide) (by decide) (z_runV E B (As := [.int 0]) (rest := []) [0, 1, 2] rfl (by decide) mv_X7_prepare t_892 0 (ci := 5) rfl rfl rfl (c_X7_prepare_87 l G _ a0 a2 a3 a4 a5 a6 a7) rfl rfl ⟨Nat.le_of_ble_eq_true rfl, Nat.le_of_ble_eq_true rfl⟩ rfl hl.1 rfl (Nat.le_of_ble_eq_true rfl) dX7_solve_10 ⟨(Nat.le_of_ble_eq_true rfl), (Nat.le_of_ble_eq_true rfl)⟩) (fun  t H locs hp hB J => ?_)
  have hq := hB
  have B := J _ hq
  have B : zB G A s.heap [zi G a1 64 (fun _ => 0), zo a4 0 [.ref a8, .int 0], zo a0 5 [.ref a4, .ref a2, .ref a3, .ref a5, .ref a6, .ref a7, .int 1, .int 0, .int 0, .int (-1)], zi G a2 8192 (upd (fun _ => 0) 0 16777216), zi G a3 3600 (fun _ => 0)] _ _ := B
  refine lv_aload_n E.x E.b dX7_solve_13 rfl (lv_at hl 0 rfl) ?_
  refine lv_aload_n E.x E.b dX7_solve_14 rfl (lv_at hl 2 rfl) ?_
  refine z_calli E B (wc := [zo a0 5 [.ref a4, .ref a2, .ref a3, .ref a5, .ref a6, .ref a7, .int 1, .int 0, .int 0, .int (-1)], zi G a1 64 (fun _ => 0)]) (wr := [zo a4 0 [.ref a8, .int 0], zi G a2 8192 (upd (fun _ => 0) 0 16777216), zi G a3 3600 (fun _ => 0)]) [2, 0] [1, 3, 4] rfl rfl (by decide) (by decide) (z_runV E B (As := [.ref a1]) (rest := []) [2, 0] rfl (by decide) mv_X7_pack t_927 0 (ci := 5) rfl rfl rfl (c_X7_pack_88 l G _ a0 a1 a4 a2 a3 a5 a6 a7) rfl rfl ⟨Nat.le_of_ble_eq_true rfl, Nat.le_of_ble_eq_true rfl⟩ rfl hl.1 rfl (Nat.le_of_ble_eq_true rfl) dX7_solve_15 ⟨(Nat.le_of_ble_eq_true rfl), (Nat.le_of_ble_eq_true rfl)⟩) (fun r t H locs hp hB J => ?_)
  have hq := hB
  have B := J _ hq
  have B : zB G A s.heap [zo a4 0 [.ref a8, .int 0], zi G a2 8192 (upd (fun _ => 0) 0 16777216), zi G a3 3600 (fun _ => 0), zo a0 5 [.ref a4, .ref a2, .ref a3, .ref a5, .ref a6, .ref a7, .int 1, .int 0, .int 0, .int (-1)], zi G a1 64 (fun _ => 0)] _ _ := B
  have hp := hp.symm
  subst hp
  refine lv_istore_n (lv' := [(3, .int 0), (0, .ref a0), (1, .int 0), (2, .ref a1)]) E.x E.b dX7_solve_18 rfl hl (by decide) rfl (fun ls hl => ?_)
  refine lv_iload_n E.x E.b dX7_solve_19 rfl (lv_at hl 0 rfl) ?_
  refine lv_aload_n E.x E.b dX7_solve_20 rfl (lv_at hl 1 rfl) ?_
  refine z_get E B z_inX7 (ci := 5) rfl 9 (by decide) t_866 3 rfl rfl dX7_solve_21 ?_
  refine lv_icmp_ne (tgt := 28) E.x E.b dX7_solve_24 (by decide) (fun _ => ?_) (fun c => absurd c (by decide +kernel))
  refine lv_aload_n E.x E.b dX7_solve_28 rfl (lv_at hl 1 rfl) ?_
  refine lv_iload_n E.x E.b dX7_solve_29 rfl (lv_at hl 0 rfl) ?_
  refine z_put E B z_inX7 tyX7 tyX7_ok nmX7 (ci := 5) rfl 9 (by decide) rfl (ty := .int) (by decide +kernel) t_866 3 rfl (Nat.le_of_ble_eq_true rfl) rfl rfl dX7_solve_30 (fun H locs B => ?_)
  have B : zB G A s.heap [zo a4 0 [.ref a8, .int 0], zi G a2 8192 (upd (fun _ => 0) 0 16777216), zi G a3 3600 (fun _ => 0), zo a0 5 [.ref a4, .ref a2, .ref a3, .ref a5, .ref a6, .ref a7, .int 1, .int 0, .int 0, .int 0], zi G a1 64 (fun _ => 0)] _ _ := B
  refine lv_aload_n E.x E.b dX7_solve_33 rfl (lv_at hl 1 rfl) ?_
  refine z_get E B z_inX7 (ci := 5) rfl 0 (by decide) t_856 3 rfl rfl dX7_solve_34 ?_
  refine lv_iconst (v := 0) E.x E.b dX7_solve_37 (by decide) ?_
  refine z_put E B z_inX0 tyX0 tyX0_ok nmX0 (ci := 0) rfl 1 (by decide) rfl (ty := .int) (by decide +kernel) t_252 0 rfl (Nat.le_of_ble_eq_true rfl) rfl rfl dX7_solve_38 (fun H locs B => ?_)
  have B : zB G A s.heap [zo a4 0 [.ref a8, .int 0], zi G a2 8192 (upd (fun _ => 0) 0 16777216), zi G a3 3600 (fun _ => 0), zo a0 5 [.ref a4, .ref a2, .ref a3, .ref a5, .ref a6, .ref a7, .int 1, .int 0, .int 0, .int 0], zi G a1 64 (fun _ => 0)] _ _ := B
  refine lv_iconst (v := 0) E.x E.b dX7_solve_41 (by decide) ?_
  refine lv_istore (lv' := [(4, .int 0), (3, .int 0), (0, .ref a0), (1, .int 0), (2, .ref a1)]) E.x E.b dX7_solve_42 hl (by decide) rfl (fun ls hl => ?_)
  refine lv_iload E.x E.b dX7_solve_44 (lv_at hl 0 rfl) ?_
  refine lv_iconst (v := 4) E.x E.b dX7_solve_46 (by decide) ?_
  refine lv_icmp_gt (tgt := 67) E.x E.b dX7_solve_47 (by decide) (fun c => absurd c (by decide +kernel)) (fun _ => ?_)
  refine lv_aload_n E.x E.b dX7_solve_50 rfl (lv_at hl 2 rfl) ?_
  refine lv_iload_n E.x E.b dX7_solve_51 rfl (lv_at hl 1 rfl) ?_
  refine lv_iload E.x E.b dX7_solve_52 (lv_at hl 0 rfl) ?_
  refine z_calli E B (wc := [zo a0 5 [.ref a4, .ref a2, .ref a3, .ref a5, .ref a6, .ref a7, .int 1, .int 0, .int 0, .int 0], zi G a2 8192 (upd (fun _ => 0) 0 16777216)]) (wr := [zo a4 0 [.ref a8, .int 0], zi G a3 3600 (fun _ => 0), zi G a1 64 (fun _ => 0)]) [3, 1] [0, 2, 4] rfl rfl (by decide) (by decide) (z_runV E B (As := [.int 0, .int 0]) (rest := []) [3, 1] rfl (by decide) mv_X7_lookAhead t_931 0 (ci := 5) rfl rfl rfl (c_X7_lookAhead_92 l G _ a0 a2 a4 a3 a5 a6 a7) rfl rfl ⟨Nat.le_of_ble_eq_true rfl, Nat.le_of_ble_eq_true rfl⟩ rfl hl.1 rfl (Nat.le_of_ble_eq_true rfl) dX7_solve_54 ⟨(Nat.le_of_ble_eq_true rfl), (Nat.le_of_ble_eq_true rfl)⟩) (fun r t H locs hp hB J => ?_)
  have hq := hB
  have B := J _ hq
  have B : zB G A s.heap [zo a4 0 [.ref a8, .int 0], zi G a3 3600 (fun _ => 0), zi G a1 64 (fun _ => 0), zo a0 5 [.ref a4, .ref a2, .ref a3, .ref a5, .ref a6, .ref a7, .int 1, .int 0, .int 0, .int 0], zi G a2 8192 (upd (fun _ => 0) 0 16777216)] _ _ := B
  have hp := hp.symm
  subst hp
  refine lv_if_eq (tgt := 61) E.x E.b dX7_solve_57 (by decide) (fun c => absurd c (by decide +kernel)) (fun _ => ?_)
  refine W.widen (k := 0) (n := 0) (Nat.le_of_ble_eq_true rfl) (Nat.le_of_ble_eq_true rfl) ?_
  exact z_vret E hr hlocks B trivial (fun t ht => z_q B [3, 4, 1, 2, 0] (by decide) rfl ht) dX7_solve_60
set_option maxHeartbeats 4000000 in
set_option maxRecDepth 100000 in
theorem c_X11_leastForImages_94 (l : Launch) (G : zGT) (sz : Nat) (a0 a1 a2 a3 a4 a5 a6 a7 a8 a9 a10 a11 a12 a13 a14 a15 a16 : Nat) : Met l yX11_leastForImages (.code yX11_leastForImages cX11_leastForImages 1 (some (.object "BackLogic$Cascade")) :: zT) ({ frames := 5, cells := 8, slots := 11848, locals := 182 }) (va_Pc [.ref a0] (zPc G [zo a0 9 [.ref a3, .ref a4, .ref a5, .ref a6, .ref a7, .ref a8, .ref a9, .ref a10, .ref a1, .ref a11, .ref a12, .ref a13, .ref a14, .null, .int 0, .int (-1)], zo a1 1 [.ref a2, .ref a15, .ref a16], zi G a2 64 (fun _ => 0)] sz)) ((fun A => va_Qr (fun (_ : Unit) => True) (fun (_ : Unit) r t => ∃ (q_1 : Nat) (q_8 : Nat) (q_5 : Nat) (q_6 : Nat) (q_7 : Nat) (q_2 : Nat) (q_3 : Nat) (q_4 : Nat), r = q_2 ∧ zQ G [zo a0 9 [.ref a3, .ref a4, .ref a5, .ref a6, .ref a7, .ref a8, .ref a9, .ref a10, .ref a1, .ref a11, .ref a12, .ref a13, .ref a14, .ref q_1, .int 0, .int (-1)], zo a1 1 [.ref a2, .ref a15, .ref a16], zi G a2 64 (fun _ => 0), zi G q_8 8 (fun _ => 0), zi G q_5 12 (fun _ => 0), zi G q_6 12 (fun _ => 0), zi G q_7 12 (fun _ => 0), zo q_1 5 [.ref q_2, .ref q_3, .ref q_4, .ref q_5, .ref q_6, .ref q_7, .int 1, .int 0, .int 0, .int 0], zi G q_3 8192 (upd (fun _ => 0) 0 16777216), zi G q_4 3600 (fun _ => 0), zo q_2 0 [.ref q_8, .int 0]] A t) A) (va_A [zo a0 9 [.ref a3, .ref a4, .ref a5, .ref a6, .ref a7, .ref a8, .ref a9, .ref a10, .ref a1, .ref a11, .ref a12, .ref a13, .ref a14, .null, .int 0, .int (-1)], zo a1 1 [.ref a2, .ref a15, .ref a16], zi G a2 64 (fun _ => 0)] sz)) 8 11848 (va_A [zo a0 9 [.ref a3, .ref a4, .ref a5, .ref a6, .ref a7, .ref a8, .ref a9, .ref a10, .ref a1, .ref a11, .ref a12, .ref a13, .ref a14, .null, .int 0, .int (-1)], zo a1 1 [.ref a2, .ref a15, .ref a16], zi G a2 64 (fun _ => 0)] sz) := by
  refine z_start (y := yX11_leastForImages) (bytes := cX11_leastForImages) (maxL := 1) (ret := (some (.object "BackLogic$Cascade"))) (av := [.ref a0]) (QA := (fun A => va_Qr (fun (_ : Unit) => True) (fun (_ : Unit) r t => ∃ (q_1 : Nat) (q_8 : Nat) (q_5 : Nat) (q_6 : Nat) (q_7 : Nat) (q_2 : Nat) (q_3 : Nat) (q_4 : Nat), r = q_2 ∧ zQ G [zo a0 9 [.ref a3, .ref a4, .ref a5, .ref a6, .ref a7, .ref a8, .ref a9, .ref a10, .ref a1, .ref a11, .ref a12, .ref a13, .ref a14, .ref q_1, .int 0, .int (-1)], zo a1 1 [.ref a2, .ref a15, .ref a16], zi G a2 64 (fun _ => 0), zi G q_8 8 (fun _ => 0), zi G q_5 12 (fun _ => 0), zi G q_6 12 (fun _ => 0), zi G q_7 12 (fun _ => 0), zo q_1 5 [.ref q_2, .ref q_3, .ref q_4, .ref q_5, .ref q_6, .ref q_7, .int 1, .int 0, .int 0, .int 0], zi G q_3 8192 (upd (fun _ => 0) 0 16777216), zi G q_4 3600 (fun _ => 0), zo q_2 0 [.ref q_8, .int 0]] A t) A)) (by decide) ⟨Nat.le_of_ble_eq_true rfl, trivial⟩ ?_
  intro p e s m below meth c A ls E B hr hlocks hin hl
  have hl : lv_has ls 1 [(0, .ref a0)] := hl
  have B : zB G A s.heap [zo a0 9 [.ref a3, .ref a4, .ref a5, .ref a6, .ref a7, .ref a8, .ref a9, .ref a10, .ref a1, .ref a11, .ref a12, .ref a13, .ref a14, .null, .int 0, .int (-1)], zo a1 1 [.ref a2, .ref a15, .ref a16], zi G a2 64 (fun _ => 0)] s.heap [] := B
  refine lv_aload_n E.x E.b dX11_leastForImages_0 rfl (lv_at hl 0 rfl) ?_
  refine z_get E B z_inX11 (ci := 9) rfl 13 (by decide) t_382 0 rfl rfl dX11_leastForImages_1 ?_
  refine lv_ifnonnullN E.x E.b dX11_leastForImages_4 ?_
  refine lv_aload_n E.x E.b dX11_leastForImages_7 rfl (lv_at hl 0 rfl) ?_
  refine z_new E B z_inX7 tyX7 tyX7_ok t_848 t_849 t_140 (ci := 5) rfl (fs := [.null, .null, .null, .null, .null, .null, .int 0, .int 0, .int 0, .int 0]) (by decide +kernel) (Nat.le_of_ble_eq_true rfl) (Nat.le_of_ble_eq_true rfl) dX11_leastForImages_8 (fun q_1 H B => ?_)
  have B : zB G A s.heap [zo a0 9 [.ref a3, .ref a4, .ref a5, .ref a6, .ref a7, .ref a8, .ref a9, .ref a10, .ref a1, .ref a11, .ref a12, .ref a13, .ref a14, .null, .int 0, .int (-1)], zo a1 1 [.ref a2, .ref a15, .ref a16], zi G a2 64 (fun _ => 0), zo q_1 5 [.null, .null, .null, .null, .null, .null, .int 0, .int 0, .int 0, .int 0]] _ _ := B
  refine lv_dup E.x E.b dX11_leastForImages_11 rfl ?_
  refine z_callv E B (wc := [zo q_1 5 [.null, .null, .null, .null, .null, .null, .int 0, .int 0, .int 0, .int 0]]) (wr := [zo a0 9 [.ref a3, .ref a4, .ref a5, .ref a6, .ref a7, .ref a8, .ref a9, .ref a10, .ref a1, .ref a11, .ref a12, .ref a13, .ref a14, .null, .int 0, .int (-1)], zo a1 1 [.ref a2, .ref a15, .ref a16], zi G a2 64 (fun _ => 0)]) [3] [0, 1, 2] rfl rfl (by decide) (by decide) (z_runIN E B (As := []) (rest := [.ref q_1, .ref a0]) [3] rfl (by decide) mi_X7_init E.2.1.2.2.2.2.2.2.2.1 (c_X7_init_82 l G _ q_1) rfl rfl ⟨Nat.le_of_ble_eq_true rfl, Nat.le_of_ble_eq_true rfl⟩ rfl hl.1 rfl (Nat.le_of_ble_eq_true rfl) dX11_leastForImages_12 ⟨(Nat.le_of_ble_eq_true rfl), (Nat.le_of_ble_eq_true rfl)⟩) (fun  t H locs hp hB J => ?_)
  obtain ⟨q_2, q_3, q_4, q_5, q_6, q_7, q_8, hq⟩ := hB
  have B := J _ hq
  have B : zB G A s.heap [zo a0 9 [.ref a3, .ref a4, .ref a5, .ref a6, .ref a7, .ref a8, .ref a9, .ref a10, .ref a1, .ref a11, .ref a12, .ref a13, .ref a14, .null, .int 0, .int (-1)], zo a1 1 [.ref a2, .ref a15, .ref a16], zi G a2 64 (fun _ => 0), zo q_1 5 [.ref q_2, .ref q_3, .ref q_4, .ref q_5, .ref q_6, .ref q_7, .int 0, .int 0, .int (-1), .int (-1)], zo q_2 0 [.ref q_8, .int 0], zi G q_8 8 (fun _ => 0), zi G q_3 8192 (fun _ => 0), zi G q_4 3600 (fun _ => 0), zi G q_5 12 (fun _ => 0), zi G q_6 12 (fun _ => 0), zi G q_7 12 (fun _ => 0)] _ _ := B
  refine z_put E B z_inX11 tyX11 tyX11_ok nmX11 (ci := 9) rfl 13 (by decide) rfl (ty := (.object "BackLogic$Shortest")) (by decide +kernel) t_382 0 rfl (Nat.le_of_ble_eq_true rfl) rfl rfl dX11_leastForImages_15 (fun H locs B => ?_)
  have B : zB G A s.heap [zo a0 9 [.ref a3, .ref a4, .ref a5, .ref a6, .ref a7, .ref a8, .ref a9, .ref a10, .ref a1, .ref a11, .ref a12, .ref a13, .ref a14, .ref q_1, .int 0, .int (-1)], zo a1 1 [.ref a2, .ref a15, .ref a16], zi G a2 64 (fun _ => 0), zo q_1 5 [.ref q_2, .ref q_3, .ref q_4, .ref q_5, .ref q_6, .ref q_7, .int 0, .int 0, .int (-1), .int (-1)], zo q_2 0 [.ref q_8, .int 0], zi G q_8 8 (fun _ => 0), zi G q_3 8192 (fun _ => 0), zi G q_4 3600 (fun _ => 0), zi G q_5 12 (fun _ => 0), zi G q_6 12 (fun _ => 0), zi G q_7 12 (fun _ => 0)] _ _ := B
  refine lv_aload_n E.x E.b dX11_leastForImages_18 rfl (lv_at hl 0 rfl) ?_
  refine z_get E B z_inX11 (ci := 9) rfl 13 (by decide) t_382 0 rfl rfl dX11_leastForImages_19 ?_
  refine lv_aload_n E.x E.b dX11_leastForImages_22 rfl (lv_at hl 0 rfl) ?_
  refine z_get E B z_inX11 (ci := 9) rfl 14 (by decide) t_383 0 rfl rfl dX11_leastForImages_23 ?_
  refine lv_aload_n E.x E.b dX11_leastForImages_26 rfl (lv_at hl 0 rfl) ?_
  refine z_get E B z_inX11 (ci := 9) rfl 8 (by decide) t_377 0 rfl rfl dX11_leastForImages_27 ?_
  refine z_get E B z_inX1 (ci := 1) rfl 0 (by decide) t_290 1 rfl rfl dX11_leastForImages_30 ?_
  refine z_callv E B (wc := [zo q_1 5 [.ref q_2, .ref q_3, .ref q_4, .ref q_5, .ref q_6, .ref q_7, .int 0, .int 0, .int (-1), .int (-1)], zi G q_3 8192 (fun _ => 0), zi G q_4 3600 (fun _ => 0), zi G a2 64 (fun _ => 0), zo q_2 0 [.ref q_8, .int 0]]) (wr := [zo a0 9 [.ref a3, .ref a4, .ref a5, .ref a6, .ref a7, .ref a8, .ref a9, .ref a10, .ref a1, .ref a11, .ref a12, .ref a13, .ref a14, .ref q_1, .int 0, .int (-1)], zo a1 1 [.ref a2, .ref a15, .ref a16], zi G q_8 8 (fun _ => 0), zi G q_5 12 (fun _ => 0), zi G q_6 12 (fun _ => 0), zi G q_7 12 (fun _ => 0)]) [3, 6, 7, 2, 4] [0, 1, 5, 8, 9, 10] rfl rfl (by decide) (by decide) (z_runV E B (As := [.int 0, .ref a2]) (rest := []) [3, 6, 7, 2, 4] rfl (by decide) mv_X7_solve t_888 0 (ci := 5) rfl rfl rfl (c_X7_solve_93 l G _ q_1 a2 q_3 q_4 q_2 q_5 q_6 q_7 q_8) rfl rfl ⟨Nat.le_of_ble_eq_true rfl, Nat.le_of_ble_eq_true rfl⟩ rfl hl.1 rfl (Nat.le_of_ble_eq_true rfl) dX11_leastForImages_33 ⟨(Nat.le_of_ble_eq_true rfl), (Nat.le_of_ble_eq_true rfl)⟩) (fun  t H locs hp hB J => ?_)
  have hq := hB
  have B := J _ hq
  have B : zB G A s.heap [zo a0 9 [.ref a3, .ref a4, .ref a5, .ref a6, .ref a7, .ref a8, .ref a9, .ref a10, .ref a1, .ref a11, .ref a12, .ref a13, .ref a14, .ref q_1, .int 0, .int (-1)], zo a1 1 [.ref a2, .ref a15, .ref a16], zi G q_8 8 (fun _ => 0), zi G q_5 12 (fun _ => 0), zi G q_6 12 (fun _ => 0), zi G q_7 12 (fun _ => 0), zo q_1 5 [.ref q_2, .ref q_3, .ref q_4, .ref q_5, .ref q_6, .ref q_7, .int 1, .int 0, .int 0, .int 0], zi G q_3 8192 (upd (fun _ => 0) 0 16777216), zi G q_4 3600 (fun _ => 0), zi G a2 64 (fun _ => 0), zo q_2 0 [.ref q_8, .int 0]] _ _ := B
  refine lv_aload_n E.x E.b dX11_leastForImages_36 rfl (lv_at hl 0 rfl) ?_
  refine z_get E B z_inX11 (ci := 9) rfl 13 (by decide) t_382 0 rfl rfl dX11_leastForImages_37 ?_
  refine z_get E B z_inX7 (ci := 5) rfl 0 (by decide) t_857 6 rfl rfl dX11_leastForImages_40 ?_
  refine W.widen (k := 8) (n := 11848) (Nat.le_of_ble_eq_true rfl) (Nat.le_of_ble_eq_true rfl) ?_
  exact z_aret E hr (Or.inl ⟨_, rfl⟩) hlocks B trivial (fun t ht => ⟨q_1, q_8, q_5, q_6, q_7, q_2, q_3, q_4, rfl, z_q B [0, 1, 9, 2, 3, 4, 5, 6, 7, 8, 10] (by decide) rfl ht⟩) dX11_leastForImages_43
