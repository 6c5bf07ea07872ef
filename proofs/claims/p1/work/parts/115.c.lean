set_option maxHeartbeats 4000000 in
set_option maxRecDepth 100000 in
theorem c_X12_laysFound_170 (l : Launch) (G : zGT) (sz : Nat) (a0 a1 a2 a3 a4 a5 a6 a7 a8 a9 a10 a11 a12 a13 a14 a15 a16 a17 a18 a19 a20 a21 a22 a23 a24 a25 a26 a27 a28 a29 a30 a31 a32 a33 : Nat) : Met l yX12_laysFound (.code yX12_laysFound cX12_laysFound 10 none :: zT) ({ frames := 0, cells := 0, slots := 0, locals := 64 }) (va_Pc [.ref a0, .int 0, .int 0] (zPc G [zo a0 10 [.int 0, .ref a2, .int 0, .ref a3, .int 0, .ref a4, .ref a5, .ref a6, .ref a7, .ref a8, .int 0, .int 0, .int 0, .int 0, .int 0, .int 0, .int (-1), .int 0, .ref a9, .int 0, .int 0, .ref a10, .int 0, .int 0, .ref a11, .int 0, .int 0, .ref a12, .ref a13, .ref a14, .ref a15, .int 0, .int 0, .ref a16, .ref a17, .ref a1, .ref a18, .ref a19, .int 0, .ref a20, .ref a21, .int 0, .int 0, .ref a22, .ref a23, .ref a24, .ref a25, .ref a26, .int (-1), .ref a27, .ref a28, .ref a29, .ref a30, .ref a31, .ref a32, .ref a33], zi G a1 64 (fun _ => 0)] sz)) ((fun A => va_Qv (fun (_ : Unit) => True) (fun (_ : Unit) t => zQ G [zo a0 10 [.int 0, .ref a2, .int 0, .ref a3, .int 0, .ref a4, .ref a5, .ref a6, .ref a7, .ref a8, .int 0, .int 0, .int 0, .int 0, .int 0, .int 0, .int (-1), .int 0, .ref a9, .int 0, .int 0, .ref a10, .int 0, .int 0, .ref a11, .int 0, .int 0, .ref a12, .ref a13, .ref a14, .ref a15, .int 0, .int 0, .ref a16, .ref a17, .ref a1, .ref a18, .ref a19, .int 0, .ref a20, .ref a21, .int 0, .int 0, .ref a22, .ref a23, .ref a24, .ref a25, .ref a26, .int (-1), .ref a27, .ref a28, .ref a29, .ref a30, .ref a31, .ref a32, .ref a33], zi G a1 64 (fun _ => 0)] A t) A) (va_A [zo a0 10 [.int 0, .ref a2, .int 0, .ref a3, .int 0, .ref a4, .ref a5, .ref a6, .ref a7, .ref a8, .int 0, .int 0, .int 0, .int 0, .int 0, .int 0, .int (-1), .int 0, .ref a9, .int 0, .int 0, .ref a10, .int 0, .int 0, .ref a11, .int 0, .int 0, .ref a12, .ref a13, .ref a14, .ref a15, .int 0, .int 0, .ref a16, .ref a17, .ref a1, .ref a18, .ref a19, .int 0, .ref a20, .ref a21, .int 0, .int 0, .ref a22, .ref a23, .ref a24, .ref a25, .ref a26, .int (-1), .ref a27, .ref a28, .ref a29, .ref a30, .ref a31, .ref a32, .ref a33], zi G a1 64 (fun _ => 0)] sz)) 0 0 (va_A [zo a0 10 [.int 0, .ref a2, .int 0, .ref a3, .int 0, .ref a4, .ref a5, .ref a6, .ref a7, .ref a8, .int 0, .int 0, .int 0, .int 0, .int 0, .int 0, .int (-1), .int 0, .ref a9, .int 0, .int 0, .ref a10, .int 0, .int 0, .ref a11, .int 0, .int 0, .ref a12, .ref a13, .ref a14, .ref a15, .int 0, .int 0, .ref a16, .ref a17, .ref a1, .ref a18, .ref a19, .int 0, .ref a20, .ref a21, .int 0, .int 0, .ref a22, .ref a23, .ref a24, .ref a25, .ref a26, .int (-1), .ref a27, .ref a28, .ref a29, .ref a30, .ref a31, .ref a32, .ref a33], zi G a1 64 (fun _ => 0)] sz) := by
  refine z_start (QA := (fun A => va_Qv (fun (_ : Unit) => True) (fun (_ : Unit) t => zQ G [zo a0 10 [.int 0, .ref a2, .int 0, .ref a3, .int 0, .ref a4, .ref a5, .ref a6, .ref a7, .ref a8, .int 0, .int 0, .int 0, .int 0, .int 0, .int 0, .int (-1), .int 0, .ref a9, .int 0, .int 0, .ref a10, .int 0, .int 0, .ref a11, .int 0, .int 0, .ref a12, .ref a13, .ref a14, .ref a15, .int 0, .int 0, .ref a16, .ref a17, .ref a1, .ref a18, .ref a19, .int 0, .ref a20, .ref a21, .int 0, .int 0, .ref a22, .ref a23, .ref a24, .ref a25, .ref a26, .int (-1), .ref a27, .ref a28, .ref a29, .ref a30, .ref a31, .ref a32, .ref a33], zi G a1 64 (fun _ => 0)] A t) A)) (by decide) ⟨Nat.le_of_ble_eq_true rfl, trivial⟩ ?_
  intro p e s m below meth c A ls E B hr hlocks hin hl
  have hl : lv_has ls 10 [(0, .ref a0), (1, .int 0), (2, .int 0)] := hl
  have B : zB G A s.heap [zo a0 10 [.int 0, .ref a2, .int 0, .ref a3, .int 0, .ref a4, .ref a5, .ref a6, .ref a7, .ref a8, .int 0, .int 0, .int 0, .int 0, .int 0, .int 0, .int (-1), .int 0, .ref a9, .int 0, .int 0, .ref a10, .int 0, .int 0, .ref a11, .int 0, .int 0, .ref a12, .ref a13, .ref a14, .ref a15, .int 0, .int 0, .ref a16, .ref a17, .ref a1, .ref a18, .ref a19, .int 0, .ref a20, .ref a21, .int 0, .int 0, .ref a22, .ref a23, .ref a24, .ref a25, .ref a26, .int (-1), .ref a27, .ref a28, .ref a29, .ref a30, .ref a31, .ref a32, .ref a33], zi G a1 64 (fun _ => 0)] s.heap [] := B
  refine lv_iconst (v := 1) E.x E.b dX12_laysFound_0 (by decide) ?_
  refine lv_iload_n E.x E.b dX12_laysFound_1 rfl (lv_at hl 1 rfl) ?_
  refine lv_ishl E.x E.b dX12_laysFound_2 (z_topi 1 (by decide +kernel) ?_)
  refine lv_istore_n (lv' := [(3, .int 1), (0, .ref a0), (1, .int 0), (2, .int 0)]) E.x E.b dX12_laysFound_3 rfl hl (by decide) rfl (fun ls hl => ?_)
  refine lv_aload_n E.x E.b dX12_laysFound_4 rfl (lv_at hl 1 rfl) ?_
  refine lv_iconst (v := 0) E.x E.b dX12_laysFound_5 (by decide) ?_
  refine z_put E B z_inX12 tyX12 tyX12_ok nmX12 (ci := 10) rfl 41 (by decide) rfl (ty := .int) (by decide +kernel) t_1233 0 rfl (Nat.le_of_ble_eq_true rfl) rfl rfl dX12_laysFound_6 (fun H locs B => ?_)
  have B : zB G A s.heap [zo a0 10 [.int 0, .ref a2, .int 0, .ref a3, .int 0, .ref a4, .ref a5, .ref a6, .ref a7, .ref a8, .int 0, .int 0, .int 0, .int 0, .int 0, .int 0, .int (-1), .int 0, .ref a9, .int 0, .int 0, .ref a10, .int 0, .int 0, .ref a11, .int 0, .int 0, .ref a12, .ref a13, .ref a14, .ref a15, .int 0, .int 0, .ref a16, .ref a17, .ref a1, .ref a18, .ref a19, .int 0, .ref a20, .ref a21, .int 0, .int 0, .ref a22, .ref a23, .ref a24, .ref a25, .ref a26, .int (-1), .ref a27, .ref a28, .ref a29, .ref a30, .ref a31, .ref a32, .ref a33], zi G a1 64 (fun _ => 0)] _ _ := B
  refine lv_aload_n E.x E.b dX12_laysFound_9 rfl (lv_at hl 1 rfl) ?_
  refine lv_iconst (v := 0) E.x E.b dX12_laysFound_10 (by decide) ?_
  refine z_put E B z_inX12 tyX12 tyX12_ok nmX12 (ci := 10) rfl 42 (by decide) rfl (ty := .int) (by decide +kernel) t_1234 0 rfl (Nat.le_of_ble_eq_true rfl) rfl rfl dX12_laysFound_11 (fun H locs B => ?_)
  have B : zB G A s.heap [zo a0 10 [.int 0, .ref a2, .int 0, .ref a3, .int 0, .ref a4, .ref a5, .ref a6, .ref a7, .ref a8, .int 0, .int 0, .int 0, .int 0, .int 0, .int 0, .int (-1), .int 0, .ref a9, .int 0, .int 0, .ref a10, .int 0, .int 0, .ref a11, .int 0, .int 0, .ref a12, .ref a13, .ref a14, .ref a15, .int 0, .int 0, .ref a16, .ref a17, .ref a1, .ref a18, .ref a19, .int 0, .ref a20, .ref a21, .int 0, .int 0, .ref a22, .ref a23, .ref a24, .ref a25, .ref a26, .int (-1), .ref a27, .ref a28, .ref a29, .ref a30, .ref a31, .ref a32, .ref a33], zi G a1 64 (fun _ => 0)] _ _ := B
  refine lv_iconst (v := 0) E.x E.b dX12_laysFound_14 (by decide) ?_
  refine lv_istore (lv' := [(4, .int 0), (3, .int 1), (0, .ref a0), (1, .int 0), (2, .int 0)]) E.x E.b dX12_laysFound_15 hl (by decide) rfl (fun ls hl => ?_)
  refine lv_iload E.x E.b dX12_laysFound_17 (lv_at hl 0 rfl) ?_
  refine lv_iload_n E.x E.b dX12_laysFound_19 rfl (lv_at hl 1 rfl) ?_
  refine lv_icmp_ge (tgt := 210) E.x E.b dX12_laysFound_20 (by decide) (fun c => absurd c (by decide +kernel)) (fun _ => ?_)
  refine lv_aload_n E.x E.b dX12_laysFound_23 rfl (lv_at hl 2 rfl) ?_
  refine z_get E B z_inX12 (ci := 10) rfl 35 (by decide) t_1227 0 rfl rfl dX12_laysFound_24 ?_
  refine lv_iload E.x E.b dX12_laysFound_27 (lv_at hl 0 rfl) ?_
  refine z_iald E B 1 rfl (show ¬ ((0 : Int32) < 0 ∨ 64 ≤ (0 : Int32).toNatClampNeg) by decide +kernel) dX12_laysFound_29 (z_topi 0 rfl ?_)
  refine lv_istore (lv' := [(5, .int 0), (4, .int 0), (3, .int 1), (0, .ref a0), (1, .int 0), (2, .int 0)]) E.x E.b dX12_laysFound_30 hl (by decide) rfl (fun ls hl => ?_)
  refine lv_iconst (v := 0) E.x E.b dX12_laysFound_32 (by decide) ?_
  refine lv_istore (lv' := [(6, .int 0), (5, .int 0), (4, .int 0), (3, .int 1), (0, .ref a0), (1, .int 0), (2, .int 0)]) E.x E.b dX12_laysFound_33 hl (by decide) rfl (fun ls hl => ?_)
  refine lv_aload_n E.x E.b dX12_laysFound_35 rfl (lv_at hl 4 rfl) ?_
  refine z_get E B z_inX12 (ci := 10) rfl 35 (by decide) t_1227 0 rfl rfl dX12_laysFound_36 ?_
  refine lv_iload E.x E.b dX12_laysFound_39 (lv_at hl 0 rfl) ?_
  refine z_iald E B 1 rfl (show ¬ ((0 : Int32) < 0 ∨ 64 ≤ (0 : Int32).toNatClampNeg) by decide +kernel) dX12_laysFound_41 (z_topi 0 rfl ?_)
  refine lv_iload E.x E.b dX12_laysFound_42 (lv_at hl 2 rfl) ?_
  refine lv_icmp_eq (tgt := 53) E.x E.b dX12_laysFound_44 (by decide) (fun _ => ?_) (fun c => absurd (by decide +kernel) c)
  refine lv_iload_n E.x E.b dX12_laysFound_53 rfl (lv_at hl 6 rfl) ?_
  refine lv_if_eq (tgt := 80) E.x E.b dX12_laysFound_54 (by decide) (fun _ => ?_) (fun c => absurd (by decide +kernel) c)
  refine lv_iconst (v := 0) E.x E.b dX12_laysFound_80 (by decide) ?_
  refine lv_istore (lv' := [(7, .int 0), (6, .int 0), (5, .int 0), (4, .int 0), (3, .int 1), (0, .ref a0), (1, .int 0), (2, .int 0)]) E.x E.b dX12_laysFound_81 hl (by decide) rfl (fun ls hl => ?_)
  refine lv_iload E.x E.b dX12_laysFound_83 (lv_at hl 0 rfl) ?_
  refine lv_if_eq (tgt := 93) E.x E.b dX12_laysFound_85 (by decide) (fun _ => ?_) (fun c => absurd (by decide +kernel) c)
  refine lv_iload E.x E.b dX12_laysFound_93 (lv_at hl 2 rfl) ?_
  refine lv_istore (lv' := [(8, .int 0), (7, .int 0), (6, .int 0), (5, .int 0), (4, .int 0), (3, .int 1), (0, .ref a0), (1, .int 0), (2, .int 0)]) E.x E.b dX12_laysFound_95 hl (by decide) rfl (fun ls hl => ?_)
  refine lv_iconst (v := 0) E.x E.b dX12_laysFound_97 (by decide) ?_
  refine lv_istore (lv' := [(9, .int 0), (8, .int 0), (7, .int 0), (6, .int 0), (5, .int 0), (4, .int 0), (3, .int 1), (0, .ref a0), (1, .int 0), (2, .int 0)]) E.x E.b dX12_laysFound_98 hl (by decide) rfl (fun ls hl => ?_)
  refine lv_iload E.x E.b dX12_laysFound_100 (lv_at hl 0 rfl) ?_
  refine lv_iload_n E.x E.b dX12_laysFound_102 rfl (lv_at hl 8 rfl) ?_
  refine lv_icmp_ge (tgt := 147) E.x E.b dX12_laysFound_103 (by decide) (fun _ => ?_) (fun c => absurd (by decide +kernel) c)
  refine lv_iconst (v := 0) E.x E.b dX12_laysFound_147 (by decide) ?_
  refine lv_istore (lv' := [(9, .int 0), (8, .int 0), (7, .int 0), (6, .int 0), (5, .int 0), (4, .int 0), (3, .int 1), (0, .ref a0), (1, .int 0), (2, .int 0)]) E.x E.b dX12_laysFound_148 hl (by decide) rfl (fun ls hl => ?_)
  refine lv_iload E.x E.b dX12_laysFound_150 (lv_at hl 0 rfl) ?_
  refine lv_iload_n E.x E.b dX12_laysFound_152 rfl (lv_at hl 8 rfl) ?_
  refine lv_icmp_ge (tgt := 204) E.x E.b dX12_laysFound_153 (by decide) (fun _ => ?_) (fun c => absurd (by decide +kernel) c)
  refine lv_iinc (v := 1) (lv' := [(4, .int 1), (9, .int 0), (8, .int 0), (7, .int 0), (6, .int 0), (5, .int 0), (3, .int 1), (0, .ref a0), (1, .int 0), (2, .int 0)]) E.x E.b dX12_laysFound_204 hl (k := 5) rfl (by decide +kernel) (by decide) rfl (fun ls hl => ?_)
  refine lv_goto (tgt := 17) E.x E.b dX12_laysFound_207 (by decide) ?_
  refine lv_iload E.x E.b dX12_laysFound_17 (lv_at hl 0 rfl) ?_
  refine lv_iload_n E.x E.b dX12_laysFound_19 rfl (lv_at hl 6 rfl) ?_
  refine lv_icmp_ge (tgt := 210) E.x E.b dX12_laysFound_20 (by decide) (fun _ => ?_) (fun c => absurd (by decide +kernel) c)
  refine lv_aload_n E.x E.b dX12_laysFound_210 rfl (lv_at hl 7 rfl) ?_
  refine lv_iconst (v := 0) E.x E.b dX12_laysFound_211 (by decide) ?_
  refine z_put E B z_inX12 tyX12 tyX12_ok nmX12 (ci := 10) rfl 38 (by decide) rfl (ty := .int) (by decide +kernel) t_1230 0 rfl (Nat.le_of_ble_eq_true rfl) rfl rfl dX12_laysFound_212 (fun H locs B => ?_)
  have B : zB G A s.heap [zo a0 10 [.int 0, .ref a2, .int 0, .ref a3, .int 0, .ref a4, .ref a5, .ref a6, .ref a7, .ref a8, .int 0, .int 0, .int 0, .int 0, .int 0, .int 0, .int (-1), .int 0, .ref a9, .int 0, .int 0, .ref a10, .int 0, .int 0, .ref a11, .int 0, .int 0, .ref a12, .ref a13, .ref a14, .ref a15, .int 0, .int 0, .ref a16, .ref a17, .ref a1, .ref a18, .ref a19, .int 0, .ref a20, .ref a21, .int 0, .int 0, .ref a22, .ref a23, .ref a24, .ref a25, .ref a26, .int (-1), .ref a27, .ref a28, .ref a29, .ref a30, .ref a31, .ref a32, .ref a33], zi G a1 64 (fun _ => 0)] _ _ := B
  refine lv_iconst (v := 0) E.x E.b dX12_laysFound_215 (by decide) ?_
  refine lv_istore (lv' := [(4, .int 0), (9, .int 0), (8, .int 0), (7, .int 0), (6, .int 0), (5, .int 0), (3, .int 1), (0, .ref a0), (1, .int 0), (2, .int 0)]) E.x E.b dX12_laysFound_216 hl (by decide) rfl (fun ls hl => ?_)
  refine lv_iload E.x E.b dX12_laysFound_218 (lv_at hl 0 rfl) ?_
  refine lv_aload_n E.x E.b dX12_laysFound_220 rfl (lv_at hl 7 rfl) ?_
  refine z_get E B z_inX12 (ci := 10) rfl 41 (by decide) t_1233 0 rfl rfl dX12_laysFound_221 ?_
  refine lv_icmp_ge (tgt := 251) E.x E.b dX12_laysFound_224 (by decide) (fun _ => ?_) (fun c => absurd (by decide +kernel) c)
  refine lv_aload_n E.x E.b dX12_laysFound_251 rfl (lv_at hl 7 rfl) ?_
  refine z_get E B z_inX12 (ci := 10) rfl 42 (by decide) t_1234 0 rfl rfl dX12_laysFound_252 ?_
  refine lv_iconst (v := 1) E.x E.b dX12_laysFound_255 (by decide) ?_
  refine lv_isub E.x E.b dX12_laysFound_256 (z_topi (-1) (by decide +kernel) ?_)
  refine lv_istore (lv' := [(4, .int (-1)), (9, .int 0), (8, .int 0), (7, .int 0), (6, .int 0), (5, .int 0), (3, .int 1), (0, .ref a0), (1, .int 0), (2, .int 0)]) E.x E.b dX12_laysFound_257 hl (by decide) rfl (fun ls hl => ?_)
  refine lv_iload E.x E.b dX12_laysFound_259 (lv_at hl 0 rfl) ?_
  refine lv_if_lt (tgt := 288) E.x E.b dX12_laysFound_261 (by decide) (fun _ => ?_) (fun c => absurd (by decide +kernel) c)
  refine W.widen (k := 0) (n := 0) (Nat.le_of_ble_eq_true rfl) (Nat.le_of_ble_eq_true rfl) ?_
  exact z_vret E hr hlocks B trivial (fun t ht => z_q B [0, 1] (by decide) rfl ht) dX12_laysFound_288
set_option maxHeartbeats 4000000 in
set_option maxRecDepth 100000 in
theorem c_X12_bitsOf_171 (l : Launch) (G : zGT) (sz : Nat) : Met l yX12_bitsOf (.code yX12_bitsOf cX12_bitsOf 3 (some .int) :: zT) ({ frames := 0, cells := 0, slots := 0, locals := 64 }) (va_Pc [.int 0] (zPc G [] sz)) ((fun A => va_Qi (fun (r : Int32) (_ : Unit) => r = 0) (fun (_ : Unit) t => zQ G [] A t) A) (va_A [] sz)) 0 0 (va_A [] sz) := by
  refine z_start (QA := (fun A => va_Qi (fun (r : Int32) (_ : Unit) => r = 0) (fun (_ : Unit) t => zQ G [] A t) A)) (by decide) ⟨Nat.le_of_ble_eq_true rfl, trivial⟩ ?_
  intro p e s m below meth c A ls E B hr hlocks hin hl
  have hl : lv_has ls 3 [(0, .int 0)] := hl
  have B : zB G A s.heap [] s.heap [] := B
  refine lv_iconst (v := 0) E.x E.b dX12_bitsOf_0 (by decide) ?_
  refine lv_istore_n (lv' := [(1, .int 0), (0, .int 0)]) E.x E.b dX12_bitsOf_1 rfl hl (by decide) rfl (fun ls hl => ?_)
  refine lv_iload_n E.x E.b dX12_bitsOf_2 rfl (lv_at hl 1 rfl) ?_
  refine lv_istore_n (lv' := [(2, .int 0), (1, .int 0), (0, .int 0)]) E.x E.b dX12_bitsOf_3 rfl hl (by decide) rfl (fun ls hl => ?_)
  refine lv_iload_n E.x E.b dX12_bitsOf_4 rfl (lv_at hl 0 rfl) ?_
  refine lv_if_le (tgt := 21) E.x E.b dX12_bitsOf_5 (by decide) (fun _ => ?_) (fun c => absurd (by decide +kernel) c)
  refine lv_iload_n E.x E.b dX12_bitsOf_21 rfl (lv_at hl 1 rfl) ?_
  refine W.widen (k := 0) (n := 0) (Nat.le_of_ble_eq_true rfl) (Nat.le_of_ble_eq_true rfl) ?_
  exact z_iret E hr hlocks B (v := 0) rfl (fun t ht => z_q B [] (by decide) rfl ht) dX12_bitsOf_22
set_option maxHeartbeats 4000000 in
set_option maxRecDepth 100000 in
theorem c_X12_laysFound_172 (l : Launch) (G : zGT) (sz : Nat) (a0 a1 a2 a3 a4 a5 a6 a7 a8 a9 a10 a11 a12 a13 a14 a15 a16 a17 a18 a19 a20 a21 a22 a23 a24 a25 a26 a27 a28 a29 a30 a31 a32 a33 : Nat) : Met l yX12_laysFound (.code yX12_laysFound cX12_laysFound 10 none :: zT) ({ frames := 1, cells := 0, slots := 0, locals := 86 }) (va_Pc [.ref a0, .int 0, .int 1] (zPc G [zo a0 10 [.int 0, .ref a2, .int 0, .ref a3, .int 0, .ref a4, .ref a5, .ref a6, .ref a7, .ref a8, .int 0, .int 0, .int 0, .int 0, .int 0, .int 0, .int (-1), .int 0, .ref a9, .int 0, .int 0, .ref a10, .int 0, .int 0, .ref a11, .int 0, .int 0, .ref a12, .ref a13, .ref a14, .ref a15, .int 0, .int 0, .ref a16, .ref a17, .ref a1, .ref a18, .ref a19, .int 0, .ref a20, .ref a21, .int 0, .int 0, .ref a22, .ref a23, .ref a24, .ref a25, .ref a26, .int (-1), .ref a27, .ref a28, .ref a29, .ref a30, .ref a31, .ref a32, .ref a33], zi G a1 64 (fun _ => 0)] sz)) ((fun A => va_Qv (fun (_ : Unit) => True) (fun (_ : Unit) t => zQ G [zo a0 10 [.int 0, .ref a2, .int 0, .ref a3, .int 0, .ref a4, .ref a5, .ref a6, .ref a7, .ref a8, .int 0, .int 0, .int 0, .int 0, .int 0, .int 0, .int (-1), .int 0, .ref a9, .int 0, .int 0, .ref a10, .int 0, .int 0, .ref a11, .int 0, .int 0, .ref a12, .ref a13, .ref a14, .ref a15, .int 0, .int 0, .ref a16, .ref a17, .ref a1, .ref a18, .ref a19, .int 0, .ref a20, .ref a21, .int 0, .int 0, .ref a22, .ref a23, .ref a24, .ref a25, .ref a26, .int (-1), .ref a27, .ref a28, .ref a29, .ref a30, .ref a31, .ref a32, .ref a33], zi G a1 64 (fun _ => 0)] A t) A) (va_A [zo a0 10 [.int 0, .ref a2, .int 0, .ref a3, .int 0, .ref a4, .ref a5, .ref a6, .ref a7, .ref a8, .int 0, .int 0, .int 0, .int 0, .int 0, .int 0, .int (-1), .int 0, .ref a9, .int 0, .int 0, .ref a10, .int 0, .int 0, .ref a11, .int 0, .int 0, .ref a12, .ref a13, .ref a14, .ref a15, .int 0, .int 0, .ref a16, .ref a17, .ref a1, .ref a18, .ref a19, .int 0, .ref a20, .ref a21, .int 0, .int 0, .ref a22, .ref a23, .ref a24, .ref a25, .ref a26, .int (-1), .ref a27, .ref a28, .ref a29, .ref a30, .ref a31, .ref a32, .ref a33], zi G a1 64 (fun _ => 0)] sz)) 0 0 (va_A [zo a0 10 [.int 0, .ref a2, .int 0, .ref a3, .int 0, .ref a4, .ref a5, .ref a6, .ref a7, .ref a8, .int 0, .int 0, .int 0, .int 0, .int 0, .int 0, .int (-1), .int 0, .ref a9, .int 0, .int 0, .ref a10, .int 0, .int 0, .ref a11, .int 0, .int 0, .ref a12, .ref a13, .ref a14, .ref a15, .int 0, .int 0, .ref a16, .ref a17, .ref a1, .ref a18, .ref a19, .int 0, .ref a20, .ref a21, .int 0, .int 0, .ref a22, .ref a23, .ref a24, .ref a25, .ref a26, .int (-1), .ref a27, .ref a28, .ref a29, .ref a30, .ref a31, .ref a32, .ref a33], zi G a1 64 (fun _ => 0)] sz) := by
  refine z_start (QA := (fun A => va_Qv (fun (_ : Unit) => True) (fun (_ : Unit) t => zQ G [zo a0 10 [.int 0, .ref a2, .int 0, .ref a3, .int 0, .ref a4, .ref a5, .ref a6, .ref a7, .ref a8, .int 0, .int 0, .int 0, .int 0, .int 0, .int 0, .int (-1), .int 0, .ref a9, .int 0, .int 0, .ref a10, .int 0, .int 0, .ref a11, .int 0, .int 0, .ref a12, .ref a13, .ref a14, .ref a15, .int 0, .int 0, .ref a16, .ref a17, .ref a1, .ref a18, .ref a19, .int 0, .ref a20, .ref a21, .int 0, .int 0, .ref a22, .ref a23, .ref a24, .ref a25, .ref a26, .int (-1), .ref a27, .ref a28, .ref a29, .ref a30, .ref a31, .ref a32, .ref a33], zi G a1 64 (fun _ => 0)] A t) A)) (by decide) ⟨Nat.le_of_ble_eq_true rfl, trivial⟩ ?_
  intro p e s m below meth c A ls E B hr hlocks hin hl
  have hl : lv_has ls 10 [(0, .ref a0), (1, .int 0), (2, .int 1)] := hl
  have B : zB G A s.heap [zo a0 10 [.int 0, .ref a2, .int 0, .ref a3, .int 0, .ref a4, .ref a5, .ref a6, .ref a7, .ref a8, .int 0, .int 0, .int 0, .int 0, .int 0, .int 0, .int (-1), .int 0, .ref a9, .int 0, .int 0, .ref a10, .int 0, .int 0, .ref a11, .int 0, .int 0, .ref a12, .ref a13, .ref a14, .ref a15, .int 0, .int 0, .ref a16, .ref a17, .ref a1, .ref a18, .ref a19, .int 0, .ref a20, .ref a21, .int 0, .int 0, .ref a22, .ref a23, .ref a24, .ref a25, .ref a26, .int (-1), .ref a27, .ref a28, .ref a29, .ref a30, .ref a31, .ref a32, .ref a33], zi G a1 64 (fun _ => 0)] s.heap [] := B
  refine lv_iconst (v := 1) E.x E.b dX12_laysFound_0 (by decide) ?_
  refine lv_iload_n E.x E.b dX12_laysFound_1 rfl (lv_at hl 1 rfl) ?_
  refine lv_ishl E.x E.b dX12_laysFound_2 (z_topi 1 (by decide +kernel) ?_)
  refine lv_istore_n (lv' := [(3, .int 1), (0, .ref a0), (1, .int 0), (2, .int 1)]) E.x E.b dX12_laysFound_3 rfl hl (by decide) rfl (fun ls hl => ?_)
  refine lv_aload_n E.x E.b dX12_laysFound_4 rfl (lv_at hl 1 rfl) ?_
  refine lv_iconst (v := 0) E.x E.b dX12_laysFound_5 (by decide) ?_
  refine z_put E B z_inX12 tyX12 tyX12_ok nmX12 (ci := 10) rfl 41 (by decide) rfl (ty := .int) (by decide +kernel) t_1233 0 rfl (Nat.le_of_ble_eq_true rfl) rfl rfl dX12_laysFound_6 (fun H locs B => ?_)
  have B : zB G A s.heap [zo a0 10 [.int 0, .ref a2, .int 0, .ref a3, .int 0, .ref a4, .ref a5, .ref a6, .ref a7, .ref a8, .int 0, .int 0, .int 0, .int 0, .int 0, .int 0, .int (-1), .int 0, .ref a9, .int 0, .int 0, .ref a10, .int 0, .int 0, .ref a11, .int 0, .int 0, .ref a12, .ref a13, .ref a14, .ref a15, .int 0, .int 0, .ref a16, .ref a17, .ref a1, .ref a18, .ref a19, .int 0, .ref a20, .ref a21, .int 0, .int 0, .ref a22, .ref a23, .ref a24, .ref a25, .ref a26, .int (-1), .ref a27, .ref a28, .ref a29, .ref a30, .ref a31, .ref a32, .ref a33], zi G a1 64 (fun _ => 0)] _ _ := B
  refine lv_aload_n E.x E.b dX12_laysFound_9 rfl (lv_at hl 1 rfl) ?_
  refine lv_iconst (v := 0) E.x E.b dX12_laysFound_10 (by decide) ?_
  refine z_put E B z_inX12 tyX12 tyX12_ok nmX12 (ci := 10) rfl 42 (by decide) rfl (ty := .int) (by decide +kernel) t_1234 0 rfl (Nat.le_of_ble_eq_true rfl) rfl rfl dX12_laysFound_11 (fun H locs B => ?_)
  have B : zB G A s.heap [zo a0 10 [.int 0, .ref a2, .int 0, .ref a3, .int 0, .ref a4, .ref a5, .ref a6, .ref a7, .ref a8, .int 0, .int 0, .int 0, .int 0, .int 0, .int 0, .int (-1), .int 0, .ref a9, .int 0, .int 0, .ref a10, .int 0, .int 0, .ref a11, .int 0, .int 0, .ref a12, .ref a13, .ref a14, .ref a15, .int 0, .int 0, .ref a16, .ref a17, .ref a1, .ref a18, .ref a19, .int 0, .ref a20, .ref a21, .int 0, .int 0, .ref a22, .ref a23, .ref a24, .ref a25, .ref a26, .int (-1), .ref a27, .ref a28, .ref a29, .ref a30, .ref a31, .ref a32, .ref a33], zi G a1 64 (fun _ => 0)] _ _ := B
  refine lv_iconst (v := 0) E.x E.b dX12_laysFound_14 (by decide) ?_
  refine lv_istore (lv' := [(4, .int 0), (3, .int 1), (0, .ref a0), (1, .int 0), (2, .int 1)]) E.x E.b dX12_laysFound_15 hl (by decide) rfl (fun ls hl => ?_)
  refine lv_iload E.x E.b dX12_laysFound_17 (lv_at hl 0 rfl) ?_
  refine lv_iload_n E.x E.b dX12_laysFound_19 rfl (lv_at hl 1 rfl) ?_
  refine lv_icmp_ge (tgt := 210) E.x E.b dX12_laysFound_20 (by decide) (fun c => absurd c (by decide +kernel)) (fun _ => ?_)
  refine lv_aload_n E.x E.b dX12_laysFound_23 rfl (lv_at hl 2 rfl) ?_
  refine z_get E B z_inX12 (ci := 10) rfl 35 (by decide) t_1227 0 rfl rfl dX12_laysFound_24 ?_
  refine lv_iload E.x E.b dX12_laysFound_27 (lv_at hl 0 rfl) ?_
  refine z_iald E B 1 rfl (show ¬ ((0 : Int32) < 0 ∨ 64 ≤ (0 : Int32).toNatClampNeg) by decide +kernel) dX12_laysFound_29 (z_topi 0 rfl ?_)
  refine lv_istore (lv' := [(5, .int 0), (4, .int 0), (3, .int 1), (0, .ref a0), (1, .int 0), (2, .int 1)]) E.x E.b dX12_laysFound_30 hl (by decide) rfl (fun ls hl => ?_)
  refine lv_iconst (v := 0) E.x E.b dX12_laysFound_32 (by decide) ?_
  refine lv_istore (lv' := [(6, .int 0), (5, .int 0), (4, .int 0), (3, .int 1), (0, .ref a0), (1, .int 0), (2, .int 1)]) E.x E.b dX12_laysFound_33 hl (by decide) rfl (fun ls hl => ?_)
  refine lv_aload_n E.x E.b dX12_laysFound_35 rfl (lv_at hl 4 rfl) ?_
  refine z_get E B z_inX12 (ci := 10) rfl 35 (by decide) t_1227 0 rfl rfl dX12_laysFound_36 ?_
  refine lv_iload E.x E.b dX12_laysFound_39 (lv_at hl 0 rfl) ?_
  refine z_iald E B 1 rfl (show ¬ ((0 : Int32) < 0 ∨ 64 ≤ (0 : Int32).toNatClampNeg) by decide +kernel) dX12_laysFound_41 (z_topi 0 rfl ?_)
  refine lv_iload E.x E.b dX12_laysFound_42 (lv_at hl 2 rfl) ?_
  refine lv_icmp_eq (tgt := 53) E.x E.b dX12_laysFound_44 (by decide) (fun _ => ?_) (fun c => absurd (by decide +kernel) c)
  refine lv_iload_n E.x E.b dX12_laysFound_53 rfl (lv_at hl 6 rfl) ?_
  refine lv_if_eq (tgt := 80) E.x E.b dX12_laysFound_54 (by decide) (fun c => absurd c (by decide +kernel)) (fun _ => ?_)
  refine lv_iload E.x E.b dX12_laysFound_57 (lv_at hl 2 rfl) ?_
  refine lv_iload E.x E.b dX12_laysFound_59 (lv_at hl 0 rfl) ?_
  refine lv_ixor E.x E.b dX12_laysFound_61 (z_topi 0 (by decide +kernel) ?_)
  refine z_calli E B (wc := []) (wr := [zo a0 10 [.int 0, .ref a2, .int 0, .ref a3, .int 0, .ref a4, .ref a5, .ref a6, .ref a7, .ref a8, .int 0, .int 0, .int 0, .int 0, .int 0, .int 0, .int (-1), .int 0, .ref a9, .int 0, .int 0, .ref a10, .int 0, .int 0, .ref a11, .int 0, .int 0, .ref a12, .ref a13, .ref a14, .ref a15, .int 0, .int 0, .ref a16, .ref a17, .ref a1, .ref a18, .ref a19, .int 0, .ref a20, .ref a21, .int 0, .int 0, .ref a22, .ref a23, .ref a24, .ref a25, .ref a26, .int (-1), .ref a27, .ref a28, .ref a29, .ref a30, .ref a31, .ref a32, .ref a33], zi G a1 64 (fun _ => 0)]) [] [0, 1] rfl rfl (by decide) (by decide) (z_runS E B (As := [.int 0]) (rest := []) [] rfl (by decide) ms_X12_bitsOf t_1514 (c_X12_bitsOf_171 l G _) rfl rfl ⟨Nat.le_of_ble_eq_true rfl, Nat.le_of_ble_eq_true rfl⟩ rfl hl.1 rfl (Nat.le_of_ble_eq_true rfl) dX12_laysFound_62 ⟨(Nat.le_of_ble_eq_true rfl), (Nat.le_of_ble_eq_true rfl)⟩) (fun r t H locs hp hB J => ?_)
  have hq := hB
  have B := J _ hq
  have B : zB G A s.heap [zo a0 10 [.int 0, .ref a2, .int 0, .ref a3, .int 0, .ref a4, .ref a5, .ref a6, .ref a7, .ref a8, .int 0, .int 0, .int 0, .int 0, .int 0, .int 0, .int (-1), .int 0, .ref a9, .int 0, .int 0, .ref a10, .int 0, .int 0, .ref a11, .int 0, .int 0, .ref a12, .ref a13, .ref a14, .ref a15, .int 0, .int 0, .ref a16, .ref a17, .ref a1, .ref a18, .ref a19, .int 0, .ref a20, .ref a21, .int 0, .int 0, .ref a22, .ref a23, .ref a24, .ref a25, .ref a26, .int (-1), .ref a27, .ref a28, .ref a29, .ref a30, .ref a31, .ref a32, .ref a33], zi G a1 64 (fun _ => 0)] _ _ := B
  have hp := hp.symm
  subst hp
  refine lv_iload E.x E.b dX12_laysFound_65 (lv_at hl 2 rfl) ?_
  refine lv_iload E.x E.b dX12_laysFound_67 (lv_at hl 1 rfl) ?_
  refine lv_ixor E.x E.b dX12_laysFound_69 (z_topi 0 (by decide +kernel) ?_)
  refine z_calli E B (wc := []) (wr := [zo a0 10 [.int 0, .ref a2, .int 0, .ref a3, .int 0, .ref a4, .ref a5, .ref a6, .ref a7, .ref a8, .int 0, .int 0, .int 0, .int 0, .int 0, .int 0, .int (-1), .int 0, .ref a9, .int 0, .int 0, .ref a10, .int 0, .int 0, .ref a11, .int 0, .int 0, .ref a12, .ref a13, .ref a14, .ref a15, .int 0, .int 0, .ref a16, .ref a17, .ref a1, .ref a18, .ref a19, .int 0, .ref a20, .ref a21, .int 0, .int 0, .ref a22, .ref a23, .ref a24, .ref a25, .ref a26, .int (-1), .ref a27, .ref a28, .ref a29, .ref a30, .ref a31, .ref a32, .ref a33], zi G a1 64 (fun _ => 0)]) [] [0, 1] rfl rfl (by decide) (by decide) (z_runS E B (As := [.int 0]) (rest := [.int 0]) [] rfl (by decide) ms_X12_bitsOf t_1514 (c_X12_bitsOf_171 l G _) rfl rfl ⟨Nat.le_of_ble_eq_true rfl, Nat.le_of_ble_eq_true rfl⟩ rfl hl.1 rfl (Nat.le_of_ble_eq_true rfl) dX12_laysFound_70 ⟨(Nat.le_of_ble_eq_true rfl), (Nat.le_of_ble_eq_true rfl)⟩) (fun r t H locs hp hB J => ?_)
  have hq := hB
  have B := J _ hq
  have B : zB G A s.heap [zo a0 10 [.int 0, .ref a2, .int 0, .ref a3, .int 0, .ref a4, .ref a5, .ref a6, .ref a7, .ref a8, .int 0, .int 0, .int 0, .int 0, .int 0, .int 0, .int (-1), .int 0, .ref a9, .int 0, .int 0, .ref a10, .int 0, .int 0, .ref a11, .int 0, .int 0, .ref a12, .ref a13, .ref a14, .ref a15, .int 0, .int 0, .ref a16, .ref a17, .ref a1, .ref a18, .ref a19, .int 0, .ref a20, .ref a21, .int 0, .int 0, .ref a22, .ref a23, .ref a24, .ref a25, .ref a26, .int (-1), .ref a27, .ref a28, .ref a29, .ref a30, .ref a31, .ref a32, .ref a33], zi G a1 64 (fun _ => 0)] _ _ := B
  have hp := hp.symm
  subst hp
  refine lv_icmp_ge (tgt := 80) E.x E.b dX12_laysFound_73 (by decide) (fun _ => ?_) (fun c => absurd (by decide +kernel) c)
  refine lv_iconst (v := 0) E.x E.b dX12_laysFound_80 (by decide) ?_
  refine lv_istore (lv' := [(7, .int 0), (6, .int 0), (5, .int 0), (4, .int 0), (3, .int 1), (0, .ref a0), (1, .int 0), (2, .int 1)]) E.x E.b dX12_laysFound_81 hl (by decide) rfl (fun ls hl => ?_)
  refine lv_iload E.x E.b dX12_laysFound_83 (lv_at hl 0 rfl) ?_
  refine lv_if_eq (tgt := 93) E.x E.b dX12_laysFound_85 (by decide) (fun _ => ?_) (fun c => absurd (by decide +kernel) c)
  refine lv_iload E.x E.b dX12_laysFound_93 (lv_at hl 2 rfl) ?_
  refine lv_istore (lv' := [(8, .int 0), (7, .int 0), (6, .int 0), (5, .int 0), (4, .int 0), (3, .int 1), (0, .ref a0), (1, .int 0), (2, .int 1)]) E.x E.b dX12_laysFound_95 hl (by decide) rfl (fun ls hl => ?_)
  refine lv_iconst (v := 0) E.x E.b dX12_laysFound_97 (by decide) ?_
  refine lv_istore (lv' := [(9, .int 0), (8, .int 0), (7, .int 0), (6, .int 0), (5, .int 0), (4, .int 0), (3, .int 1), (0, .ref a0), (1, .int 0), (2, .int 1)]) E.x E.b dX12_laysFound_98 hl (by decide) rfl (fun ls hl => ?_)
  refine lv_iload E.x E.b dX12_laysFound_100 (lv_at hl 0 rfl) ?_
  refine lv_iload_n E.x E.b dX12_laysFound_102 rfl (lv_at hl 8 rfl) ?_
  refine lv_icmp_ge (tgt := 147) E.x E.b dX12_laysFound_103 (by decide) (fun _ => ?_) (fun c => absurd (by decide +kernel) c)
  refine lv_iconst (v := 0) E.x E.b dX12_laysFound_147 (by decide) ?_
  refine lv_istore (lv' := [(9, .int 0), (8, .int 0), (7, .int 0), (6, .int 0), (5, .int 0), (4, .int 0), (3, .int 1), (0, .ref a0), (1, .int 0), (2, .int 1)]) E.x E.b dX12_laysFound_148 hl (by decide) rfl (fun ls hl => ?_)
  refine lv_iload E.x E.b dX12_laysFound_150 (lv_at hl 0 rfl) ?_
  refine lv_iload_n E.x E.b dX12_laysFound_152 rfl (lv_at hl 8 rfl) ?_
  refine lv_icmp_ge (tgt := 204) E.x E.b dX12_laysFound_153 (by decide) (fun _ => ?_) (fun c => absurd (by decide +kernel) c)
  refine lv_iinc (v := 1) (lv' := [(4, .int 1), (9, .int 0), (8, .int 0), (7, .int 0), (6, .int 0), (5, .int 0), (3, .int 1), (0, .ref a0), (1, .int 0), (2, .int 1)]) E.x E.b dX12_laysFound_204 hl (k := 5) rfl (by decide +kernel) (by decide) rfl (fun ls hl => ?_)
  refine lv_goto (tgt := 17) E.x E.b dX12_laysFound_207 (by decide) ?_
  refine lv_iload E.x E.b dX12_laysFound_17 (lv_at hl 0 rfl) ?_
  refine lv_iload_n E.x E.b dX12_laysFound_19 rfl (lv_at hl 6 rfl) ?_
  refine lv_icmp_ge (tgt := 210) E.x E.b dX12_laysFound_20 (by decide) (fun _ => ?_) (fun c => absurd (by decide +kernel) c)
  refine lv_aload_n E.x E.b dX12_laysFound_210 rfl (lv_at hl 7 rfl) ?_
  refine lv_iconst (v := 0) E.x E.b dX12_laysFound_211 (by decide) ?_
  refine z_put E B z_inX12 tyX12 tyX12_ok nmX12 (ci := 10) rfl 38 (by decide) rfl (ty := .int) (by decide +kernel) t_1230 0 rfl (Nat.le_of_ble_eq_true rfl) rfl rfl dX12_laysFound_212 (fun H locs B => ?_)
  have B : zB G A s.heap [zo a0 10 [.int 0, .ref a2, .int 0, .ref a3, .int 0, .ref a4, .ref a5, .ref a6, .ref a7, .ref a8, .int 0, .int 0, .int 0, .int 0, .int 0, .int 0, .int (-1), .int 0, .ref a9, .int 0, .int 0, .ref a10, .int 0, .int 0, .ref a11, .int 0, .int 0, .ref a12, .ref a13, .ref a14, .ref a15, .int 0, .int 0, .ref a16, .ref a17, .ref a1, .ref a18, .ref a19, .int 0, .ref a20, .ref a21, .int 0, .int 0, .ref a22, .ref a23, .ref a24, .ref a25, .ref a26, .int (-1), .ref a27, .ref a28, .ref a29, .ref a30, .ref a31, .ref a32, .ref a33], zi G a1 64 (fun _ => 0)] _ _ := B
  refine lv_iconst (v := 0) E.x E.b dX12_laysFound_215 (by decide) ?_
  refine lv_istore (lv' := [(4, .int 0), (9, .int 0), (8, .int 0), (7, .int 0), (6, .int 0), (5, .int 0), (3, .int 1), (0, .ref a0), (1, .int 0), (2, .int 1)]) E.x E.b dX12_laysFound_216 hl (by decide) rfl (fun ls hl => ?_)
  refine lv_iload E.x E.b dX12_laysFound_218 (lv_at hl 0 rfl) ?_
  refine lv_aload_n E.x E.b dX12_laysFound_220 rfl (lv_at hl 7 rfl) ?_
  refine z_get E B z_inX12 (ci := 10) rfl 41 (by decide) t_1233 0 rfl rfl dX12_laysFound_221 ?_
  refine lv_icmp_ge (tgt := 251) E.x E.b dX12_laysFound_224 (by decide) (fun _ => ?_) (fun c => absurd (by decide +kernel) c)
  refine lv_aload_n E.x E.b dX12_laysFound_251 rfl (lv_at hl 7 rfl) ?_
  refine z_get E B z_inX12 (ci := 10) rfl 42 (by decide) t_1234 0 rfl rfl dX12_laysFound_252 ?_
  refine lv_iconst (v := 1) E.x E.b dX12_laysFound_255 (by decide) ?_
  refine lv_isub E.x E.b dX12_laysFound_256 (z_topi (-1) (by decide +kernel) ?_)
  refine lv_istore (lv' := [(4, .int (-1)), (9, .int 0), (8, .int 0), (7, .int 0), (6, .int 0), (5, .int 0), (3, .int 1), (0, .ref a0), (1, .int 0), (2, .int 1)]) E.x E.b dX12_laysFound_257 hl (by decide) rfl (fun ls hl => ?_)
  refine lv_iload E.x E.b dX12_laysFound_259 (lv_at hl 0 rfl) ?_
  refine lv_if_lt (tgt := 288) E.x E.b dX12_laysFound_261 (by decide) (fun _ => ?_) (fun c => absurd (by decide +kernel) c)
  refine W.widen (k := 0) (n := 0) (Nat.le_of_ble_eq_true rfl) (Nat.le_of_ble_eq_true rfl) ?_
  exact z_vret E hr hlocks B trivial (fun t ht => z_q B [0, 1] (by decide) rfl ht) dX12_laysFound_288
set_option maxHeartbeats 4000000 in
set_option maxRecDepth 100000 in
theorem c_X12_shrinks_173 (l : Launch) (G : zGT) (sz : Nat) (a0 a1 a2 a3 a4 a5 a6 a7 a8 a9 a10 a11 a12 a13 a14 a15 a16 a17 a18 a19 a20 a21 a22 a23 a24 a25 a26 a27 a28 a29 a30 a31 a32 a33 : Nat) : Met l yX12_shrinks (.code yX12_shrinks cX12_shrinks 4 (some .boolean) :: zT) ({ frames := 0, cells := 0, slots := 0, locals := 64 }) (va_Pc [.ref a0, .int 1] (zPc G [zo a0 10 [.int 0, .ref a2, .int 0, .ref a3, .int 0, .ref a4, .ref a5, .ref a6, .ref a7, .ref a8, .int 0, .int 0, .int 0, .int 0, .int 0, .int 0, .int (-1), .int 0, .ref a9, .int 0, .int 0, .ref a10, .int 0, .int 0, .ref a11, .int 0, .int 0, .ref a12, .ref a13, .ref a14, .ref a15, .int 0, .int 0, .ref a16, .ref a17, .ref a18, .ref a19, .ref a1, .int 0, .ref a20, .ref a21, .int 0, .int 0, .ref a22, .ref a23, .ref a24, .ref a25, .ref a26, .int (-1), .ref a27, .ref a28, .ref a29, .ref a30, .ref a31, .ref a32, .ref a33], zi G a1 49 (fun _ => 0)] sz)) ((fun A => va_Qi (fun (r : Int32) (_ : Unit) => r = 0) (fun (_ : Unit) t => zQ G [zo a0 10 [.int 0, .ref a2, .int 0, .ref a3, .int 0, .ref a4, .ref a5, .ref a6, .ref a7, .ref a8, .int 0, .int 0, .int 0, .int 0, .int 0, .int 0, .int (-1), .int 0, .ref a9, .int 0, .int 0, .ref a10, .int 0, .int 0, .ref a11, .int 0, .int 0, .ref a12, .ref a13, .ref a14, .ref a15, .int 0, .int 0, .ref a16, .ref a17, .ref a18, .ref a19, .ref a1, .int 0, .ref a20, .ref a21, .int 0, .int 0, .ref a22, .ref a23, .ref a24, .ref a25, .ref a26, .int (-1), .ref a27, .ref a28, .ref a29, .ref a30, .ref a31, .ref a32, .ref a33], zi G a1 49 (fun _ => 0)] A t) A) (va_A [zo a0 10 [.int 0, .ref a2, .int 0, .ref a3, .int 0, .ref a4, .ref a5, .ref a6, .ref a7, .ref a8, .int 0, .int 0, .int 0, .int 0, .int 0, .int 0, .int (-1), .int 0, .ref a9, .int 0, .int 0, .ref a10, .int 0, .int 0, .ref a11, .int 0, .int 0, .ref a12, .ref a13, .ref a14, .ref a15, .int 0, .int 0, .ref a16, .ref a17, .ref a18, .ref a19, .ref a1, .int 0, .ref a20, .ref a21, .int 0, .int 0, .ref a22, .ref a23, .ref a24, .ref a25, .ref a26, .int (-1), .ref a27, .ref a28, .ref a29, .ref a30, .ref a31, .ref a32, .ref a33], zi G a1 49 (fun _ => 0)] sz)) 0 0 (va_A [zo a0 10 [.int 0, .ref a2, .int 0, .ref a3, .int 0, .ref a4, .ref a5, .ref a6, .ref a7, .ref a8, .int 0, .int 0, .int 0, .int 0, .int 0, .int 0, .int (-1), .int 0, .ref a9, .int 0, .int 0, .ref a10, .int 0, .int 0, .ref a11, .int 0, .int 0, .ref a12, .ref a13, .ref a14, .ref a15, .int 0, .int 0, .ref a16, .ref a17, .ref a18, .ref a19, .ref a1, .int 0, .ref a20, .ref a21, .int 0, .int 0, .ref a22, .ref a23, .ref a24, .ref a25, .ref a26, .int (-1), .ref a27, .ref a28, .ref a29, .ref a30, .ref a31, .ref a32, .ref a33], zi G a1 49 (fun _ => 0)] sz) := by
  refine z_start (QA := (fun A => va_Qi (fun (r : Int32) (_ : Unit) => r = 0) (fun (_ : Unit) t => zQ G [zo a0 10 [.int 0, .ref a2, .int 0, .ref a3, .int 0, .ref a4, .ref a5, .ref a6, .ref a7, .ref a8, .int 0, .int 0, .int 0, .int 0, .int 0, .int 0, .int (-1), .int 0, .ref a9, .int 0, .int 0, .ref a10, .int 0, .int 0, .ref a11, .int 0, .int 0, .ref a12, .ref a13, .ref a14, .ref a15, .int 0, .int 0, .ref a16, .ref a17, .ref a18, .ref a19, .ref a1, .int 0, .ref a20, .ref a21, .int 0, .int 0, .ref a22, .ref a23, .ref a24, .ref a25, .ref a26, .int (-1), .ref a27, .ref a28, .ref a29, .ref a30, .ref a31, .ref a32, .ref a33], zi G a1 49 (fun _ => 0)] A t) A)) (by decide) ⟨Nat.le_of_ble_eq_true rfl, trivial⟩ ?_
  intro p e s m below meth c A ls E B hr hlocks hin hl
  have hl : lv_has ls 4 [(0, .ref a0), (1, .int 1)] := hl
  have B : zB G A s.heap [zo a0 10 [.int 0, .ref a2, .int 0, .ref a3, .int 0, .ref a4, .ref a5, .ref a6, .ref a7, .ref a8, .int 0, .int 0, .int 0, .int 0, .int 0, .int 0, .int (-1), .int 0, .ref a9, .int 0, .int 0, .ref a10, .int 0, .int 0, .ref a11, .int 0, .int 0, .ref a12, .ref a13, .ref a14, .ref a15, .int 0, .int 0, .ref a16, .ref a17, .ref a18, .ref a19, .ref a1, .int 0, .ref a20, .ref a21, .int 0, .int 0, .ref a22, .ref a23, .ref a24, .ref a25, .ref a26, .int (-1), .ref a27, .ref a28, .ref a29, .ref a30, .ref a31, .ref a32, .ref a33], zi G a1 49 (fun _ => 0)] s.heap [] := B
  refine lv_iconst (v := 0) E.x E.b dX12_shrinks_0 (by decide) ?_
  refine lv_istore_n (lv' := [(2, .int 0), (0, .ref a0), (1, .int 1)]) E.x E.b dX12_shrinks_1 rfl hl (by decide) rfl (fun ls hl => ?_)
  refine lv_iload_n E.x E.b dX12_shrinks_2 rfl (lv_at hl 0 rfl) ?_
  refine lv_aload_n E.x E.b dX12_shrinks_3 rfl (lv_at hl 1 rfl) ?_
  refine z_get E B z_inX12 (ci := 10) rfl 37 (by decide) t_1229 0 rfl rfl dX12_shrinks_4 ?_
  refine lv_iconst (v := 0) E.x E.b dX12_shrinks_7 (by decide) ?_
  refine z_iald E B 1 rfl (show ¬ ((0 : Int32) < 0 ∨ 49 ≤ (0 : Int32).toNatClampNeg) by decide +kernel) dX12_shrinks_8 (z_topi 0 rfl ?_)
  refine lv_icmp_ge (tgt := 88) E.x E.b dX12_shrinks_9 (by decide) (fun _ => ?_) (fun c => absurd (by decide +kernel) c)
  refine lv_iconst (v := 0) E.x E.b dX12_shrinks_88 (by decide) ?_
  refine W.widen (k := 0) (n := 0) (Nat.le_of_ble_eq_true rfl) (Nat.le_of_ble_eq_true rfl) ?_
  exact z_zret E hr hlocks B (v := 0) rfl rfl (fun t ht => z_q B [0, 1] (by decide) rfl ht) dX12_shrinks_89
set_option maxHeartbeats 4000000 in
set_option maxRecDepth 100000 in
theorem c_X12_shrinks_174 (l : Launch) (G : zGT) (sz : Nat) (a0 a1 a2 a3 a4 a5 a6 a7 a8 a9 a10 a11 a12 a13 a14 a15 a16 a17 a18 a19 a20 a21 a22 a23 a24 a25 a26 a27 a28 a29 a30 a31 a32 a33 : Nat) : Met l yX12_shrinks (.code yX12_shrinks cX12_shrinks 4 (some .boolean) :: zT) ({ frames := 0, cells := 0, slots := 0, locals := 64 }) (va_Pc [.ref a0, .int 2] (zPc G [zo a0 10 [.int 0, .ref a2, .int 0, .ref a3, .int 0, .ref a4, .ref a5, .ref a6, .ref a7, .ref a8, .int 0, .int 0, .int 0, .int 0, .int 0, .int 0, .int (-1), .int 0, .ref a9, .int 0, .int 0, .ref a10, .int 0, .int 0, .ref a11, .int 0, .int 0, .ref a12, .ref a13, .ref a14, .ref a15, .int 0, .int 0, .ref a16, .ref a17, .ref a18, .ref a19, .ref a1, .int 0, .ref a20, .ref a21, .int 0, .int 0, .ref a22, .ref a23, .ref a24, .ref a25, .ref a26, .int (-1), .ref a27, .ref a28, .ref a29, .ref a30, .ref a31, .ref a32, .ref a33], zi G a1 49 (fun _ => 0)] sz)) ((fun A => va_Qi (fun (r : Int32) (_ : Unit) => r = 0) (fun (_ : Unit) t => zQ G [zo a0 10 [.int 0, .ref a2, .int 0, .ref a3, .int 0, .ref a4, .ref a5, .ref a6, .ref a7, .ref a8, .int 0, .int 0, .int 0, .int 0, .int 0, .int 0, .int (-1), .int 0, .ref a9, .int 0, .int 0, .ref a10, .int 0, .int 0, .ref a11, .int 0, .int 0, .ref a12, .ref a13, .ref a14, .ref a15, .int 0, .int 0, .ref a16, .ref a17, .ref a18, .ref a19, .ref a1, .int 0, .ref a20, .ref a21, .int 0, .int 0, .ref a22, .ref a23, .ref a24, .ref a25, .ref a26, .int (-1), .ref a27, .ref a28, .ref a29, .ref a30, .ref a31, .ref a32, .ref a33], zi G a1 49 (fun _ => 0)] A t) A) (va_A [zo a0 10 [.int 0, .ref a2, .int 0, .ref a3, .int 0, .ref a4, .ref a5, .ref a6, .ref a7, .ref a8, .int 0, .int 0, .int 0, .int 0, .int 0, .int 0, .int (-1), .int 0, .ref a9, .int 0, .int 0, .ref a10, .int 0, .int 0, .ref a11, .int 0, .int 0, .ref a12, .ref a13, .ref a14, .ref a15, .int 0, .int 0, .ref a16, .ref a17, .ref a18, .ref a19, .ref a1, .int 0, .ref a20, .ref a21, .int 0, .int 0, .ref a22, .ref a23, .ref a24, .ref a25, .ref a26, .int (-1), .ref a27, .ref a28, .ref a29, .ref a30, .ref a31, .ref a32, .ref a33], zi G a1 49 (fun _ => 0)] sz)) 0 0 (va_A [zo a0 10 [.int 0, .ref a2, .int 0, .ref a3, .int 0, .ref a4, .ref a5, .ref a6, .ref a7, .ref a8, .int 0, .int 0, .int 0, .int 0, .int 0, .int 0, .int (-1), .int 0, .ref a9, .int 0, .int 0, .ref a10, .int 0, .int 0, .ref a11, .int 0, .int 0, .ref a12, .ref a13, .ref a14, .ref a15, .int 0, .int 0, .ref a16, .ref a17, .ref a18, .ref a19, .ref a1, .int 0, .ref a20, .ref a21, .int 0, .int 0, .ref a22, .ref a23, .ref a24, .ref a25, .ref a26, .int (-1), .ref a27, .ref a28, .ref a29, .ref a30, .ref a31, .ref a32, .ref a33], zi G a1 49 (fun _ => 0)] sz) := by
  refine z_start (QA := (fun A => va_Qi (fun (r : Int32) (_ : Unit) => r = 0) (fun (_ : Unit) t => zQ G [zo a0 10 [.int 0, .ref a2, .int 0, .ref a3, .int 0, .ref a4, .ref a5, .ref a6, .ref a7, .ref a8, .int 0, .int 0, .int 0, .int 0, .int 0, .int 0, .int (-1), .int 0, .ref a9, .int 0, .int 0, .ref a10, .int 0, .int 0, .ref a11, .int 0, .int 0, .ref a12, .ref a13, .ref a14, .ref a15, .int 0, .int 0, .ref a16, .ref a17, .ref a18, .ref a19, .ref a1, .int 0, .ref a20, .ref a21, .int 0, .int 0, .ref a22, .ref a23, .ref a24, .ref a25, .ref a26, .int (-1), .ref a27, .ref a28, .ref a29, .ref a30, .ref a31, .ref a32, .ref a33], zi G a1 49 (fun _ => 0)] A t) A)) (by decide) ⟨Nat.le_of_ble_eq_true rfl, trivial⟩ ?_
  intro p e s m below meth c A ls E B hr hlocks hin hl
  have hl : lv_has ls 4 [(0, .ref a0), (1, .int 2)] := hl
  have B : zB G A s.heap [zo a0 10 [.int 0, .ref a2, .int 0, .ref a3, .int 0, .ref a4, .ref a5, .ref a6, .ref a7, .ref a8, .int 0, .int 0, .int 0, .int 0, .int 0, .int 0, .int (-1), .int 0, .ref a9, .int 0, .int 0, .ref a10, .int 0, .int 0, .ref a11, .int 0, .int 0, .ref a12, .ref a13, .ref a14, .ref a15, .int 0, .int 0, .ref a16, .ref a17, .ref a18, .ref a19, .ref a1, .int 0, .ref a20, .ref a21, .int 0, .int 0, .ref a22, .ref a23, .ref a24, .ref a25, .ref a26, .int (-1), .ref a27, .ref a28, .ref a29, .ref a30, .ref a31, .ref a32, .ref a33], zi G a1 49 (fun _ => 0)] s.heap [] := B
  refine lv_iconst (v := 0) E.x E.b dX12_shrinks_0 (by decide) ?_
  refine lv_istore_n (lv' := [(2, .int 0), (0, .ref a0), (1, .int 2)]) E.x E.b dX12_shrinks_1 rfl hl (by decide) rfl (fun ls hl => ?_)
  refine lv_iload_n E.x E.b dX12_shrinks_2 rfl (lv_at hl 0 rfl) ?_
  refine lv_aload_n E.x E.b dX12_shrinks_3 rfl (lv_at hl 1 rfl) ?_
  refine z_get E B z_inX12 (ci := 10) rfl 37 (by decide) t_1229 0 rfl rfl dX12_shrinks_4 ?_
  refine lv_iconst (v := 0) E.x E.b dX12_shrinks_7 (by decide) ?_
  refine z_iald E B 1 rfl (show ¬ ((0 : Int32) < 0 ∨ 49 ≤ (0 : Int32).toNatClampNeg) by decide +kernel) dX12_shrinks_8 (z_topi 0 rfl ?_)
  refine lv_icmp_ge (tgt := 88) E.x E.b dX12_shrinks_9 (by decide) (fun _ => ?_) (fun c => absurd (by decide +kernel) c)
  refine lv_iconst (v := 0) E.x E.b dX12_shrinks_88 (by decide) ?_
  refine W.widen (k := 0) (n := 0) (Nat.le_of_ble_eq_true rfl) (Nat.le_of_ble_eq_true rfl) ?_
  exact z_zret E hr hlocks B (v := 0) rfl rfl (fun t ht => z_q B [0, 1] (by decide) rfl ht) dX12_shrinks_89
set_option maxHeartbeats 4000000 in
set_option maxRecDepth 100000 in
theorem c_X12_shrinks_175 (l : Launch) (G : zGT) (sz : Nat) (a0 a1 a2 a3 a4 a5 a6 a7 a8 a9 a10 a11 a12 a13 a14 a15 a16 a17 a18 a19 a20 a21 a22 a23 a24 a25 a26 a27 a28 a29 a30 a31 a32 a33 : Nat) : Met l yX12_shrinks (.code yX12_shrinks cX12_shrinks 4 (some .boolean) :: zT) ({ frames := 0, cells := 0, slots := 0, locals := 64 }) (va_Pc [.ref a0, .int 3] (zPc G [zo a0 10 [.int 0, .ref a2, .int 0, .ref a3, .int 0, .ref a4, .ref a5, .ref a6, .ref a7, .ref a8, .int 0, .int 0, .int 0, .int 0, .int 0, .int 0, .int (-1), .int 0, .ref a9, .int 0, .int 0, .ref a10, .int 0, .int 0, .ref a11, .int 0, .int 0, .ref a12, .ref a13, .ref a14, .ref a15, .int 0, .int 0, .ref a16, .ref a17, .ref a18, .ref a19, .ref a1, .int 0, .ref a20, .ref a21, .int 0, .int 0, .ref a22, .ref a23, .ref a24, .ref a25, .ref a26, .int (-1), .ref a27, .ref a28, .ref a29, .ref a30, .ref a31, .ref a32, .ref a33], zi G a1 49 (fun _ => 0)] sz)) ((fun A => va_Qi (fun (r : Int32) (_ : Unit) => r = 0) (fun (_ : Unit) t => zQ G [zo a0 10 [.int 0, .ref a2, .int 0, .ref a3, .int 0, .ref a4, .ref a5, .ref a6, .ref a7, .ref a8, .int 0, .int 0, .int 0, .int 0, .int 0, .int 0, .int (-1), .int 0, .ref a9, .int 0, .int 0, .ref a10, .int 0, .int 0, .ref a11, .int 0, .int 0, .ref a12, .ref a13, .ref a14, .ref a15, .int 0, .int 0, .ref a16, .ref a17, .ref a18, .ref a19, .ref a1, .int 0, .ref a20, .ref a21, .int 0, .int 0, .ref a22, .ref a23, .ref a24, .ref a25, .ref a26, .int (-1), .ref a27, .ref a28, .ref a29, .ref a30, .ref a31, .ref a32, .ref a33], zi G a1 49 (fun _ => 0)] A t) A) (va_A [zo a0 10 [.int 0, .ref a2, .int 0, .ref a3, .int 0, .ref a4, .ref a5, .ref a6, .ref a7, .ref a8, .int 0, .int 0, .int 0, .int 0, .int 0, .int 0, .int (-1), .int 0, .ref a9, .int 0, .int 0, .ref a10, .int 0, .int 0, .ref a11, .int 0, .int 0, .ref a12, .ref a13, .ref a14, .ref a15, .int 0, .int 0, .ref a16, .ref a17, .ref a18, .ref a19, .ref a1, .int 0, .ref a20, .ref a21, .int 0, .int 0, .ref a22, .ref a23, .ref a24, .ref a25, .ref a26, .int (-1), .ref a27, .ref a28, .ref a29, .ref a30, .ref a31, .ref a32, .ref a33], zi G a1 49 (fun _ => 0)] sz)) 0 0 (va_A [zo a0 10 [.int 0, .ref a2, .int 0, .ref a3, .int 0, .ref a4, .ref a5, .ref a6, .ref a7, .ref a8, .int 0, .int 0, .int 0, .int 0, .int 0, .int 0, .int (-1), .int 0, .ref a9, .int 0, .int 0, .ref a10, .int 0, .int 0, .ref a11, .int 0, .int 0, .ref a12, .ref a13, .ref a14, .ref a15, .int 0, .int 0, .ref a16, .ref a17, .ref a18, .ref a19, .ref a1, .int 0, .ref a20, .ref a21, .int 0, .int 0, .ref a22, .ref a23, .ref a24, .ref a25, .ref a26, .int (-1), .ref a27, .ref a28, .ref a29, .ref a30, .ref a31, .ref a32, .ref a33], zi G a1 49 (fun _ => 0)] sz) := by
  refine z_start (QA := (fun A => va_Qi (fun (r : Int32) (_ : Unit) => r = 0) (fun (_ : Unit) t => zQ G [zo a0 10 [.int 0, .ref a2, .int 0, .ref a3, .int 0, .ref a4, .ref a5, .ref a6, .ref a7, .ref a8, .int 0, .int 0, .int 0, .int 0, .int 0, .int 0, .int (-1), .int 0, .ref a9, .int 0, .int 0, .ref a10, .int 0, .int 0, .ref a11, .int 0, .int 0, .ref a12, .ref a13, .ref a14, .ref a15, .int 0, .int 0, .ref a16, .ref a17, .ref a18, .ref a19, .ref a1, .int 0, .ref a20, .ref a21, .int 0, .int 0, .ref a22, .ref a23, .ref a24, .ref a25, .ref a26, .int (-1), .ref a27, .ref a28, .ref a29, .ref a30, .ref a31, .ref a32, .ref a33], zi G a1 49 (fun _ => 0)] A t) A)) (by decide) ⟨Nat.le_of_ble_eq_true rfl, trivial⟩ ?_
  intro p e s m below meth c A ls E B hr hlocks hin hl
  have hl : lv_has ls 4 [(0, .ref a0), (1, .int 3)] := hl
  have B : zB G A s.heap [zo a0 10 [.int 0, .ref a2, .int 0, .ref a3, .int 0, .ref a4, .ref a5, .ref a6, .ref a7, .ref a8, .int 0, .int 0, .int 0, .int 0, .int 0, .int 0, .int (-1), .int 0, .ref a9, .int 0, .int 0, .ref a10, .int 0, .int 0, .ref a11, .int 0, .int 0, .ref a12, .ref a13, .ref a14, .ref a15, .int 0, .int 0, .ref a16, .ref a17, .ref a18, .ref a19, .ref a1, .int 0, .ref a20, .ref a21, .int 0, .int 0, .ref a22, .ref a23, .ref a24, .ref a25, .ref a26, .int (-1), .ref a27, .ref a28, .ref a29, .ref a30, .ref a31, .ref a32, .ref a33], zi G a1 49 (fun _ => 0)] s.heap [] := B
  refine lv_iconst (v := 0) E.x E.b dX12_shrinks_0 (by decide) ?_
  refine lv_istore_n (lv' := [(2, .int 0), (0, .ref a0), (1, .int 3)]) E.x E.b dX12_shrinks_1 rfl hl (by decide) rfl (fun ls hl => ?_)
  refine lv_iload_n E.x E.b dX12_shrinks_2 rfl (lv_at hl 0 rfl) ?_
  refine lv_aload_n E.x E.b dX12_shrinks_3 rfl (lv_at hl 1 rfl) ?_
  refine z_get E B z_inX12 (ci := 10) rfl 37 (by decide) t_1229 0 rfl rfl dX12_shrinks_4 ?_
  refine lv_iconst (v := 0) E.x E.b dX12_shrinks_7 (by decide) ?_
  refine z_iald E B 1 rfl (show ¬ ((0 : Int32) < 0 ∨ 49 ≤ (0 : Int32).toNatClampNeg) by decide +kernel) dX12_shrinks_8 (z_topi 0 rfl ?_)
  refine lv_icmp_ge (tgt := 88) E.x E.b dX12_shrinks_9 (by decide) (fun _ => ?_) (fun c => absurd (by decide +kernel) c)
  refine lv_iconst (v := 0) E.x E.b dX12_shrinks_88 (by decide) ?_
  refine W.widen (k := 0) (n := 0) (Nat.le_of_ble_eq_true rfl) (Nat.le_of_ble_eq_true rfl) ?_
  exact z_zret E hr hlocks B (v := 0) rfl rfl (fun t ht => z_q B [0, 1] (by decide) rfl ht) dX12_shrinks_89
set_option maxHeartbeats 4000000 in
set_option maxRecDepth 100000 in
theorem c_X12_laysShrunk_176 (l : Launch) (G : zGT) (sz : Nat) (a0 a1 a2 a3 a4 a5 a6 a7 a8 a9 a10 a11 a12 a13 a14 a15 a16 a17 a18 a19 a20 a21 a22 a23 a24 a25 a26 a27 a28 a29 a30 a31 a32 a33 : Nat) : Met l yX12_laysShrunk (.code yX12_laysShrunk cX12_laysShrunk 2 none :: zT) ({ frames := 1, cells := 0, slots := 0, locals := 87 }) (va_Pc [.ref a0] (zPc G [zo a0 10 [.int 0, .ref a3, .int 0, .ref a4, .int 0, .ref a5, .ref a6, .ref a7, .ref a8, .ref a9, .int 0, .int 0, .int 0, .int 0, .int 0, .int 0, .int (-1), .int 0, .ref a10, .int 0, .int 0, .ref a11, .int 0, .int 0, .ref a12, .int 0, .int 0, .ref a13, .ref a1, .ref a14, .ref a15, .int 0, .int 0, .ref a16, .ref a17, .ref a18, .ref a19, .ref a2, .int 0, .ref a20, .ref a21, .int 0, .int 0, .ref a22, .ref a23, .ref a24, .ref a25, .ref a26, .int (-1), .ref a27, .ref a28, .ref a29, .ref a30, .ref a31, .ref a32, .ref a33], zi G a1 49 (fun _ => 0), zi G a2 49 (fun _ => 0)] sz)) ((fun A => va_Qv (fun (_ : Unit) => True) (fun (_ : Unit) t => zQ G [zo a0 10 [.int 0, .ref a3, .int 0, .ref a4, .int 0, .ref a5, .ref a6, .ref a7, .ref a8, .ref a9, .int 0, .int 0, .int 0, .int 0, .int 0, .int 0, .int (-1), .int 0, .ref a10, .int 0, .int 0, .ref a11, .int 0, .int 0, .ref a12, .int 0, .int 0, .ref a13, .ref a1, .ref a14, .ref a15, .int 0, .int 0, .ref a16, .ref a17, .ref a18, .ref a19, .ref a2, .int 0, .ref a20, .ref a21, .int 0, .int 0, .ref a22, .ref a23, .ref a24, .ref a25, .ref a26, .int (-1), .ref a27, .ref a28, .ref a29, .ref a30, .ref a31, .ref a32, .ref a33], zi G a1 49 (fun _ => 0), zi G a2 49 (fun _ => 0)] A t) A) (va_A [zo a0 10 [.int 0, .ref a3, .int 0, .ref a4, .int 0, .ref a5, .ref a6, .ref a7, .ref a8, .ref a9, .int 0, .int 0, .int 0, .int 0, .int 0, .int 0, .int (-1), .int 0, .ref a10, .int 0, .int 0, .ref a11, .int 0, .int 0, .ref a12, .int 0, .int 0, .ref a13, .ref a1, .ref a14, .ref a15, .int 0, .int 0, .ref a16, .ref a17, .ref a18, .ref a19, .ref a2, .int 0, .ref a20, .ref a21, .int 0, .int 0, .ref a22, .ref a23, .ref a24, .ref a25, .ref a26, .int (-1), .ref a27, .ref a28, .ref a29, .ref a30, .ref a31, .ref a32, .ref a33], zi G a1 49 (fun _ => 0), zi G a2 49 (fun _ => 0)] sz)) 0 0 (va_A [zo a0 10 [.int 0, .ref a3, .int 0, .ref a4, .int 0, .ref a5, .ref a6, .ref a7, .ref a8, .ref a9, .int 0, .int 0, .int 0, .int 0, .int 0, .int 0, .int (-1), .int 0, .ref a10, .int 0, .int 0, .ref a11, .int 0, .int 0, .ref a12, .int 0, .int 0, .ref a13, .ref a1, .ref a14, .ref a15, .int 0, .int 0, .ref a16, .ref a17, .ref a18, .ref a19, .ref a2, .int 0, .ref a20, .ref a21, .int 0, .int 0, .ref a22, .ref a23, .ref a24, .ref a25, .ref a26, .int (-1), .ref a27, .ref a28, .ref a29, .ref a30, .ref a31, .ref a32, .ref a33], zi G a1 49 (fun _ => 0), zi G a2 49 (fun _ => 0)] sz) := by
  refine z_start (QA := (fun A => va_Qv (fun (_ : Unit) => True) (fun (_ : Unit) t => zQ G [zo a0 10 [.int 0, .ref a3, .int 0, .ref a4, .int 0, .ref a5, .ref a6, .ref a7, .ref a8, .ref a9, .int 0, .int 0, .int 0, .int 0, .int 0, .int 0, .int (-1), .int 0, .ref a10, .int 0, .int 0, .ref a11, .int 0, .int 0, .ref a12, .int 0, .int 0, .ref a13, .ref a1, .ref a14, .ref a15, .int 0, .int 0, .ref a16, .ref a17, .ref a18, .ref a19, .ref a2, .int 0, .ref a20, .ref a21, .int 0, .int 0, .ref a22, .ref a23, .ref a24, .ref a25, .ref a26, .int (-1), .ref a27, .ref a28, .ref a29, .ref a30, .ref a31, .ref a32, .ref a33], zi G a1 49 (fun _ => 0), zi G a2 49 (fun _ => 0)] A t) A)) (by decide) ⟨Nat.le_of_ble_eq_true rfl, trivial⟩ ?_
  intro p e s m below meth c A ls E B hr hlocks hin hl
  have hl : lv_has ls 2 [(0, .ref a0)] := hl
  have B : zB G A s.heap [zo a0 10 [.int 0, .ref a3, .int 0, .ref a4, .int 0, .ref a5, .ref a6, .ref a7, .ref a8, .ref a9, .int 0, .int 0, .int 0, .int 0, .int 0, .int 0, .int (-1), .int 0, .ref a10, .int 0, .int 0, .ref a11, .int 0, .int 0, .ref a12, .int 0, .int 0, .ref a13, .ref a1, .ref a14, .ref a15, .int 0, .int 0, .ref a16, .ref a17, .ref a18, .ref a19, .ref a2, .int 0, .ref a20, .ref a21, .int 0, .int 0, .ref a22, .ref a23, .ref a24, .ref a25, .ref a26, .int (-1), .ref a27, .ref a28, .ref a29, .ref a30, .ref a31, .ref a32, .ref a33], zi G a1 49 (fun _ => 0), zi G a2 49 (fun _ => 0)] s.heap [] := B
  refine lv_iconst (v := 0) E.x E.b dX12_laysShrunk_0 (by decide) ?_
  refine lv_istore_n (lv' := [(1, .int 0), (0, .ref a0)]) E.x E.b dX12_laysShrunk_1 rfl hl (by decide) rfl (fun ls hl => ?_)
  refine z_loop 49 (fun _ => 0) (fun _ => 0) (fun i H locs ls => (zB G A s.heap [zo a0 10 [.int 0, .ref a3, .int 0, .ref a4, .int 0, .ref a5, .ref a6, .ref a7, .ref a8, .ref a9, .int 0, .int 0, .int 0, .int 0, .int 0, .int 0, .int (-1), .int 0, .ref a10, .int 0, .int 0, .ref a11, .int 0, .int 0, .ref a12, .int 0, .int 0, .ref a13, .ref a1, .ref a14, .ref a15, .int 0, .int 0, .ref a16, .ref a17, .ref a18, .ref a19, .ref a2, .int 0, .ref a20, .ref a21, .int 0, .int 0, .ref a22, .ref a23, .ref a24, .ref a25, .ref a26, .int (-1), .ref a27, .ref a28, .ref a29, .ref a30, .ref a31, .ref a32, .ref a33], zi G a1 49 (fun _ => 0), zi G a2 49 (fun _ => 0)] H locs) ∧ lv_has ls 2 [(1, .int (nI i)), (0, .ref a0)]) (Nat.le_of_ble_eq_true rfl) (Nat.le_of_ble_eq_true rfl) ⟨B, hl⟩ (fun i1 H locs ls hi ih hI => ?_) (fun H locs ls hI => ?_)
  · obtain ⟨B, hl⟩ := hI
    have hl : lv_has ls 2 [(1, .int (nI i1)), (0, .ref a0)] := hl
    have hii : (nI i1).toInt = ((i1 : Nat) : Int) := nI_toInt (by omega)
    refine lv_iload_n E.x E.b dX12_laysShrunk_2 rfl (lv_at hl 0 rfl) ?_
    refine lv_bipush (v := 49) E.x E.b dX12_laysShrunk_3 (by decide) ?_
    refine lv_icmp_ge (tgt := 26) E.x E.b dX12_laysShrunk_5 (by decide) (fun c_2 => ?_) (fun c_2 => ?_)
    · have c_2f : 49 ≤ (nI i1).toInt := zi_le c_2
      exfalso; omega
    · have c_2f : (nI i1).toInt < 49 := zi_nle c_2
      refine lv_aload_n E.x E.b dX12_laysShrunk_8 rfl (lv_at hl 1 rfl) ?_
      refine z_get E B z_inX12 (ci := 10) rfl 37 (by decide) t_1229 0 rfl rfl dX12_laysShrunk_9 ?_
      refine lv_iload_n E.x E.b dX12_laysShrunk_12 rfl (lv_at hl 0 rfl) ?_
      refine lv_aload_n E.x E.b dX12_laysShrunk_13 rfl (lv_at hl 1 rfl) ?_
      refine z_get E B z_inX12 (ci := 10) rfl 28 (by decide) t_1220 0 rfl rfl dX12_laysShrunk_14 ?_
      refine lv_iload_n E.x E.b dX12_laysShrunk_17 rfl (lv_at hl 0 rfl) ?_
      refine z_iald E B 1 rfl (vp_in_nI (by omega) (by decide)) dX12_laysShrunk_18 (z_topi 0 rfl ?_)
      refine z_iast0 E B 2 rfl (vp_in_nI (by omega) (by decide)) dX12_laysShrunk_19 (fun H locs B => ?_)
      have B : zB G A s.heap [zo a0 10 [.int 0, .ref a3, .int 0, .ref a4, .int 0, .ref a5, .ref a6, .ref a7, .ref a8, .ref a9, .int 0, .int 0, .int 0, .int 0, .int 0, .int 0, .int (-1), .int 0, .ref a10, .int 0, .int 0, .ref a11, .int 0, .int 0, .ref a12, .int 0, .int 0, .ref a13, .ref a1, .ref a14, .ref a15, .int 0, .int 0, .ref a16, .ref a17, .ref a18, .ref a19, .ref a2, .int 0, .ref a20, .ref a21, .int 0, .int 0, .ref a22, .ref a23, .ref a24, .ref a25, .ref a26, .int (-1), .ref a27, .ref a28, .ref a29, .ref a30, .ref a31, .ref a32, .ref a33], zi G a1 49 (fun _ => 0), zi G a2 49 (fun _ => 0)] _ _ := B
      refine lv_iinc (v := (nI (i1 + 1))) (lv' := [(1, .int (nI (i1 + 1))), (0, .ref a0)]) E.x E.b dX12_laysShrunk_20 hl (k := 0) rfl (nI_1 _) (by decide) rfl (fun ls hl => ?_)
      refine lv_goto (tgt := 2) E.x E.b dX12_laysShrunk_23 (by decide) ?_
      exact ih _ _ _ ⟨B, lv_sub hl [0, 1] rfl⟩
  · obtain ⟨B, hl⟩ := hI
    have hl : lv_has ls 2 [(1, .int 49), (0, .ref a0)] := hl
    refine lv_iload_n E.x E.b dX12_laysShrunk_2 rfl (lv_at hl 0 rfl) ?_
    refine lv_bipush (v := 49) E.x E.b dX12_laysShrunk_3 (by decide) ?_
    refine lv_icmp_ge (tgt := 26) E.x E.b dX12_laysShrunk_5 (by decide) (fun _ => ?_) (fun c => absurd (by decide +kernel) c)
    refine lv_iconst (v := 1) E.x E.b dX12_laysShrunk_26 (by decide) ?_
    refine lv_istore_n (lv' := [(1, .int 1), (0, .ref a0)]) E.x E.b dX12_laysShrunk_27 rfl hl (by decide) rfl (fun ls hl => ?_)
    refine lv_iload_n E.x E.b dX12_laysShrunk_28 rfl (lv_at hl 0 rfl) ?_
    refine lv_if_eq (tgt := 65) E.x E.b dX12_laysShrunk_29 (by decide) (fun c => absurd c (by decide +kernel)) (fun _ => ?_)
    refine lv_aload_n E.x E.b dX12_laysShrunk_32 rfl (lv_at hl 1 rfl) ?_
    refine lv_iconst (v := 1) E.x E.b dX12_laysShrunk_33 (by decide) ?_
    refine z_calli E B (wc := [zo a0 10 [.int 0, .ref a3, .int 0, .ref a4, .int 0, .ref a5, .ref a6, .ref a7, .ref a8, .ref a9, .int 0, .int 0, .int 0, .int 0, .int 0, .int 0, .int (-1), .int 0, .ref a10, .int 0, .int 0, .ref a11, .int 0, .int 0, .ref a12, .int 0, .int 0, .ref a13, .ref a1, .ref a14, .ref a15, .int 0, .int 0, .ref a16, .ref a17, .ref a18, .ref a19, .ref a2, .int 0, .ref a20, .ref a21, .int 0, .int 0, .ref a22, .ref a23, .ref a24, .ref a25, .ref a26, .int (-1), .ref a27, .ref a28, .ref a29, .ref a30, .ref a31, .ref a32, .ref a33], zi G a2 49 (fun _ => 0)]) (wr := [zi G a1 49 (fun _ => 0)]) [0, 2] [1] rfl rfl (by decide) (by decide) (z_runV E B (As := [.int 1]) (rest := []) [0, 2] rfl (by decide) mv_X12_shrinks t_1506 0 (ci := 10) rfl rfl rfl (c_X12_shrinks_173 l G _ a0 a2 a3 a4 a5 a6 a7 a8 a9 a10 a11 a12 a13 a1 a14 a15 a16 a17 a18 a19 a20 a21 a22 a23 a24 a25 a26 a27 a28 a29 a30 a31 a32 a33) rfl rfl ⟨Nat.le_of_ble_eq_true rfl, Nat.le_of_ble_eq_true rfl⟩ rfl hl.1 rfl (Nat.le_of_ble_eq_true rfl) dX12_laysShrunk_34 ⟨(Nat.le_of_ble_eq_true rfl), (Nat.le_of_ble_eq_true rfl)⟩) (fun r t H locs hp hB J => ?_)
    have hq := hB
    have B := J _ hq
    have B : zB G A s.heap [zi G a1 49 (fun _ => 0), zo a0 10 [.int 0, .ref a3, .int 0, .ref a4, .int 0, .ref a5, .ref a6, .ref a7, .ref a8, .ref a9, .int 0, .int 0, .int 0, .int 0, .int 0, .int 0, .int (-1), .int 0, .ref a10, .int 0, .int 0, .ref a11, .int 0, .int 0, .ref a12, .int 0, .int 0, .ref a13, .ref a1, .ref a14, .ref a15, .int 0, .int 0, .ref a16, .ref a17, .ref a18, .ref a19, .ref a2, .int 0, .ref a20, .ref a21, .int 0, .int 0, .ref a22, .ref a23, .ref a24, .ref a25, .ref a26, .int (-1), .ref a27, .ref a28, .ref a29, .ref a30, .ref a31, .ref a32, .ref a33], zi G a2 49 (fun _ => 0)] _ _ := B
    have hp := hp.symm
    subst hp
    refine lv_if_ne (tgt := 56) E.x E.b dX12_laysShrunk_37 (by decide) (fun c => absurd (by decide +kernel) c) (fun _ => ?_)
    refine lv_aload_n E.x E.b dX12_laysShrunk_40 rfl (lv_at hl 1 rfl) ?_
    refine lv_iconst (v := 2) E.x E.b dX12_laysShrunk_41 (by decide) ?_
    refine z_calli E B (wc := [zo a0 10 [.int 0, .ref a3, .int 0, .ref a4, .int 0, .ref a5, .ref a6, .ref a7, .ref a8, .ref a9, .int 0, .int 0, .int 0, .int 0, .int 0, .int 0, .int (-1), .int 0, .ref a10, .int 0, .int 0, .ref a11, .int 0, .int 0, .ref a12, .int 0, .int 0, .ref a13, .ref a1, .ref a14, .ref a15, .int 0, .int 0, .ref a16, .ref a17, .ref a18, .ref a19, .ref a2, .int 0, .ref a20, .ref a21, .int 0, .int 0, .ref a22, .ref a23, .ref a24, .ref a25, .ref a26, .int (-1), .ref a27, .ref a28, .ref a29, .ref a30, .ref a31, .ref a32, .ref a33], zi G a2 49 (fun _ => 0)]) (wr := [zi G a1 49 (fun _ => 0)]) [1, 2] [0] rfl rfl (by decide) (by decide) (z_runV E B (As := [.int 2]) (rest := []) [1, 2] rfl (by decide) mv_X12_shrinks t_1506 0 (ci := 10) rfl rfl rfl (c_X12_shrinks_174 l G _ a0 a2 a3 a4 a5 a6 a7 a8 a9 a10 a11 a12 a13 a1 a14 a15 a16 a17 a18 a19 a20 a21 a22 a23 a24 a25 a26 a27 a28 a29 a30 a31 a32 a33) rfl rfl ⟨Nat.le_of_ble_eq_true rfl, Nat.le_of_ble_eq_true rfl⟩ rfl hl.1 rfl (Nat.le_of_ble_eq_true rfl) dX12_laysShrunk_42 ⟨(Nat.le_of_ble_eq_true rfl), (Nat.le_of_ble_eq_true rfl)⟩) (fun r t H locs hp hB J => ?_)
    have hq := hB
    have B := J _ hq
    have B : zB G A s.heap [zi G a1 49 (fun _ => 0), zo a0 10 [.int 0, .ref a3, .int 0, .ref a4, .int 0, .ref a5, .ref a6, .ref a7, .ref a8, .ref a9, .int 0, .int 0, .int 0, .int 0, .int 0, .int 0, .int (-1), .int 0, .ref a10, .int 0, .int 0, .ref a11, .int 0, .int 0, .ref a12, .int 0, .int 0, .ref a13, .ref a1, .ref a14, .ref a15, .int 0, .int 0, .ref a16, .ref a17, .ref a18, .ref a19, .ref a2, .int 0, .ref a20, .ref a21, .int 0, .int 0, .ref a22, .ref a23, .ref a24, .ref a25, .ref a26, .int (-1), .ref a27, .ref a28, .ref a29, .ref a30, .ref a31, .ref a32, .ref a33], zi G a2 49 (fun _ => 0)] _ _ := B
    have hp := hp.symm
    subst hp
    refine lv_if_ne (tgt := 56) E.x E.b dX12_laysShrunk_45 (by decide) (fun c => absurd (by decide +kernel) c) (fun _ => ?_)
    refine lv_aload_n E.x E.b dX12_laysShrunk_48 rfl (lv_at hl 1 rfl) ?_
    refine lv_iconst (v := 3) E.x E.b dX12_laysShrunk_49 (by decide) ?_
    refine z_calli E B (wc := [zo a0 10 [.int 0, .ref a3, .int 0, .ref a4, .int 0, .ref a5, .ref a6, .ref a7, .ref a8, .ref a9, .int 0, .int 0, .int 0, .int 0, .int 0, .int 0, .int (-1), .int 0, .ref a10, .int 0, .int 0, .ref a11, .int 0, .int 0, .ref a12, .int 0, .int 0, .ref a13, .ref a1, .ref a14, .ref a15, .int 0, .int 0, .ref a16, .ref a17, .ref a18, .ref a19, .ref a2, .int 0, .ref a20, .ref a21, .int 0, .int 0, .ref a22, .ref a23, .ref a24, .ref a25, .ref a26, .int (-1), .ref a27, .ref a28, .ref a29, .ref a30, .ref a31, .ref a32, .ref a33], zi G a2 49 (fun _ => 0)]) (wr := [zi G a1 49 (fun _ => 0)]) [1, 2] [0] rfl rfl (by decide) (by decide) (z_runV E B (As := [.int 3]) (rest := []) [1, 2] rfl (by decide) mv_X12_shrinks t_1506 0 (ci := 10) rfl rfl rfl (c_X12_shrinks_175 l G _ a0 a2 a3 a4 a5 a6 a7 a8 a9 a10 a11 a12 a13 a1 a14 a15 a16 a17 a18 a19 a20 a21 a22 a23 a24 a25 a26 a27 a28 a29 a30 a31 a32 a33) rfl rfl ⟨Nat.le_of_ble_eq_true rfl, Nat.le_of_ble_eq_true rfl⟩ rfl hl.1 rfl (Nat.le_of_ble_eq_true rfl) dX12_laysShrunk_50 ⟨(Nat.le_of_ble_eq_true rfl), (Nat.le_of_ble_eq_true rfl)⟩) (fun r t H locs hp hB J => ?_)
    have hq := hB
    have B := J _ hq
    have B : zB G A s.heap [zi G a1 49 (fun _ => 0), zo a0 10 [.int 0, .ref a3, .int 0, .ref a4, .int 0, .ref a5, .ref a6, .ref a7, .ref a8, .ref a9, .int 0, .int 0, .int 0, .int 0, .int 0, .int 0, .int (-1), .int 0, .ref a10, .int 0, .int 0, .ref a11, .int 0, .int 0, .ref a12, .int 0, .int 0, .ref a13, .ref a1, .ref a14, .ref a15, .int 0, .int 0, .ref a16, .ref a17, .ref a18, .ref a19, .ref a2, .int 0, .ref a20, .ref a21, .int 0, .int 0, .ref a22, .ref a23, .ref a24, .ref a25, .ref a26, .int (-1), .ref a27, .ref a28, .ref a29, .ref a30, .ref a31, .ref a32, .ref a33], zi G a2 49 (fun _ => 0)] _ _ := B
    have hp := hp.symm
    subst hp
    refine lv_if_eq (tgt := 60) E.x E.b dX12_laysShrunk_53 (by decide) (fun _ => ?_) (fun c => absurd (by decide +kernel) c)
    refine lv_iconst (v := 0) E.x E.b dX12_laysShrunk_60 (by decide) ?_
    refine lv_istore_n (lv' := [(1, .int 0), (0, .ref a0)]) E.x E.b dX12_laysShrunk_61 rfl hl (by decide) rfl (fun ls hl => ?_)
    refine lv_goto (tgt := 28) E.x E.b dX12_laysShrunk_62 (by decide) ?_
    refine lv_iload_n E.x E.b dX12_laysShrunk_28 rfl (lv_at hl 0 rfl) ?_
    refine lv_if_eq (tgt := 65) E.x E.b dX12_laysShrunk_29 (by decide) (fun _ => ?_) (fun c => absurd (by decide +kernel) c)
    refine W.widen (k := 0) (n := 0) (Nat.le_of_ble_eq_true rfl) (Nat.le_of_ble_eq_true rfl) ?_
    exact z_vret E hr hlocks B trivial (fun t ht => z_q B [1, 0, 2] (by decide) rfl ht) dX12_laysShrunk_65
