/-! stores of nothing, copies of nothing, lists of words by their places -/
theorem z_inOf {C : String} {T : u_T} {N : Nat} (is : List Nat) (h : u_ws C T N = is.filterMap (fun i => lw_tbl[i]?) ∧ (u_ws C T N).all goodWord = true) : ∀ w ∈ u_ws C T N, w ∈ zT := by
  intro w hw
  refine List.mem_filter.mpr ⟨?_, List.all_eq_true.mp h.2 w hw⟩
  rw [h.1] at hw
  obtain ⟨i, -, hi⟩ := List.mem_filterMap.mp hw
  exact List.mem_of_getElem? hi
section ZM
variable {p : Program} {l : Launch} {e : Env} {R : Room} {s : State} {m : MethodId} {args : Array Value} {below : List Frame} {meth : Method} {c : Code} {H : Heap} {locs : List Loc} {cells slots : Nat} {Q : State → Prop}
variable {cc : ByteArray} {pc : Nat} {ls : Array Slot} {rest : List Value} {G : zGT} {A : Nat → Prop} {a : Nat} {ws : va_W} {own : String} {nL : Nat}
theorem z_iast0 (E : zE p s m c args G own cc nL A) (B : zB G A s.heap ws H locs) (q0 : Nat) {n : Nat} (ha : ws[q0]? = some (zi G a n (fun _ => 0))) {i : Int32} (hin : vp_in i n) (hdg : decode cc pc = .ok (.iastore, 1))
    (kk : ∀ (H1 : Heap) (locs1 : List Loc), zB G A s.heap (ws.set q0 (zi G a n (fun _ => 0))) H1 locs1 → W p l e R s m args below meth c H1 locs1 cells slots Q (F0 m (pc + 1) ls rest)) : W p l e R s m args below meth c H locs cells slots Q (F0 m pc ls (.int 0 :: .int i :: .ref a :: rest)) :=
  z_iast E B q0 ha hin hdg (fun H1 locs1 h => kk H1 locs1 (by rw [z_upd0] at h; exact h))
theorem z_zast0 (E : zE p s m c args G own cc nL A) (B : zB G A s.heap ws H locs) (q0 : Nat) {n : Nat} (ha : ws[q0]? = some (zz G a n (fun _ => 0))) {i : Int32} (hin : vp_in i n) (hdg : decode cc pc = .ok (.bastore, 1))
    (kk : ∀ (H1 : Heap) (locs1 : List Loc), zB G A s.heap (ws.set q0 (zz G a n (fun _ => 0))) H1 locs1 → W p l e R s m args below meth c H1 locs1 cells slots Q (F0 m (pc + 1) ls rest)) : W p l e R s m args below meth c H locs cells slots Q (F0 m pc ls (.int 0 :: .int i :: .ref a :: rest)) :=
  z_zast E B q0 ha hin hdg (fun H1 locs1 h => kk H1 locs1 (by rw [show vp_nar .boolean 0 = 0 from rfl, z_upd0] at h; exact h))
theorem z_copy0 {index : Nat} (E : zE p s m c args G own cc nL A) (B : zB G A s.heap ws H locs) (hl : lv_has ls nL ([] : List (Nat × Value))) (q0 q1 : Nat) {a0 n0 n1 : Nat} {f g : Nat → Int32} (ha0 : ws[q0]? = some (zi G a0 n0 f)) (ha1 : ws[q1]? = some (zi G a n1 g)) (w1 : Cond.methodLink own index arraycopyName ∈ zT) (w2 : Cond.native arraycopyName ∈ zT) (w3 : Cond.static arraycopyName ∈ zT) (w4 : Cond.initialized "java/lang/System" ∈ zT) (hframes : 1 ≤ R.frames) (hlocals : (rest.map fun v => v.category).sum + (nativeFrameWords "java/lang/System" "arraycopy" 5 + 11) ≤ R.locals) (hdg : decode cc pc = .ok (.invokestatic index, 3))
    (kk : ∀ (H1 : Heap) (locs1 : List Loc), zB G A s.heap (ws.set q1 (zi G a n1 g)) H1 locs1 → W p l e R s m args below meth c H1 locs1 cells slots Q (F0 m (pc + 3) ls rest)) : W p l e R s m args below meth c H locs cells slots Q (F0 m pc ls (.int 0 :: .int 0 :: .ref a :: .int 0 :: .ref a0 :: rest)) := by
  refine va_copyi E.x E.b (E.1.2.2.1.trans hl.1.symm) E.ow (E.w w1) (E.w w2) (E.w w3) (E.w w4) E.k B.1 B.2.1 B.2.2 q0 q1 1 1 ha0 ha1 rfl rfl rfl (by decide) (by decide) (by decide) (Nat.zero_le _) (Nat.zero_le _) (fun i hi => absurd hi (Nat.not_lt_zero i)) hframes hlocals hdg (fun H1 locs1 h1 h2 h3 => ?_)
  have e0 : va_cpy f g (0 : Int32).toNatClampNeg (0 : Int32).toNatClampNeg (0 : Int32).toNatClampNeg = g := z_cpy0 f g
  rw [e0] at h1 h2
  exact kk H1 locs1 ⟨h1, h2, h3⟩
end ZM
