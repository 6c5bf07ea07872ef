/-! the first prices: a row that nobody writes; it is cloned and copied -/
def zPr : Nat → Int32 := fun j => if j = 0 then 1 else if j = 1 then 1 else if j = 2 then 5 else 13
/-- the row of the first prices, as the heap has it -/
def zTp (G : zGT) (tp : Nat) (H : Heap) : Prop := ∃ cell : Cell, H[tp]? = some cell ∧ (∀ k, cell.vm ≠ .statics k) ∧ cell.vm ≠ .unknown ∧ cell.cls = G.2 1 ∧ cell.slots = (vp_cell (G.2 1) (4, .inl zPr)).slots
def zS (G : zGT) (tp : Nat) (A : Nat → Prop) (U : State) : Prop := va_Z RX11 "FIRST_PRICES" "[I" (.ref tp) A U U.heap ∧ zTp G tp U.heap ∧ ¬ A tp
theorem z_cpyP : va_cpy zPr zPr 0 0 4 = zPr := by
  funext k
  simp only [va_cpy]
  split
  · congr 1; omega
  · rfl
section ZS
variable {p : Program} {l : Launch} {e : Env} {R : Room} {s : State} {m : MethodId} {args : Array Value} {below : List Frame} {meth : Method} {c : Code} {H : Heap} {locs : List Loc} {cells slots : Nat} {Q : State → Prop}
variable {cc : ByteArray} {pc : Nat} {ls : Array Slot} {rest : List Value} {G : zGT} {A : Nat → Prop} {a b : Nat} {ws wc wr : va_W} {own C : String} {nL index maxL n mc ms tp : Nat} {y : MethodName} {bytes : ByteArray} {ret : Option FieldType} {rm : Room} {As st0 : List Value} {Qc : Array Value → State → Outcome → State → Prop} {free : Addr → Prop}
theorem z_arrI (E : zE p s m c args G own cc nL A) : s.vm.findClass "[I" = some (G.2 1) := (E.k.2 1 _ rfl).2
theorem z_castI (E : zE p s m c args G own cc nL A) (B : zB G A s.heap ws H locs) (q0 : Nat) {n : Nat} {f : Nat → Int32} (ha : ws[q0]? = some (zi G a n f)) (hl : Cond.classLink own index "[I" ∈ zT) (hdg : decode cc pc = .ok (.checkcast index, 3))
    (kk : W p l e R s m args below meth c H locs cells slots Q (F0 m (pc + 3) ls (.ref a :: rest))) : W p l e R s m args below meth c H locs cells slots Q (F0 m pc ls (.ref a :: rest)) :=
  va_castA E.x E.b E.ow (E.w hl) B.1 q0 ha (z_arrI E) hdg kk
theorem z_one {α : Type} {x y : α} {k : Nat} (h : [x][k]? = some y) : x = y := by
  cases k with
  | zero => exact Option.some.inj h
  | succ k => simp at h
theorem z_tpH (B : zB G A s.heap ws H locs) (hT : zTp G tp s.heap ∧ ¬ A tp) : zTp G tp H := by
  obtain ⟨⟨cell, h1, h2⟩, h3⟩ := hT
  refine ⟨cell, ?_, h2⟩
  rw [B.2.2.2.1 tp (Array.getElem?_eq_some_iff.mp h1).1 h3]
  exact h1
theorem z_prRead {G : zGT} {i : Nat} {v : Value} (h : (vp_cell (G.2 1) (4, .inl zPr)).slots[i]? = some v) : i < 4 ∧ v = .int (zPr i) := by
  have hv : (arrV (G.2 1) 4 (fun j => .int (zPr j))).slots[i]? = some v := h
  have hi : i < 4 := by
    have := (Array.getElem?_eq_some_iff.mp hv).1
    rw [arrV_size] at this
    exact this
  rw [arrV_read _ _ hi] at hv
  exact ⟨hi, (Option.some.inj hv).symm⟩
theorem z_prSize {G : zGT} : (vp_cell (G.2 1) (4, .inl zPr)).slots.size = 4 := arrV_size _ _ _
theorem z_prAt {G : zGT} {i : Nat} (h : i < 4) : (vp_cell (G.2 1) (4, .inl zPr)).slots[i]? = some (.int (zPr i)) := arrV_read (G.2 1) (fun j => .int (zPr j)) h
theorem z_clone (E : zE p s m c args G own cc nL A) (B : zB G A s.heap ws H locs) (hl : lv_has ls nL ([] : List (Nat × Value))) (hT : zTp G tp s.heap ∧ ¬ A tp) (w1 : Cond.methodLink own index ⟨"[I", "clone", "()Ljava/lang/Object;"⟩ ∈ zT) (w2 : Cond.sameMethod "[I" "java/lang/Object" "clone" "()Ljava/lang/Object;" ∈ zT) (w3 : Cond.native ⟨"java/lang/Object", "clone", "()Ljava/lang/Object;"⟩ ∈ zT) (w4 : Cond.instanceMethod ⟨"java/lang/Object", "clone", "()Ljava/lang/Object;"⟩ ∈ zT) (w5 : Cond.selects "[I" ⟨"[I", "clone", "()Ljava/lang/Object;"⟩ ⟨"java/lang/Object", "clone", "()Ljava/lang/Object;"⟩ ∈ zT)
    (hframes : 1 ≤ R.frames) (hlocals : (rest.map fun v => v.category).sum + 14 ≤ R.locals) (hcells : cells + 1 ≤ R.cells) (hslots : slots + 4 ≤ R.slots) (hdg : decode cc pc = .ok (.invokevirtual index, 3))
    (kk : ∀ (q : Nat) (H1 : Heap), zB G A s.heap (ws ++ [zi G q 4 zPr]) H1 locs → W p l e R s m args below meth c H1 locs (cells + 1) (slots + 4) Q (F0 m (pc + 3) ls (.ref q :: rest))) : W p l e R s m args below meth c H locs cells slots Q (F0 m pc ls (.ref tp :: rest)) := by
  obtain ⟨cell, g1, g2, g3, g4, g5⟩ := z_tpH B hT
  have gz : cell.slots.size = 4 := by rw [g5]; exact z_prSize
  obtain ⟨cI, cC, f1, f2, f3⟩ := Cond.castable_spec (va_Nw.use (A := args) rfl E.2.1.2.2.2.2.2.2.2.2.2)
  have f1 : cI = G.2 1 := Option.some.inj (f1.symm.trans (z_arrI E))
  subst f1
  intro T hTT X
  obtain ⟨-, kA, hkA, comp, hkind⟩ := State.isArrayOf_alike X.warmed.alike ((E.k.2 1 _ rfl).1 0 (fun _ => .null))
  obtain ⟨-, kS, hkS, compS, hkindS⟩ := (E.k.2 1 _ rfl).1 0 (fun _ => .null)
  obtain ⟨vm', X', st⟩ := X.cloneArray E.x E.ow (E.w w1) (E.w w2) (E.w w3) (E.w w4) (E.w w5) (a := tp) (cell := cell) (by rw [hTT]; exact g1) g2 g3 (by rw [g4]; exact z_arrI E) f2 (by rw [g4]; exact f3)
    (fun i v hv => by
      rw [g5] at hv
      obtain ⟨-, rfl⟩ := z_prRead hv
      rw [g4]
      have hk' : T.vm.classes[G.2 1]? = some kA := hkA
      simp [State.fitsSlot, State.slotType?, hk', hkind, fits])
    (g := F0 m pc ls (.ref tp :: rest)) rfl (by rw [hl.1, E.1.2.2.1]) rfl (by rw [E.b]; exact hdg) hframes (by show 2 * 0 + _ + 14 ≤ _; omega) hcells (by rw [gz]; exact hslots) (hloader := by rw [g4]; exact Vm.clonesLoader_of_array hkS hkindS)
  have hce : ({ cls := cell.cls, slots := cell.slots } : Cell) = vp_cell (G.2 1) (4, .inl zPr) := by rw [g4, g5]; rfl
  rw [hce, gz] at X'
  rw [hce] at st
  have z1 : (H.push (vp_cell (G.2 1) (4, .inl zPr))).size = H.size + 1 := Array.size_push ..
  have e1 : (H.push (vp_cell (G.2 1) (4, .inl zPr)))[H.size]? = some (vp_cell (G.2 1) (4, .inl zPr)) := Array.getElem?_push_size ..
  have o1 : ∀ q : Nat, q < H.size → (H.push (vp_cell (G.2 1) (4, .inl zPr)))[q]? = H[q]? := fun q hq => by rw [Array.getElem?_push, if_neg (Nat.ne_of_lt hq)]
  generalize hH1 : H.push (vp_cell (G.2 1) (4, .inl zPr)) = H1 at z1 e1 o1
  obtain ⟨t, b1, b2⟩ := kk H.size H1 ⟨(B.1.kept (fun k q hq => o1 q.1 ((B.1 k q hq).lt))).app (fun k q hk => by rw [← z_one hk]; exact e1), B.2.1.push B.1 rfl (E.2.2 _ B.2.2.1), Nat.le_trans B.2.2.1 (by omega), fun q h1 h2 => (o1 q (Nat.lt_of_lt_of_le h1 B.2.2.1)).trans (B.2.2.2.1 q h1 h2), B.2.2.2.2⟩ _ (by rw [← hH1, ← hTT]; rfl) X'
  refine ⟨t, st t ?_, b2⟩
  rw [hTT]
  exact b1
theorem z_copyt (E : zE p s m c args G own cc nL A) (B : zB G A s.heap ws H locs) (hl : lv_has ls nL ([] : List (Nat × Value))) (hT : zTp G tp s.heap ∧ ¬ A tp) (q1 : Nat) (ha1 : ws[q1]? = some (zi G a 4 zPr)) (w1 : Cond.methodLink own index arraycopyName ∈ zT) (w2 : Cond.native arraycopyName ∈ zT) (w3 : Cond.static arraycopyName ∈ zT) (w4 : Cond.initialized "java/lang/System" ∈ zT) (hframes : 1 ≤ R.frames) (hlocals : (rest.map fun v => v.category).sum + (nativeFrameWords "java/lang/System" "arraycopy" 5 + 11) ≤ R.locals) (hdg : decode cc pc = .ok (.invokestatic index, 3))
    (kk : ∀ (H1 : Heap) (locs1 : List Loc), zB G A s.heap (ws.set q1 (zi G a 4 zPr)) H1 locs1 → W p l e R s m args below meth c H1 locs1 cells slots Q (F0 m (pc + 3) ls rest)) : W p l e R s m args below meth c H locs cells slots Q (F0 m pc ls (.int 4 :: .int 0 :: .ref a :: .int 0 :: .ref tp :: rest)) := by
  obtain ⟨cell, g1, g2, g3, g4, g5⟩ := z_tpH B hT
  have gz : (cell.slots.size : Int) = 4 := by rw [g5, z_prSize]; rfl
  have hs5 : ∀ j : Nat, j < 4 → cell.slots[j]? = some (.int (zPr j)) := fun j hj => by rw [g5]; exact z_prAt hj
  have hc1 : H[a]? = some (vp_cell (G.2 1) (4, .inl zPr)) := B.1 q1 _ ha1
  have hsz : ((vp_cell (G.2 1) (4, .inl zPr)).slots.size : Int) = 4 := by rw [z_prSize]; rfl
  obtain ⟨-, k1, hk1, cm1, hkk1⟩ := (E.k.2 1 _ rfl).1 4 (fun j => .int (zPr j))
  have hk1' : s.vm.classes[G.2 1]? = some k1 := hk1
  intro T hTT X
  obtain ⟨vm', X', step⟩ := X.arraycopy E.x E.ow (E.w w1) (E.w w2) (E.w w3) (E.w w4) (src := tp) (dst := a) (cs := cell) (cd := vp_cell (G.2 1) (4, .inl zPr)) (srcPos := 0) (destPos := 0) (n := 4) (by rw [hTT]; exact g1) (by rw [hTT]; exact hc1)
    g2 (fun _ h => by cases h) g3 (fun h => by cases h) (by rw [g4]; exact hk1') hk1 hkk1 hkk1 (by simp [refKind]) (by decide) (by decide) (by decide) (by rw [gz]; decide) (by rw [hsz]; decide)
    (fun vm₁ _ i hi => by
      have hi : i < 4 := hi
      have e0 : cell.slots.getD ((0 : Int32).toNatClampNeg + i) .null = .int (zPr ((0 : Int32).toNatClampNeg + i)) := by
        rw [Array.getD_eq_getD_getElem?, hs5 _ (show (0 : Int32).toNatClampNeg + i < 4 from by show 0 + i < 4; omega)]
        rfl
      rw [e0]
      exact ⟨rfl, trivial⟩)
    (g := F0 m pc ls (.int 4 :: .int 0 :: .ref a :: .int 0 :: .ref tp :: rest)) rfl (by rw [hl.1, E.1.2.2.1]) (rest := rest) rfl (by rw [E.b]; exact hdg) hframes (by show 2 * 0 + _ + _ ≤ _; omega)
  have e1 : copied cell (vp_cell (G.2 1) (4, .inl zPr)) 0 0 4 = vp_cell (G.2 1) (4, .inl zPr) :=
    (va_copiedX (fun z => Value.int z) cell (G.2 1) (n0 := 4) (n1 := 4) (sp := 0) (dp := 0) (n := 4) zPr zPr hs5 (by omega)).trans (by rw [z_cpyP]; rfl)
  rw [e1] at X' step
  have hla : a < H.size := (Array.getElem?_eq_some_iff.mp hc1).1
  have oq : ∀ q : Nat, q ≠ a → (H.setIfInBounds a (vp_cell (G.2 1) (4, .inl zPr)))[q]? = H[q]? := fun q hq => by simp [Array.getElem?_setIfInBounds, Ne.symm hq]
  obtain ⟨t, a1, b1⟩ := kk (H.setIfInBounds a (vp_cell (G.2 1) (4, .inl zPr))) _ ⟨B.1.set B.2.1 ha1 (show (H.setIfInBounds a _)[a]? = some _ by simp [Array.getElem?_setIfInBounds, hla]) oq, B.2.1.set ha1, by simp; exact B.2.2.1, fun q g1 g2 => by
      rw [oq q (fun h => g2 (by rw [h]; exact B.2.1.2 q1 _ ha1))]
      exact B.2.2.2.1 q g1 g2, fun q hq => by
      rcases List.mem_append.mp hq with h | h
      · exact B.2.2.2.2 q h
      · obtain ⟨z, -, hz⟩ := List.mem_map.mp h
        rw [← hz]
        exact B.2.1.2 q1 _ ha1⟩ _ (by rw [← hTT]; rfl) X'
  exact ⟨t, step t a1, b1⟩
/-- a method that reads the first prices: its entry, and its call -/
theorem z_startS {sz : Nat} {av : List Value} {QA : (Nat → Prop) → Array Value → State → Outcome → State → Prop} (hy : plainName y.cls = true) (ha : (lg_sl av).length ≤ maxL ∧ True)
    (body : ∀ (p : Program) (e : Env) (s : State) (m : MethodId) (below : List Frame) (meth : Method) (c : Code) (A : Nat → Prop) (ls : Array Slot), zE p s m c av.toArray G y.cls bytes maxL A → zS G tp A s → zB G A s.heap ws s.heap [] → meth.sig.returnType = ret → meth.locks = false → meth.name = y.name → lv_has ls maxL (lv_args 0 av) →
      W p l e rm s m av.toArray below meth c s.heap [] 0 0 (MQ below (QA A) av.toArray s mc ms A) (F0 m 0 ls [])) :
    Met l y (.code y bytes maxL ret :: zT) rm (va_Pc av (fun U => zPc G ws sz U ∧ zS G tp (va_A ws sz) U)) (QA (va_A ws sz)) mc ms (va_A ws sz) := by
  refine Met.ofW (cc := bytes) (maxL := maxL) (ret := ret) hy rfl ?_
  intro p e s m args below meth c s₁ B hml hv
  obtain ⟨rfl, ⟨hsz, hP, hK, hD0⟩, hS⟩ := hv
  have hts := atoms_spec (ws := .code y bytes maxL ret :: zT) B.pre
  subst hsz
  have hD := hD0.self (sz := s.heap.size)
  have hl := lv_entry av (n := maxL) ha.1
  rw [lg_entry_eq]
  exact body p e s m below meth c (va_A ws s.heap.size) _ ⟨⟨B.exec, B.bytes, hml, findClass_of_methodNamed B.named, fun w h => hts w (List.mem_cons_of_mem _ h)⟩, hK, fun q h => Or.inr h⟩ hS ⟨hP, hD, va_S.rf⟩ B.returns B.notSynchronized (name_of_methodNamed B.named B.method).1 hl
theorem zPcS_blind {av : List Value} {sz : Nat} : FrameBlind (va_Pc av (fun U => zPc G ws sz U ∧ zS G tp (va_A ws sz) U)) := fun a U g mk q => by
  obtain ⟨q0, q1, q2, q3, q4⟩ := q
  obtain ⟨-, h1⟩ := zPc_blind (av := av) (G := G) (ws := ws) (sz := sz) a U g mk ⟨q0, q1⟩
  exact ⟨q0, h1, va_Z.moved (u := U) (U := U.calling g mk a) (Vm.Alike.refl U.vm) q2, q3, q4⟩
theorem z_preS (E : zE p s m c args G own cc nL A) (hS : zS G tp A s) (B : zB G A s.heap ws H locs) (isC : List Nat) (hC : isC.map (fun i => ws[i]?) = wc.map some) (hnC : va_nd isC = true) (av : List Value) : ∀ U : State, U.heap = H → s.WarmedH U.vm → va_Pc av (fun U => zPc G wc H.size U ∧ zS G tp (va_A wc H.size) U) av.toArray U := by
  intro U hU hW
  obtain ⟨h0, h1⟩ := z_pre E B isC hC hnC av U hU hW
  have hF := va_free (wc := wc) B.2.1 B.2.2 E.2.2 isC hC
  refine ⟨h0, h1, ?_, ?_, fun h => hS.2.2 (hF _ h)⟩
  · rw [hU]
    exact ((hS.1.kept B.2.2.2.1).moved hW.alike).narrow hF
  · rw [hU]
    exact z_tpH B hS.2
theorem z_runVS (E : zE p s m c args G own cc nL A) (hS : zS G tp A s) (B : zB G A s.heap ws H locs) (isC : List Nat) (hC : isC.map (fun i => ws[i]?) = wc.map some) (hnC : va_nd isC = true) (hy : zMV C y bytes maxL ret n) (hl : Cond.methodLink own index y ∈ zT) (k0 : Nat) {ci : Nat} {fs : List Value} {q : vw_C} (hcl : vwCl[ci]? = some q) (hq : q.1 = C) (he : wc[k0]? = some (b, .inr (ci, fs)))
    (hM : Met l y (.code y bytes maxL ret :: zT) rm (va_Pc (.ref b :: As) (fun U => zPc G wc H.size U ∧ zS G tp (va_A wc H.size) U)) Qc mc ms free) (hrc : rm.cells = mc) (hrs : rm.slots = ms) (hR : rm.frames + 1 ≤ R.frames ∧ 8 + (maxL + 11) + rm.locals ≤ R.locals) (hn : As.length = n) (hsz : ls.size = nL) (hst : st0 = As.reverse ++ .ref b :: rest) (hroom : (rest.map fun v => v.category).sum ≤ 8) (hdg : decode cc pc = .ok (.invokevirtual index, 3)) (hf : cells + mc ≤ R.cells ∧ slots + ms ≤ R.slots) :
    va_Run p l e R s m args below meth c H locs cells slots mc ms (F0 m pc ls st0) rest (Qc (Value.ref b :: As).toArray) free := by
  obtain ⟨w1, w2, w3, w4, w5⟩ := hy
  have hP := B.1.sub (ws' := wc) isC (z_fm hC)
  refine va_runV E.1 hM (cwV (C := C) n E.1.2.2.2.2 ?_ rfl hrc hrs w5 hR) ⟨zPcS_blind, ?_, z_preS E hS B isC hC hnC _⟩ rfl hn hsz hst (lv_room hroom) hdg hf
  · exact z_gc hl (z_gc w1 (z_gc w2 (z_gc w3 (z_gc w4 z_goodT))))
  · have h := va_recv E.k hP hcl he
    rw [hq] at h
    exact h
theorem z_runIS (E : zE p s m c args G own cc nL A) (hS : zS G tp A s) (B : zB G A s.heap ws H locs) (isC : List Nat) (hC : isC.map (fun i => ws[i]?) = wc.map some) (hnC : va_nd isC = true) (hy : zMI y bytes maxL n) (hl : Cond.methodLink own index y ∈ zT)
    (hM : Met l y (.code y bytes maxL none :: zT) rm (va_Pc (.ref b :: As) (fun U => zPc G wc H.size U ∧ zS G tp (va_A wc H.size) U)) Qc mc ms free) (hrc : rm.cells = mc) (hrs : rm.slots = ms) (hR : rm.frames + 1 ≤ R.frames ∧ 8 + (maxL + 11) + rm.locals ≤ R.locals) (hn : As.length = n) (hsz : ls.size = nL) (hst : st0 = As.reverse ++ .ref b :: rest) (hroom : (rest.map fun v => v.category).sum ≤ 8) (hdg : decode cc pc = .ok (.invokespecial index, 3)) (hf : cells + mc ≤ R.cells ∧ slots + ms ≤ R.slots) :
    va_Run p l e R s m args below meth c H locs cells slots mc ms (F0 m pc ls st0) rest (Qc (Value.ref b :: As).toArray) free := by
  obtain ⟨w1, w3, w4, w6, w5⟩ := hy
  refine va_runI E.1 hM (cwI n E.1.2.2.2.2 (z_gc w4 z_goodT) rfl hrc hrs (E.w w3) (E.w hl) (E.w w1) w6 w5 hR) ⟨zPcS_blind, z_preS E hS B isC hC hnC _⟩ rfl hn hsz hst (lv_room hroom) hdg hf
end ZS
