/-! calls, entries, ends, loops -/
def zMV (C : String) (y : MethodName) (bytes : ByteArray) (maxL : Nat) (ret : Option FieldType) (n : Nat) : Prop := Cond.instanceMethod y ∈ zT ∧ Cond.selects C y y ∈ zT ∧ Cond.initialized C ∈ zT ∧ Cond.code y bytes maxL ret ∈ zT ∧ (y.cls = C ∧ y.cls ≠ "java/lang/invoke/MethodHandle" ∧ y.cls ≠ "java/lang/invoke/VarHandle" ∧ (parseMethodDescriptor y.desc).map (fun d => d.parameters.length) = some n)
def zMS (y : MethodName) (bytes : ByteArray) (maxL : Nat) (ret : Option FieldType) (n : Nat) : Prop := Cond.static y ∈ zT ∧ Cond.initialized y.cls ∈ zT ∧ Cond.code y bytes maxL ret ∈ zT ∧ (y.cls ≠ "java/lang/invoke/MethodHandle" ∧ y.cls ≠ "java/lang/invoke/VarHandle" ∧ (parseMethodDescriptor y.desc).map (fun d => d.parameters.length) = some n)
def zMI (y : MethodName) (bytes : ByteArray) (maxL : Nat) (n : Nat) : Prop := Cond.instanceMethod y ∈ zT ∧ Cond.initialized y.cls ∈ zT ∧ Cond.code y bytes maxL none ∈ zT ∧ y.name = "<init>" ∧ (y.cls ≠ "java/lang/invoke/MethodHandle" ∧ y.cls ≠ "java/lang/invoke/VarHandle" ∧ (parseMethodDescriptor y.desc).map (fun d => d.parameters.length) = some n)
theorem z_ofMem {w : Cond} {i : Nat} (h : w ∈ zT) : w ∈ zT := h
section ZC
variable {p : Program} {l : Launch} {e : Env} {R : Room} {s : State} {m : MethodId} {args : Array Value} {below : List Frame} {meth : Method} {c : Code} {H : Heap} {locs : List Loc} {cells slots : Nat} {Q : State → Prop}
variable {cc : ByteArray} {pc : Nat} {ls : Array Slot} {rest : List Value} {G : zGT} {A : Nat → Prop} {a b : Nat} {ws wc wr : va_W} {own C : String} {nL index maxL n mc ms : Nat} {y : MethodName} {bytes : ByteArray} {ret : Option FieldType} {rm : Room} {As st0 : List Value} {Qc : Array Value → State → Outcome → State → Prop} {free : Addr → Prop}
theorem z_pre (E : zE p s m c args G own cc nL A) (B : zB G A s.heap ws H locs) (isC : List Nat) (hC : isC.map (fun i => ws[i]?) = wc.map some) (hnC : va_nd isC = true) (av : List Value) : ∀ U : State, U.heap = H → s.WarmedH U.vm → va_Pc av (zPc G wc H.size) av.toArray U := by
  intro U hU hW
  have hP := B.1.sub (ws' := wc) isC (z_fm hC)
  have hD := B.2.1.sub (ws' := wc) isC hnC hC
  exact ⟨rfl, by rw [hU], by rw [hU]; exact hP, E.2.1.warm hW, hD.weaken (fun _ _ _ _ => trivial)⟩
theorem z_runV (E : zE p s m c args G own cc nL A) (B : zB G A s.heap ws H locs) (isC : List Nat) (hC : isC.map (fun i => ws[i]?) = wc.map some) (hnC : va_nd isC = true) (hy : zMV C y bytes maxL ret n) (hl : Cond.methodLink own index y ∈ zT) (k0 : Nat) {ci : Nat} {fs : List Value} {q : vw_C} (hcl : vwCl[ci]? = some q) (hq : q.1 = C) (he : wc[k0]? = some (b, .inr (ci, fs)))
    (hM : Met l y (.code y bytes maxL ret :: zT) rm (va_Pc (.ref b :: As) (zPc G wc H.size)) Qc mc ms free) (hrc : rm.cells = mc) (hrs : rm.slots = ms) (hR : rm.frames + 1 ≤ R.frames ∧ 8 + (maxL + 11) + rm.locals ≤ R.locals) (hn : As.length = n) (hsz : ls.size = nL) (hst : st0 = As.reverse ++ .ref b :: rest) (hroom : (rest.map fun v => v.category).sum ≤ 8) (hdg : decode cc pc = .ok (.invokevirtual index, 3)) (hf : cells + mc ≤ R.cells ∧ slots + ms ≤ R.slots) :
    va_Run p l e R s m args below meth c H locs cells slots mc ms (F0 m pc ls st0) rest (Qc (Value.ref b :: As).toArray) free := by
  obtain ⟨w1, w2, w3, w4, w5⟩ := hy
  have hP := B.1.sub (ws' := wc) isC (z_fm hC)
  refine va_runV E.1 hM (cwV (C := C) n E.1.2.2.2.2 ?_ rfl hrc hrs w5 hR) ⟨zPc_blind, ?_, z_pre E B isC hC hnC _⟩ rfl hn hsz hst (lv_room hroom) hdg hf
  · exact z_gc hl (z_gc w1 (z_gc w2 (z_gc w3 (z_gc w4 z_goodT))))
  · have h := va_recv E.k hP hcl he
    rw [hq] at h
    exact h
theorem z_runS (E : zE p s m c args G own cc nL A) (B : zB G A s.heap ws H locs) (isC : List Nat) (hC : isC.map (fun i => ws[i]?) = wc.map some) (hnC : va_nd isC = true) (hy : zMS y bytes maxL ret n) (hl : Cond.methodLink own index y ∈ zT)
    (hM : Met l y (.code y bytes maxL ret :: zT) rm (va_Pc As (zPc G wc H.size)) Qc mc ms free) (hrc : rm.cells = mc) (hrs : rm.slots = ms) (hR : rm.frames + 1 ≤ R.frames ∧ 8 + (maxL + 11) + rm.locals ≤ R.locals) (hn : As.length = n) (hsz : ls.size = nL) (hst : st0 = As.reverse ++ rest) (hroom : (rest.map fun v => v.category).sum ≤ 8) (hdg : decode cc pc = .ok (.invokestatic index, 3)) (hf : cells + mc ≤ R.cells ∧ slots + ms ≤ R.slots) :
    va_Run p l e R s m args below meth c H locs cells slots mc ms (F0 m pc ls st0) rest (Qc As.toArray) free := by
  obtain ⟨w1, w3, w4, w5⟩ := hy
  refine va_runS E.1 hM (va_cwS n E.1.2.2.2.2 ?_ rfl hrc hrs w5 hR) ⟨zPc_blind, z_pre E B isC hC hnC _⟩ rfl hn hsz hst (lv_room hroom) hdg hf
  exact z_gc hl (z_gc w1 (z_gc w3 (z_gc w4 z_goodT)))
theorem z_runI (E : zE p s m c args G own cc nL A) (B : zB G A s.heap ws H locs) (isC : List Nat) (hC : isC.map (fun i => ws[i]?) = wc.map some) (hnC : va_nd isC = true) (hy : zMI y bytes maxL n) (hl : Cond.methodLink own index y ∈ zT)
    (hM : Met l y (.code y bytes maxL none :: zT) rm (va_Pc (.ref b :: As) (zPc G wc H.size)) Qc mc ms free) (hrc : rm.cells = mc) (hrs : rm.slots = ms) (hR : rm.frames + 1 ≤ R.frames ∧ 8 + (maxL + 11) + rm.locals ≤ R.locals) (hn : As.length = n) (hsz : ls.size = nL) (hst : st0 = As.reverse ++ .ref b :: rest) (hroom : (rest.map fun v => v.category).sum ≤ 8) (hdg : decode cc pc = .ok (.invokespecial index, 3)) (hf : cells + mc ≤ R.cells ∧ slots + ms ≤ R.slots) :
    va_Run p l e R s m args below meth c H locs cells slots mc ms (F0 m pc ls st0) rest (Qc (Value.ref b :: As).toArray) free := by
  obtain ⟨w1, w3, w4, w6, w5⟩ := hy
  refine va_runI E.1 hM (cwI n E.1.2.2.2.2 (z_gc w4 z_goodT) rfl hrc hrs (E.w w3) (E.w hl) (E.w w1) w6 w5 hR) ⟨zPc_blind, z_pre E B isC hC hnC _⟩ rfl hn hsz hst (lv_room hroom) hdg hf
theorem z_runIN {host : String} (E : zE p s m c args G own cc nL A) (B : zB G A s.heap ws H locs) (isC : List Nat) (hC : isC.map (fun i => ws[i]?) = wc.map some) (hnC : va_nd isC = true) (hy : zMI y bytes maxL n) (hl : va_Nw (.methodLinkNest own index y host) s)
    (hM : Met l y (.code y bytes maxL none :: zT) rm (va_Pc (.ref b :: As) (zPc G wc H.size)) Qc mc ms free) (hrc : rm.cells = mc) (hrs : rm.slots = ms) (hR : rm.frames + 1 ≤ R.frames ∧ 8 + (maxL + 11) + rm.locals ≤ R.locals) (hn : As.length = n) (hsz : ls.size = nL) (hst : st0 = As.reverse ++ .ref b :: rest) (hroom : (rest.map fun v => v.category).sum ≤ 8) (hdg : decode cc pc = .ok (.invokespecial index, 3)) (hf : cells + mc ≤ R.cells ∧ slots + ms ≤ R.slots) :
    va_Run p l e R s m args below meth c H locs cells slots mc ms (F0 m pc ls st0) rest (Qc (Value.ref b :: As).toArray) free := by
  obtain ⟨w1, w3, w4, w6, w5⟩ := hy
  refine va_runIN (host := host) E.1 hM ⟨va_cnB n E.1.2.2.2.2 (z_gc w4 z_goodT) rfl hrc hrs hl (E.w w3) w5 hR, w6, E.w w1⟩ ⟨zPc_blind, z_pre E B isC hC hnC _⟩ rfl hn hsz hst (lv_room hroom) hdg hf
/-- behind a call -/
theorem z_join (B : zB G A s.heap ws H locs) (hA : ∀ q, s.heap.size ≤ q → A q) (isC isR : List Nat) (hC : isC.map (fun i => ws[i]?) = wc.map some) (hR : isR.map (fun i => ws[i]?) = wr.map some) (hn : va_nd isR = true) (hdis : ∀ i ∈ isR, i ∉ isC) {t : State} {H1 : Heap} {locs1 : List Loc} (ht : t.heap = H1) (hk : ∀ q : Nat, q < H.size → ¬ va_A wc H.size q → H1[q]? = H[q]?) (hS : va_S A s.heap H1 locs1) : ∀ w1, zQ G w1 (va_A wc H.size) t → zB G A s.heap (wr ++ w1) H1 locs1 := by
  intro w1 h1
  have hF := va_free (wc := wc) B.2.1 B.2.2 hA isC hC
  have hP1 := h1.1
  rw [ht] at hP1
  obtain ⟨h2, h3⟩ := va_join B.1 B.2.1 isC isR hC hR hn hdis hk hF hP1 h1.2
  exact ⟨h2, h3, hS⟩
theorem z_calli (E : zE p s m c args G own cc nL A) (B : zB G A s.heap ws H locs) (isC isR : List Nat) (hC : isC.map (fun i => ws[i]?) = wc.map some) (hR : isR.map (fun i => ws[i]?) = wr.map some) (hn : va_nd isR = true) (hdis : ∀ i ∈ isR, i ∉ isC) {post : Int32 → Unit → Prop} {Bq : Unit → State → Prop} {av : Array Value} (hr : va_Run p l e R s m args below meth c H locs cells slots mc ms (F0 m pc ls st0) rest (va_Qi post Bq (va_A wc H.size) av) (va_A wc H.size))
    (kk : ∀ (r : Int32) (t : State) (H1 : Heap) (locs1 : List Loc), post r () → Bq () t → (∀ w1, zQ G w1 (va_A wc H.size) t → zB G A s.heap (wr ++ w1) H1 locs1) → W p l e R s m args below meth c H1 locs1 (cells + mc) (slots + ms) Q (F0 m (pc + 3) ls (.int r :: rest))) : W p l e R s m args below meth c H locs cells slots Q (F0 m pc ls st0) := by
  have hF := va_free (wc := wc) B.2.1 B.2.2 E.2.2 isC hC
  exact va_calli hr B.2.2 (fun q _ h => hF q h) hF (fun r u t H1 locs1 ht _ hp hb _ hk hS => kk r t H1 locs1 hp hb (z_join B E.2.2 isC isR hC hR hn hdis ht hk hS))
theorem z_calll (E : zE p s m c args G own cc nL A) (B : zB G A s.heap ws H locs) (isC isR : List Nat) (hC : isC.map (fun i => ws[i]?) = wc.map some) (hR : isR.map (fun i => ws[i]?) = wr.map some) (hn : va_nd isR = true) (hdis : ∀ i ∈ isR, i ∉ isC) {post : Int64 → Unit → Prop} {Bq : Unit → State → Prop} {av : Array Value} (hr : va_Run p l e R s m args below meth c H locs cells slots mc ms (F0 m pc ls st0) rest (va_Ql post Bq (va_A wc H.size) av) (va_A wc H.size))
    (kk : ∀ (r : Int64) (t : State) (H1 : Heap) (locs1 : List Loc), post r () → Bq () t → (∀ w1, zQ G w1 (va_A wc H.size) t → zB G A s.heap (wr ++ w1) H1 locs1) → W p l e R s m args below meth c H1 locs1 (cells + mc) (slots + ms) Q (F0 m (pc + 3) ls (.long r :: rest))) : W p l e R s m args below meth c H locs cells slots Q (F0 m pc ls st0) := by
  have hF := va_free (wc := wc) B.2.1 B.2.2 E.2.2 isC hC
  exact va_calll hr B.2.2 (fun q _ h => hF q h) hF (fun r u t H1 locs1 ht _ hp hb _ hk hS => kk r t H1 locs1 hp hb (z_join B E.2.2 isC isR hC hR hn hdis ht hk hS))
theorem z_callv (E : zE p s m c args G own cc nL A) (B : zB G A s.heap ws H locs) (isC isR : List Nat) (hC : isC.map (fun i => ws[i]?) = wc.map some) (hR : isR.map (fun i => ws[i]?) = wr.map some) (hn : va_nd isR = true) (hdis : ∀ i ∈ isR, i ∉ isC) {post : Unit → Prop} {Bq : Unit → State → Prop} {av : Array Value} (hr : va_Run p l e R s m args below meth c H locs cells slots mc ms (F0 m pc ls st0) rest (va_Qv post Bq (va_A wc H.size) av) (va_A wc H.size))
    (kk : ∀ (t : State) (H1 : Heap) (locs1 : List Loc), post () → Bq () t → (∀ w1, zQ G w1 (va_A wc H.size) t → zB G A s.heap (wr ++ w1) H1 locs1) → W p l e R s m args below meth c H1 locs1 (cells + mc) (slots + ms) Q (F0 m (pc + 3) ls rest)) : W p l e R s m args below meth c H locs cells slots Q (F0 m pc ls st0) := by
  have hF := va_free (wc := wc) B.2.1 B.2.2 E.2.2 isC hC
  exact va_callv hr B.2.2 (fun q _ h => hF q h) hF (fun u t H1 locs1 ht _ hp hb _ hk hS => kk t H1 locs1 hp hb (z_join B E.2.2 isC isR hC hR hn hdis ht hk hS))
theorem z_callr (E : zE p s m c args G own cc nL A) (B : zB G A s.heap ws H locs) (isC isR : List Nat) (hC : isC.map (fun i => ws[i]?) = wc.map some) (hR : isR.map (fun i => ws[i]?) = wr.map some) (hn : va_nd isR = true) (hdis : ∀ i ∈ isR, i ∉ isC) {post : Unit → Prop} {Bq : Unit → Nat → State → Prop} {av : Array Value} (hr : va_Run p l e R s m args below meth c H locs cells slots mc ms (F0 m pc ls st0) rest (va_Qr post Bq (va_A wc H.size) av) (va_A wc H.size))
    (kk : ∀ (r : Nat) (t : State) (H1 : Heap) (locs1 : List Loc), post () → Bq () r t → (∀ w1, zQ G w1 (va_A wc H.size) t → zB G A s.heap (wr ++ w1) H1 locs1) → W p l e R s m args below meth c H1 locs1 (cells + mc) (slots + ms) Q (F0 m (pc + 3) ls (.ref r :: rest))) : W p l e R s m args below meth c H locs cells slots Q (F0 m pc ls st0) := by
  have hF := va_free (wc := wc) B.2.1 B.2.2 E.2.2 isC hC
  exact va_callr hr B.2.2 (fun q _ h => hF q h) hF (fun u r t H1 locs1 ht _ hp hb _ hk hS => kk r t H1 locs1 hp hb (z_join B E.2.2 isC isR hC hR hn hdis ht hk hS))
/-- a method's entry -/
theorem z_start {sz : Nat} {av : List Value} {QA : (Nat → Prop) → Array Value → State → Outcome → State → Prop} (hy : plainName y.cls = true) (ha : (lg_sl av).length ≤ maxL ∧ True)
    (body : ∀ (p : Program) (e : Env) (s : State) (m : MethodId) (below : List Frame) (meth : Method) (c : Code) (A : Nat → Prop) (ls : Array Slot), zE p s m c av.toArray G y.cls bytes maxL A → zB G A s.heap ws s.heap [] → meth.sig.returnType = ret → meth.locks = false → meth.name = y.name → lv_has ls maxL (lv_args 0 av) →
      W p l e rm s m av.toArray below meth c s.heap [] 0 0 (MQ below (QA A) av.toArray s mc ms A) (F0 m 0 ls [])) :
    Met l y (.code y bytes maxL ret :: zT) rm (va_Pc av (zPc G ws sz)) (QA (va_A ws sz)) mc ms (va_A ws sz) := by
  refine Met.ofW (cc := bytes) (maxL := maxL) (ret := ret) hy rfl ?_
  intro p e s m args below meth c s₁ B hml hv
  obtain ⟨rfl, hsz, hP, hK, hD0⟩ := hv
  have hts := atoms_spec (ws := .code y bytes maxL ret :: zT) B.pre
  subst hsz
  have hD := hD0.self (sz := s.heap.size)
  have hl := lv_entry av (n := maxL) ha.1
  rw [lg_entry_eq]
  exact body p e s m below meth c (va_A ws s.heap.size) _ ⟨⟨B.exec, B.bytes, hml, findClass_of_methodNamed B.named, fun w h => hts w (List.mem_cons_of_mem _ h)⟩, hK, fun q h => Or.inr h⟩ ⟨hP, hD, va_S.rf⟩ B.returns B.notSynchronized (name_of_methodNamed B.named B.method).1 hl
theorem z_q (B : zB G A s.heap ws H locs) (is : List Nat) (hn : va_nd is = true) (h : is.map (fun i => ws[i]?) = wr.map some) {t : State} (ht : t.heap = H) : zQ G wr A t := ⟨by rw [ht]; exact B.1.sub is (z_fm h), B.2.1.sub is hn h⟩
theorem z_iret {v : Int32} (E : zE p s m c args G own cc nL A) (hr : meth.sig.returnType = some .int) (hlocks : meth.locks = false) (B : zB G A s.heap ws H locs) {post : Int32 → Unit → Prop} {Bq : Unit → State → Prop} (hp : post v ()) (hB : ∀ t : State, t.heap = H → Bq () t) (hdg : decode cc pc = .ok (.ireturn, 1)) : W p l e R s m args below meth c H locs cells slots (MQ below (va_Qi post Bq A) args s cells slots A) (F0 m pc ls [.int v]) :=
  W.iret E.x E.b hr (fun t ht _ => ⟨⟨v, (), rfl, hp, hB t ht⟩, B.2.2.F ht⟩) B.2.2.2.2 hdg hlocks
theorem z_zret {v : Int32} (E : zE p s m c args G own cc nL A) (hr : meth.sig.returnType = some .boolean) (hlocks : meth.locks = false) (B : zB G A s.heap ws H locs) (hn : narrow .boolean (.int v) = .int v) {post : Int32 → Unit → Prop} {Bq : Unit → State → Prop} (hp : post v ()) (hB : ∀ t : State, t.heap = H → Bq () t) (hdg : decode cc pc = .ok (.ireturn, 1)) : W p l e R s m args below meth c H locs cells slots (MQ below (va_Qi post Bq A) args s cells slots A) (F0 m pc ls [.int v]) :=
  W.zret E.x E.b hr hn (fun t ht _ => ⟨⟨v, (), rfl, hp, hB t ht⟩, B.2.2.F ht⟩) B.2.2.2.2 hdg hlocks
theorem z_lret {v : Int64} (E : zE p s m c args G own cc nL A) (hr : meth.sig.returnType = some .long) (hlocks : meth.locks = false) (B : zB G A s.heap ws H locs) {post : Int64 → Unit → Prop} {Bq : Unit → State → Prop} (hp : post v ()) (hB : ∀ t : State, t.heap = H → Bq () t) (hdg : decode cc pc = .ok (.lreturn, 1)) : W p l e R s m args below meth c H locs cells slots (MQ below (va_Ql post Bq A) args s cells slots A) (F0 m pc ls [.long v]) :=
  W.lret E.x E.b hr (fun t ht _ => ⟨⟨v, (), rfl, hp, hB t ht⟩, B.2.2.F ht⟩) B.2.2.2.2 hdg hlocks
theorem z_vret (E : zE p s m c args G own cc nL A) (hr : meth.sig.returnType = none) (hlocks : meth.locks = false) (B : zB G A s.heap ws H locs) {post : Unit → Prop} {Bq : Unit → State → Prop} (hp : post ()) (hB : ∀ t : State, t.heap = H → Bq () t) (hdg : decode cc pc = .ok (.return_, 1)) : W p l e R s m args below meth c H locs cells slots (MQ below (va_Qv post Bq A) args s cells slots A) (F0 m pc ls []) :=
  W.vret E.x E.b hr (fun t ht _ => ⟨⟨(), rfl, hp, hB t ht⟩, B.2.2.F ht⟩) B.2.2.2.2 hdg hlocks
theorem z_aret {v : Nat} {rt : FieldType} (E : zE p s m c args G own cc nL A) (hr : meth.sig.returnType = some rt) (hrt : (∃ n, rt = .object n) ∨ ∃ t, rt = .array t) (hlocks : meth.locks = false) (B : zB G A s.heap ws H locs) {post : Unit → Prop} {Bq : Unit → Nat → State → Prop} (hp : post ()) (hB : ∀ t : State, t.heap = H → Bq () v t) (hdg : decode cc pc = .ok (.areturn, 1)) : W p l e R s m args below meth c H locs cells slots (MQ below (va_Qr post Bq A) args s cells slots A) (F0 m pc ls [.ref v]) :=
  W.aret E.x E.b hr hrt (Or.inr ⟨v, rfl⟩) (fun t ht _ => ⟨⟨(), v, rfl, hp, hB t ht⟩, B.2.2.F ht⟩) B.2.2.2.2 hdg hlocks
/-- a counted loop; what it makes grows with the count -/
theorem z_loop {head : Nat} (N : Nat) (Cf Sf : Nat → Nat) (Inv : Nat → Heap → List Loc → Array Slot → Prop) (hc : cells ≤ Cf 0) (hsl : slots ≤ Sf 0) (h0 : Inv 0 H locs ls)
    (hs : ∀ (i : Nat) (H : Heap) (locs : List Loc) (ls : Array Slot), i < N → (∀ (H : Heap) (locs : List Loc) (ls : Array Slot), Inv (i + 1) H locs ls → W p l e R s m args below meth c H locs (Cf (i + 1)) (Sf (i + 1)) Q (F0 m head ls [])) → Inv i H locs ls → W p l e R s m args below meth c H locs (Cf i) (Sf i) Q (F0 m head ls []))
    (hx : ∀ (H : Heap) (locs : List Loc) (ls : Array Slot), Inv N H locs ls → W p l e R s m args below meth c H locs (Cf N) (Sf N) Q (F0 m head ls [])) : W p l e R s m args below meth c H locs cells slots Q (F0 m head ls []) := by
  have key : ∀ (n i : Nat), i + n = N → ∀ (H : Heap) (locs : List Loc) (ls : Array Slot), Inv i H locs ls → W p l e R s m args below meth c H locs (Cf i) (Sf i) Q (F0 m head ls []) := by
    intro n
    induction n with
    | zero =>
      intro i hi H locs ls hI
      have : i = N := by omega
      subst this
      exact hx H locs ls hI
    | succ n ih =>
      intro i hi H locs ls hI
      exact hs i H locs ls (by omega) (fun H locs ls h => ih (i + 1) (by omega) H locs ls h) hI
  exact W.widen hc hsl (key N 0 (by omega) H locs ls h0)
theorem z_objInit (E : zE p s m c args G own cc nL A) (hl : lv_has ls nL ([] : List (Nat × Value))) {idx : Nat} (w1 : Cond.methodLink own idx Lib.objectInit ∈ zT) (w2 : Cond.instanceMethod Lib.objectInit ∈ zT) (w3 : Cond.code Lib.objectInit ⟨#[0xb1]⟩ 1 none ∈ zT) (hd : decode cc pc = .ok (.invokespecial idx, 3)) (hframes : 1 ≤ R.frames) (hlocals : (rest.map fun v => v.category).sum + 12 ≤ R.locals)
    (kk : W p l e R s m args below meth c H locs cells slots Q (F0 m (pc + 3) ls rest)) : W p l e R s m args below meth c H locs cells slots Q (F0 m pc ls (.ref a :: rest)) :=
  W.objInit E.x E.b E.ow (E.w w1) (E.w w2) (E.w w3) (g := F0 m pc ls (.ref a :: rest)) rfl (hl.1.trans E.1.2.2.1.symm) rfl hd hframes (by show 2 * 0 + _ + 12 ≤ _; omega) kk
theorem z_sub (B : zB G A s.heap ws H locs) (is : List Nat) (hn : va_nd is = true) (h : is.map (fun i => ws[i]?) = wr.map some) : zB G A s.heap wr H locs := ⟨B.1.sub is (z_fm h), B.2.1.sub is hn h, B.2.2⟩
end ZC
theorem z_cpy0 {α : Type} (f g : Nat → α) : va_cpy f g 0 0 0 = g := by
  funext k
  simp only [va_cpy]
  rw [if_neg (by omega)]
theorem zi_lt {x y : Int32} (h : x < y) : x.toInt < y.toInt := Int32.lt_iff_toInt_lt.mp h
theorem zi_le {x y : Int32} (h : x ≤ y) : x.toInt ≤ y.toInt := Int32.le_iff_toInt_le.mp h
theorem zi_nlt {x y : Int32} (h : ¬ x < y) : y.toInt ≤ x.toInt := Int.not_lt.mp (fun q => h (Int32.lt_iff_toInt_lt.mpr q))
theorem zi_nle {x y : Int32} (h : ¬ x ≤ y) : y.toInt < x.toInt := Int.not_le.mp (fun q => h (Int32.le_iff_toInt_le.mpr q))
theorem zi_eq {x y : Int32} (h : x = y) : x.toInt = y.toInt := by rw [h]
theorem zi_ne {x y : Int32} (h : ¬ x = y) : ¬ x.toInt = y.toInt := fun q => h (Int32.toInt_inj.mp q)
theorem zi_pt {x : Int32} (k : Int32) (h : x.toInt = k.toInt) : k = x := (Int32.toInt_inj.mp h).symm
