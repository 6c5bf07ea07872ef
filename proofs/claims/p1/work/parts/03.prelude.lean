/-! the tools of this claim: one list of words for all methods, one bundle for a world, one for what a walk stands on -/
abbrev zGT : Type := va_G × (Nat → ClassId)
abbrev zTy (G : zGT) : List (ClassId × FieldType) := [(G.2 0, .byte), (G.2 1, .int), (G.2 2, .long), (G.2 3, .boolean), (G.2 4, .object "BackLogic$Cascade")]
def zT : List Cond := lw_tbl.filter goodWord
theorem z_mem {w : Cond} (i : Nat) (h : (lw_tbl[i]? = some w) ∧ goodWord w = true) : w ∈ zT := List.mem_filter.mpr ⟨List.mem_of_getElem? h.1, h.2⟩
theorem z_goodT : GoodIn zT zT := fun w h => ⟨h, good_of_word (List.mem_filter.mp h).2⟩
theorem z_gc {w : Cond} {ws : List Cond} (h : w ∈ zT) (k : GoodIn zT ws) : GoodIn zT (w :: ws) := fun v hv => (List.mem_cons.mp hv).elim (fun e => by subst e; exact z_goodT _ h) (k v)
/-- what of the tables may not be carried by the words: private members of nest mates, the array class of cascades, the cloning of rows -/
def zN (U : State) : Prop := va_Nw (.methodLinkNest RX11 9 yX8_init RX11) U ∧ va_Nw (.methodLinkNest RX11 18 yX3_init RX11) U ∧ va_Nw (.methodLinkNest RX11 25 yX5_init RX11) U ∧ va_Nw (.methodLinkNest RX11 59 yX1_init RX11) U ∧ va_Nw (.methodLinkNest RX11 66 yX9_init RX11) U ∧ va_Nw (.methodLinkNest RX11 73 yX10_init RX11) U ∧ va_Nw (.methodLinkNest RX11 321 yX7_init RX11) U ∧ va_AO RX0 U ∧ va_Nw (.castable "[I" "java/lang/Cloneable") U
theorem zN.warm {s U : State} (hW : s.WarmedH U.vm) (h : zN s) : zN U := by
  obtain ⟨h1, h2, h3, h4, h5, h6, h7, h8, h9⟩ := h
  exact ⟨h1.warmM hW, h2.warmM hW, h3.warmM hW, h4.warmM hW, h5.warmM hW, h6.warmM hW, h7.warmM hW, h8.moved hW.alike, h9.warmC hW⟩
theorem zN.same {s U : State} (hv : s.vm = U.vm) (h : zN s) : zN U := by
  obtain ⟨h1, h2, h3, h4, h5, h6, h7, h8, h9⟩ := h
  exact ⟨h1.same rfl hv, h2.same rfl hv, h3.same rfl hv, h4.same rfl hv, h5.same rfl hv, h6.same rfl hv, h7.same rfl hv, h8.moved (by rw [← hv]; exact Vm.Alike.refl s.vm), h9.same rfl hv⟩
def zK (G : zGT) (U : State) : Prop := va_K G.1 vwCl (zTy G) U ∧ zN U
theorem zK.warm {G : zGT} {s U : State} (hW : s.WarmedH U.vm) (h : zK G s) : zK G U := ⟨va_K.moved hW.alike h.1, h.2.warm hW⟩
def zB (G : zGT) (A : Nat → Prop) (H0 : Heap) (ws : va_W) (H : Heap) (locs : List Loc) : Prop := va_P G.1 vwCl ws H ∧ va_D A ws ∧ va_S A H0 H locs
def zQ (G : zGT) (ws : va_W) (A : Nat → Prop) (t : State) : Prop := va_P G.1 vwCl ws t.heap ∧ va_D A ws
def zPc (G : zGT) (ws : va_W) (sz : Nat) (U : State) : Prop := U.heap.size = sz ∧ va_P G.1 vwCl ws U.heap ∧ zK G U ∧ va_D (fun _ => True) ws
theorem zPc_blind {G : zGT} {av : List Value} {ws : va_W} {sz : Nat} : FrameBlind (va_Pc av (zPc G ws sz)) := fun a U g mk q => by
  obtain ⟨q0, q1, qP, qK, qD⟩ := q
  exact ⟨q0, q1, qP, ⟨va_K.moved (u := U) (U := U.calling g mk a) (Vm.Alike.refl U.vm) qK.1, zN.same (s := U) (U := U.calling g mk a) rfl qK.2⟩, qD⟩
abbrev zo (a ci : Nat) (fs : List Value) : Nat × va_E := (a, .inr (ci, fs))
abbrev zb (G : zGT) (a n : Nat) (f : Nat → Int32) : Nat × va_E := (a, .inl (G.2 0, n, .inl f))
abbrev zi (G : zGT) (a n : Nat) (f : Nat → Int32) : Nat × va_E := (a, .inl (G.2 1, n, .inl f))
abbrev zj (G : zGT) (a n : Nat) (f : Nat → Int64) : Nat × va_E := (a, .inl (G.2 2, n, .inr (.inl f)))
abbrev zz (G : zGT) (a n : Nat) (f : Nat → Int32) : Nat × va_E := (a, .inl (G.2 3, n, .inl f))
abbrev zc (G : zGT) (a n : Nat) (f : Nat → Option Nat) : Nat × va_E := (a, .inl (G.2 4, n, .inr (.inr (.inr (.inr f)))))
theorem z_fm {α β : Type} {f : α → Option β} {is : List α} {w : List β} (h : is.map f = w.map some) : is.filterMap f = w := by
  have e : (is.map f).filterMap id = w := by rw [h, List.filterMap_map]; simp
  rw [List.filterMap_map] at e
  exact e
theorem z_upd0 (k : Nat) : upd (fun _ => 0) k 0 = (fun _ => 0) := by
  funext j
  simp [upd]
section ZP
variable {p : Program} {l : Launch} {e : Env} {R : Room} {s : State} {m : MethodId} {args : Array Value} {below : List Frame} {meth : Method} {c : Code} {H : Heap} {locs : List Loc} {cells slots : Nat} {Q : State → Prop}
variable {cc : ByteArray} {pc : Nat} {ls : Array Slot} {rest : List Value} {G : zGT} {A : Nat → Prop} {a : Nat} {ws : va_W} {own : String} {nL : Nat}
/-- what a walk stands on -/
def zE (p : Program) (s : State) (m : MethodId) (c : Code) (args : Array Value) (G : zGT) (own : String) (cc : ByteArray) (nL : Nat) (A : Nat → Prop) : Prop :=
  (p.tables.exec = Jvm.exec ∧ c.code = cc ∧ c.maxLocals = nL ∧ s.vm.findClass own = some m.cls ∧ ∀ w ∈ zT, w.before args s = true) ∧ zK G s ∧ ∀ q, s.heap.size ≤ q → A q
theorem zE.x (E : zE p s m c args G own cc nL A) : p.tables.exec = Jvm.exec := E.1.1
theorem zE.b (E : zE p s m c args G own cc nL A) : c.code = cc := E.1.2.1
theorem zE.w (E : zE p s m c args G own cc nL A) {w : Cond} (h : w ∈ zT) : w.before args s = true := E.1.2.2.2.2 w h
theorem zE.ow (E : zE p s m c args G own cc nL A) : s.vm.findClass own = some m.cls := E.1.2.2.2.1
theorem zE.k (E : zE p s m c args G own cc nL A) : va_K G.1 vwCl (zTy G) s := E.2.1.1
theorem z_topi {x : Int32} (y : Int32) (h : x = y) (k : W p l e R s m args below meth c H locs cells slots Q (F0 m pc ls (.int y :: rest))) : W p l e R s m args below meth c H locs cells slots Q (F0 m pc ls (.int x :: rest)) := h ▸ k
theorem z_topl {x : Int64} (y : Int64) (h : x = y) (k : W p l e R s m args below meth c H locs cells slots Q (F0 m pc ls (.long y :: rest))) : W p l e R s m args below meth c H locs cells slots Q (F0 m pc ls (.long x :: rest)) := h ▸ k
theorem z_topq {x : Option Nat} (y : Nat) (h : x = some y) (k : W p l e R s m args below meth c H locs cells slots Q (F0 m pc ls (.ref y :: rest))) : W p l e R s m args below meth c H locs cells slots Q (F0 m pc ls (va_rf x :: rest)) := by
  subst h
  exact k
theorem z_get {C : String} {T : u_T} {N ci index : Nat} (E : zE p s m c args G own cc nL A) (B : zB G A s.heap ws H locs) (hin : ∀ w ∈ u_ws C T N, w ∈ zT) (hc : vwCl[ci]? = some (C, T, N)) (k : Nat) (hk : k < N) (hlink : Cond.fieldLink own index (T k).1 (T k).2.1 (T k).2.2.1 ∈ zT) (q0 : Nat) {fs : List Value} (he : ws[q0]? = some (a, .inr (ci, fs))) {v : Value} (hv : fs[k]? = some v) (hdg : decode cc pc = .ok (.getfield index, 3))
    (kk : W p l e R s m args below meth c H locs cells slots Q (F0 m (pc + 3) ls (v :: rest))) : W p l e R s m args below meth c H locs cells slots Q (F0 m pc ls (.ref a :: rest)) :=
  va_get E.x E.b E.1.2.2.2.2 hin E.ow E.k B.1 q0 he hc k hk (E.w hlink) (fun _ h => h) hv hdg kk
theorem z_put {C : String} {T : u_T} {N ci index : Nat} (E : zE p s m c args G own cc nL A) (B : zB G A s.heap ws H locs) (hin : ∀ w ∈ u_ws C T N, w ∈ zT) (ty0 : Nat → FieldType) (hty : ∀ k, k < N → parseFieldDescriptor (T k).2.2.1 = some (ty0 k)) (hnm : ∀ a, a < N → ∀ b, b < N → a ≠ b → (T a).2.1 ≠ (T b).2.1) (hc : vwCl[ci]? = some (C, T, N)) (k : Nat) (hk : k < N) (hfin : (T k).2.2.2 = false) {ty : FieldType} (hd : parseFieldDescriptor (T k).2.2.1 = some ty) (hlink : Cond.fieldLink own index (T k).1 (T k).2.1 (T k).2.2.1 ∈ zT) (q0 : Nat) {fs : List Value} (he : ws[q0]? = some (a, .inr (ci, fs))) (hl : k < fs.length) {v : Value} (hn : narrow ty v = v) (hfit : fits ty v = true) (hdg : decode cc pc = .ok (.putfield index, 3))
    (kk : ∀ (H1 : Heap) (locs1 : List Loc), zB G A s.heap (ws.set q0 (a, .inr (ci, fs.set k v))) H1 locs1 → W p l e R s m args below meth c H1 locs1 cells slots Q (F0 m (pc + 3) ls rest)) : W p l e R s m args below meth c H locs cells slots Q (F0 m pc ls (v :: .ref a :: rest)) :=
  va_put E.x E.b E.1.2.2.2.2 hin ty0 hty hnm E.ow E.k B.1 B.2.1 B.2.2 q0 he hc k hk (E.w hlink) (fun _ h => h) hfin hd hn hfit hl hdg (fun H1 locs1 h1 h2 h3 => kk H1 locs1 ⟨h1, h2, h3⟩)
theorem z_putF {C : String} {T : u_T} {N ci index : Nat} (E : zE p s m c args G own cc nL A) (B : zB G A s.heap ws H locs) (hin : ∀ w ∈ u_ws C T N, w ∈ zT) (ty0 : Nat → FieldType) (hty : ∀ k, k < N → parseFieldDescriptor (T k).2.2.1 = some (ty0 k)) (hnm : ∀ a, a < N → ∀ b, b < N → a ≠ b → (T a).2.1 ≠ (T b).2.1) (hc : vwCl[ci]? = some (C, T, N)) (k : Nat) (hk : k < N) (hfin : (T k).2.2.2 = true) {ty : FieldType} (hd : parseFieldDescriptor (T k).2.2.1 = some ty) (hlink : Cond.fieldLink own index (T k).1 (T k).2.1 (T k).2.2.1 ∈ zT) (hdecl : (T k).1 = own) (hin2 : meth.name = "<init>") (q0 : Nat) {fs : List Value} (he : ws[q0]? = some (a, .inr (ci, fs))) (hl : k < fs.length) {v : Value} (hn : narrow ty v = v) (hfit : fits ty v = true) (hdg : decode cc pc = .ok (.putfield index, 3))
    (kk : ∀ (H1 : Heap) (locs1 : List Loc), zB G A s.heap (ws.set q0 (a, .inr (ci, fs.set k v))) H1 locs1 → W p l e R s m args below meth c H1 locs1 cells slots Q (F0 m (pc + 3) ls rest)) : W p l e R s m args below meth c H locs cells slots Q (F0 m pc ls (v :: .ref a :: rest)) :=
  va_putF E.x E.b E.1.2.2.2.2 hin ty0 hty hnm E.ow E.k B.1 B.2.1 B.2.2 q0 he hc k hk (E.w hlink) (fun _ h => h) hfin hin2 hdecl hd hn hfit hl hdg (fun H1 locs1 h1 h2 h3 => kk H1 locs1 ⟨h1, h2, h3⟩)
theorem z_iald (E : zE p s m c args G own cc nL A) (B : zB G A s.heap ws H locs) (q0 : Nat) {n : Nat} {f : Nat → Int32} (ha : ws[q0]? = some (zi G a n f)) {i : Int32} (hin : vp_in i n) (hdg : decode cc pc = .ok (.iaload, 1))
    (kk : W p l e R s m args below meth c H locs cells slots Q (F0 m (pc + 1) ls (.int (f i.toNatClampNeg) :: rest))) : W p l e R s m args below meth c H locs cells slots Q (F0 m pc ls (.int i :: .ref a :: rest)) :=
  va_iald E.x E.b E.k B.1 q0 1 ha rfl hin hdg kk
theorem z_bald (E : zE p s m c args G own cc nL A) (B : zB G A s.heap ws H locs) (q0 : Nat) {n : Nat} {f : Nat → Int32} (ha : ws[q0]? = some (zb G a n f)) {i : Int32} (hin : vp_in i n) (hdg : decode cc pc = .ok (.baload, 1))
    (kk : W p l e R s m args below meth c H locs cells slots Q (F0 m (pc + 1) ls (.int (f i.toNatClampNeg) :: rest))) : W p l e R s m args below meth c H locs cells slots Q (F0 m pc ls (.int i :: .ref a :: rest)) :=
  va_bald E.x E.b E.k B.1 q0 0 ha rfl hin hdg kk
theorem z_zald (E : zE p s m c args G own cc nL A) (B : zB G A s.heap ws H locs) (q0 : Nat) {n : Nat} {f : Nat → Int32} (ha : ws[q0]? = some (zz G a n f)) {i : Int32} (hin : vp_in i n) (hdg : decode cc pc = .ok (.baload, 1))
    (kk : W p l e R s m args below meth c H locs cells slots Q (F0 m (pc + 1) ls (.int (f i.toNatClampNeg) :: rest))) : W p l e R s m args below meth c H locs cells slots Q (F0 m pc ls (.int i :: .ref a :: rest)) :=
  va_zald E.x E.b E.k B.1 q0 3 ha rfl hin hdg kk
theorem z_lald (E : zE p s m c args G own cc nL A) (B : zB G A s.heap ws H locs) (q0 : Nat) {n : Nat} {f : Nat → Int64} (ha : ws[q0]? = some (zj G a n f)) {i : Int32} (hin : vp_in i n) (hdg : decode cc pc = .ok (.laload, 1))
    (kk : W p l e R s m args below meth c H locs cells slots Q (F0 m (pc + 1) ls (.long (f i.toNatClampNeg) :: rest))) : W p l e R s m args below meth c H locs cells slots Q (F0 m pc ls (.int i :: .ref a :: rest)) :=
  va_lald E.x E.b E.k B.1 q0 2 ha rfl hin hdg kk
theorem z_aald (E : zE p s m c args G own cc nL A) (B : zB G A s.heap ws H locs) (q0 : Nat) {n : Nat} {f : Nat → Option Nat} (ha : ws[q0]? = some (zc G a n f)) {i : Int32} (hin : vp_in i n) (hdg : decode cc pc = .ok (.aaload, 1))
    (kk : W p l e R s m args below meth c H locs cells slots Q (F0 m (pc + 1) ls (va_rf (f i.toNatClampNeg) :: rest))) : W p l e R s m args below meth c H locs cells slots Q (F0 m pc ls (.int i :: .ref a :: rest)) :=
  va_aldq E.x E.b E.k B.1 q0 4 ha rfl hin hdg kk
theorem z_iast (E : zE p s m c args G own cc nL A) (B : zB G A s.heap ws H locs) (q0 : Nat) {n : Nat} {f : Nat → Int32} (ha : ws[q0]? = some (zi G a n f)) {i x : Int32} (hin : vp_in i n) (hdg : decode cc pc = .ok (.iastore, 1))
    (kk : ∀ (H1 : Heap) (locs1 : List Loc), zB G A s.heap (ws.set q0 (zi G a n (upd f i.toNatClampNeg x))) H1 locs1 → W p l e R s m args below meth c H1 locs1 cells slots Q (F0 m (pc + 1) ls rest)) : W p l e R s m args below meth c H locs cells slots Q (F0 m pc ls (.int x :: .int i :: .ref a :: rest)) :=
  va_iast E.x E.b E.k B.1 B.2.1 B.2.2 q0 1 ha rfl hin hdg (fun H1 locs1 h1 h2 h3 => kk H1 locs1 ⟨h1, h2, h3⟩)
theorem z_bast (E : zE p s m c args G own cc nL A) (B : zB G A s.heap ws H locs) (q0 : Nat) {n : Nat} {f : Nat → Int32} (ha : ws[q0]? = some (zb G a n f)) {i x : Int32} (hin : vp_in i n) (hdg : decode cc pc = .ok (.bastore, 1))
    (kk : ∀ (H1 : Heap) (locs1 : List Loc) (g : Nat → Int32), zB G A s.heap (ws.set q0 (zb G a n g)) H1 locs1 → W p l e R s m args below meth c H1 locs1 cells slots Q (F0 m (pc + 1) ls rest)) : W p l e R s m args below meth c H locs cells slots Q (F0 m pc ls (.int x :: .int i :: .ref a :: rest)) :=
  va_bast E.x E.b E.k B.1 B.2.1 B.2.2 q0 0 ha rfl hin hdg (fun H1 locs1 h1 h2 h3 => kk H1 locs1 _ ⟨h1, h2, h3⟩)
theorem z_zast (E : zE p s m c args G own cc nL A) (B : zB G A s.heap ws H locs) (q0 : Nat) {n : Nat} {f : Nat → Int32} (ha : ws[q0]? = some (zz G a n f)) {i x : Int32} (hin : vp_in i n) (hdg : decode cc pc = .ok (.bastore, 1))
    (kk : ∀ (H1 : Heap) (locs1 : List Loc), zB G A s.heap (ws.set q0 (zz G a n (upd f i.toNatClampNeg (vp_nar .boolean x)))) H1 locs1 → W p l e R s m args below meth c H1 locs1 cells slots Q (F0 m (pc + 1) ls rest)) : W p l e R s m args below meth c H locs cells slots Q (F0 m pc ls (.int x :: .int i :: .ref a :: rest)) :=
  va_zast E.x E.b E.k B.1 B.2.1 B.2.2 q0 3 ha rfl hin hdg (fun H1 locs1 h1 h2 h3 => kk H1 locs1 ⟨h1, h2, h3⟩)
theorem z_last (E : zE p s m c args G own cc nL A) (B : zB G A s.heap ws H locs) (q0 : Nat) {n : Nat} {f : Nat → Int64} (ha : ws[q0]? = some (zj G a n f)) {i : Int32} {x : Int64} (hin : vp_in i n) (hdg : decode cc pc = .ok (.lastore, 1))
    (kk : ∀ (H1 : Heap) (locs1 : List Loc) (g : Nat → Int64), zB G A s.heap (ws.set q0 (zj G a n g)) H1 locs1 → W p l e R s m args below meth c H1 locs1 cells slots Q (F0 m (pc + 1) ls rest)) : W p l e R s m args below meth c H locs cells slots Q (F0 m pc ls (.long x :: .int i :: .ref a :: rest)) :=
  va_last E.x E.b E.k B.1 B.2.1 B.2.2 q0 2 ha rfl hin hdg (fun H1 locs1 h1 h2 h3 => kk H1 locs1 _ ⟨h1, h2, h3⟩)
theorem z_aast (E : zE p s m c args G own cc nL A) (B : zB G A s.heap ws H locs) (q0 qk : Nat) {n v : Nat} {vs : List Value} {f : Nat → Option Nat} (ha : ws[q0]? = some (zc G a n f)) (hv : ws[qk]? = some (zo v 0 vs)) {i : Int32} (hin : vp_in i n) (hdg : decode cc pc = .ok (.aastore, 1))
    (kk : ∀ (H1 : Heap) (locs1 : List Loc), zB G A s.heap (ws.set q0 (zc G a n (va_up f i.toNatClampNeg (some v)))) H1 locs1 → W p l e R s m args below meth c H1 locs1 cells slots Q (F0 m (pc + 1) ls rest)) : W p l e R s m args below meth c H locs cells slots Q (F0 m pc ls (.ref v :: .int i :: .ref a :: rest)) :=
  va_astq E.x E.b E.k B.1 B.2.1 B.2.2 q0 4 qk 0 (r := (RX0, TX0, 2)) ha rfl hv rfl hin hdg (fun H1 locs1 h1 h2 h3 => kk H1 locs1 ⟨h1, h2, h3⟩)
theorem z_ilen (E : zE p s m c args G own cc nL A) (B : zB G A s.heap ws H locs) (q0 : Nat) {n : Nat} {f : Nat → Int32} (ha : ws[q0]? = some (zi G a n f)) {v : Int32} (hv : Int32.ofNat n = v) (hdg : decode cc pc = .ok (.arraylength, 1))
    (kk : W p l e R s m args below meth c H locs cells slots Q (F0 m (pc + 1) ls (.int v :: rest))) : W p l e R s m args below meth c H locs cells slots Q (F0 m pc ls (.ref a :: rest)) :=
  va_alen E.x E.b E.k B.1 q0 1 ha rfl hv hdg kk
theorem z_same {G : zGT} {s : State} {k : Nat} {ty : FieldType} {cA c0 : ClassId} (h0 : va_K G.1 vwCl (zTy G) s) (h1 : va_K G.1 vwCl (zTy G ++ [(cA, ty)]) s) (hk : (zTy G)[k]? = some (c0, ty)) (hne : ∀ q cB, va_RA q cB ty → q.vm.findClass ("[" ++ ty.toString) = some cB) : c0 = cA := by
  have a1 := hne _ _ (h0.2 k _ hk).2
  have a2 := hne _ _ (h1.2 5 (cA, ty) rfl).2
  exact Option.some.inj (a1.symm.trans a2)
theorem z_newI (E : zE p s m c args G own cc nL A) (B : zB G A s.heap ws H locs) (harr : Cond.arrayClass .int ∈ zT) {n : Int32} {N' : Nat} (hn : ¬ n < 0) (hN : n.toNatClampNeg = N') (hbytes : N' * 4 ≤ 536870912) (hcells : cells + 1 ≤ R.cells) (hslots : slots + N' ≤ R.slots) (hdg : decode cc pc = .ok (.newarray .int, 2))
    (kk : ∀ (q : Nat) (H1 : Heap), zB G A s.heap (ws ++ [zi G q N' (fun _ => 0)]) H1 locs → W p l e R s m args below meth c H1 locs (cells + 1) (slots + N') Q (F0 m (pc + 2) ls (.ref q :: rest))) : W p l e R s m args below meth c H locs cells slots Q (F0 m pc ls (.int n :: rest)) := by
  refine va_newa (atype := .int) E.x E.b (E.w harr) (ty := .int) rfl E.k B.1 B.2.1 B.2.2 E.2.2 (a0 := (N', .inl (fun _ => 0))) (fun cA => rfl) hn hN hbytes hcells hslots hdg (fun q cA H1 hK hP hD hS => ?_)
  have h := z_same E.k hK (k := 1) (c0 := G.2 1) rfl (fun _ _ h => h)
  subst h
  exact kk q H1 ⟨hP, hD, hS⟩
theorem z_newB (E : zE p s m c args G own cc nL A) (B : zB G A s.heap ws H locs) (harr : Cond.arrayClass .byte ∈ zT) {n : Int32} {N' : Nat} (hn : ¬ n < 0) (hN : n.toNatClampNeg = N') (hbytes : N' * 1 ≤ 536870912) (hcells : cells + 1 ≤ R.cells) (hslots : slots + N' ≤ R.slots) (hdg : decode cc pc = .ok (.newarray .byte, 2))
    (kk : ∀ (q : Nat) (H1 : Heap), zB G A s.heap (ws ++ [zb G q N' (fun _ => 0)]) H1 locs → W p l e R s m args below meth c H1 locs (cells + 1) (slots + N') Q (F0 m (pc + 2) ls (.ref q :: rest))) : W p l e R s m args below meth c H locs cells slots Q (F0 m pc ls (.int n :: rest)) := by
  refine va_newa (atype := .byte) E.x E.b (E.w harr) (ty := .byte) rfl E.k B.1 B.2.1 B.2.2 E.2.2 (a0 := (N', .inl (fun _ => 0))) (fun cA => rfl) hn hN hbytes hcells hslots hdg (fun q cA H1 hK hP hD hS => ?_)
  have h := z_same E.k hK (k := 0) (c0 := G.2 0) rfl (fun _ _ h => h)
  subst h
  exact kk q H1 ⟨hP, hD, hS⟩
theorem z_newZ (E : zE p s m c args G own cc nL A) (B : zB G A s.heap ws H locs) (harr : Cond.arrayClass .boolean ∈ zT) {n : Int32} {N' : Nat} (hn : ¬ n < 0) (hN : n.toNatClampNeg = N') (hbytes : N' * 1 ≤ 536870912) (hcells : cells + 1 ≤ R.cells) (hslots : slots + N' ≤ R.slots) (hdg : decode cc pc = .ok (.newarray .boolean, 2))
    (kk : ∀ (q : Nat) (H1 : Heap), zB G A s.heap (ws ++ [zz G q N' (fun _ => 0)]) H1 locs → W p l e R s m args below meth c H1 locs (cells + 1) (slots + N') Q (F0 m (pc + 2) ls (.ref q :: rest))) : W p l e R s m args below meth c H locs cells slots Q (F0 m pc ls (.int n :: rest)) := by
  refine va_newa (atype := .boolean) E.x E.b (E.w harr) (ty := .boolean) rfl E.k B.1 B.2.1 B.2.2 E.2.2 (a0 := (N', .inl (fun _ => 0))) (fun cA => rfl) hn hN hbytes hcells hslots hdg (fun q cA H1 hK hP hD hS => ?_)
  have h := z_same E.k hK (k := 3) (c0 := G.2 3) rfl (fun _ _ h => h)
  subst h
  exact kk q H1 ⟨hP, hD, hS⟩
theorem z_newJ (E : zE p s m c args G own cc nL A) (B : zB G A s.heap ws H locs) (harr : Cond.arrayClass .long ∈ zT) {n : Int32} {N' : Nat} (hn : ¬ n < 0) (hN : n.toNatClampNeg = N') (hbytes : N' * 8 ≤ 536870912) (hcells : cells + 1 ≤ R.cells) (hslots : slots + N' ≤ R.slots) (hdg : decode cc pc = .ok (.newarray .long, 2))
    (kk : ∀ (q : Nat) (H1 : Heap), zB G A s.heap (ws ++ [zj G q N' (fun _ => 0)]) H1 locs → W p l e R s m args below meth c H1 locs (cells + 1) (slots + N') Q (F0 m (pc + 2) ls (.ref q :: rest))) : W p l e R s m args below meth c H locs cells slots Q (F0 m pc ls (.int n :: rest)) := by
  refine va_newa (atype := .long) E.x E.b (E.w harr) (ty := .long) rfl E.k B.1 B.2.1 B.2.2 E.2.2 (a0 := (N', .inr (.inl (fun _ => 0)))) (fun cA => rfl) hn hN hbytes hcells hslots hdg (fun q cA H1 hK hP hD hS => ?_)
  have h := z_same E.k hK (k := 2) (c0 := G.2 2) rfl (fun _ _ h => h)
  subst h
  exact kk q H1 ⟨hP, hD, hS⟩
theorem z_newC {index : Nat} (E : zE p s m c args G own cc nL A) (B : zB G A s.heap ws H locs) (hcl : Cond.classLink own index RX0 ∈ zT) {n : Int32} {N' : Nat} (hn : ¬ n < 0) (hN : n.toNatClampNeg = N') (hbytes : N' * 4 ≤ 536870912) (hcells : cells + 1 ≤ R.cells) (hslots : slots + N' ≤ R.slots) (hdg : decode cc pc = .ok (.anewarray index, 3))
    (kk : ∀ (q : Nat) (H1 : Heap), zB G A s.heap (ws ++ [zc G q N' (fun _ => none)]) H1 locs → W p l e R s m args below meth c H1 locs (cells + 1) (slots + N') Q (F0 m (pc + 3) ls (.ref q :: rest))) : W p l e R s m args below meth c H locs cells slots Q (F0 m pc ls (.int n :: rest)) := by
  refine va_newq E.x E.b E.ow (E.w hcl) E.2.1.2.2.2.2.2.2.2.2.1 E.k B.1 B.2.1 B.2.2 E.2.2 hn hN hbytes hcells hslots hdg (fun q cA H1 hK hP hD hS => ?_)
  have h := z_same E.k hK (k := 4) (c0 := G.2 4) rfl (fun _ _ h => by obtain ⟨_, _, _, _, _, h⟩ := h; exact h)
  subst h
  exact kk q H1 ⟨hP, hD, hS⟩
theorem z_new {C : String} {T : u_T} {N ci index : Nat} (E : zE p s m c args G own cc nL A) (B : zB G A s.heap ws H locs) (hin : ∀ w ∈ u_ws C T N, w ∈ zT) (ty : Nat → FieldType) (hty : ∀ k, k < N → parseFieldDescriptor (T k).2.2.1 = some (ty k)) (hcl : Cond.classLink own index C ∈ zT) (hinst : Cond.instantiable C N ∈ zT) (hini : Cond.initialized C ∈ zT) (hc : vwCl[ci]? = some (C, T, N)) {fs : List Value} (hfs : ∀ j, j < N → defaultValue (ty j) = vp_V fs j) (hcells : cells + 1 ≤ R.cells) (hslots : slots + N ≤ R.slots) (hdg : decode cc pc = .ok (.new index, 3))
    (kk : ∀ (q : Nat) (H1 : Heap), zB G A s.heap (ws ++ [zo q ci fs]) H1 locs → W p l e R s m args below meth c H1 locs (cells + 1) (slots + N) Q (F0 m (pc + 3) ls (.ref q :: rest))) : W p l e R s m args below meth c H locs cells slots Q (F0 m pc ls rest) :=
  va_new E.x E.b E.1.2.2.2.2 hin ty hty E.ow (E.w hcl) (E.w hinst) (E.w hini) E.k B.1 B.2.1 B.2.2 E.2.2 hc hfs hcells hslots hdg (fun q H1 h1 h2 h3 => kk q H1 ⟨h1, h2, h3⟩)
end ZP
