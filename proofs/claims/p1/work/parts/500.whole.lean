theorem z_lenSmall {args : Array Value} {s : State} {t : Term} {a : Nat} {cell : Cell} {v : Value} (ht : t.eval args s none [] s = some (.ref a)) (h2 : s.arrayAt? a = some cell) (hl : (Term.length t).eval args s none [] s = some v) : cell.slots.size < 2 ^ 31 := by
  simp only [Term.eval, ht, h2, Option.bind_eq_bind, Option.bind_some] at hl
  by_cases hlt : cell.slots.size < 2147483648
  · exact hlt
  · simp [hlt] at hl
set_option maxHeartbeats 4000000 in
set_option maxRecDepth 100000 in
theorem z_prices {s : State} {b : Nat} {G : zGT} (hI : s.vm.findClass "[I" = some (G.2 1)) (hgv : (Jvm.Cond.and given_1 narrow_1).before #[Value.ref b] s = true) (hlay : (Cond.laysStatic "BackLogic" "FIRST_PRICES" "[I").before #[Value.ref b] s = true) (hini : (Cond.initialized "BackLogic").before #[Value.ref b] s = true) : ∃ tp : Nat, zS G tp (fun q => s.heap.size ≤ q) s := by
  have hs := flat_of_before _ hgv
  have hex : (Cond.exactly (.static "BackLogic" "FIRST_PRICES" "[I") "[I").before #[Value.ref b] s = true := hs _ (by decide +kernel)
  have hle : (Cond.eq (.length (.static "BackLogic" "FIRST_PRICES" "[I")) (.int 4)).before #[Value.ref b] s = true := hs _ (by decide +kernel)
  have he0 : (Cond.eq (.elem (.static "BackLogic" "FIRST_PRICES" "[I") (.int 0)) (.int 1)).before #[Value.ref b] s = true := hs _ (by decide +kernel)
  have he1 : (Cond.eq (.elem (.static "BackLogic" "FIRST_PRICES" "[I") (.int 1)) (.int 1)).before #[Value.ref b] s = true := hs _ (by decide +kernel)
  have he2 : (Cond.eq (.elem (.static "BackLogic" "FIRST_PRICES" "[I") (.int 2)) (.int 5)).before #[Value.ref b] s = true := hs _ (by decide +kernel)
  have he3 : (Cond.eq (.elem (.static "BackLogic" "FIRST_PRICES" "[I") (.int 3)) (.int 13)).before #[Value.ref b] s = true := hs _ (by decide +kernel)
  obtain ⟨tp, cC, cell, kC, hev, hfc, hcell, hkC, hst, hcls, -⟩ := Cond.exactly_spec hex
  have hcI : cC = G.2 1 := Option.some.inj (hfc.symm.trans hI)
  have hl := va_eqt hle
  obtain ⟨a2, cell2, h1, h2, h3⟩ := Term.length_spec hl
  cases hev.symm.trans h1
  obtain ⟨hc2, hkn, -, -⟩ := State.arrayAt?_spec h2
  cases hcell.symm.trans hc2
  have hsz : cell.slots.size < 2 ^ 31 := z_lenSmall hev h2 hl
  have h4 : cell.slots.size = 4 := by
    have e : (Int32.ofNat 4) = Int32.ofNat cell.slots.size := Value.int.inj h3
    have e2 := congrArg Int32.toInt e
    rw [Int32.toInt_ofNat_small hsz, Int32.toInt_ofNat_small (by decide)] at e2
    omega
  have key : ∀ (j : Nat) (v : Value), j < 4 → (Term.elem (.static "BackLogic" "FIRST_PRICES" "[I") (.int (Int32.ofNat j))).eval #[Value.ref b] s none [] s = some v → cell.slots[j]? = some v := by
    intro j v hj hv
    obtain ⟨a, i, cell3, q1, q2, q3, q4, q5⟩ := Term.elem_spec hv
    cases hev.symm.trans q1
    cases h2.symm.trans q3
    have hi : i = Int32.ofNat j := by
      have e : (Term.int (Int32.ofNat j)).eval #[Value.ref b] s none [] s = some (.int (Int32.ofNat j)) := rfl
      cases q2.symm.trans e
      rfl
    have hc : i.toNatClampNeg = j := by rw [hi]; exact Int32.toNatClampNeg_ofNat_of_lt (Nat.lt_trans hj (by decide))
    rw [hc] at q5
    exact q5
  have k0 := key 0 (.int 1) (by decide) (va_eqt he0)
  have k1 := key 1 (.int 1) (by decide) (va_eqt he1)
  have k2 := key 2 (.int 5) (by decide) (va_eqt he2)
  have k3 := key 3 (.int 13) (by decide) (va_eqt he3)
  have hslots : cell.slots = (vp_cell (G.2 1) (4, .inl zPr)).slots := by
    apply Array.ext_getElem?
    intro i
    by_cases hi : i < 4
    · rw [z_prAt hi]
      rcases (show i = 0 ∨ i = 1 ∨ i = 2 ∨ i = 3 by omega) with rfl | rfl | rfl | rfl
      · exact k0
      · exact k1
      · exact k2
      · exact k3
    · rw [Array.getElem?_eq_none (by omega), Array.getElem?_eq_none (by rw [z_prSize]; omega)]
  have hlt : tp < s.heap.size := (Array.getElem?_eq_some_iff.mp hcell).1
  exact ⟨tp, va_Zof hlay hini hev (fun a h => Nat.not_le.mpr h), ⟨cell, hcell, fun k h => (by rw [h] at hst; cases hst), hkn, by rw [hcls, hcI], hslots⟩, Nat.not_le.mpr hlt⟩
set_option maxHeartbeats 4000000 in
set_option maxRecDepth 100000 in
theorem whole_start {p : Program} {e : Env} {s : State} {m : MethodId} {below : List Frame} {meth : Method} {c : Code} (l : Launch) (hflags : l.flags = flags0) {b L : Nat} {xs : Nat → Int32} (hL : L ≤ 6) (C0 : lw_At p s m meth c b L xs) : W p l e room_1 s m #[Value.ref b] below meth c s.heap [] 0 0 (lw_Z below #[Value.ref b] s) (entryFrame m ([Value.ref b] : List Value).toArray 4) := by
  obtain ⟨hx, hb, hr, hml, hown, hts, hX, hbl, hlocks, hgv⟩ := C0
  have htz : ∀ w ∈ zT, w.before #[Value.ref b] s = true := fun w h => hts w (List.mem_filter.mp h).1
  obtain ⟨c0, i0, k0⟩ := u_known (C := RX0) (T := TX0) (N := 2) (n := 2) htz z_inX0 (htz _ t_240)
  obtain ⟨c1, i1, k1⟩ := u_known (C := RX1) (T := TX1) (N := 3) (n := 3) htz z_inX1 (htz _ t_282)
  obtain ⟨c2, i2, k2⟩ := u_known (C := RX3) (T := TX3) (N := 6) (n := 6) htz z_inX3 (htz _ t_196)
  obtain ⟨c3, i3, k3⟩ := u_known (C := RX4) (T := TX4) (N := 3) (n := 3) htz z_inX4 (htz _ t_262)
  obtain ⟨c4, i4, k4⟩ := u_known (C := RX5) (T := TX5) (N := 3) (n := 3) htz z_inX5 (htz _ t_222)
  obtain ⟨c5, i5, k5⟩ := u_known (C := RX7) (T := TX7) (N := 10) (n := 10) htz z_inX7 (htz _ t_849)
  obtain ⟨c6, i6, k6⟩ := u_known (C := RX8) (T := TX8) (N := 10) (n := 10) htz z_inX8 (htz _ t_151)
  obtain ⟨c7, i7, k7⟩ := u_known (C := RX9) (T := TX9) (N := 4) (n := 4) htz z_inX9 (htz _ t_302)
  obtain ⟨c8, i8, k8⟩ := u_known (C := RX10) (T := TX10) (N := 7) (n := 7) htz z_inX10 (htz _ t_323)
  obtain ⟨c9, i9, k9⟩ := u_known (C := RX11) (T := TX11) (N := 16) (n := 16) htz z_inX11 (htz _ t_143)
  obtain ⟨c10, i10, k10⟩ := u_known (C := RX12) (T := TX12) (N := 56) (n := 56) htz z_inX12 (htz _ t_1180)
  obtain ⟨dC, dI, hKc⟩ : ∃ (dC : Nat → ClassId) (dI : Nat → Nat → Nat), ∀ (k : Nat) (q : vw_C), vwCl[k]? = some q → u_Kn s q.1 q.2.1 q.2.2 (dC k) (dI k) := by
    refine ⟨fun k => if k = 0 then c0 else if k = 1 then c1 else if k = 2 then c2 else if k = 3 then c3 else if k = 4 then c4 else if k = 5 then c5 else if k = 6 then c6 else if k = 7 then c7 else if k = 8 then c8 else if k = 9 then c9 else c10, fun k => if k = 0 then i0 else if k = 1 then i1 else if k = 2 then i2 else if k = 3 then i3 else if k = 4 then i4 else if k = 5 then i5 else if k = 6 then i6 else if k = 7 then i7 else if k = 8 then i8 else if k = 9 then i9 else i10, ?_⟩
    intro k q hq
    match k, hq with
    | 0, hq => cases hq; exact k0
    | 1, hq => cases hq; exact k1
    | 2, hq => cases hq; exact k2
    | 3, hq => cases hq; exact k3
    | 4, hq => cases hq; exact k4
    | 5, hq => cases hq; exact k5
    | 6, hq => cases hq; exact k6
    | 7, hq => cases hq; exact k7
    | 8, hq => cases hq; exact k8
    | 9, hq => cases hq; exact k9
    | 10, hq => cases hq; exact k10
    | k + 11, hq => simp [vwCl] at hq
  obtain ⟨d0, e0, p0, x0, y0, z0⟩ := Cond.arrayClass_spec (htz _ t_192)
  obtain ⟨d1, e1, p1, x1, y1, z1⟩ := Cond.arrayClass_spec (htz _ t_193)
  obtain ⟨d2, e2, p2, x2, y2, z2⟩ := Cond.arrayClass_spec (htz _ t_194)
  obtain ⟨d3, e3, p3, x3, y3, z3⟩ := Cond.arrayClass_spec (htz _ t_280)
  have hao : (Cond.arrayOver (.object "BackLogic$Cascade")).before #[Value.ref b] s = true := hts _ (List.mem_of_getElem? (i := 260) (by decide +kernel))
  obtain ⟨p4, d4, e4, x4, -, y4, z4, w4⟩ := Cond.arrayOver_spec hao
  let G : zGT := ((dC, dI), fun k => if k = 0 then d0 else if k = 1 then d1 else if k = 2 then d2 else if k = 3 then d3 else d4)
  have hK : va_K G.1 vwCl (zTy G) s := by
    refine ⟨hKc, fun k q h => ?_⟩
    match k, h with
    | 0, h => cases h; exact ⟨fun _ _ => ⟨fun _ h => (by cases h), e0, y0, p0, z0⟩, x0⟩
    | 1, h => cases h; exact ⟨fun _ _ => ⟨fun _ h => (by cases h), e1, y1, p1, z1⟩, x1⟩
    | 2, h => cases h; exact ⟨fun _ _ => ⟨fun _ h => (by cases h), e2, y2, p2, z2⟩, x2⟩
    | 3, h => cases h; exact ⟨fun _ _ => ⟨fun _ h => (by cases h), e3, y3, p3, z3⟩, x3⟩
    | 4, h => cases h; exact ⟨fun _ _ => ⟨fun _ h => (by cases h), e4, y4, p4, z4⟩, e4, p4, y4, z4, x4, w4⟩
    | k + 5, h => simp [zTy] at h
  have hN : zN s := ⟨va_Nw.of (A := #[Value.ref b]) rfl (hts _ (List.mem_of_getElem? (i := 152) (by decide +kernel))), va_Nw.of (A := #[Value.ref b]) rfl (hts _ (List.mem_of_getElem? (i := 197) (by decide +kernel))), va_Nw.of (A := #[Value.ref b]) rfl (hts _ (List.mem_of_getElem? (i := 223) (by decide +kernel))), va_Nw.of (A := #[Value.ref b]) rfl (hts _ (List.mem_of_getElem? (i := 283) (by decide +kernel))), va_Nw.of (A := #[Value.ref b]) rfl (hts _ (List.mem_of_getElem? (i := 303) (by decide +kernel))), va_Nw.of (A := #[Value.ref b]) rfl (hts _ (List.mem_of_getElem? (i := 324) (by decide +kernel))), va_Nw.of (A := #[Value.ref b]) rfl (hts _ (List.mem_of_getElem? (i := 850) (by decide +kernel))), va_AO.of hao, va_Nw.of (A := #[Value.ref b]) rfl (hts _ (List.mem_of_getElem? (i := 367) (by decide +kernel)))⟩
  obtain ⟨tp, hSs⟩ := z_prices (G := G) x1 hgv (hts _ (List.mem_of_getElem? (i := 361) (by decide +kernel))) (htz _ t_122)
  have hl := lv_entry ([.ref b]) (n := 4) (Nat.le_of_ble_eq_true rfl)
  rw [lg_entry_eq]
  exact law_walk (A := fun q => s.heap.size ≤ q) (fun _ h => h) ⟨⟨hx, hb, hml, hown, htz⟩, ⟨hK, hN⟩, fun _ h => h⟩ hSs hr hlocks hbl (Nat.not_le.mpr hbl) hL hX hl ⟨fun k q h => by simp at h, ⟨fun i j p q h => by simp at h, fun k q h => by simp at h⟩, va_S.rf⟩
set_option maxHeartbeats 4000000 in
theorem lw_walk (l : Launch) (hflags : l.flags = flags0) (b : Addr) (xs : List Int32) : MetFree l x (headSpec (Jvm.Cond.code x code maxLocals ret :: tables_1) room_1) (lw_P b xs) (fun _ _ _ _ _ => True) lw_Q := by
  refine MetFree.of_bodyS (code := code) (maxLocals := maxLocals) (ret := ret) (by decide) ?_ ?_
  · intro args s m h hn
    obtain ⟨meth, c, h1, h2, h3, h4, h5, h6, -, -⟩ := Cond.code_spec hn (atoms_spec (ws := Jvm.Cond.code x code maxLocals ret :: tables_1) h _ List.mem_cons_self)
    exact ⟨meth, c, h1, h2, h3, h4, h5, h6⟩
  · intro p e s m args below meth c s₁ B hml0 hP _
    obtain ⟨rfl, hx, hbd, hgv⟩ := hP
    obtain ⟨scr, harrAt, hlist, hof, hsmall⟩ := hx
    obtain ⟨hcb, hkn, -, -⟩ := State.arrayAt?_spec harrAt
    have hown : s.vm.findClass R_law = some m.cls := findClass_of_methodNamed B.named
    have hts0 : ∀ c ∈ (Jvm.Cond.code x code maxLocals ret :: tables_1), c.before #[Value.ref b] s = true := atoms_spec (ws := Jvm.Cond.code x code maxLocals ret :: tables_1) B.pre
    have hts : ∀ w ∈ lw_tbl, w.before #[Value.ref b] s = true := k2_hts_sels lw_privs (fun w hw => hts0 w (List.mem_cons_of_mem _ hw)) lw_privs_ok
    have hml : c.maxLocals = 4 := B.maxLocals_eq (hts0 _ List.mem_cons_self)
    have X₀ : Stand p l e room_1 s m #[Value.ref b] below meth c s₁ [] 0 0 := Stand.of_body B
    have hh0 : s₁.heap = s.heap := by rw [B.state]; rfl
    have hsz : scr.slots.size = xs.length := by rw [← Array.length_toList, hlist, List.length_map]
    have hval : ∀ j : Nat, j < xs.length → scr.slots[j]? = some (.int (xs.getD j 0)) := fun j hj => by
      rw [← Array.getElem?_toList, hlist]
      simp [hj]
    have hbl : b < s.heap.size := (Array.getElem?_eq_some_iff.mp hcb).1
    have hX : va_X b xs.length (fun j => xs.getD j 0) s s.heap := ⟨scr, hcb, hof, hkn, hsz, hval⟩
    have K : W p l e room_1 s m #[Value.ref b] below meth c s₁.heap [] 0 0 (lw_Z below #[Value.ref b] s) (entryFrame m ([Value.ref b] : List Value).toArray 4) := by
      rw [hh0]
      exact whole_start l hflags hbd ⟨B.exec, B.bytes, B.returns, hml, hown, hts, hX, hbl, B.notSynchronized, hgv⟩
    obtain ⟨t, a1, o, b1, b2, b3⟩ := K s₁ rfl X₀
    exact ⟨t, o, a1, b1, b2, b3⟩
theorem lw_pre_spec {args : Array Value} {s : State} (h : (Jvm.Cond.and given_1 narrow_1).before args s = true) (hr : rest_1_c.before args s = true) : ∃ (b : Addr) (xs : List Int32), lw_P b xs args s := by
  have hs := flat_of_before _ h
  have hq := flat_of_before _ hr
  have hc : (Cond.count 1).before args s = true := hs _ (by decide +kernel)
  have harr : (Cond.arrayOf (.arg 0) .int).before args s = true := hs _ (by decide +kernel)
  have hle : (Cond.le (.length (.arg 0)) (.int 6)).before args s = true := hs _ (by decide +kernel)
  have hlen : (Cond.isInt (.length (.arg 0))).before args s = true := hq _ (by decide +kernel)
  have hall : (Cond.all (.arg 0) (.isInt (.elem (.arg 0) (.index 0)))).before args s = true := hq _ (by decide +kernel)
  obtain ⟨b, xs, hb, hx⟩ := State.ints_of_pre rfl harr hlen hall
  have hsm : xs.length < 2 ^ 31 := hx.choose_spec.2.2.2
  have hev : (Term.length (.arg 0)).eval args s none [] s = some (.int xs.length.toInt32) := hx.length_eval hb
  have hv := Cond.le_ints hev (show (Term.int 6).eval args s none [] s = some (.int 6) from rfl)
  have hd : xs.length.toInt32 ≤ 6 := by
    simpa [Cond.before, Cond.holds, hv] using hle
  have hN : xs.length ≤ 6 := (Int32.ofNat_le_ofNat hsm (by decide)).mp (show Int32.ofNat xs.length ≤ Int32.ofNat 6 from hd)
  exact ⟨b, xs, Cond.one_arg hc (show args[0]? = some (.ref b) from hb), hx, hN, h⟩
theorem lw_comes (l : Launch) (hflags : l.flags = flags0) : Comes l x (Jvm.Cond.code x code maxLocals ret :: tables_1) room_1 (fun tb e args s => Calls_1 tb e args s ∧ rest_1 tb e args s ∧ Pre_1 tb e args s)
    (fun _ _ args s o t => lw_Q args s o t) := by
  intro p e ha hc hk s m args below hf hfit hheap happ hpre
  obtain ⟨b, xs, hP⟩ := lw_pre_spec hpre.2.2 hpre.2.1
  obtain ⟨k, o, h1, h2, h3, hQ⟩ := lw_walk l hflags b xs p e ha hc hk s m args below hf ((Spec.applies_iff_loose hf).mp happ).1 hP trivial
  exact ⟨k, o, h1, h2, h3, hQ⟩
theorem lw_frame {s t : State} {o : Outcome} {args : Array Value} (h : Framed s o t [] 600000 7302249) :
    Framed s o t (fieldLocs frame_1_writes args s ++ arrayLocs frame_1_arrays args s ++ staticLocs frame_1_statics s) 600000 7302249 := h
theorem lw_limb (L : Cond) (hL : ∀ (args : Array Value) (s t : State), L.after args s (.returned (some (.int 1))) t = true) :
    ArmFor flags0 classFile x code maxLocals ret World_1 tables_1 room_1 Calls_1 rest_1 Pre_1
      (fun tb e a s o t => postC L tb e a s o t ∧ Framed s o t (fieldLocs frame_1_writes a s ++ arrayLocs frame_1_arrays a s ++ staticLocs frame_1_statics s) 600000 7302249) := by
  intro l hflags _ _ p e ha hc hk s m args below hf hfit hheap happ hpre
  obtain ⟨k, o, h1, h2, h3, rfl, hF⟩ := lw_comes l hflags p e ha hc hk s m args below hf hfit hheap happ hpre
  exact ⟨k, _, h1, h2, h3, hL args s _, lw_frame hF⟩
theorem i_vc : Claimed_1_1 ∧ Claimed_1_2 := ⟨lw_limb limb_1_1 (fun args s t => by simp [limb_1_1, Cond.after, Cond.holds, Cond.value]), lw_limb limb_1_2 (fun args s t => Cond.after_iff.mpr (by
  first | (rw [show limb_1_2 = Cond.eq .result (.int 1) from rfl, Cond.eq_ints (x := 1) (y := 1) rfl rfl]; simp; done) | (simp [limb_1_2, Cond.value, Term.eval]; done)))⟩
