section THROW
variable {p : Program} {l : Launch} {e : Env} {R : Room} {s : State} {m : MethodId} {args : Array Value} {below : List Frame} {meth : Method} {c : Code} {H : Heap} {locs : List Loc} {Q : State → Prop}
variable {cc : ByteArray} {nL : Nat} {g : WG} {A : Nat → Prop} {X : Xt} {wf : Wf} {σ σ' σ1 : Sg} {pc kc ks mc ms : Nat} {ls : Array Slot} {ret : Option FieldType} {rest st : List Value} {z Z : Zt}
theorem exN_ot : ∀ w ∈ Cond.classLink RX11 182 nsN :: Cond.initialized nsN :: exN, vx_ot w = true := by decide +kernel
theorem exI_ot : ∀ w ∈ Cond.classLink RX11 86 "java/lang/IllegalArgumentException" :: Cond.initialized "java/lang/IllegalArgumentException" :: exI, vx_ot w = true := by decide +kernel
theorem bk_thI {is : Nat} {text : String} {Qc : Array Value → State → Outcome → State → Prop} (C0 : Cx p s m args meth c cc nL ret RX11 g A X) (hex : ∀ x ∈ c.exceptionTable.toList, False) (hst : l.stackTraces = false) (hP : va_P g.1 vwCl (wf g σ) H) (hD : va_D A (wf g σ)) (hS : va_S A s.heap H locs) (hl : ls.size = nL) (hm : (is, text) ∈ msgs) (d0 : decode cc pc = .ok (.new 86, 3)) (d3 : decode cc (pc + 3) = .ok (.dup, 1)) (d4 : decode cc (pc + 4) = .ok (.ldc is, 2)) (d6 : decode cc (pc + 6) = .ok (.invokespecial 90, 3)) (d9 : decode cc (pc + 9) = .ok (.athrow, 1))
    (hfr : 5 < R.frames) (hlo : (rest.map fun v => v.category).sum + 82 ≤ R.locals) (hRc : kc + 1 ≤ R.cells) (hRs : ks + 6 ≤ R.slots) (hz : some ((2 : Nat), (0 : Int32), σ) = some z) (hc : kc + 1 ≤ mc) (hs : ks + 6 ≤ ms) : W p l e R s m args below meth c H locs kc ks (vx_MQ below Qc (xT wf g A z) args s mc ms A) (F0 m pc ls rest) := by
  obtain ⟨hx, hb, hr, hml, hown, hts, hK, hlocks, hXX, hA, hXo⟩ := C0
  obtain ⟨-, ⟨hU, hN⟩, hw, hms, -⟩ := hXo.2.2.2 _ _ _ hXX
  obtain ⟨sa, hsa⟩ := hms _ hm
  cases hz
  exact vx_throwS hx hb hst (names := ["java/lang/RuntimeException", "java/lang/Exception"]) (sa := sa) hown (by decide) (by decide) (hts _ wa_216) (hts _ wa_217) hsa (fun w h => hw _ w (List.mem_append_left _ h)) exI_ot hU hN hS (hl.trans hml.symm) d0 d3 d4 d6 d9 (fun x hx => (hex x hx).elim) hfr hlo hRc hRs hlocks (fun t hvm hsz hk => ⟨σ, rfl, ⟨Or.inr ⟨rfl, rfl⟩, va_P.kept hP (fun k q hq => hk q.1 (vx_lt hP hq)), va_K.moved hvm hK, hD⟩, Nat.le_trans hS.1 hsz, fun q h1 h2 => by rw [hk q (Nat.lt_of_lt_of_le h1 hS.1)]; exact hS.2.1 q h1 h2⟩) hS.2.2 hc hs
theorem bk_thIW {is : Nat} {text : String} {Qc : Array Value → State → Outcome → State → Prop} (C0 : Cx p s m args meth c cc nL ret RX11 g A X) (hex : ∀ x ∈ c.exceptionTable.toList, False) (hst : l.stackTraces = false) (hP : va_P g.1 vwCl (wf g σ) H) (hD : va_D A (wf g σ)) (hS : va_S A s.heap H locs) (hl : ls.size = nL) (hm : (is, text) ∈ msgs) (d0 : decode cc pc = .ok (.new 86, 3)) (d3 : decode cc (pc + 3) = .ok (.dup, 1)) (d4 : decode cc (pc + 4) = .ok (.ldc_w is, 3)) (d6 : decode cc (pc + 7) = .ok (.invokespecial 90, 3)) (d9 : decode cc (pc + 10) = .ok (.athrow, 1))
    (hfr : 5 < R.frames) (hlo : (rest.map fun v => v.category).sum + 82 ≤ R.locals) (hRc : kc + 1 ≤ R.cells) (hRs : ks + 6 ≤ R.slots) (hz : some ((2 : Nat), (0 : Int32), σ) = some z) (hc : kc + 1 ≤ mc) (hs : ks + 6 ≤ ms) : W p l e R s m args below meth c H locs kc ks (vx_MQ below Qc (xT wf g A z) args s mc ms A) (F0 m pc ls rest) := by
  obtain ⟨hx, hb, hr, hml, hown, hts, hK, hlocks, hXX, hA, hXo⟩ := C0
  obtain ⟨-, ⟨hU, hN⟩, hw, hms, -⟩ := hXo.2.2.2 _ _ _ hXX
  obtain ⟨sa, hsa⟩ := hms _ hm
  cases hz
  exact vx_throwSW hx hb hst (names := ["java/lang/RuntimeException", "java/lang/Exception"]) (sa := sa) hown (by decide) (by decide) (hts _ wa_216) (hts _ wa_217) hsa (fun w h => hw _ w (List.mem_append_left _ h)) exI_ot hU hN hS (hl.trans hml.symm) d0 d3 d4 d6 d9 (fun x hx => (hex x hx).elim) hfr hlo hRc hRs hlocks (fun t hvm hsz hk => ⟨σ, rfl, ⟨Or.inr ⟨rfl, rfl⟩, va_P.kept hP (fun k q hq => hk q.1 (vx_lt hP hq)), va_K.moved hvm hK, hD⟩, Nat.le_trans hS.1 hsz, fun q h1 h2 => by rw [hk q (Nat.lt_of_lt_of_le h1 hS.1)]; exact hS.2.1 q h1 h2⟩) hS.2.2 hc hs
/-! NoSuchElementException: its constructor's link has another number than the kit's chain takes; the same road with that first link, over the library's laws -/
theorem s13_0 : decode prog_31_method_4_code 0 = .ok (.aload_n 0, 1) := by decide +kernel
theorem s13_1 : decode prog_31_method_4_code 1 = .ok (.aload_n 1, 1) := by decide +kernel
theorem s13_2 : decode prog_31_method_4_code 2 = .ok (.invokespecial 13, 3) := by decide +kernel
theorem s13_5 : decode prog_31_method_4_code 5 = .ok (.return_, 1) := by decide +kernel
theorem exA_1 {w : Cond} (h : w ∈ Bundle.throwableAtoms) : w ∈ exA := List.mem_append_left _ h
theorem exA_2 {w : Cond} (h : w ∈ Bundle.throwableSAtoms) : w ∈ exA := List.mem_append_right _ (List.mem_append_left _ h)
theorem exA_3 {w : Cond} (h : w ∈ Bundle.passSAtoms nsN rtN 13 prog_31_method_4_code) : w ∈ exA := List.mem_append_right _ (List.mem_append_right _ (List.mem_append_left _ h))
theorem exA_4 {w : Cond} (h : w ∈ Bundle.chainSAtoms rtN ["java/lang/Exception"]) : w ∈ exA := List.mem_append_right _ (List.mem_append_right _ (List.mem_append_right _ (List.mem_append_left _ h)))
theorem exA_5 {w : Cond} (h : w ∈ exL) : w ∈ exA := List.mem_append_right _ (List.mem_append_right _ (List.mem_append_right _ (List.mem_append_right _ h)))
set_option maxHeartbeats 4000000 in
theorem thN_ctor {W9 : State} {cells slots : Nat} (X : Stand p l e R s m args below meth c W9 locs cells slots) (hexec : p.tables.exec = Jvm.exec) (htr : e.platform.stackTraces = false) (hown : s.vm.findClass RX11 = some m.cls) (h : ∀ w ∈ exA, w.before args s = true)
    (hlocs : ∀ x ∈ locs, ∀ cell, s.heap[x.base]? = some cell → cell.vm.isStatics = false) {a : Addr} {cX : ClassId} {kX : Class} (hfoundX : s.vm.findClass nsN = some cX) (hkX : s.vm.classes[cX]? = some kX) (hcell : W9.heap[a]? = some (freshCell cX kX)) (hnew : s.heap.size ≤ a)
    {msg : Value} (hmsg : msg.isRef = true) {gf : JFrame} (hg : gf.method = m) (hsize : gf.locals.size = c.maxLocals) (hlocked : gf.locked = none) (hentered : gf.entered = []) {rest9 : List Value} (hstack : gf.stack = msg :: .ref a :: .ref a :: rest9)
    (hd6 : decode c.code gf.pc = .ok (.invokespecial 186, 3)) (hd9 : decode c.code (gf.pc + 3) = .ok (.athrow, 1)) (hout : ∀ x ∈ c.exceptionTable.toList, covers x (gf.pc + 3) = false)
    (hRframes : 2 + 3 < R.frames) (hRlocals : 2 * gf.monitorRoom + ((Value.ref a :: rest9).map fun v => v.category).sum + (13 * (2 + 1) + 42) ≤ R.locals) (hlocks : meth.locks = false) :
    ∃ U : State, Steps p.tables e below (W9.setTop gf) U ∧ U.status = .running ∧ Ended U below (.threw a) ∧ s.WarmedH U.vm ∧ s.sameButNew ({ U with vm := s.vm } : State) locs cells slots ∧ ∃ ce, U.heap[a]? = some ce ∧ s.vm.findClass nsN = some ce.cls ∧ ce.vm = .none := by
  have howns : e.platform.frameOwnsMonitors = true := by rw [X.admits.platform]
  have hfin : e.platform.finalization = false := by rw [X.admits.platform]
  have hpl : e.platform.magicAccessors = ({} : Platform).magicAccessors := by rw [X.admits.platform]
  have a5 : ∀ x, x ∈ exL → x.holds args s none s [] = true := fun x hx => h x (exA_5 hx)
  obtain ⟨T, Z0, L, -, Y⟩ := ThrowableC.of_atoms (args := args) howns hfin hpl (fun x hx => h x (exA_1 hx))
  obtain ⟨Z, M, LZ, LM, hnZ⟩ := Init0T.ofS_atoms (args := args) hpl L Y (fun x hx => h x (exA_2 hx))
  obtain ⟨P1, L1, hP1m, hs1⟩ := PassC.ofS_atoms (args := args) (s := s) hpl (X := nsN) (Y := rtN) (by decide) (by decide) s13_0 s13_1 s13_2 s13_5 (fun x hx => h x (exA_3 hx))
  obtain ⟨P2, Ps, hlen, L2, hL, hP2m, hlink2, hlink⟩ := Bundle.chainS (args := args) hpl hnZ ["java/lang/Exception"] rtN (by decide) (by decide) (fun x hx => h x (exA_4 hx))
  have hfound : s.vm.findClass nsN = some P1.m.cls := findClass_of_methodNamed hP1m
  cases Option.some.inj (hfoundX.symm.trans hfound)
  obtain ⟨c1, kX', hc1, hk, hord, -, -, hn6⟩ := Cond.instantiable_spec (a5 (.instantiable nsN 6) (by simp [exL]))
  cases Option.some.inj (hc1.symm.trans hfound)
  cases Option.some.inj (hkX.symm.trans hk)
  have hsel0 : selectMethod e.platform s.vm P1.m.cls T.fill0 = .method T.fill0 := by
    obtain ⟨c2, r2, m2, q1, q2, q3, q4, -⟩ := Cond.selects_spec (a5 (.selects nsN Bundle.tFill0 Bundle.tFill0) (by simp [exL]))
    cases Option.some.inj (q1.symm.trans hfound)
    cases Option.some.inj (q2.symm.trans (State.methodFound?_of_named Y.fill0 (by decide)))
    cases Option.some.inj (q3.symm.trans Y.fill0)
    rw [Launch.admits_selectMethod X.admits]; exact q4
  have hselF : selectMethod e.platform s.vm P1.m.cls T.fill = .method T.fill := by
    obtain ⟨c2, r2, m2, q1, q2, q3, q4, -⟩ := Cond.selects_spec (a5 (.selects nsN Bundle.tFill Bundle.tFill) (by simp [exL]))
    cases Option.some.inj (q1.symm.trans hfound)
    cases Option.some.inj (q2.symm.trans (State.methodFound?_of_named Y.fill (by decide)))
    cases Option.some.inj (q3.symm.trans Y.fill)
    rw [Launch.admits_selectMethod X.admits]; exact q4
  obtain ⟨cellS0, hcS0, hiss⟩ := Y.statics
  obtain ⟨u0, hu0⟩ := Cond.staticRefV Y.unassigned L.unassignedStatic L.statics hcS0 hiss (a5 (.isRef (.static Bundle.tN "UNASSIGNED_STACK" Bundle.steD)) (by simp [exL]))
  obtain ⟨sen, hsen⟩ := Cond.staticRefV Y.sentinel L.sentinelStatic L.statics hcS0 hiss (a5 (.isRef (.static Bundle.tN "SUPPRESSED_SENTINEL" Bundle.listD)) (by simp [exL]))
  obtain ⟨ci198, i198, fB, hk198, hg198, ha198, hsB, -, hnB, htB, hffB⟩ := Cond.ownField (t := .object "java/lang/Object") Y.found L.cls (by decide +kernel) (a5 (.fieldLink Bundle.tN 198 Bundle.tN "backtrace" "Ljava/lang/Object;") (by simp [exL])) (a5 (.lays Bundle.tN Bundle.tN "backtrace" "Ljava/lang/Object;") (by simp [exL])) e.platform hpl
  obtain ⟨cellS, hcS', heS, -, hkeep⟩ := X.same.2.2.2.2.2 T.aS cellS0 hcS0
  have hcellS : W9.heap[T.aS]? = some cellS := hcS'
  have hout' : ∀ i, (⟨T.aS, i⟩ : Loc) ∉ locs := fun i hmem => by
    have := hlocs _ hmem cellS0 hcS0
    rw [hiss] at this; cases this
  have hknownS : cellS.vm ≠ .unknown := by
    rw [heS]; intro hu
    rw [show cellS0.vm = .unknown from hu] at hiss
    cases hiss
  have hneS : T.aS ≠ a := Nat.ne_of_lt (Nat.lt_of_lt_of_le (Array.getElem?_eq_some_iff.mp hcS0).1 hnew)
  obtain ⟨iM, hffM⟩ := Y.msg
  obtain ⟨tyC, dC, hdC, hdnC⟩ := Cond.laysAt hfound hk Y.cause (a5 (.lays nsN Bundle.tN "cause" "Ljava/lang/Throwable;") (by simp [exL]))
  obtain ⟨tyS, dS, hdS, hdnS⟩ := Cond.laysAt hfound hk Y.stack (a5 (.lays nsN Bundle.tN "stackTrace" Bundle.steD) (by simp [exL]))
  obtain ⟨tyP, dP, hdP, hdnP⟩ := Cond.laysAt hfound hk Y.supp (a5 (.lays nsN Bundle.tN "suppressedExceptions" Bundle.listD) (by simp [exL]))
  obtain ⟨tyM, dM, hdM, hdnM⟩ := Cond.laysAt hfound hk hffM (a5 (.lays nsN Bundle.tN "detailMessage" "Ljava/lang/String;") (by simp [exL]))
  obtain ⟨tyB, dB, hdB, hdnB⟩ := Cond.laysAt hfound hk hffB (a5 (.lays nsN Bundle.tN "backtrace" "Ljava/lang/Object;") (by simp [exL]))
  have bC := Cond.laysApart hdB hdC hdnB hdnC (by rw [hnB, Y.causeName]; decide)
  have bS := Cond.laysApart hdB hdS hdnB hdnS (by rw [hnB, Y.stackName]; decide)
  have bP := Cond.laysApart hdB hdP hdnB hdnP (by rw [hnB, Y.suppName]; decide)
  have hskip : SkipFacts T e.platform s (fun u => u) u0 ((preparedCellV T.toThrowableT (freshCell P1.m.cls kX) a u0 sen).withEntry W9.cur) :=
    ⟨{ ci198 := ci198, i198 := i198, fBack := fB }, ⟨hk198, hg198, ha198, hsB⟩, by
      have := fresh_default (c := P1.m.cls) tyB
      rw [htB] at this
      simpa [preparedCellV, Cell.setSlot, Cell.withEntry, Array.getElem?_setIfInBounds, bC, bS, bP, bC.symm, bS.symm, bP.symm, defaultValue] using this, fun _ _ => rfl⟩
  obtain ⟨tm, methC, cdC, kC, vm₁, hnC, -, -, -, -, -, -, -, hW₁, st1⟩ := Steps.initColdS (tb := p.tables) (e := e) (below := below) (s := s) (U := W9) X.here hexec X.warmed hpl hown (t := Bundle.initS nsN) rfl rfl (by decide)
    (a5 (.methodLink RX11 186 (Bundle.initS nsN)) (by simp [exL])) (h (.instanceMethod (Bundle.initS nsN)) (exA_3 (by simp [Bundle.passSAtoms]))) (bytes := prog_31_method_4_code) (maxL := 2) (h (.code (Bundle.initS nsN) prog_31_method_4_code 2 none) (exA_3 (by simp [Bundle.passSAtoms])))
    (f := gf) hg (a := a) (msg := msg) (rest := .ref a :: rest9) hstack hd6
  cases Option.some.inj (hnC.symm.trans hP1m)
  have X₁ := X.noted hW₁
  obtain ⟨vm₂, X₂, st2⟩ := X₁.ctorMessageOffV hexec (g := { gf with stack := .ref a :: rest9 }) hg hsize T L Z LZ M LM (P1 :: P2 :: Ps)
    (fun P hP => by rcases List.mem_cons.mp hP with rfl | hP; exact L1; rcases List.mem_cons.mp hP with rfl | hP; exact L2; exact hL P hP) ⟨Option.some.inj (hs1.symm.trans hP2m), hlink2, hlink⟩ (u0 := u0) (sen := sen) (self := a) hmsg (cell := freshCell P1.m.cls kX) (cellS := cellS)
    hcell (fun _ => by simp) (by simp) rfl rfl hsel0 hselF hcellS hneS hknownS (by rw [hkeep _ (hout' _)]; exact hu0) (by rw [hkeep _ (hout' _)]; exact hsen)
    (Takes.of_laid hk hord tyC (by rw [Y.causeType]; rfl)) (Takes.of_laid hk hord tyS (by rw [Y.stackType]; exact fits_refV_array _ u0)) (Takes.of_laid hk hord tyP (by rw [Y.suppType]; exact fits_refV_object _ sen))
    (Takes.of_laid hk hord tyM (by rw [Y.msgType]; exact fits_refV_object _ ⟨msg, hmsg⟩)) Y.objLocals hskip htr [] hd6
    (by simp only [List.length_cons, hlen, List.length_nil]; omega) (by simp only [List.length_cons, hlen, List.length_nil]; exact hRlocals)
  obtain ⟨hwalk, hrun, hended, hWU, hsame⟩ := X₂.athrowLeaves hexec (g := { gf with stack := .ref a :: rest9, pc := gf.pc + 3 }) hg hlocked hentered hout (a := a) (rest := rest9) rfl hd9
  have hlt : a < ((W9.setVm vm₁).setVm vm₂).heap.size := (Array.getElem?_eq_some_iff.mp hcell).1
  have hU := heapAt_setCell_self (s := (W9.setVm vm₁).setVm vm₂) (plainBareV T.toThrowableT (freshCell P1.m.cls kX) a u0 sen msg) hlt
  refine ⟨_, st1 _ (fun acts => ?_), hrun, hended, hWU, hsame.weaken (fun y hy hlt' => ?_) (Nat.le_refl _) (Nat.le_refl _), _, hU, hfound, rfl⟩
  · rw [doInvoke_state]
    exact st2 _ hwalk
  · rcases List.mem_append.mp hy with h1 | h1
    · exact h1
    · exfalso
      have hb9 : y.base = a := by
        simp only [List.mem_cons, List.not_mem_nil, or_false] at h1
        rcases h1 with rfl | rfl | rfl | rfl | rfl <;> rfl
      rw [hb9] at hlt'
      exact Nat.not_lt.mpr hnew hlt'
theorem bk_thN {is : Nat} {text : String} {Qc : Array Value → State → Outcome → State → Prop} (C0 : Cx p s m args meth c cc nL ret RX11 g A X) (hex : ∀ x ∈ c.exceptionTable.toList, False) (hst : l.stackTraces = false) (hP : va_P g.1 vwCl (wf g σ) H) (hD : va_D A (wf g σ)) (hS : va_S A s.heap H locs) (hl : ls.size = nL) (hm : (is, text) ∈ msgs) (d0 : decode cc pc = .ok (.new 182, 3)) (d3 : decode cc (pc + 3) = .ok (.dup, 1)) (d4 : decode cc (pc + 4) = .ok (.ldc is, 2)) (d6 : decode cc (pc + 6) = .ok (.invokespecial 186, 3)) (d9 : decode cc (pc + 9) = .ok (.athrow, 1))
    (hfr : 5 < R.frames) (hlo : (rest.map fun v => v.category).sum + 82 ≤ R.locals) (hRc : kc + 1 ≤ R.cells) (hRs : ks + 6 ≤ R.slots) (hz : some ((1 : Nat), (0 : Int32), σ) = some z) (hc : kc + 1 ≤ mc) (hs : ks + 6 ≤ ms) : W p l e R s m args below meth c H locs kc ks (vx_MQ below Qc (xT wf g A z) args s mc ms A) (F0 m pc ls rest) := by
  obtain ⟨hx, hb, hr, hml, hown, hts, hK, hlocks, hXX, hA, hXo⟩ := C0
  obtain ⟨-, ⟨hU, hN⟩, hw, hms, -⟩ := hXo.2.2.2 _ _ _ hXX
  obtain ⟨sa, hsa⟩ := hms _ hm
  cases hz
  have hat : ∀ w ∈ exN, w.before args s = true := fun w h => hw args w (List.mem_append_right _ h)
  have hk : (Cond.classLink RX11 182 nsN).before args s = true := hts _ wa_642
  have hini : (Cond.initialized nsN).before args s = true := hts _ wa_643
  intro T hT X9
  have htr : e.platform.stackTraces = false := (show e.platform.stackTraces = l.stackTraces by rw [X9.admits.platform]).trans hst
  have Y := vx_rebase X9 (R' := { frames := R.frames, locals := R.locals, cells := 1, slots := 6 }) (Nat.le_refl _) (Nat.le_refl _) hRc hRs
  obtain ⟨s', hs'⟩ : ∃ z, z = (T.setVm s.vm).setFrames (.invoking m args :: below) := ⟨_, rfl⟩
  rw [← hs'] at Y
  have hvm : s'.vm = s.vm := by rw [hs']; rfl
  have hhp : s'.heap = H := by rw [hs']; exact hT
  have hW0 : s.WarmedH s'.vm := by rw [hvm]; exact State.WarmedH.refl s
  have hat' : ∀ w ∈ exN, w.before args s' = true := fun w h => vx_ot_at hW0 hvm.symm (exN_ot w (List.mem_cons_of_mem _ (List.mem_cons_of_mem _ h))) (hat w h)
  have hk' : (Cond.classLink RX11 182 nsN).before args s' = true := vx_ot_at hW0 hvm.symm (exN_ot _ List.mem_cons_self) hk
  have hini' : (Cond.initialized nsN).before args s' = true := vx_ot_at hW0 hvm.symm (exN_ot _ (List.mem_cons_of_mem _ List.mem_cons_self)) hini
  have hU' : vx_Zq Bundle.tN "UNASSIGNED_STACK" Bundle.steD A s' s'.heap := by rw [hhp]; exact vx_Zq.moved hW0.alike (hU.kept hS.2.1)
  have hN' : vx_Zq Bundle.tN "SUPPRESSED_SENTINEL" Bundle.listD A s' s'.heap := by rw [hhp]; exact vx_Zq.moved hW0.alike (hN.kept hS.2.1)
  have h : ∀ w ∈ exA, w.before args s' = true := vx_own hat' (vx_isRefq hU'.1) (vx_isRefq hN'.1) hU'.2.word hN'.2.word
  have hown' : s'.vm.findClass RX11 = some m.cls := by rw [hvm]; exact hown
  have hins : (Cond.instantiable nsN 6).before args s' = true := h _ (exA_5 (by simp [exL]))
  obtain ⟨vm₁, cX, kX, hfX, hkX, -, -, X₁, st1⟩ := Y.newCold hx (own := RX11) (C := nsN) (index := 182) (n := 6) hown' hk' hins hini'
    (g := F0 m pc ls rest) rfl (by rw [hb]; exact d0) (Nat.le_refl _) (Nat.le_refl _)
  generalize hT1 : (T.setVm vm₁).pushCell { cls := cX, slots := kX.instanceTypes.map defaultValue, vm := .none } = T1 at X₁ st1
  have hcat : (Value.ref T.heap.size).category = 1 := rfl
  have hcellA : T1.heap[T.heap.size]? = some (freshCell cX kX) := by rw [← hT1]; exact State.heap_pushCell_size _ _
  have d3' : decode c.code (pc + 3) = .ok (.dup, 1) := by rw [hb]; exact d3
  have d4' : decode c.code (pc + 4) = .ok (.ldc is, 2) := by rw [hb]; exact d4
  have hstr' : vk_R RX11 is text sa s' := vk_R.warm hW0 hsa
  obtain ⟨U, hsteps, hrun, hend, hW, hsame, ce, hce, hc1, hc2⟩ := thN_ctor X₁ hx htr hown' h (fun x hx => nomatch hx) hfX hkX hcellA (by rw [hhp, hT]; exact Nat.le_refl _) (msg := .ref sa) rfl
    (gf := { method := m, pc := pc + 6, locals := ls, stack := .ref sa :: .ref T.heap.size :: .ref T.heap.size :: rest, locked := none }) rfl (hl.trans hml.symm) rfl rfl (rest9 := rest) rfl
    (by rw [hb]; exact d6) (by rw [hb]; exact d9) (fun x hx => (hex x hx).elim) hfr (by simp only [List.map_cons, List.sum_cons, hcat]; omega) hlocks
  obtain ⟨f1, f2⟩ := vx_frame hsame
  rw [hhp] at f1 f2
  have hWs : s.WarmedH U.vm := State.WarmedH.trans hW0 hW
  have hcl : s.vm.findClass nsN = some ce.cls := by rw [hvm] at hc1; exact hc1
  have hall : s.sameButNew ({ U with vm := s.vm } : State) locs mc ms := by
    subst hs'
    obtain ⟨e1, e2⟩ := hsame
    rw [State.setFrames_setFrames] at e1
    have h2 : (T.setVm s.vm).sameButNew ({ U with vm := s.vm } : State) [] (0 + 1) (0 + 6) := ⟨e1, e2⟩
    have h3 := X9.same.trans h2
    rw [List.append_nil] at h3
    exact h3.mono hc hs
  have hkp : ∀ q : Nat, q < H.size → U.heap[q]? = H[q]? := fun q hq => f2 q hq (fun z hz => nomatch hz)
  refine ⟨U, ?_, .threw T.heap.size, hrun, hend, Or.inr ⟨T.heap.size, rfl, nsN, ce, locs, ⟨σ, rfl, ⟨Or.inl ⟨rfl, rfl⟩, va_P.kept hP (fun k q hq => hkp q.1 (vx_lt hP hq)), va_K.moved hWs.alike hK, hD⟩, Nat.le_trans hS.1 f1, fun q h1 h2 => by rw [hkp q (Nat.lt_of_lt_of_le h1 hS.1)]; exact hS.2.1 q h1 h2⟩, hce, hc2, hcl, hWs, hall, hS.2.2⟩⟩
  refine st1 _ ?_
  show Steps p.tables e below (T1.setTop { method := m, pc := pc + 3, locals := ls, stack := .ref T.heap.size :: rest, locked := none }) _
  jvm_step X₁.here [X₁.here.top, hx, d3', Value.category]
  exact X₁.ldcString hx (own := RX11) (text := text) (index := is) (a := sa) hown' hstr'.1 hstr'.2
    (g := { method := m, pc := pc + 4, locals := ls, stack := .ref T.heap.size :: .ref T.heap.size :: rest, locked := none }) rfl d4' _ hsteps
end THROW
