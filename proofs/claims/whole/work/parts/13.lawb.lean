/-! ===== the law's world: the class's cells, the law's own row of one long, the reference's cells ===== -/
def outc (g : WG) (o : Int64) : Nat × va_E := (g.2.2 70, .inl (g.2.1 4, 1, .inr (.inl (fun _ => o))))
def lwC (g : WG) (σ : Sg) (o : Int64) : va_W := cw g σ ++ [outc g o]
def lwW (g gm : WG) (σ τ : Sg) (o : Int64) : va_W := lwC g σ o ++ mw gm τ
theorem lwW_C (g gm : WG) (σ τ : Sg) (o : Int64) : lwW g gm σ τ o = cw g σ ++ ([outc g o] ++ mw gm τ) := List.append_assoc _ _ _
abbrev qW (g : WG) (A : Nat → Prop) (k : Int32) (σ' : Sg) (o' : Int64) : Array Value → State → Outcome → State → Prop := va_Qi (fun (a : Int32) (_ : Unit) => a = k) (fun _ t => va_P g.1 vwCl (lwC g σ' o') t.heap ∧ va_K g.1 vwCl (tyl g) t ∧ va_D A (lwC g σ' o')) A
def MetW (l : Launch) (y : MethodName) (ws : List Cond) (rm : Room) (mc ms : Nat) (g : WG) (X : Xt) (av : List Value) (σ : Sg) (o : Int64) (k : Int32) (σ' : Sg) (o' : Int64) : Prop := ∀ sz : Nat, Met l y ws rm (va_Pc av (cn_pre g X (lwC g σ o) sz)) (qW g (va_A (lwC g σ o) sz) k σ' o') mc ms (va_A (lwC g σ o) sz)
section LAWB
variable {p : Program} {l : Launch} {e : Env} {R : Room} {s : State} {m : MethodId} {args : Array Value} {below : List Frame} {meth : Method} {c : Code} {H : Heap} {locs : List Loc} {Q : State → Prop}
variable {cc : ByteArray} {nL : Nat} {own : String} {g gm : WG} {A : Nat → Prop} {X : Xt} {σ σ' τ τ' : Sg} {o o' : Int64} {pc kc ks mc ms : Nat} {ls : Array Slot} {r k : Int32} {ret : Option FieldType} {rest st : List Value} {z : Zt} {wf : Wf} {wa wb : va_W}
theorem MetW_of {y : MethodName} {rm : Room} {maxL : Nat} {av : List Value} {hh : List (Nat × Nat × Nat × Nat)} (hX : xOK g X) (hy : plainName y.cls = true) (hav : (lg_sl av).length ≤ maxL)
    (body : ∀ (p : Program) (e : Env) (s : State) (m : MethodId) (args : Array Value) (below : List Frame) (meth : Method) (c : Code) (A : Nat → Prop), Cx p s m args meth c cc maxL (some .int) y.cls g A X → c.exceptionTable.toList = tableOf hh → ∀ ls : Array Slot, va_P g.1 vwCl (lwC g σ o) s.heap → va_D A (lwC g σ o) → va_S A s.heap s.heap [] → lv_has ls maxL (lv_args 0 av) → W p l e rm s m args below meth c s.heap [] 0 0 (MQ below (qW g A k σ' o') args s mc ms A) (F0 m 0 ls [])) : MetW l y (Cond.codeWith y cc maxL (some .int) hh :: wsA) rm mc ms g X av σ o k σ' o' := by
  intro sz
  refine va_MetW (cc := cc) (maxL := maxL) (ret := some .int) hy rfl ?_
  intro p e s m args below meth c s₁ B hml hv
  obtain ⟨rfl, hsz, hP, hK, hD0, hXX⟩ := hv
  have hts0 := atoms_spec (ws := Cond.codeWith y cc maxL (some .int) hh :: wsA) B.pre
  have hts : ∀ w ∈ wsA, w.before _ s = true := fun w h => hts0 w (List.mem_cons_of_mem _ h)
  have htab := vx_table (x := y) B (hts0 _ List.mem_cons_self)
  have hown : s.vm.findClass y.cls = some m.cls := findClass_of_methodNamed B.named
  subst hsz
  rw [lg_entry_eq]
  exact body p e s m _ below meth c _ ⟨B.exec, B.bytes, B.returns, hml, hown, hts, hK, B.notSynchronized, hXX, fun q h => Or.inr h, hX⟩ htab _ hP (hD0.self (sz := s.heap.size)) va_S.rf (lv_entry av hav)
/-- the rooms of what is left of a call -/
theorem ap_freeL (hD : va_D A (wa ++ wb)) (hS : va_S A s.heap H locs) (hA : ∀ q : Nat, s.heap.size ≤ q → A q) : ∀ q, va_A wa H.size q → A q := by
  intro q h
  rcases h with ⟨k, e, h⟩ | h
  · exact (ap_D1 hD).2 k (q, e) h
  · exact hA q (Nat.le_trans hS.1 h)
/-- a method of the class that throws, called by a wrapper -/
theorem wr_T {y : MethodName} {bytes : ByteArray} {maxL index n : Nat} {ret' : Option FieldType} {ws : List Cond} {rm : Room} (As : List Value) (C0 : Cx p s m args meth c cc nL ret own g A X) (hP : va_P g.1 vwCl (lwC g σ o) H) (hD : va_D A (lwC g σ o)) (hS : va_S A s.heap H locs) (hl : ls.size = nL)
    (hM : MetTi l y ws rm mc ms cw g X (.ref (g.2.2 0) :: As) σ z) (cw9 : CallW R s args own RX11 index y bytes maxL ret' ws rm mc ms n) (hn : As.length = n) (hst : st = As.reverse ++ .ref (g.2.2 0) :: rest) (hrm : (rest.map fun v => v.category).sum ≤ 8) (hdg : decode cc pc = .ok (.invokevirtual index, 3)) (hkr : kc + mc ≤ R.cells ∧ ks + ms ≤ R.slots)
    (kx : ∀ (E : String) (ce : Cell) (q9 : Addr) (H1 : Heap) (locs1 : List Loc), exE z.1 E → va_P g.1 vwCl (lwC g z.2.2 o) H1 → va_D A (lwC g z.2.2 o) → va_S A s.heap H1 locs1 → H1[q9]? = some ce → ce.vm = .none → s.vm.findClass E = some ce.cls → vx_W p l e R s m args below meth c H1 locs1 (kc + mc) (ks + ms) Q (F0 m pc ls rest) q9)
    (kk : z.1 = 0 → ∀ (H1 : Heap) (locs1 : List Loc), va_P g.1 vwCl (lwC g z.2.2 o) H1 → va_D A (lwC g z.2.2 o) → va_S A s.heap H1 locs1 → W p l e R s m args below meth c H1 locs1 (kc + mc) (ks + ms) Q (F0 m (pc + 3) ls (.int z.2.1 :: rest))) : W p l e R s m args below meth c H locs kc ks Q (F0 m pc ls st) := by
  obtain ⟨hx, hb, hr, hml, hown, hts, hK, hlocks, hXX, hA, hXo⟩ := C0
  have hF := ap_freeL (wa := cw g σ) (wb := [outc g o]) hD hS hA
  have hPc := ap_P1 (a := cw g σ) (b := [outc g o]) hP
  have hDc := ap_D1 (a := cw g σ) (b := [outc g o]) hD
  subst hst
  refine vx_calli (vx_runV (As := As) (rest := rest) ⟨hx, hb, hml, hown, hts⟩ (hM H.size) cw9 ⟨ct_blind hXo, va_recv (ci := 10) (q0 := 0) hK hPc rfl rfl, fun U hU hW => ⟨rfl, by rw [hU], by rw [hU]; exact hPc, va_K.moved hW.alike hK, hDc.weaken (fun _ _ _ _ => trivial), cn_X hXo hXX hS hF hU hW⟩⟩ rfl hn hl rfl (lv_room hrm) hdg hkr) hS (fun q _ h => hF q h) hF (fun q _ h => hF q h) (fun E ce q9 u t H1 locs1 ht hvm hpx hBX hz1 hk1 hS1 hq9 hcv hcl => ?_) (fun r1 u t H1 locs1 ht hvm hw hB hz1 hk1 hS1 => ?_)
  · subst hpx
    obtain ⟨hE, hP1, hK1, hD1⟩ := hBX
    rw [ht] at hP1
    obtain ⟨hP2, hD2⟩ := ap_joinL (b := [outc g o]) hP hD hk1 hF hP1 hD1
    exact kx E ce q9 H1 locs1 hE hP2 hD2 hS1 hq9 hcv hcl
  · obtain ⟨hz0, rfl, rfl⟩ := hw
    obtain ⟨hP1, hK1, hD1⟩ := hB
    rw [ht] at hP1
    obtain ⟨hP2, hD2⟩ := ap_joinL (b := [outc g o]) hP hD hk1 hF hP1 hD1
    exact kk hz0 H1 locs1 hP2 hD2 hS1
theorem lwC_set (g : WG) (σ : Sg) (o x : Int64) : (lwC g σ o).set 65 (g.2.2 70, .inl (g.2.1 4, 1, .inr (.inl (vp_updL (fun _ => o) (0 : Int32).toNatClampNeg x)))) = cw g σ ++ [(g.2.2 70, .inl (g.2.1 4, 1, .inr (.inl (vp_updL (fun _ => o) (0 : Int32).toNatClampNeg x))))] := rfl
theorem out_cell (g : WG) (o x : Int64) (D : va_G) (cl : List vw_C) (H : Heap) (h : va_at D cl (g.2.2 70, .inl (g.2.1 4, 1, .inr (.inl (vp_updL (fun _ => o) (0 : Int32).toNatClampNeg x)))) H) : va_at D cl (outc g x) H := by
  have e : vp_cell (g.2.1 4) (1, .inr (.inl (vp_updL (fun _ => o) (0 : Int32).toNatClampNeg x))) = vp_cell (g.2.1 4) (1, .inr (.inl (fun _ => x))) := by
    show arrV (g.2.1 4) 1 (fun j => .long (vp_updL (fun _ => o) (0 : Int32).toNatClampNeg x j)) = arrV (g.2.1 4) 1 (fun j => .long x)
    rfl
  show H[g.2.2 70]? = some (vp_cell (g.2.1 4) (1, .inr (.inl (fun _ => x))))
  rw [← e]
  exact h
theorem wr_last {x : Int64} (C0 : Cx p s m args meth c cc nL ret own g A X) (hP : va_P g.1 vwCl (lwC g σ o) H) (hD : va_D A (lwC g σ o)) (hS : va_S A s.heap H locs) (hdg : decode cc pc = .ok (.lastore, 1))
    (kk : ∀ (H1 : Heap) (locs1 : List Loc), va_P g.1 vwCl (lwC g σ x) H1 → va_D A (lwC g σ x) → va_S A s.heap H1 locs1 → W p l e R s m args below meth c H1 locs1 kc ks Q (F0 m (pc + 1) ls rest)) : W p l e R s m args below meth c H locs kc ks Q (F0 m pc ls (.long x :: .int 0 :: .ref (g.2.2 70) :: rest)) := by
  obtain ⟨hx, hb, hr, hml, hown, hts, hK, hlocks, hXX, hA, hXo⟩ := C0
  refine va_last hx hb hK hP hD hS 65 4 rfl rfl (i := 0) (vin_l (by decide) (by decide)) hdg (fun H1 locs1 hP1 hD1 hS1 => ?_)
  rw [lwC_set] at hP1 hD1
  refine kk H1 locs1 (va_P.app (ap_P1 hP1) (fun k q hq => ?_)) (va_D.app (ap_D1 hD1) ⟨fun i j p q hi hj _ => ?_, fun k q hq => ?_⟩ (fun i j p q hi hj => ?_)) hS1
  · have hz : k < 1 := (List.getElem?_eq_some_iff.mp hq).1
    rw [show k = 0 by omega] at hq
    cases hq
    exact out_cell g o x _ _ _ (hP1 65 _ rfl)
  · have h1 : i < 1 := (List.getElem?_eq_some_iff.mp hi).1
    have h2 : j < 1 := (List.getElem?_eq_some_iff.mp hj).1
    omega
  · have hz : k < 1 := (List.getElem?_eq_some_iff.mp hq).1
    rw [show k = 0 by omega] at hq
    cases hq
    exact hD1.2 65 (g.2.2 70, .inl (g.2.1 4, 1, .inr (.inl (vp_updL (fun _ => o) (0 : Int32).toNatClampNeg x)))) rfl
  · have h2 : j < 1 := (List.getElem?_eq_some_iff.mp hj).1
    rw [show j = 0 by omega] at hj
    cases hj
    exact ap_ne hD1 i 0 p (g.2.2 70, .inl (g.2.1 4, 1, .inr (.inl (vp_updL (fun _ => o) (0 : Int32).toNatClampNeg x)))) hi rfl
theorem wr_ret (C : Cx p s m args meth c cc nL (some .int) own g A X) (hP : va_P g.1 vwCl (lwC g σ o) H) (hD : va_D A (lwC g σ o)) (hS : va_S A s.heap H locs) {v : Int32} (hv : v = k) (ho : o = o') (hs : σ = σ') (hd : decode cc pc = .ok (.ireturn, 1)) : W p l e R s m args below meth c H locs kc ks (MQ below (qW g A k σ' o') args s kc ks A) (F0 m pc ls [.int v]) := by
  obtain ⟨hx, hb, hr, hml, hown, hts, hK, hlocks, hX, hA, hXo⟩ := C
  subst ho; subst hs
  exact W.iret (v := v) hx hb hr (fun t ht hW => ⟨⟨v, (), rfl, hv, by rw [ht]; exact hP, va_K.moved hW.alike hK, hD⟩, hS.F ht⟩) hS.2.2 hd
end LAWB
/-! ===== calls by the law itself ===== -/
abbrev gmk (g : WG) (hm : Nat → Nat) : WG := (g.1, g.2.1, hm)
section LAWC
variable {p : Program} {l : Launch} {e : Env} {R : Room} {s : State} {m : MethodId} {args : Array Value} {below : List Frame} {meth : Method} {c : Code} {H : Heap} {locs : List Loc} {Q : State → Prop}
variable {cc : ByteArray} {nL : Nat} {own : String} {g : WG} {hm : Nat → Nat} {A : Nat → Prop} {X : Xt} {σ σ' τ τ' : Sg} {o o' : Int64} {pc kc ks mc ms : Nat} {ls : Array Slot} {r k : Int32} {ret : Option FieldType} {rest st : List Value} {z : Zt}
theorem lc_X {y : MethodName} {bytes : ByteArray} {maxL index n : Nat} {ret' : Option FieldType} {ws : List Cond} {rm : Room} (As : List Value) (C0 : Cx p s m args meth c cc nL ret own g A X) (hP : va_P g.1 vwCl (lwW g (gmk g hm) σ τ o) H) (hD : va_D A (lwW g (gmk g hm) σ τ o)) (hS : va_S A s.heap H locs) (hl : ls.size = nL)
    (hM : MetI l y ws rm cw g X (.ref (g.2.2 0) :: As) σ r σ') (cw9 : CallW R s args own RX11 index y bytes maxL ret' ws rm 0 0 n) (hn : As.length = n) (hst : st = As.reverse ++ .ref (g.2.2 0) :: rest) (hrm : (rest.map fun v => v.category).sum ≤ 8) (hdg : decode cc pc = .ok (.invokevirtual index, 3)) (hkr : kc ≤ R.cells ∧ ks ≤ R.slots)
    (kk : ∀ (H1 : Heap) (locs1 : List Loc), va_P g.1 vwCl (lwW g (gmk g hm) σ' τ o) H1 → va_D A (lwW g (gmk g hm) σ' τ o) → va_S A s.heap H1 locs1 → W p l e R s m args below meth c H1 locs1 kc ks Q (F0 m (pc + 3) ls (.int r :: rest))) : W p l e R s m args below meth c H locs kc ks Q (F0 m pc ls st) := by
  obtain ⟨hx, hb, hr, hml, hown, hts, hK, hlocks, hXX, hA, hXo⟩ := C0
  rw [lwW_C] at hP hD kk
  have hF := ap_freeL hD hS hA
  subst hst
  refine va_calli (va_runV (As := As) (rest := rest) ⟨hx, hb, hml, hown, hts⟩ (hM H.size) cw9 ⟨ct_blind hXo, va_recv (ci := 10) (q0 := 0) hK (ap_P1 hP) rfl rfl, fun U hU hW => ⟨rfl, by rw [hU], by rw [hU]; exact ap_P1 hP, va_K.moved hW.alike hK, (ap_D1 hD).weaken (fun _ _ _ _ => trivial), cn_X hXo hXX hS hF hU hW⟩⟩ rfl hn hl rfl (lv_room hrm) hdg hkr) hS (fun q _ h => hF q h) hF (fun r1 u t H1 locs1 ht hvm hw hB hz1 hk1 hS1 => ?_)
  obtain ⟨rfl, rfl⟩ := hw
  obtain ⟨hP1, hK1, hD1⟩ := hB
  rw [ht] at hP1
  obtain ⟨hP2, hD2⟩ := ap_joinL hP hD hk1 hF hP1 hD1
  exact kk H1 locs1 hP2 hD2 hS1
theorem lc_Xv {y : MethodName} {bytes : ByteArray} {maxL index n : Nat} {ret' : Option FieldType} {ws : List Cond} {rm : Room} (As : List Value) (C0 : Cx p s m args meth c cc nL ret own g A X) (hP : va_P g.1 vwCl (lwW g (gmk g hm) σ τ o) H) (hD : va_D A (lwW g (gmk g hm) σ τ o)) (hS : va_S A s.heap H locs) (hl : ls.size = nL)
    (hM : MetV l y ws rm cw g X (.ref (g.2.2 0) :: As) σ σ') (cw9 : CallW R s args own RX11 index y bytes maxL ret' ws rm 0 0 n) (hn : As.length = n) (hst : st = As.reverse ++ .ref (g.2.2 0) :: rest) (hrm : (rest.map fun v => v.category).sum ≤ 8) (hdg : decode cc pc = .ok (.invokevirtual index, 3)) (hkr : kc ≤ R.cells ∧ ks ≤ R.slots)
    (kk : ∀ (H1 : Heap) (locs1 : List Loc), va_P g.1 vwCl (lwW g (gmk g hm) σ' τ o) H1 → va_D A (lwW g (gmk g hm) σ' τ o) → va_S A s.heap H1 locs1 → W p l e R s m args below meth c H1 locs1 kc ks Q (F0 m (pc + 3) ls rest)) : W p l e R s m args below meth c H locs kc ks Q (F0 m pc ls st) := by
  obtain ⟨hx, hb, hr, hml, hown, hts, hK, hlocks, hXX, hA, hXo⟩ := C0
  rw [lwW_C] at hP hD kk
  have hF := ap_freeL hD hS hA
  subst hst
  refine va_callv (va_runV (As := As) (rest := rest) ⟨hx, hb, hml, hown, hts⟩ (hM H.size) cw9 ⟨ct_blind hXo, va_recv (ci := 10) (q0 := 0) hK (ap_P1 hP) rfl rfl, fun U hU hW => ⟨rfl, by rw [hU], by rw [hU]; exact ap_P1 hP, va_K.moved hW.alike hK, (ap_D1 hD).weaken (fun _ _ _ _ => trivial), cn_X hXo hXX hS hF hU hW⟩⟩ rfl hn hl rfl (lv_room hrm) hdg hkr) hS (fun q _ h => hF q h) hF (fun u t H1 locs1 ht hvm hw hB hz1 hk1 hS1 => ?_)
  subst hw
  obtain ⟨hP1, hK1, hD1⟩ := hB
  rw [ht] at hP1
  obtain ⟨hP2, hD2⟩ := ap_joinL hP hD hk1 hF hP1 hD1
  exact kk H1 locs1 hP2 hD2 hS1
theorem lc_M {y : MethodName} {bytes : ByteArray} {maxL index n : Nat} {ret' : Option FieldType} {ws : List Cond} {rm : Room} (As : List Value) (C0 : Cx p s m args meth c cc nL ret own g A X) (hXm : xOK (gmk g hm) X) (hP : va_P g.1 vwCl (lwW g (gmk g hm) σ τ o) H) (hD : va_D A (lwW g (gmk g hm) σ τ o)) (hS : va_S A s.heap H locs) (hl : ls.size = nL)
    (hM : MetI l y ws rm mw (gmk g hm) X (.ref (hm 0) :: As) τ r τ') (cw9 : CallW R s args own RX12 index y bytes maxL ret' ws rm 0 0 n) (hn : As.length = n) (hst : st = As.reverse ++ .ref (hm 0) :: rest) (hrm : (rest.map fun v => v.category).sum ≤ 8) (hdg : decode cc pc = .ok (.invokevirtual index, 3)) (hkr : kc ≤ R.cells ∧ ks ≤ R.slots)
    (kk : ∀ (H1 : Heap) (locs1 : List Loc), va_P g.1 vwCl (lwW g (gmk g hm) σ τ' o) H1 → va_D A (lwW g (gmk g hm) σ τ' o) → va_S A s.heap H1 locs1 → W p l e R s m args below meth c H1 locs1 kc ks Q (F0 m (pc + 3) ls (.int r :: rest))) : W p l e R s m args below meth c H locs kc ks Q (F0 m pc ls st) := by
  obtain ⟨hx, hb, hr, hml, hown, hts, hK, hlocks, hXX, hA, hXo⟩ := C0
  have hF := cn_free hD hS hA
  subst hst
  refine va_calli (va_runV (As := As) (rest := rest) ⟨hx, hb, hml, hown, hts⟩ (hM H.size) cw9 ⟨ct_blind hXm, va_recv (ci := 11) (q0 := 0) hK (ap_P2 hP) rfl rfl, fun U hU hW => ⟨rfl, by rw [hU], by rw [hU]; exact ap_P2 hP, va_K.moved hW.alike hK, (ap_D2 hD).weaken (fun _ _ _ _ => trivial), cn_X hXo hXX hS hF hU hW⟩⟩ rfl hn hl rfl (lv_room hrm) hdg hkr) hS (fun q _ h => hF q h) hF (fun r1 u t H1 locs1 ht hvm hw hB hz1 hk1 hS1 => ?_)
  obtain ⟨rfl, rfl⟩ := hw
  obtain ⟨hP1, hK1, hD1⟩ := hB
  rw [ht] at hP1
  obtain ⟨hP2, hD2⟩ := ap_joinR hP hD hk1 hF hP1 hD1
  exact kk H1 locs1 hP2 hD2 hS1
theorem lc_Mv {y : MethodName} {bytes : ByteArray} {maxL index n : Nat} {ret' : Option FieldType} {ws : List Cond} {rm : Room} (As : List Value) (C0 : Cx p s m args meth c cc nL ret own g A X) (hXm : xOK (gmk g hm) X) (hP : va_P g.1 vwCl (lwW g (gmk g hm) σ τ o) H) (hD : va_D A (lwW g (gmk g hm) σ τ o)) (hS : va_S A s.heap H locs) (hl : ls.size = nL)
    (hM : MetV l y ws rm mw (gmk g hm) X (.ref (hm 0) :: As) τ τ') (cw9 : CallW R s args own RX12 index y bytes maxL ret' ws rm 0 0 n) (hn : As.length = n) (hst : st = As.reverse ++ .ref (hm 0) :: rest) (hrm : (rest.map fun v => v.category).sum ≤ 8) (hdg : decode cc pc = .ok (.invokevirtual index, 3)) (hkr : kc ≤ R.cells ∧ ks ≤ R.slots)
    (kk : ∀ (H1 : Heap) (locs1 : List Loc), va_P g.1 vwCl (lwW g (gmk g hm) σ τ' o) H1 → va_D A (lwW g (gmk g hm) σ τ' o) → va_S A s.heap H1 locs1 → W p l e R s m args below meth c H1 locs1 kc ks Q (F0 m (pc + 3) ls rest)) : W p l e R s m args below meth c H locs kc ks Q (F0 m pc ls st) := by
  obtain ⟨hx, hb, hr, hml, hown, hts, hK, hlocks, hXX, hA, hXo⟩ := C0
  have hF := cn_free hD hS hA
  subst hst
  refine va_callv (va_runV (As := As) (rest := rest) ⟨hx, hb, hml, hown, hts⟩ (hM H.size) cw9 ⟨ct_blind hXm, va_recv (ci := 11) (q0 := 0) hK (ap_P2 hP) rfl rfl, fun U hU hW => ⟨rfl, by rw [hU], by rw [hU]; exact ap_P2 hP, va_K.moved hW.alike hK, (ap_D2 hD).weaken (fun _ _ _ _ => trivial), cn_X hXo hXX hS hF hU hW⟩⟩ rfl hn hl rfl (lv_room hrm) hdg hkr) hS (fun q _ h => hF q h) hF (fun u t H1 locs1 ht hvm hw hB hz1 hk1 hS1 => ?_)
  subst hw
  obtain ⟨hP1, hK1, hD1⟩ := hB
  rw [ht] at hP1
  obtain ⟨hP2, hD2⟩ := ap_joinR hP hD hk1 hF hP1 hD1
  exact kk H1 locs1 hP2 hD2 hS1
theorem lc_W {y : MethodName} {bytes : ByteArray} {maxL index n : Nat} {rm : Room} {hh : List (Nat × Nat × Nat × Nat)} (As : List Value) (C0 : Cx p s m args meth c cc nL ret own g A X) (hP : va_P g.1 vwCl (lwW g (gmk g hm) σ τ o) H) (hD : va_D A (lwW g (gmk g hm) σ τ o)) (hS : va_S A s.heap H locs) (hl : ls.size = nL)
    (hM : MetW l y (Cond.codeWith y bytes maxL (some .int) hh :: wsA) rm mc ms g X As σ o k σ' o') (hc : Cond.codeWith y bytes maxL (some .int) hh ∈ wsA) (hlk : Cond.methodLink own index y ∈ wsA) (hi : Cond.static y ∈ wsA) (hini : Cond.initialized y.cls ∈ wsA) (hrc : rm.cells = mc) (hrs : rm.slots = ms)
    (hd : y.cls ≠ "java/lang/invoke/MethodHandle" ∧ y.cls ≠ "java/lang/invoke/VarHandle" ∧ (parseMethodDescriptor y.desc).map (fun d => d.parameters.length) = some n) (hR : rm.frames + 1 ≤ R.frames ∧ 8 + (maxL + 11) + rm.locals ≤ R.locals) (hn : As.length = n) (hst : st = As.reverse ++ rest) (hrm : (rest.map fun v => v.category).sum ≤ 8) (hdg : decode cc pc = .ok (.invokestatic index, 3)) (hkr : kc + mc ≤ R.cells ∧ ks + ms ≤ R.slots)
    (kk : ∀ (H1 : Heap) (locs1 : List Loc), va_P g.1 vwCl (lwW g (gmk g hm) σ' τ o') H1 → va_D A (lwW g (gmk g hm) σ' τ o') → va_S A s.heap H1 locs1 → W p l e R s m args below meth c H1 locs1 (kc + mc) (ks + ms) Q (F0 m (pc + 3) ls (.int k :: rest))) : W p l e R s m args below meth c H locs kc ks Q (F0 m pc ls st) := by
  obtain ⟨hx, hb, hr, hml, hown, hts, hK, hlocks, hXX, hA, hXo⟩ := C0
  have hF := ap_freeL hD hS hA
  subst hst
  have hG : GoodIn wsA (va_wsS own index y (Cond.codeWith y bytes maxL (some .int) hh :: wsA)) := by
    intro w h
    have hm : w ∈ wsA := by
      rcases List.mem_append.mp h with h | h
      · rcases List.mem_cons.mp h with rfl | h
        · exact hlk
        · rcases List.mem_cons.mp h with rfl | h
          · exact hi
          · rw [List.mem_singleton.mp h]; exact hini
      · rcases List.mem_cons.mp h with rfl | h
        · exact hc
        · exact h
    exact ⟨hm, good_of_word (goodA w hm)⟩
  refine va_calli (vx_runSW (As := As) (rest := rest) ⟨hx, hb, hml, hown, hts⟩ (hM H.size) (vx_cwSW n hts hG rfl hrc hrs hd hR) ⟨cn_blind hXo, fun U hU hW => ⟨rfl, by rw [hU], by rw [hU]; exact ap_P1 hP, va_K.moved hW.alike hK, (ap_D1 hD).weaken (fun _ _ _ _ => trivial), cn_X hXo hXX hS hF hU hW⟩⟩ rfl hn hl rfl (lv_room hrm) hdg hkr) hS (fun q _ h => hF q h) hF (fun r1 u t H1 locs1 ht hvm hw hB hz1 hk1 hS1 => ?_)
  subst hw
  obtain ⟨hP1, hK1, hD1⟩ := hB
  rw [ht] at hP1
  obtain ⟨hP2, hD2⟩ := ap_joinL hP hD hk1 hF hP1 hD1
  exact kk H1 locs1 hP2 hD2 hS1
theorem lc_out (C0 : Cx p s m args meth c cc nL ret own g A X) (hP : va_P g.1 vwCl (lwW g (gmk g hm) σ τ o) H) (hdg : decode cc pc = .ok (.laload, 1))
    (kk : W p l e R s m args below meth c H locs kc ks Q (F0 m (pc + 1) ls (.long o :: rest))) : W p l e R s m args below meth c H locs kc ks Q (F0 m pc ls (.int 0 :: .ref (g.2.2 70) :: rest)) := by
  obtain ⟨hx, hb, hr, hml, hown, hts, hK, hlocks, hXX, hA, hXo⟩ := C0
  exact va_lald hx hb hK hP 65 4 rfl rfl (i := 0) (vin_l (by decide) (by decide)) hdg kk
theorem lc_sld {b L i : Nat} {xs : Nat → Int32} {jj : Int32} (j : Nat) (hx : p.tables.exec = Jvm.exec) (hb : c.code = cc) (hXs : va_X b L xs s s.heap) (hbl : b < s.heap.size) (hbA : ¬ A b) (hS : va_S A s.heap H locs) (hj : jj = nI j) (hlt : i + j < L) (hL : L ≤ 3072) (hdg : decode cc pc = .ok (.iaload, 1))
    (kk : W p l e R s m args below meth c H locs kc ks Q (F0 m (pc + 1) ls (.int (xs (i + j)) :: rest))) : W p l e R s m args below meth c H locs kc ks Q (F0 m pc ls (.int (nI i + jj) :: .ref b :: rest)) := by
  subst hj
  rw [nI_add]
  refine va_sld hx hb hXs hbl hbA hS (vp_in_nI hlt (by omega)) hdg ?_
  rw [nI_clamp (by omega)]
  exact kk
theorem lg_self (x : Int64) : lg_cmp x x = 0 := by
  have h : ¬ x > x := by
    show ¬ x < x
    rw [Int64.lt_iff_toInt_lt]; omega
  unfold lg_cmp
  rw [if_neg h, if_pos rfl]
end LAWC
