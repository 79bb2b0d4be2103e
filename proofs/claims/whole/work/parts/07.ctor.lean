/-! ===== worlds side by side; constructors: a world that grows ===== -/
theorem ap_1 {α : Type} {a b : List α} {k : Nat} {q : α} (h : a[k]? = some q) : (a ++ b)[k]? = some q := by
  have hk : k < a.length := (List.getElem?_eq_some_iff.mp h).1
  rw [List.getElem?_append_left hk]; exact h
theorem ap_2 {α : Type} {a b : List α} {k : Nat} {q : α} (h : b[k]? = some q) : (a ++ b)[a.length + k]? = some q := by
  rw [List.getElem?_append_right (Nat.le_add_right _ _), Nat.add_sub_cancel_left]; exact h
theorem ap_P1 {D : va_G} {cl : List vw_C} {a b : va_W} {H : Heap} (h : va_P D cl (a ++ b) H) : va_P D cl a H := fun k q hk => h k q (ap_1 hk)
theorem ap_P2 {D : va_G} {cl : List vw_C} {a b : va_W} {H : Heap} (h : va_P D cl (a ++ b) H) : va_P D cl b H := fun k q hk => h _ q (ap_2 hk)
theorem ap_D1 {A : Nat → Prop} {a b : va_W} (h : va_D A (a ++ b)) : va_D A a := ⟨fun i j p q hi hj e => h.1 i j p q (ap_1 hi) (ap_1 hj) e, fun k q hk => h.2 k q (ap_1 hk)⟩
theorem ap_D2 {A : Nat → Prop} {a b : va_W} (h : va_D A (a ++ b)) : va_D A b := ⟨fun i j p q hi hj e => Nat.add_left_cancel (h.1 _ _ p q (ap_2 hi) (ap_2 hj) e), fun k q hk => h.2 _ q (ap_2 hk)⟩
theorem ap_ne {A : Nat → Prop} {a b : va_W} (h : va_D A (a ++ b)) (i j : Nat) (p q : Nat × va_E) (hi : a[i]? = some p) (hj : b[j]? = some q) : p.1 ≠ q.1 := fun e => by
  have h1 := h.1 _ _ p q (ap_1 hi) (ap_2 hj) e
  have h2 : i < a.length := (List.getElem?_eq_some_iff.mp hi).1
  omega
/-- the part at the right was changed by a call -/
theorem ap_joinR {A : Nat → Prop} {D : va_G} {cl : List vw_C} {a b b1 : va_W} {H H1 : Heap} (hP : va_P D cl (a ++ b) H) (hD : va_D A (a ++ b)) (hk : ∀ q : Nat, q < H.size → ¬ va_A b H.size q → H1[q]? = H[q]?) (hF : ∀ q, va_A b H.size q → A q) (hP1 : va_P D cl b1 H1) (hD1 : va_D (va_A b H.size) b1) : va_P D cl (a ++ b1) H1 ∧ va_D A (a ++ b1) := by
  have out : ∀ (k : Nat) (q : Nat × va_E), a[k]? = some q → q.1 < H.size ∧ ¬ va_A b H.size q.1 := fun k q hq => by
    have hl := (hP k q (ap_1 hq)).lt
    refine ⟨hl, fun h => ?_⟩
    rcases h with ⟨j, e, h⟩ | h
    · exact ap_ne hD k j q (q.1, e) hq h rfl
    · omega
  refine ⟨va_P.app ((ap_P1 hP).kept fun k q hq => hk q.1 (out k q hq).1 (out k q hq).2) hP1, va_D.app (ap_D1 hD) (hD1.weaken fun k q _ h => hF q.1 h) fun i j x y hx hy e => ?_⟩
  exact (out i x hx).2 (by rw [e]; exact hD1.2 j y hy)
/-- the part at the left was changed by a call -/
theorem ap_joinL {A : Nat → Prop} {D : va_G} {cl : List vw_C} {a b a1 : va_W} {H H1 : Heap} (hP : va_P D cl (a ++ b) H) (hD : va_D A (a ++ b)) (hk : ∀ q : Nat, q < H.size → ¬ va_A a H.size q → H1[q]? = H[q]?) (hF : ∀ q, va_A a H.size q → A q) (hP1 : va_P D cl a1 H1) (hD1 : va_D (va_A a H.size) a1) : va_P D cl (a1 ++ b) H1 ∧ va_D A (a1 ++ b) := by
  have out : ∀ (k : Nat) (q : Nat × va_E), b[k]? = some q → q.1 < H.size ∧ ¬ va_A a H.size q.1 := fun k q hq => by
    have hl := (hP _ q (ap_2 hq)).lt
    refine ⟨hl, fun h => ?_⟩
    rcases h with ⟨j, e, h⟩ | h
    · exact ap_ne hD j k (q.1, e) q h hq rfl
    · omega
  refine ⟨va_P.app hP1 ((ap_P2 hP).kept fun k q hq => hk q.1 (out k q hq).1 (out k q hq).2), va_D.app (hD1.weaken fun k q _ h => hF q.1 h) (ap_D2 hD) fun i j x y hx hy e => ?_⟩
  exact (out j y hy).2 (by rw [← e]; exact hD1.2 i x hx)
theorem ap_A2 {a b : va_W} {sz q : Nat} (h : va_A b sz q) : va_A (a ++ b) sz q := h.elim (fun ⟨_, e, h⟩ => Or.inl ⟨_, e, ap_2 h⟩) Or.inr
theorem ap_A1 {a b : va_W} {sz q : Nat} (h : va_A a sz q) : va_A (a ++ b) sz q := h.elim (fun ⟨_, e, h⟩ => Or.inl ⟨_, e, ap_1 h⟩) Or.inr
def cn_pre (g : WG) (X : Xt) (w : va_W) (sz : Nat) (U : State) : Prop := U.heap.size = sz ∧ va_P g.1 vwCl w U.heap ∧ va_K g.1 vwCl (tyl g) U ∧ va_D (fun _ => True) w ∧ X (va_A w sz) U U.heap
abbrev qC (g : WG) (A : Nat → Prop) (w1 : (Nat → Nat) → va_W) : Array Value → State → Outcome → State → Prop := va_Qv (fun _ : Nat → Nat => True) (fun u t => va_P g.1 vwCl (w1 u) t.heap ∧ va_K g.1 vwCl (tyl g) t ∧ va_D A (w1 u)) A
def MetC (l : Launch) (y : MethodName) (ws : List Cond) (rm : Room) (mc ms : Nat) (g : WG) (X : Xt) (av : List Value) (w0 : va_W) (w1 : (Nat → Nat) → va_W) : Prop := ∀ sz : Nat, Met l y ws rm (va_Pc av (cn_pre g X w0 sz)) (qC g (va_A w0 sz) w1) mc ms (va_A w0 sz)
theorem cn_blind {g : WG} {X : Xt} {w : va_W} {sz : Nat} {av : List Value} (hX : xOK g X) : FrameBlind (va_Pc av (cn_pre g X w sz)) := fun a U gg mk q => by
  obtain ⟨q0, q1, qP, qK, qD, qX⟩ := q
  exact ⟨q0, q1, qP, va_K.moved (u := U) (U := U.calling gg mk a) (Vm.Alike.refl U.vm) qK, qD, hX.1 _ U (U.calling gg mk a) _ (State.WarmedH.refl U) qX⟩
section CTOR
variable {p : Program} {l : Launch} {e : Env} {R : Room} {s : State} {m : MethodId} {args : Array Value} {below : List Frame} {meth : Method} {c : Code} {H : Heap} {locs : List Loc} {Q : State → Prop}
variable {cc : ByteArray} {nL : Nat} {own : String} {g : WG} {A : Nat → Prop} {X : Xt} {pc kc ks mc ms : Nat} {ls : Array Slot} {ret : Option FieldType} {rest st : List Value} {w wr : va_W} {w1 : (Nat → Nat) → va_W}
theorem MetC_of {y : MethodName} {rm : Room} {maxL : Nat} {av : List Value} (hX : xOK g X) (hy : plainName y.cls = true) (hav : (lg_sl av).length ≤ maxL) (hin : y.name = "<init>")
    (body : ∀ (p : Program) (e : Env) (s : State) (m : MethodId) (args : Array Value) (below : List Frame) (meth : Method) (c : Code) (A : Nat → Prop), Cx p s m args meth c cc maxL none y.cls g A X → meth.name = "<init>" → ∀ ls : Array Slot, va_P g.1 vwCl w s.heap → va_D A w → va_S A s.heap s.heap [] → lv_has ls maxL (lv_args 0 av) → W p l e rm s m args below meth c s.heap [] 0 0 (MQ below (qC g A w1) args s mc ms A) (F0 m 0 ls [])) : MetC l y (Cond.code y cc maxL none :: wsA) rm mc ms g X av w w1 := by
  intro sz
  refine Met.ofW (cc := cc) (maxL := maxL) (ret := none) hy rfl ?_
  intro p e s m args below meth c s₁ B hml hv
  obtain ⟨rfl, hsz, hP, hK, hD0, hXX⟩ := hv
  have hts0 := atoms_spec (ws := Cond.code y cc maxL none :: wsA) B.pre
  have hts : ∀ w ∈ wsA, w.before _ s = true := fun w h => hts0 w (List.mem_cons_of_mem _ h)
  have hown : s.vm.findClass y.cls = some m.cls := findClass_of_methodNamed B.named
  subst hsz
  rw [lg_entry_eq]
  exact body p e s m _ below meth c _ ⟨B.exec, B.bytes, B.returns, hml, hown, hts, hK, B.notSynchronized, hXX, fun q h => Or.inr h, hX⟩ ((name_of_methodNamed B.named B.method).1.trans hin) _ hP (hD0.self (sz := s.heap.size)) va_S.rf (lv_entry av hav)
theorem cn_free (hD : va_D A (wr ++ w)) (hS : va_S A s.heap H locs) (hA : ∀ q : Nat, s.heap.size ≤ q → A q) : ∀ q, va_A w H.size q → A q := by
  intro q h
  rcases h with ⟨k, e, h⟩ | h
  · exact (ap_D2 hD).2 k (q, e) h
  · exact hA q (Nat.le_trans hS.1 h)
theorem cn_X (hXo : xOK g X) (hXX : X A s s.heap) (hS : va_S A s.heap H locs) (hF : ∀ q, va_A w H.size q → A q) {U : State} (hU : U.heap = H) (hW : s.WarmedH U.vm) : X (va_A w H.size) U U.heap := by
  rw [hU]
  exact hXo.1 _ s U _ hW (hXo.2.2.1 _ _ _ _ (hXo.2.1 _ _ _ _ hXX hS.2.1) hF)
theorem cn_obj {idx a : Nat} (C0 : Cx p s m args meth c cc nL ret own g A X) (hl : ls.size = nL) (hlink : Cond.methodLink own idx objectInit ∈ wsA) (hinst : Cond.instanceMethod objectInit ∈ wsA) (hcode : Cond.code objectInit ⟨#[0xb1]⟩ 1 none ∈ wsA) (hd : decode cc pc = .ok (.invokespecial idx, 3)) (hfr : 1 ≤ R.frames) (hlo : (rest.map fun v => v.category).sum + 12 ≤ R.locals)
    (kk : W p l e R s m args below meth c H locs kc ks Q (F0 m (pc + 3) ls rest)) : W p l e R s m args below meth c H locs kc ks Q (F0 m pc ls (.ref a :: rest)) := by
  obtain ⟨hx, hb, hr, hml, hown, hts, hK, hlocks, hXX, hA, hXo⟩ := C0
  exact W.objInit hx hb hown (hts _ hlink) (hts _ hinst) (hts _ hcode) rfl (hl.trans hml.symm) rfl hd hfr (by show 2 * 0 + _ + 12 ≤ _; omega) kk
theorem cn_newa {atype : ArrayType} {ty : FieldType} {t0 N' : Nat} {n : Int32} {a0 : vp_A} (C0 : Cx p s m args meth c cc nL ret own g A X) (hP : va_P g.1 vwCl w H) (hD : va_D A w) (hS : va_S A s.heap H locs) (harr : Cond.arrayClass ty ∈ wsA) (hty : newarray.typeOf atype = ty) (ht : (tyl g)[t0]? = some (g.2.1 t0, ty)) (hRA : va_RA s (g.2.1 t0) ty → s.vm.findClass ("[" ++ ty.toString) = some (g.2.1 t0)) (ha : vp_cell (g.2.1 t0) a0 = arrV (g.2.1 t0) N' (fun _ => defaultValue ty)) (hn : ¬ n < 0) (hN : n.toNatClampNeg = N') (hbytes : N' * componentBytes ty ≤ 536870912) (hcells : kc + 1 ≤ R.cells) (hslots : ks + N' ≤ R.slots) (hdg : decode cc pc = .ok (.newarray atype, 2))
    (kk : ∀ (q : Nat) (H1 : Heap), va_P g.1 vwCl (w ++ [(q, .inl (g.2.1 t0, a0))]) H1 → va_D A (w ++ [(q, .inl (g.2.1 t0, a0))]) → va_S A s.heap H1 locs → W p l e R s m args below meth c H1 locs (kc + 1) (ks + N') Q (F0 m (pc + 2) ls (.ref q :: rest))) : W p l e R s m args below meth c H locs kc ks Q (F0 m pc ls (.int n :: rest)) := by
  obtain ⟨hx, hb, hr, hml, hown, hts, hK, hlocks, hXX, hA, hXo⟩ := C0
  subst hty
  refine va_newaK hx hb (hts _ harr) rfl hdg rfl hn hN hbytes hcells hslots rfl fun H1 cA e1 z1 o1 hAr hNm => ?_
  have hcA : cA = g.2.1 t0 := Option.some.inj (hNm.symm.trans (hRA (hK.2 t0 _ ht).2))
  subst hcA
  have hk : ∀ (k : Nat) (x : Nat × va_E), w[k]? = some x → H1[x.1]? = H[x.1]? := fun k x hx => o1 x.1 ((hP k x hx).lt)
  refine kk H.size H1 ((hP.kept hk).app (fun k x hx => ?_)) (hD.push hP rfl (hA _ hS.1)) ⟨Nat.le_trans hS.1 (by omega), fun x h1 h2 => (o1 x (Nat.lt_of_lt_of_le h1 hS.1)).trans (hS.2.1 x h1 h2), hS.2.2⟩
  have hz : k < 1 := (List.getElem?_eq_some_iff.mp hx).1
  rw [show k = 0 by omega] at hx
  cases hx
  show H1[H.size]? = some (vp_cell _ _)
  rw [ha]
  exact e1
theorem cn_new {K : String} {T : u_T} {ty : Nat → FieldType} {N0 ci index : Nat} {fs : List Value} (C0 : Cx p s m args meth c cc nL ret own g A X) (hP : va_P g.1 vwCl w H) (hD : va_D A w) (hS : va_S A s.heap H locs) (hin : ∀ q ∈ u_ws K T N0, q ∈ wsA) (hty : ∀ k, k < N0 → parseFieldDescriptor (T k).2.2.1 = some (ty k)) (hcl : Cond.classLink own index K ∈ wsA) (hinst : Cond.instantiable K N0 ∈ wsA) (hini : Cond.initialized K ∈ wsA) (hc : vwCl[ci]? = some (K, T, N0)) (hfs : ∀ j, j < N0 → defaultValue (ty j) = vp_V fs j) (hcells : kc + 1 ≤ R.cells) (hslots : ks + N0 ≤ R.slots) (hdg : decode cc pc = .ok (.new index, 3))
    (kk : ∀ (q : Nat) (H1 : Heap), va_P g.1 vwCl (w ++ [(q, .inr (ci, fs))]) H1 → va_D A (w ++ [(q, .inr (ci, fs))]) → va_S A s.heap H1 locs → W p l e R s m args below meth c H1 locs (kc + 1) (ks + N0) Q (F0 m (pc + 3) ls (.ref q :: rest))) : W p l e R s m args below meth c H locs kc ks Q (F0 m pc ls rest) := by
  obtain ⟨hx, hb, hr, hml, hown, hts, hK, hlocks, hXX, hA, hXo⟩ := C0
  exact va_new hx hb hts hin ty hty hown (hts _ hcl) (hts _ hinst) (hts _ hini) hK hP hD hS hA hc hfs hcells hslots hdg kk
theorem cn_call {y : MethodName} {bytes : ByteArray} {maxL index n mc ms : Nat} {rm : Room} {b : Addr} (As : List Value) (C0 : Cx p s m args meth c cc nL ret own g A X) (hP : va_P g.1 vwCl (wr ++ w) H) (hD : va_D A (wr ++ w)) (hS : va_S A s.heap H locs) (hl : ls.size = nL)
    (hM : MetC l y (Cond.code y bytes maxL none :: wsA) rm mc ms g X (.ref b :: As) w w1) (hc : Cond.code y bytes maxL none ∈ wsA) (hi : Cond.instanceMethod y ∈ wsA) (hini : Cond.initialized y.cls ∈ wsA) (hlk : Cond.methodLink own index y ∈ wsA ∨ va_Nw (.methodLinkNest own index y "NodPost") s) (hyn : y.name = "<init>") (hrc : rm.cells = mc) (hrs : rm.slots = ms)
    (hd : y.cls ≠ "java/lang/invoke/MethodHandle" ∧ y.cls ≠ "java/lang/invoke/VarHandle" ∧ (parseMethodDescriptor y.desc).map (fun d => d.parameters.length) = some n) (hR : rm.frames + 1 ≤ R.frames ∧ 8 + (maxL + 11) + rm.locals ≤ R.locals) (hn : As.length = n) (hst : st = As.reverse ++ .ref b :: rest) (hrm : (rest.map fun v => v.category).sum ≤ 8) (hdg : decode cc pc = .ok (.invokespecial index, 3)) (hkr : kc + mc ≤ R.cells ∧ ks + ms ≤ R.slots)
    (kk : ∀ (u : Nat → Nat) (H1 : Heap) (locs1 : List Loc), va_P g.1 vwCl (wr ++ w1 u) H1 → va_D A (wr ++ w1 u) → va_S A s.heap H1 locs1 → W p l e R s m args below meth c H1 locs1 (kc + mc) (ks + ms) Q (F0 m (pc + 3) ls rest)) : W p l e R s m args below meth c H locs kc ks Q (F0 m pc ls st) := by
  obtain ⟨hx, hb, hr, hml, hown, hts, hK, hlocks, hXX, hA, hXo⟩ := C0
  have hF := cn_free hD hS hA
  subst hst
  have hG : GoodIn wsA (Cond.code y bytes maxL none :: wsA) := fun w h => (List.mem_cons.mp h).elim (fun e => ⟨by rw [e]; exact hc, good_of_word (by rw [e]; exact goodA _ hc)⟩) (fun h => ⟨h, good_of_word (goodA w h)⟩)
  have hpre : PreS s H (va_Pc (.ref b :: As) (cn_pre g X w H.size)) (.ref b :: As) := ⟨cn_blind hXo, fun U hU hW => ⟨rfl, by rw [hU], by rw [hU]; exact ap_P2 hP, va_K.moved hW.alike hK, (ap_D2 hD).weaken (fun _ _ _ _ => trivial), cn_X hXo hXX hS hF hU hW⟩⟩
  have hrun : va_Run p l e R s m args below meth c H locs kc ks mc ms (F0 m pc ls (As.reverse ++ .ref b :: rest)) rest (qC g (va_A w H.size) w1 (Value.ref b :: As).toArray) (va_A w H.size) := by
    rcases hlk with h1 | h1
    · exact va_runI (As := As) (rest := rest) ⟨hx, hb, hml, hown, hts⟩ (hM H.size) ⟨callB_of n hts hG rfl hrc hrs (hts _ hini) (hts _ h1) hd hR, hyn, hts _ hi⟩ hpre rfl hn hl rfl (lv_room hrm) hdg hkr
    · exact va_runIN (As := As) (rest := rest) ⟨hx, hb, hml, hown, hts⟩ (hM H.size) ⟨va_cnB n hts hG rfl hrc hrs h1 (hts _ hini) hd hR, hyn, hts _ hi⟩ hpre rfl hn hl rfl (lv_room hrm) hdg hkr
  refine va_callv hrun hS (fun q _ h => hF q h) hF (fun u t H1 locs1 ht hvm hw hB hz1 hk1 hS1 => ?_)
  obtain ⟨hP1, hK1, hD1⟩ := hB
  rw [ht] at hP1
  obtain ⟨hP2, hD2⟩ := ap_joinR hP hD hk1 hF hP1 hD1
  exact kk u H1 locs1 hP2 hD2 hS1
theorem cn_ret (C : Cx p s m args meth c cc nL none own g A X) (u : Nat → Nat) (hP : va_P g.1 vwCl (w1 u) H) (hD : va_D A (w1 u)) (hS : va_S A s.heap H locs) (hd : decode cc pc = .ok (.return_, 1)) : W p l e R s m args below meth c H locs kc ks (MQ below (qC g A w1) args s kc ks A) (F0 m pc ls []) := by
  obtain ⟨hx, hb, hr, hml, hown, hts, hK, hlocks, hX, hA, hXo⟩ := C
  exact W.vret hx hb hr (fun t ht hW => ⟨⟨u, rfl, trivial, by rw [ht]; exact hP, va_K.moved hW.alike hK, hD⟩, hS.F ht⟩) hS.2.2 hd
theorem cn_newq {index N' : Nat} {n : Int32} (C0 : Cx p s m args meth c cc nL ret own g A X) (hP : va_P g.1 vwCl w H) (hD : va_D A w) (hS : va_S A s.heap H locs) (hclink : (Cond.classLink own index "java/lang/String").before args s = true) (hover : va_AO "java/lang/String" s) (hn : ¬ n < 0) (hN : n.toNatClampNeg = N') (hbytes : N' * 4 ≤ 536870912) (hcells : kc + 1 ≤ R.cells) (hslots : ks + N' ≤ R.slots) (hdg : decode cc pc = .ok (.anewarray index, 3))
    (kk : ∀ (q : Nat) (H1 : Heap), va_P g.1 vwCl (w ++ [(q, .inl (g.2.1 3, N', .inr (.inr (.inr (.inr (fun _ => none))))))]) H1 → va_D A (w ++ [(q, .inl (g.2.1 3, N', .inr (.inr (.inr (.inr (fun _ => none))))))]) → va_S A s.heap H1 locs → W p l e R s m args below meth c H1 locs (kc + 1) (ks + N') Q (F0 m (pc + 3) ls (.ref q :: rest))) : W p l e R s m args below meth c H locs kc ks Q (F0 m pc ls (.int n :: rest)) := by
  obtain ⟨hx, hb, hr, hml, hown, hts, hK, hlocks, hXX, hA, hXo⟩ := C0
  refine va_newq hx hb hown hclink hover hK hP hD hS hA hn hN hbytes hcells hslots hdg (fun q cA H1 hK1 hP1 hD1 hS1 => ?_)
  obtain ⟨kA, comp, -, -, -, h4⟩ : ∃ (kA : Class) (comp : ClassId), s.vm.classes[g.2.1 3]? = some kA ∧ kA.kind = .array comp (.object "java/lang/String") ∧ s.vm.findClass "java/lang/String" = some comp ∧ s.vm.findClass ("[" ++ (FieldType.object "java/lang/String").toString) = some (g.2.1 3) := (hK.2 3 _ rfl).2
  obtain ⟨kA', comp', -, -, -, h5⟩ : ∃ (kA : Class) (comp : ClassId), s.vm.classes[cA]? = some kA ∧ kA.kind = .array comp (.object "java/lang/String") ∧ s.vm.findClass "java/lang/String" = some comp ∧ s.vm.findClass ("[" ++ (FieldType.object "java/lang/String").toString) = some cA := (hK1.2 5 _ rfl).2
  cases Option.some.inj (h4.symm.trans h5)
  exact kk q H1 hP1 hD1 hS1
theorem st_any {v : Nat} (ho : va_O "java/lang/String" v A s s.heap) (hS : va_S A s.heap H locs) : va_Any "java/lang/String" s H v := by
  obtain ⟨cell, h1, h2, h3, -⟩ := ho.kept hS.2.1
  obtain ⟨kC, hkC, -⟩ := Vm.findClass_spec h3
  exact ⟨cell, h1, h2, ⟨kC, hkC⟩, fun comp h => by rw [Option.some.inj (h3.symm.trans h)]; exact va_asg _ _⟩
end CTOR
