/-! ===== the words in which every method is said: a world of cells whose ints are Sg (cell, place), pure functions into Option, blocks ===== -/
abbrev Sg : Type := Nat → Nat → Int32
abbrev WG : Type := va_G × (Nat → ClassId) × (Nat → Nat)
abbrev Wf : Type := WG → Sg → va_W
abbrev Xt : Type := (Nat → Prop) → State → Heap → Prop
/-- the texts: 0 to 13 the reference's, 14 + i the one of the class's token i -/
def tx : List (List Int32) := [[102, 97, 114, 109], [115, 104, 101, 112, 104, 101, 114, 100], [115, 101, 101, 110], [102, 97, 114], [117, 112], [110, 111, 100, 115], [109, 105, 115, 116], [116, 105, 99, 107], [110, 111, 116], [97, 110, 100], [111, 114], [115, 105, 103, 104, 116], [114, 101, 115, 116], [109, 105, 110, 100, 115], [], [], [], [], [59], [40], [41], [43], [45], [42], [47], [60], [61], [102, 97, 114, 109], [115, 104, 101, 112, 104, 101, 114, 100], [115, 105, 103, 104, 116], [114, 101, 115, 116], [109, 105, 110, 100, 115], [111, 114], [97, 110, 100], [110, 111, 116], [109, 105, 115, 116], [115, 101, 101, 110], [102, 97, 114], [117, 112], [110, 111, 100, 115], [116, 105, 99, 107]]
def tlen (i : Nat) : Nat := (tx.getD i []).length
def tby (i j : Nat) : Int32 := (tx.getD i []).getD j 0
def tch (i j : Nat) : Int32 := tby i j &&& 255
theorem tlen_lt : ∀ i, i < 41 → tlen i < 100 := by decide
def tkNm : List String := ["END", "BAD", "NUMBER", "WORD", "SEMICOLON", "OPEN", "CLOSE", "PLUS", "MINUS", "TIMES", "OVER", "LESS", "EQUAL", "FARM", "SHEPHERD", "SIGHT", "REST", "MINDS", "OR", "AND", "NOT", "MIST", "SEEN", "FAR", "UP", "NODS", "TICK"]
def tkI (i : Nat) : Int32 := ([0, 0, 0, 0, 0, 0, 0, -12, -13, -14, -15, -10, -11, 0, 0, 0, 0, 0, -8, -9, -7, -5, -1, -2, -3, -4, -6] : List Int32).getD i 0
def txS (g : WG) (A : Nat → Prop) (U : State) (H : Heap) : Prop := ∀ i : Nat, i < 41 → va_O "java/lang/String" (g.2.2 (100 + i)) A U H ∧ va_OF "java/lang/String" "coder" "B" (.int 0) (g.2.2 (100 + i)) A U H ∧ va_OF "java/lang/String" "value" "[B" (.ref (g.2.2 (150 + i))) (g.2.2 (100 + i)) A U H ∧ va_T .byte (g.2.2 (150 + i)) (tlen i) (fun j => .int (tby i j)) A U H
def tkS (g : WG) (A : Nat → Prop) (U : State) (H : Heap) : Prop :=
  (∀ i : Nat, i < 27 → va_Z "NodPost$Token" (tkNm.getD i "") "LNodPost$Token;" (.ref (g.2.2 (300 + i))) A U H ∧ va_O "NodPost$Token" (g.2.2 (300 + i)) A U H ∧ va_OF "NodPost$Token" "text" "Ljava/lang/String;" (.ref (g.2.2 (100 + (14 + i)))) (g.2.2 (300 + i)) A U H ∧ va_OF "NodPost$Token" "item" "I" (.int (tkI i)) (g.2.2 (300 + i)) A U H) ∧
  va_Z "NodPost$Token" "ALL" "[LNodPost$Token;" (.ref (g.2.2 330)) A U H ∧ va_T (.object "NodPost$Token") (g.2.2 330) 27 (fun j => .ref (g.2.2 (300 + j))) A U H ∧ ∀ i j : Nat, i < 27 → j < 27 → g.2.2 (300 + i) = g.2.2 (300 + j) → i = j
def lds : List (Nat × String × Nat) := [(244, "not", 8), (252, "and", 9), (257, "or", 10), (27, "mist", 6), (262, "sight", 11), (264, "rest", 12), (266, "minds", 13), (11, "farm", 0), (13, "shepherd", 1), (19, "seen", 2), (21, "far", 3), (23, "up", 4), (25, "nods", 5), (29, "tick", 7)]
/-- the exceptions' words: IllegalArgumentException by the kit's own chain -/
def exI : List Cond := vx_atS RX11 90 "java/lang/IllegalArgumentException" ["java/lang/RuntimeException", "java/lang/Exception"]
def nsN : String := "java/util/NoSuchElementException"
def rtN : String := "java/lang/RuntimeException"
def exL : List Cond := [.methodLink RX11 186 (Bundle.initS nsN), .instantiable nsN 6, .castable nsN nsN, .selects nsN Bundle.tFill0 Bundle.tFill0, .selects nsN Bundle.tFill Bundle.tFill, .lays nsN Bundle.tN "cause" "Ljava/lang/Throwable;", .lays nsN Bundle.tN "stackTrace" Bundle.steD, .lays nsN Bundle.tN "suppressedExceptions" Bundle.listD, .lays nsN Bundle.tN "detailMessage" "Ljava/lang/String;", .isRef (.static Bundle.tN "UNASSIGNED_STACK" Bundle.steD), .isRef (.static Bundle.tN "SUPPRESSED_SENTINEL" Bundle.listD), .fieldLink Bundle.tN 198 Bundle.tN "backtrace" "Ljava/lang/Object;", .lays Bundle.tN Bundle.tN "backtrace" "Ljava/lang/Object;", .lays nsN Bundle.tN "backtrace" "Ljava/lang/Object;"]
def exA : List Cond := Bundle.throwableAtoms ++ (Bundle.throwableSAtoms ++ (Bundle.passSAtoms nsN rtN 13 prog_31_method_4_code ++ (Bundle.chainSAtoms rtN ["java/lang/Exception"] ++ exL)))
def exN : List Cond := exA.filter vx_no
def nsts : List (String × Nat × MethodName) := [(RX3, 11, yX9_init), (RX9, 45, yX4_init), (RX11, 28, yX9_init), (RX11, 35, yX1_init), (RX1, 9, yX7_init), (RX1, 18, yX0_init), (RX1, 25, yX5_init), (RX2, 11, yX7_init)]
def msgs : List (Nat × String) := [(88, "the tape has not so many bytes"), (184, "no such count"), (225, "no such farm"), (215, "no such value of a farm"), (229, "out of bounds"), (227, "no such question"), (353, "both are one")]
/-- what a method may know of the launch's constants beside its world -/
def XF (g : WG) (A : Nat → Prop) (U : State) (H : Heap) : Prop :=
  (va_Nw (.methodLinkNest "NodPost$State" 37 yX11_copyFarms "NodPost") U ∧ va_Nw (.methodLinkNest "NodPost$Upland" 53 yX11_copyFarms "NodPost") U ∧ (∀ q ∈ nsts, va_Nw (.methodLinkNest q.1 q.2.1 q.2.2 "NodPost") U) ∧ va_AO "java/lang/String" U ∧ va_Nc "java/lang/IllegalArgumentException" "java/util/NoSuchElementException" U) ∧
  (vx_Zq Bundle.tN "UNASSIGNED_STACK" Bundle.steD A U H ∧ vx_Zq Bundle.tN "SUPPRESSED_SENTINEL" Bundle.listD A U H) ∧
  (∀ (a : Array Value), ∀ w ∈ exI ++ exN, w.before a U = true) ∧ (∀ q ∈ msgs, ∃ sa : Nat, vk_R RX11 q.1 q.2 sa U) ∧
  txS g A U H ∧ tkS g A U H ∧ va_Z "java/lang/String" "COMPACT_STRINGS" "Z" (.int 1) A U H ∧ va_Zq "jdk/internal/util/Preconditions" "SIOOBE_FORMATTER" "Ljava/util/function/BiFunction;" A U H ∧ va_Nw (.fieldLinkNest "NodPost$Reader" 98 "NodPost$Token" "ALL" "[LNodPost$Token;" "NodPost") U ∧ (∀ q ∈ lds, vk_R RX12 q.1 q.2.1 (g.2.2 (100 + q.2.2)) U)
/-- what is said of the launch's constants lasts -/
def xOK (g : WG) (X : Xt) : Prop := (∀ (A : Nat → Prop) (u U : State) (H : Heap), u.WarmedH U.vm → X A u H → X A U H) ∧ (∀ (A : Nat → Prop) (U : State) (H H1 : Heap), X A U H → (∀ a : Nat, a < H.size → ¬ A a → H1[a]? = H[a]?) → X A U H1) ∧ (∀ (A B : Nat → Prop) (U : State) (H : Heap), X A U H → (∀ q, B q → A q) → X B U H) ∧ (∀ (A : Nat → Prop) (U : State) (H : Heap), X A U H → XF g A U H)
abbrev tyl (g : WG) : List (ClassId × FieldType) := [(g.2.1 0, .int), (g.2.1 1, .byte), (g.2.1 2, .boolean), (g.2.1 3, .object "java/lang/String"), (g.2.1 4, .long)]
def wr (σ : Sg) (k j : Nat) (v : Int32) : Sg := fun c => if c = k then upd (σ k) j v else σ c
def wrR (σ : Sg) (k : Nat) (f : Nat → Int32) : Sg := fun c => if c = k then f else σ c
def bd {α β : Type} (a : α) (k : α → Option β) : Option β := k a
theorem bd_s {α β : Type} {a : α} {k : α → Option β} {z : β} (h : bd a k = some z) : ∃ x, x = a ∧ k x = some z := ⟨a, rfl, h⟩
theorem gd_s {c : Prop} [Decidable c] {β : Type} {k : Option β} {z : β} (h : (if c then none else k) = some z) : ¬ c ∧ k = some z := by
  by_cases hc : c
  · rw [if_pos hc] at h; cases h
  · rw [if_neg hc] at h; exact ⟨hc, h⟩
theorem bi_s {α β : Type} {o : Option α} {k : α → Option β} {z : β} (h : o.bind k = some z) : ∃ q, o = some q ∧ k q = some z := by
  cases o with
  | none => cases h
  | some q => exact ⟨q, rfl, h⟩
/-- a loop: its body says 0 and the next state, or another number and the state at that way out -/
def it {S : Type} (f : S → Option (Nat × S)) : Nat → S → Option (Nat × S)
  | 0, _ => none
  | n + 1, s => (f s).bind fun r => if r.1 = 0 then it f n r.2 else some r
theorem it_W {S : Type} {f : S → Option (Nat × S)} (P : S → Prop) (K : Nat × S → Prop) (hs : ∀ s r, f s = some r → (r.1 = 0 → P r.2) → (¬ r.1 = 0 → K r) → P s) : ∀ (n : Nat) (s : S) (r : Nat × S), it f n s = some r → K r → P s
  | 0, s, r, h, _ => by cases h
  | n + 1, s, r, h, k => by
    obtain ⟨q, hq, h⟩ := bi_s (show (f s).bind (fun r => if r.1 = 0 then it f n r.2 else some r) = some r from h)
    by_cases h0 : q.1 = 0
    · rw [if_pos h0] at h
      exact hs s q hq (fun _ => it_W P K hs n q.2 r h k) (fun e => absurd h0 e)
    · rw [if_neg h0] at h
      cases h
      exact hs s _ hq (fun e => absurd e h0) (fun _ => k)
def ct_pre (wf : Wf) (g : WG) (X : Xt) (σ : Sg) (sz : Nat) (U : State) : Prop := U.heap.size = sz ∧ va_P g.1 vwCl (wf g σ) U.heap ∧ va_K g.1 vwCl (tyl g) U ∧ va_D (fun _ => True) (wf g σ) ∧ X (va_A (wf g σ) sz) U U.heap
def ct_B (wf : Wf) (g : WG) (A : Nat → Prop) (u : Sg) (t : State) : Prop := va_P g.1 vwCl (wf g u) t.heap ∧ va_K g.1 vwCl (tyl g) t ∧ va_D A (wf g u)
abbrev qI (wf : Wf) (g : WG) (A : Nat → Prop) (r : Int32) (σ' : Sg) : Array Value → State → Outcome → State → Prop := va_Qi (fun (a : Int32) (u : Sg) => a = r ∧ u = σ') (ct_B wf g A) A
abbrev qV (wf : Wf) (g : WG) (A : Nat → Prop) (σ' : Sg) : Array Value → State → Outcome → State → Prop := va_Qv (fun (u : Sg) => u = σ') (ct_B wf g A) A
/-- a method that returns an int, or nothing: from σ to σ' -/
def MetI (l : Launch) (y : MethodName) (ws : List Cond) (rm : Room) (wf : Wf) (g : WG) (X : Xt) (av : List Value) (σ : Sg) (r : Int32) (σ' : Sg) : Prop := ∀ sz : Nat, Met l y ws rm (va_Pc av (ct_pre wf g X σ sz)) (qI wf g (va_A (wf g σ) sz) r σ') 0 0 (va_A (wf g σ) sz)
def MetV (l : Launch) (y : MethodName) (ws : List Cond) (rm : Room) (wf : Wf) (g : WG) (X : Xt) (av : List Value) (σ : Sg) (σ' : Sg) : Prop := ∀ sz : Nat, Met l y ws rm (va_Pc av (ct_pre wf g X σ sz)) (qV wf g (va_A (wf g σ) sz) σ') 0 0 (va_A (wf g σ) sz)
theorem ct_blind {wf : Wf} {g : WG} {X : Xt} {σ : Sg} {sz : Nat} {av : List Value} (hX : xOK g X) : FrameBlind (va_Pc av (ct_pre wf g X σ sz)) := fun a U gg mk q => by
  obtain ⟨q0, q1, qP, qK, qD, qX⟩ := q
  exact ⟨q0, q1, qP, va_K.moved (u := U) (U := U.calling gg mk a) (Vm.Alike.refl U.vm) qK, qD, hX.1 _ U (U.calling gg mk a) _ (State.WarmedH.refl U) qX⟩
/-- what holds all over a method's body -/
def Cx (p : Program) (s : State) (m : MethodId) (args : Array Value) (meth : Method) (c : Code) (cc : ByteArray) (nL : Nat) (ret : Option FieldType) (own : String) (g : WG) (A : Nat → Prop) (X : Xt) : Prop :=
  p.tables.exec = Jvm.exec ∧ c.code = cc ∧ meth.sig.returnType = ret ∧ c.maxLocals = nL ∧ s.vm.findClass own = some m.cls ∧ (∀ w ∈ wsA, w.before args s = true) ∧ va_K g.1 vwCl (tyl g) s ∧ meth.locks = false ∧ X A s s.heap ∧ (∀ q : Nat, s.heap.size ≤ q → A q) ∧ xOK g X
/-- being at a place: with these locals and this stack, in every heap that holds the world at σ -/
def Bk (wf : Wf) (p : Program) (l : Launch) (e : Env) (R : Room) (s : State) (m : MethodId) (args : Array Value) (below : List Frame) (meth : Method) (c : Code) (nL : Nat) (g : WG) (A : Nat → Prop) (Q : State → Prop) (kc ks : Nat) (pc : Nat) (lv : List (Nat × Value)) (st : List Value) (σ : Sg) : Prop :=
  ∀ (H : Heap) (locs : List Loc) (ls : Array Slot), va_P g.1 vwCl (wf g σ) H → va_D A (wf g σ) → va_S A s.heap H locs → lv_has ls nL lv → W p l e R s m args below meth c H locs kc ks Q (F0 m pc ls st)
section BASE
variable {p : Program} {l : Launch} {e : Env} {R : Room} {s : State} {m : MethodId} {args : Array Value} {below : List Frame} {meth : Method} {c : Code} {H : Heap} {locs : List Loc} {Q : State → Prop}
variable {cc : ByteArray} {nL : Nat} {own : String} {g : WG} {A : Nat → Prop} {X : Xt} {wf : Wf} {σ σ' : Sg} {pc kc ks : Nat} {ls : Array Slot} {r : Int32}
theorem bk_iret (C : Cx p s m args meth c cc nL (some .int) own g A X) (hP : va_P g.1 vwCl (wf g σ) H) (hD : va_D A (wf g σ)) (hS : va_S A s.heap H locs) {v : Int32} (h : some (v, σ) = some (r, σ')) (hd : decode cc pc = .ok (.ireturn, 1)) : W p l e R s m args below meth c H locs kc ks (MQ below (qI wf g A r σ') args s kc ks A) (F0 m pc ls [.int v]) := by
  obtain ⟨hx, hb, hr, hml, hown, hts, hK, hlocks, hX, hA, hXo⟩ := C
  have e1 : v = r := congrArg Prod.fst (Option.some.inj h)
  have e2 : σ = σ' := congrArg Prod.snd (Option.some.inj h)
  exact W.iret (v := v) hx hb hr (fun t ht hW => ⟨⟨v, σ, rfl, ⟨e1, e2⟩, by rw [ht]; exact hP, va_K.moved hW.alike hK, hD⟩, hS.F ht⟩) hS.2.2 hd
theorem zn_n {x : Int32} (h : x = 0 ∨ x = 1) : narrow .boolean (.int x) = .int x := by rcases h with rfl | rfl <;> rfl
theorem zn_f {x : Int32} (h : x = 0 ∨ x = 1) : fits .boolean (.int x) = true := by rcases h with rfl | rfl <;> rfl
theorem vin_l {i : Int32} {n : Nat} (h0 : ¬ i < 0) (h : i.toNatClampNeg < n) : vp_in i n := fun q => q.elim h0 (fun h2 => by omega)
theorem bk_zret (C : Cx p s m args meth c cc nL (some .boolean) own g A X) (hP : va_P g.1 vwCl (wf g σ) H) (hD : va_D A (wf g σ)) (hS : va_S A s.heap H locs) {v : Int32} (hv : v = 0 ∨ v = 1) (h : some (v, σ) = some (r, σ')) (hd : decode cc pc = .ok (.ireturn, 1)) : W p l e R s m args below meth c H locs kc ks (MQ below (qI wf g A r σ') args s kc ks A) (F0 m pc ls [.int v]) := by
  obtain ⟨hx, hb, hr, hml, hown, hts, hK, hlocks, hX, hA, hXo⟩ := C
  have e1 : v = r := congrArg Prod.fst (Option.some.inj h)
  have e2 : σ = σ' := congrArg Prod.snd (Option.some.inj h)
  exact W.zret (v := v) hx hb hr (zn_n hv) (fun t ht hW => ⟨⟨v, σ, rfl, ⟨e1, e2⟩, by rw [ht]; exact hP, va_K.moved hW.alike hK, hD⟩, hS.F ht⟩) hS.2.2 hd
theorem bk_vret (C : Cx p s m args meth c cc nL none own g A X) (hP : va_P g.1 vwCl (wf g σ) H) (hD : va_D A (wf g σ)) (hS : va_S A s.heap H locs) (h : some σ = some σ') (hd : decode cc pc = .ok (.return_, 1)) : W p l e R s m args below meth c H locs kc ks (MQ below (qV wf g A σ') args s kc ks A) (F0 m pc ls []) := by
  obtain ⟨hx, hb, hr, hml, hown, hts, hK, hlocks, hX, hA, hXo⟩ := C
  have e1 : σ = σ' := Option.some.inj h
  exact W.vret hx hb hr (fun t ht hW => ⟨⟨σ, rfl, e1, by rw [ht]; exact hP, va_K.moved hW.alike hK, hD⟩, hS.F ht⟩) hS.2.2 hd
theorem bk_free (hD : va_D A (wf g σ)) (hS : va_S A s.heap H locs) (hA : ∀ q : Nat, s.heap.size ≤ q → A q) : ∀ q, va_A (wf g σ) H.size q → A q := by
  intro q h
  rcases h with ⟨k, e, h⟩ | h
  · exact hD.2 k (q, e) h
  · exact hA q (Nat.le_trans hS.1 h)
end BASE
section BASE2
variable {p : Program} {l : Launch} {e : Env} {R : Room} {s : State} {m : MethodId} {args : Array Value} {below : List Frame} {meth : Method} {c : Code} {H : Heap} {locs : List Loc} {Q : State → Prop}
variable {cc : ByteArray} {nL : Nat} {own : String} {g : WG} {A : Nat → Prop} {X : Xt} {wf : Wf} {σ σ' σ1 : Sg} {pc kc ks : Nat} {ls : Array Slot} {r : Int32} {ret : Option FieldType} {rest st : List Value}
theorem MetI_of {y : MethodName} {rm : Room} {maxL : Nat} {av : List Value} (hX : xOK g X) (hy : plainName y.cls = true) (hav : (lg_sl av).length ≤ maxL)
    (body : ∀ (p : Program) (e : Env) (s : State) (m : MethodId) (args : Array Value) (below : List Frame) (meth : Method) (c : Code) (A : Nat → Prop), Cx p s m args meth c cc maxL ret y.cls g A X → Bk wf p l e rm s m args below meth c maxL g A (MQ below (qI wf g A r σ') args s 0 0 A) 0 0 0 (lv_args 0 av) [] σ) : MetI l y (Cond.code y cc maxL ret :: wsA) rm wf g X av σ r σ' := by
  intro sz
  refine Met.ofW (cc := cc) (maxL := maxL) (ret := ret) hy rfl ?_
  intro p e s m args below meth c s₁ B hml hv
  obtain ⟨rfl, hsz, hP, hK, hD0, hXX⟩ := hv
  have hts0 := atoms_spec (ws := Cond.code y cc maxL ret :: wsA) B.pre
  have hts : ∀ w ∈ wsA, w.before _ s = true := fun w h => hts0 w (List.mem_cons_of_mem _ h)
  have hown : s.vm.findClass y.cls = some m.cls := findClass_of_methodNamed B.named
  subst hsz
  rw [lg_entry_eq]
  exact body p e s m _ below meth c _ ⟨B.exec, B.bytes, B.returns, hml, hown, hts, hK, B.notSynchronized, hXX, fun q h => Or.inr h, hX⟩ s.heap [] _ hP (hD0.self (sz := s.heap.size)) va_S.rf (lv_entry av hav)
theorem MetV_of {y : MethodName} {rm : Room} {maxL : Nat} {av : List Value} (hX : xOK g X) (hy : plainName y.cls = true) (hav : (lg_sl av).length ≤ maxL)
    (body : ∀ (p : Program) (e : Env) (s : State) (m : MethodId) (args : Array Value) (below : List Frame) (meth : Method) (c : Code) (A : Nat → Prop), Cx p s m args meth c cc maxL ret y.cls g A X → Bk wf p l e rm s m args below meth c maxL g A (MQ below (qV wf g A σ') args s 0 0 A) 0 0 0 (lv_args 0 av) [] σ) : MetV l y (Cond.code y cc maxL ret :: wsA) rm wf g X av σ σ' := by
  intro sz
  refine Met.ofW (cc := cc) (maxL := maxL) (ret := ret) hy rfl ?_
  intro p e s m args below meth c s₁ B hml hv
  obtain ⟨rfl, hsz, hP, hK, hD0, hXX⟩ := hv
  have hts0 := atoms_spec (ws := Cond.code y cc maxL ret :: wsA) B.pre
  have hts : ∀ w ∈ wsA, w.before _ s = true := fun w h => hts0 w (List.mem_cons_of_mem _ h)
  have hown : s.vm.findClass y.cls = some m.cls := findClass_of_methodNamed B.named
  subst hsz
  rw [lg_entry_eq]
  exact body p e s m _ below meth c _ ⟨B.exec, B.bytes, B.returns, hml, hown, hts, hK, B.notSynchronized, hXX, fun q h => Or.inr h, hX⟩ s.heap [] _ hP (hD0.self (sz := s.heap.size)) va_S.rf (lv_entry av hav)
theorem bk_X (hXo : xOK g X) (hXX : X A s s.heap) (hS : va_S A s.heap H locs) (hF : ∀ q, va_A (wf g σ) H.size q → A q) {U : State} (hU : U.heap = H) (hW : s.WarmedH U.vm) : X (va_A (wf g σ) H.size) U U.heap := by
  rw [hU]
  exact hXo.1 _ s U _ hW (hXo.2.2.1 _ _ _ _ (hXo.2.1 _ _ _ _ hXX hS.2.1) hF)
/-- a call of ours, by the places of its words among all words -/
theorem cwA_V {K : String} {index maxL : Nat} {y : MethodName} {bytes : ByteArray} {rm : Room} (n : Nat) (hts : ∀ w ∈ wsA, w.before args s = true) (hc : Cond.code y bytes maxL ret ∈ wsA) (hl : Cond.methodLink own index y ∈ wsA) (hi : Cond.instanceMethod y ∈ wsA) (hse : Cond.selects K y y ∈ wsA) (hini : Cond.initialized y.cls ∈ wsA) {mc ms : Nat} (hrc : rm.cells = mc) (hrs : rm.slots = ms)
    (hd : y.cls ≠ "java/lang/invoke/MethodHandle" ∧ y.cls ≠ "java/lang/invoke/VarHandle" ∧ (parseMethodDescriptor y.desc).map (fun d => d.parameters.length) = some n) (hR : rm.frames + 1 ≤ R.frames ∧ 8 + (maxL + 11) + rm.locals ≤ R.locals) :
    CallW R s args own K index y bytes maxL ret (Cond.code y bytes maxL ret :: wsA) rm mc ms n :=
  ⟨callB_of n hts (fun w h => (List.mem_cons.mp h).elim (fun e => ⟨by rw [e]; exact hc, good_of_word (by rw [e]; exact goodA _ hc)⟩) (fun h => ⟨h, good_of_word (goodA w h)⟩)) rfl hrc hrs (hts _ hini) (hts _ hl) hd hR, hts _ hi, hts _ hse⟩
theorem cwA_S {index maxL : Nat} {y : MethodName} {bytes : ByteArray} {rm : Room} (n : Nat) (hts : ∀ w ∈ wsA, w.before args s = true) (hc : Cond.code y bytes maxL ret ∈ wsA) (hl : Cond.methodLink own index y ∈ wsA) (hi : Cond.static y ∈ wsA) (hini : Cond.initialized y.cls ∈ wsA) {mc ms : Nat} (hrc : rm.cells = mc) (hrs : rm.slots = ms)
    (hd : y.cls ≠ "java/lang/invoke/MethodHandle" ∧ y.cls ≠ "java/lang/invoke/VarHandle" ∧ (parseMethodDescriptor y.desc).map (fun d => d.parameters.length) = some n) (hR : rm.frames + 1 ≤ R.frames ∧ 8 + (maxL + 11) + rm.locals ≤ R.locals) :
    CallB R s args own index y bytes maxL ret (Cond.code y bytes maxL ret :: wsA) rm mc ms n ∧ (Cond.static y).before args s = true :=
  ⟨callB_of n hts (fun w h => (List.mem_cons.mp h).elim (fun e => ⟨by rw [e]; exact hc, good_of_word (by rw [e]; exact goodA _ hc)⟩) (fun h => ⟨h, good_of_word (goodA w h)⟩)) rfl hrc hrs (hts _ hini) (hts _ hl) hd hR, hts _ hi⟩
theorem bk_VI {y : MethodName} {bytes : ByteArray} {maxL index n ci q0 N0 : Nat} {ret' : Option FieldType} {ws : List Cond} {rm : Room} {K : String} {b : Addr} {fs : List Value} {T0 : u_T} (As : List Value) (C0 : Cx p s m args meth c cc nL ret own g A X) (hP : va_P g.1 vwCl (wf g σ) H) (hD : va_D A (wf g σ)) (hS : va_S A s.heap H locs) (hl : ls.size = nL)
    (hM : MetI l y ws rm wf g X (.ref b :: As) σ r σ') (cw : CallW R s args own K index y bytes maxL ret' ws rm 0 0 n) (he : (wf g σ)[q0]? = some (b, .inr (ci, fs))) (hc : vwCl[ci]? = some (K, T0, N0)) (hn : As.length = n) (hst : st = As.reverse ++ .ref b :: rest) (hrm : (rest.map fun v => v.category).sum ≤ 8) (hdg : decode cc pc = .ok (.invokevirtual index, 3)) (hkr : kc ≤ R.cells ∧ ks ≤ R.slots)
    (kk : ∀ (H1 : Heap) (locs1 : List Loc), va_P g.1 vwCl (wf g σ') H1 → va_D A (wf g σ') → va_S A s.heap H1 locs1 → W p l e R s m args below meth c H1 locs1 kc ks Q (F0 m (pc + 3) ls (.int r :: rest))) : W p l e R s m args below meth c H locs kc ks Q (F0 m pc ls st) := by
  obtain ⟨hx, hb, hr, hml, hown, hts, hK, hlocks, hXX, hA, hXo⟩ := C0
  have hF := bk_free hD hS hA
  subst hst
  refine va_calli (va_runV (As := As) (rest := rest) ⟨hx, hb, hml, hown, hts⟩ (hM H.size) cw ⟨ct_blind hXo, va_recv hK hP hc he, fun U hU hW => ⟨rfl, by rw [hU], by rw [hU]; exact hP, va_K.moved hW.alike hK, hD.weaken (fun _ _ _ _ => trivial), bk_X hXo hXX hS hF hU hW⟩⟩ rfl hn hl rfl (lv_room hrm) hdg hkr) hS (fun q _ h => hF q h) hF (fun r1 u t H1 locs1 ht hvm hw hB hz1 hk1 hS1 => ?_)
  obtain ⟨rfl, rfl⟩ := hw
  obtain ⟨hP1, hK1, hD1⟩ := hB
  rw [ht] at hP1
  exact kk H1 locs1 hP1 (hD1.weaken (fun _ q _ h => hF q.1 h)) hS1
theorem bk_VV {y : MethodName} {bytes : ByteArray} {maxL index n ci q0 N0 : Nat} {ret' : Option FieldType} {ws : List Cond} {rm : Room} {K : String} {b : Addr} {fs : List Value} {T0 : u_T} (As : List Value) (C0 : Cx p s m args meth c cc nL ret own g A X) (hP : va_P g.1 vwCl (wf g σ) H) (hD : va_D A (wf g σ)) (hS : va_S A s.heap H locs) (hl : ls.size = nL)
    (hM : MetV l y ws rm wf g X (.ref b :: As) σ σ') (cw : CallW R s args own K index y bytes maxL ret' ws rm 0 0 n) (he : (wf g σ)[q0]? = some (b, .inr (ci, fs))) (hc : vwCl[ci]? = some (K, T0, N0)) (hn : As.length = n) (hst : st = As.reverse ++ .ref b :: rest) (hrm : (rest.map fun v => v.category).sum ≤ 8) (hdg : decode cc pc = .ok (.invokevirtual index, 3)) (hkr : kc ≤ R.cells ∧ ks ≤ R.slots)
    (kk : ∀ (H1 : Heap) (locs1 : List Loc), va_P g.1 vwCl (wf g σ') H1 → va_D A (wf g σ') → va_S A s.heap H1 locs1 → W p l e R s m args below meth c H1 locs1 kc ks Q (F0 m (pc + 3) ls rest)) : W p l e R s m args below meth c H locs kc ks Q (F0 m pc ls st) := by
  obtain ⟨hx, hb, hr, hml, hown, hts, hK, hlocks, hXX, hA, hXo⟩ := C0
  have hF := bk_free hD hS hA
  subst hst
  refine va_callv (va_runV (As := As) (rest := rest) ⟨hx, hb, hml, hown, hts⟩ (hM H.size) cw ⟨ct_blind hXo, va_recv hK hP hc he, fun U hU hW => ⟨rfl, by rw [hU], by rw [hU]; exact hP, va_K.moved hW.alike hK, hD.weaken (fun _ _ _ _ => trivial), bk_X hXo hXX hS hF hU hW⟩⟩ rfl hn hl rfl (lv_room hrm) hdg hkr) hS (fun q _ h => hF q h) hF (fun u t H1 locs1 ht hvm hw hB hz1 hk1 hS1 => ?_)
  subst hw
  obtain ⟨hP1, hK1, hD1⟩ := hB
  rw [ht] at hP1
  exact kk H1 locs1 hP1 (hD1.weaken (fun _ q _ h => hF q.1 h)) hS1
theorem bk_SI {y : MethodName} {bytes : ByteArray} {maxL index n : Nat} {ret' : Option FieldType} {ws : List Cond} {rm : Room} (As : List Value) (C0 : Cx p s m args meth c cc nL ret own g A X) (hP : va_P g.1 vwCl (wf g σ) H) (hD : va_D A (wf g σ)) (hS : va_S A s.heap H locs) (hl : ls.size = nL)
    (hM : MetI l y ws rm wf g X As σ r σ') (cw : CallB R s args own index y bytes maxL ret' ws rm 0 0 n ∧ (Cond.static y).before args s = true) (hn : As.length = n) (hst : st = As.reverse ++ rest) (hrm : (rest.map fun v => v.category).sum ≤ 8) (hdg : decode cc pc = .ok (.invokestatic index, 3)) (hkr : kc ≤ R.cells ∧ ks ≤ R.slots)
    (kk : ∀ (H1 : Heap) (locs1 : List Loc), va_P g.1 vwCl (wf g σ') H1 → va_D A (wf g σ') → va_S A s.heap H1 locs1 → W p l e R s m args below meth c H1 locs1 kc ks Q (F0 m (pc + 3) ls (.int r :: rest))) : W p l e R s m args below meth c H locs kc ks Q (F0 m pc ls st) := by
  obtain ⟨hx, hb, hr, hml, hown, hts, hK, hlocks, hXX, hA, hXo⟩ := C0
  have hF := bk_free hD hS hA
  subst hst
  refine va_calli (va_runS (As := As) (rest := rest) ⟨hx, hb, hml, hown, hts⟩ (hM H.size) cw ⟨ct_blind hXo, fun U hU hW => ⟨rfl, by rw [hU], by rw [hU]; exact hP, va_K.moved hW.alike hK, hD.weaken (fun _ _ _ _ => trivial), bk_X hXo hXX hS hF hU hW⟩⟩ rfl hn hl rfl (lv_room hrm) hdg hkr) hS (fun q _ h => hF q h) hF (fun r1 u t H1 locs1 ht hvm hw hB hz1 hk1 hS1 => ?_)
  obtain ⟨rfl, rfl⟩ := hw
  obtain ⟨hP1, hK1, hD1⟩ := hB
  rw [ht] at hP1
  exact kk H1 locs1 hP1 (hD1.weaken (fun _ q _ h => hF q.1 h)) hS1
theorem bk_SV {y : MethodName} {bytes : ByteArray} {maxL index n : Nat} {ret' : Option FieldType} {ws : List Cond} {rm : Room} (As : List Value) (C0 : Cx p s m args meth c cc nL ret own g A X) (hP : va_P g.1 vwCl (wf g σ) H) (hD : va_D A (wf g σ)) (hS : va_S A s.heap H locs) (hl : ls.size = nL)
    (hM : MetV l y ws rm wf g X As σ σ') (cw : CallB R s args own index y bytes maxL ret' ws rm 0 0 n ∧ (Cond.static y).before args s = true) (hn : As.length = n) (hst : st = As.reverse ++ rest) (hrm : (rest.map fun v => v.category).sum ≤ 8) (hdg : decode cc pc = .ok (.invokestatic index, 3)) (hkr : kc ≤ R.cells ∧ ks ≤ R.slots)
    (kk : ∀ (H1 : Heap) (locs1 : List Loc), va_P g.1 vwCl (wf g σ') H1 → va_D A (wf g σ') → va_S A s.heap H1 locs1 → W p l e R s m args below meth c H1 locs1 kc ks Q (F0 m (pc + 3) ls rest)) : W p l e R s m args below meth c H locs kc ks Q (F0 m pc ls st) := by
  obtain ⟨hx, hb, hr, hml, hown, hts, hK, hlocks, hXX, hA, hXo⟩ := C0
  have hF := bk_free hD hS hA
  subst hst
  refine va_callv (va_runS (As := As) (rest := rest) ⟨hx, hb, hml, hown, hts⟩ (hM H.size) cw ⟨ct_blind hXo, fun U hU hW => ⟨rfl, by rw [hU], by rw [hU]; exact hP, va_K.moved hW.alike hK, hD.weaken (fun _ _ _ _ => trivial), bk_X hXo hXX hS hF hU hW⟩⟩ rfl hn hl rfl (lv_room hrm) hdg hkr) hS (fun q _ h => hF q h) hF (fun u t H1 locs1 ht hvm hw hB hz1 hk1 hS1 => ?_)
  subst hw
  obtain ⟨hP1, hK1, hD1⟩ := hB
  rw [ht] at hP1
  exact kk H1 locs1 hP1 (hD1.weaken (fun _ q _ h => hF q.1 h)) hS1
theorem bk_get {ref K : String} {T : u_T} {N0 ci index q0 k : Nat} {b : Addr} {fs : List Value} {v : Value} (C0 : Cx p s m args meth c cc nL ret own g A X) (hP : va_P g.1 vwCl (wf g σ) H) (hin : ∀ w ∈ u_ws K T N0, w ∈ wsA) (he : (wf g σ)[q0]? = some (b, .inr (ci, fs))) (hc : vwCl[ci]? = some (K, T, N0)) (hk : k < N0) (hlink : Cond.fieldLink own index ref (T k).2.1 (T k).2.2.1 ∈ wsA) (href : (T k).1 = ref) (hv : fs[k]? = some v) (hdg : decode cc pc = .ok (.getfield index, 3))
    (kk : W p l e R s m args below meth c H locs kc ks Q (F0 m (pc + 3) ls (v :: rest))) : W p l e R s m args below meth c H locs kc ks Q (F0 m pc ls (.ref b :: rest)) := by
  obtain ⟨hx, hb, hr, hml, hown, hts, hK, hlocks, hXX, hA, hXo⟩ := C0
  subst href
  exact va_get hx hb hts hin hown hK hP q0 he hc k hk (hts _ hlink) (fun _ h9 => h9) hv hdg kk
theorem bk_put {ref K : String} {T : u_T} {ty0 : Nat → FieldType} {N0 ci index q0 k : Nat} {b : Addr} {fs : List Value} {v : Value} {ty : FieldType} (C0 : Cx p s m args meth c cc nL ret own g A X) (hP : va_P g.1 vwCl (wf g σ) H) (hD : va_D A (wf g σ)) (hS : va_S A s.heap H locs) (hin : ∀ w ∈ u_ws K T N0, w ∈ wsA) (hty : ∀ k, k < N0 → parseFieldDescriptor (T k).2.2.1 = some (ty0 k)) (hnm : ∀ a, a < N0 → ∀ b, b < N0 → a ≠ b → (T a).2.1 ≠ (T b).2.1) (he : (wf g σ)[q0]? = some (b, .inr (ci, fs))) (hc : vwCl[ci]? = some (K, T, N0)) (hk : k < N0) (hlink : Cond.fieldLink own index ref (T k).2.1 (T k).2.2.1 ∈ wsA) (href : (T k).1 = ref) (hfin : (T k).2.2.2 = false) (htk : ty0 k = ty) (hn : narrow ty v = v) (hfit : fits ty v = true) (hlen : k < fs.length)
    (hset : (wf g σ).set q0 (b, .inr (ci, fs.set k v)) = wf g σ1) (hdg : decode cc pc = .ok (.putfield index, 3))
    (kk : ∀ (H1 : Heap) (locs1 : List Loc), va_P g.1 vwCl (wf g σ1) H1 → va_D A (wf g σ1) → va_S A s.heap H1 locs1 → W p l e R s m args below meth c H1 locs1 kc ks Q (F0 m (pc + 3) ls rest)) : W p l e R s m args below meth c H locs kc ks Q (F0 m pc ls (v :: .ref b :: rest)) := by
  obtain ⟨hx, hb, hr, hml, hown, hts, hK, hlocks, hXX, hA, hXo⟩ := C0
  subst href
  rw [← hset] at kk
  exact va_put hx hb hts hin ty0 hty hnm hown hK hP hD hS q0 he hc k hk (hts _ hlink) (fun _ h9 => h9) hfin (by rw [hty k hk, htk]) hn hfit hlen hdg kk
theorem bk_iald {q0 n j : Nat} {b : Addr} {f : Nat → Int32} {i : Int32} (C0 : Cx p s m args meth c cc nL ret own g A X) (hP : va_P g.1 vwCl (wf g σ) H) (he : (wf g σ)[q0]? = some (b, .inl (g.2.1 0, n, .inl f))) (hin : vp_in i n) (hj : i.toNatClampNeg = j) (hdg : decode cc pc = .ok (.iaload, 1))
    (kk : W p l e R s m args below meth c H locs kc ks Q (F0 m (pc + 1) ls (.int (f j) :: rest))) : W p l e R s m args below meth c H locs kc ks Q (F0 m pc ls (.int i :: .ref b :: rest)) := by
  obtain ⟨hx, hb, hr, hml, hown, hts, hK, hlocks, hXX, hA, hXo⟩ := C0
  subst hj
  exact va_iald hx hb hK hP q0 0 he rfl hin hdg kk
theorem bk_iast {q0 n j : Nat} {b : Addr} {f : Nat → Int32} {i x : Int32} (C0 : Cx p s m args meth c cc nL ret own g A X) (hP : va_P g.1 vwCl (wf g σ) H) (hD : va_D A (wf g σ)) (hS : va_S A s.heap H locs) (he : (wf g σ)[q0]? = some (b, .inl (g.2.1 0, n, .inl f))) (hin : vp_in i n) (hj : i.toNatClampNeg = j)
    (hset : (wf g σ).set q0 (b, .inl (g.2.1 0, n, .inl (upd f j x))) = wf g σ1) (hdg : decode cc pc = .ok (.iastore, 1))
    (kk : ∀ (H1 : Heap) (locs1 : List Loc), va_P g.1 vwCl (wf g σ1) H1 → va_D A (wf g σ1) → va_S A s.heap H1 locs1 → W p l e R s m args below meth c H1 locs1 kc ks Q (F0 m (pc + 1) ls rest)) : W p l e R s m args below meth c H locs kc ks Q (F0 m pc ls (.int x :: .int i :: .ref b :: rest)) := by
  obtain ⟨hx, hb, hr, hml, hown, hts, hK, hlocks, hXX, hA, hXo⟩ := C0
  subst hj
  rw [← hset] at kk
  exact va_iast hx hb hK hP hD hS q0 0 he rfl hin hdg kk
theorem bk_alen {q0 t0 : Nat} {b : Addr} {cA : ClassId} {x : vp_A} {ty : FieldType} {v : Int32} (C0 : Cx p s m args meth c cc nL ret own g A X) (hP : va_P g.1 vwCl (wf g σ) H) (he : (wf g σ)[q0]? = some (b, .inl (cA, x))) (ht : (tyl g)[t0]? = some (cA, ty)) (hv : Int32.ofNat x.1 = v) (hdg : decode cc pc = .ok (.arraylength, 1))
    (kk : W p l e R s m args below meth c H locs kc ks Q (F0 m (pc + 1) ls (.int v :: rest))) : W p l e R s m args below meth c H locs kc ks Q (F0 m pc ls (.ref b :: rest)) := by
  obtain ⟨hx, hb, hr, hml, hown, hts, hK, hlocks, hXX, hA, hXo⟩ := C0
  exact va_alen hx hb hK hP q0 t0 he ht hv hdg kk
theorem bk_bald {q0 n j : Nat} {b : Addr} {f : Nat → Int32} {i : Int32} (C0 : Cx p s m args meth c cc nL ret own g A X) (hP : va_P g.1 vwCl (wf g σ) H) (he : (wf g σ)[q0]? = some (b, .inl (g.2.1 1, n, .inl f))) (hin : vp_in i n) (hj : i.toNatClampNeg = j) (hdg : decode cc pc = .ok (.baload, 1))
    (kk : W p l e R s m args below meth c H locs kc ks Q (F0 m (pc + 1) ls (.int (f j) :: rest))) : W p l e R s m args below meth c H locs kc ks Q (F0 m pc ls (.int i :: .ref b :: rest)) := by
  obtain ⟨hx, hb, hr, hml, hown, hts, hK, hlocks, hXX, hA, hXo⟩ := C0
  subst hj
  exact va_bald hx hb hK hP q0 1 he rfl hin hdg kk
theorem bk_bast {q0 n j : Nat} {b : Addr} {f : Nat → Int32} {i x : Int32} (C0 : Cx p s m args meth c cc nL ret own g A X) (hP : va_P g.1 vwCl (wf g σ) H) (hD : va_D A (wf g σ)) (hS : va_S A s.heap H locs) (he : (wf g σ)[q0]? = some (b, .inl (g.2.1 1, n, .inl f))) (hin : vp_in i n) (hj : i.toNatClampNeg = j)
    (hset : (wf g σ).set q0 (b, .inl (g.2.1 1, n, .inl (upd f j (vp_nar .byte x)))) = wf g σ1) (hdg : decode cc pc = .ok (.bastore, 1))
    (kk : ∀ (H1 : Heap) (locs1 : List Loc), va_P g.1 vwCl (wf g σ1) H1 → va_D A (wf g σ1) → va_S A s.heap H1 locs1 → W p l e R s m args below meth c H1 locs1 kc ks Q (F0 m (pc + 1) ls rest)) : W p l e R s m args below meth c H locs kc ks Q (F0 m pc ls (.int x :: .int i :: .ref b :: rest)) := by
  obtain ⟨hx, hb, hr, hml, hown, hts, hK, hlocks, hXX, hA, hXo⟩ := C0
  subst hj
  rw [← hset] at kk
  exact va_bast hx hb hK hP hD hS q0 1 he rfl hin hdg kk
theorem bk_zald {q0 n j : Nat} {b : Addr} {f : Nat → Int32} {i : Int32} (C0 : Cx p s m args meth c cc nL ret own g A X) (hP : va_P g.1 vwCl (wf g σ) H) (he : (wf g σ)[q0]? = some (b, .inl (g.2.1 2, n, .inl f))) (hin : vp_in i n) (hj : i.toNatClampNeg = j) (hdg : decode cc pc = .ok (.baload, 1))
    (kk : W p l e R s m args below meth c H locs kc ks Q (F0 m (pc + 1) ls (.int (f j) :: rest))) : W p l e R s m args below meth c H locs kc ks Q (F0 m pc ls (.int i :: .ref b :: rest)) := by
  obtain ⟨hx, hb, hr, hml, hown, hts, hK, hlocks, hXX, hA, hXo⟩ := C0
  subst hj
  exact va_zald hx hb hK hP q0 2 he rfl hin hdg kk
theorem bk_zast {q0 n j : Nat} {b : Addr} {f : Nat → Int32} {i x : Int32} (C0 : Cx p s m args meth c cc nL ret own g A X) (hP : va_P g.1 vwCl (wf g σ) H) (hD : va_D A (wf g σ)) (hS : va_S A s.heap H locs) (he : (wf g σ)[q0]? = some (b, .inl (g.2.1 2, n, .inl f))) (hin : vp_in i n) (hj : i.toNatClampNeg = j)
    (hset : (wf g σ).set q0 (b, .inl (g.2.1 2, n, .inl (upd f j (vp_nar .boolean x)))) = wf g σ1) (hdg : decode cc pc = .ok (.bastore, 1))
    (kk : ∀ (H1 : Heap) (locs1 : List Loc), va_P g.1 vwCl (wf g σ1) H1 → va_D A (wf g σ1) → va_S A s.heap H1 locs1 → W p l e R s m args below meth c H1 locs1 kc ks Q (F0 m (pc + 1) ls rest)) : W p l e R s m args below meth c H locs kc ks Q (F0 m pc ls (.int x :: .int i :: .ref b :: rest)) := by
  obtain ⟨hx, hb, hr, hml, hown, hts, hK, hlocks, hXX, hA, hXo⟩ := C0
  subst hj
  rw [← hset] at kk
  exact va_zast hx hb hK hP hD hS q0 2 he rfl hin hdg kk
/-- int rows copied whole or in part -/
theorem bk_copy {index q0 q1 n0 n1 : Nat} {a0 a1 : Addr} {f h : Nat → Int32} {sp dp n : Int32} {js jd jn : Nat} (C0 : Cx p s m args meth c cc nL ret own g A X) (hP : va_P g.1 vwCl (wf g σ) H) (hD : va_D A (wf g σ)) (hS : va_S A s.heap H locs) (hl : ls.size = nL) (hlink : Cond.methodLink own index arraycopyName ∈ wsA) (hnat : Cond.native arraycopyName ∈ wsA) (hstat : Cond.static arraycopyName ∈ wsA) (hini : Cond.initialized "java/lang/System" ∈ wsA)
    (he0 : (wf g σ)[q0]? = some (a0, .inl (g.2.1 0, n0, .inl f))) (he1 : (wf g σ)[q1]? = some (a1, .inl (g.2.1 0, n1, .inl h))) (h1 : ¬ sp < 0) (h2 : ¬ dp < 0) (h3 : ¬ n < 0) (e1 : sp.toNatClampNeg = js) (e2 : dp.toNatClampNeg = jd) (e3 : n.toNatClampNeg = jn) (h4 : js + jn ≤ n0) (h5 : jd + jn ≤ n1) (hframes : 1 ≤ R.frames) (hlocals : (rest.map fun v => v.category).sum + (nativeFrameWords "java/lang/System" "arraycopy" 5 + 11) ≤ R.locals)
    (hset : (wf g σ).set q1 (a1, .inl (g.2.1 0, n1, .inl (va_cpy f h js jd jn))) = wf g σ1) (hdg : decode cc pc = .ok (.invokestatic index, 3))
    (kk : ∀ (H1 : Heap) (locs1 : List Loc), va_P g.1 vwCl (wf g σ1) H1 → va_D A (wf g σ1) → va_S A s.heap H1 locs1 → W p l e R s m args below meth c H1 locs1 kc ks Q (F0 m (pc + 3) ls rest)) : W p l e R s m args below meth c H locs kc ks Q (F0 m pc ls (.int n :: .int dp :: .ref a1 :: .int sp :: .ref a0 :: rest)) := by
  obtain ⟨hx, hb, hr, hml, hown, hts, hK, hlocks, hXX, hA, hXo⟩ := C0
  subst e1; subst e2; subst e3
  rw [← hset] at kk
  exact va_copyi hx hb (hml.trans hl.symm) hown (hts _ hlink) (hts _ hnat) (hts _ hstat) (hts _ hini) hK hP hD hS q0 q1 0 0 he0 he1 rfl rfl rfl h1 h2 h3 h4 h5 (fun _ _ => rfl) hframes hlocals hdg kk
/-- a static method of a nest mate -/
theorem bk_NV {y : MethodName} {bytes : ByteArray} {maxL index n : Nat} {host : String} {rm : Room} (As : List Value) (C0 : Cx p s m args meth c cc nL ret own g A X) (hP : va_P g.1 vwCl (wf g σ) H) (hD : va_D A (wf g σ)) (hS : va_S A s.heap H locs) (hl : ls.size = nL)
    (hM : MetV l y (Cond.code y bytes maxL none :: wsA) rm wf g X As σ σ') (hc : Cond.code y bytes maxL none ∈ wsA) (hi : Cond.static y ∈ wsA) (hini : Cond.initialized y.cls ∈ wsA) (hN : va_Nw (.methodLinkNest own index y host) s) (hrc : rm.cells = 0) (hrs : rm.slots = 0)
    (hd : y.cls ≠ "java/lang/invoke/MethodHandle" ∧ y.cls ≠ "java/lang/invoke/VarHandle" ∧ (parseMethodDescriptor y.desc).map (fun d => d.parameters.length) = some n) (hR : rm.frames + 1 ≤ R.frames ∧ 8 + (maxL + 11) + rm.locals ≤ R.locals) (hn : As.length = n) (hst : st = As.reverse ++ rest) (hrm : (rest.map fun v => v.category).sum ≤ 8) (hdg : decode cc pc = .ok (.invokestatic index, 3)) (hkr : kc ≤ R.cells ∧ ks ≤ R.slots)
    (kk : ∀ (H1 : Heap) (locs1 : List Loc), va_P g.1 vwCl (wf g σ') H1 → va_D A (wf g σ') → va_S A s.heap H1 locs1 → W p l e R s m args below meth c H1 locs1 kc ks Q (F0 m (pc + 3) ls rest)) : W p l e R s m args below meth c H locs kc ks Q (F0 m pc ls st) := by
  obtain ⟨hx, hb, hr, hml, hown, hts, hK, hlocks, hXX, hA, hXo⟩ := C0
  have hF := bk_free hD hS hA
  subst hst
  have cw : va_CN R s args own index y host bytes maxL none (Cond.code y bytes maxL none :: wsA) rm 0 0 n := va_cnB n hts (fun w h => (List.mem_cons.mp h).elim (fun e => ⟨by rw [e]; exact hc, good_of_word (by rw [e]; exact goodA _ hc)⟩) (fun h => ⟨h, good_of_word (goodA w h)⟩)) rfl hrc hrs hN (hts _ hini) hd hR
  refine va_callv (va_runSN (As := As) (rest := rest) ⟨hx, hb, hml, hown, hts⟩ (hM H.size) ⟨cw, hts _ hi, trivial⟩ ⟨ct_blind hXo, fun U hU hW => ⟨rfl, by rw [hU], by rw [hU]; exact hP, va_K.moved hW.alike hK, hD.weaken (fun _ _ _ _ => trivial), bk_X hXo hXX hS hF hU hW⟩⟩ rfl hn hl rfl (lv_room hrm) hdg hkr) hS (fun q _ h => hF q h) hF (fun u t H1 locs1 ht hvm hw hB hz1 hk1 hS1 => ?_)
  subst hw
  obtain ⟨hP1, hK1, hD1⟩ := hB
  rw [ht] at hP1
  exact kk H1 locs1 hP1 (hD1.weaken (fun _ q _ h => hF q.1 h)) hS1
end BASE2
/-! ===== methods that answer a cell of the world ===== -/
abbrev qR (wf : Wf) (g : WG) (A : Nat → Prop) (ad : Nat) (σ' : Sg) : Array Value → State → Outcome → State → Prop := va_Qr (fun (u : Sg) => u = σ') (fun u a t => a = ad ∧ ct_B wf g A u t) A
def MetR (l : Launch) (y : MethodName) (ws : List Cond) (rm : Room) (wf : Wf) (g : WG) (X : Xt) (av : List Value) (σ : Sg) (ad : Nat) (σ' : Sg) : Prop := ∀ sz : Nat, Met l y ws rm (va_Pc av (ct_pre wf g X σ sz)) (qR wf g (va_A (wf g σ) sz) ad σ') 0 0 (va_A (wf g σ) sz)
/-! ===== methods that throw: (0, answer, world) or (1: NoSuchElement, 2: IllegalArgument, _, world) ===== -/
abbrev Zt : Type := Nat × Int32 × Sg
def exE (k : Nat) (E : String) : Prop := (k = 1 ∧ E = "java/util/NoSuchElementException") ∨ (k = 2 ∧ E = "java/lang/IllegalArgumentException")
abbrev qTi (wf : Wf) (g : WG) (A : Nat → Prop) (z : Zt) : Array Value → State → Outcome → State → Prop := va_Qi (fun (a : Int32) (u : Sg) => z.1 = 0 ∧ a = z.2.1 ∧ u = z.2.2) (ct_B wf g A) A
abbrev qTv (wf : Wf) (g : WG) (A : Nat → Prop) (z : Zt) : Array Value → State → Outcome → State → Prop := va_Qv (fun (u : Sg) => z.1 = 0 ∧ u = z.2.2) (ct_B wf g A) A
abbrev xT (wf : Wf) (g : WG) (A : Nat → Prop) (z : Zt) : String → State → State → Prop := vx_X (fun (u : Sg) => u = z.2.2) (fun E u t => exE z.1 E ∧ ct_B wf g A u t) A
def MetTi (l : Launch) (y : MethodName) (ws : List Cond) (rm : Room) (mc ms : Nat) (wf : Wf) (g : WG) (X : Xt) (av : List Value) (σ : Sg) (z : Zt) : Prop := ∀ sz : Nat, vx_Met l y ws rm (va_Pc av (ct_pre wf g X σ sz)) (qTi wf g (va_A (wf g σ) sz) z) (xT wf g (va_A (wf g σ) sz) z) mc ms (va_A (wf g σ) sz)
def MetTv (l : Launch) (y : MethodName) (ws : List Cond) (rm : Room) (mc ms : Nat) (wf : Wf) (g : WG) (X : Xt) (av : List Value) (σ : Sg) (z : Zt) : Prop := ∀ sz : Nat, vx_Met l y ws rm (va_Pc av (ct_pre wf g X σ sz)) (qTv wf g (va_A (wf g σ) sz) z) (xT wf g (va_A (wf g σ) sz) z) mc ms (va_A (wf g σ) sz)
section BASE3
variable {p : Program} {l : Launch} {e : Env} {R : Room} {s : State} {m : MethodId} {args : Array Value} {below : List Frame} {meth : Method} {c : Code} {H : Heap} {locs : List Loc} {Q : State → Prop}
variable {cc : ByteArray} {nL : Nat} {own : String} {g : WG} {A : Nat → Prop} {X : Xt} {wf : Wf} {σ σ' σ1 : Sg} {pc kc ks mc ms : Nat} {ls : Array Slot} {r : Int32} {ret : Option FieldType} {rest st : List Value} {z Z : Zt}
theorem MetR_of {y : MethodName} {rm : Room} {maxL ad : Nat} {av : List Value} (hX : xOK g X) (hy : plainName y.cls = true) (hav : (lg_sl av).length ≤ maxL)
    (body : ∀ (p : Program) (e : Env) (s : State) (m : MethodId) (args : Array Value) (below : List Frame) (meth : Method) (c : Code) (A : Nat → Prop), Cx p s m args meth c cc maxL ret y.cls g A X → Bk wf p l e rm s m args below meth c maxL g A (MQ below (qR wf g A ad σ') args s 0 0 A) 0 0 0 (lv_args 0 av) [] σ) : MetR l y (Cond.code y cc maxL ret :: wsA) rm wf g X av σ ad σ' := by
  intro sz
  refine Met.ofW (cc := cc) (maxL := maxL) (ret := ret) hy rfl ?_
  intro p e s m args below meth c s₁ B hml hv
  obtain ⟨rfl, hsz, hP, hK, hD0, hXX⟩ := hv
  have hts0 := atoms_spec (ws := Cond.code y cc maxL ret :: wsA) B.pre
  have hts : ∀ w ∈ wsA, w.before _ s = true := fun w h => hts0 w (List.mem_cons_of_mem _ h)
  have hown : s.vm.findClass y.cls = some m.cls := findClass_of_methodNamed B.named
  subst hsz
  rw [lg_entry_eq]
  exact body p e s m _ below meth c _ ⟨B.exec, B.bytes, B.returns, hml, hown, hts, hK, B.notSynchronized, hXX, fun q h => Or.inr h, hX⟩ s.heap [] _ hP (hD0.self (sz := s.heap.size)) va_S.rf (lv_entry av hav)
theorem bk_aret {n : String} {a ad : Nat} (C : Cx p s m args meth c cc nL (some (.object n)) own g A X) (hP : va_P g.1 vwCl (wf g σ) H) (hD : va_D A (wf g σ)) (hS : va_S A s.heap H locs) (ha : a = ad) (h : some σ = some σ') (hd : decode cc pc = .ok (.areturn, 1)) : W p l e R s m args below meth c H locs kc ks (MQ below (qR wf g A ad σ') args s kc ks A) (F0 m pc ls [.ref a]) := by
  obtain ⟨hx, hb, hr, hml, hown, hts, hK, hlocks, hX, hA, hXo⟩ := C
  have e1 : σ = σ' := Option.some.inj h
  exact W.aret (v := .ref a) hx hb hr (Or.inl ⟨n, rfl⟩) (Or.inr ⟨a, rfl⟩) (fun t ht hW => ⟨⟨σ, a, rfl, e1, ha, by rw [ht]; exact hP, va_K.moved hW.alike hK, hD⟩, hS.F ht⟩) hS.2.2 hd
theorem bk_VR {y : MethodName} {bytes : ByteArray} {maxL index n ci q0 N0 ad : Nat} {ret' : Option FieldType} {ws : List Cond} {rm : Room} {K : String} {b : Addr} {fs : List Value} {T0 : u_T} (As : List Value) (C0 : Cx p s m args meth c cc nL ret own g A X) (hP : va_P g.1 vwCl (wf g σ) H) (hD : va_D A (wf g σ)) (hS : va_S A s.heap H locs) (hl : ls.size = nL)
    (hM : MetR l y ws rm wf g X (.ref b :: As) σ ad σ') (cw : CallW R s args own K index y bytes maxL ret' ws rm 0 0 n) (he : (wf g σ)[q0]? = some (b, .inr (ci, fs))) (hc : vwCl[ci]? = some (K, T0, N0)) (hn : As.length = n) (hst : st = As.reverse ++ .ref b :: rest) (hrm : (rest.map fun v => v.category).sum ≤ 8) (hdg : decode cc pc = .ok (.invokevirtual index, 3)) (hkr : kc ≤ R.cells ∧ ks ≤ R.slots)
    (kk : ∀ (H1 : Heap) (locs1 : List Loc), va_P g.1 vwCl (wf g σ') H1 → va_D A (wf g σ') → va_S A s.heap H1 locs1 → W p l e R s m args below meth c H1 locs1 kc ks Q (F0 m (pc + 3) ls (.ref ad :: rest))) : W p l e R s m args below meth c H locs kc ks Q (F0 m pc ls st) := by
  obtain ⟨hx, hb, hr, hml, hown, hts, hK, hlocks, hXX, hA, hXo⟩ := C0
  have hF := bk_free hD hS hA
  subst hst
  refine va_callr (va_runV (As := As) (rest := rest) ⟨hx, hb, hml, hown, hts⟩ (hM H.size) cw ⟨ct_blind hXo, va_recv hK hP hc he, fun U hU hW => ⟨rfl, by rw [hU], by rw [hU]; exact hP, va_K.moved hW.alike hK, hD.weaken (fun _ _ _ _ => trivial), bk_X hXo hXX hS hF hU hW⟩⟩ rfl hn hl rfl (lv_room hrm) hdg hkr) hS (fun q _ h => hF q h) hF (fun u ra t H1 locs1 ht hvm hw hB hz1 hk1 hS1 => ?_)
  subst hw
  obtain ⟨rfl, hP1, hK1, hD1⟩ := hB
  rw [ht] at hP1
  exact kk H1 locs1 hP1 (hD1.weaken (fun _ q _ h => hF q.1 h)) hS1
theorem MetTi_of {y : MethodName} {rm : Room} {maxL : Nat} {av : List Value} (hX : xOK g X) (hy : plainName y.cls = true) (hav : (lg_sl av).length ≤ maxL)
    (body : ∀ (p : Program) (e : Env) (s : State) (m : MethodId) (args : Array Value) (below : List Frame) (meth : Method) (c : Code) (A : Nat → Prop), Cx p s m args meth c cc maxL ret y.cls g A X → (∀ x ∈ c.exceptionTable.toList, False) → Bk wf p l e rm s m args below meth c maxL g A (vx_MQ below (qTi wf g A z) (xT wf g A z) args s mc ms A) 0 0 0 (lv_args 0 av) [] σ) : MetTi l y (Cond.code y cc maxL ret :: wsA) rm mc ms wf g X av σ z := by
  intro sz
  refine vx_ofW (cc := cc) (maxL := maxL) (ret := ret) hy rfl ?_
  intro p e s m args below meth c s₁ B hml hex hv
  obtain ⟨rfl, hsz, hP, hK, hD0, hXX⟩ := hv
  have hts0 := atoms_spec (ws := Cond.code y cc maxL ret :: wsA) B.pre
  have hts : ∀ w ∈ wsA, w.before _ s = true := fun w h => hts0 w (List.mem_cons_of_mem _ h)
  have hown : s.vm.findClass y.cls = some m.cls := findClass_of_methodNamed B.named
  subst hsz
  rw [lg_entry_eq]
  exact body p e s m _ below meth c _ ⟨B.exec, B.bytes, B.returns, hml, hown, hts, hK, B.notSynchronized, hXX, fun q h => Or.inr h, hX⟩ hex s.heap [] _ hP (hD0.self (sz := s.heap.size)) va_S.rf (lv_entry av hav)
theorem MetTv_of {y : MethodName} {rm : Room} {maxL : Nat} {av : List Value} (hX : xOK g X) (hy : plainName y.cls = true) (hav : (lg_sl av).length ≤ maxL)
    (body : ∀ (p : Program) (e : Env) (s : State) (m : MethodId) (args : Array Value) (below : List Frame) (meth : Method) (c : Code) (A : Nat → Prop), Cx p s m args meth c cc maxL ret y.cls g A X → (∀ x ∈ c.exceptionTable.toList, False) → Bk wf p l e rm s m args below meth c maxL g A (vx_MQ below (qTv wf g A z) (xT wf g A z) args s mc ms A) 0 0 0 (lv_args 0 av) [] σ) : MetTv l y (Cond.code y cc maxL ret :: wsA) rm mc ms wf g X av σ z := by
  intro sz
  refine vx_ofW (cc := cc) (maxL := maxL) (ret := ret) hy rfl ?_
  intro p e s m args below meth c s₁ B hml hex hv
  obtain ⟨rfl, hsz, hP, hK, hD0, hXX⟩ := hv
  have hts0 := atoms_spec (ws := Cond.code y cc maxL ret :: wsA) B.pre
  have hts : ∀ w ∈ wsA, w.before _ s = true := fun w h => hts0 w (List.mem_cons_of_mem _ h)
  have hown : s.vm.findClass y.cls = some m.cls := findClass_of_methodNamed B.named
  subst hsz
  rw [lg_entry_eq]
  exact body p e s m _ below meth c _ ⟨B.exec, B.bytes, B.returns, hml, hown, hts, hK, B.notSynchronized, hXX, fun q h => Or.inr h, hX⟩ hex s.heap [] _ hP (hD0.self (sz := s.heap.size)) va_S.rf (lv_entry av hav)
theorem bk_iretT (C : Cx p s m args meth c cc nL (some .int) own g A X) (hP : va_P g.1 vwCl (wf g σ) H) (hD : va_D A (wf g σ)) (hS : va_S A s.heap H locs) {v : Int32} (h : some ((0 : Nat), v, σ) = some z) (hkc : kc ≤ mc) (hks : ks ≤ ms) (hd : decode cc pc = .ok (.ireturn, 1)) : W p l e R s m args below meth c H locs kc ks (vx_MQ below (qTi wf g A z) (xT wf g A z) args s mc ms A) (F0 m pc ls [.int v]) := by
  obtain ⟨hx, hb, hr, hml, hown, hts, hK, hlocks, hX, hA, hXo⟩ := C
  cases h
  exact W.widen hkc hks (vx_ret (W.iret (v := v) hx hb hr (fun t ht hW => ⟨⟨v, σ, rfl, ⟨rfl, rfl, rfl⟩, by rw [ht]; exact hP, va_K.moved hW.alike hK, hD⟩, hS.F ht⟩) hS.2.2 hd))
theorem bk_zretT (C : Cx p s m args meth c cc nL (some .boolean) own g A X) (hP : va_P g.1 vwCl (wf g σ) H) (hD : va_D A (wf g σ)) (hS : va_S A s.heap H locs) {v : Int32} (hv : v = 0 ∨ v = 1) (h : some ((0 : Nat), v, σ) = some z) (hkc : kc ≤ mc) (hks : ks ≤ ms) (hd : decode cc pc = .ok (.ireturn, 1)) : W p l e R s m args below meth c H locs kc ks (vx_MQ below (qTi wf g A z) (xT wf g A z) args s mc ms A) (F0 m pc ls [.int v]) := by
  obtain ⟨hx, hb, hr, hml, hown, hts, hK, hlocks, hX, hA, hXo⟩ := C
  cases h
  exact W.widen hkc hks (vx_ret (W.zret (v := v) hx hb hr (zn_n hv) (fun t ht hW => ⟨⟨v, σ, rfl, ⟨rfl, rfl, rfl⟩, by rw [ht]; exact hP, va_K.moved hW.alike hK, hD⟩, hS.F ht⟩) hS.2.2 hd))
theorem bk_vretT (C : Cx p s m args meth c cc nL none own g A X) (hP : va_P g.1 vwCl (wf g σ) H) (hD : va_D A (wf g σ)) (hS : va_S A s.heap H locs) (h : some ((0 : Nat), (0 : Int32), σ) = some z) (hkc : kc ≤ mc) (hks : ks ≤ ms) (hd : decode cc pc = .ok (.return_, 1)) : W p l e R s m args below meth c H locs kc ks (vx_MQ below (qTv wf g A z) (xT wf g A z) args s mc ms A) (F0 m pc ls []) := by
  obtain ⟨hx, hb, hr, hml, hown, hts, hK, hlocks, hX, hA, hXo⟩ := C
  cases h
  exact W.widen hkc hks (vx_ret (W.vret hx hb hr (fun t ht hW => ⟨⟨σ, rfl, ⟨rfl, rfl⟩, by rw [ht]; exact hP, va_K.moved hW.alike hK, hD⟩, hS.F ht⟩) hS.2.2 hd))
theorem bk_xout {E : String} {ce : Cell} {q9 : Addr} {H1 : Heap} {locs1 : List Loc} {Qc : Array Value → State → Outcome → State → Prop} {MC MS : Nat} (hex : ∀ x ∈ c.exceptionTable.toList, False) (hlocks : meth.locks = false) (hK : va_K g.1 vwCl (tyl g) s) (hZ : Z.2.2 = σ') (hE : exE Z.1 E) (hP : va_P g.1 vwCl (wf g σ') H1) (hD : va_D A (wf g σ')) (hS : va_S A s.heap H1 locs1) (hq : H1[q9]? = some ce) (hcv : ce.vm = .none) (hcl : s.vm.findClass E = some ce.cls) (h1 : kc ≤ MC) (h2 : ks ≤ MS) :
    vx_W p l e R s m args below meth c H1 locs1 kc ks (vx_MQ below Qc (xT wf g A Z) args s MC MS A) (F0 m pc ls rest) q9 := by
  subst hZ
  exact vx_out (fun x hx => (hex x hx).elim) hlocks hq hcv hcl (fun t ht hvm => ⟨Z.2.2, rfl, ⟨hE, by rw [ht]; exact hP, va_K.moved hvm hK, hD⟩, hS.F ht⟩) hS.2.2 h1 h2
theorem bk_TV {y : MethodName} {bytes : ByteArray} {maxL index n ci q0 N0 MC MS : Nat} {ws : List Cond} {rm : Room} {K : String} {b : Addr} {fs : List Value} {T0 : u_T} {Qc : Array Value → State → Outcome → State → Prop} (As : List Value) (C0 : Cx p s m args meth c cc nL ret own g A X) (hex : ∀ x ∈ c.exceptionTable.toList, False) (hP : va_P g.1 vwCl (wf g σ) H) (hD : va_D A (wf g σ)) (hS : va_S A s.heap H locs) (hl : ls.size = nL)
    (hM : MetTv l y ws rm mc ms wf g X (.ref b :: As) σ z) (cw : CallW R s args own K index y bytes maxL none ws rm mc ms n) (he : (wf g σ)[q0]? = some (b, .inr (ci, fs))) (hc : vwCl[ci]? = some (K, T0, N0)) (hn : As.length = n) (hst : st = As.reverse ++ .ref b :: rest) (hrm : (rest.map fun v => v.category).sum ≤ 8) (hdg : decode cc pc = .ok (.invokevirtual index, 3)) (hkr : kc + mc ≤ R.cells ∧ ks + ms ≤ R.slots) (hMC : kc + mc ≤ MC ∧ ks + ms ≤ MS)
    (hZ : ¬ z.1 = 0 → Z.1 = z.1 ∧ Z.2.2 = z.2.2)
    (kk : z.1 = 0 → ∀ (H1 : Heap) (locs1 : List Loc), va_P g.1 vwCl (wf g z.2.2) H1 → va_D A (wf g z.2.2) → va_S A s.heap H1 locs1 → W p l e R s m args below meth c H1 locs1 (kc + mc) (ks + ms) (vx_MQ below Qc (xT wf g A Z) args s MC MS A) (F0 m (pc + 3) ls rest)) : W p l e R s m args below meth c H locs kc ks (vx_MQ below Qc (xT wf g A Z) args s MC MS A) (F0 m pc ls st) := by
  obtain ⟨hx, hb, hr, hml, hown, hts, hK, hlocks, hXX, hA, hXo⟩ := C0
  have hF := bk_free hD hS hA
  subst hst
  refine vx_callv (vx_runV (As := As) (rest := rest) ⟨hx, hb, hml, hown, hts⟩ (hM H.size) cw ⟨ct_blind hXo, va_recv hK hP hc he, fun U hU hW => ⟨rfl, by rw [hU], by rw [hU]; exact hP, va_K.moved hW.alike hK, hD.weaken (fun _ _ _ _ => trivial), bk_X hXo hXX hS hF hU hW⟩⟩ rfl hn hl rfl (lv_room hrm) hdg hkr) hS (fun q _ h => hF q h) hF (fun q _ h => hF q h) (fun E ce q9 u t H1 locs1 ht hvm hpx hBX hz1 hk1 hS1 hq9 hcv hcl => ?_) (fun u t H1 locs1 ht hvm hw hB hz1 hk1 hS1 => ?_)
  · subst hpx
    obtain ⟨hE, hP1, hK1, hD1⟩ := hBX
    rw [ht] at hP1
    have hne : ¬ z.1 = 0 := by rcases hE with ⟨h, -⟩ | ⟨h, -⟩ <;> omega
    exact bk_xout hex hlocks hK (hZ hne).2 (by rw [(hZ hne).1]; exact hE) hP1 (hD1.weaken (fun _ q _ h => hF q.1 h)) hS1 hq9 hcv hcl hMC.1 hMC.2
  · obtain ⟨hz0, rfl⟩ := hw
    obtain ⟨hP1, hK1, hD1⟩ := hB
    rw [ht] at hP1
    exact kk hz0 H1 locs1 hP1 (hD1.weaken (fun _ q _ h => hF q.1 h)) hS1
theorem bk_TS {y : MethodName} {bytes : ByteArray} {maxL index n MC MS : Nat} {ws : List Cond} {rm : Room} {Qc : Array Value → State → Outcome → State → Prop} (As : List Value) (C0 : Cx p s m args meth c cc nL ret own g A X) (hex : ∀ x ∈ c.exceptionTable.toList, False) (hP : va_P g.1 vwCl (wf g σ) H) (hD : va_D A (wf g σ)) (hS : va_S A s.heap H locs) (hl : ls.size = nL)
    (hM : MetTv l y ws rm mc ms wf g X As σ z) (cw : CallB R s args own index y bytes maxL none ws rm mc ms n ∧ (Cond.static y).before args s = true) (hn : As.length = n) (hst : st = As.reverse ++ rest) (hrm : (rest.map fun v => v.category).sum ≤ 8) (hdg : decode cc pc = .ok (.invokestatic index, 3)) (hkr : kc + mc ≤ R.cells ∧ ks + ms ≤ R.slots) (hMC : kc + mc ≤ MC ∧ ks + ms ≤ MS)
    (hZ : ¬ z.1 = 0 → Z.1 = z.1 ∧ Z.2.2 = z.2.2)
    (kk : z.1 = 0 → ∀ (H1 : Heap) (locs1 : List Loc), va_P g.1 vwCl (wf g z.2.2) H1 → va_D A (wf g z.2.2) → va_S A s.heap H1 locs1 → W p l e R s m args below meth c H1 locs1 (kc + mc) (ks + ms) (vx_MQ below Qc (xT wf g A Z) args s MC MS A) (F0 m (pc + 3) ls rest)) : W p l e R s m args below meth c H locs kc ks (vx_MQ below Qc (xT wf g A Z) args s MC MS A) (F0 m pc ls st) := by
  obtain ⟨hx, hb, hr, hml, hown, hts, hK, hlocks, hXX, hA, hXo⟩ := C0
  have hF := bk_free hD hS hA
  subst hst
  refine vx_callv (vx_runS (As := As) (rest := rest) ⟨hx, hb, hml, hown, hts⟩ (hM H.size) cw ⟨ct_blind hXo, fun U hU hW => ⟨rfl, by rw [hU], by rw [hU]; exact hP, va_K.moved hW.alike hK, hD.weaken (fun _ _ _ _ => trivial), bk_X hXo hXX hS hF hU hW⟩⟩ rfl hn hl rfl (lv_room hrm) hdg hkr) hS (fun q _ h => hF q h) hF (fun q _ h => hF q h) (fun E ce q9 u t H1 locs1 ht hvm hpx hBX hz1 hk1 hS1 hq9 hcv hcl => ?_) (fun u t H1 locs1 ht hvm hw hB hz1 hk1 hS1 => ?_)
  · subst hpx
    obtain ⟨hE, hP1, hK1, hD1⟩ := hBX
    rw [ht] at hP1
    have hne : ¬ z.1 = 0 := by rcases hE with ⟨h, -⟩ | ⟨h, -⟩ <;> omega
    exact bk_xout hex hlocks hK (hZ hne).2 (by rw [(hZ hne).1]; exact hE) hP1 (hD1.weaken (fun _ q _ h => hF q.1 h)) hS1 hq9 hcv hcl hMC.1 hMC.2
  · obtain ⟨hz0, rfl⟩ := hw
    obtain ⟨hP1, hK1, hD1⟩ := hB
    rw [ht] at hP1
    exact kk hz0 H1 locs1 hP1 (hD1.weaken (fun _ q _ h => hF q.1 h)) hS1
end BASE3
