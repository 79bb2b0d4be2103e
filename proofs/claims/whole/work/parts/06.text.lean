section TXT
variable {p : Program} {l : Launch} {e : Env} {R : Room} {s : State} {m : MethodId} {args : Array Value} {below : List Frame} {meth : Method} {c : Code} {H : Heap} {locs : List Loc} {Q : State → Prop}
variable {cc : ByteArray} {nL : Nat} {own : String} {g : WG} {A : Nat → Prop} {X : Xt} {wf : Wf} {σ σ' σ1 : Sg} {pc kc ks mc ms : Nat} {ls : Array Slot} {r : Int32} {ret : Option FieldType} {rest st : List Value}
theorem bk_nret {ty : FieldType} (C : Cx p s m args meth c cc nL (some ty) own g A X) (hP : va_P g.1 vwCl (wf g σ) H) (hD : va_D A (wf g σ)) (hS : va_S A s.heap H locs) {v : Int32} (hv : narrow ty (.int v) = .int v) (h : some (v, σ) = some (r, σ')) (hd : decode cc pc = .ok (.ireturn, 1)) : W p l e R s m args below meth c H locs kc ks (MQ below (qI wf g A r σ') args s kc ks A) (F0 m pc ls [.int v]) := by
  obtain ⟨hx, hb, hr, hml, hown, hts, hK, hlocks, hX, hA, hXo⟩ := C
  have e1 : v = r := congrArg Prod.fst (Option.some.inj h)
  have e2 : σ = σ' := congrArg Prod.snd (Option.some.inj h)
  exact W.zret (v := v) hx hb hr hv (fun t ht hW => ⟨⟨v, σ, rfl, ⟨e1, e2⟩, by rw [ht]; exact hP, va_K.moved hW.alike hK, hD⟩, hS.F ht⟩) hS.2.2 hd
theorem bk_VIr {y : MethodName} {bytes : ByteArray} {maxL index n : Nat} {ret' : Option FieldType} {ws : List Cond} {rm : Room} {K : String} {b : Addr} (As : List Value) (C0 : Cx p s m args meth c cc nL ret own g A X) (hP : va_P g.1 vwCl (wf g σ) H) (hD : va_D A (wf g σ)) (hS : va_S A s.heap H locs) (hl : ls.size = nL)
    (hM : MetI l y ws rm wf g X (.ref b :: As) σ r σ') (cw : CallW R s args own K index y bytes maxL ret' ws rm 0 0 n) (hrec : va_O K b A s s.heap) (hn : As.length = n) (hst : st = As.reverse ++ .ref b :: rest) (hrm : (rest.map fun v => v.category).sum ≤ 8) (hdg : decode cc pc = .ok (.invokevirtual index, 3)) (hkr : kc ≤ R.cells ∧ ks ≤ R.slots)
    (kk : ∀ (H1 : Heap) (locs1 : List Loc), va_P g.1 vwCl (wf g σ') H1 → va_D A (wf g σ') → va_S A s.heap H1 locs1 → W p l e R s m args below meth c H1 locs1 kc ks Q (F0 m (pc + 3) ls (.int r :: rest))) : W p l e R s m args below meth c H locs kc ks Q (F0 m pc ls st) := by
  obtain ⟨hx, hb, hr, hml, hown, hts, hK, hlocks, hXX, hA, hXo⟩ := C0
  have hF := bk_free hD hS hA
  subst hst
  obtain ⟨cell, h1, h2, h3, -⟩ := hrec.kept hS.2.1
  refine va_calli (va_runV (As := As) (rest := rest) ⟨hx, hb, hml, hown, hts⟩ (hM H.size) cw ⟨ct_blind hXo, ⟨cell, h1, h2, h3⟩, fun U hU hW => ⟨rfl, by rw [hU], by rw [hU]; exact hP, va_K.moved hW.alike hK, hD.weaken (fun _ _ _ _ => trivial), bk_X hXo hXX hS hF hU hW⟩⟩ rfl hn hl rfl (lv_room hrm) hdg hkr) hS (fun q _ h => hF q h) hF (fun r1 u t H1 locs1 ht hvm hw hB hz1 hk1 hS1 => ?_)
  obtain ⟨rfl, rfl⟩ := hw
  obtain ⟨hP1, hK1, hD1⟩ := hB
  rw [ht] at hP1
  exact kk H1 locs1 hP1 (hD1.weaken (fun _ q _ h => hF q.1 h)) hS1
theorem lv_ldcSw {own tx : String} {index q : Nat} (hexec : p.tables.exec = Jvm.exec) (hb : c.code = cc) (hown : s.vm.findClass own = some m.cls) (hZ : vk_R own index tx q s) (hdg : decode cc pc = .ok (.ldc_w index, 3))
    (k : W p l e R s m args below meth c H locs kc ks Q (F0 m (pc + 3) ls (.ref q :: rest))) : W p l e R s m args below meth c H locs kc ks Q (F0 m pc ls rest) := by
  intro T hT X
  obtain ⟨t, a1, b1⟩ := k T hT X
  exact ⟨t, X.ldcStringW hexec hown (text := tx) (a := q) hZ.1 hZ.2 (g := F0 m pc ls rest) rfl (by rw [hb]; exact hdg) t a1, b1⟩
theorem nd_J0_coder_7d493 : yJ0_coder_7d493.cls ≠ "java/lang/invoke/MethodHandle" ∧ yJ0_coder_7d493.cls ≠ "java/lang/invoke/VarHandle" ∧ (parseMethodDescriptor yJ0_coder_7d493.desc).map (fun d => d.parameters.length) = some 0 := by decide +kernel
theorem nd_J0_isLatin1_aae02 : yJ0_isLatin1_aae02.cls ≠ "java/lang/invoke/MethodHandle" ∧ yJ0_isLatin1_aae02.cls ≠ "java/lang/invoke/VarHandle" ∧ (parseMethodDescriptor yJ0_isLatin1_aae02.desc).map (fun d => d.parameters.length) = some 0 := by decide +kernel
theorem nd_J0_length_8abf5 : yJ0_length_8abf5.cls ≠ "java/lang/invoke/MethodHandle" ∧ yJ0_length_8abf5.cls ≠ "java/lang/invoke/VarHandle" ∧ (parseMethodDescriptor yJ0_length_8abf5.desc).map (fun d => d.parameters.length) = some 0 := by decide +kernel
theorem nd_J0_isEmpty_aae02 : yJ0_isEmpty_aae02.cls ≠ "java/lang/invoke/MethodHandle" ∧ yJ0_isEmpty_aae02.cls ≠ "java/lang/invoke/VarHandle" ∧ (parseMethodDescriptor yJ0_isEmpty_aae02.desc).map (fun d => d.parameters.length) = some 0 := by decide +kernel
theorem nd_J3_checkIndex_8e157 : yJ3_checkIndex_8e157.cls ≠ "java/lang/invoke/MethodHandle" ∧ yJ3_checkIndex_8e157.cls ≠ "java/lang/invoke/VarHandle" ∧ (parseMethodDescriptor yJ3_checkIndex_8e157.desc).map (fun d => d.parameters.length) = some 3 := by decide +kernel
theorem nd_J0_checkIndex_df160 : yJ0_checkIndex_df160.cls ≠ "java/lang/invoke/MethodHandle" ∧ yJ0_checkIndex_df160.cls ≠ "java/lang/invoke/VarHandle" ∧ (parseMethodDescriptor yJ0_checkIndex_df160.desc).map (fun d => d.parameters.length) = some 2 := by decide +kernel
theorem nd_J1_charAt_3b067 : yJ1_charAt_3b067.cls ≠ "java/lang/invoke/MethodHandle" ∧ yJ1_charAt_3b067.cls ≠ "java/lang/invoke/VarHandle" ∧ (parseMethodDescriptor yJ1_charAt_3b067.desc).map (fun d => d.parameters.length) = some 2 := by decide +kernel
theorem nd_J0_charAt_5068e : yJ0_charAt_5068e.cls ≠ "java/lang/invoke/MethodHandle" ∧ yJ0_charAt_5068e.cls ≠ "java/lang/invoke/VarHandle" ∧ (parseMethodDescriptor yJ0_charAt_5068e.desc).map (fun d => d.parameters.length) = some 1 := by decide +kernel
abbrev rm_J0_coder_7d493 : Room := { frames := 0, cells := 0, slots := 0, locals := 0 }
theorem c_coder {i : Nat} (hi : i < 41) (hX : xOK g X) : MetI l yJ0_coder_7d493 (Cond.code yJ0_coder_7d493 cJ0_coder_7d493 1 (some .byte) :: wsA) rm_J0_coder_7d493 wf g X [.ref (g.2.2 (100 + i))] σ 0 σ := by
  refine MetI_of hX (by decide) (Nat.le_of_ble_eq_true rfl) (fun p e s m args below meth c A C => ?_)
  obtain ⟨hx, hb, hr, hml, hown, hts, hK, hlocks, hXX, hA, hXo⟩ := id C
  obtain ⟨-, -, -, -, hT, hTk, hCS, hFm, hAl, hLd⟩ := hXo.2.2.2 _ _ _ hXX
  intro H locs ls hP hD hS hl
  refine va_gets (v := .int 1) hx hb hCS hS hown (hts _ wa_281) (fun _ h => h) dJ0_coder_7d493_0 ?_
  refine lv_if_eq (tgt := 13) hx hb dJ0_coder_7d493_3 (by decide) (fun t => absurd t (by decide)) (fun _ => ?_)
  refine lv_aload_n hx hb dJ0_coder_7d493_6 rfl (lv_at hl 0 rfl) ?_
  refine vk_getf (v := .int 0) hx hb (hT i hi).2.1 hS hown (hts _ wa_282) (fun _ h => h) dJ0_coder_7d493_7 ?_
  refine lv_goto (tgt := 14) hx hb dJ0_coder_7d493_10 (by decide) ?_
  exact bk_nret C hP hD hS rfl rfl dJ0_coder_7d493_14
abbrev rm_J0_isLatin1_aae02 : Room := { frames := 0, cells := 0, slots := 0, locals := 0 }
theorem c_latin {i : Nat} (hi : i < 41) (hX : xOK g X) : MetI l yJ0_isLatin1_aae02 (Cond.code yJ0_isLatin1_aae02 cJ0_isLatin1_aae02 1 (some .boolean) :: wsA) rm_J0_isLatin1_aae02 wf g X [.ref (g.2.2 (100 + i))] σ 1 σ := by
  refine MetI_of hX (by decide) (Nat.le_of_ble_eq_true rfl) (fun p e s m args below meth c A C => ?_)
  obtain ⟨hx, hb, hr, hml, hown, hts, hK, hlocks, hXX, hA, hXo⟩ := id C
  obtain ⟨-, -, -, -, hT, hTk, hCS, hFm, hAl, hLd⟩ := hXo.2.2.2 _ _ _ hXX
  intro H locs ls hP hD hS hl
  refine va_gets (v := .int 1) hx hb hCS hS hown (hts _ wa_281) (fun _ h => h) dJ0_isLatin1_aae02_0 ?_
  refine lv_if_eq (tgt := 17) hx hb dJ0_isLatin1_aae02_3 (by decide) (fun t => absurd t (by decide)) (fun _ => ?_)
  refine lv_aload_n hx hb dJ0_isLatin1_aae02_6 rfl (lv_at hl 0 rfl) ?_
  refine vk_getf (v := .int 0) hx hb (hT i hi).2.1 hS hown (hts _ wa_282) (fun _ h => h) dJ0_isLatin1_aae02_7 ?_
  refine lv_if_ne (tgt := 17) hx hb dJ0_isLatin1_aae02_10 (by decide) (fun t => absurd rfl t) (fun _ => ?_)
  refine lv_iconst (v := 1) hx hb dJ0_isLatin1_aae02_13 (by decide) ?_
  refine lv_goto (tgt := 18) hx hb dJ0_isLatin1_aae02_14 (by decide) ?_
  exact bk_nret C hP hD hS rfl rfl dJ0_isLatin1_aae02_18
abbrev rm_J0_length_8abf5 : Room := { frames := 1, cells := 0, slots := 0, locals := 20 }
theorem c_length {i : Nat} (hi : i < 41) (hX : xOK g X) : MetI l yJ0_length_8abf5 (Cond.code yJ0_length_8abf5 cJ0_length_8abf5 1 (some .int) :: wsA) rm_J0_length_8abf5 wf g X [.ref (g.2.2 (100 + i))] σ (nI (tlen i)) σ := by
  refine MetI_of hX (by decide) (Nat.le_of_ble_eq_true rfl) (fun p e s m args below meth c A C => ?_)
  obtain ⟨hx, hb, hr, hml, hown, hts, hK, hlocks, hXX, hA, hXo⟩ := id C
  obtain ⟨-, -, -, -, hT, hTk, hCS, hFm, hAl, hLd⟩ := hXo.2.2.2 _ _ _ hXX
  intro H locs ls hP hD hS hl
  refine lv_aload_n hx hb dJ0_length_8abf5_0 rfl (lv_at hl 0 rfl) ?_
  refine vk_getf hx hb (hT i hi).2.2.1 hS hown (hts _ wa_272) (fun _ h => h) dJ0_length_8abf5_1 ?_
  refine va_tlen (v := nI (tlen i)) hx hb (hT i hi).2.2.2 hS rfl dJ0_length_8abf5_4 ?_
  refine lv_aload_n hx hb dJ0_length_8abf5_5 rfl (lv_at hl 0 rfl) ?_
  refine bk_VIr (rest := [.int (nI (tlen i))]) [] C hP hD hS hl.1 (c_coder hi hXo) (cwA_V 0 hts wa_280 wa_277 wa_278 wa_279 wa_270 rfl rfl nd_J0_coder_7d493 ⟨Nat.le_of_ble_eq_true rfl, Nat.le_of_ble_eq_true rfl⟩) (hT i hi).1 rfl rfl (Nat.le_of_ble_eq_true rfl) dJ0_length_8abf5_6 ⟨Nat.le_of_ble_eq_true rfl, Nat.le_of_ble_eq_true rfl⟩ (fun H locs hP hD hS => ?_)
  refine lv_ishr hx hb dJ0_length_8abf5_9 ?_
  exact bk_iret C hP hD hS (by rw [sb_shr0]) dJ0_length_8abf5_10
abbrev rm_J0_isEmpty_aae02 : Room := { frames := 0, cells := 0, slots := 0, locals := 0 }
theorem c_isEmpty {i : Nat} (hi : i < 41) (hX : xOK g X) : MetI l yJ0_isEmpty_aae02 (Cond.code yJ0_isEmpty_aae02 cJ0_isEmpty_aae02 1 (some .boolean) :: wsA) rm_J0_isEmpty_aae02 wf g X [.ref (g.2.2 (100 + i))] σ (if nI (tlen i) = 0 then (1 : Int32) else 0) σ := by
  refine MetI_of hX (by decide) (Nat.le_of_ble_eq_true rfl) (fun p e s m args below meth c A C => ?_)
  obtain ⟨hx, hb, hr, hml, hown, hts, hK, hlocks, hXX, hA, hXo⟩ := id C
  obtain ⟨-, -, -, -, hT, hTk, hCS, hFm, hAl, hLd⟩ := hXo.2.2.2 _ _ _ hXX
  intro H locs ls hP hD hS hl
  refine lv_aload_n hx hb dJ0_isEmpty_aae02_0 rfl (lv_at hl 0 rfl) ?_
  refine vk_getf hx hb (hT i hi).2.2.1 hS hown (hts _ wa_272) (fun _ h => h) dJ0_isEmpty_aae02_1 ?_
  refine va_tlen (v := nI (tlen i)) hx hb (hT i hi).2.2.2 hS rfl dJ0_isEmpty_aae02_4 ?_
  refine lv_if_ne (tgt := 12) hx hb dJ0_isEmpty_aae02_5 (by decide) (fun t => ?_) (fun t => ?_)
  · refine lv_iconst (v := 0) hx hb dJ0_isEmpty_aae02_12 (by decide) ?_
    exact bk_nret C hP hD hS rfl (by rw [if_neg t]) dJ0_isEmpty_aae02_13
  · refine lv_iconst (v := 1) hx hb dJ0_isEmpty_aae02_8 (by decide) ?_
    refine lv_goto (tgt := 13) hx hb dJ0_isEmpty_aae02_9 (by decide) ?_
    exact bk_nret C hP hD hS rfl (by rw [if_pos t]) dJ0_isEmpty_aae02_13
abbrev rm_J3_checkIndex_8e157 : Room := { frames := 0, cells := 0, slots := 0, locals := 0 }
theorem c_pchkN {a b : Int32} (h0 : ¬ a < 0) (h1 : a < b) (hX : xOK g X) : MetI l yJ3_checkIndex_8e157 (Cond.code yJ3_checkIndex_8e157 cJ3_checkIndex_8e157 3 (some .int) :: wsA) rm_J3_checkIndex_8e157 wf g X [.int a, .int b, .null] σ a σ := by
  refine MetI_of hX (by decide) (Nat.le_of_ble_eq_true rfl) (fun p e s m args below meth c A C => ?_)
  obtain ⟨hx, hb, hr, hml, hown, hts, hK, hlocks, hXX, hA, hXo⟩ := id C
  obtain ⟨-, -, -, -, hT, hTk, hCS, hFm, hAl, hLd⟩ := hXo.2.2.2 _ _ _ hXX
  intro H locs ls hP hD hS hl
  refine lv_iload_n hx hb dJ3_checkIndex_8e157_0 rfl (lv_at hl 0 rfl) ?_
  refine lv_if_lt (tgt := 9) hx hb dJ3_checkIndex_8e157_1 (by decide) (fun t => absurd t h0) (fun _ => ?_)
  refine lv_iload_n hx hb dJ3_checkIndex_8e157_4 rfl (lv_at hl 0 rfl) ?_
  refine lv_iload_n hx hb dJ3_checkIndex_8e157_5 rfl (lv_at hl 1 rfl) ?_
  refine lv_icmp_lt (tgt := 16) hx hb dJ3_checkIndex_8e157_6 (by decide) (fun _ => ?_) (fun t => absurd h1 t)
  refine lv_iload_n hx hb dJ3_checkIndex_8e157_16 rfl (lv_at hl 0 rfl) ?_
  exact bk_iret C hP hD hS rfl dJ3_checkIndex_8e157_17
theorem c_pchkR {a b : Int32} {q : Nat} (h0 : ¬ a < 0) (h1 : a < b) (hX : xOK g X) : MetI l yJ3_checkIndex_8e157 (Cond.code yJ3_checkIndex_8e157 cJ3_checkIndex_8e157 3 (some .int) :: wsA) rm_J3_checkIndex_8e157 wf g X [.int a, .int b, .ref q] σ a σ := by
  refine MetI_of hX (by decide) (Nat.le_of_ble_eq_true rfl) (fun p e s m args below meth c A C => ?_)
  obtain ⟨hx, hb, hr, hml, hown, hts, hK, hlocks, hXX, hA, hXo⟩ := id C
  obtain ⟨-, -, -, -, hT, hTk, hCS, hFm, hAl, hLd⟩ := hXo.2.2.2 _ _ _ hXX
  intro H locs ls hP hD hS hl
  refine lv_iload_n hx hb dJ3_checkIndex_8e157_0 rfl (lv_at hl 0 rfl) ?_
  refine lv_if_lt (tgt := 9) hx hb dJ3_checkIndex_8e157_1 (by decide) (fun t => absurd t h0) (fun _ => ?_)
  refine lv_iload_n hx hb dJ3_checkIndex_8e157_4 rfl (lv_at hl 0 rfl) ?_
  refine lv_iload_n hx hb dJ3_checkIndex_8e157_5 rfl (lv_at hl 1 rfl) ?_
  refine lv_icmp_lt (tgt := 16) hx hb dJ3_checkIndex_8e157_6 (by decide) (fun _ => ?_) (fun t => absurd h1 t)
  refine lv_iload_n hx hb dJ3_checkIndex_8e157_16 rfl (lv_at hl 0 rfl) ?_
  exact bk_iret C hP hD hS rfl dJ3_checkIndex_8e157_17
abbrev rm_J0_checkIndex_df160 : Room := { frames := 1, cells := 0, slots := 0, locals := 22 }
theorem c_chk {a b : Int32} (h0 : ¬ a < 0) (h1 : a < b) (hX : xOK g X) : MetV l yJ0_checkIndex_df160 (Cond.code yJ0_checkIndex_df160 cJ0_checkIndex_df160 2 none :: wsA) rm_J0_checkIndex_df160 wf g X [.int a, .int b] σ σ := by
  refine MetV_of hX (by decide) (Nat.le_of_ble_eq_true rfl) (fun p e s m args below meth c A C => ?_)
  obtain ⟨hx, hb, hr, hml, hown, hts, hK, hlocks, hXX, hA, hXo⟩ := id C
  obtain ⟨-, -, -, -, hT, hTk, hCS, hFm, hAl, hLd⟩ := hXo.2.2.2 _ _ _ hXX
  intro H locs ls hP hD hS hl
  refine lv_iload_n hx hb dJ0_checkIndex_df160_0 rfl (lv_at hl 0 rfl) ?_
  refine lv_iload_n hx hb dJ0_checkIndex_df160_1 rfl (lv_at hl 1 rfl) ?_
  rcases hFm with hF9 | ⟨q, hF9⟩
  · refine va_gets (v := .null) hx hb hF9 hS hown (hts _ wa_298) (fun _ h => h) dJ0_checkIndex_df160_2 ?_
    refine bk_SI (rest := []) [.int a, .int b, .null] C hP hD hS hl.1 (c_pchkN h0 h1 hXo) (cwA_S 3 hts wa_302 wa_299 wa_300 wa_301 rfl rfl nd_J3_checkIndex_8e157 ⟨Nat.le_of_ble_eq_true rfl, Nat.le_of_ble_eq_true rfl⟩) rfl rfl (Nat.le_of_ble_eq_true rfl) dJ0_checkIndex_df160_5 ⟨Nat.le_of_ble_eq_true rfl, Nat.le_of_ble_eq_true rfl⟩ (fun H locs hP hD hS => ?_)
    refine lv_pop hx hb dJ0_checkIndex_df160_8 rfl ?_
    exact bk_vret C hP hD hS rfl dJ0_checkIndex_df160_9
  · refine va_gets (v := .ref q) hx hb hF9 hS hown (hts _ wa_298) (fun _ h => h) dJ0_checkIndex_df160_2 ?_
    refine bk_SI (rest := []) [.int a, .int b, .ref q] C hP hD hS hl.1 (c_pchkR h0 h1 hXo) (cwA_S 3 hts wa_302 wa_299 wa_300 wa_301 rfl rfl nd_J3_checkIndex_8e157 ⟨Nat.le_of_ble_eq_true rfl, Nat.le_of_ble_eq_true rfl⟩) rfl rfl (Nat.le_of_ble_eq_true rfl) dJ0_checkIndex_df160_5 ⟨Nat.le_of_ble_eq_true rfl, Nat.le_of_ble_eq_true rfl⟩ (fun H locs hP hD hS => ?_)
    refine lv_pop hx hb dJ0_checkIndex_df160_8 rfl ?_
    exact bk_vret C hP hD hS rfl dJ0_checkIndex_df160_9
theorem vin_lt {j : Int32} {n : Nat} (h : vp_in j n) (hn : n < 2 ^ 31) : ¬ j < 0 ∧ j < nI n := by
  obtain ⟨k, hk, rfl⟩ := vp_in_of h hn
  exact ⟨nI_pos (by omega), nI_lt hk hn⟩
abbrev rm_J1_charAt_3b067 : Room := { frames := 2, cells := 0, slots := 0, locals := 43 }
theorem c_lat1 {i : Nat} {j : Int32} (hi : i < 41) (hj : vp_in j (tlen i)) (hX : xOK g X) : MetI l yJ1_charAt_3b067 (Cond.code yJ1_charAt_3b067 cJ1_charAt_3b067 2 (some .char) :: wsA) rm_J1_charAt_3b067 wf g X [.ref (g.2.2 (150 + i)), .int j] σ (tch i j.toNatClampNeg) σ := by
  refine MetI_of hX (by decide) (Nat.le_of_ble_eq_true rfl) (fun p e s m args below meth c A C => ?_)
  obtain ⟨hx, hb, hr, hml, hown, hts, hK, hlocks, hXX, hA, hXo⟩ := id C
  obtain ⟨-, -, -, -, hT, hTk, hCS, hFm, hAl, hLd⟩ := hXo.2.2.2 _ _ _ hXX
  intro H locs ls hP hD hS hl
  have hb2 := vin_lt hj (Nat.lt_trans (tlen_lt i hi) (by decide))
  refine lv_iload_n hx hb dJ1_charAt_3b067_0 rfl (lv_at hl 1 rfl) ?_
  refine lv_aload_n hx hb dJ1_charAt_3b067_1 rfl (lv_at hl 0 rfl) ?_
  refine va_tlen (v := nI (tlen i)) hx hb (hT i hi).2.2.2 hS rfl dJ1_charAt_3b067_2 ?_
  refine bk_SV (rest := []) [.int j, .int (nI (tlen i))] C hP hD hS hl.1 (c_chk hb2.1 hb2.2 hXo) (cwA_S 2 hts wa_297 wa_295 wa_296 wa_270 rfl rfl nd_J0_checkIndex_df160 ⟨Nat.le_of_ble_eq_true rfl, Nat.le_of_ble_eq_true rfl⟩) rfl rfl (Nat.le_of_ble_eq_true rfl) dJ1_charAt_3b067_3 ⟨Nat.le_of_ble_eq_true rfl, Nat.le_of_ble_eq_true rfl⟩ (fun H locs hP hD hS => ?_)
  refine lv_aload_n hx hb dJ1_charAt_3b067_6 rfl (lv_at hl 0 rfl) ?_
  refine lv_iload_n hx hb dJ1_charAt_3b067_7 rfl (lv_at hl 1 rfl) ?_
  refine va_tb (v := .int (tby i j.toNatClampNeg)) hx hb (hT i hi).2.2.2 hS hj rfl dJ1_charAt_3b067_8 ?_
  refine lv_sipush (v := 255) hx hb dJ1_charAt_3b067_9 (by decide) ?_
  refine lv_iand hx hb dJ1_charAt_3b067_12 ?_
  refine lv_i2c (v := tby i j.toNatClampNeg &&& 255) hx hb dJ1_charAt_3b067_13 (sc_c2 _) ?_
  exact bk_nret C hP hD hS (sc_nar _) rfl dJ1_charAt_3b067_14
abbrev rm_J0_charAt_5068e : Room := { frames := 3, cells := 0, slots := 0, locals := 64 }
theorem c_charAt {i : Nat} {j : Int32} (hi : i < 41) (hj : vp_in j (tlen i)) (hX : xOK g X) : MetI l yJ0_charAt_5068e (Cond.code yJ0_charAt_5068e cJ0_charAt_5068e 2 (some .char) :: wsA) rm_J0_charAt_5068e wf g X [.ref (g.2.2 (100 + i)), .int j] σ (tch i j.toNatClampNeg) σ := by
  refine MetI_of hX (by decide) (Nat.le_of_ble_eq_true rfl) (fun p e s m args below meth c A C => ?_)
  obtain ⟨hx, hb, hr, hml, hown, hts, hK, hlocks, hXX, hA, hXo⟩ := id C
  obtain ⟨-, -, -, -, hT, hTk, hCS, hFm, hAl, hLd⟩ := hXo.2.2.2 _ _ _ hXX
  intro H locs ls hP hD hS hl
  refine lv_aload_n hx hb dJ0_charAt_5068e_0 rfl (lv_at hl 0 rfl) ?_
  refine bk_VIr (rest := []) [] C hP hD hS hl.1 (c_latin hi hXo) (cwA_V 0 hts wa_290 wa_287 wa_288 wa_289 wa_270 rfl rfl nd_J0_isLatin1_aae02 ⟨Nat.le_of_ble_eq_true rfl, Nat.le_of_ble_eq_true rfl⟩) (hT i hi).1 rfl rfl (Nat.le_of_ble_eq_true rfl) dJ0_charAt_5068e_1 ⟨Nat.le_of_ble_eq_true rfl, Nat.le_of_ble_eq_true rfl⟩ (fun H locs hP hD hS => ?_)
  refine lv_if_eq (tgt := 16) hx hb dJ0_charAt_5068e_4 (by decide) (fun t => absurd t (by decide)) (fun _ => ?_)
  refine lv_aload_n hx hb dJ0_charAt_5068e_7 rfl (lv_at hl 0 rfl) ?_
  refine vk_getf hx hb (hT i hi).2.2.1 hS hown (hts _ wa_272) (fun _ h => h) dJ0_charAt_5068e_8 ?_
  refine lv_iload_n hx hb dJ0_charAt_5068e_11 rfl (lv_at hl 1 rfl) ?_
  refine bk_SI (rest := []) [.ref (g.2.2 (150 + i)), .int j] C hP hD hS hl.1 (c_lat1 hi hj hXo) (cwA_S 2 hts wa_294 wa_291 wa_292 wa_293 rfl rfl nd_J1_charAt_3b067 ⟨Nat.le_of_ble_eq_true rfl, Nat.le_of_ble_eq_true rfl⟩) rfl rfl (Nat.le_of_ble_eq_true rfl) dJ0_charAt_5068e_12 ⟨Nat.le_of_ble_eq_true rfl, Nat.le_of_ble_eq_true rfl⟩ (fun H locs hP hD hS => ?_)
  exact bk_nret C hP hD hS (sc_nar _) rfl dJ0_charAt_5068e_15
theorem vin_n {x : Int32} {n : Nat} (h : vp_in x n) : x.toNatClampNeg < n := Nat.lt_of_not_le fun q => h (Or.inr q)
theorem tok_Z (hTk : tkS g A s s.heap) {o : Int32} (i : Nat) (nm : String) (hi : i < 27) (ho : o.toNatClampNeg = i) (hn : tkNm.getD i "" = nm) : va_Z "NodPost$Token" nm "LNodPost$Token;" (.ref (g.2.2 (300 + o.toNatClampNeg))) A s s.heap := by
  subst hn; subst ho
  exact (hTk.1 _ hi).1
theorem tok_inj (hTk : tkS g A s s.heap) {x y : Int32} (hx : vp_in x 27) (hy : vp_in y 27) (h : some (g.2.2 (300 + x.toNatClampNeg)) = some (g.2.2 (300 + y.toNatClampNeg))) : x = y := by
  have h1 := hTk.2.2.2 _ _ (vin_n hx) (vin_n hy) (Option.some.inj h)
  obtain ⟨i, hi, rfl⟩ := vp_in_of hx (by decide)
  obtain ⟨j, hj, rfl⟩ := vp_in_of hy (by decide)
  rw [nI_clamp (by omega), nI_clamp (by omega)] at h1
  rw [h1]
theorem bk_acq {x y : Int32} {off : Int} {tgt : Nat} (C0 : Cx p s m args meth c cc nL ret own g A X) (hx0 : vp_in x 27) (hy0 : vp_in y 27) (hdg : decode cc pc = .ok (.if_acmp .eq off, 3)) (ht : (pc : Int) + off = (tgt : Int)) (kt : x = y → W p l e R s m args below meth c H locs kc ks Q (F0 m tgt ls rest)) (kf : ¬ x = y → W p l e R s m args below meth c H locs kc ks Q (F0 m (pc + 3) ls rest)) : W p l e R s m args below meth c H locs kc ks Q (F0 m pc ls (.ref (g.2.2 (300 + y.toNatClampNeg)) :: .ref (g.2.2 (300 + x.toNatClampNeg)) :: rest)) := by
  obtain ⟨hx, hb, hr, hml, hown, hts, hK, hlocks, hXX, hA, hXo⟩ := C0
  obtain ⟨-, -, -, -, hT, hTk, -⟩ := hXo.2.2.2 _ _ _ hXX
  exact lv_acmp_eq (rx := some (g.2.2 (300 + x.toNatClampNeg))) (ry := some (g.2.2 (300 + y.toNatClampNeg))) hx hb hdg ht (fun h => kt (tok_inj hTk hx0 hy0 h)) (fun h => kf (fun q => h (by rw [q])))
theorem bk_acn {x y : Int32} {off : Int} {tgt : Nat} (C0 : Cx p s m args meth c cc nL ret own g A X) (hx0 : vp_in x 27) (hy0 : vp_in y 27) (hdg : decode cc pc = .ok (.if_acmp .ne off, 3)) (ht : (pc : Int) + off = (tgt : Int)) (kt : ¬ x = y → W p l e R s m args below meth c H locs kc ks Q (F0 m tgt ls rest)) (kf : x = y → W p l e R s m args below meth c H locs kc ks Q (F0 m (pc + 3) ls rest)) : W p l e R s m args below meth c H locs kc ks Q (F0 m pc ls (.ref (g.2.2 (300 + y.toNatClampNeg)) :: .ref (g.2.2 (300 + x.toNatClampNeg)) :: rest)) := by
  obtain ⟨hx, hb, hr, hml, hown, hts, hK, hlocks, hXX, hA, hXo⟩ := C0
  obtain ⟨-, -, -, -, hT, hTk, -⟩ := hXo.2.2.2 _ _ _ hXX
  exact lv_acmp_ne (rx := some (g.2.2 (300 + x.toNatClampNeg))) (ry := some (g.2.2 (300 + y.toNatClampNeg))) hx hb hdg ht (fun h => kt (fun q => h (by rw [q]))) (fun h => kf (tok_inj hTk hx0 hy0 h))
theorem bk_sald {q0 n off : Nat} {b : Addr} {i : Int32} (C0 : Cx p s m args meth c cc nL ret own g A X) (hP : va_P g.1 vwCl (wf g σ) H) (he : (wf g σ)[q0]? = some (b, .inl (g.2.1 3, n, .inr (.inr (.inr (.inr (fun k => some (g.2.2 (100 + (off + k))))))))) ) (hin : vp_in i n) (hdg : decode cc pc = .ok (.aaload, 1))
    (kk : W p l e R s m args below meth c H locs kc ks Q (F0 m (pc + 1) ls (.ref (g.2.2 (100 + (off + i.toNatClampNeg))) :: rest))) : W p l e R s m args below meth c H locs kc ks Q (F0 m pc ls (.int i :: .ref b :: rest)) := by
  obtain ⟨hx, hb, hr, hml, hown, hts, hK, hlocks, hXX, hA, hXo⟩ := C0
  exact va_aldq hx hb hK hP q0 3 he rfl hin hdg kk
end TXT
