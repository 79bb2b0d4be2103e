section GEN
variable {p : Program} {l : Launch} {e : Env} {s : State} {m : MethodId} {args : Array Value} {below : List Frame} {meth : Method} {c : Code} {g : WG} {A : Nat → Prop} {X : Xt} {Q : State → Prop}
-- X3_readsRest_2: readsRest()Z
abbrev rm_X3_readsRest_2 : Room := { frames := 8, cells := 0, slots := 0, locals := 170 }
theorem nd_X3_readsRest : yX3_readsRest.cls ≠ "java/lang/invoke/MethodHandle" ∧ yX3_readsRest.cls ≠ "java/lang/invoke/VarHandle" ∧ (parseMethodDescriptor yX3_readsRest.desc).map (fun d => d.parameters.length) = some 0 := by decide +kernel
def f_X3_readsRest_2 (N : Nat) (σ : Sg) : Option (Int32 × Sg) :=
if (σ 2 12) = 0 then (bd (wr σ 2 12 (1 : Int32)) fun σ1 =>
(f_X3_advance_2 N σ1).bind fun q2 =>
(f_X3_isNumber_2 N (0 : Int32) (9 : Int32) q2).bind fun q3 =>
if q3.1 = 0 then (some ((0 : Int32), (q3.2)))
else (bd (wr (q3.2) 3 7 ((q3.2) 2 10)) fun σ4 =>
(f_X3_advance_2 N σ4).bind fun q5 =>
(f_X3_endsLine_2 N q5).bind fun q6 =>
if ¬ (q6.1 = 0 ∨ q6.1 = 1) then none else some (q6.1, (q6.2))))
else ((f_X3_fails_2 N (5 : Int32) σ).bind fun q8 =>
if ¬ (q8.1 = 0 ∨ q8.1 = 1) then none else some (q8.1, (q8.2)))
set_option maxHeartbeats 4000000 in
set_option maxRecDepth 100000 in
theorem b_X3_readsRest_2 {N : Nat} {σ : Sg} {z : Int32 × Sg} (C : Cx p s m args meth c cX3_readsRest 1 (some .boolean) RX3 g A X) (hf : f_X3_readsRest_2 N σ = some z) : Bk cw p l e rm_X3_readsRest_2 s m args below meth c 1 g A (MQ below (qI cw g A z.1 z.2) args s 0 0 A) 0 0 0 [(0, .ref (g.2.2 2))] [] σ := by
  obtain ⟨hx, hb, hr, hml, hown, hts, hK, hlocks, hXX, hA, hXo⟩ := id C
  intro H locs ls hP hD hS hl
  unfold f_X3_readsRest_2 at hf
  refine lv_aload_n hx hb dX3_readsRest_0 rfl (lv_at hl 0 rfl) ?_
  refine bk_get (wf := cw) (q0 := 2) (ci := 3) (k := 12) (v := .int (σ 2 12)) C hP wl_X3 rfl rfl (by decide) wa_63 rfl rfl dX3_readsRest_1 ?_
  refine lv_if_eq (tgt := 13) hx hb dX3_readsRest_4 (by decide) (fun t4 => ?_) (fun t4 => ?_)
  · have hf := (if_pos t4).symm.trans hf
    refine lv_aload_n hx hb dX3_readsRest_13 rfl (lv_at hl 0 rfl) ?_
    refine lv_iconst (v := (1 : Int32)) hx hb dX3_readsRest_14 (by decide) ?_
    obtain ⟨σ1, eσ1, hf⟩ := bd_s hf
    refine bk_put (wf := cw) (σ1 := σ1) (q0 := 2) (ci := 3) (k := 12) (v := .int (1 : Int32)) C hP hD hS wl_X3 tyX3_ok nmX3 rfl rfl (by decide) wa_63 rfl rfl rfl rfl rfl (Nat.le_of_ble_eq_true rfl) (by rw [eσ1]; exact cw_p2_12 g _ _) dX3_readsRest_15 (fun H locs hP hD hS => ?_)
    refine lv_aload_n hx hb dX3_readsRest_18 rfl (lv_at hl 0 rfl) ?_
    obtain ⟨q2, hq2, hf⟩ := bi_s hf
    refine bk_VV (wf := cw) (q0 := 2) (ci := 3) (rest := []) [] C hP hD hS hl.1 (c_X3_advance_2 hXo hq2) (cwA_V 0 hts wa_241 wa_238 wa_239 wa_240 wa_18 rfl rfl nd_X3_advance ⟨Nat.le_of_ble_eq_true rfl, Nat.le_of_ble_eq_true rfl⟩) rfl rfl rfl rfl (Nat.le_of_ble_eq_true rfl) dX3_readsRest_19 ⟨Nat.le_of_ble_eq_true rfl, Nat.le_of_ble_eq_true rfl⟩ (fun H locs hP hD hS => ?_)
    refine lv_aload_n hx hb dX3_readsRest_22 rfl (lv_at hl 0 rfl) ?_
    refine lv_iconst (v := (0 : Int32)) hx hb dX3_readsRest_23 (by decide) ?_
    refine lv_bipush (v := (9 : Int32)) hx hb dX3_readsRest_24 (by decide) ?_
    obtain ⟨q3, hq3, hf⟩ := bi_s hf
    refine bk_VI (wf := cw) (q0 := 2) (ci := 3) (rest := []) [.int (0 : Int32), .int (9 : Int32)] C hP hD hS hl.1 (c_X3_isNumber_2 hXo hq3) (cwA_V 2 hts wa_347 wa_344 wa_345 wa_346 wa_18 rfl rfl nd_X3_isNumber ⟨Nat.le_of_ble_eq_true rfl, Nat.le_of_ble_eq_true rfl⟩) rfl rfl rfl rfl (Nat.le_of_ble_eq_true rfl) dX3_readsRest_26 ⟨Nat.le_of_ble_eq_true rfl, Nat.le_of_ble_eq_true rfl⟩ (fun H locs hP hD hS => ?_)
    refine lv_if_ne (tgt := 34) hx hb dX3_readsRest_29 (by decide) (fun t29 => ?_) (fun t29 => ?_)
    · have hf := (if_neg t29).symm.trans hf
      refine lv_aload_n hx hb dX3_readsRest_34 rfl (lv_at hl 0 rfl) ?_
      refine bk_get (wf := cw) (q0 := 2) (ci := 3) (k := 0) (v := .ref (g.2.2 3)) C hP wl_X3 rfl rfl (by decide) wa_51 rfl rfl dX3_readsRest_35 ?_
      refine lv_aload_n hx hb dX3_readsRest_38 rfl (lv_at hl 0 rfl) ?_
      refine bk_get (wf := cw) (q0 := 2) (ci := 3) (k := 10) (v := .int ((q3.2) 2 10)) C hP wl_X3 rfl rfl (by decide) wa_61 rfl rfl dX3_readsRest_39 ?_
      obtain ⟨σ4, eσ4, hf⟩ := bd_s hf
      refine bk_put (wf := cw) (σ1 := σ4) (q0 := 3) (ci := 8) (k := 7) (v := .int ((q3.2) 2 10)) C hP hD hS wl_X9 tyX9_ok nmX9 rfl rfl (by decide) wa_376 rfl rfl rfl rfl rfl (Nat.le_of_ble_eq_true rfl) (by rw [eσ4]; exact cw_p3_7 g _ _) dX3_readsRest_42 (fun H locs hP hD hS => ?_)
      refine lv_aload_n hx hb dX3_readsRest_45 rfl (lv_at hl 0 rfl) ?_
      obtain ⟨q5, hq5, hf⟩ := bi_s hf
      refine bk_VV (wf := cw) (q0 := 2) (ci := 3) (rest := []) [] C hP hD hS hl.1 (c_X3_advance_2 hXo hq5) (cwA_V 0 hts wa_241 wa_238 wa_239 wa_240 wa_18 rfl rfl nd_X3_advance ⟨Nat.le_of_ble_eq_true rfl, Nat.le_of_ble_eq_true rfl⟩) rfl rfl rfl rfl (Nat.le_of_ble_eq_true rfl) dX3_readsRest_46 ⟨Nat.le_of_ble_eq_true rfl, Nat.le_of_ble_eq_true rfl⟩ (fun H locs hP hD hS => ?_)
      refine lv_aload_n hx hb dX3_readsRest_49 rfl (lv_at hl 0 rfl) ?_
      obtain ⟨q6, hq6, hf⟩ := bi_s hf
      refine bk_VI (wf := cw) (q0 := 2) (ci := 3) (rest := []) [] C hP hD hS hl.1 (c_X3_endsLine_2 hXo hq6) (cwA_V 0 hts wa_359 wa_356 wa_357 wa_358 wa_18 rfl rfl nd_X3_endsLine ⟨Nat.le_of_ble_eq_true rfl, Nat.le_of_ble_eq_true rfl⟩) rfl rfl rfl rfl (Nat.le_of_ble_eq_true rfl) dX3_readsRest_50 ⟨Nat.le_of_ble_eq_true rfl, Nat.le_of_ble_eq_true rfl⟩ (fun H locs hP hD hS => ?_)
      obtain ⟨g7, hf⟩ := gd_s hf
      cases hf
      exact bk_zret C hP hD hS (Decidable.not_not.mp g7) rfl dX3_readsRest_53
    · have hf := (if_pos t29).symm.trans hf
      refine lv_iconst (v := (0 : Int32)) hx hb dX3_readsRest_32 (by decide) ?_
      cases hf
      exact bk_zret C hP hD hS (by decide) rfl dX3_readsRest_33
  · have hf := (if_neg t4).symm.trans hf
    refine lv_aload_n hx hb dX3_readsRest_7 rfl (lv_at hl 0 rfl) ?_
    refine lv_iconst (v := (5 : Int32)) hx hb dX3_readsRest_8 (by decide) ?_
    obtain ⟨q8, hq8, hf⟩ := bi_s hf
    refine bk_VI (wf := cw) (q0 := 2) (ci := 3) (rest := []) [.int (5 : Int32)] C hP hD hS hl.1 (c_X3_fails_2 hXo hq8) (cwA_V 1 hts wa_343 wa_340 wa_341 wa_342 wa_18 rfl rfl nd_X3_fails ⟨Nat.le_of_ble_eq_true rfl, Nat.le_of_ble_eq_true rfl⟩) rfl rfl rfl rfl (Nat.le_of_ble_eq_true rfl) dX3_readsRest_9 ⟨Nat.le_of_ble_eq_true rfl, Nat.le_of_ble_eq_true rfl⟩ (fun H locs hP hD hS => ?_)
    obtain ⟨g9, hf⟩ := gd_s hf
    cases hf
    exact bk_zret C hP hD hS (Decidable.not_not.mp g9) rfl dX3_readsRest_12
theorem c_X3_readsRest_2 {N : Nat} {σ : Sg} {z : Int32 × Sg} (hX : xOK g X) (hf : f_X3_readsRest_2 N σ = some z) : MetI l yX3_readsRest (Cond.code yX3_readsRest cX3_readsRest 1 (some .boolean) :: wsA) rm_X3_readsRest_2 cw g X [.ref (g.2.2 2)] σ z.1 z.2 :=
  MetI_of hX (by decide) (Nat.le_of_ble_eq_true rfl) (fun p e s m args below meth c A C => b_X3_readsRest_2 C hf)
-- X3_readsSight_2: readsSight()Z
abbrev rm_X3_readsSight_2 : Room := { frames := 8, cells := 0, slots := 0, locals := 170 }
theorem nd_X3_readsSight : yX3_readsSight.cls ≠ "java/lang/invoke/MethodHandle" ∧ yX3_readsSight.cls ≠ "java/lang/invoke/VarHandle" ∧ (parseMethodDescriptor yX3_readsSight.desc).map (fun d => d.parameters.length) = some 0 := by decide +kernel
def f_X3_readsSight_2 (N : Nat) (σ : Sg) : Option (Int32 × Sg) :=
if (σ 2 11) = 0 then (bd (wr σ 2 11 (1 : Int32)) fun σ1 =>
(f_X3_advance_2 N σ1).bind fun q2 =>
(f_X3_isNumber_2 N (1 : Int32) (99 : Int32) q2).bind fun q3 =>
if q3.1 = 0 then (some ((0 : Int32), (q3.2)))
else (bd (wr (q3.2) 3 6 ((q3.2) 2 10)) fun σ4 =>
(f_X3_advance_2 N σ4).bind fun q5 =>
(f_X3_endsLine_2 N q5).bind fun q6 =>
if ¬ (q6.1 = 0 ∨ q6.1 = 1) then none else some (q6.1, (q6.2))))
else ((f_X3_fails_2 N (5 : Int32) σ).bind fun q8 =>
if ¬ (q8.1 = 0 ∨ q8.1 = 1) then none else some (q8.1, (q8.2)))
set_option maxHeartbeats 4000000 in
set_option maxRecDepth 100000 in
theorem b_X3_readsSight_2 {N : Nat} {σ : Sg} {z : Int32 × Sg} (C : Cx p s m args meth c cX3_readsSight 1 (some .boolean) RX3 g A X) (hf : f_X3_readsSight_2 N σ = some z) : Bk cw p l e rm_X3_readsSight_2 s m args below meth c 1 g A (MQ below (qI cw g A z.1 z.2) args s 0 0 A) 0 0 0 [(0, .ref (g.2.2 2))] [] σ := by
  obtain ⟨hx, hb, hr, hml, hown, hts, hK, hlocks, hXX, hA, hXo⟩ := id C
  intro H locs ls hP hD hS hl
  unfold f_X3_readsSight_2 at hf
  refine lv_aload_n hx hb dX3_readsSight_0 rfl (lv_at hl 0 rfl) ?_
  refine bk_get (wf := cw) (q0 := 2) (ci := 3) (k := 11) (v := .int (σ 2 11)) C hP wl_X3 rfl rfl (by decide) wa_62 rfl rfl dX3_readsSight_1 ?_
  refine lv_if_eq (tgt := 13) hx hb dX3_readsSight_4 (by decide) (fun t4 => ?_) (fun t4 => ?_)
  · have hf := (if_pos t4).symm.trans hf
    refine lv_aload_n hx hb dX3_readsSight_13 rfl (lv_at hl 0 rfl) ?_
    refine lv_iconst (v := (1 : Int32)) hx hb dX3_readsSight_14 (by decide) ?_
    obtain ⟨σ1, eσ1, hf⟩ := bd_s hf
    refine bk_put (wf := cw) (σ1 := σ1) (q0 := 2) (ci := 3) (k := 11) (v := .int (1 : Int32)) C hP hD hS wl_X3 tyX3_ok nmX3 rfl rfl (by decide) wa_62 rfl rfl rfl rfl rfl (Nat.le_of_ble_eq_true rfl) (by rw [eσ1]; exact cw_p2_11 g _ _) dX3_readsSight_15 (fun H locs hP hD hS => ?_)
    refine lv_aload_n hx hb dX3_readsSight_18 rfl (lv_at hl 0 rfl) ?_
    obtain ⟨q2, hq2, hf⟩ := bi_s hf
    refine bk_VV (wf := cw) (q0 := 2) (ci := 3) (rest := []) [] C hP hD hS hl.1 (c_X3_advance_2 hXo hq2) (cwA_V 0 hts wa_241 wa_238 wa_239 wa_240 wa_18 rfl rfl nd_X3_advance ⟨Nat.le_of_ble_eq_true rfl, Nat.le_of_ble_eq_true rfl⟩) rfl rfl rfl rfl (Nat.le_of_ble_eq_true rfl) dX3_readsSight_19 ⟨Nat.le_of_ble_eq_true rfl, Nat.le_of_ble_eq_true rfl⟩ (fun H locs hP hD hS => ?_)
    refine lv_aload_n hx hb dX3_readsSight_22 rfl (lv_at hl 0 rfl) ?_
    refine lv_iconst (v := (1 : Int32)) hx hb dX3_readsSight_23 (by decide) ?_
    refine lv_bipush (v := (99 : Int32)) hx hb dX3_readsSight_24 (by decide) ?_
    obtain ⟨q3, hq3, hf⟩ := bi_s hf
    refine bk_VI (wf := cw) (q0 := 2) (ci := 3) (rest := []) [.int (1 : Int32), .int (99 : Int32)] C hP hD hS hl.1 (c_X3_isNumber_2 hXo hq3) (cwA_V 2 hts wa_347 wa_344 wa_345 wa_346 wa_18 rfl rfl nd_X3_isNumber ⟨Nat.le_of_ble_eq_true rfl, Nat.le_of_ble_eq_true rfl⟩) rfl rfl rfl rfl (Nat.le_of_ble_eq_true rfl) dX3_readsSight_26 ⟨Nat.le_of_ble_eq_true rfl, Nat.le_of_ble_eq_true rfl⟩ (fun H locs hP hD hS => ?_)
    refine lv_if_ne (tgt := 34) hx hb dX3_readsSight_29 (by decide) (fun t29 => ?_) (fun t29 => ?_)
    · have hf := (if_neg t29).symm.trans hf
      refine lv_aload_n hx hb dX3_readsSight_34 rfl (lv_at hl 0 rfl) ?_
      refine bk_get (wf := cw) (q0 := 2) (ci := 3) (k := 0) (v := .ref (g.2.2 3)) C hP wl_X3 rfl rfl (by decide) wa_51 rfl rfl dX3_readsSight_35 ?_
      refine lv_aload_n hx hb dX3_readsSight_38 rfl (lv_at hl 0 rfl) ?_
      refine bk_get (wf := cw) (q0 := 2) (ci := 3) (k := 10) (v := .int ((q3.2) 2 10)) C hP wl_X3 rfl rfl (by decide) wa_61 rfl rfl dX3_readsSight_39 ?_
      obtain ⟨σ4, eσ4, hf⟩ := bd_s hf
      refine bk_put (wf := cw) (σ1 := σ4) (q0 := 3) (ci := 8) (k := 6) (v := .int ((q3.2) 2 10)) C hP hD hS wl_X9 tyX9_ok nmX9 rfl rfl (by decide) wa_371 rfl rfl rfl rfl rfl (Nat.le_of_ble_eq_true rfl) (by rw [eσ4]; exact cw_p3_6 g _ _) dX3_readsSight_42 (fun H locs hP hD hS => ?_)
      refine lv_aload_n hx hb dX3_readsSight_45 rfl (lv_at hl 0 rfl) ?_
      obtain ⟨q5, hq5, hf⟩ := bi_s hf
      refine bk_VV (wf := cw) (q0 := 2) (ci := 3) (rest := []) [] C hP hD hS hl.1 (c_X3_advance_2 hXo hq5) (cwA_V 0 hts wa_241 wa_238 wa_239 wa_240 wa_18 rfl rfl nd_X3_advance ⟨Nat.le_of_ble_eq_true rfl, Nat.le_of_ble_eq_true rfl⟩) rfl rfl rfl rfl (Nat.le_of_ble_eq_true rfl) dX3_readsSight_46 ⟨Nat.le_of_ble_eq_true rfl, Nat.le_of_ble_eq_true rfl⟩ (fun H locs hP hD hS => ?_)
      refine lv_aload_n hx hb dX3_readsSight_49 rfl (lv_at hl 0 rfl) ?_
      obtain ⟨q6, hq6, hf⟩ := bi_s hf
      refine bk_VI (wf := cw) (q0 := 2) (ci := 3) (rest := []) [] C hP hD hS hl.1 (c_X3_endsLine_2 hXo hq6) (cwA_V 0 hts wa_359 wa_356 wa_357 wa_358 wa_18 rfl rfl nd_X3_endsLine ⟨Nat.le_of_ble_eq_true rfl, Nat.le_of_ble_eq_true rfl⟩) rfl rfl rfl rfl (Nat.le_of_ble_eq_true rfl) dX3_readsSight_50 ⟨Nat.le_of_ble_eq_true rfl, Nat.le_of_ble_eq_true rfl⟩ (fun H locs hP hD hS => ?_)
      obtain ⟨g7, hf⟩ := gd_s hf
      cases hf
      exact bk_zret C hP hD hS (Decidable.not_not.mp g7) rfl dX3_readsSight_53
    · have hf := (if_pos t29).symm.trans hf
      refine lv_iconst (v := (0 : Int32)) hx hb dX3_readsSight_32 (by decide) ?_
      cases hf
      exact bk_zret C hP hD hS (by decide) rfl dX3_readsSight_33
  · have hf := (if_neg t4).symm.trans hf
    refine lv_aload_n hx hb dX3_readsSight_7 rfl (lv_at hl 0 rfl) ?_
    refine lv_iconst (v := (5 : Int32)) hx hb dX3_readsSight_8 (by decide) ?_
    obtain ⟨q8, hq8, hf⟩ := bi_s hf
    refine bk_VI (wf := cw) (q0 := 2) (ci := 3) (rest := []) [.int (5 : Int32)] C hP hD hS hl.1 (c_X3_fails_2 hXo hq8) (cwA_V 1 hts wa_343 wa_340 wa_341 wa_342 wa_18 rfl rfl nd_X3_fails ⟨Nat.le_of_ble_eq_true rfl, Nat.le_of_ble_eq_true rfl⟩) rfl rfl rfl rfl (Nat.le_of_ble_eq_true rfl) dX3_readsSight_9 ⟨Nat.le_of_ble_eq_true rfl, Nat.le_of_ble_eq_true rfl⟩ (fun H locs hP hD hS => ?_)
    obtain ⟨g9, hf⟩ := gd_s hf
    cases hf
    exact bk_zret C hP hD hS (Decidable.not_not.mp g9) rfl dX3_readsSight_12
theorem c_X3_readsSight_2 {N : Nat} {σ : Sg} {z : Int32 × Sg} (hX : xOK g X) (hf : f_X3_readsSight_2 N σ = some z) : MetI l yX3_readsSight (Cond.code yX3_readsSight cX3_readsSight 1 (some .boolean) :: wsA) rm_X3_readsSight_2 cw g X [.ref (g.2.2 2)] σ z.1 z.2 :=
  MetI_of hX (by decide) (Nat.le_of_ble_eq_true rfl) (fun p e s m args below meth c A C => b_X3_readsSight_2 C hf)
-- X3_takesNumber_2_8: takesNumber([IIII)Z
abbrev rm_X3_takesNumber_2_8 : Room := { frames := 7, cells := 0, slots := 0, locals := 150 }
def f_X3_takesNumber_2_8_b29 (N : Nat) (σ : Sg) : Option (Int32 × Sg) :=
(f_X3_advance_2 N σ).bind fun q1 =>
some ((1 : Int32), q1)
set_option maxHeartbeats 4000000 in
set_option maxRecDepth 100000 in
theorem b_X3_takesNumber_2_8_b29 {N : Nat} {σ : Sg} {z : Int32 × Sg} (C : Cx p s m args meth c cX3_takesNumber 5 (some .boolean) RX3 g A X) (hf : f_X3_takesNumber_2_8_b29 N σ = some z) : Bk cw p l e rm_X3_takesNumber_2_8 s m args below meth c 5 g A (MQ below (qI cw g A z.1 z.2) args s 0 0 A) 0 0 29 [(0, .ref (g.2.2 2))] [] σ := by
  obtain ⟨hx, hb, hr, hml, hown, hts, hK, hlocks, hXX, hA, hXo⟩ := id C
  intro H locs ls hP hD hS hl
  unfold f_X3_takesNumber_2_8_b29 at hf
  refine lv_aload_n hx hb dX3_takesNumber_29 rfl (lv_at hl 0 rfl) ?_
  obtain ⟨q1, hq1, hf⟩ := bi_s hf
  refine bk_VV (wf := cw) (q0 := 2) (ci := 3) (rest := []) [] C hP hD hS hl.1 (c_X3_advance_2 hXo hq1) (cwA_V 0 hts wa_241 wa_238 wa_239 wa_240 wa_18 rfl rfl nd_X3_advance ⟨Nat.le_of_ble_eq_true rfl, Nat.le_of_ble_eq_true rfl⟩) rfl rfl rfl rfl (Nat.le_of_ble_eq_true rfl) dX3_takesNumber_30 ⟨Nat.le_of_ble_eq_true rfl, Nat.le_of_ble_eq_true rfl⟩ (fun H locs hP hD hS => ?_)
  refine lv_iconst (v := (1 : Int32)) hx hb dX3_takesNumber_33 (by decide) ?_
  cases hf
  exact bk_zret C hP hD hS (by decide) rfl dX3_takesNumber_34
def f_X3_takesNumber_2_8 (N : Nat) (x2 : Int32) (x3 : Int32) (x4 : Int32) (σ : Sg) : Option (Int32 × Sg) :=
(f_X3_isNumber_2 N x3 x4 σ).bind fun q2 =>
if q2.1 = 0 then (some ((0 : Int32), (q2.2)))
else (if x2 < 0 then (f_X3_takesNumber_2_8_b29 N (q2.2))
else (if (8 : Int32) ≤ x2 then (f_X3_takesNumber_2_8_b29 N (q2.2))
else (if (x2 < 0 ∨ 8 ≤ x2.toNatClampNeg) then none else
bd (wr (q2.2) 8 (x2.toNatClampNeg) ((q2.2) 2 10)) fun σ4 =>
f_X3_takesNumber_2_8_b29 N σ4)))
set_option maxHeartbeats 4000000 in
set_option maxRecDepth 100000 in
theorem b_X3_takesNumber_2_8 {N : Nat} {x2 : Int32} {x3 : Int32} {x4 : Int32} {σ : Sg} {z : Int32 × Sg} (C : Cx p s m args meth c cX3_takesNumber 5 (some .boolean) RX3 g A X) (hf : f_X3_takesNumber_2_8 N x2 x3 x4 σ = some z) : Bk cw p l e rm_X3_takesNumber_2_8 s m args below meth c 5 g A (MQ below (qI cw g A z.1 z.2) args s 0 0 A) 0 0 0 [(0, .ref (g.2.2 2)), (1, .ref (g.2.2 8)), (2, .int x2), (3, .int x3), (4, .int x4)] [] σ := by
  obtain ⟨hx, hb, hr, hml, hown, hts, hK, hlocks, hXX, hA, hXo⟩ := id C
  intro H locs ls hP hD hS hl
  unfold f_X3_takesNumber_2_8 at hf
  refine lv_aload_n hx hb dX3_takesNumber_0 rfl (lv_at hl 0 rfl) ?_
  refine lv_iload_n hx hb dX3_takesNumber_1 rfl (lv_at hl 3 rfl) ?_
  refine lv_iload hx hb dX3_takesNumber_2 (lv_at hl 4 rfl) ?_
  obtain ⟨q2, hq2, hf⟩ := bi_s hf
  refine bk_VI (wf := cw) (q0 := 2) (ci := 3) (rest := []) [.int x3, .int x4] C hP hD hS hl.1 (c_X3_isNumber_2 hXo hq2) (cwA_V 2 hts wa_347 wa_344 wa_345 wa_346 wa_18 rfl rfl nd_X3_isNumber ⟨Nat.le_of_ble_eq_true rfl, Nat.le_of_ble_eq_true rfl⟩) rfl rfl rfl rfl (Nat.le_of_ble_eq_true rfl) dX3_takesNumber_4 ⟨Nat.le_of_ble_eq_true rfl, Nat.le_of_ble_eq_true rfl⟩ (fun H locs hP hD hS => ?_)
  refine lv_if_ne (tgt := 12) hx hb dX3_takesNumber_7 (by decide) (fun t7 => ?_) (fun t7 => ?_)
  · have hf := (if_neg t7).symm.trans hf
    refine lv_iload_n hx hb dX3_takesNumber_12 rfl (lv_at hl 2 rfl) ?_
    refine lv_if_lt (tgt := 29) hx hb dX3_takesNumber_13 (by decide) (fun t13 => ?_) (fun t13 => ?_)
    · have hf := (if_pos t13).symm.trans hf
      exact b_X3_takesNumber_2_8_b29 C hf H locs ls hP hD hS (lv_sub hl [0] rfl)
    · have hf := (if_neg t13).symm.trans hf
      refine lv_iload_n hx hb dX3_takesNumber_16 rfl (lv_at hl 2 rfl) ?_
      refine lv_aload_n hx hb dX3_takesNumber_17 rfl (lv_at hl 1 rfl) ?_
      refine bk_alen (wf := cw) (q0 := 8) (t0 := 0) (v := (8 : Int32)) C hP rfl rfl (show Int32.ofNat 8 = (8 : Int32) by decide) dX3_takesNumber_18 ?_
      refine lv_icmp_ge (tgt := 29) hx hb dX3_takesNumber_19 (by decide) (fun t19 => ?_) (fun t19 => ?_)
      · have hf := (if_pos t19).symm.trans hf
        exact b_X3_takesNumber_2_8_b29 C hf H locs ls hP hD hS (lv_sub hl [0] rfl)
      · have hf := (if_neg t19).symm.trans hf
        refine lv_aload_n hx hb dX3_takesNumber_22 rfl (lv_at hl 1 rfl) ?_
        refine lv_iload_n hx hb dX3_takesNumber_23 rfl (lv_at hl 2 rfl) ?_
        refine lv_aload_n hx hb dX3_takesNumber_24 rfl (lv_at hl 0 rfl) ?_
        refine bk_get (wf := cw) (q0 := 2) (ci := 3) (k := 10) (v := .int ((q2.2) 2 10)) C hP wl_X3 rfl rfl (by decide) wa_61 rfl rfl dX3_takesNumber_25 ?_
        obtain ⟨g3, hf⟩ := gd_s hf
        obtain ⟨σ4, eσ4, hf⟩ := bd_s hf
        refine bk_iast (wf := cw) (σ1 := σ4) (q0 := 8) (n := 8) (j := x2.toNatClampNeg) C hP hD hS rfl g3 rfl (by rw [eσ4]; exact cw_a8 g _ _ _) dX3_takesNumber_28 (fun H locs hP hD hS => ?_)
        exact b_X3_takesNumber_2_8_b29 C hf H locs ls hP hD hS (lv_sub hl [0] rfl)
  · have hf := (if_pos t7).symm.trans hf
    refine lv_iconst (v := (0 : Int32)) hx hb dX3_takesNumber_10 (by decide) ?_
    cases hf
    exact bk_zret C hP hD hS (by decide) rfl dX3_takesNumber_11
theorem c_X3_takesNumber_2_8 {N : Nat} {x2 : Int32} {x3 : Int32} {x4 : Int32} {σ : Sg} {z : Int32 × Sg} (hX : xOK g X) (hf : f_X3_takesNumber_2_8 N x2 x3 x4 σ = some z) : MetI l yX3_takesNumber (Cond.code yX3_takesNumber cX3_takesNumber 5 (some .boolean) :: wsA) rm_X3_takesNumber_2_8 cw g X [.ref (g.2.2 2), .ref (g.2.2 8), .int x2, .int x3, .int x4] σ z.1 z.2 :=
  MetI_of hX (by decide) (Nat.le_of_ble_eq_true rfl) (fun p e s m args below meth c A C => b_X3_takesNumber_2_8 C hf)
-- X3_readsMist_2: readsMist()Z
abbrev rm_X3_readsMist_2 : Room := { frames := 8, cells := 0, slots := 0, locals := 174 }
theorem nd_X3_readsMist : yX3_readsMist.cls ≠ "java/lang/invoke/MethodHandle" ∧ yX3_readsMist.cls ≠ "java/lang/invoke/VarHandle" ∧ (parseMethodDescriptor yX3_readsMist.desc).map (fun d => d.parameters.length) = some 0 := by decide +kernel
def s_X3_readsMist_2_h34 (N : Nat) (x1 : Int32) (σ : Sg) : Option (Nat × Int32 × Sg) :=
if (8 : Int32) ≤ x1 then (some (2, 0, σ))
else (if ((σ 2 5) < 0 ∨ 27 ≤ (σ 2 5).toNatClampNeg) then none else
if (σ 2 5) = (2 : Int32) then ((f_X3_takesNumber_2_8 N x1 (0 : Int32) (9 : Int32) σ).bind fun q2 =>
if q2.1 = 0 then (some (1, 0, (q2.2)))
else (bd (wr (q2.2) 3 8 (x1 + (1 : Int32))) fun σ3 =>
bd (x1 + (1 : Int32)) fun v4 =>
some (0, v4, σ3)))
else (some (2, 0, σ)))
set_option maxHeartbeats 4000000 in
set_option maxRecDepth 100000 in
theorem e_X3_readsMist_2_h34 {N : Nat} {x1 : Int32} {σ : Sg} {z : Nat × Int32 × Sg} (C : Cx p s m args meth c cX3_readsMist 2 (some .boolean) RX3 g A X) (hf : s_X3_readsMist_2_h34 N x1 σ = some z) (k0 : z.1 = 0 → Bk cw p l e rm_X3_readsMist_2 s m args below meth c 2 g A Q 0 0 34 [(0, .ref (g.2.2 2)), (1, .int z.2.1)] [] z.2.2) (k : ¬ z.1 = 0 → ((z.1 = 1 → Bk cw p l e rm_X3_readsMist_2 s m args below meth c 2 g A Q 0 0 68 [] [] z.2.2) ∧ (¬ z.1 = 1 → Bk cw p l e rm_X3_readsMist_2 s m args below meth c 2 g A Q 0 0 86 [(0, .ref (g.2.2 2))] [] z.2.2))) : Bk cw p l e rm_X3_readsMist_2 s m args below meth c 2 g A Q 0 0 34 [(0, .ref (g.2.2 2)), (1, .int x1)] [] σ := by
  obtain ⟨hx, hb, hr, hml, hown, hts, hK, hlocks, hXX, hA, hXo⟩ := id C
  intro H locs ls hP hD hS hl
  unfold s_X3_readsMist_2_h34 at hf
  refine lv_iload_n hx hb dX3_readsMist_34 rfl (lv_at hl 1 rfl) ?_
  refine lv_bipush (v := (8 : Int32)) hx hb dX3_readsMist_35 (by decide) ?_
  refine lv_icmp_ge (tgt := 86) hx hb dX3_readsMist_37 (by decide) (fun t37 => ?_) (fun t37 => ?_)
  · have hf := (if_pos t37).symm.trans hf
    cases hf
    exact ((k (show ¬ (2 : Nat) = 0 by decide)).2 (show ¬ (2 : Nat) = 1 by decide)) H locs ls hP hD hS (lv_sub hl [0] rfl)
  · have hf := (if_neg t37).symm.trans hf
    refine lv_aload_n hx hb dX3_readsMist_40 rfl (lv_at hl 0 rfl) ?_
    refine bk_get (wf := cw) (q0 := 2) (ci := 3) (k := 5) (v := .ref (g.2.2 (300 + (σ 2 5).toNatClampNeg))) C hP wl_X3 rfl rfl (by decide) wa_56 rfl rfl dX3_readsMist_41 ?_
    refine va_gets (v := .ref (g.2.2 (300 + (2 : Int32).toNatClampNeg))) hx hb (tok_Z (hXo.2.2.2 _ _ _ hXX).2.2.2.2.2.1 2 "NUMBER" (by decide) (by decide) rfl) hS hown (hts _ wa_254) (fun _ h => h) dX3_readsMist_44 ?_
    obtain ⟨g1, hf⟩ := gd_s hf
    refine bk_acn (tgt := 86) C g1 (vin_l (by decide) (by decide)) dX3_readsMist_47 (by decide) (fun t47 => ?_) (fun t47 => ?_)
    · have hf := (if_neg t47).symm.trans hf
      cases hf
      exact ((k (show ¬ (2 : Nat) = 0 by decide)).2 (show ¬ (2 : Nat) = 1 by decide)) H locs ls hP hD hS (lv_sub hl [0] rfl)
    · have hf := (if_pos t47).symm.trans hf
      refine lv_aload_n hx hb dX3_readsMist_50 rfl (lv_at hl 0 rfl) ?_
      refine lv_aload_n hx hb dX3_readsMist_51 rfl (lv_at hl 0 rfl) ?_
      refine bk_get (wf := cw) (q0 := 2) (ci := 3) (k := 0) (v := .ref (g.2.2 3)) C hP wl_X3 rfl rfl (by decide) wa_51 rfl rfl dX3_readsMist_52 ?_
      refine bk_get (wf := cw) (q0 := 3) (ci := 8) (k := 9) (v := .ref (g.2.2 8)) C hP wl_X9 rfl rfl (by decide) wa_366 rfl rfl dX3_readsMist_55 ?_
      refine lv_iload_n hx hb dX3_readsMist_58 rfl (lv_at hl 1 rfl) ?_
      refine lv_iconst (v := (0 : Int32)) hx hb dX3_readsMist_59 (by decide) ?_
      refine lv_bipush (v := (9 : Int32)) hx hb dX3_readsMist_60 (by decide) ?_
      obtain ⟨q2, hq2, hf⟩ := bi_s hf
      refine bk_VI (wf := cw) (q0 := 2) (ci := 3) (rest := []) [.ref (g.2.2 8), .int x1, .int (0 : Int32), .int (9 : Int32)] C hP hD hS hl.1 (c_X3_takesNumber_2_8 hXo hq2) (cwA_V 4 hts wa_355 wa_352 wa_353 wa_354 wa_18 rfl rfl nd_X3_takesNumber ⟨Nat.le_of_ble_eq_true rfl, Nat.le_of_ble_eq_true rfl⟩) rfl rfl rfl rfl (Nat.le_of_ble_eq_true rfl) dX3_readsMist_62 ⟨Nat.le_of_ble_eq_true rfl, Nat.le_of_ble_eq_true rfl⟩ (fun H locs hP hD hS => ?_)
      refine lv_if_ne (tgt := 70) hx hb dX3_readsMist_65 (by decide) (fun t65 => ?_) (fun t65 => ?_)
      · have hf := (if_neg t65).symm.trans hf
        refine lv_aload_n hx hb dX3_readsMist_70 rfl (lv_at hl 0 rfl) ?_
        refine bk_get (wf := cw) (q0 := 2) (ci := 3) (k := 0) (v := .ref (g.2.2 3)) C hP wl_X3 rfl rfl (by decide) wa_51 rfl rfl dX3_readsMist_71 ?_
        refine lv_iload_n hx hb dX3_readsMist_74 rfl (lv_at hl 1 rfl) ?_
        refine lv_iconst (v := (1 : Int32)) hx hb dX3_readsMist_75 (by decide) ?_
        refine lv_iadd hx hb dX3_readsMist_76 ?_
        obtain ⟨σ3, eσ3, hf⟩ := bd_s hf
        refine bk_put (wf := cw) (σ1 := σ3) (q0 := 3) (ci := 8) (k := 8) (v := .int (x1 + (1 : Int32))) C hP hD hS wl_X9 tyX9_ok nmX9 rfl rfl (by decide) wa_365 rfl rfl rfl rfl rfl (Nat.le_of_ble_eq_true rfl) (by rw [eσ3]; exact cw_p3_8 g _ _) dX3_readsMist_77 (fun H locs hP hD hS => ?_)
        obtain ⟨v4, ev4, hf⟩ := bd_s hf
        refine lv_iinc (v := v4) (lv' := [(1, .int v4), (0, .ref (g.2.2 2))]) hx hb dX3_readsMist_80 hl (k := 1) rfl (by rw [ev4]; rfl) (by decide) rfl (fun ls hl => ?_)
        refine lv_goto (tgt := 34) hx hb dX3_readsMist_83 (by decide) ?_
        cases hf
        exact k0 rfl H locs ls hP hD hS (lv_sub hl [1, 0] rfl)
      · have hf := (if_pos t65).symm.trans hf
        cases hf
        exact ((k (show ¬ (1 : Nat) = 0 by decide)).1 rfl) H locs ls hP hD hS (lv_sub hl [] rfl)
theorem lp_X3_readsMist_2_h34 {N : Nat} {n : Nat} {x1 : Int32} {σ : Sg} {z : Nat × Int32 × Sg} (C : Cx p s m args meth c cX3_readsMist 2 (some .boolean) RX3 g A X) (hz : it (fun q => s_X3_readsMist_2_h34 N q.1 q.2) n (x1, σ) = some z) (k : ((z.1 = 1 → Bk cw p l e rm_X3_readsMist_2 s m args below meth c 2 g A Q 0 0 68 [] [] z.2.2) ∧ (¬ z.1 = 1 → Bk cw p l e rm_X3_readsMist_2 s m args below meth c 2 g A Q 0 0 86 [(0, .ref (g.2.2 2))] [] z.2.2))) : Bk cw p l e rm_X3_readsMist_2 s m args below meth c 2 g A Q 0 0 34 [(0, .ref (g.2.2 2)), (1, .int x1)] [] σ :=
  it_W (S := Int32 × Sg) (fun q => Bk cw p l e rm_X3_readsMist_2 s m args below meth c 2 g A Q 0 0 34 [(0, .ref (g.2.2 2)), (1, .int q.1)] [] q.2) (fun z => ((z.1 = 1 → Bk cw p l e rm_X3_readsMist_2 s m args below meth c 2 g A Q 0 0 68 [] [] z.2.2) ∧ (¬ z.1 = 1 → Bk cw p l e rm_X3_readsMist_2 s m args below meth c 2 g A Q 0 0 86 [(0, .ref (g.2.2 2))] [] z.2.2))) (fun q z hq k0 k => e_X3_readsMist_2_h34 C hq k0 k) n (x1, σ) z hz k
def f_X3_readsMist_2 (N : Nat) (σ : Sg) : Option (Int32 × Sg) :=
if (σ 3 8) ≤ 0 then ((f_X3_advance_2 N σ).bind fun q5 =>
(f_X3_isNumber_2 N (0 : Int32) (9 : Int32) q5).bind fun q6 =>
if q6.1 = 0 then (some ((0 : Int32), (q6.2)))
else ((it (fun q => s_X3_readsMist_2_h34 N q.1 q.2) N ((0 : Int32), (q6.2))).bind fun z7 =>
if z7.1 = 1 then (some ((0 : Int32), (z7.2.2)))
else (if (((z7.2.2) 2 5) < 0 ∨ 27 ≤ ((z7.2.2) 2 5).toNatClampNeg) then none else
if ((z7.2.2) 2 5) = (2 : Int32) then ((f_X3_fails_2 N (2 : Int32) (z7.2.2)).bind fun q11 =>
if ¬ (q11.1 = 0 ∨ q11.1 = 1) then none else some (q11.1, (q11.2)))
else ((f_X3_endsLine_2 N (z7.2.2)).bind fun q9 =>
if ¬ (q9.1 = 0 ∨ q9.1 = 1) then none else some (q9.1, (q9.2))))))
else ((f_X3_fails_2 N (5 : Int32) σ).bind fun q13 =>
if ¬ (q13.1 = 0 ∨ q13.1 = 1) then none else some (q13.1, (q13.2)))
set_option maxHeartbeats 4000000 in
set_option maxRecDepth 100000 in
theorem b_X3_readsMist_2 {N : Nat} {σ : Sg} {z : Int32 × Sg} (C : Cx p s m args meth c cX3_readsMist 2 (some .boolean) RX3 g A X) (hf : f_X3_readsMist_2 N σ = some z) : Bk cw p l e rm_X3_readsMist_2 s m args below meth c 2 g A (MQ below (qI cw g A z.1 z.2) args s 0 0 A) 0 0 0 [(0, .ref (g.2.2 2))] [] σ := by
  obtain ⟨hx, hb, hr, hml, hown, hts, hK, hlocks, hXX, hA, hXo⟩ := id C
  intro H locs ls hP hD hS hl
  unfold f_X3_readsMist_2 at hf
  refine lv_aload_n hx hb dX3_readsMist_0 rfl (lv_at hl 0 rfl) ?_
  refine bk_get (wf := cw) (q0 := 2) (ci := 3) (k := 0) (v := .ref (g.2.2 3)) C hP wl_X3 rfl rfl (by decide) wa_51 rfl rfl dX3_readsMist_1 ?_
  refine bk_get (wf := cw) (q0 := 3) (ci := 8) (k := 8) (v := .int (σ 3 8)) C hP wl_X9 rfl rfl (by decide) wa_365 rfl rfl dX3_readsMist_4 ?_
  refine lv_if_le (tgt := 16) hx hb dX3_readsMist_7 (by decide) (fun t7 => ?_) (fun t7 => ?_)
  · have hf := (if_pos t7).symm.trans hf
    refine lv_aload_n hx hb dX3_readsMist_16 rfl (lv_at hl 0 rfl) ?_
    obtain ⟨q5, hq5, hf⟩ := bi_s hf
    refine bk_VV (wf := cw) (q0 := 2) (ci := 3) (rest := []) [] C hP hD hS hl.1 (c_X3_advance_2 hXo hq5) (cwA_V 0 hts wa_241 wa_238 wa_239 wa_240 wa_18 rfl rfl nd_X3_advance ⟨Nat.le_of_ble_eq_true rfl, Nat.le_of_ble_eq_true rfl⟩) rfl rfl rfl rfl (Nat.le_of_ble_eq_true rfl) dX3_readsMist_17 ⟨Nat.le_of_ble_eq_true rfl, Nat.le_of_ble_eq_true rfl⟩ (fun H locs hP hD hS => ?_)
    refine lv_aload_n hx hb dX3_readsMist_20 rfl (lv_at hl 0 rfl) ?_
    refine lv_iconst (v := (0 : Int32)) hx hb dX3_readsMist_21 (by decide) ?_
    refine lv_bipush (v := (9 : Int32)) hx hb dX3_readsMist_22 (by decide) ?_
    obtain ⟨q6, hq6, hf⟩ := bi_s hf
    refine bk_VI (wf := cw) (q0 := 2) (ci := 3) (rest := []) [.int (0 : Int32), .int (9 : Int32)] C hP hD hS hl.1 (c_X3_isNumber_2 hXo hq6) (cwA_V 2 hts wa_347 wa_344 wa_345 wa_346 wa_18 rfl rfl nd_X3_isNumber ⟨Nat.le_of_ble_eq_true rfl, Nat.le_of_ble_eq_true rfl⟩) rfl rfl rfl rfl (Nat.le_of_ble_eq_true rfl) dX3_readsMist_24 ⟨Nat.le_of_ble_eq_true rfl, Nat.le_of_ble_eq_true rfl⟩ (fun H locs hP hD hS => ?_)
    refine lv_if_ne (tgt := 32) hx hb dX3_readsMist_27 (by decide) (fun t27 => ?_) (fun t27 => ?_)
    · have hf := (if_neg t27).symm.trans hf
      refine lv_iconst (v := (0 : Int32)) hx hb dX3_readsMist_32 (by decide) ?_
      refine lv_istore_n (lv' := [(1, .int (0 : Int32)), (0, .ref (g.2.2 2))]) hx hb dX3_readsMist_33 rfl hl (by decide) rfl (fun ls hl => ?_)
      obtain ⟨z7, hz7, hf⟩ := bi_s hf
      refine lp_X3_readsMist_2_h34 C hz7 ⟨fun t0 => ?_, fun t0 => ?_⟩ H locs ls hP hD hS (lv_sub hl [1, 0] rfl)
      · have hf := (if_pos t0).symm.trans hf
        intro H locs ls hP hD hS hl
        refine lv_iconst (v := (0 : Int32)) hx hb dX3_readsMist_68 (by decide) ?_
        cases hf
        exact bk_zret C hP hD hS (by decide) rfl dX3_readsMist_69
      · have hf := (if_neg t0).symm.trans hf
        intro H locs ls hP hD hS hl
        refine lv_aload_n hx hb dX3_readsMist_86 rfl (lv_at hl 0 rfl) ?_
        refine bk_get (wf := cw) (q0 := 2) (ci := 3) (k := 5) (v := .ref (g.2.2 (300 + ((z7.2.2) 2 5).toNatClampNeg))) C hP wl_X3 rfl rfl (by decide) wa_56 rfl rfl dX3_readsMist_87 ?_
        refine va_gets (v := .ref (g.2.2 (300 + (2 : Int32).toNatClampNeg))) hx hb (tok_Z (hXo.2.2.2 _ _ _ hXX).2.2.2.2.2.1 2 "NUMBER" (by decide) (by decide) rfl) hS hown (hts _ wa_254) (fun _ h => h) dX3_readsMist_90 ?_
        obtain ⟨g8, hf⟩ := gd_s hf
        refine bk_acn (tgt := 104) C g8 (vin_l (by decide) (by decide)) dX3_readsMist_93 (by decide) (fun t93 => ?_) (fun t93 => ?_)
        · have hf := (if_neg t93).symm.trans hf
          refine lv_aload_n hx hb dX3_readsMist_104 rfl (lv_at hl 0 rfl) ?_
          obtain ⟨q9, hq9, hf⟩ := bi_s hf
          refine bk_VI (wf := cw) (q0 := 2) (ci := 3) (rest := []) [] C hP hD hS hl.1 (c_X3_endsLine_2 hXo hq9) (cwA_V 0 hts wa_359 wa_356 wa_357 wa_358 wa_18 rfl rfl nd_X3_endsLine ⟨Nat.le_of_ble_eq_true rfl, Nat.le_of_ble_eq_true rfl⟩) rfl rfl rfl rfl (Nat.le_of_ble_eq_true rfl) dX3_readsMist_105 ⟨Nat.le_of_ble_eq_true rfl, Nat.le_of_ble_eq_true rfl⟩ (fun H locs hP hD hS => ?_)
          obtain ⟨g10, hf⟩ := gd_s hf
          cases hf
          exact bk_zret C hP hD hS (Decidable.not_not.mp g10) rfl dX3_readsMist_108
        · have hf := (if_pos t93).symm.trans hf
          refine lv_aload_n hx hb dX3_readsMist_96 rfl (lv_at hl 0 rfl) ?_
          refine lv_iconst (v := (2 : Int32)) hx hb dX3_readsMist_97 (by decide) ?_
          obtain ⟨q11, hq11, hf⟩ := bi_s hf
          refine bk_VI (wf := cw) (q0 := 2) (ci := 3) (rest := []) [.int (2 : Int32)] C hP hD hS hl.1 (c_X3_fails_2 hXo hq11) (cwA_V 1 hts wa_343 wa_340 wa_341 wa_342 wa_18 rfl rfl nd_X3_fails ⟨Nat.le_of_ble_eq_true rfl, Nat.le_of_ble_eq_true rfl⟩) rfl rfl rfl rfl (Nat.le_of_ble_eq_true rfl) dX3_readsMist_98 ⟨Nat.le_of_ble_eq_true rfl, Nat.le_of_ble_eq_true rfl⟩ (fun H locs hP hD hS => ?_)
          refine lv_goto (tgt := 108) hx hb dX3_readsMist_101 (by decide) ?_
          obtain ⟨g12, hf⟩ := gd_s hf
          cases hf
          exact bk_zret C hP hD hS (Decidable.not_not.mp g12) rfl dX3_readsMist_108
    · have hf := (if_pos t27).symm.trans hf
      refine lv_iconst (v := (0 : Int32)) hx hb dX3_readsMist_30 (by decide) ?_
      cases hf
      exact bk_zret C hP hD hS (by decide) rfl dX3_readsMist_31
  · have hf := (if_neg t7).symm.trans hf
    refine lv_aload_n hx hb dX3_readsMist_10 rfl (lv_at hl 0 rfl) ?_
    refine lv_iconst (v := (5 : Int32)) hx hb dX3_readsMist_11 (by decide) ?_
    obtain ⟨q13, hq13, hf⟩ := bi_s hf
    refine bk_VI (wf := cw) (q0 := 2) (ci := 3) (rest := []) [.int (5 : Int32)] C hP hD hS hl.1 (c_X3_fails_2 hXo hq13) (cwA_V 1 hts wa_343 wa_340 wa_341 wa_342 wa_18 rfl rfl nd_X3_fails ⟨Nat.le_of_ble_eq_true rfl, Nat.le_of_ble_eq_true rfl⟩) rfl rfl rfl rfl (Nat.le_of_ble_eq_true rfl) dX3_readsMist_12 ⟨Nat.le_of_ble_eq_true rfl, Nat.le_of_ble_eq_true rfl⟩ (fun H locs hP hD hS => ?_)
    obtain ⟨g14, hf⟩ := gd_s hf
    cases hf
    exact bk_zret C hP hD hS (Decidable.not_not.mp g14) rfl dX3_readsMist_15
theorem c_X3_readsMist_2 {N : Nat} {σ : Sg} {z : Int32 × Sg} (hX : xOK g X) (hf : f_X3_readsMist_2 N σ = some z) : MetI l yX3_readsMist (Cond.code yX3_readsMist cX3_readsMist 2 (some .boolean) :: wsA) rm_X3_readsMist_2 cw g X [.ref (g.2.2 2)] σ z.1 z.2 :=
  MetI_of hX (by decide) (Nat.le_of_ble_eq_true rfl) (fun p e s m args below meth c A C => b_X3_readsMist_2 C hf)
-- X3_readsLine_2: readsLine()Z
abbrev rm_X3_readsLine_2 : Room := { frames := 176, cells := 0, slots := 0, locals := 3553 }
theorem nd_X3_readsLine : yX3_readsLine.cls ≠ "java/lang/invoke/MethodHandle" ∧ yX3_readsLine.cls ≠ "java/lang/invoke/VarHandle" ∧ (parseMethodDescriptor yX3_readsLine.desc).map (fun d => d.parameters.length) = some 0 := by decide +kernel
def f_X3_readsLine_2_b36 (N : Nat) (t1 : Int32) (σ : Sg) : Option (Int32 × Sg) :=
(f_X3_readsFarm_2 N t1 σ).bind fun q1 =>
if ¬ (q1.1 = 0 ∨ q1.1 = 1) then none else some (q1.1, (q1.2))
set_option maxHeartbeats 4000000 in
set_option maxRecDepth 100000 in
theorem b_X3_readsLine_2_b36 {N : Nat} {t1 : Int32} {σ : Sg} {z : Int32 × Sg} (C : Cx p s m args meth c cX3_readsLine 1 (some .boolean) RX3 g A X) (hf : f_X3_readsLine_2_b36 N t1 σ = some z) : Bk cw p l e rm_X3_readsLine_2 s m args below meth c 1 g A (MQ below (qI cw g A z.1 z.2) args s 0 0 A) 0 0 36 [] [.int t1, .ref (g.2.2 2)] σ := by
  obtain ⟨hx, hb, hr, hml, hown, hts, hK, hlocks, hXX, hA, hXo⟩ := id C
  intro H locs ls hP hD hS hl
  unfold f_X3_readsLine_2_b36 at hf
  obtain ⟨q1, hq1, hf⟩ := bi_s hf
  refine bk_VI (wf := cw) (q0 := 2) (ci := 3) (rest := []) [.int t1] C hP hD hS hl.1 (c_X3_readsFarm_2 hXo hq1) (cwA_V 1 hts wa_333 wa_330 wa_331 wa_332 wa_18 rfl rfl nd_X3_readsFarm ⟨Nat.le_of_ble_eq_true rfl, Nat.le_of_ble_eq_true rfl⟩) rfl rfl rfl rfl (Nat.le_of_ble_eq_true rfl) dX3_readsLine_36 ⟨Nat.le_of_ble_eq_true rfl, Nat.le_of_ble_eq_true rfl⟩ (fun H locs hP hD hS => ?_)
  obtain ⟨g2, hf⟩ := gd_s hf
  cases hf
  exact bk_zret C hP hD hS (Decidable.not_not.mp g2) rfl dX3_readsLine_39
def f_X3_readsLine_2_b20 (N : Nat) (σ : Sg) : Option (Int32 × Sg) :=
if ((σ 2 5) < 0 ∨ 27 ≤ (σ 2 5).toNatClampNeg) then none else
if (σ 2 5) = (14 : Int32) then (f_X3_readsLine_2_b36 N (1 : Int32) σ)
else (f_X3_readsLine_2_b36 N (0 : Int32) σ)
set_option maxHeartbeats 4000000 in
set_option maxRecDepth 100000 in
theorem b_X3_readsLine_2_b20 {N : Nat} {σ : Sg} {z : Int32 × Sg} (C : Cx p s m args meth c cX3_readsLine 1 (some .boolean) RX3 g A X) (hf : f_X3_readsLine_2_b20 N σ = some z) : Bk cw p l e rm_X3_readsLine_2 s m args below meth c 1 g A (MQ below (qI cw g A z.1 z.2) args s 0 0 A) 0 0 20 [(0, .ref (g.2.2 2))] [] σ := by
  obtain ⟨hx, hb, hr, hml, hown, hts, hK, hlocks, hXX, hA, hXo⟩ := id C
  intro H locs ls hP hD hS hl
  unfold f_X3_readsLine_2_b20 at hf
  refine lv_aload_n hx hb dX3_readsLine_20 rfl (lv_at hl 0 rfl) ?_
  refine lv_aload_n hx hb dX3_readsLine_21 rfl (lv_at hl 0 rfl) ?_
  refine bk_get (wf := cw) (q0 := 2) (ci := 3) (k := 5) (v := .ref (g.2.2 (300 + (σ 2 5).toNatClampNeg))) C hP wl_X3 rfl rfl (by decide) wa_56 rfl rfl dX3_readsLine_22 ?_
  refine va_gets (v := .ref (g.2.2 (300 + (14 : Int32).toNatClampNeg))) hx hb (tok_Z (hXo.2.2.2 _ _ _ hXX).2.2.2.2.2.1 14 "SHEPHERD" (by decide) (by decide) rfl) hS hown (hts _ wa_325) (fun _ h => h) dX3_readsLine_25 ?_
  obtain ⟨g3, hf⟩ := gd_s hf
  refine bk_acn (tgt := 35) C g3 (vin_l (by decide) (by decide)) dX3_readsLine_28 (by decide) (fun t28 => ?_) (fun t28 => ?_)
  · have hf := (if_neg t28).symm.trans hf
    refine lv_iconst (v := (0 : Int32)) hx hb dX3_readsLine_35 (by decide) ?_
    exact b_X3_readsLine_2_b36 C hf H locs ls hP hD hS (lv_sub hl [] rfl)
  · have hf := (if_pos t28).symm.trans hf
    refine lv_iconst (v := (1 : Int32)) hx hb dX3_readsLine_31 (by decide) ?_
    refine lv_goto (tgt := 36) hx hb dX3_readsLine_32 (by decide) ?_
    exact b_X3_readsLine_2_b36 C hf H locs ls hP hD hS (lv_sub hl [] rfl)
def f_X3_readsLine_2 (N : Nat) (σ : Sg) : Option (Int32 × Sg) :=
if ((σ 2 5) < 0 ∨ 27 ≤ (σ 2 5).toNatClampNeg) then none else
if (σ 2 5) = (13 : Int32) then (f_X3_readsLine_2_b20 N σ)
else (if ((σ 2 5) < 0 ∨ 27 ≤ (σ 2 5).toNatClampNeg) then none else
if (σ 2 5) = (14 : Int32) then (f_X3_readsLine_2_b20 N σ)
else (if ((σ 2 5) < 0 ∨ 27 ≤ (σ 2 5).toNatClampNeg) then none else
if (σ 2 5) = (21 : Int32) then ((f_X3_readsMist_2 N σ).bind fun q18 =>
if ¬ (q18.1 = 0 ∨ q18.1 = 1) then none else some (q18.1, (q18.2)))
else (if ((σ 2 5) < 0 ∨ 27 ≤ (σ 2 5).toNatClampNeg) then none else
if (σ 2 5) = (15 : Int32) then ((f_X3_readsSight_2 N σ).bind fun q16 =>
if ¬ (q16.1 = 0 ∨ q16.1 = 1) then none else some (q16.1, (q16.2)))
else (if ((σ 2 5) < 0 ∨ 27 ≤ (σ 2 5).toNatClampNeg) then none else
if (σ 2 5) = (16 : Int32) then ((f_X3_readsRest_2 N σ).bind fun q14 =>
if ¬ (q14.1 = 0 ∨ q14.1 = 1) then none else some (q14.1, (q14.2)))
else (if ((σ 2 5) < 0 ∨ 27 ≤ (σ 2 5).toNatClampNeg) then none else
if (σ 2 5) = (17 : Int32) then ((f_X3_readsMinds_2 N σ).bind fun q12 =>
if ¬ (q12.1 = 0 ∨ q12.1 = 1) then none else some (q12.1, (q12.2)))
else ((f_X3_fails_2 N (1 : Int32) σ).bind fun q10 =>
if ¬ (q10.1 = 0 ∨ q10.1 = 1) then none else some (q10.1, (q10.2))))))))
set_option maxHeartbeats 4000000 in
set_option maxRecDepth 100000 in
theorem b_X3_readsLine_2 {N : Nat} {σ : Sg} {z : Int32 × Sg} (C : Cx p s m args meth c cX3_readsLine 1 (some .boolean) RX3 g A X) (hf : f_X3_readsLine_2 N σ = some z) : Bk cw p l e rm_X3_readsLine_2 s m args below meth c 1 g A (MQ below (qI cw g A z.1 z.2) args s 0 0 A) 0 0 0 [(0, .ref (g.2.2 2))] [] σ := by
  obtain ⟨hx, hb, hr, hml, hown, hts, hK, hlocks, hXX, hA, hXo⟩ := id C
  intro H locs ls hP hD hS hl
  unfold f_X3_readsLine_2 at hf
  refine lv_aload_n hx hb dX3_readsLine_0 rfl (lv_at hl 0 rfl) ?_
  refine bk_get (wf := cw) (q0 := 2) (ci := 3) (k := 5) (v := .ref (g.2.2 (300 + (σ 2 5).toNatClampNeg))) C hP wl_X3 rfl rfl (by decide) wa_56 rfl rfl dX3_readsLine_1 ?_
  refine va_gets (v := .ref (g.2.2 (300 + (13 : Int32).toNatClampNeg))) hx hb (tok_Z (hXo.2.2.2 _ _ _ hXX).2.2.2.2.2.1 13 "FARM" (by decide) (by decide) rfl) hS hown (hts _ wa_324) (fun _ h => h) dX3_readsLine_4 ?_
  obtain ⟨g4, hf⟩ := gd_s hf
  refine bk_acq (tgt := 20) C g4 (vin_l (by decide) (by decide)) dX3_readsLine_7 (by decide) (fun t7 => ?_) (fun t7 => ?_)
  · have hf := (if_pos t7).symm.trans hf
    exact b_X3_readsLine_2_b20 C hf H locs ls hP hD hS (lv_sub hl [0] rfl)
  · have hf := (if_neg t7).symm.trans hf
    refine lv_aload_n hx hb dX3_readsLine_10 rfl (lv_at hl 0 rfl) ?_
    refine bk_get (wf := cw) (q0 := 2) (ci := 3) (k := 5) (v := .ref (g.2.2 (300 + (σ 2 5).toNatClampNeg))) C hP wl_X3 rfl rfl (by decide) wa_56 rfl rfl dX3_readsLine_11 ?_
    refine va_gets (v := .ref (g.2.2 (300 + (14 : Int32).toNatClampNeg))) hx hb (tok_Z (hXo.2.2.2 _ _ _ hXX).2.2.2.2.2.1 14 "SHEPHERD" (by decide) (by decide) rfl) hS hown (hts _ wa_325) (fun _ h => h) dX3_readsLine_14 ?_
    obtain ⟨g5, hf⟩ := gd_s hf
    refine bk_acn (tgt := 40) C g5 (vin_l (by decide) (by decide)) dX3_readsLine_17 (by decide) (fun t17 => ?_) (fun t17 => ?_)
    · have hf := (if_neg t17).symm.trans hf
      refine lv_aload_n hx hb dX3_readsLine_40 rfl (lv_at hl 0 rfl) ?_
      refine bk_get (wf := cw) (q0 := 2) (ci := 3) (k := 5) (v := .ref (g.2.2 (300 + (σ 2 5).toNatClampNeg))) C hP wl_X3 rfl rfl (by decide) wa_56 rfl rfl dX3_readsLine_41 ?_
      refine va_gets (v := .ref (g.2.2 (300 + (21 : Int32).toNatClampNeg))) hx hb (tok_Z (hXo.2.2.2 _ _ _ hXX).2.2.2.2.2.1 21 "MIST" (by decide) (by decide) rfl) hS hown (hts _ wa_326) (fun _ h => h) dX3_readsLine_44 ?_
      obtain ⟨g6, hf⟩ := gd_s hf
      refine bk_acn (tgt := 55) C g6 (vin_l (by decide) (by decide)) dX3_readsLine_47 (by decide) (fun t47 => ?_) (fun t47 => ?_)
      · have hf := (if_neg t47).symm.trans hf
        refine lv_aload_n hx hb dX3_readsLine_55 rfl (lv_at hl 0 rfl) ?_
        refine bk_get (wf := cw) (q0 := 2) (ci := 3) (k := 5) (v := .ref (g.2.2 (300 + (σ 2 5).toNatClampNeg))) C hP wl_X3 rfl rfl (by decide) wa_56 rfl rfl dX3_readsLine_56 ?_
        refine va_gets (v := .ref (g.2.2 (300 + (15 : Int32).toNatClampNeg))) hx hb (tok_Z (hXo.2.2.2 _ _ _ hXX).2.2.2.2.2.1 15 "SIGHT" (by decide) (by decide) rfl) hS hown (hts _ wa_327) (fun _ h => h) dX3_readsLine_59 ?_
        obtain ⟨g7, hf⟩ := gd_s hf
        refine bk_acn (tgt := 70) C g7 (vin_l (by decide) (by decide)) dX3_readsLine_62 (by decide) (fun t62 => ?_) (fun t62 => ?_)
        · have hf := (if_neg t62).symm.trans hf
          refine lv_aload_n hx hb dX3_readsLine_70 rfl (lv_at hl 0 rfl) ?_
          refine bk_get (wf := cw) (q0 := 2) (ci := 3) (k := 5) (v := .ref (g.2.2 (300 + (σ 2 5).toNatClampNeg))) C hP wl_X3 rfl rfl (by decide) wa_56 rfl rfl dX3_readsLine_71 ?_
          refine va_gets (v := .ref (g.2.2 (300 + (16 : Int32).toNatClampNeg))) hx hb (tok_Z (hXo.2.2.2 _ _ _ hXX).2.2.2.2.2.1 16 "REST" (by decide) (by decide) rfl) hS hown (hts _ wa_328) (fun _ h => h) dX3_readsLine_74 ?_
          obtain ⟨g8, hf⟩ := gd_s hf
          refine bk_acn (tgt := 85) C g8 (vin_l (by decide) (by decide)) dX3_readsLine_77 (by decide) (fun t77 => ?_) (fun t77 => ?_)
          · have hf := (if_neg t77).symm.trans hf
            refine lv_aload_n hx hb dX3_readsLine_85 rfl (lv_at hl 0 rfl) ?_
            refine bk_get (wf := cw) (q0 := 2) (ci := 3) (k := 5) (v := .ref (g.2.2 (300 + (σ 2 5).toNatClampNeg))) C hP wl_X3 rfl rfl (by decide) wa_56 rfl rfl dX3_readsLine_86 ?_
            refine va_gets (v := .ref (g.2.2 (300 + (17 : Int32).toNatClampNeg))) hx hb (tok_Z (hXo.2.2.2 _ _ _ hXX).2.2.2.2.2.1 17 "MINDS" (by decide) (by decide) rfl) hS hown (hts _ wa_329) (fun _ h => h) dX3_readsLine_89 ?_
            obtain ⟨g9, hf⟩ := gd_s hf
            refine bk_acn (tgt := 102) C g9 (vin_l (by decide) (by decide)) dX3_readsLine_92 (by decide) (fun t92 => ?_) (fun t92 => ?_)
            · have hf := (if_neg t92).symm.trans hf
              refine lv_aload_n hx hb dX3_readsLine_102 rfl (lv_at hl 0 rfl) ?_
              refine lv_iconst (v := (1 : Int32)) hx hb dX3_readsLine_103 (by decide) ?_
              obtain ⟨q10, hq10, hf⟩ := bi_s hf
              refine bk_VI (wf := cw) (q0 := 2) (ci := 3) (rest := []) [.int (1 : Int32)] C hP hD hS hl.1 (c_X3_fails_2 hXo hq10) (cwA_V 1 hts wa_343 wa_340 wa_341 wa_342 wa_18 rfl rfl nd_X3_fails ⟨Nat.le_of_ble_eq_true rfl, Nat.le_of_ble_eq_true rfl⟩) rfl rfl rfl rfl (Nat.le_of_ble_eq_true rfl) dX3_readsLine_104 ⟨Nat.le_of_ble_eq_true rfl, Nat.le_of_ble_eq_true rfl⟩ (fun H locs hP hD hS => ?_)
              obtain ⟨g11, hf⟩ := gd_s hf
              cases hf
              exact bk_zret C hP hD hS (Decidable.not_not.mp g11) rfl dX3_readsLine_107
            · have hf := (if_pos t92).symm.trans hf
              refine lv_aload_n hx hb dX3_readsLine_95 rfl (lv_at hl 0 rfl) ?_
              obtain ⟨q12, hq12, hf⟩ := bi_s hf
              refine bk_VI (wf := cw) (q0 := 2) (ci := 3) (rest := []) [] C hP hD hS hl.1 (c_X3_readsMinds_2 hXo hq12) (cwA_V 0 hts wa_380 wa_377 wa_378 wa_379 wa_18 rfl rfl nd_X3_readsMinds ⟨Nat.le_of_ble_eq_true rfl, Nat.le_of_ble_eq_true rfl⟩) rfl rfl rfl rfl (Nat.le_of_ble_eq_true rfl) dX3_readsLine_96 ⟨Nat.le_of_ble_eq_true rfl, Nat.le_of_ble_eq_true rfl⟩ (fun H locs hP hD hS => ?_)
              refine lv_goto (tgt := 107) hx hb dX3_readsLine_99 (by decide) ?_
              obtain ⟨g13, hf⟩ := gd_s hf
              cases hf
              exact bk_zret C hP hD hS (Decidable.not_not.mp g13) rfl dX3_readsLine_107
          · have hf := (if_pos t77).symm.trans hf
            refine lv_aload_n hx hb dX3_readsLine_80 rfl (lv_at hl 0 rfl) ?_
            obtain ⟨q14, hq14, hf⟩ := bi_s hf
            refine bk_VI (wf := cw) (q0 := 2) (ci := 3) (rest := []) [] C hP hD hS hl.1 (c_X3_readsRest_2 hXo hq14) (cwA_V 0 hts wa_375 wa_372 wa_373 wa_374 wa_18 rfl rfl nd_X3_readsRest ⟨Nat.le_of_ble_eq_true rfl, Nat.le_of_ble_eq_true rfl⟩) rfl rfl rfl rfl (Nat.le_of_ble_eq_true rfl) dX3_readsLine_81 ⟨Nat.le_of_ble_eq_true rfl, Nat.le_of_ble_eq_true rfl⟩ (fun H locs hP hD hS => ?_)
            obtain ⟨g15, hf⟩ := gd_s hf
            cases hf
            exact bk_zret C hP hD hS (Decidable.not_not.mp g15) rfl dX3_readsLine_84
        · have hf := (if_pos t62).symm.trans hf
          refine lv_aload_n hx hb dX3_readsLine_65 rfl (lv_at hl 0 rfl) ?_
          obtain ⟨q16, hq16, hf⟩ := bi_s hf
          refine bk_VI (wf := cw) (q0 := 2) (ci := 3) (rest := []) [] C hP hD hS hl.1 (c_X3_readsSight_2 hXo hq16) (cwA_V 0 hts wa_370 wa_367 wa_368 wa_369 wa_18 rfl rfl nd_X3_readsSight ⟨Nat.le_of_ble_eq_true rfl, Nat.le_of_ble_eq_true rfl⟩) rfl rfl rfl rfl (Nat.le_of_ble_eq_true rfl) dX3_readsLine_66 ⟨Nat.le_of_ble_eq_true rfl, Nat.le_of_ble_eq_true rfl⟩ (fun H locs hP hD hS => ?_)
          obtain ⟨g17, hf⟩ := gd_s hf
          cases hf
          exact bk_zret C hP hD hS (Decidable.not_not.mp g17) rfl dX3_readsLine_69
      · have hf := (if_pos t47).symm.trans hf
        refine lv_aload_n hx hb dX3_readsLine_50 rfl (lv_at hl 0 rfl) ?_
        obtain ⟨q18, hq18, hf⟩ := bi_s hf
        refine bk_VI (wf := cw) (q0 := 2) (ci := 3) (rest := []) [] C hP hD hS hl.1 (c_X3_readsMist_2 hXo hq18) (cwA_V 0 hts wa_364 wa_361 wa_362 wa_363 wa_18 rfl rfl nd_X3_readsMist ⟨Nat.le_of_ble_eq_true rfl, Nat.le_of_ble_eq_true rfl⟩) rfl rfl rfl rfl (Nat.le_of_ble_eq_true rfl) dX3_readsLine_51 ⟨Nat.le_of_ble_eq_true rfl, Nat.le_of_ble_eq_true rfl⟩ (fun H locs hP hD hS => ?_)
        obtain ⟨g19, hf⟩ := gd_s hf
        cases hf
        exact bk_zret C hP hD hS (Decidable.not_not.mp g19) rfl dX3_readsLine_54
    · have hf := (if_pos t17).symm.trans hf
      exact b_X3_readsLine_2_b20 C hf H locs ls hP hD hS (lv_sub hl [0] rfl)
theorem c_X3_readsLine_2 {N : Nat} {σ : Sg} {z : Int32 × Sg} (hX : xOK g X) (hf : f_X3_readsLine_2 N σ = some z) : MetI l yX3_readsLine (Cond.code yX3_readsLine cX3_readsLine 1 (some .boolean) :: wsA) rm_X3_readsLine_2 cw g X [.ref (g.2.2 2)] σ z.1 z.2 :=
  MetI_of hX (by decide) (Nat.le_of_ble_eq_true rfl) (fun p e s m args below meth c A C => b_X3_readsLine_2 C hf)
-- X9_clear_3: clear()V
abbrev rm_X9_clear_3 : Room := { frames := 0, cells := 0, slots := 0, locals := 0 }
theorem nd_X9_clear : yX9_clear.cls ≠ "java/lang/invoke/MethodHandle" ∧ yX9_clear.cls ≠ "java/lang/invoke/VarHandle" ∧ (parseMethodDescriptor yX9_clear.desc).map (fun d => d.parameters.length) = some 0 := by decide +kernel
def f_X9_clear_3 (N : Nat) (σ : Sg) : Option (Sg) :=
bd (wr σ 3 0 (0 : Int32)) fun σ1 =>
bd (wr σ1 3 5 (0 : Int32)) fun σ2 =>
bd (wr σ2 3 6 (60 : Int32)) fun σ3 =>
bd (wr σ3 3 7 (3 : Int32)) fun σ4 =>
bd (wr σ4 3 8 (0 : Int32)) fun σ5 =>
bd (wr σ5 9 0 (0 : Int32)) fun σ6 =>
some σ6
set_option maxHeartbeats 4000000 in
set_option maxRecDepth 100000 in
theorem b_X9_clear_3 {N : Nat} {σ : Sg} {z : Sg} (C : Cx p s m args meth c cX9_clear 1 none RX9 g A X) (hf : f_X9_clear_3 N σ = some z) : Bk cw p l e rm_X9_clear_3 s m args below meth c 1 g A (MQ below (qV cw g A z) args s 0 0 A) 0 0 0 [(0, .ref (g.2.2 3))] [] σ := by
  obtain ⟨hx, hb, hr, hml, hown, hts, hK, hlocks, hXX, hA, hXo⟩ := id C
  intro H locs ls hP hD hS hl
  unfold f_X9_clear_3 at hf
  refine lv_aload_n hx hb dX9_clear_0 rfl (lv_at hl 0 rfl) ?_
  refine lv_iconst (v := (0 : Int32)) hx hb dX9_clear_1 (by decide) ?_
  obtain ⟨σ1, eσ1, hf⟩ := bd_s hf
  refine bk_put (wf := cw) (σ1 := σ1) (q0 := 3) (ci := 8) (k := 0) (v := .int (0 : Int32)) C hP hD hS wl_X9 tyX9_ok nmX9 rfl rfl (by decide) wa_68 rfl rfl rfl rfl rfl (Nat.le_of_ble_eq_true rfl) (by rw [eσ1]; exact cw_p3_0 g _ _) dX9_clear_2 (fun H locs hP hD hS => ?_)
  refine lv_aload_n hx hb dX9_clear_5 rfl (lv_at hl 0 rfl) ?_
  refine lv_iconst (v := (0 : Int32)) hx hb dX9_clear_6 (by decide) ?_
  obtain ⟨σ2, eσ2, hf⟩ := bd_s hf
  refine bk_put (wf := cw) (σ1 := σ2) (q0 := 3) (ci := 8) (k := 5) (v := .int (0 : Int32)) C hP hD hS wl_X9 tyX9_ok nmX9 rfl rfl (by decide) wa_73 rfl rfl rfl rfl rfl (Nat.le_of_ble_eq_true rfl) (by rw [eσ2]; exact cw_p3_5 g _ _) dX9_clear_7 (fun H locs hP hD hS => ?_)
  refine lv_aload_n hx hb dX9_clear_10 rfl (lv_at hl 0 rfl) ?_
  refine lv_bipush (v := (60 : Int32)) hx hb dX9_clear_11 (by decide) ?_
  obtain ⟨σ3, eσ3, hf⟩ := bd_s hf
  refine bk_put (wf := cw) (σ1 := σ3) (q0 := 3) (ci := 8) (k := 6) (v := .int (60 : Int32)) C hP hD hS wl_X9 tyX9_ok nmX9 rfl rfl (by decide) wa_74 rfl rfl rfl rfl rfl (Nat.le_of_ble_eq_true rfl) (by rw [eσ3]; exact cw_p3_6 g _ _) dX9_clear_13 (fun H locs hP hD hS => ?_)
  refine lv_aload_n hx hb dX9_clear_16 rfl (lv_at hl 0 rfl) ?_
  refine lv_iconst (v := (3 : Int32)) hx hb dX9_clear_17 (by decide) ?_
  obtain ⟨σ4, eσ4, hf⟩ := bd_s hf
  refine bk_put (wf := cw) (σ1 := σ4) (q0 := 3) (ci := 8) (k := 7) (v := .int (3 : Int32)) C hP hD hS wl_X9 tyX9_ok nmX9 rfl rfl (by decide) wa_75 rfl rfl rfl rfl rfl (Nat.le_of_ble_eq_true rfl) (by rw [eσ4]; exact cw_p3_7 g _ _) dX9_clear_18 (fun H locs hP hD hS => ?_)
  refine lv_aload_n hx hb dX9_clear_21 rfl (lv_at hl 0 rfl) ?_
  refine lv_iconst (v := (0 : Int32)) hx hb dX9_clear_22 (by decide) ?_
  obtain ⟨σ5, eσ5, hf⟩ := bd_s hf
  refine bk_put (wf := cw) (σ1 := σ5) (q0 := 3) (ci := 8) (k := 8) (v := .int (0 : Int32)) C hP hD hS wl_X9 tyX9_ok nmX9 rfl rfl (by decide) wa_76 rfl rfl rfl rfl rfl (Nat.le_of_ble_eq_true rfl) (by rw [eσ5]; exact cw_p3_8 g _ _) dX9_clear_23 (fun H locs hP hD hS => ?_)
  refine lv_aload_n hx hb dX9_clear_26 rfl (lv_at hl 0 rfl) ?_
  refine bk_get (wf := cw) (q0 := 3) (ci := 8) (k := 10) (v := .ref (g.2.2 9)) C hP wl_X9 rfl rfl (by decide) wa_81 rfl rfl dX9_clear_27 ?_
  refine lv_iconst (v := (0 : Int32)) hx hb dX9_clear_30 (by decide) ?_
  obtain ⟨σ6, eσ6, hf⟩ := bd_s hf
  refine bk_put (wf := cw) (σ1 := σ6) (q0 := 9) (ci := 4) (k := 0) (v := .int (0 : Int32)) C hP hD hS wl_X4 tyX4_ok nmX4 rfl rfl (by decide) wa_237 rfl rfl rfl rfl rfl (Nat.le_of_ble_eq_true rfl) (by rw [eσ6]; exact cw_p9_0 g _ _) dX9_clear_31 (fun H locs hP hD hS => ?_)
  cases hf
  exact bk_vret C hP hD hS rfl dX9_clear_34
theorem c_X9_clear_3 {N : Nat} {σ : Sg} {z : Sg} (hX : xOK g X) (hf : f_X9_clear_3 N σ = some z) : MetV l yX9_clear (Cond.code yX9_clear cX9_clear 1 none :: wsA) rm_X9_clear_3 cw g X [.ref (g.2.2 3)] σ z :=
  MetV_of hX (by decide) (Nat.le_of_ble_eq_true rfl) (fun p e s m args below meth c A C => b_X9_clear_3 C hf)
-- X3_reads_2: reads(I)Z
abbrev rm_X3_reads_2 : Room := { frames := 177, cells := 0, slots := 0, locals := 3573 }
theorem nd_X3_reads : yX3_reads.cls ≠ "java/lang/invoke/MethodHandle" ∧ yX3_reads.cls ≠ "java/lang/invoke/VarHandle" ∧ (parseMethodDescriptor yX3_reads.desc).map (fun d => d.parameters.length) = some 1 := by decide +kernel
def s_X3_reads_2_h51 (N : Nat) (x2 : Int32) (σ : Sg) : Option (Nat × Int32 × Sg) :=
if (700 : Int32) ≤ x2 then (some (2, 0, σ))
else (if ((σ 2 5) < 0 ∨ 27 ≤ (σ 2 5).toNatClampNeg) then none else
if (σ 2 5) = (0 : Int32) then (some (2, 0, σ))
else ((f_X3_readsLine_2 N σ).bind fun q2 =>
if q2.1 = 0 then (some (1, 0, (q2.2)))
else (bd (x2 + (1 : Int32)) fun v3 =>
some (0, v3, (q2.2)))))
set_option maxHeartbeats 4000000 in
set_option maxRecDepth 100000 in
theorem e_X3_reads_2_h51 {N : Nat} {x2 : Int32} {σ : Sg} {z : Nat × Int32 × Sg} (C : Cx p s m args meth c cX3_reads 3 (some .boolean) RX3 g A X) (hf : s_X3_reads_2_h51 N x2 σ = some z) (k0 : z.1 = 0 → Bk cw p l e rm_X3_reads_2 s m args below meth c 3 g A Q 0 0 51 [(0, .ref (g.2.2 2)), (2, .int z.2.1)] [] z.2.2) (k : ¬ z.1 = 0 → ((z.1 = 1 → Bk cw p l e rm_X3_reads_2 s m args below meth c 3 g A Q 0 0 75 [] [] z.2.2) ∧ (¬ z.1 = 1 → Bk cw p l e rm_X3_reads_2 s m args below meth c 3 g A Q 0 0 83 [] [] z.2.2))) : Bk cw p l e rm_X3_reads_2 s m args below meth c 3 g A Q 0 0 51 [(0, .ref (g.2.2 2)), (2, .int x2)] [] σ := by
  obtain ⟨hx, hb, hr, hml, hown, hts, hK, hlocks, hXX, hA, hXo⟩ := id C
  intro H locs ls hP hD hS hl
  unfold s_X3_reads_2_h51 at hf
  refine lv_iload_n hx hb dX3_reads_51 rfl (lv_at hl 1 rfl) ?_
  refine lv_sipush (v := (700 : Int32)) hx hb dX3_reads_52 (by decide) ?_
  refine lv_icmp_ge (tgt := 83) hx hb dX3_reads_55 (by decide) (fun t55 => ?_) (fun t55 => ?_)
  · have hf := (if_pos t55).symm.trans hf
    cases hf
    exact ((k (show ¬ (2 : Nat) = 0 by decide)).2 (show ¬ (2 : Nat) = 1 by decide)) H locs ls hP hD hS (lv_sub hl [] rfl)
  · have hf := (if_neg t55).symm.trans hf
    refine lv_aload_n hx hb dX3_reads_58 rfl (lv_at hl 0 rfl) ?_
    refine bk_get (wf := cw) (q0 := 2) (ci := 3) (k := 5) (v := .ref (g.2.2 (300 + (σ 2 5).toNatClampNeg))) C hP wl_X3 rfl rfl (by decide) wa_56 rfl rfl dX3_reads_59 ?_
    refine va_gets (v := .ref (g.2.2 (300 + (0 : Int32).toNatClampNeg))) hx hb (tok_Z (hXo.2.2.2 _ _ _ hXX).2.2.2.2.2.1 0 "END" (by decide) (by decide) rfl) hS hown (hts _ wa_55) (fun _ h => h) dX3_reads_62 ?_
    obtain ⟨g1, hf⟩ := gd_s hf
    refine bk_acq (tgt := 83) C g1 (vin_l (by decide) (by decide)) dX3_reads_65 (by decide) (fun t65 => ?_) (fun t65 => ?_)
    · have hf := (if_pos t65).symm.trans hf
      cases hf
      exact ((k (show ¬ (2 : Nat) = 0 by decide)).2 (show ¬ (2 : Nat) = 1 by decide)) H locs ls hP hD hS (lv_sub hl [] rfl)
    · have hf := (if_neg t65).symm.trans hf
      refine lv_aload_n hx hb dX3_reads_68 rfl (lv_at hl 0 rfl) ?_
      obtain ⟨q2, hq2, hf⟩ := bi_s hf
      refine bk_VI (wf := cw) (q0 := 2) (ci := 3) (rest := []) [] C hP hD hS hl.1 (c_X3_readsLine_2 hXo hq2) (cwA_V 0 hts wa_323 wa_320 wa_321 wa_322 wa_18 rfl rfl nd_X3_readsLine ⟨Nat.le_of_ble_eq_true rfl, Nat.le_of_ble_eq_true rfl⟩) rfl rfl rfl rfl (Nat.le_of_ble_eq_true rfl) dX3_reads_69 ⟨Nat.le_of_ble_eq_true rfl, Nat.le_of_ble_eq_true rfl⟩ (fun H locs hP hD hS => ?_)
      refine lv_if_ne (tgt := 77) hx hb dX3_reads_72 (by decide) (fun t72 => ?_) (fun t72 => ?_)
      · have hf := (if_neg t72).symm.trans hf
        obtain ⟨v3, ev3, hf⟩ := bd_s hf
        refine lv_iinc (v := v3) (lv' := [(2, .int v3), (0, .ref (g.2.2 2))]) hx hb dX3_reads_77 hl (k := 1) rfl (by rw [ev3]; rfl) (by decide) rfl (fun ls hl => ?_)
        refine lv_goto (tgt := 51) hx hb dX3_reads_80 (by decide) ?_
        cases hf
        exact k0 rfl H locs ls hP hD hS (lv_sub hl [1, 0] rfl)
      · have hf := (if_pos t72).symm.trans hf
        cases hf
        exact ((k (show ¬ (1 : Nat) = 0 by decide)).1 rfl) H locs ls hP hD hS (lv_sub hl [] rfl)
theorem lp_X3_reads_2_h51 {N : Nat} {n : Nat} {x2 : Int32} {σ : Sg} {z : Nat × Int32 × Sg} (C : Cx p s m args meth c cX3_reads 3 (some .boolean) RX3 g A X) (hz : it (fun q => s_X3_reads_2_h51 N q.1 q.2) n (x2, σ) = some z) (k : ((z.1 = 1 → Bk cw p l e rm_X3_reads_2 s m args below meth c 3 g A Q 0 0 75 [] [] z.2.2) ∧ (¬ z.1 = 1 → Bk cw p l e rm_X3_reads_2 s m args below meth c 3 g A Q 0 0 83 [] [] z.2.2))) : Bk cw p l e rm_X3_reads_2 s m args below meth c 3 g A Q 0 0 51 [(0, .ref (g.2.2 2)), (2, .int x2)] [] σ :=
  it_W (S := Int32 × Sg) (fun q => Bk cw p l e rm_X3_reads_2 s m args below meth c 3 g A Q 0 0 51 [(0, .ref (g.2.2 2)), (2, .int q.1)] [] q.2) (fun z => ((z.1 = 1 → Bk cw p l e rm_X3_reads_2 s m args below meth c 3 g A Q 0 0 75 [] [] z.2.2) ∧ (¬ z.1 = 1 → Bk cw p l e rm_X3_reads_2 s m args below meth c 3 g A Q 0 0 83 [] [] z.2.2))) (fun q z hq k0 k => e_X3_reads_2_h51 C hq k0 k) n (x2, σ) z hz k
def f_X3_reads_2 (N : Nat) (x1 : Int32) (σ : Sg) : Option (Int32 × Sg) :=
(f_X9_clear_3 N σ).bind fun q4 =>
bd (wr q4 2 1 (0 : Int32)) fun σ5 =>
bd (wr σ5 2 2 (-1 : Int32)) fun σ6 =>
bd (wr σ6 2 11 (0 : Int32)) fun σ7 =>
bd (wr σ7 2 12 (0 : Int32)) fun σ8 =>
bd (wr σ8 2 4 (if (700 : Int32) < x1 then (700 : Int32) else x1)) fun σ9 =>
bd (wr σ9 2 7 (0 : Int32)) fun σ10 =>
(f_X3_advance_2 N σ10).bind fun q11 =>
(it (fun q => s_X3_reads_2_h51 N q.1 q.2) N ((0 : Int32), q11)).bind fun z12 =>
if z12.1 = 1 then (some ((0 : Int32), (z12.2.2)))
else (some ((1 : Int32), (z12.2.2)))
set_option maxHeartbeats 4000000 in
set_option maxRecDepth 100000 in
theorem b_X3_reads_2 {N : Nat} {x1 : Int32} {σ : Sg} {z : Int32 × Sg} (C : Cx p s m args meth c cX3_reads 3 (some .boolean) RX3 g A X) (hf : f_X3_reads_2 N x1 σ = some z) : Bk cw p l e rm_X3_reads_2 s m args below meth c 3 g A (MQ below (qI cw g A z.1 z.2) args s 0 0 A) 0 0 0 [(0, .ref (g.2.2 2)), (1, .int x1)] [] σ := by
  obtain ⟨hx, hb, hr, hml, hown, hts, hK, hlocks, hXX, hA, hXo⟩ := id C
  intro H locs ls hP hD hS hl
  unfold f_X3_reads_2 at hf
  refine lv_aload_n hx hb dX3_reads_0 rfl (lv_at hl 0 rfl) ?_
  refine bk_get (wf := cw) (q0 := 2) (ci := 3) (k := 0) (v := .ref (g.2.2 3)) C hP wl_X3 rfl rfl (by decide) wa_51 rfl rfl dX3_reads_1 ?_
  obtain ⟨q4, hq4, hf⟩ := bi_s hf
  refine bk_VV (wf := cw) (q0 := 3) (ci := 8) (rest := []) [] C hP hD hS hl.1 (c_X9_clear_3 hXo hq4) (cwA_V 0 hts wa_236 wa_233 wa_234 wa_235 wa_22 rfl rfl nd_X9_clear ⟨Nat.le_of_ble_eq_true rfl, Nat.le_of_ble_eq_true rfl⟩) rfl rfl rfl rfl (Nat.le_of_ble_eq_true rfl) dX3_reads_4 ⟨Nat.le_of_ble_eq_true rfl, Nat.le_of_ble_eq_true rfl⟩ (fun H locs hP hD hS => ?_)
  refine lv_aload_n hx hb dX3_reads_7 rfl (lv_at hl 0 rfl) ?_
  refine lv_iconst (v := (0 : Int32)) hx hb dX3_reads_8 (by decide) ?_
  obtain ⟨σ5, eσ5, hf⟩ := bd_s hf
  refine bk_put (wf := cw) (σ1 := σ5) (q0 := 2) (ci := 3) (k := 1) (v := .int (0 : Int32)) C hP hD hS wl_X3 tyX3_ok nmX3 rfl rfl (by decide) wa_52 rfl rfl rfl rfl rfl (Nat.le_of_ble_eq_true rfl) (by rw [eσ5]; exact cw_p2_1 g _ _) dX3_reads_9 (fun H locs hP hD hS => ?_)
  refine lv_aload_n hx hb dX3_reads_12 rfl (lv_at hl 0 rfl) ?_
  refine lv_iconst (v := (-1 : Int32)) hx hb dX3_reads_13 (by decide) ?_
  obtain ⟨σ6, eσ6, hf⟩ := bd_s hf
  refine bk_put (wf := cw) (σ1 := σ6) (q0 := 2) (ci := 3) (k := 2) (v := .int (-1 : Int32)) C hP hD hS wl_X3 tyX3_ok nmX3 rfl rfl (by decide) wa_53 rfl rfl rfl rfl rfl (Nat.le_of_ble_eq_true rfl) (by rw [eσ6]; exact cw_p2_2 g _ _) dX3_reads_14 (fun H locs hP hD hS => ?_)
  refine lv_aload_n hx hb dX3_reads_17 rfl (lv_at hl 0 rfl) ?_
  refine lv_iconst (v := (0 : Int32)) hx hb dX3_reads_18 (by decide) ?_
  obtain ⟨σ7, eσ7, hf⟩ := bd_s hf
  refine bk_put (wf := cw) (σ1 := σ7) (q0 := 2) (ci := 3) (k := 11) (v := .int (0 : Int32)) C hP hD hS wl_X3 tyX3_ok nmX3 rfl rfl (by decide) wa_62 rfl rfl rfl rfl rfl (Nat.le_of_ble_eq_true rfl) (by rw [eσ7]; exact cw_p2_11 g _ _) dX3_reads_19 (fun H locs hP hD hS => ?_)
  refine lv_aload_n hx hb dX3_reads_22 rfl (lv_at hl 0 rfl) ?_
  refine lv_iconst (v := (0 : Int32)) hx hb dX3_reads_23 (by decide) ?_
  obtain ⟨σ8, eσ8, hf⟩ := bd_s hf
  refine bk_put (wf := cw) (σ1 := σ8) (q0 := 2) (ci := 3) (k := 12) (v := .int (0 : Int32)) C hP hD hS wl_X3 tyX3_ok nmX3 rfl rfl (by decide) wa_63 rfl rfl rfl rfl rfl (Nat.le_of_ble_eq_true rfl) (by rw [eσ8]; exact cw_p2_12 g _ _) dX3_reads_24 (fun H locs hP hD hS => ?_)
  refine lv_aload_n hx hb dX3_reads_27 rfl (lv_at hl 0 rfl) ?_
  refine lv_iload_n hx hb dX3_reads_28 rfl (lv_at hl 1 rfl) ?_
  refine lv_aload_n hx hb dX3_reads_29 rfl (lv_at hl 0 rfl) ?_
  refine bk_get (wf := cw) (q0 := 2) (ci := 3) (k := 3) (v := .ref (g.2.2 1)) C hP wl_X3 rfl rfl (by decide) wa_64 rfl rfl dX3_reads_30 ?_
  refine bk_alen (wf := cw) (q0 := 1) (t0 := 1) (v := (700 : Int32)) C hP rfl rfl (show Int32.ofNat 700 = (700 : Int32) by decide) dX3_reads_33 ?_
  refine va_mmin hx hb (hml.trans hl.1.symm) hown (hts _ wa_229) (hts _ wa_230) (hts _ wa_231) (hts _ wa_232) (Nat.le_of_ble_eq_true rfl) (Nat.le_of_ble_eq_true rfl) (Nat.le_of_ble_eq_true rfl) (Nat.le_of_ble_eq_true rfl) dX3_reads_34 ?_
  obtain ⟨σ9, eσ9, hf⟩ := bd_s hf
  refine bk_put (wf := cw) (σ1 := σ9) (q0 := 2) (ci := 3) (k := 4) (v := .int (if (700 : Int32) < x1 then (700 : Int32) else x1)) C hP hD hS wl_X3 tyX3_ok nmX3 rfl rfl (by decide) wa_54 rfl rfl rfl rfl rfl (Nat.le_of_ble_eq_true rfl) (by rw [eσ9]; exact cw_p2_4 g _ _) dX3_reads_37 (fun H locs hP hD hS => ?_)
  refine lv_aload_n hx hb dX3_reads_40 rfl (lv_at hl 0 rfl) ?_
  refine lv_iconst (v := (0 : Int32)) hx hb dX3_reads_41 (by decide) ?_
  obtain ⟨σ10, eσ10, hf⟩ := bd_s hf
  refine bk_put (wf := cw) (σ1 := σ10) (q0 := 2) (ci := 3) (k := 7) (v := .int (0 : Int32)) C hP hD hS wl_X3 tyX3_ok nmX3 rfl rfl (by decide) wa_58 rfl rfl rfl rfl rfl (Nat.le_of_ble_eq_true rfl) (by rw [eσ10]; exact cw_p2_7 g _ _) dX3_reads_42 (fun H locs hP hD hS => ?_)
  refine lv_aload_n hx hb dX3_reads_45 rfl (lv_at hl 0 rfl) ?_
  obtain ⟨q11, hq11, hf⟩ := bi_s hf
  refine bk_VV (wf := cw) (q0 := 2) (ci := 3) (rest := []) [] C hP hD hS hl.1 (c_X3_advance_2 hXo hq11) (cwA_V 0 hts wa_241 wa_238 wa_239 wa_240 wa_18 rfl rfl nd_X3_advance ⟨Nat.le_of_ble_eq_true rfl, Nat.le_of_ble_eq_true rfl⟩) rfl rfl rfl rfl (Nat.le_of_ble_eq_true rfl) dX3_reads_46 ⟨Nat.le_of_ble_eq_true rfl, Nat.le_of_ble_eq_true rfl⟩ (fun H locs hP hD hS => ?_)
  refine lv_iconst (v := (0 : Int32)) hx hb dX3_reads_49 (by decide) ?_
  refine lv_istore_n (lv' := [(2, .int (0 : Int32)), (0, .ref (g.2.2 2)), (1, .int x1)]) hx hb dX3_reads_50 rfl hl (by decide) rfl (fun ls hl => ?_)
  obtain ⟨z12, hz12, hf⟩ := bi_s hf
  refine lp_X3_reads_2_h51 C hz12 ⟨fun t0 => ?_, fun t0 => ?_⟩ H locs ls hP hD hS (lv_sub hl [1, 0] rfl)
  · have hf := (if_pos t0).symm.trans hf
    intro H locs ls hP hD hS hl
    refine lv_iconst (v := (0 : Int32)) hx hb dX3_reads_75 (by decide) ?_
    cases hf
    exact bk_zret C hP hD hS (by decide) rfl dX3_reads_76
  · have hf := (if_neg t0).symm.trans hf
    intro H locs ls hP hD hS hl
    refine lv_iconst (v := (1 : Int32)) hx hb dX3_reads_83 (by decide) ?_
    cases hf
    exact bk_zret C hP hD hS (by decide) rfl dX3_reads_84
theorem c_X3_reads_2 {N : Nat} {x1 : Int32} {σ : Sg} {z : Int32 × Sg} (hX : xOK g X) (hf : f_X3_reads_2 N x1 σ = some z) : MetI l yX3_reads (Cond.code yX3_reads cX3_reads 3 (some .boolean) :: wsA) rm_X3_reads_2 cw g X [.ref (g.2.2 2), .int x1] σ z.1 z.2 :=
  MetI_of hX (by decide) (Nat.le_of_ble_eq_true rfl) (fun p e s m args below meth c A C => b_X3_reads_2 C hf)
-- X11_copyFarms_4_13: copyFarms([I[I)V
abbrev rm_X11_copyFarms_4_13 : Room := { frames := 1, cells := 0, slots := 0, locals := 80 }
theorem nd_X11_copyFarms : yX11_copyFarms.cls ≠ "java/lang/invoke/MethodHandle" ∧ yX11_copyFarms.cls ≠ "java/lang/invoke/VarHandle" ∧ (parseMethodDescriptor yX11_copyFarms.desc).map (fun d => d.parameters.length) = some 2 := by decide +kernel
def f_X11_copyFarms_4_13 (N : Nat) (σ : Sg) : Option (Sg) :=
bd (wrR σ 13 (va_cpy (σ 4) (σ 13) 0 0 9)) fun σ1 =>
some σ1
set_option maxHeartbeats 4000000 in
set_option maxRecDepth 100000 in
theorem b_X11_copyFarms_4_13 {N : Nat} {σ : Sg} {z : Sg} (C : Cx p s m args meth c cX11_copyFarms 2 none RX11 g A X) (hf : f_X11_copyFarms_4_13 N σ = some z) : Bk cw p l e rm_X11_copyFarms_4_13 s m args below meth c 2 g A (MQ below (qV cw g A z) args s 0 0 A) 0 0 0 [(0, .ref (g.2.2 4)), (1, .ref (g.2.2 13))] [] σ := by
  obtain ⟨hx, hb, hr, hml, hown, hts, hK, hlocks, hXX, hA, hXo⟩ := id C
  intro H locs ls hP hD hS hl
  unfold f_X11_copyFarms_4_13 at hf
  refine lv_aload_n hx hb dX11_copyFarms_0 rfl (lv_at hl 0 rfl) ?_
  refine lv_iconst (v := (0 : Int32)) hx hb dX11_copyFarms_1 (by decide) ?_
  refine lv_aload_n hx hb dX11_copyFarms_2 rfl (lv_at hl 1 rfl) ?_
  refine lv_iconst (v := (0 : Int32)) hx hb dX11_copyFarms_3 (by decide) ?_
  refine lv_bipush (v := (9 : Int32)) hx hb dX11_copyFarms_4 (by decide) ?_
  obtain ⟨σ1, eσ1, hf⟩ := bd_s hf
  refine bk_copy (wf := cw) (σ1 := σ1) (q0 := 4) (q1 := 13) (n0 := 9) (n1 := 9) (js := 0) (jd := 0) (jn := 9) C hP hD hS hl.1 wa_446 wa_441 wa_442 wa_443 rfl rfl (by decide) (by decide) (by decide) (by decide) (by decide) (by decide) (Nat.le_of_ble_eq_true rfl) (Nat.le_of_ble_eq_true rfl) (Nat.le_of_ble_eq_true rfl) (Nat.le_of_ble_eq_true rfl) (by rw [eσ1]; exact cw_r13 g _ _) dX11_copyFarms_6 (fun H locs hP hD hS => ?_)
  cases hf
  exact bk_vret C hP hD hS rfl dX11_copyFarms_9
theorem c_X11_copyFarms_4_13 {N : Nat} {σ : Sg} {z : Sg} (hX : xOK g X) (hf : f_X11_copyFarms_4_13 N σ = some z) : MetV l yX11_copyFarms (Cond.code yX11_copyFarms cX11_copyFarms 2 none :: wsA) rm_X11_copyFarms_4_13 cw g X [.ref (g.2.2 4), .ref (g.2.2 13)] σ z :=
  MetV_of hX (by decide) (Nat.le_of_ble_eq_true rfl) (fun p e s m args below meth c A C => b_X11_copyFarms_4_13 C hf)
-- X11_copyFarms_5_14: copyFarms([I[I)V
abbrev rm_X11_copyFarms_5_14 : Room := { frames := 1, cells := 0, slots := 0, locals := 80 }
def f_X11_copyFarms_5_14 (N : Nat) (σ : Sg) : Option (Sg) :=
bd (wrR σ 14 (va_cpy (σ 5) (σ 14) 0 0 9)) fun σ1 =>
some σ1
set_option maxHeartbeats 4000000 in
set_option maxRecDepth 100000 in
theorem b_X11_copyFarms_5_14 {N : Nat} {σ : Sg} {z : Sg} (C : Cx p s m args meth c cX11_copyFarms 2 none RX11 g A X) (hf : f_X11_copyFarms_5_14 N σ = some z) : Bk cw p l e rm_X11_copyFarms_5_14 s m args below meth c 2 g A (MQ below (qV cw g A z) args s 0 0 A) 0 0 0 [(0, .ref (g.2.2 5)), (1, .ref (g.2.2 14))] [] σ := by
  obtain ⟨hx, hb, hr, hml, hown, hts, hK, hlocks, hXX, hA, hXo⟩ := id C
  intro H locs ls hP hD hS hl
  unfold f_X11_copyFarms_5_14 at hf
  refine lv_aload_n hx hb dX11_copyFarms_0 rfl (lv_at hl 0 rfl) ?_
  refine lv_iconst (v := (0 : Int32)) hx hb dX11_copyFarms_1 (by decide) ?_
  refine lv_aload_n hx hb dX11_copyFarms_2 rfl (lv_at hl 1 rfl) ?_
  refine lv_iconst (v := (0 : Int32)) hx hb dX11_copyFarms_3 (by decide) ?_
  refine lv_bipush (v := (9 : Int32)) hx hb dX11_copyFarms_4 (by decide) ?_
  obtain ⟨σ1, eσ1, hf⟩ := bd_s hf
  refine bk_copy (wf := cw) (σ1 := σ1) (q0 := 5) (q1 := 14) (n0 := 9) (n1 := 9) (js := 0) (jd := 0) (jn := 9) C hP hD hS hl.1 wa_446 wa_441 wa_442 wa_443 rfl rfl (by decide) (by decide) (by decide) (by decide) (by decide) (by decide) (Nat.le_of_ble_eq_true rfl) (Nat.le_of_ble_eq_true rfl) (Nat.le_of_ble_eq_true rfl) (Nat.le_of_ble_eq_true rfl) (by rw [eσ1]; exact cw_r14 g _ _) dX11_copyFarms_6 (fun H locs hP hD hS => ?_)
  cases hf
  exact bk_vret C hP hD hS rfl dX11_copyFarms_9
theorem c_X11_copyFarms_5_14 {N : Nat} {σ : Sg} {z : Sg} (hX : xOK g X) (hf : f_X11_copyFarms_5_14 N σ = some z) : MetV l yX11_copyFarms (Cond.code yX11_copyFarms cX11_copyFarms 2 none :: wsA) rm_X11_copyFarms_5_14 cw g X [.ref (g.2.2 5), .ref (g.2.2 14)] σ z :=
  MetV_of hX (by decide) (Nat.le_of_ble_eq_true rfl) (fun p e s m args below meth c A C => b_X11_copyFarms_5_14 C hf)
-- X11_copyFarms_6_15: copyFarms([I[I)V
abbrev rm_X11_copyFarms_6_15 : Room := { frames := 1, cells := 0, slots := 0, locals := 80 }
def f_X11_copyFarms_6_15 (N : Nat) (σ : Sg) : Option (Sg) :=
bd (wrR σ 15 (va_cpy (σ 6) (σ 15) 0 0 9)) fun σ1 =>
some σ1
set_option maxHeartbeats 4000000 in
set_option maxRecDepth 100000 in
theorem b_X11_copyFarms_6_15 {N : Nat} {σ : Sg} {z : Sg} (C : Cx p s m args meth c cX11_copyFarms 2 none RX11 g A X) (hf : f_X11_copyFarms_6_15 N σ = some z) : Bk cw p l e rm_X11_copyFarms_6_15 s m args below meth c 2 g A (MQ below (qV cw g A z) args s 0 0 A) 0 0 0 [(0, .ref (g.2.2 6)), (1, .ref (g.2.2 15))] [] σ := by
  obtain ⟨hx, hb, hr, hml, hown, hts, hK, hlocks, hXX, hA, hXo⟩ := id C
  intro H locs ls hP hD hS hl
  unfold f_X11_copyFarms_6_15 at hf
  refine lv_aload_n hx hb dX11_copyFarms_0 rfl (lv_at hl 0 rfl) ?_
  refine lv_iconst (v := (0 : Int32)) hx hb dX11_copyFarms_1 (by decide) ?_
  refine lv_aload_n hx hb dX11_copyFarms_2 rfl (lv_at hl 1 rfl) ?_
  refine lv_iconst (v := (0 : Int32)) hx hb dX11_copyFarms_3 (by decide) ?_
  refine lv_bipush (v := (9 : Int32)) hx hb dX11_copyFarms_4 (by decide) ?_
  obtain ⟨σ1, eσ1, hf⟩ := bd_s hf
  refine bk_copy (wf := cw) (σ1 := σ1) (q0 := 6) (q1 := 15) (n0 := 9) (n1 := 9) (js := 0) (jd := 0) (jn := 9) C hP hD hS hl.1 wa_446 wa_441 wa_442 wa_443 rfl rfl (by decide) (by decide) (by decide) (by decide) (by decide) (by decide) (Nat.le_of_ble_eq_true rfl) (Nat.le_of_ble_eq_true rfl) (Nat.le_of_ble_eq_true rfl) (Nat.le_of_ble_eq_true rfl) (by rw [eσ1]; exact cw_r15 g _ _) dX11_copyFarms_6 (fun H locs hP hD hS => ?_)
  cases hf
  exact bk_vret C hP hD hS rfl dX11_copyFarms_9
theorem c_X11_copyFarms_6_15 {N : Nat} {σ : Sg} {z : Sg} (hX : xOK g X) (hf : f_X11_copyFarms_6_15 N σ = some z) : MetV l yX11_copyFarms (Cond.code yX11_copyFarms cX11_copyFarms 2 none :: wsA) rm_X11_copyFarms_6_15 cw g X [.ref (g.2.2 6), .ref (g.2.2 15)] σ z :=
  MetV_of hX (by decide) (Nat.le_of_ble_eq_true rfl) (fun p e s m args below meth c A C => b_X11_copyFarms_6_15 C hf)
-- X11_copyFarms_7_16: copyFarms([I[I)V
abbrev rm_X11_copyFarms_7_16 : Room := { frames := 1, cells := 0, slots := 0, locals := 80 }
def f_X11_copyFarms_7_16 (N : Nat) (σ : Sg) : Option (Sg) :=
bd (wrR σ 16 (va_cpy (σ 7) (σ 16) 0 0 9)) fun σ1 =>
some σ1
set_option maxHeartbeats 4000000 in
set_option maxRecDepth 100000 in
theorem b_X11_copyFarms_7_16 {N : Nat} {σ : Sg} {z : Sg} (C : Cx p s m args meth c cX11_copyFarms 2 none RX11 g A X) (hf : f_X11_copyFarms_7_16 N σ = some z) : Bk cw p l e rm_X11_copyFarms_7_16 s m args below meth c 2 g A (MQ below (qV cw g A z) args s 0 0 A) 0 0 0 [(0, .ref (g.2.2 7)), (1, .ref (g.2.2 16))] [] σ := by
  obtain ⟨hx, hb, hr, hml, hown, hts, hK, hlocks, hXX, hA, hXo⟩ := id C
  intro H locs ls hP hD hS hl
  unfold f_X11_copyFarms_7_16 at hf
  refine lv_aload_n hx hb dX11_copyFarms_0 rfl (lv_at hl 0 rfl) ?_
  refine lv_iconst (v := (0 : Int32)) hx hb dX11_copyFarms_1 (by decide) ?_
  refine lv_aload_n hx hb dX11_copyFarms_2 rfl (lv_at hl 1 rfl) ?_
  refine lv_iconst (v := (0 : Int32)) hx hb dX11_copyFarms_3 (by decide) ?_
  refine lv_bipush (v := (9 : Int32)) hx hb dX11_copyFarms_4 (by decide) ?_
  obtain ⟨σ1, eσ1, hf⟩ := bd_s hf
  refine bk_copy (wf := cw) (σ1 := σ1) (q0 := 7) (q1 := 16) (n0 := 9) (n1 := 9) (js := 0) (jd := 0) (jn := 9) C hP hD hS hl.1 wa_446 wa_441 wa_442 wa_443 rfl rfl (by decide) (by decide) (by decide) (by decide) (by decide) (by decide) (Nat.le_of_ble_eq_true rfl) (Nat.le_of_ble_eq_true rfl) (Nat.le_of_ble_eq_true rfl) (Nat.le_of_ble_eq_true rfl) (by rw [eσ1]; exact cw_r16 g _ _) dX11_copyFarms_6 (fun H locs hP hD hS => ?_)
  cases hf
  exact bk_vret C hP hD hS rfl dX11_copyFarms_9
theorem c_X11_copyFarms_7_16 {N : Nat} {σ : Sg} {z : Sg} (hX : xOK g X) (hf : f_X11_copyFarms_7_16 N σ = some z) : MetV l yX11_copyFarms (Cond.code yX11_copyFarms cX11_copyFarms 2 none :: wsA) rm_X11_copyFarms_7_16 cw g X [.ref (g.2.2 7), .ref (g.2.2 16)] σ z :=
  MetV_of hX (by decide) (Nat.le_of_ble_eq_true rfl) (fun p e s m args below meth c A C => b_X11_copyFarms_7_16 C hf)
-- X4_copy_18_9: copy(LNodPost$Rule;)V
abbrev rm_X4_copy_18_9 : Room := { frames := 1, cells := 0, slots := 0, locals := 80 }
theorem nd_X4_copy : yX4_copy.cls ≠ "java/lang/invoke/MethodHandle" ∧ yX4_copy.cls ≠ "java/lang/invoke/VarHandle" ∧ (parseMethodDescriptor yX4_copy.desc).map (fun d => d.parameters.length) = some 1 := by decide +kernel
def f_X4_copy_18_9 (N : Nat) (σ : Sg) : Option (Sg) :=
bd (wr σ 18 0 (σ 9 0)) fun σ1 =>
bd (wrR σ1 19 (va_cpy (σ1 10) (σ1 19) 0 0 700)) fun σ2 =>
some σ2
set_option maxHeartbeats 4000000 in
set_option maxRecDepth 100000 in
theorem b_X4_copy_18_9 {N : Nat} {σ : Sg} {z : Sg} (C : Cx p s m args meth c cX4_copy 2 none RX4 g A X) (hf : f_X4_copy_18_9 N σ = some z) : Bk cw p l e rm_X4_copy_18_9 s m args below meth c 2 g A (MQ below (qV cw g A z) args s 0 0 A) 0 0 0 [(0, .ref (g.2.2 18)), (1, .ref (g.2.2 9))] [] σ := by
  obtain ⟨hx, hb, hr, hml, hown, hts, hK, hlocks, hXX, hA, hXo⟩ := id C
  intro H locs ls hP hD hS hl
  unfold f_X4_copy_18_9 at hf
  refine lv_aload_n hx hb dX4_copy_0 rfl (lv_at hl 0 rfl) ?_
  refine lv_aload_n hx hb dX4_copy_1 rfl (lv_at hl 1 rfl) ?_
  refine bk_get (wf := cw) (q0 := 9) (ci := 4) (k := 0) (v := .int (σ 9 0)) C hP wl_X4 rfl rfl (by decide) wa_85 rfl rfl dX4_copy_2 ?_
  obtain ⟨σ1, eσ1, hf⟩ := bd_s hf
  refine bk_put (wf := cw) (σ1 := σ1) (q0 := 18) (ci := 4) (k := 0) (v := .int (σ 9 0)) C hP hD hS wl_X4 tyX4_ok nmX4 rfl rfl (by decide) wa_85 rfl rfl rfl rfl rfl (Nat.le_of_ble_eq_true rfl) (by rw [eσ1]; exact cw_p18_0 g _ _) dX4_copy_5 (fun H locs hP hD hS => ?_)
  refine lv_aload_n hx hb dX4_copy_8 rfl (lv_at hl 1 rfl) ?_
  refine bk_get (wf := cw) (q0 := 9) (ci := 4) (k := 1) (v := .ref (g.2.2 10)) C hP wl_X4 rfl rfl (by decide) wa_86 rfl rfl dX4_copy_9 ?_
  refine lv_iconst (v := (0 : Int32)) hx hb dX4_copy_12 (by decide) ?_
  refine lv_aload_n hx hb dX4_copy_13 rfl (lv_at hl 0 rfl) ?_
  refine bk_get (wf := cw) (q0 := 18) (ci := 4) (k := 1) (v := .ref (g.2.2 19)) C hP wl_X4 rfl rfl (by decide) wa_86 rfl rfl dX4_copy_14 ?_
  refine lv_iconst (v := (0 : Int32)) hx hb dX4_copy_17 (by decide) ?_
  refine lv_sipush (v := (700 : Int32)) hx hb dX4_copy_18 (by decide) ?_
  obtain ⟨σ2, eσ2, hf⟩ := bd_s hf
  refine bk_copy (wf := cw) (σ1 := σ2) (q0 := 10) (q1 := 19) (n0 := 700) (n1 := 700) (js := 0) (jd := 0) (jn := 700) C hP hD hS hl.1 wa_451 wa_441 wa_442 wa_443 rfl rfl (by decide) (by decide) (by decide) (by decide) (by decide) (by decide) (Nat.le_of_ble_eq_true rfl) (Nat.le_of_ble_eq_true rfl) (Nat.le_of_ble_eq_true rfl) (Nat.le_of_ble_eq_true rfl) (by rw [eσ2]; exact cw_r19 g _ _) dX4_copy_21 (fun H locs hP hD hS => ?_)
  cases hf
  exact bk_vret C hP hD hS rfl dX4_copy_24
theorem c_X4_copy_18_9 {N : Nat} {σ : Sg} {z : Sg} (hX : xOK g X) (hf : f_X4_copy_18_9 N σ = some z) : MetV l yX4_copy (Cond.code yX4_copy cX4_copy 2 none :: wsA) rm_X4_copy_18_9 cw g X [.ref (g.2.2 18), .ref (g.2.2 9)] σ z :=
  MetV_of hX (by decide) (Nat.le_of_ble_eq_true rfl) (fun p e s m args below meth c A C => b_X4_copy_18_9 C hf)
-- X9_copy_12_3: copy(LNodPost$Upland;)V
abbrev rm_X9_copy_12_3 : Room := { frames := 2, cells := 0, slots := 0, locals := 101 }
theorem nd_X9_copy : yX9_copy.cls ≠ "java/lang/invoke/MethodHandle" ∧ yX9_copy.cls ≠ "java/lang/invoke/VarHandle" ∧ (parseMethodDescriptor yX9_copy.desc).map (fun d => d.parameters.length) = some 1 := by decide +kernel
def f_X9_copy_12_3 (N : Nat) (σ : Sg) : Option (Sg) :=
bd (wr σ 12 0 (σ 3 0)) fun σ1 =>
bd (wr σ1 12 5 (σ1 3 5)) fun σ2 =>
bd (wr σ2 12 6 (σ2 3 6)) fun σ3 =>
bd (wr σ3 12 7 (σ3 3 7)) fun σ4 =>
bd (wr σ4 12 8 (σ4 3 8)) fun σ5 =>
(f_X11_copyFarms_4_13 N σ5).bind fun q6 =>
(f_X11_copyFarms_5_14 N q6).bind fun q7 =>
(f_X11_copyFarms_6_15 N q7).bind fun q8 =>
(f_X11_copyFarms_7_16 N q8).bind fun q9 =>
bd (wrR q9 17 (va_cpy (q9 8) (q9 17) 0 0 8)) fun σ10 =>
(f_X4_copy_18_9 N σ10).bind fun q11 =>
some q11
set_option maxHeartbeats 4000000 in
set_option maxRecDepth 100000 in
theorem b_X9_copy_12_3 {N : Nat} {σ : Sg} {z : Sg} (C : Cx p s m args meth c cX9_copy 2 none RX9 g A X) (hf : f_X9_copy_12_3 N σ = some z) : Bk cw p l e rm_X9_copy_12_3 s m args below meth c 2 g A (MQ below (qV cw g A z) args s 0 0 A) 0 0 0 [(0, .ref (g.2.2 12)), (1, .ref (g.2.2 3))] [] σ := by
  obtain ⟨hx, hb, hr, hml, hown, hts, hK, hlocks, hXX, hA, hXo⟩ := id C
  intro H locs ls hP hD hS hl
  unfold f_X9_copy_12_3 at hf
  refine lv_aload_n hx hb dX9_copy_0 rfl (lv_at hl 0 rfl) ?_
  refine lv_aload_n hx hb dX9_copy_1 rfl (lv_at hl 1 rfl) ?_
  refine bk_get (wf := cw) (q0 := 3) (ci := 8) (k := 0) (v := .int (σ 3 0)) C hP wl_X9 rfl rfl (by decide) wa_68 rfl rfl dX9_copy_2 ?_
  obtain ⟨σ1, eσ1, hf⟩ := bd_s hf
  refine bk_put (wf := cw) (σ1 := σ1) (q0 := 12) (ci := 8) (k := 0) (v := .int (σ 3 0)) C hP hD hS wl_X9 tyX9_ok nmX9 rfl rfl (by decide) wa_68 rfl rfl rfl rfl rfl (Nat.le_of_ble_eq_true rfl) (by rw [eσ1]; exact cw_p12_0 g _ _) dX9_copy_5 (fun H locs hP hD hS => ?_)
  refine lv_aload_n hx hb dX9_copy_8 rfl (lv_at hl 0 rfl) ?_
  refine lv_aload_n hx hb dX9_copy_9 rfl (lv_at hl 1 rfl) ?_
  refine bk_get (wf := cw) (q0 := 3) (ci := 8) (k := 5) (v := .int (σ1 3 5)) C hP wl_X9 rfl rfl (by decide) wa_73 rfl rfl dX9_copy_10 ?_
  obtain ⟨σ2, eσ2, hf⟩ := bd_s hf
  refine bk_put (wf := cw) (σ1 := σ2) (q0 := 12) (ci := 8) (k := 5) (v := .int (σ1 3 5)) C hP hD hS wl_X9 tyX9_ok nmX9 rfl rfl (by decide) wa_73 rfl rfl rfl rfl rfl (Nat.le_of_ble_eq_true rfl) (by rw [eσ2]; exact cw_p12_5 g _ _) dX9_copy_13 (fun H locs hP hD hS => ?_)
  refine lv_aload_n hx hb dX9_copy_16 rfl (lv_at hl 0 rfl) ?_
  refine lv_aload_n hx hb dX9_copy_17 rfl (lv_at hl 1 rfl) ?_
  refine bk_get (wf := cw) (q0 := 3) (ci := 8) (k := 6) (v := .int (σ2 3 6)) C hP wl_X9 rfl rfl (by decide) wa_74 rfl rfl dX9_copy_18 ?_
  obtain ⟨σ3, eσ3, hf⟩ := bd_s hf
  refine bk_put (wf := cw) (σ1 := σ3) (q0 := 12) (ci := 8) (k := 6) (v := .int (σ2 3 6)) C hP hD hS wl_X9 tyX9_ok nmX9 rfl rfl (by decide) wa_74 rfl rfl rfl rfl rfl (Nat.le_of_ble_eq_true rfl) (by rw [eσ3]; exact cw_p12_6 g _ _) dX9_copy_21 (fun H locs hP hD hS => ?_)
  refine lv_aload_n hx hb dX9_copy_24 rfl (lv_at hl 0 rfl) ?_
  refine lv_aload_n hx hb dX9_copy_25 rfl (lv_at hl 1 rfl) ?_
  refine bk_get (wf := cw) (q0 := 3) (ci := 8) (k := 7) (v := .int (σ3 3 7)) C hP wl_X9 rfl rfl (by decide) wa_75 rfl rfl dX9_copy_26 ?_
  obtain ⟨σ4, eσ4, hf⟩ := bd_s hf
  refine bk_put (wf := cw) (σ1 := σ4) (q0 := 12) (ci := 8) (k := 7) (v := .int (σ3 3 7)) C hP hD hS wl_X9 tyX9_ok nmX9 rfl rfl (by decide) wa_75 rfl rfl rfl rfl rfl (Nat.le_of_ble_eq_true rfl) (by rw [eσ4]; exact cw_p12_7 g _ _) dX9_copy_29 (fun H locs hP hD hS => ?_)
  refine lv_aload_n hx hb dX9_copy_32 rfl (lv_at hl 0 rfl) ?_
  refine lv_aload_n hx hb dX9_copy_33 rfl (lv_at hl 1 rfl) ?_
  refine bk_get (wf := cw) (q0 := 3) (ci := 8) (k := 8) (v := .int (σ4 3 8)) C hP wl_X9 rfl rfl (by decide) wa_76 rfl rfl dX9_copy_34 ?_
  obtain ⟨σ5, eσ5, hf⟩ := bd_s hf
  refine bk_put (wf := cw) (σ1 := σ5) (q0 := 12) (ci := 8) (k := 8) (v := .int (σ4 3 8)) C hP hD hS wl_X9 tyX9_ok nmX9 rfl rfl (by decide) wa_76 rfl rfl rfl rfl rfl (Nat.le_of_ble_eq_true rfl) (by rw [eσ5]; exact cw_p12_8 g _ _) dX9_copy_37 (fun H locs hP hD hS => ?_)
  refine lv_aload_n hx hb dX9_copy_40 rfl (lv_at hl 1 rfl) ?_
  refine bk_get (wf := cw) (q0 := 3) (ci := 8) (k := 1) (v := .ref (g.2.2 4)) C hP wl_X9 rfl rfl (by decide) wa_69 rfl rfl dX9_copy_41 ?_
  refine lv_aload_n hx hb dX9_copy_44 rfl (lv_at hl 0 rfl) ?_
  refine bk_get (wf := cw) (q0 := 12) (ci := 8) (k := 1) (v := .ref (g.2.2 13)) C hP wl_X9 rfl rfl (by decide) wa_69 rfl rfl dX9_copy_45 ?_
  obtain ⟨q6, hq6, hf⟩ := bi_s hf
  refine bk_NV (wf := cw) (rest := []) [.ref (g.2.2 4), .ref (g.2.2 13)] C hP hD hS hl.1 (c_X11_copyFarms_4_13 hXo hq6) wa_445 wa_444 wa_2 (hXo.2.2.2 _ _ _ hXX).1.2.1 rfl rfl nd_X11_copyFarms ⟨Nat.le_of_ble_eq_true rfl, Nat.le_of_ble_eq_true rfl⟩ rfl rfl (Nat.le_of_ble_eq_true rfl) dX9_copy_48 ⟨Nat.le_of_ble_eq_true rfl, Nat.le_of_ble_eq_true rfl⟩ (fun H locs hP hD hS => ?_)
  refine lv_aload_n hx hb dX9_copy_51 rfl (lv_at hl 1 rfl) ?_
  refine bk_get (wf := cw) (q0 := 3) (ci := 8) (k := 2) (v := .ref (g.2.2 5)) C hP wl_X9 rfl rfl (by decide) wa_70 rfl rfl dX9_copy_52 ?_
  refine lv_aload_n hx hb dX9_copy_55 rfl (lv_at hl 0 rfl) ?_
  refine bk_get (wf := cw) (q0 := 12) (ci := 8) (k := 2) (v := .ref (g.2.2 14)) C hP wl_X9 rfl rfl (by decide) wa_70 rfl rfl dX9_copy_56 ?_
  obtain ⟨q7, hq7, hf⟩ := bi_s hf
  refine bk_NV (wf := cw) (rest := []) [.ref (g.2.2 5), .ref (g.2.2 14)] C hP hD hS hl.1 (c_X11_copyFarms_5_14 hXo hq7) wa_445 wa_444 wa_2 (hXo.2.2.2 _ _ _ hXX).1.2.1 rfl rfl nd_X11_copyFarms ⟨Nat.le_of_ble_eq_true rfl, Nat.le_of_ble_eq_true rfl⟩ rfl rfl (Nat.le_of_ble_eq_true rfl) dX9_copy_59 ⟨Nat.le_of_ble_eq_true rfl, Nat.le_of_ble_eq_true rfl⟩ (fun H locs hP hD hS => ?_)
  refine lv_aload_n hx hb dX9_copy_62 rfl (lv_at hl 1 rfl) ?_
  refine bk_get (wf := cw) (q0 := 3) (ci := 8) (k := 3) (v := .ref (g.2.2 6)) C hP wl_X9 rfl rfl (by decide) wa_71 rfl rfl dX9_copy_63 ?_
  refine lv_aload_n hx hb dX9_copy_66 rfl (lv_at hl 0 rfl) ?_
  refine bk_get (wf := cw) (q0 := 12) (ci := 8) (k := 3) (v := .ref (g.2.2 15)) C hP wl_X9 rfl rfl (by decide) wa_71 rfl rfl dX9_copy_67 ?_
  obtain ⟨q8, hq8, hf⟩ := bi_s hf
  refine bk_NV (wf := cw) (rest := []) [.ref (g.2.2 6), .ref (g.2.2 15)] C hP hD hS hl.1 (c_X11_copyFarms_6_15 hXo hq8) wa_445 wa_444 wa_2 (hXo.2.2.2 _ _ _ hXX).1.2.1 rfl rfl nd_X11_copyFarms ⟨Nat.le_of_ble_eq_true rfl, Nat.le_of_ble_eq_true rfl⟩ rfl rfl (Nat.le_of_ble_eq_true rfl) dX9_copy_70 ⟨Nat.le_of_ble_eq_true rfl, Nat.le_of_ble_eq_true rfl⟩ (fun H locs hP hD hS => ?_)
  refine lv_aload_n hx hb dX9_copy_73 rfl (lv_at hl 1 rfl) ?_
  refine bk_get (wf := cw) (q0 := 3) (ci := 8) (k := 4) (v := .ref (g.2.2 7)) C hP wl_X9 rfl rfl (by decide) wa_72 rfl rfl dX9_copy_74 ?_
  refine lv_aload_n hx hb dX9_copy_77 rfl (lv_at hl 0 rfl) ?_
  refine bk_get (wf := cw) (q0 := 12) (ci := 8) (k := 4) (v := .ref (g.2.2 16)) C hP wl_X9 rfl rfl (by decide) wa_72 rfl rfl dX9_copy_78 ?_
  obtain ⟨q9, hq9, hf⟩ := bi_s hf
  refine bk_NV (wf := cw) (rest := []) [.ref (g.2.2 7), .ref (g.2.2 16)] C hP hD hS hl.1 (c_X11_copyFarms_7_16 hXo hq9) wa_445 wa_444 wa_2 (hXo.2.2.2 _ _ _ hXX).1.2.1 rfl rfl nd_X11_copyFarms ⟨Nat.le_of_ble_eq_true rfl, Nat.le_of_ble_eq_true rfl⟩ rfl rfl (Nat.le_of_ble_eq_true rfl) dX9_copy_81 ⟨Nat.le_of_ble_eq_true rfl, Nat.le_of_ble_eq_true rfl⟩ (fun H locs hP hD hS => ?_)
  refine lv_aload_n hx hb dX9_copy_84 rfl (lv_at hl 1 rfl) ?_
  refine bk_get (wf := cw) (q0 := 3) (ci := 8) (k := 9) (v := .ref (g.2.2 8)) C hP wl_X9 rfl rfl (by decide) wa_77 rfl rfl dX9_copy_85 ?_
  refine lv_iconst (v := (0 : Int32)) hx hb dX9_copy_88 (by decide) ?_
  refine lv_aload_n hx hb dX9_copy_89 rfl (lv_at hl 0 rfl) ?_
  refine bk_get (wf := cw) (q0 := 12) (ci := 8) (k := 9) (v := .ref (g.2.2 17)) C hP wl_X9 rfl rfl (by decide) wa_77 rfl rfl dX9_copy_90 ?_
  refine lv_iconst (v := (0 : Int32)) hx hb dX9_copy_93 (by decide) ?_
  refine lv_bipush (v := (8 : Int32)) hx hb dX9_copy_94 (by decide) ?_
  obtain ⟨σ10, eσ10, hf⟩ := bd_s hf
  refine bk_copy (wf := cw) (σ1 := σ10) (q0 := 8) (q1 := 17) (n0 := 8) (n1 := 8) (js := 0) (jd := 0) (jn := 8) C hP hD hS hl.1 wa_440 wa_441 wa_442 wa_443 rfl rfl (by decide) (by decide) (by decide) (by decide) (by decide) (by decide) (Nat.le_of_ble_eq_true rfl) (Nat.le_of_ble_eq_true rfl) (Nat.le_of_ble_eq_true rfl) (Nat.le_of_ble_eq_true rfl) (by rw [eσ10]; exact cw_r17 g _ _) dX9_copy_96 (fun H locs hP hD hS => ?_)
  refine lv_aload_n hx hb dX9_copy_99 rfl (lv_at hl 0 rfl) ?_
  refine bk_get (wf := cw) (q0 := 12) (ci := 8) (k := 10) (v := .ref (g.2.2 18)) C hP wl_X9 rfl rfl (by decide) wa_81 rfl rfl dX9_copy_100 ?_
  refine lv_aload_n hx hb dX9_copy_103 rfl (lv_at hl 1 rfl) ?_
  refine bk_get (wf := cw) (q0 := 3) (ci := 8) (k := 10) (v := .ref (g.2.2 9)) C hP wl_X9 rfl rfl (by decide) wa_81 rfl rfl dX9_copy_104 ?_
  obtain ⟨q11, hq11, hf⟩ := bi_s hf
  refine bk_VV (wf := cw) (q0 := 18) (ci := 4) (rest := []) [.ref (g.2.2 9)] C hP hD hS hl.1 (c_X4_copy_18_9 hXo hq11) (cwA_V 1 hts wa_450 wa_447 wa_448 wa_449 wa_80 rfl rfl nd_X4_copy ⟨Nat.le_of_ble_eq_true rfl, Nat.le_of_ble_eq_true rfl⟩) rfl rfl rfl rfl (Nat.le_of_ble_eq_true rfl) dX9_copy_107 ⟨Nat.le_of_ble_eq_true rfl, Nat.le_of_ble_eq_true rfl⟩ (fun H locs hP hD hS => ?_)
  cases hf
  exact bk_vret C hP hD hS rfl dX9_copy_110
theorem c_X9_copy_12_3 {N : Nat} {σ : Sg} {z : Sg} (hX : xOK g X) (hf : f_X9_copy_12_3 N σ = some z) : MetV l yX9_copy (Cond.code yX9_copy cX9_copy 2 none :: wsA) rm_X9_copy_12_3 cw g X [.ref (g.2.2 12), .ref (g.2.2 3)] σ z :=
  MetV_of hX (by decide) (Nat.le_of_ble_eq_true rfl) (fun p e s m args below meth c A C => b_X9_copy_12_3 C hf)
-- X7_quiet_22: quiet()V
abbrev rm_X7_quiet_22 : Room := { frames := 0, cells := 0, slots := 0, locals := 0 }
theorem nd_X7_quiet : yX7_quiet.cls ≠ "java/lang/invoke/MethodHandle" ∧ yX7_quiet.cls ≠ "java/lang/invoke/VarHandle" ∧ (parseMethodDescriptor yX7_quiet.desc).map (fun d => d.parameters.length) = some 0 := by decide +kernel
def s_X7_quiet_22_h2 (N : Nat) (x1 : Int32) (σ : Sg) : Option (Nat × Int32 × Sg) :=
if (9 : Int32) ≤ x1 then (some (1, 0, σ))
else (if (x1 < 0 ∨ 9 ≤ x1.toNatClampNeg) then none else
bd (wr σ 23 (x1.toNatClampNeg) (0 : Int32)) fun σ2 =>
bd (x1 + (1 : Int32)) fun v3 =>
some (0, v3, σ2))
set_option maxHeartbeats 4000000 in
set_option maxRecDepth 100000 in
theorem e_X7_quiet_22_h2 {N : Nat} {x1 : Int32} {σ : Sg} {z : Nat × Int32 × Sg} (C : Cx p s m args meth c cX7_quiet 2 none RX7 g A X) (hf : s_X7_quiet_22_h2 N x1 σ = some z) (k0 : z.1 = 0 → Bk cw p l e rm_X7_quiet_22 s m args below meth c 2 g A Q 0 0 2 [(0, .ref (g.2.2 22)), (1, .int z.2.1)] [] z.2.2) (k : ¬ z.1 = 0 → Bk cw p l e rm_X7_quiet_22 s m args below meth c 2 g A Q 0 0 21 [] [] z.2.2) : Bk cw p l e rm_X7_quiet_22 s m args below meth c 2 g A Q 0 0 2 [(0, .ref (g.2.2 22)), (1, .int x1)] [] σ := by
  obtain ⟨hx, hb, hr, hml, hown, hts, hK, hlocks, hXX, hA, hXo⟩ := id C
  intro H locs ls hP hD hS hl
  unfold s_X7_quiet_22_h2 at hf
  refine lv_iload_n hx hb dX7_quiet_2 rfl (lv_at hl 1 rfl) ?_
  refine lv_bipush (v := (9 : Int32)) hx hb dX7_quiet_3 (by decide) ?_
  refine lv_icmp_ge (tgt := 21) hx hb dX7_quiet_5 (by decide) (fun t5 => ?_) (fun t5 => ?_)
  · have hf := (if_pos t5).symm.trans hf
    cases hf
    exact (k (show ¬ (1 : Nat) = 0 by decide)) H locs ls hP hD hS (lv_sub hl [] rfl)
  · have hf := (if_neg t5).symm.trans hf
    refine lv_aload_n hx hb dX7_quiet_8 rfl (lv_at hl 0 rfl) ?_
    refine bk_get (wf := cw) (q0 := 22) (ci := 7) (k := 2) (v := .ref (g.2.2 23)) C hP wl_X7 rfl rfl (by decide) wa_109 rfl rfl dX7_quiet_9 ?_
    refine lv_iload_n hx hb dX7_quiet_12 rfl (lv_at hl 1 rfl) ?_
    refine lv_iconst (v := (0 : Int32)) hx hb dX7_quiet_13 (by decide) ?_
    obtain ⟨g1, hf⟩ := gd_s hf
    obtain ⟨σ2, eσ2, hf⟩ := bd_s hf
    refine bk_iast (wf := cw) (σ1 := σ2) (q0 := 23) (n := 9) (j := x1.toNatClampNeg) C hP hD hS rfl g1 rfl (by rw [eσ2]; exact cw_a23 g _ _ _) dX7_quiet_14 (fun H locs hP hD hS => ?_)
    obtain ⟨v3, ev3, hf⟩ := bd_s hf
    refine lv_iinc (v := v3) (lv' := [(1, .int v3), (0, .ref (g.2.2 22))]) hx hb dX7_quiet_15 hl (k := 1) rfl (by rw [ev3]; rfl) (by decide) rfl (fun ls hl => ?_)
    refine lv_goto (tgt := 2) hx hb dX7_quiet_18 (by decide) ?_
    cases hf
    exact k0 rfl H locs ls hP hD hS (lv_sub hl [1, 0] rfl)
theorem lp_X7_quiet_22_h2 {N : Nat} {n : Nat} {x1 : Int32} {σ : Sg} {z : Nat × Int32 × Sg} (C : Cx p s m args meth c cX7_quiet 2 none RX7 g A X) (hz : it (fun q => s_X7_quiet_22_h2 N q.1 q.2) n (x1, σ) = some z) (k : Bk cw p l e rm_X7_quiet_22 s m args below meth c 2 g A Q 0 0 21 [] [] z.2.2) : Bk cw p l e rm_X7_quiet_22 s m args below meth c 2 g A Q 0 0 2 [(0, .ref (g.2.2 22)), (1, .int x1)] [] σ :=
  it_W (S := Int32 × Sg) (fun q => Bk cw p l e rm_X7_quiet_22 s m args below meth c 2 g A Q 0 0 2 [(0, .ref (g.2.2 22)), (1, .int q.1)] [] q.2) (fun z => Bk cw p l e rm_X7_quiet_22 s m args below meth c 2 g A Q 0 0 21 [] [] z.2.2) (fun q z hq k0 k => e_X7_quiet_22_h2 C hq k0 k) n (x1, σ) z hz k
def f_X7_quiet_22 (N : Nat) (σ : Sg) : Option (Sg) :=
(it (fun q => s_X7_quiet_22_h2 N q.1 q.2) N ((0 : Int32), σ)).bind fun z4 =>
some (z4.2.2)
set_option maxHeartbeats 4000000 in
set_option maxRecDepth 100000 in
theorem b_X7_quiet_22 {N : Nat} {σ : Sg} {z : Sg} (C : Cx p s m args meth c cX7_quiet 2 none RX7 g A X) (hf : f_X7_quiet_22 N σ = some z) : Bk cw p l e rm_X7_quiet_22 s m args below meth c 2 g A (MQ below (qV cw g A z) args s 0 0 A) 0 0 0 [(0, .ref (g.2.2 22))] [] σ := by
  obtain ⟨hx, hb, hr, hml, hown, hts, hK, hlocks, hXX, hA, hXo⟩ := id C
  intro H locs ls hP hD hS hl
  unfold f_X7_quiet_22 at hf
  refine lv_iconst (v := (0 : Int32)) hx hb dX7_quiet_0 (by decide) ?_
  refine lv_istore_n (lv' := [(1, .int (0 : Int32)), (0, .ref (g.2.2 22))]) hx hb dX7_quiet_1 rfl hl (by decide) rfl (fun ls hl => ?_)
  obtain ⟨z4, hz4, hf⟩ := bi_s hf
  refine lp_X7_quiet_22_h2 C hz4 ?_ H locs ls hP hD hS (lv_sub hl [1, 0] rfl)
  intro H locs ls hP hD hS hl
  cases hf
  exact bk_vret C hP hD hS rfl dX7_quiet_21
theorem c_X7_quiet_22 {N : Nat} {σ : Sg} {z : Sg} (hX : xOK g X) (hf : f_X7_quiet_22 N σ = some z) : MetV l yX7_quiet (Cond.code yX7_quiet cX7_quiet 2 none :: wsA) rm_X7_quiet_22 cw g X [.ref (g.2.2 22)] σ z :=
  MetV_of hX (by decide) (Nat.le_of_ble_eq_true rfl) (fun p e s m args below meth c A C => b_X7_quiet_22 C hf)
-- X7_settle_22_12: settle(LNodPost$Upland;)V
abbrev rm_X7_settle_22_12 : Room := { frames := 1, cells := 0, slots := 0, locals := 21 }
theorem nd_X7_settle : yX7_settle.cls ≠ "java/lang/invoke/MethodHandle" ∧ yX7_settle.cls ≠ "java/lang/invoke/VarHandle" ∧ (parseMethodDescriptor yX7_settle.desc).map (fun d => d.parameters.length) = some 1 := by decide +kernel
def s_X7_settle_22_12_h16 (N : Nat) (x2 : Int32) (σ : Sg) : Option (Nat × Int32 × Sg) :=
if (9 : Int32) ≤ x2 then (some (1, 0, σ))
else (if (x2 < 0 ∨ 9 ≤ x2.toNatClampNeg) then none else
bd (wr σ 24 (x2.toNatClampNeg) (0 : Int32)) fun σ2 =>
if (x2 < 0 ∨ 9 ≤ x2.toNatClampNeg) then none else
bd (wr σ2 25 (x2.toNatClampNeg) (0 : Int32)) fun σ4 =>
if (x2 < 0 ∨ 9 ≤ x2.toNatClampNeg) then none else
if (x2 < 0 ∨ 9 ≤ x2.toNatClampNeg) then none else
bd (wr σ4 26 (x2.toNatClampNeg) (σ4 15 x2.toNatClampNeg)) fun σ7 =>
bd (x2 + (1 : Int32)) fun v8 =>
some (0, v8, σ7))
set_option maxHeartbeats 4000000 in
set_option maxRecDepth 100000 in
theorem e_X7_settle_22_12_h16 {N : Nat} {x2 : Int32} {σ : Sg} {z : Nat × Int32 × Sg} (C : Cx p s m args meth c cX7_settle 3 none RX7 g A X) (hf : s_X7_settle_22_12_h16 N x2 σ = some z) (k0 : z.1 = 0 → Bk cw p l e rm_X7_settle_22_12 s m args below meth c 3 g A Q 0 0 16 [(0, .ref (g.2.2 22)), (1, .ref (g.2.2 12)), (2, .int z.2.1)] [] z.2.2) (k : ¬ z.1 = 0 → Bk cw p l e rm_X7_settle_22_12 s m args below meth c 3 g A Q 0 0 54 [] [] z.2.2) : Bk cw p l e rm_X7_settle_22_12 s m args below meth c 3 g A Q 0 0 16 [(0, .ref (g.2.2 22)), (1, .ref (g.2.2 12)), (2, .int x2)] [] σ := by
  obtain ⟨hx, hb, hr, hml, hown, hts, hK, hlocks, hXX, hA, hXo⟩ := id C
  intro H locs ls hP hD hS hl
  unfold s_X7_settle_22_12_h16 at hf
  refine lv_iload_n hx hb dX7_settle_16 rfl (lv_at hl 2 rfl) ?_
  refine lv_bipush (v := (9 : Int32)) hx hb dX7_settle_17 (by decide) ?_
  refine lv_icmp_ge (tgt := 54) hx hb dX7_settle_19 (by decide) (fun t19 => ?_) (fun t19 => ?_)
  · have hf := (if_pos t19).symm.trans hf
    cases hf
    exact (k (show ¬ (1 : Nat) = 0 by decide)) H locs ls hP hD hS (lv_sub hl [] rfl)
  · have hf := (if_neg t19).symm.trans hf
    refine lv_aload_n hx hb dX7_settle_22 rfl (lv_at hl 0 rfl) ?_
    refine bk_get (wf := cw) (q0 := 22) (ci := 7) (k := 3) (v := .ref (g.2.2 24)) C hP wl_X7 rfl rfl (by decide) wa_110 rfl rfl dX7_settle_23 ?_
    refine lv_iload_n hx hb dX7_settle_26 rfl (lv_at hl 2 rfl) ?_
    refine lv_iconst (v := (0 : Int32)) hx hb dX7_settle_27 (by decide) ?_
    obtain ⟨g1, hf⟩ := gd_s hf
    obtain ⟨σ2, eσ2, hf⟩ := bd_s hf
    refine bk_iast (wf := cw) (σ1 := σ2) (q0 := 24) (n := 9) (j := x2.toNatClampNeg) C hP hD hS rfl g1 rfl (by rw [eσ2]; exact cw_a24 g _ _ _) dX7_settle_28 (fun H locs hP hD hS => ?_)
    refine lv_aload_n hx hb dX7_settle_29 rfl (lv_at hl 0 rfl) ?_
    refine bk_get (wf := cw) (q0 := 22) (ci := 7) (k := 4) (v := .ref (g.2.2 25)) C hP wl_X7 rfl rfl (by decide) wa_111 rfl rfl dX7_settle_30 ?_
    refine lv_iload_n hx hb dX7_settle_33 rfl (lv_at hl 2 rfl) ?_
    refine lv_iconst (v := (0 : Int32)) hx hb dX7_settle_34 (by decide) ?_
    obtain ⟨g3, hf⟩ := gd_s hf
    obtain ⟨σ4, eσ4, hf⟩ := bd_s hf
    refine bk_iast (wf := cw) (σ1 := σ4) (q0 := 25) (n := 9) (j := x2.toNatClampNeg) C hP hD hS rfl g3 rfl (by rw [eσ4]; exact cw_a25 g _ _ _) dX7_settle_35 (fun H locs hP hD hS => ?_)
    refine lv_aload_n hx hb dX7_settle_36 rfl (lv_at hl 0 rfl) ?_
    refine bk_get (wf := cw) (q0 := 22) (ci := 7) (k := 5) (v := .ref (g.2.2 26)) C hP wl_X7 rfl rfl (by decide) wa_112 rfl rfl dX7_settle_37 ?_
    refine lv_iload_n hx hb dX7_settle_40 rfl (lv_at hl 2 rfl) ?_
    refine lv_aload_n hx hb dX7_settle_41 rfl (lv_at hl 1 rfl) ?_
    refine bk_get (wf := cw) (q0 := 12) (ci := 8) (k := 3) (v := .ref (g.2.2 15)) C hP wl_X9 rfl rfl (by decide) wa_456 rfl rfl dX7_settle_42 ?_
    refine lv_iload_n hx hb dX7_settle_45 rfl (lv_at hl 2 rfl) ?_
    obtain ⟨g5, hf⟩ := gd_s hf
    refine bk_iald (wf := cw) (q0 := 15) (n := 9) (j := x2.toNatClampNeg) C hP rfl g5 rfl dX7_settle_46 ?_
    obtain ⟨g6, hf⟩ := gd_s hf
    obtain ⟨σ7, eσ7, hf⟩ := bd_s hf
    refine bk_iast (wf := cw) (σ1 := σ7) (q0 := 26) (n := 9) (j := x2.toNatClampNeg) C hP hD hS rfl g6 rfl (by rw [eσ7]; exact cw_a26 g _ _ _) dX7_settle_47 (fun H locs hP hD hS => ?_)
    obtain ⟨v8, ev8, hf⟩ := bd_s hf
    refine lv_iinc (v := v8) (lv' := [(2, .int v8), (0, .ref (g.2.2 22)), (1, .ref (g.2.2 12))]) hx hb dX7_settle_48 hl (k := 2) rfl (by rw [ev8]; rfl) (by decide) rfl (fun ls hl => ?_)
    refine lv_goto (tgt := 16) hx hb dX7_settle_51 (by decide) ?_
    cases hf
    exact k0 rfl H locs ls hP hD hS (lv_sub hl [1, 2, 0] rfl)
theorem lp_X7_settle_22_12_h16 {N : Nat} {n : Nat} {x2 : Int32} {σ : Sg} {z : Nat × Int32 × Sg} (C : Cx p s m args meth c cX7_settle 3 none RX7 g A X) (hz : it (fun q => s_X7_settle_22_12_h16 N q.1 q.2) n (x2, σ) = some z) (k : Bk cw p l e rm_X7_settle_22_12 s m args below meth c 3 g A Q 0 0 54 [] [] z.2.2) : Bk cw p l e rm_X7_settle_22_12 s m args below meth c 3 g A Q 0 0 16 [(0, .ref (g.2.2 22)), (1, .ref (g.2.2 12)), (2, .int x2)] [] σ :=
  it_W (S := Int32 × Sg) (fun q => Bk cw p l e rm_X7_settle_22_12 s m args below meth c 3 g A Q 0 0 16 [(0, .ref (g.2.2 22)), (1, .ref (g.2.2 12)), (2, .int q.1)] [] q.2) (fun z => Bk cw p l e rm_X7_settle_22_12 s m args below meth c 3 g A Q 0 0 54 [] [] z.2.2) (fun q z hq k0 k => e_X7_settle_22_12_h16 C hq k0 k) n (x2, σ) z hz k
def f_X7_settle_22_12 (N : Nat) (σ : Sg) : Option (Sg) :=
bd (wr σ 22 0 (0 : Int32)) fun σ9 =>
bd (wr σ9 22 1 (0 : Int32)) fun σ10 =>
(f_X7_quiet_22 N σ10).bind fun q11 =>
(it (fun q => s_X7_settle_22_12_h16 N q.1 q.2) N ((0 : Int32), q11)).bind fun z12 =>
some (z12.2.2)
set_option maxHeartbeats 4000000 in
set_option maxRecDepth 100000 in
theorem b_X7_settle_22_12 {N : Nat} {σ : Sg} {z : Sg} (C : Cx p s m args meth c cX7_settle 3 none RX7 g A X) (hf : f_X7_settle_22_12 N σ = some z) : Bk cw p l e rm_X7_settle_22_12 s m args below meth c 3 g A (MQ below (qV cw g A z) args s 0 0 A) 0 0 0 [(0, .ref (g.2.2 22)), (1, .ref (g.2.2 12))] [] σ := by
  obtain ⟨hx, hb, hr, hml, hown, hts, hK, hlocks, hXX, hA, hXo⟩ := id C
  intro H locs ls hP hD hS hl
  unfold f_X7_settle_22_12 at hf
  refine lv_aload_n hx hb dX7_settle_0 rfl (lv_at hl 0 rfl) ?_
  refine lv_iconst (v := (0 : Int32)) hx hb dX7_settle_1 (by decide) ?_
  obtain ⟨σ9, eσ9, hf⟩ := bd_s hf
  refine bk_put (wf := cw) (σ1 := σ9) (q0 := 22) (ci := 7) (k := 0) (v := .int (0 : Int32)) C hP hD hS wl_X7 tyX7_ok nmX7 rfl rfl (by decide) wa_107 rfl rfl rfl rfl rfl (Nat.le_of_ble_eq_true rfl) (by rw [eσ9]; exact cw_p22_0 g _ _) dX7_settle_2 (fun H locs hP hD hS => ?_)
  refine lv_aload_n hx hb dX7_settle_5 rfl (lv_at hl 0 rfl) ?_
  refine lv_iconst (v := (0 : Int32)) hx hb dX7_settle_6 (by decide) ?_
  obtain ⟨σ10, eσ10, hf⟩ := bd_s hf
  refine bk_put (wf := cw) (σ1 := σ10) (q0 := 22) (ci := 7) (k := 1) (v := .int (0 : Int32)) C hP hD hS wl_X7 tyX7_ok nmX7 rfl rfl (by decide) wa_108 rfl rfl rfl rfl rfl (Nat.le_of_ble_eq_true rfl) (by rw [eσ10]; exact cw_p22_1 g _ _) dX7_settle_7 (fun H locs hP hD hS => ?_)
  refine lv_aload_n hx hb dX7_settle_10 rfl (lv_at hl 0 rfl) ?_
  obtain ⟨q11, hq11, hf⟩ := bi_s hf
  refine bk_VV (wf := cw) (q0 := 22) (ci := 7) (rest := []) [] C hP hD hS hl.1 (c_X7_quiet_22 hXo hq11) (cwA_V 0 hts wa_460 wa_457 wa_458 wa_459 wa_93 rfl rfl nd_X7_quiet ⟨Nat.le_of_ble_eq_true rfl, Nat.le_of_ble_eq_true rfl⟩) rfl rfl rfl rfl (Nat.le_of_ble_eq_true rfl) dX7_settle_11 ⟨Nat.le_of_ble_eq_true rfl, Nat.le_of_ble_eq_true rfl⟩ (fun H locs hP hD hS => ?_)
  refine lv_iconst (v := (0 : Int32)) hx hb dX7_settle_14 (by decide) ?_
  refine lv_istore_n (lv' := [(2, .int (0 : Int32)), (0, .ref (g.2.2 22)), (1, .ref (g.2.2 12))]) hx hb dX7_settle_15 rfl hl (by decide) rfl (fun ls hl => ?_)
  obtain ⟨z12, hz12, hf⟩ := bi_s hf
  refine lp_X7_settle_22_12_h16 C hz12 ?_ H locs ls hP hD hS (lv_sub hl [1, 2, 0] rfl)
  intro H locs ls hP hD hS hl
  cases hf
  exact bk_vret C hP hD hS rfl dX7_settle_54
theorem c_X7_settle_22_12 {N : Nat} {σ : Sg} {z : Sg} (hX : xOK g X) (hf : f_X7_settle_22_12 N σ = some z) : MetV l yX7_settle (Cond.code yX7_settle cX7_settle 3 none :: wsA) rm_X7_settle_22_12 cw g X [.ref (g.2.2 22), .ref (g.2.2 12)] σ z :=
  MetV_of hX (by decide) (Nat.le_of_ble_eq_true rfl) (fun p e s m args below meth c A C => b_X7_settle_22_12 C hf)
-- X0_clear_27: clear()V
abbrev rm_X0_clear_27 : Room := { frames := 0, cells := 0, slots := 0, locals := 0 }
theorem nd_X0_clear : yX0_clear.cls ≠ "java/lang/invoke/MethodHandle" ∧ yX0_clear.cls ≠ "java/lang/invoke/VarHandle" ∧ (parseMethodDescriptor yX0_clear.desc).map (fun d => d.parameters.length) = some 0 := by decide +kernel
def f_X0_clear_27 (N : Nat) (σ : Sg) : Option (Sg) :=
bd (wr σ 27 0 (0 : Int32)) fun σ1 =>
bd (wr σ1 27 1 (0 : Int32)) fun σ2 =>
some σ2
set_option maxHeartbeats 4000000 in
set_option maxRecDepth 100000 in
theorem b_X0_clear_27 {N : Nat} {σ : Sg} {z : Sg} (C : Cx p s m args meth c cX0_clear 1 none RX0 g A X) (hf : f_X0_clear_27 N σ = some z) : Bk cw p l e rm_X0_clear_27 s m args below meth c 1 g A (MQ below (qV cw g A z) args s 0 0 A) 0 0 0 [(0, .ref (g.2.2 27))] [] σ := by
  obtain ⟨hx, hb, hr, hml, hown, hts, hK, hlocks, hXX, hA, hXo⟩ := id C
  intro H locs ls hP hD hS hl
  unfold f_X0_clear_27 at hf
  refine lv_aload_n hx hb dX0_clear_0 rfl (lv_at hl 0 rfl) ?_
  refine lv_iconst (v := (0 : Int32)) hx hb dX0_clear_1 (by decide) ?_
  obtain ⟨σ1, eσ1, hf⟩ := bd_s hf
  refine bk_put (wf := cw) (σ1 := σ1) (q0 := 27) (ci := 0) (k := 0) (v := .int (0 : Int32)) C hP hD hS wl_X0 tyX0_ok nmX0 rfl rfl (by decide) wa_116 rfl rfl rfl rfl rfl (Nat.le_of_ble_eq_true rfl) (by rw [eσ1]; exact cw_p27_0 g _ _) dX0_clear_2 (fun H locs hP hD hS => ?_)
  refine lv_aload_n hx hb dX0_clear_5 rfl (lv_at hl 0 rfl) ?_
  refine lv_iconst (v := (0 : Int32)) hx hb dX0_clear_6 (by decide) ?_
  obtain ⟨σ2, eσ2, hf⟩ := bd_s hf
  refine bk_put (wf := cw) (σ1 := σ2) (q0 := 27) (ci := 0) (k := 1) (v := .int (0 : Int32)) C hP hD hS wl_X0 tyX0_ok nmX0 rfl rfl (by decide) wa_117 rfl rfl rfl rfl rfl (Nat.le_of_ble_eq_true rfl) (by rw [eσ2]; exact cw_p27_1 g _ _) dX0_clear_7 (fun H locs hP hD hS => ?_)
  cases hf
  exact bk_vret C hP hD hS rfl dX0_clear_10
theorem c_X0_clear_27 {N : Nat} {σ : Sg} {z : Sg} (hX : xOK g X) (hf : f_X0_clear_27 N σ = some z) : MetV l yX0_clear (Cond.code yX0_clear cX0_clear 1 none :: wsA) rm_X0_clear_27 cw g X [.ref (g.2.2 27)] σ z :=
  MetV_of hX (by decide) (Nat.le_of_ble_eq_true rfl) (fun p e s m args below meth c A C => b_X0_clear_27 C hf)
-- X5_clear_29: clear()V
abbrev rm_X5_clear_29 : Room := { frames := 0, cells := 0, slots := 0, locals := 0 }
theorem nd_X5_clear : yX5_clear.cls ≠ "java/lang/invoke/MethodHandle" ∧ yX5_clear.cls ≠ "java/lang/invoke/VarHandle" ∧ (parseMethodDescriptor yX5_clear.desc).map (fun d => d.parameters.length) = some 0 := by decide +kernel
def f_X5_clear_29 (N : Nat) (σ : Sg) : Option (Sg) :=
bd (wr σ 29 0 (0 : Int32)) fun σ1 =>
some σ1
set_option maxHeartbeats 4000000 in
set_option maxRecDepth 100000 in
theorem b_X5_clear_29 {N : Nat} {σ : Sg} {z : Sg} (C : Cx p s m args meth c cX5_clear 1 none RX5 g A X) (hf : f_X5_clear_29 N σ = some z) : Bk cw p l e rm_X5_clear_29 s m args below meth c 1 g A (MQ below (qV cw g A z) args s 0 0 A) 0 0 0 [(0, .ref (g.2.2 29))] [] σ := by
  obtain ⟨hx, hb, hr, hml, hown, hts, hK, hlocks, hXX, hA, hXo⟩ := id C
  intro H locs ls hP hD hS hl
  unfold f_X5_clear_29 at hf
  refine lv_aload_n hx hb dX5_clear_0 rfl (lv_at hl 0 rfl) ?_
  refine lv_iconst (v := (0 : Int32)) hx hb dX5_clear_1 (by decide) ?_
  obtain ⟨σ1, eσ1, hf⟩ := bd_s hf
  refine bk_put (wf := cw) (σ1 := σ1) (q0 := 29) (ci := 5) (k := 0) (v := .int (0 : Int32)) C hP hD hS wl_X5 tyX5_ok nmX5 rfl rfl (by decide) wa_122 rfl rfl rfl rfl rfl (Nat.le_of_ble_eq_true rfl) (by rw [eσ1]; exact cw_p29_0 g _ _) dX5_clear_2 (fun H locs hP hD hS => ?_)
  cases hf
  exact bk_vret C hP hD hS rfl dX5_clear_5
theorem c_X5_clear_29 {N : Nat} {σ : Sg} {z : Sg} (hX : xOK g X) (hf : f_X5_clear_29 N σ = some z) : MetV l yX5_clear (Cond.code yX5_clear cX5_clear 1 none :: wsA) rm_X5_clear_29 cw g X [.ref (g.2.2 29)] σ z :=
  MetV_of hX (by decide) (Nat.le_of_ble_eq_true rfl) (fun p e s m args below meth c A C => b_X5_clear_29 C hf)
-- X6_inTheWay_47: inTheWay(II)I
abbrev rm_X6_inTheWay_47 : Room := { frames := 0, cells := 0, slots := 0, locals := 0 }
theorem nd_X6_inTheWay : yX6_inTheWay.cls ≠ "java/lang/invoke/MethodHandle" ∧ yX6_inTheWay.cls ≠ "java/lang/invoke/VarHandle" ∧ (parseMethodDescriptor yX6_inTheWay.desc).map (fun d => d.parameters.length) = some 2 := by decide +kernel
def f_X6_inTheWay_47_b157 (N : Nat) (x3 : Int32) (x4 : Int32) (x5 : Int32) (x6 : Int32) (σ : Sg) : Option (Nat × Int32 × Int32 × Sg) :=
bd (x6 + (1 : Int32)) fun v1 =>
some (0, x5, v1, σ)
set_option maxHeartbeats 4000000 in
set_option maxRecDepth 100000 in
theorem b_X6_inTheWay_47_b157 {N : Nat} {x3 : Int32} {x4 : Int32} {x5 : Int32} {x6 : Int32} {σ : Sg} {z : Nat × Int32 × Int32 × Sg} (C : Cx p s m args meth c cX6_inTheWay 9 (some .int) RX6 g A X) (hf : f_X6_inTheWay_47_b157 N x3 x4 x5 x6 σ = some z) (k0 : z.1 = 0 → Bk cw p l e rm_X6_inTheWay_47 s m args below meth c 9 g A Q 0 0 45 [(0, .ref (g.2.2 47)), (3, .int x3), (4, .int x4), (5, .int z.2.1), (6, .int z.2.2.1)] [] z.2.2.2) (k : ¬ z.1 = 0 → Bk cw p l e rm_X6_inTheWay_47 s m args below meth c 9 g A Q 0 0 163 [(5, .int z.2.1)] [] z.2.2.2) : Bk cw p l e rm_X6_inTheWay_47 s m args below meth c 9 g A Q 0 0 157 [(0, .ref (g.2.2 47)), (3, .int x3), (4, .int x4), (5, .int x5), (6, .int x6)] [] σ := by
  obtain ⟨hx, hb, hr, hml, hown, hts, hK, hlocks, hXX, hA, hXo⟩ := id C
  intro H locs ls hP hD hS hl
  unfold f_X6_inTheWay_47_b157 at hf
  obtain ⟨v1, ev1, hf⟩ := bd_s hf
  refine lv_iinc (v := v1) (lv' := [(6, .int v1), (0, .ref (g.2.2 47)), (3, .int x3), (4, .int x4), (5, .int x5)]) hx hb dX6_inTheWay_157 hl (k := 4) rfl (by rw [ev1]; rfl) (by decide) rfl (fun ls hl => ?_)
  refine lv_goto (tgt := 45) hx hb dX6_inTheWay_160 (by decide) ?_
  cases hf
  exact k0 rfl H locs ls hP hD hS (lv_sub hl [1, 2, 3, 4, 0] rfl)
def s_X6_inTheWay_47_h45 (N : Nat) (x3 : Int32) (x4 : Int32) (x5 : Int32) (x6 : Int32) (σ : Sg) : Option (Nat × Int32 × Int32 × Sg) :=
if (σ 12 0) ≤ x6 then (some (1, x5, 0, σ))
else (if (x6 < 0 ∨ 9 ≤ x6.toNatClampNeg) then none else
if (x3 < 0 ∨ 9 ≤ x3.toNatClampNeg) then none else
bd ((σ 13 x6.toNatClampNeg) - (σ 13 x3.toNatClampNeg)) fun v4 =>
if (x4 < 0 ∨ 9 ≤ x4.toNatClampNeg) then none else
if (x6 < 0 ∨ 9 ≤ x6.toNatClampNeg) then none else
bd ((σ 13 x4.toNatClampNeg) - (σ 13 x6.toNatClampNeg)) fun v7 =>
if v4 ≤ 0 then (f_X6_inTheWay_47_b157 N x3 x4 x5 x6 σ)
else (if v7 ≤ 0 then (f_X6_inTheWay_47_b157 N x3 x4 x5 x6 σ)
else (if (x6 < 0 ∨ 9 ≤ x6.toNatClampNeg) then none else
if (x3 < 0 ∨ 9 ≤ x3.toNatClampNeg) then none else
if (x4 < 0 ∨ 9 ≤ x4.toNatClampNeg) then none else
if ((σ 48 x6.toNatClampNeg) * (v4 + v7)) < (((σ 48 x3.toNatClampNeg) * v7) + ((σ 48 x4.toNatClampNeg) * v4)) then (f_X6_inTheWay_47_b157 N x3 x4 x5 x6 σ)
else (bd (x5 ||| ((1 : Int32) <<< (x6 &&& 31))) fun v11 =>
f_X6_inTheWay_47_b157 N x3 x4 v11 x6 σ))))
set_option maxHeartbeats 4000000 in
set_option maxRecDepth 100000 in
theorem e_X6_inTheWay_47_h45 {N : Nat} {x3 : Int32} {x4 : Int32} {x5 : Int32} {x6 : Int32} {σ : Sg} {z : Nat × Int32 × Int32 × Sg} (C : Cx p s m args meth c cX6_inTheWay 9 (some .int) RX6 g A X) (hf : s_X6_inTheWay_47_h45 N x3 x4 x5 x6 σ = some z) (k0 : z.1 = 0 → Bk cw p l e rm_X6_inTheWay_47 s m args below meth c 9 g A Q 0 0 45 [(0, .ref (g.2.2 47)), (3, .int x3), (4, .int x4), (5, .int z.2.1), (6, .int z.2.2.1)] [] z.2.2.2) (k : ¬ z.1 = 0 → Bk cw p l e rm_X6_inTheWay_47 s m args below meth c 9 g A Q 0 0 163 [(5, .int z.2.1)] [] z.2.2.2) : Bk cw p l e rm_X6_inTheWay_47 s m args below meth c 9 g A Q 0 0 45 [(0, .ref (g.2.2 47)), (3, .int x3), (4, .int x4), (5, .int x5), (6, .int x6)] [] σ := by
  obtain ⟨hx, hb, hr, hml, hown, hts, hK, hlocks, hXX, hA, hXo⟩ := id C
  intro H locs ls hP hD hS hl
  unfold s_X6_inTheWay_47_h45 at hf
  refine lv_iload hx hb dX6_inTheWay_45 (lv_at hl 4 rfl) ?_
  refine lv_aload_n hx hb dX6_inTheWay_47 rfl (lv_at hl 0 rfl) ?_
  refine bk_get (wf := cw) (q0 := 47) (ci := 6) (k := 1) (v := .ref (g.2.2 12)) C hP wl_X6 rfl rfl (by decide) wa_132 rfl rfl dX6_inTheWay_48 ?_
  refine bk_get (wf := cw) (q0 := 12) (ci := 8) (k := 0) (v := .int (σ 12 0)) C hP wl_X9 rfl rfl (by decide) wa_473 rfl rfl dX6_inTheWay_51 ?_
  refine lv_icmp_ge (tgt := 163) hx hb dX6_inTheWay_54 (by decide) (fun t54 => ?_) (fun t54 => ?_)
  · have hf := (if_pos t54).symm.trans hf
    cases hf
    exact (k (show ¬ (1 : Nat) = 0 by decide)) H locs ls hP hD hS (lv_sub hl [3] rfl)
  · have hf := (if_neg t54).symm.trans hf
    refine lv_aload_n hx hb dX6_inTheWay_57 rfl (lv_at hl 0 rfl) ?_
    refine bk_get (wf := cw) (q0 := 47) (ci := 6) (k := 1) (v := .ref (g.2.2 12)) C hP wl_X6 rfl rfl (by decide) wa_132 rfl rfl dX6_inTheWay_58 ?_
    refine bk_get (wf := cw) (q0 := 12) (ci := 8) (k := 1) (v := .ref (g.2.2 13)) C hP wl_X9 rfl rfl (by decide) wa_483 rfl rfl dX6_inTheWay_61 ?_
    refine lv_iload hx hb dX6_inTheWay_64 (lv_at hl 4 rfl) ?_
    obtain ⟨g2, hf⟩ := gd_s hf
    refine bk_iald (wf := cw) (q0 := 13) (n := 9) (j := x6.toNatClampNeg) C hP rfl g2 rfl dX6_inTheWay_66 ?_
    refine lv_aload_n hx hb dX6_inTheWay_67 rfl (lv_at hl 0 rfl) ?_
    refine bk_get (wf := cw) (q0 := 47) (ci := 6) (k := 1) (v := .ref (g.2.2 12)) C hP wl_X6 rfl rfl (by decide) wa_132 rfl rfl dX6_inTheWay_68 ?_
    refine bk_get (wf := cw) (q0 := 12) (ci := 8) (k := 1) (v := .ref (g.2.2 13)) C hP wl_X9 rfl rfl (by decide) wa_483 rfl rfl dX6_inTheWay_71 ?_
    refine lv_iload_n hx hb dX6_inTheWay_74 rfl (lv_at hl 1 rfl) ?_
    obtain ⟨g3, hf⟩ := gd_s hf
    refine bk_iald (wf := cw) (q0 := 13) (n := 9) (j := x3.toNatClampNeg) C hP rfl g3 rfl dX6_inTheWay_75 ?_
    refine lv_isub hx hb dX6_inTheWay_76 ?_
    obtain ⟨v4, ev4, hf⟩ := bd_s hf
    rw [← ev4]
    refine lv_istore (lv' := [(7, .int v4), (0, .ref (g.2.2 47)), (3, .int x3), (4, .int x4), (5, .int x5), (6, .int x6)]) hx hb dX6_inTheWay_77 hl (by decide) rfl (fun ls hl => ?_)
    refine lv_aload_n hx hb dX6_inTheWay_79 rfl (lv_at hl 1 rfl) ?_
    refine bk_get (wf := cw) (q0 := 47) (ci := 6) (k := 1) (v := .ref (g.2.2 12)) C hP wl_X6 rfl rfl (by decide) wa_132 rfl rfl dX6_inTheWay_80 ?_
    refine bk_get (wf := cw) (q0 := 12) (ci := 8) (k := 1) (v := .ref (g.2.2 13)) C hP wl_X9 rfl rfl (by decide) wa_483 rfl rfl dX6_inTheWay_83 ?_
    refine lv_iload hx hb dX6_inTheWay_86 (lv_at hl 3 rfl) ?_
    obtain ⟨g5, hf⟩ := gd_s hf
    refine bk_iald (wf := cw) (q0 := 13) (n := 9) (j := x4.toNatClampNeg) C hP rfl g5 rfl dX6_inTheWay_88 ?_
    refine lv_aload_n hx hb dX6_inTheWay_89 rfl (lv_at hl 1 rfl) ?_
    refine bk_get (wf := cw) (q0 := 47) (ci := 6) (k := 1) (v := .ref (g.2.2 12)) C hP wl_X6 rfl rfl (by decide) wa_132 rfl rfl dX6_inTheWay_90 ?_
    refine bk_get (wf := cw) (q0 := 12) (ci := 8) (k := 1) (v := .ref (g.2.2 13)) C hP wl_X9 rfl rfl (by decide) wa_483 rfl rfl dX6_inTheWay_93 ?_
    refine lv_iload hx hb dX6_inTheWay_96 (lv_at hl 5 rfl) ?_
    obtain ⟨g6, hf⟩ := gd_s hf
    refine bk_iald (wf := cw) (q0 := 13) (n := 9) (j := x6.toNatClampNeg) C hP rfl g6 rfl dX6_inTheWay_98 ?_
    refine lv_isub hx hb dX6_inTheWay_99 ?_
    obtain ⟨v7, ev7, hf⟩ := bd_s hf
    rw [← ev7]
    refine lv_istore (lv' := [(8, .int v7), (7, .int v4), (0, .ref (g.2.2 47)), (3, .int x3), (4, .int x4), (5, .int x5), (6, .int x6)]) hx hb dX6_inTheWay_100 hl (by decide) rfl (fun ls hl => ?_)
    refine lv_iload hx hb dX6_inTheWay_102 (lv_at hl 1 rfl) ?_
    refine lv_if_le (tgt := 157) hx hb dX6_inTheWay_104 (by decide) (fun t104 => ?_) (fun t104 => ?_)
    · have hf := (if_pos t104).symm.trans hf
      exact b_X6_inTheWay_47_b157 C hf k0 k H locs ls hP hD hS (lv_sub hl [2, 3, 4, 5, 6] rfl)
    · have hf := (if_neg t104).symm.trans hf
      refine lv_iload hx hb dX6_inTheWay_107 (lv_at hl 0 rfl) ?_
      refine lv_if_le (tgt := 157) hx hb dX6_inTheWay_109 (by decide) (fun t109 => ?_) (fun t109 => ?_)
      · have hf := (if_pos t109).symm.trans hf
        exact b_X6_inTheWay_47_b157 C hf k0 k H locs ls hP hD hS (lv_sub hl [2, 3, 4, 5, 6] rfl)
      · have hf := (if_neg t109).symm.trans hf
        refine lv_aload_n hx hb dX6_inTheWay_112 rfl (lv_at hl 2 rfl) ?_
        refine bk_get (wf := cw) (q0 := 47) (ci := 6) (k := 0) (v := .ref (g.2.2 48)) C hP wl_X6 rfl rfl (by decide) wa_130 rfl rfl dX6_inTheWay_113 ?_
        refine lv_iload hx hb dX6_inTheWay_116 (lv_at hl 6 rfl) ?_
        obtain ⟨g8, hf⟩ := gd_s hf
        refine bk_iald (wf := cw) (q0 := 48) (n := 9) (j := x6.toNatClampNeg) C hP rfl g8 rfl dX6_inTheWay_118 ?_
        refine lv_iload hx hb dX6_inTheWay_119 (lv_at hl 1 rfl) ?_
        refine lv_iload hx hb dX6_inTheWay_121 (lv_at hl 0 rfl) ?_
        refine lv_iadd hx hb dX6_inTheWay_123 ?_
        refine lv_imul hx hb dX6_inTheWay_124 ?_
        refine lv_aload_n hx hb dX6_inTheWay_125 rfl (lv_at hl 2 rfl) ?_
        refine bk_get (wf := cw) (q0 := 47) (ci := 6) (k := 0) (v := .ref (g.2.2 48)) C hP wl_X6 rfl rfl (by decide) wa_130 rfl rfl dX6_inTheWay_126 ?_
        refine lv_iload_n hx hb dX6_inTheWay_129 rfl (lv_at hl 3 rfl) ?_
        obtain ⟨g9, hf⟩ := gd_s hf
        refine bk_iald (wf := cw) (q0 := 48) (n := 9) (j := x3.toNatClampNeg) C hP rfl g9 rfl dX6_inTheWay_130 ?_
        refine lv_iload hx hb dX6_inTheWay_131 (lv_at hl 0 rfl) ?_
        refine lv_imul hx hb dX6_inTheWay_133 ?_
        refine lv_aload_n hx hb dX6_inTheWay_134 rfl (lv_at hl 2 rfl) ?_
        refine bk_get (wf := cw) (q0 := 47) (ci := 6) (k := 0) (v := .ref (g.2.2 48)) C hP wl_X6 rfl rfl (by decide) wa_130 rfl rfl dX6_inTheWay_135 ?_
        refine lv_iload hx hb dX6_inTheWay_138 (lv_at hl 4 rfl) ?_
        obtain ⟨g10, hf⟩ := gd_s hf
        refine bk_iald (wf := cw) (q0 := 48) (n := 9) (j := x4.toNatClampNeg) C hP rfl g10 rfl dX6_inTheWay_140 ?_
        refine lv_iload hx hb dX6_inTheWay_141 (lv_at hl 1 rfl) ?_
        refine lv_imul hx hb dX6_inTheWay_143 ?_
        refine lv_iadd hx hb dX6_inTheWay_144 ?_
        refine lv_icmp_lt (tgt := 157) hx hb dX6_inTheWay_145 (by decide) (fun t145 => ?_) (fun t145 => ?_)
        · have hf := (if_pos t145).symm.trans hf
          exact b_X6_inTheWay_47_b157 C hf k0 k H locs ls hP hD hS (lv_sub hl [2, 3, 4, 5, 6] rfl)
        · have hf := (if_neg t145).symm.trans hf
          refine lv_iload hx hb dX6_inTheWay_148 (lv_at hl 5 rfl) ?_
          refine lv_iconst (v := (1 : Int32)) hx hb dX6_inTheWay_150 (by decide) ?_
          refine lv_iload hx hb dX6_inTheWay_151 (lv_at hl 6 rfl) ?_
          refine lv_ishl hx hb dX6_inTheWay_153 ?_
          refine lv_ior hx hb dX6_inTheWay_154 ?_
          obtain ⟨v11, ev11, hf⟩ := bd_s hf
          rw [← ev11]
          refine lv_istore (lv' := [(5, .int v11), (8, .int v7), (7, .int v4), (0, .ref (g.2.2 47)), (3, .int x3), (4, .int x4), (6, .int x6)]) hx hb dX6_inTheWay_155 hl (by decide) rfl (fun ls hl => ?_)
          exact b_X6_inTheWay_47_b157 C hf k0 k H locs ls hP hD hS (lv_sub hl [3, 4, 5, 0, 6] rfl)
theorem lp_X6_inTheWay_47_h45 {N : Nat} {n : Nat} {x3 : Int32} {x4 : Int32} {x5 : Int32} {x6 : Int32} {σ : Sg} {z : Nat × Int32 × Int32 × Sg} (C : Cx p s m args meth c cX6_inTheWay 9 (some .int) RX6 g A X) (hz : it (fun q => s_X6_inTheWay_47_h45 N x3 x4 q.1 q.2.1 q.2.2) n (x5, x6, σ) = some z) (k : Bk cw p l e rm_X6_inTheWay_47 s m args below meth c 9 g A Q 0 0 163 [(5, .int z.2.1)] [] z.2.2.2) : Bk cw p l e rm_X6_inTheWay_47 s m args below meth c 9 g A Q 0 0 45 [(0, .ref (g.2.2 47)), (3, .int x3), (4, .int x4), (5, .int x5), (6, .int x6)] [] σ :=
  it_W (S := Int32 × Int32 × Sg) (fun q => Bk cw p l e rm_X6_inTheWay_47 s m args below meth c 9 g A Q 0 0 45 [(0, .ref (g.2.2 47)), (3, .int x3), (4, .int x4), (5, .int q.1), (6, .int q.2.1)] [] q.2.2) (fun z => Bk cw p l e rm_X6_inTheWay_47 s m args below meth c 9 g A Q 0 0 163 [(5, .int z.2.1)] [] z.2.2.2) (fun q z hq k0 k => e_X6_inTheWay_47_h45 C hq k0 k) n (x5, x6, σ) z hz k
def f_X6_inTheWay_47_b37 (N : Nat) (x3 : Int32) (t0 : Int32) (σ : Sg) : Option (Int32 × Sg) :=
(it (fun q => s_X6_inTheWay_47_h45 N x3 t0 q.1 q.2.1 q.2.2) N ((0 : Int32), (0 : Int32), σ)).bind fun z12 =>
some ((z12.2.1), (z12.2.2.2))
set_option maxHeartbeats 4000000 in
set_option maxRecDepth 100000 in
theorem b_X6_inTheWay_47_b37 {N : Nat} {x3 : Int32} {t0 : Int32} {σ : Sg} {z : Int32 × Sg} (C : Cx p s m args meth c cX6_inTheWay 9 (some .int) RX6 g A X) (hf : f_X6_inTheWay_47_b37 N x3 t0 σ = some z) : Bk cw p l e rm_X6_inTheWay_47 s m args below meth c 9 g A (MQ below (qI cw g A z.1 z.2) args s 0 0 A) 0 0 37 [(0, .ref (g.2.2 47)), (3, .int x3)] [.int t0] σ := by
  obtain ⟨hx, hb, hr, hml, hown, hts, hK, hlocks, hXX, hA, hXo⟩ := id C
  intro H locs ls hP hD hS hl
  unfold f_X6_inTheWay_47_b37 at hf
  refine lv_istore (lv' := [(4, .int t0), (0, .ref (g.2.2 47)), (3, .int x3)]) hx hb dX6_inTheWay_37 hl (by decide) rfl (fun ls hl => ?_)
  refine lv_iconst (v := (0 : Int32)) hx hb dX6_inTheWay_39 (by decide) ?_
  refine lv_istore (lv' := [(5, .int (0 : Int32)), (4, .int t0), (0, .ref (g.2.2 47)), (3, .int x3)]) hx hb dX6_inTheWay_40 hl (by decide) rfl (fun ls hl => ?_)
  refine lv_iconst (v := (0 : Int32)) hx hb dX6_inTheWay_42 (by decide) ?_
  refine lv_istore (lv' := [(6, .int (0 : Int32)), (5, .int (0 : Int32)), (4, .int t0), (0, .ref (g.2.2 47)), (3, .int x3)]) hx hb dX6_inTheWay_43 hl (by decide) rfl (fun ls hl => ?_)
  obtain ⟨z12, hz12, hf⟩ := bi_s hf
  refine lp_X6_inTheWay_47_h45 C hz12 ?_ H locs ls hP hD hS (lv_sub hl [3, 4, 2, 1, 0] rfl)
  intro H locs ls hP hD hS hl
  refine lv_iload hx hb dX6_inTheWay_163 (lv_at hl 0 rfl) ?_
  cases hf
  exact bk_iret C hP hD hS rfl dX6_inTheWay_165
def f_X6_inTheWay_47_b26 (N : Nat) (x1 : Int32) (x2 : Int32) (t0 : Int32) (σ : Sg) : Option (Int32 × Sg) :=
if t0 = x1 then (f_X6_inTheWay_47_b37 N t0 x2 σ)
else (f_X6_inTheWay_47_b37 N t0 x1 σ)
set_option maxHeartbeats 4000000 in
set_option maxRecDepth 100000 in
theorem b_X6_inTheWay_47_b26 {N : Nat} {x1 : Int32} {x2 : Int32} {t0 : Int32} {σ : Sg} {z : Int32 × Sg} (C : Cx p s m args meth c cX6_inTheWay 9 (some .int) RX6 g A X) (hf : f_X6_inTheWay_47_b26 N x1 x2 t0 σ = some z) : Bk cw p l e rm_X6_inTheWay_47 s m args below meth c 9 g A (MQ below (qI cw g A z.1 z.2) args s 0 0 A) 0 0 26 [(0, .ref (g.2.2 47)), (1, .int x1), (2, .int x2)] [.int t0] σ := by
  obtain ⟨hx, hb, hr, hml, hown, hts, hK, hlocks, hXX, hA, hXo⟩ := id C
  intro H locs ls hP hD hS hl
  unfold f_X6_inTheWay_47_b26 at hf
  refine lv_istore_n (lv' := [(3, .int t0), (0, .ref (g.2.2 47)), (1, .int x1), (2, .int x2)]) hx hb dX6_inTheWay_26 rfl hl (by decide) rfl (fun ls hl => ?_)
  refine lv_iload_n hx hb dX6_inTheWay_27 rfl (lv_at hl 0 rfl) ?_
  refine lv_iload_n hx hb dX6_inTheWay_28 rfl (lv_at hl 2 rfl) ?_
  refine lv_icmp_ne (tgt := 36) hx hb dX6_inTheWay_29 (by decide) (fun t29 => ?_) (fun t29 => ?_)
  · have hf := (if_neg t29).symm.trans hf
    refine lv_iload_n hx hb dX6_inTheWay_36 rfl (lv_at hl 2 rfl) ?_
    exact b_X6_inTheWay_47_b37 C hf H locs ls hP hD hS (lv_sub hl [1, 0] rfl)
  · have hf := (if_pos t29).symm.trans hf
    refine lv_iload_n hx hb dX6_inTheWay_32 rfl (lv_at hl 3 rfl) ?_
    refine lv_goto (tgt := 37) hx hb dX6_inTheWay_33 (by decide) ?_
    exact b_X6_inTheWay_47_b37 C hf H locs ls hP hD hS (lv_sub hl [1, 0] rfl)
def f_X6_inTheWay_47 (N : Nat) (x1 : Int32) (x2 : Int32) (σ : Sg) : Option (Int32 × Sg) :=
if (x1 < 0 ∨ 9 ≤ x1.toNatClampNeg) then none else
if (x2 < 0 ∨ 9 ≤ x2.toNatClampNeg) then none else
if (σ 13 x2.toNatClampNeg) ≤ (σ 13 x1.toNatClampNeg) then (f_X6_inTheWay_47_b26 N x1 x2 x2 σ)
else (f_X6_inTheWay_47_b26 N x1 x2 x1 σ)
set_option maxHeartbeats 4000000 in
set_option maxRecDepth 100000 in
theorem b_X6_inTheWay_47 {N : Nat} {x1 : Int32} {x2 : Int32} {σ : Sg} {z : Int32 × Sg} (C : Cx p s m args meth c cX6_inTheWay 9 (some .int) RX6 g A X) (hf : f_X6_inTheWay_47 N x1 x2 σ = some z) : Bk cw p l e rm_X6_inTheWay_47 s m args below meth c 9 g A (MQ below (qI cw g A z.1 z.2) args s 0 0 A) 0 0 0 [(0, .ref (g.2.2 47)), (1, .int x1), (2, .int x2)] [] σ := by
  obtain ⟨hx, hb, hr, hml, hown, hts, hK, hlocks, hXX, hA, hXo⟩ := id C
  intro H locs ls hP hD hS hl
  unfold f_X6_inTheWay_47 at hf
  refine lv_aload_n hx hb dX6_inTheWay_0 rfl (lv_at hl 0 rfl) ?_
  refine bk_get (wf := cw) (q0 := 47) (ci := 6) (k := 1) (v := .ref (g.2.2 12)) C hP wl_X6 rfl rfl (by decide) wa_132 rfl rfl dX6_inTheWay_1 ?_
  refine bk_get (wf := cw) (q0 := 12) (ci := 8) (k := 1) (v := .ref (g.2.2 13)) C hP wl_X9 rfl rfl (by decide) wa_483 rfl rfl dX6_inTheWay_4 ?_
  refine lv_iload_n hx hb dX6_inTheWay_7 rfl (lv_at hl 1 rfl) ?_
  obtain ⟨g13, hf⟩ := gd_s hf
  refine bk_iald (wf := cw) (q0 := 13) (n := 9) (j := x1.toNatClampNeg) C hP rfl g13 rfl dX6_inTheWay_8 ?_
  refine lv_aload_n hx hb dX6_inTheWay_9 rfl (lv_at hl 0 rfl) ?_
  refine bk_get (wf := cw) (q0 := 47) (ci := 6) (k := 1) (v := .ref (g.2.2 12)) C hP wl_X6 rfl rfl (by decide) wa_132 rfl rfl dX6_inTheWay_10 ?_
  refine bk_get (wf := cw) (q0 := 12) (ci := 8) (k := 1) (v := .ref (g.2.2 13)) C hP wl_X9 rfl rfl (by decide) wa_483 rfl rfl dX6_inTheWay_13 ?_
  refine lv_iload_n hx hb dX6_inTheWay_16 rfl (lv_at hl 2 rfl) ?_
  obtain ⟨g14, hf⟩ := gd_s hf
  refine bk_iald (wf := cw) (q0 := 13) (n := 9) (j := x2.toNatClampNeg) C hP rfl g14 rfl dX6_inTheWay_17 ?_
  refine lv_icmp_ge (tgt := 25) hx hb dX6_inTheWay_18 (by decide) (fun t18 => ?_) (fun t18 => ?_)
  · have hf := (if_pos t18).symm.trans hf
    refine lv_iload_n hx hb dX6_inTheWay_25 rfl (lv_at hl 2 rfl) ?_
    exact b_X6_inTheWay_47_b26 C hf H locs ls hP hD hS (lv_sub hl [0, 1, 2] rfl)
  · have hf := (if_neg t18).symm.trans hf
    refine lv_iload_n hx hb dX6_inTheWay_21 rfl (lv_at hl 1 rfl) ?_
    refine lv_goto (tgt := 26) hx hb dX6_inTheWay_22 (by decide) ?_
    exact b_X6_inTheWay_47_b26 C hf H locs ls hP hD hS (lv_sub hl [0, 1, 2] rfl)
theorem c_X6_inTheWay_47 {N : Nat} {x1 : Int32} {x2 : Int32} {σ : Sg} {z : Int32 × Sg} (hX : xOK g X) (hf : f_X6_inTheWay_47 N x1 x2 σ = some z) : MetI l yX6_inTheWay (Cond.code yX6_inTheWay cX6_inTheWay 9 (some .int) :: wsA) rm_X6_inTheWay_47 cw g X [.ref (g.2.2 47), .int x1, .int x2] σ z.1 z.2 :=
  MetI_of hX (by decide) (Nat.le_of_ble_eq_true rfl) (fun p e s m args below meth c A C => b_X6_inTheWay_47 C hf)
-- X9_away_12: away(II)I
abbrev rm_X9_away_12 : Room := { frames := 1, cells := 0, slots := 0, locals := 24 }
theorem nd_X9_away : yX9_away.cls ≠ "java/lang/invoke/MethodHandle" ∧ yX9_away.cls ≠ "java/lang/invoke/VarHandle" ∧ (parseMethodDescriptor yX9_away.desc).map (fun d => d.parameters.length) = some 2 := by decide +kernel
def f_X9_away_12 (N : Nat) (x1 : Int32) (x2 : Int32) (σ : Sg) : Option (Int32 × Sg) :=
if (x1 < 0 ∨ 9 ≤ x1.toNatClampNeg) then none else
if (x2 < 0 ∨ 9 ≤ x2.toNatClampNeg) then none else
some ((if 0 ≤ ((σ 13 x1.toNatClampNeg) - (σ 13 x2.toNatClampNeg)) then ((σ 13 x1.toNatClampNeg) - (σ 13 x2.toNatClampNeg)) else 0 - ((σ 13 x1.toNatClampNeg) - (σ 13 x2.toNatClampNeg))), σ)
set_option maxHeartbeats 4000000 in
set_option maxRecDepth 100000 in
theorem b_X9_away_12 {N : Nat} {x1 : Int32} {x2 : Int32} {σ : Sg} {z : Int32 × Sg} (C : Cx p s m args meth c cX9_away 3 (some .int) RX9 g A X) (hf : f_X9_away_12 N x1 x2 σ = some z) : Bk cw p l e rm_X9_away_12 s m args below meth c 3 g A (MQ below (qI cw g A z.1 z.2) args s 0 0 A) 0 0 0 [(0, .ref (g.2.2 12)), (1, .int x1), (2, .int x2)] [] σ := by
  obtain ⟨hx, hb, hr, hml, hown, hts, hK, hlocks, hXX, hA, hXo⟩ := id C
  intro H locs ls hP hD hS hl
  unfold f_X9_away_12 at hf
  refine lv_aload_n hx hb dX9_away_0 rfl (lv_at hl 0 rfl) ?_
  refine bk_get (wf := cw) (q0 := 12) (ci := 8) (k := 1) (v := .ref (g.2.2 13)) C hP wl_X9 rfl rfl (by decide) wa_69 rfl rfl dX9_away_1 ?_
  refine lv_iload_n hx hb dX9_away_4 rfl (lv_at hl 1 rfl) ?_
  obtain ⟨g1, hf⟩ := gd_s hf
  refine bk_iald (wf := cw) (q0 := 13) (n := 9) (j := x1.toNatClampNeg) C hP rfl g1 rfl dX9_away_5 ?_
  refine lv_aload_n hx hb dX9_away_6 rfl (lv_at hl 0 rfl) ?_
  refine bk_get (wf := cw) (q0 := 12) (ci := 8) (k := 1) (v := .ref (g.2.2 13)) C hP wl_X9 rfl rfl (by decide) wa_69 rfl rfl dX9_away_7 ?_
  refine lv_iload_n hx hb dX9_away_10 rfl (lv_at hl 2 rfl) ?_
  obtain ⟨g2, hf⟩ := gd_s hf
  refine bk_iald (wf := cw) (q0 := 13) (n := 9) (j := x2.toNatClampNeg) C hP rfl g2 rfl dX9_away_11 ?_
  refine lv_isub hx hb dX9_away_12 ?_
  refine va_mabs hx hb (hml.trans hl.1.symm) hown (hts _ wa_497) (hts _ wa_498) (hts _ wa_231) (hts _ wa_499) (Nat.le_of_ble_eq_true rfl) (Nat.le_of_ble_eq_true rfl) (Nat.le_of_ble_eq_true rfl) (Nat.le_of_ble_eq_true rfl) dX9_away_13 ?_
  cases hf
  exact bk_iret C hP hD hS rfl dX9_away_16
theorem c_X9_away_12 {N : Nat} {x1 : Int32} {x2 : Int32} {σ : Sg} {z : Int32 × Sg} (hX : xOK g X) (hf : f_X9_away_12 N x1 x2 σ = some z) : MetI l yX9_away (Cond.code yX9_away cX9_away 3 (some .int) :: wsA) rm_X9_away_12 cw g X [.ref (g.2.2 12), .int x1, .int x2] σ z.1 z.2 :=
  MetI_of hX (by decide) (Nat.le_of_ble_eq_true rfl) (fun p e s m args below meth c A C => b_X9_away_12 C hf)
-- X6_isNear_47: isNear(III)Z
abbrev rm_X6_isNear_47 : Room := { frames := 2, cells := 0, slots := 0, locals := 46 }
theorem nd_X6_isNear : yX6_isNear.cls ≠ "java/lang/invoke/MethodHandle" ∧ yX6_isNear.cls ≠ "java/lang/invoke/VarHandle" ∧ (parseMethodDescriptor yX6_isNear.desc).map (fun d => d.parameters.length) = some 3 := by decide +kernel
def f_X6_isNear_47 (N : Nat) (x1 : Int32) (x2 : Int32) (x3 : Int32) (σ : Sg) : Option (Int32 × Sg) :=
(f_X9_away_12 N x1 x2 σ).bind fun q1 =>
if (((q1.2) 12 6) - ((9 : Int32) * x3)) < q1.1 then (some ((0 : Int32), (q1.2)))
else (some ((1 : Int32), (q1.2)))
set_option maxHeartbeats 4000000 in
set_option maxRecDepth 100000 in
theorem b_X6_isNear_47 {N : Nat} {x1 : Int32} {x2 : Int32} {x3 : Int32} {σ : Sg} {z : Int32 × Sg} (C : Cx p s m args meth c cX6_isNear 4 (some .boolean) RX6 g A X) (hf : f_X6_isNear_47 N x1 x2 x3 σ = some z) : Bk cw p l e rm_X6_isNear_47 s m args below meth c 4 g A (MQ below (qI cw g A z.1 z.2) args s 0 0 A) 0 0 0 [(0, .ref (g.2.2 47)), (1, .int x1), (2, .int x2), (3, .int x3)] [] σ := by
  obtain ⟨hx, hb, hr, hml, hown, hts, hK, hlocks, hXX, hA, hXo⟩ := id C
  intro H locs ls hP hD hS hl
  unfold f_X6_isNear_47 at hf
  refine lv_aload_n hx hb dX6_isNear_0 rfl (lv_at hl 0 rfl) ?_
  refine bk_get (wf := cw) (q0 := 47) (ci := 6) (k := 1) (v := .ref (g.2.2 12)) C hP wl_X6 rfl rfl (by decide) wa_132 rfl rfl dX6_isNear_1 ?_
  refine lv_iload_n hx hb dX6_isNear_4 rfl (lv_at hl 1 rfl) ?_
  refine lv_iload_n hx hb dX6_isNear_5 rfl (lv_at hl 2 rfl) ?_
  obtain ⟨q1, hq1, hf⟩ := bi_s hf
  refine bk_VI (wf := cw) (q0 := 12) (ci := 8) (rest := []) [.int x1, .int x2] C hP hD hS hl.1 (c_X9_away_12 hXo hq1) (cwA_V 2 hts wa_496 wa_493 wa_494 wa_495 wa_22 rfl rfl nd_X9_away ⟨Nat.le_of_ble_eq_true rfl, Nat.le_of_ble_eq_true rfl⟩) rfl rfl rfl rfl (Nat.le_of_ble_eq_true rfl) dX6_isNear_6 ⟨Nat.le_of_ble_eq_true rfl, Nat.le_of_ble_eq_true rfl⟩ (fun H locs hP hD hS => ?_)
  refine lv_aload_n hx hb dX6_isNear_9 rfl (lv_at hl 0 rfl) ?_
  refine bk_get (wf := cw) (q0 := 47) (ci := 6) (k := 1) (v := .ref (g.2.2 12)) C hP wl_X6 rfl rfl (by decide) wa_132 rfl rfl dX6_isNear_10 ?_
  refine bk_get (wf := cw) (q0 := 12) (ci := 8) (k := 6) (v := .int ((q1.2) 12 6)) C hP wl_X9 rfl rfl (by decide) wa_492 rfl rfl dX6_isNear_13 ?_
  refine lv_bipush (v := (9 : Int32)) hx hb dX6_isNear_16 (by decide) ?_
  refine lv_iload_n hx hb dX6_isNear_18 rfl (lv_at hl 3 rfl) ?_
  refine lv_imul hx hb dX6_isNear_19 ?_
  refine lv_isub hx hb dX6_isNear_20 ?_
  refine lv_icmp_gt (tgt := 28) hx hb dX6_isNear_21 (by decide) (fun t21 => ?_) (fun t21 => ?_)
  · have hf := (if_pos t21).symm.trans hf
    refine lv_iconst (v := (0 : Int32)) hx hb dX6_isNear_28 (by decide) ?_
    cases hf
    exact bk_zret C hP hD hS (by decide) rfl dX6_isNear_29
  · have hf := (if_neg t21).symm.trans hf
    refine lv_iconst (v := (1 : Int32)) hx hb dX6_isNear_24 (by decide) ?_
    refine lv_goto (tgt := 29) hx hb dX6_isNear_25 (by decide) ?_
    cases hf
    exact bk_zret C hP hD hS (by decide) rfl dX6_isNear_29
theorem c_X6_isNear_47 {N : Nat} {x1 : Int32} {x2 : Int32} {x3 : Int32} {σ : Sg} {z : Int32 × Sg} (hX : xOK g X) (hf : f_X6_isNear_47 N x1 x2 x3 σ = some z) : MetI l yX6_isNear (Cond.code yX6_isNear cX6_isNear 4 (some .boolean) :: wsA) rm_X6_isNear_47 cw g X [.ref (g.2.2 47), .int x1, .int x2, .int x3] σ z.1 z.2 :=
  MetI_of hX (by decide) (Nat.le_of_ble_eq_true rfl) (fun p e s m args below meth c A C => b_X6_isNear_47 C hf)
-- X6_mark_47: mark(II)V
abbrev rm_X6_mark_47 : Room := { frames := 3, cells := 0, slots := 0, locals := 69 }
theorem nd_X6_mark : yX6_mark.cls ≠ "java/lang/invoke/MethodHandle" ∧ yX6_mark.cls ≠ "java/lang/invoke/VarHandle" ∧ (parseMethodDescriptor yX6_mark.desc).map (fun d => d.parameters.length) = some 2 := by decide +kernel
def s_X6_mark_47_h2 (N : Nat) (x1 : Int32) (x2 : Int32) (x3 : Int32) (σ : Sg) : Option (Nat × Int32 × Sg) :=
if (9 : Int32) < x3 then (some (1, 0, σ))
else ((f_X6_isNear_47 N x1 x2 x3 σ).bind fun q1 =>
if q1.1 = 0 then (some (1, 0, (q1.2)))
else (if (((x3 * (9 : Int32)) + x1) < 0 ∨ 90 ≤ ((x3 * (9 : Int32)) + x1).toNatClampNeg) then none else
if (((x3 * (9 : Int32)) + x1) < 0 ∨ 90 ≤ ((x3 * (9 : Int32)) + x1).toNatClampNeg) then none else
bd (wr (q1.2) 49 (((x3 * (9 : Int32)) + x1).toNatClampNeg) (((q1.2) 49 ((x3 * (9 : Int32)) + x1).toNatClampNeg) ||| ((1 : Int32) <<< (x2 &&& 31)))) fun σ4 =>
if (((x3 * (9 : Int32)) + x2) < 0 ∨ 90 ≤ ((x3 * (9 : Int32)) + x2).toNatClampNeg) then none else
if (((x3 * (9 : Int32)) + x2) < 0 ∨ 90 ≤ ((x3 * (9 : Int32)) + x2).toNatClampNeg) then none else
bd (wr σ4 49 (((x3 * (9 : Int32)) + x2).toNatClampNeg) ((σ4 49 ((x3 * (9 : Int32)) + x2).toNatClampNeg) ||| ((1 : Int32) <<< (x1 &&& 31)))) fun σ7 =>
bd (x3 + (1 : Int32)) fun v8 =>
some (0, v8, σ7)))
set_option maxHeartbeats 4000000 in
set_option maxRecDepth 100000 in
theorem e_X6_mark_47_h2 {N : Nat} {x1 : Int32} {x2 : Int32} {x3 : Int32} {σ : Sg} {z : Nat × Int32 × Sg} (C : Cx p s m args meth c cX6_mark 4 none RX6 g A X) (hf : s_X6_mark_47_h2 N x1 x2 x3 σ = some z) (k0 : z.1 = 0 → Bk cw p l e rm_X6_mark_47 s m args below meth c 4 g A Q 0 0 2 [(0, .ref (g.2.2 47)), (1, .int x1), (2, .int x2), (3, .int z.2.1)] [] z.2.2) (k : ¬ z.1 = 0 → Bk cw p l e rm_X6_mark_47 s m args below meth c 4 g A Q 0 0 58 [] [] z.2.2) : Bk cw p l e rm_X6_mark_47 s m args below meth c 4 g A Q 0 0 2 [(0, .ref (g.2.2 47)), (1, .int x1), (2, .int x2), (3, .int x3)] [] σ := by
  obtain ⟨hx, hb, hr, hml, hown, hts, hK, hlocks, hXX, hA, hXo⟩ := id C
  intro H locs ls hP hD hS hl
  unfold s_X6_mark_47_h2 at hf
  refine lv_iload_n hx hb dX6_mark_2 rfl (lv_at hl 3 rfl) ?_
  refine lv_bipush (v := (9 : Int32)) hx hb dX6_mark_3 (by decide) ?_
  refine lv_icmp_gt (tgt := 58) hx hb dX6_mark_5 (by decide) (fun t5 => ?_) (fun t5 => ?_)
  · have hf := (if_pos t5).symm.trans hf
    cases hf
    exact (k (show ¬ (1 : Nat) = 0 by decide)) H locs ls hP hD hS (lv_sub hl [] rfl)
  · have hf := (if_neg t5).symm.trans hf
    refine lv_aload_n hx hb dX6_mark_8 rfl (lv_at hl 0 rfl) ?_
    refine lv_iload_n hx hb dX6_mark_9 rfl (lv_at hl 1 rfl) ?_
    refine lv_iload_n hx hb dX6_mark_10 rfl (lv_at hl 2 rfl) ?_
    refine lv_iload_n hx hb dX6_mark_11 rfl (lv_at hl 3 rfl) ?_
    obtain ⟨q1, hq1, hf⟩ := bi_s hf
    refine bk_VI (wf := cw) (q0 := 47) (ci := 6) (rest := []) [.int x1, .int x2, .int x3] C hP hD hS hl.1 (c_X6_isNear_47 hXo hq1) (cwA_V 3 hts wa_491 wa_488 wa_489 wa_490 wa_32 rfl rfl nd_X6_isNear ⟨Nat.le_of_ble_eq_true rfl, Nat.le_of_ble_eq_true rfl⟩) rfl rfl rfl rfl (Nat.le_of_ble_eq_true rfl) dX6_mark_12 ⟨Nat.le_of_ble_eq_true rfl, Nat.le_of_ble_eq_true rfl⟩ (fun H locs hP hD hS => ?_)
    refine lv_if_eq (tgt := 58) hx hb dX6_mark_15 (by decide) (fun t15 => ?_) (fun t15 => ?_)
    · have hf := (if_pos t15).symm.trans hf
      cases hf
      exact (k (show ¬ (1 : Nat) = 0 by decide)) H locs ls hP hD hS (lv_sub hl [] rfl)
    · have hf := (if_neg t15).symm.trans hf
      refine lv_aload_n hx hb dX6_mark_18 rfl (lv_at hl 0 rfl) ?_
      refine bk_get (wf := cw) (q0 := 47) (ci := 6) (k := 2) (v := .ref (g.2.2 49)) C hP wl_X6 rfl rfl (by decide) wa_131 rfl rfl dX6_mark_19 ?_
      refine lv_iload_n hx hb dX6_mark_22 rfl (lv_at hl 3 rfl) ?_
      refine lv_bipush (v := (9 : Int32)) hx hb dX6_mark_23 (by decide) ?_
      refine lv_imul hx hb dX6_mark_25 ?_
      refine lv_iload_n hx hb dX6_mark_26 rfl (lv_at hl 1 rfl) ?_
      refine lv_iadd hx hb dX6_mark_27 ?_
      refine lv_dup2_11 hx hb dX6_mark_28 rfl rfl ?_
      obtain ⟨g2, hf⟩ := gd_s hf
      refine bk_iald (wf := cw) (q0 := 49) (n := 90) (j := ((x3 * (9 : Int32)) + x1).toNatClampNeg) C hP rfl g2 rfl dX6_mark_29 ?_
      refine lv_iconst (v := (1 : Int32)) hx hb dX6_mark_30 (by decide) ?_
      refine lv_iload_n hx hb dX6_mark_31 rfl (lv_at hl 2 rfl) ?_
      refine lv_ishl hx hb dX6_mark_32 ?_
      refine lv_ior hx hb dX6_mark_33 ?_
      obtain ⟨g3, hf⟩ := gd_s hf
      obtain ⟨σ4, eσ4, hf⟩ := bd_s hf
      refine bk_iast (wf := cw) (σ1 := σ4) (q0 := 49) (n := 90) (j := ((x3 * (9 : Int32)) + x1).toNatClampNeg) C hP hD hS rfl g3 rfl (by rw [eσ4]; exact cw_a49 g _ _ _) dX6_mark_34 (fun H locs hP hD hS => ?_)
      refine lv_aload_n hx hb dX6_mark_35 rfl (lv_at hl 0 rfl) ?_
      refine bk_get (wf := cw) (q0 := 47) (ci := 6) (k := 2) (v := .ref (g.2.2 49)) C hP wl_X6 rfl rfl (by decide) wa_131 rfl rfl dX6_mark_36 ?_
      refine lv_iload_n hx hb dX6_mark_39 rfl (lv_at hl 3 rfl) ?_
      refine lv_bipush (v := (9 : Int32)) hx hb dX6_mark_40 (by decide) ?_
      refine lv_imul hx hb dX6_mark_42 ?_
      refine lv_iload_n hx hb dX6_mark_43 rfl (lv_at hl 2 rfl) ?_
      refine lv_iadd hx hb dX6_mark_44 ?_
      refine lv_dup2_11 hx hb dX6_mark_45 rfl rfl ?_
      obtain ⟨g5, hf⟩ := gd_s hf
      refine bk_iald (wf := cw) (q0 := 49) (n := 90) (j := ((x3 * (9 : Int32)) + x2).toNatClampNeg) C hP rfl g5 rfl dX6_mark_46 ?_
      refine lv_iconst (v := (1 : Int32)) hx hb dX6_mark_47 (by decide) ?_
      refine lv_iload_n hx hb dX6_mark_48 rfl (lv_at hl 1 rfl) ?_
      refine lv_ishl hx hb dX6_mark_49 ?_
      refine lv_ior hx hb dX6_mark_50 ?_
      obtain ⟨g6, hf⟩ := gd_s hf
      obtain ⟨σ7, eσ7, hf⟩ := bd_s hf
      refine bk_iast (wf := cw) (σ1 := σ7) (q0 := 49) (n := 90) (j := ((x3 * (9 : Int32)) + x2).toNatClampNeg) C hP hD hS rfl g6 rfl (by rw [eσ7]; exact cw_a49 g _ _ _) dX6_mark_51 (fun H locs hP hD hS => ?_)
      obtain ⟨v8, ev8, hf⟩ := bd_s hf
      refine lv_iinc (v := v8) (lv' := [(3, .int v8), (0, .ref (g.2.2 47)), (1, .int x1), (2, .int x2)]) hx hb dX6_mark_52 hl (k := 3) rfl (by rw [ev8]; rfl) (by decide) rfl (fun ls hl => ?_)
      refine lv_goto (tgt := 2) hx hb dX6_mark_55 (by decide) ?_
      cases hf
      exact k0 rfl H locs ls hP hD hS (lv_sub hl [1, 2, 3, 0] rfl)
theorem lp_X6_mark_47_h2 {N : Nat} {n : Nat} {x1 : Int32} {x2 : Int32} {x3 : Int32} {σ : Sg} {z : Nat × Int32 × Sg} (C : Cx p s m args meth c cX6_mark 4 none RX6 g A X) (hz : it (fun q => s_X6_mark_47_h2 N x1 x2 q.1 q.2) n (x3, σ) = some z) (k : Bk cw p l e rm_X6_mark_47 s m args below meth c 4 g A Q 0 0 58 [] [] z.2.2) : Bk cw p l e rm_X6_mark_47 s m args below meth c 4 g A Q 0 0 2 [(0, .ref (g.2.2 47)), (1, .int x1), (2, .int x2), (3, .int x3)] [] σ :=
  it_W (S := Int32 × Sg) (fun q => Bk cw p l e rm_X6_mark_47 s m args below meth c 4 g A Q 0 0 2 [(0, .ref (g.2.2 47)), (1, .int x1), (2, .int x2), (3, .int q.1)] [] q.2) (fun z => Bk cw p l e rm_X6_mark_47 s m args below meth c 4 g A Q 0 0 58 [] [] z.2.2) (fun q z hq k0 k => e_X6_mark_47_h2 C hq k0 k) n (x3, σ) z hz k
def f_X6_mark_47 (N : Nat) (x1 : Int32) (x2 : Int32) (σ : Sg) : Option (Sg) :=
(it (fun q => s_X6_mark_47_h2 N x1 x2 q.1 q.2) N ((0 : Int32), σ)).bind fun z9 =>
some (z9.2.2)
set_option maxHeartbeats 4000000 in
set_option maxRecDepth 100000 in
theorem b_X6_mark_47 {N : Nat} {x1 : Int32} {x2 : Int32} {σ : Sg} {z : Sg} (C : Cx p s m args meth c cX6_mark 4 none RX6 g A X) (hf : f_X6_mark_47 N x1 x2 σ = some z) : Bk cw p l e rm_X6_mark_47 s m args below meth c 4 g A (MQ below (qV cw g A z) args s 0 0 A) 0 0 0 [(0, .ref (g.2.2 47)), (1, .int x1), (2, .int x2)] [] σ := by
  obtain ⟨hx, hb, hr, hml, hown, hts, hK, hlocks, hXX, hA, hXo⟩ := id C
  intro H locs ls hP hD hS hl
  unfold f_X6_mark_47 at hf
  refine lv_iconst (v := (0 : Int32)) hx hb dX6_mark_0 (by decide) ?_
  refine lv_istore_n (lv' := [(3, .int (0 : Int32)), (0, .ref (g.2.2 47)), (1, .int x1), (2, .int x2)]) hx hb dX6_mark_1 rfl hl (by decide) rfl (fun ls hl => ?_)
  obtain ⟨z9, hz9, hf⟩ := bi_s hf
  refine lp_X6_mark_47_h2 C hz9 ?_ H locs ls hP hD hS (lv_sub hl [1, 2, 3, 0] rfl)
  intro H locs ls hP hD hS hl
  cases hf
  exact bk_vret C hP hD hS rfl dX6_mark_58
theorem c_X6_mark_47 {N : Nat} {x1 : Int32} {x2 : Int32} {σ : Sg} {z : Sg} (hX : xOK g X) (hf : f_X6_mark_47 N x1 x2 σ = some z) : MetV l yX6_mark (Cond.code yX6_mark cX6_mark 4 none :: wsA) rm_X6_mark_47 cw g X [.ref (g.2.2 47), .int x1, .int x2] σ z :=
  MetV_of hX (by decide) (Nat.le_of_ble_eq_true rfl) (fun p e s m args below meth c A C => b_X6_mark_47 C hf)
-- X6_takeTops_47_26: takeTops([I)V
abbrev rm_X6_takeTops_47_26 : Room := { frames := 0, cells := 0, slots := 0, locals := 0 }
theorem nd_X6_takeTops : yX6_takeTops.cls ≠ "java/lang/invoke/MethodHandle" ∧ yX6_takeTops.cls ≠ "java/lang/invoke/VarHandle" ∧ (parseMethodDescriptor yX6_takeTops.desc).map (fun d => d.parameters.length) = some 1 := by decide +kernel
def s_X6_takeTops_47_26_h2 (N : Nat) (x2 : Int32) (σ : Sg) : Option (Nat × Int32 × Sg) :=
if (9 : Int32) ≤ x2 then (some (1, 0, σ))
else (if (9 : Int32) ≤ x2 then (some (1, 0, σ))
else (if (x2 < 0 ∨ 9 ≤ x2.toNatClampNeg) then none else
if (x2 < 0 ∨ 9 ≤ x2.toNatClampNeg) then none else
if (x2 < 0 ∨ 9 ≤ x2.toNatClampNeg) then none else
bd (wr σ 48 (x2.toNatClampNeg) ((σ 14 x2.toNatClampNeg) + (σ 26 x2.toNatClampNeg))) fun σ4 =>
bd (x2 + (1 : Int32)) fun v5 =>
some (0, v5, σ4)))
set_option maxHeartbeats 4000000 in
set_option maxRecDepth 100000 in
theorem e_X6_takeTops_47_26_h2 {N : Nat} {x2 : Int32} {σ : Sg} {z : Nat × Int32 × Sg} (C : Cx p s m args meth c cX6_takeTops 3 none RX6 g A X) (hf : s_X6_takeTops_47_26_h2 N x2 σ = some z) (k0 : z.1 = 0 → Bk cw p l e rm_X6_takeTops_47_26 s m args below meth c 3 g A Q 0 0 2 [(0, .ref (g.2.2 47)), (1, .ref (g.2.2 26)), (2, .int z.2.1)] [] z.2.2) (k : ¬ z.1 = 0 → Bk cw p l e rm_X6_takeTops_47_26 s m args below meth c 3 g A Q 0 0 39 [] [] z.2.2) : Bk cw p l e rm_X6_takeTops_47_26 s m args below meth c 3 g A Q 0 0 2 [(0, .ref (g.2.2 47)), (1, .ref (g.2.2 26)), (2, .int x2)] [] σ := by
  obtain ⟨hx, hb, hr, hml, hown, hts, hK, hlocks, hXX, hA, hXo⟩ := id C
  intro H locs ls hP hD hS hl
  unfold s_X6_takeTops_47_26_h2 at hf
  refine lv_iload_n hx hb dX6_takeTops_2 rfl (lv_at hl 2 rfl) ?_
  refine lv_bipush (v := (9 : Int32)) hx hb dX6_takeTops_3 (by decide) ?_
  refine lv_icmp_ge (tgt := 39) hx hb dX6_takeTops_5 (by decide) (fun t5 => ?_) (fun t5 => ?_)
  · have hf := (if_pos t5).symm.trans hf
    cases hf
    exact (k (show ¬ (1 : Nat) = 0 by decide)) H locs ls hP hD hS (lv_sub hl [] rfl)
  · have hf := (if_neg t5).symm.trans hf
    refine lv_iload_n hx hb dX6_takeTops_8 rfl (lv_at hl 2 rfl) ?_
    refine lv_aload_n hx hb dX6_takeTops_9 rfl (lv_at hl 1 rfl) ?_
    refine bk_alen (wf := cw) (q0 := 26) (t0 := 0) (v := (9 : Int32)) C hP rfl rfl (show Int32.ofNat 9 = (9 : Int32) by decide) dX6_takeTops_10 ?_
    refine lv_icmp_ge (tgt := 39) hx hb dX6_takeTops_11 (by decide) (fun t11 => ?_) (fun t11 => ?_)
    · have hf := (if_pos t11).symm.trans hf
      cases hf
      exact (k (show ¬ (1 : Nat) = 0 by decide)) H locs ls hP hD hS (lv_sub hl [] rfl)
    · have hf := (if_neg t11).symm.trans hf
      refine lv_aload_n hx hb dX6_takeTops_14 rfl (lv_at hl 0 rfl) ?_
      refine bk_get (wf := cw) (q0 := 47) (ci := 6) (k := 0) (v := .ref (g.2.2 48)) C hP wl_X6 rfl rfl (by decide) wa_130 rfl rfl dX6_takeTops_15 ?_
      refine lv_iload_n hx hb dX6_takeTops_18 rfl (lv_at hl 2 rfl) ?_
      refine lv_aload_n hx hb dX6_takeTops_19 rfl (lv_at hl 0 rfl) ?_
      refine bk_get (wf := cw) (q0 := 47) (ci := 6) (k := 1) (v := .ref (g.2.2 12)) C hP wl_X6 rfl rfl (by decide) wa_132 rfl rfl dX6_takeTops_20 ?_
      refine bk_get (wf := cw) (q0 := 12) (ci := 8) (k := 2) (v := .ref (g.2.2 14)) C hP wl_X9 rfl rfl (by decide) wa_478 rfl rfl dX6_takeTops_23 ?_
      refine lv_iload_n hx hb dX6_takeTops_26 rfl (lv_at hl 2 rfl) ?_
      obtain ⟨g1, hf⟩ := gd_s hf
      refine bk_iald (wf := cw) (q0 := 14) (n := 9) (j := x2.toNatClampNeg) C hP rfl g1 rfl dX6_takeTops_27 ?_
      refine lv_aload_n hx hb dX6_takeTops_28 rfl (lv_at hl 1 rfl) ?_
      refine lv_iload_n hx hb dX6_takeTops_29 rfl (lv_at hl 2 rfl) ?_
      obtain ⟨g2, hf⟩ := gd_s hf
      refine bk_iald (wf := cw) (q0 := 26) (n := 9) (j := x2.toNatClampNeg) C hP rfl g2 rfl dX6_takeTops_30 ?_
      refine lv_iadd hx hb dX6_takeTops_31 ?_
      obtain ⟨g3, hf⟩ := gd_s hf
      obtain ⟨σ4, eσ4, hf⟩ := bd_s hf
      refine bk_iast (wf := cw) (σ1 := σ4) (q0 := 48) (n := 9) (j := x2.toNatClampNeg) C hP hD hS rfl g3 rfl (by rw [eσ4]; exact cw_a48 g _ _ _) dX6_takeTops_32 (fun H locs hP hD hS => ?_)
      obtain ⟨v5, ev5, hf⟩ := bd_s hf
      refine lv_iinc (v := v5) (lv' := [(2, .int v5), (0, .ref (g.2.2 47)), (1, .ref (g.2.2 26))]) hx hb dX6_takeTops_33 hl (k := 2) rfl (by rw [ev5]; rfl) (by decide) rfl (fun ls hl => ?_)
      refine lv_goto (tgt := 2) hx hb dX6_takeTops_36 (by decide) ?_
      cases hf
      exact k0 rfl H locs ls hP hD hS (lv_sub hl [1, 2, 0] rfl)
theorem lp_X6_takeTops_47_26_h2 {N : Nat} {n : Nat} {x2 : Int32} {σ : Sg} {z : Nat × Int32 × Sg} (C : Cx p s m args meth c cX6_takeTops 3 none RX6 g A X) (hz : it (fun q => s_X6_takeTops_47_26_h2 N q.1 q.2) n (x2, σ) = some z) (k : Bk cw p l e rm_X6_takeTops_47_26 s m args below meth c 3 g A Q 0 0 39 [] [] z.2.2) : Bk cw p l e rm_X6_takeTops_47_26 s m args below meth c 3 g A Q 0 0 2 [(0, .ref (g.2.2 47)), (1, .ref (g.2.2 26)), (2, .int x2)] [] σ :=
  it_W (S := Int32 × Sg) (fun q => Bk cw p l e rm_X6_takeTops_47_26 s m args below meth c 3 g A Q 0 0 2 [(0, .ref (g.2.2 47)), (1, .ref (g.2.2 26)), (2, .int q.1)] [] q.2) (fun z => Bk cw p l e rm_X6_takeTops_47_26 s m args below meth c 3 g A Q 0 0 39 [] [] z.2.2) (fun q z hq k0 k => e_X6_takeTops_47_26_h2 C hq k0 k) n (x2, σ) z hz k
def f_X6_takeTops_47_26 (N : Nat) (σ : Sg) : Option (Sg) :=
(it (fun q => s_X6_takeTops_47_26_h2 N q.1 q.2) N ((0 : Int32), σ)).bind fun z6 =>
some (z6.2.2)
set_option maxHeartbeats 4000000 in
set_option maxRecDepth 100000 in
theorem b_X6_takeTops_47_26 {N : Nat} {σ : Sg} {z : Sg} (C : Cx p s m args meth c cX6_takeTops 3 none RX6 g A X) (hf : f_X6_takeTops_47_26 N σ = some z) : Bk cw p l e rm_X6_takeTops_47_26 s m args below meth c 3 g A (MQ below (qV cw g A z) args s 0 0 A) 0 0 0 [(0, .ref (g.2.2 47)), (1, .ref (g.2.2 26))] [] σ := by
  obtain ⟨hx, hb, hr, hml, hown, hts, hK, hlocks, hXX, hA, hXo⟩ := id C
  intro H locs ls hP hD hS hl
  unfold f_X6_takeTops_47_26 at hf
  refine lv_iconst (v := (0 : Int32)) hx hb dX6_takeTops_0 (by decide) ?_
  refine lv_istore_n (lv' := [(2, .int (0 : Int32)), (0, .ref (g.2.2 47)), (1, .ref (g.2.2 26))]) hx hb dX6_takeTops_1 rfl hl (by decide) rfl (fun ls hl => ?_)
  obtain ⟨z6, hz6, hf⟩ := bi_s hf
  refine lp_X6_takeTops_47_26_h2 C hz6 ?_ H locs ls hP hD hS (lv_sub hl [1, 2, 0] rfl)
  intro H locs ls hP hD hS hl
  cases hf
  exact bk_vret C hP hD hS rfl dX6_takeTops_39
theorem c_X6_takeTops_47_26 {N : Nat} {σ : Sg} {z : Sg} (hX : xOK g X) (hf : f_X6_takeTops_47_26 N σ = some z) : MetV l yX6_takeTops (Cond.code yX6_takeTops cX6_takeTops 3 none :: wsA) rm_X6_takeTops_47_26 cw g X [.ref (g.2.2 47), .ref (g.2.2 26)] σ z :=
  MetV_of hX (by decide) (Nat.le_of_ble_eq_true rfl) (fun p e s m args below meth c A C => b_X6_takeTops_47_26 C hf)
-- X6_build_47_26: build([I)V
abbrev rm_X6_build_47_26 : Room := { frames := 4, cells := 0, slots := 0, locals := 92 }
theorem nd_X6_build : yX6_build.cls ≠ "java/lang/invoke/MethodHandle" ∧ yX6_build.cls ≠ "java/lang/invoke/VarHandle" ∧ (parseMethodDescriptor yX6_build.desc).map (fun d => d.parameters.length) = some 1 := by decide +kernel
def f_X6_build_47_26_b64 (N : Nat) (x2 : Int32) (x3 : Int32) (σ : Sg) : Option (Nat × Int32 × Sg) :=
bd (x3 + (1 : Int32)) fun v1 =>
some (0, v1, σ)
set_option maxHeartbeats 4000000 in
set_option maxRecDepth 100000 in
theorem b_X6_build_47_26_b64 {N : Nat} {x2 : Int32} {x3 : Int32} {σ : Sg} {z : Nat × Int32 × Sg} (C : Cx p s m args meth c cX6_build 4 none RX6 g A X) (hf : f_X6_build_47_26_b64 N x2 x3 σ = some z) (k0 : z.1 = 0 → Bk cw p l e rm_X6_build_47_26 s m args below meth c 4 g A Q 0 0 44 [(0, .ref (g.2.2 47)), (2, .int x2), (3, .int z.2.1)] [] z.2.2) (k : ¬ z.1 = 0 → Bk cw p l e rm_X6_build_47_26 s m args below meth c 4 g A Q 0 0 70 [(0, .ref (g.2.2 47)), (2, .int x2)] [] z.2.2) : Bk cw p l e rm_X6_build_47_26 s m args below meth c 4 g A Q 0 0 64 [(0, .ref (g.2.2 47)), (2, .int x2), (3, .int x3)] [] σ := by
  obtain ⟨hx, hb, hr, hml, hown, hts, hK, hlocks, hXX, hA, hXo⟩ := id C
  intro H locs ls hP hD hS hl
  unfold f_X6_build_47_26_b64 at hf
  obtain ⟨v1, ev1, hf⟩ := bd_s hf
  refine lv_iinc (v := v1) (lv' := [(3, .int v1), (0, .ref (g.2.2 47)), (2, .int x2)]) hx hb dX6_build_64 hl (k := 2) rfl (by rw [ev1]; rfl) (by decide) rfl (fun ls hl => ?_)
  refine lv_goto (tgt := 44) hx hb dX6_build_67 (by decide) ?_
  cases hf
  exact k0 rfl H locs ls hP hD hS (lv_sub hl [1, 2, 0] rfl)
def s_X6_build_47_26_h44 (N : Nat) (x2 : Int32) (x3 : Int32) (σ : Sg) : Option (Nat × Int32 × Sg) :=
if x2 ≤ x3 then (some (1, 0, σ))
else ((f_X6_inTheWay_47 N x2 x3 σ).bind fun q2 =>
if q2.1 = 0 then ((f_X6_mark_47 N x2 x3 (q2.2)).bind fun q3 =>
f_X6_build_47_26_b64 N x2 x3 q3)
else (f_X6_build_47_26_b64 N x2 x3 (q2.2)))
set_option maxHeartbeats 4000000 in
set_option maxRecDepth 100000 in
theorem e_X6_build_47_26_h44 {N : Nat} {x2 : Int32} {x3 : Int32} {σ : Sg} {z : Nat × Int32 × Sg} (C : Cx p s m args meth c cX6_build 4 none RX6 g A X) (hf : s_X6_build_47_26_h44 N x2 x3 σ = some z) (k0 : z.1 = 0 → Bk cw p l e rm_X6_build_47_26 s m args below meth c 4 g A Q 0 0 44 [(0, .ref (g.2.2 47)), (2, .int x2), (3, .int z.2.1)] [] z.2.2) (k : ¬ z.1 = 0 → Bk cw p l e rm_X6_build_47_26 s m args below meth c 4 g A Q 0 0 70 [(0, .ref (g.2.2 47)), (2, .int x2)] [] z.2.2) : Bk cw p l e rm_X6_build_47_26 s m args below meth c 4 g A Q 0 0 44 [(0, .ref (g.2.2 47)), (2, .int x2), (3, .int x3)] [] σ := by
  obtain ⟨hx, hb, hr, hml, hown, hts, hK, hlocks, hXX, hA, hXo⟩ := id C
  intro H locs ls hP hD hS hl
  unfold s_X6_build_47_26_h44 at hf
  refine lv_iload_n hx hb dX6_build_44 rfl (lv_at hl 2 rfl) ?_
  refine lv_iload_n hx hb dX6_build_45 rfl (lv_at hl 1 rfl) ?_
  refine lv_icmp_ge (tgt := 70) hx hb dX6_build_46 (by decide) (fun t46 => ?_) (fun t46 => ?_)
  · have hf := (if_pos t46).symm.trans hf
    cases hf
    exact (k (show ¬ (1 : Nat) = 0 by decide)) H locs ls hP hD hS (lv_sub hl [0, 1] rfl)
  · have hf := (if_neg t46).symm.trans hf
    refine lv_aload_n hx hb dX6_build_49 rfl (lv_at hl 0 rfl) ?_
    refine lv_iload_n hx hb dX6_build_50 rfl (lv_at hl 1 rfl) ?_
    refine lv_iload_n hx hb dX6_build_51 rfl (lv_at hl 2 rfl) ?_
    obtain ⟨q2, hq2, hf⟩ := bi_s hf
    refine bk_VI (wf := cw) (q0 := 47) (ci := 6) (rest := []) [.int x2, .int x3] C hP hD hS hl.1 (c_X6_inTheWay_47 hXo hq2) (cwA_V 2 hts wa_482 wa_479 wa_480 wa_481 wa_32 rfl rfl nd_X6_inTheWay ⟨Nat.le_of_ble_eq_true rfl, Nat.le_of_ble_eq_true rfl⟩) rfl rfl rfl rfl (Nat.le_of_ble_eq_true rfl) dX6_build_52 ⟨Nat.le_of_ble_eq_true rfl, Nat.le_of_ble_eq_true rfl⟩ (fun H locs hP hD hS => ?_)
    refine lv_if_ne (tgt := 64) hx hb dX6_build_55 (by decide) (fun t55 => ?_) (fun t55 => ?_)
    · have hf := (if_neg t55).symm.trans hf
      exact b_X6_build_47_26_b64 C hf k0 k H locs ls hP hD hS (lv_sub hl [0, 1, 2] rfl)
    · have hf := (if_pos t55).symm.trans hf
      refine lv_aload_n hx hb dX6_build_58 rfl (lv_at hl 0 rfl) ?_
      refine lv_iload_n hx hb dX6_build_59 rfl (lv_at hl 1 rfl) ?_
      refine lv_iload_n hx hb dX6_build_60 rfl (lv_at hl 2 rfl) ?_
      obtain ⟨q3, hq3, hf⟩ := bi_s hf
      refine bk_VV (wf := cw) (q0 := 47) (ci := 6) (rest := []) [.int x2, .int x3] C hP hD hS hl.1 (c_X6_mark_47 hXo hq3) (cwA_V 2 hts wa_487 wa_484 wa_485 wa_486 wa_32 rfl rfl nd_X6_mark ⟨Nat.le_of_ble_eq_true rfl, Nat.le_of_ble_eq_true rfl⟩) rfl rfl rfl rfl (Nat.le_of_ble_eq_true rfl) dX6_build_61 ⟨Nat.le_of_ble_eq_true rfl, Nat.le_of_ble_eq_true rfl⟩ (fun H locs hP hD hS => ?_)
      exact b_X6_build_47_26_b64 C hf k0 k H locs ls hP hD hS (lv_sub hl [0, 1, 2] rfl)
theorem lp_X6_build_47_26_h44 {N : Nat} {n : Nat} {x2 : Int32} {x3 : Int32} {σ : Sg} {z : Nat × Int32 × Sg} (C : Cx p s m args meth c cX6_build 4 none RX6 g A X) (hz : it (fun q => s_X6_build_47_26_h44 N x2 q.1 q.2) n (x3, σ) = some z) (k : Bk cw p l e rm_X6_build_47_26 s m args below meth c 4 g A Q 0 0 70 [(0, .ref (g.2.2 47)), (2, .int x2)] [] z.2.2) : Bk cw p l e rm_X6_build_47_26 s m args below meth c 4 g A Q 0 0 44 [(0, .ref (g.2.2 47)), (2, .int x2), (3, .int x3)] [] σ :=
  it_W (S := Int32 × Sg) (fun q => Bk cw p l e rm_X6_build_47_26 s m args below meth c 4 g A Q 0 0 44 [(0, .ref (g.2.2 47)), (2, .int x2), (3, .int q.1)] [] q.2) (fun z => Bk cw p l e rm_X6_build_47_26 s m args below meth c 4 g A Q 0 0 70 [(0, .ref (g.2.2 47)), (2, .int x2)] [] z.2.2) (fun q z hq k0 k => e_X6_build_47_26_h44 C hq k0 k) n (x3, σ) z hz k
def s_X6_build_47_26_h31 (N : Nat) (x2 : Int32) (σ : Sg) : Option (Nat × Int32 × Sg) :=
if (σ 12 0) ≤ x2 then (some (1, 0, σ))
else ((it (fun q => s_X6_build_47_26_h44 N x2 q.1 q.2) N ((0 : Int32), σ)).bind fun z4 =>
bd (x2 + (1 : Int32)) fun v5 =>
some (0, v5, (z4.2.2)))
set_option maxHeartbeats 4000000 in
set_option maxRecDepth 100000 in
theorem e_X6_build_47_26_h31 {N : Nat} {x2 : Int32} {σ : Sg} {z : Nat × Int32 × Sg} (C : Cx p s m args meth c cX6_build 4 none RX6 g A X) (hf : s_X6_build_47_26_h31 N x2 σ = some z) (k0 : z.1 = 0 → Bk cw p l e rm_X6_build_47_26 s m args below meth c 4 g A Q 0 0 31 [(0, .ref (g.2.2 47)), (2, .int z.2.1)] [] z.2.2) (k : ¬ z.1 = 0 → Bk cw p l e rm_X6_build_47_26 s m args below meth c 4 g A Q 0 0 76 [] [] z.2.2) : Bk cw p l e rm_X6_build_47_26 s m args below meth c 4 g A Q 0 0 31 [(0, .ref (g.2.2 47)), (2, .int x2)] [] σ := by
  obtain ⟨hx, hb, hr, hml, hown, hts, hK, hlocks, hXX, hA, hXo⟩ := id C
  intro H locs ls hP hD hS hl
  unfold s_X6_build_47_26_h31 at hf
  refine lv_iload_n hx hb dX6_build_31 rfl (lv_at hl 1 rfl) ?_
  refine lv_aload_n hx hb dX6_build_32 rfl (lv_at hl 0 rfl) ?_
  refine bk_get (wf := cw) (q0 := 47) (ci := 6) (k := 1) (v := .ref (g.2.2 12)) C hP wl_X6 rfl rfl (by decide) wa_132 rfl rfl dX6_build_33 ?_
  refine bk_get (wf := cw) (q0 := 12) (ci := 8) (k := 0) (v := .int (σ 12 0)) C hP wl_X9 rfl rfl (by decide) wa_473 rfl rfl dX6_build_36 ?_
  refine lv_icmp_ge (tgt := 76) hx hb dX6_build_39 (by decide) (fun t39 => ?_) (fun t39 => ?_)
  · have hf := (if_pos t39).symm.trans hf
    cases hf
    exact (k (show ¬ (1 : Nat) = 0 by decide)) H locs ls hP hD hS (lv_sub hl [] rfl)
  · have hf := (if_neg t39).symm.trans hf
    refine lv_iconst (v := (0 : Int32)) hx hb dX6_build_42 (by decide) ?_
    refine lv_istore_n (lv' := [(3, .int (0 : Int32)), (0, .ref (g.2.2 47)), (2, .int x2)]) hx hb dX6_build_43 rfl hl (by decide) rfl (fun ls hl => ?_)
    obtain ⟨z4, hz4, hf⟩ := bi_s hf
    refine lp_X6_build_47_26_h44 C hz4 ?_ H locs ls hP hD hS (lv_sub hl [1, 2, 0] rfl)
    intro H locs ls hP hD hS hl
    obtain ⟨v5, ev5, hf⟩ := bd_s hf
    refine lv_iinc (v := v5) (lv' := [(2, .int v5), (0, .ref (g.2.2 47))]) hx hb dX6_build_70 hl (k := 1) rfl (by rw [ev5]; rfl) (by decide) rfl (fun ls hl => ?_)
    refine lv_goto (tgt := 31) hx hb dX6_build_73 (by decide) ?_
    cases hf
    exact k0 rfl H locs ls hP hD hS (lv_sub hl [1, 0] rfl)
theorem lp_X6_build_47_26_h31 {N : Nat} {n : Nat} {x2 : Int32} {σ : Sg} {z : Nat × Int32 × Sg} (C : Cx p s m args meth c cX6_build 4 none RX6 g A X) (hz : it (fun q => s_X6_build_47_26_h31 N q.1 q.2) n (x2, σ) = some z) (k : Bk cw p l e rm_X6_build_47_26 s m args below meth c 4 g A Q 0 0 76 [] [] z.2.2) : Bk cw p l e rm_X6_build_47_26 s m args below meth c 4 g A Q 0 0 31 [(0, .ref (g.2.2 47)), (2, .int x2)] [] σ :=
  it_W (S := Int32 × Sg) (fun q => Bk cw p l e rm_X6_build_47_26 s m args below meth c 4 g A Q 0 0 31 [(0, .ref (g.2.2 47)), (2, .int q.1)] [] q.2) (fun z => Bk cw p l e rm_X6_build_47_26 s m args below meth c 4 g A Q 0 0 76 [] [] z.2.2) (fun q z hq k0 k => e_X6_build_47_26_h31 C hq k0 k) n (x2, σ) z hz k
def s_X6_build_47_26_h7 (N : Nat) (x2 : Int32) (σ : Sg) : Option (Nat × Int32 × Sg) :=
if (90 : Int32) ≤ x2 then (some (1, 0, σ))
else (if (x2 < 0 ∨ 90 ≤ x2.toNatClampNeg) then none else
bd (wr σ 49 (x2.toNatClampNeg) (0 : Int32)) fun σ7 =>
bd (x2 + (1 : Int32)) fun v8 =>
some (0, v8, σ7))
set_option maxHeartbeats 4000000 in
set_option maxRecDepth 100000 in
theorem e_X6_build_47_26_h7 {N : Nat} {x2 : Int32} {σ : Sg} {z : Nat × Int32 × Sg} (C : Cx p s m args meth c cX6_build 4 none RX6 g A X) (hf : s_X6_build_47_26_h7 N x2 σ = some z) (k0 : z.1 = 0 → Bk cw p l e rm_X6_build_47_26 s m args below meth c 4 g A Q 0 0 7 [(0, .ref (g.2.2 47)), (2, .int z.2.1)] [] z.2.2) (k : ¬ z.1 = 0 → Bk cw p l e rm_X6_build_47_26 s m args below meth c 4 g A Q 0 0 29 [(0, .ref (g.2.2 47))] [] z.2.2) : Bk cw p l e rm_X6_build_47_26 s m args below meth c 4 g A Q 0 0 7 [(0, .ref (g.2.2 47)), (2, .int x2)] [] σ := by
  obtain ⟨hx, hb, hr, hml, hown, hts, hK, hlocks, hXX, hA, hXo⟩ := id C
  intro H locs ls hP hD hS hl
  unfold s_X6_build_47_26_h7 at hf
  refine lv_iload_n hx hb dX6_build_7 rfl (lv_at hl 1 rfl) ?_
  refine lv_aload_n hx hb dX6_build_8 rfl (lv_at hl 0 rfl) ?_
  refine bk_get (wf := cw) (q0 := 47) (ci := 6) (k := 2) (v := .ref (g.2.2 49)) C hP wl_X6 rfl rfl (by decide) wa_131 rfl rfl dX6_build_9 ?_
  refine bk_alen (wf := cw) (q0 := 49) (t0 := 0) (v := (90 : Int32)) C hP rfl rfl (show Int32.ofNat 90 = (90 : Int32) by decide) dX6_build_12 ?_
  refine lv_icmp_ge (tgt := 29) hx hb dX6_build_13 (by decide) (fun t13 => ?_) (fun t13 => ?_)
  · have hf := (if_pos t13).symm.trans hf
    cases hf
    exact (k (show ¬ (1 : Nat) = 0 by decide)) H locs ls hP hD hS (lv_sub hl [0] rfl)
  · have hf := (if_neg t13).symm.trans hf
    refine lv_aload_n hx hb dX6_build_16 rfl (lv_at hl 0 rfl) ?_
    refine bk_get (wf := cw) (q0 := 47) (ci := 6) (k := 2) (v := .ref (g.2.2 49)) C hP wl_X6 rfl rfl (by decide) wa_131 rfl rfl dX6_build_17 ?_
    refine lv_iload_n hx hb dX6_build_20 rfl (lv_at hl 1 rfl) ?_
    refine lv_iconst (v := (0 : Int32)) hx hb dX6_build_21 (by decide) ?_
    obtain ⟨g6, hf⟩ := gd_s hf
    obtain ⟨σ7, eσ7, hf⟩ := bd_s hf
    refine bk_iast (wf := cw) (σ1 := σ7) (q0 := 49) (n := 90) (j := x2.toNatClampNeg) C hP hD hS rfl g6 rfl (by rw [eσ7]; exact cw_a49 g _ _ _) dX6_build_22 (fun H locs hP hD hS => ?_)
    obtain ⟨v8, ev8, hf⟩ := bd_s hf
    refine lv_iinc (v := v8) (lv' := [(2, .int v8), (0, .ref (g.2.2 47))]) hx hb dX6_build_23 hl (k := 1) rfl (by rw [ev8]; rfl) (by decide) rfl (fun ls hl => ?_)
    refine lv_goto (tgt := 7) hx hb dX6_build_26 (by decide) ?_
    cases hf
    exact k0 rfl H locs ls hP hD hS (lv_sub hl [1, 0] rfl)
theorem lp_X6_build_47_26_h7 {N : Nat} {n : Nat} {x2 : Int32} {σ : Sg} {z : Nat × Int32 × Sg} (C : Cx p s m args meth c cX6_build 4 none RX6 g A X) (hz : it (fun q => s_X6_build_47_26_h7 N q.1 q.2) n (x2, σ) = some z) (k : Bk cw p l e rm_X6_build_47_26 s m args below meth c 4 g A Q 0 0 29 [(0, .ref (g.2.2 47))] [] z.2.2) : Bk cw p l e rm_X6_build_47_26 s m args below meth c 4 g A Q 0 0 7 [(0, .ref (g.2.2 47)), (2, .int x2)] [] σ :=
  it_W (S := Int32 × Sg) (fun q => Bk cw p l e rm_X6_build_47_26 s m args below meth c 4 g A Q 0 0 7 [(0, .ref (g.2.2 47)), (2, .int q.1)] [] q.2) (fun z => Bk cw p l e rm_X6_build_47_26 s m args below meth c 4 g A Q 0 0 29 [(0, .ref (g.2.2 47))] [] z.2.2) (fun q z hq k0 k => e_X6_build_47_26_h7 C hq k0 k) n (x2, σ) z hz k
def f_X6_build_47_26 (N : Nat) (σ : Sg) : Option (Sg) :=
(f_X6_takeTops_47_26 N σ).bind fun q9 =>
(it (fun q => s_X6_build_47_26_h7 N q.1 q.2) N ((0 : Int32), q9)).bind fun z10 =>
(it (fun q => s_X6_build_47_26_h31 N q.1 q.2) N ((0 : Int32), (z10.2.2))).bind fun z11 =>
some (z11.2.2)
set_option maxHeartbeats 4000000 in
set_option maxRecDepth 100000 in
theorem b_X6_build_47_26 {N : Nat} {σ : Sg} {z : Sg} (C : Cx p s m args meth c cX6_build 4 none RX6 g A X) (hf : f_X6_build_47_26 N σ = some z) : Bk cw p l e rm_X6_build_47_26 s m args below meth c 4 g A (MQ below (qV cw g A z) args s 0 0 A) 0 0 0 [(0, .ref (g.2.2 47)), (1, .ref (g.2.2 26))] [] σ := by
  obtain ⟨hx, hb, hr, hml, hown, hts, hK, hlocks, hXX, hA, hXo⟩ := id C
  intro H locs ls hP hD hS hl
  unfold f_X6_build_47_26 at hf
  refine lv_aload_n hx hb dX6_build_0 rfl (lv_at hl 0 rfl) ?_
  refine lv_aload_n hx hb dX6_build_1 rfl (lv_at hl 1 rfl) ?_
  obtain ⟨q9, hq9, hf⟩ := bi_s hf
  refine bk_VV (wf := cw) (q0 := 47) (ci := 6) (rest := []) [.ref (g.2.2 26)] C hP hD hS hl.1 (c_X6_takeTops_47_26 hXo hq9) (cwA_V 1 hts wa_477 wa_474 wa_475 wa_476 wa_32 rfl rfl nd_X6_takeTops ⟨Nat.le_of_ble_eq_true rfl, Nat.le_of_ble_eq_true rfl⟩) rfl rfl rfl rfl (Nat.le_of_ble_eq_true rfl) dX6_build_2 ⟨Nat.le_of_ble_eq_true rfl, Nat.le_of_ble_eq_true rfl⟩ (fun H locs hP hD hS => ?_)
  refine lv_iconst (v := (0 : Int32)) hx hb dX6_build_5 (by decide) ?_
  refine lv_istore_n (lv' := [(2, .int (0 : Int32)), (0, .ref (g.2.2 47)), (1, .ref (g.2.2 26))]) hx hb dX6_build_6 rfl hl (by decide) rfl (fun ls hl => ?_)
  obtain ⟨z10, hz10, hf⟩ := bi_s hf
  refine lp_X6_build_47_26_h7 C hz10 ?_ H locs ls hP hD hS (lv_sub hl [1, 0] rfl)
  intro H locs ls hP hD hS hl
  refine lv_iconst (v := (0 : Int32)) hx hb dX6_build_29 (by decide) ?_
  refine lv_istore_n (lv' := [(2, .int (0 : Int32)), (0, .ref (g.2.2 47))]) hx hb dX6_build_30 rfl hl (by decide) rfl (fun ls hl => ?_)
  obtain ⟨z11, hz11, hf⟩ := bi_s hf
  refine lp_X6_build_47_26_h31 C hz11 ?_ H locs ls hP hD hS (lv_sub hl [1, 0] rfl)
  intro H locs ls hP hD hS hl
  cases hf
  exact bk_vret C hP hD hS rfl dX6_build_76
theorem c_X6_build_47_26 {N : Nat} {σ : Sg} {z : Sg} (hX : xOK g X) (hf : f_X6_build_47_26 N σ = some z) : MetV l yX6_build (Cond.code yX6_build cX6_build 4 none :: wsA) rm_X6_build_47_26 cw g X [.ref (g.2.2 47), .ref (g.2.2 26)] σ z :=
  MetV_of hX (by decide) (Nat.le_of_ble_eq_true rfl) (fun p e s m args below meth c A C => b_X6_build_47_26 C hf)
-- X11_upland_0: upland(I)I
abbrev rm_X11_upland_0 : Room := { frames := 178, cells := 1, slots := 6, locals := 3595 }
theorem nd_X11_upland : yX11_upland.cls ≠ "java/lang/invoke/MethodHandle" ∧ yX11_upland.cls ≠ "java/lang/invoke/VarHandle" ∧ (parseMethodDescriptor yX11_upland.desc).map (fun d => d.parameters.length) = some 1 := by decide +kernel
def f_X11_upland_0_b12 (N : Nat) (σ : Sg) : Option (Zt) :=
some (2, 0, σ)
set_option maxHeartbeats 4000000 in
set_option maxRecDepth 100000 in
theorem b_X11_upland_0_b12 {N : Nat} {σ : Sg} {z : Zt} (C : Cx p s m args meth c cX11_upland 2 (some .int) RX11 g A X) (hex : ∀ x ∈ c.exceptionTable.toList, False) (hst : l.stackTraces = false) (hf : f_X11_upland_0_b12 N σ = some z) : Bk cw p l e rm_X11_upland_0 s m args below meth c 2 g A (vx_MQ below (qTi cw g A z) (xT cw g A z) args s 1 6 A) 0 0 12 [] [] σ := by
  obtain ⟨hx, hb, hr, hml, hown, hts, hK, hlocks, hXX, hA, hXo⟩ := id C
  intro H locs ls hP hD hS hl
  unfold f_X11_upland_0_b12 at hf
  exact bk_thI (text := "the tape has not so many bytes") C hex hst hP hD hS hl.1 (by decide) dX11_upland_12 dX11_upland_15 dX11_upland_16 dX11_upland_18 dX11_upland_21 (Nat.le_of_ble_eq_true rfl) (Nat.le_of_ble_eq_true rfl) (Nat.le_of_ble_eq_true rfl) (Nat.le_of_ble_eq_true rfl) hf (Nat.le_of_ble_eq_true rfl) (Nat.le_of_ble_eq_true rfl)
def f_X11_upland_0 (N : Nat) (x1 : Int32) (σ : Sg) : Option (Zt) :=
if x1 < 0 then (f_X11_upland_0_b12 N σ)
else (if x1 ≤ (σ 0 1) then (bd (wr σ 0 1 (0 : Int32)) fun σ1 =>
(f_X3_reads_2 N x1 σ1).bind fun q2 =>
if q2.1 = 0 then (bd (wr (q2.2) 33 0 (((q2.2) 33 0) + (1 : Int32))) fun σ9 =>
some (0, (σ9 2 1), σ9))
else ((f_X9_copy_12_3 N (q2.2)).bind fun q3 =>
(f_X7_settle_22_12 N q3).bind fun q4 =>
(f_X0_clear_27 N q4).bind fun q5 =>
(f_X5_clear_29 N q5).bind fun q6 =>
bd (wr q6 0 6 (0 : Int32)) fun σ7 =>
(f_X6_build_47_26 N σ7).bind fun q8 =>
some (0, (0 : Int32), q8)))
else (f_X11_upland_0_b12 N σ))
set_option maxHeartbeats 4000000 in
set_option maxRecDepth 100000 in
theorem b_X11_upland_0 {N : Nat} {x1 : Int32} {σ : Sg} {z : Zt} (C : Cx p s m args meth c cX11_upland 2 (some .int) RX11 g A X) (hex : ∀ x ∈ c.exceptionTable.toList, False) (hst : l.stackTraces = false) (hf : f_X11_upland_0 N x1 σ = some z) : Bk cw p l e rm_X11_upland_0 s m args below meth c 2 g A (vx_MQ below (qTi cw g A z) (xT cw g A z) args s 1 6 A) 0 0 0 [(0, .ref (g.2.2 0)), (1, .int x1)] [] σ := by
  obtain ⟨hx, hb, hr, hml, hown, hts, hK, hlocks, hXX, hA, hXo⟩ := id C
  intro H locs ls hP hD hS hl
  unfold f_X11_upland_0 at hf
  refine lv_iload_n hx hb dX11_upland_0 rfl (lv_at hl 1 rfl) ?_
  refine lv_if_lt (tgt := 12) hx hb dX11_upland_1 (by decide) (fun t1 => ?_) (fun t1 => ?_)
  · have hf := (if_pos t1).symm.trans hf
    exact b_X11_upland_0_b12 C hex hst hf H locs ls hP hD hS (lv_sub hl [] rfl)
  · have hf := (if_neg t1).symm.trans hf
    refine lv_iload_n hx hb dX11_upland_4 rfl (lv_at hl 1 rfl) ?_
    refine lv_aload_n hx hb dX11_upland_5 rfl (lv_at hl 0 rfl) ?_
    refine bk_get (wf := cw) (q0 := 0) (ci := 10) (k := 1) (v := .int (σ 0 1)) C hP wl_X11 rfl rfl (by decide) wa_15 rfl rfl dX11_upland_6 ?_
    refine lv_icmp_le (tgt := 22) hx hb dX11_upland_9 (by decide) (fun t9 => ?_) (fun t9 => ?_)
    · have hf := (if_pos t9).symm.trans hf
      refine lv_aload_n hx hb dX11_upland_22 rfl (lv_at hl 0 rfl) ?_
      refine lv_iconst (v := (0 : Int32)) hx hb dX11_upland_23 (by decide) ?_
      obtain ⟨σ1, eσ1, hf⟩ := bd_s hf
      refine bk_put (wf := cw) (σ1 := σ1) (q0 := 0) (ci := 10) (k := 1) (v := .int (0 : Int32)) C hP hD hS wl_X11 tyX11_ok nmX11 rfl rfl (by decide) wa_15 rfl rfl rfl rfl rfl (Nat.le_of_ble_eq_true rfl) (by rw [eσ1]; exact cw_p0_1 g _ _) dX11_upland_24 (fun H locs hP hD hS => ?_)
      refine lv_aload_n hx hb dX11_upland_27 rfl (lv_at hl 0 rfl) ?_
      refine bk_get (wf := cw) (q0 := 0) (ci := 10) (k := 2) (v := .ref (g.2.2 2)) C hP wl_X11 rfl rfl (by decide) wa_19 rfl rfl dX11_upland_28 ?_
      refine lv_iload_n hx hb dX11_upland_31 rfl (lv_at hl 1 rfl) ?_
      obtain ⟨q2, hq2, hf⟩ := bi_s hf
      refine bk_VI (wf := cw) (q0 := 2) (ci := 3) (rest := []) [.int x1] C hP hD hS hl.1 (c_X3_reads_2 hXo hq2) (cwA_V 1 hts wa_228 wa_225 wa_226 wa_227 wa_18 rfl rfl nd_X3_reads ⟨Nat.le_of_ble_eq_true rfl, Nat.le_of_ble_eq_true rfl⟩) rfl rfl rfl rfl (Nat.le_of_ble_eq_true rfl) dX11_upland_32 ⟨Nat.le_of_ble_eq_true rfl, Nat.le_of_ble_eq_true rfl⟩ (fun H locs hP hD hS => ?_)
      refine lv_if_ne (tgt := 59) hx hb dX11_upland_35 (by decide) (fun t35 => ?_) (fun t35 => ?_)
      · have hf := (if_neg t35).symm.trans hf
        refine lv_aload_n hx hb dX11_upland_59 rfl (lv_at hl 0 rfl) ?_
        refine bk_get (wf := cw) (q0 := 0) (ci := 10) (k := 3) (v := .ref (g.2.2 12)) C hP wl_X11 rfl rfl (by decide) wa_23 rfl rfl dX11_upland_60 ?_
        refine lv_aload_n hx hb dX11_upland_63 rfl (lv_at hl 0 rfl) ?_
        refine bk_get (wf := cw) (q0 := 0) (ci := 10) (k := 2) (v := .ref (g.2.2 2)) C hP wl_X11 rfl rfl (by decide) wa_19 rfl rfl dX11_upland_64 ?_
        refine bk_get (wf := cw) (q0 := 2) (ci := 3) (k := 0) (v := .ref (g.2.2 3)) C hP wl_X3 rfl rfl (by decide) wa_220 rfl rfl dX11_upland_67 ?_
        obtain ⟨q3, hq3, hf⟩ := bi_s hf
        refine bk_VV (wf := cw) (q0 := 12) (ci := 8) (rest := []) [.ref (g.2.2 3)] C hP hD hS hl.1 (c_X9_copy_12_3 hXo hq3) (cwA_V 1 hts wa_439 wa_436 wa_437 wa_438 wa_22 rfl rfl nd_X9_copy ⟨Nat.le_of_ble_eq_true rfl, Nat.le_of_ble_eq_true rfl⟩) rfl rfl rfl rfl (Nat.le_of_ble_eq_true rfl) dX11_upland_70 ⟨Nat.le_of_ble_eq_true rfl, Nat.le_of_ble_eq_true rfl⟩ (fun H locs hP hD hS => ?_)
        refine lv_aload_n hx hb dX11_upland_73 rfl (lv_at hl 0 rfl) ?_
        refine bk_get (wf := cw) (q0 := 0) (ci := 10) (k := 4) (v := .ref (g.2.2 21)) C hP wl_X11 rfl rfl (by decide) wa_27 rfl rfl dX11_upland_74 ?_
        refine bk_get (wf := cw) (q0 := 21) (ci := 1) (k := 0) (v := .ref (g.2.2 22)) C hP wl_X1 rfl rfl (by decide) wa_221 rfl rfl dX11_upland_77 ?_
        refine lv_aload_n hx hb dX11_upland_80 rfl (lv_at hl 0 rfl) ?_
        refine bk_get (wf := cw) (q0 := 0) (ci := 10) (k := 3) (v := .ref (g.2.2 12)) C hP wl_X11 rfl rfl (by decide) wa_23 rfl rfl dX11_upland_81 ?_
        obtain ⟨q4, hq4, hf⟩ := bi_s hf
        refine bk_VV (wf := cw) (q0 := 22) (ci := 7) (rest := []) [.ref (g.2.2 12)] C hP hD hS hl.1 (c_X7_settle_22_12 hXo hq4) (cwA_V 1 hts wa_455 wa_452 wa_453 wa_454 wa_93 rfl rfl nd_X7_settle ⟨Nat.le_of_ble_eq_true rfl, Nat.le_of_ble_eq_true rfl⟩) rfl rfl rfl rfl (Nat.le_of_ble_eq_true rfl) dX11_upland_84 ⟨Nat.le_of_ble_eq_true rfl, Nat.le_of_ble_eq_true rfl⟩ (fun H locs hP hD hS => ?_)
        refine lv_aload_n hx hb dX11_upland_87 rfl (lv_at hl 0 rfl) ?_
        refine bk_get (wf := cw) (q0 := 0) (ci := 10) (k := 4) (v := .ref (g.2.2 21)) C hP wl_X11 rfl rfl (by decide) wa_27 rfl rfl dX11_upland_88 ?_
        refine bk_get (wf := cw) (q0 := 21) (ci := 1) (k := 1) (v := .ref (g.2.2 27)) C hP wl_X1 rfl rfl (by decide) wa_222 rfl rfl dX11_upland_91 ?_
        obtain ⟨q5, hq5, hf⟩ := bi_s hf
        refine bk_VV (wf := cw) (q0 := 27) (ci := 0) (rest := []) [] C hP hD hS hl.1 (c_X0_clear_27 hXo hq5) (cwA_V 0 hts wa_464 wa_461 wa_462 wa_463 wa_97 rfl rfl nd_X0_clear ⟨Nat.le_of_ble_eq_true rfl, Nat.le_of_ble_eq_true rfl⟩) rfl rfl rfl rfl (Nat.le_of_ble_eq_true rfl) dX11_upland_94 ⟨Nat.le_of_ble_eq_true rfl, Nat.le_of_ble_eq_true rfl⟩ (fun H locs hP hD hS => ?_)
        refine lv_aload_n hx hb dX11_upland_97 rfl (lv_at hl 0 rfl) ?_
        refine bk_get (wf := cw) (q0 := 0) (ci := 10) (k := 4) (v := .ref (g.2.2 21)) C hP wl_X11 rfl rfl (by decide) wa_27 rfl rfl dX11_upland_98 ?_
        refine bk_get (wf := cw) (q0 := 21) (ci := 1) (k := 2) (v := .ref (g.2.2 29)) C hP wl_X1 rfl rfl (by decide) wa_223 rfl rfl dX11_upland_101 ?_
        obtain ⟨q6, hq6, hf⟩ := bi_s hf
        refine bk_VV (wf := cw) (q0 := 29) (ci := 5) (rest := []) [] C hP hD hS hl.1 (c_X5_clear_29 hXo hq6) (cwA_V 0 hts wa_468 wa_465 wa_466 wa_467 wa_101 rfl rfl nd_X5_clear ⟨Nat.le_of_ble_eq_true rfl, Nat.le_of_ble_eq_true rfl⟩) rfl rfl rfl rfl (Nat.le_of_ble_eq_true rfl) dX11_upland_104 ⟨Nat.le_of_ble_eq_true rfl, Nat.le_of_ble_eq_true rfl⟩ (fun H locs hP hD hS => ?_)
        refine lv_aload_n hx hb dX11_upland_107 rfl (lv_at hl 0 rfl) ?_
        refine lv_iconst (v := (0 : Int32)) hx hb dX11_upland_108 (by decide) ?_
        obtain ⟨σ7, eσ7, hf⟩ := bd_s hf
        refine bk_put (wf := cw) (σ1 := σ7) (q0 := 0) (ci := 10) (k := 6) (v := .int (0 : Int32)) C hP hD hS wl_X11 tyX11_ok nmX11 rfl rfl (by decide) wa_29 rfl rfl rfl rfl rfl (Nat.le_of_ble_eq_true rfl) (by rw [eσ7]; exact cw_p0_6 g _ _) dX11_upland_109 (fun H locs hP hD hS => ?_)
        refine lv_aload_n hx hb dX11_upland_112 rfl (lv_at hl 0 rfl) ?_
        refine bk_get (wf := cw) (q0 := 0) (ci := 10) (k := 7) (v := .ref (g.2.2 47)) C hP wl_X11 rfl rfl (by decide) wa_33 rfl rfl dX11_upland_113 ?_
        refine lv_aload_n hx hb dX11_upland_116 rfl (lv_at hl 0 rfl) ?_
        refine bk_get (wf := cw) (q0 := 0) (ci := 10) (k := 4) (v := .ref (g.2.2 21)) C hP wl_X11 rfl rfl (by decide) wa_27 rfl rfl dX11_upland_117 ?_
        refine bk_get (wf := cw) (q0 := 21) (ci := 1) (k := 0) (v := .ref (g.2.2 22)) C hP wl_X1 rfl rfl (by decide) wa_221 rfl rfl dX11_upland_120 ?_
        refine bk_get (wf := cw) (q0 := 22) (ci := 7) (k := 5) (v := .ref (g.2.2 26)) C hP wl_X7 rfl rfl (by decide) wa_224 rfl rfl dX11_upland_123 ?_
        obtain ⟨q8, hq8, hf⟩ := bi_s hf
        refine bk_VV (wf := cw) (q0 := 47) (ci := 6) (rest := []) [.ref (g.2.2 26)] C hP hD hS hl.1 (c_X6_build_47_26 hXo hq8) (cwA_V 1 hts wa_472 wa_469 wa_470 wa_471 wa_32 rfl rfl nd_X6_build ⟨Nat.le_of_ble_eq_true rfl, Nat.le_of_ble_eq_true rfl⟩) rfl rfl rfl rfl (Nat.le_of_ble_eq_true rfl) dX11_upland_126 ⟨Nat.le_of_ble_eq_true rfl, Nat.le_of_ble_eq_true rfl⟩ (fun H locs hP hD hS => ?_)
        refine lv_iconst (v := (0 : Int32)) hx hb dX11_upland_129 (by decide) ?_
        exact bk_iretT C hP hD hS hf (Nat.le_of_ble_eq_true rfl) (Nat.le_of_ble_eq_true rfl) dX11_upland_130
      · have hf := (if_pos t35).symm.trans hf
        refine lv_aload_n hx hb dX11_upland_38 rfl (lv_at hl 0 rfl) ?_
        refine bk_get (wf := cw) (q0 := 0) (ci := 10) (k := 4) (v := .ref (g.2.2 21)) C hP wl_X11 rfl rfl (by decide) wa_27 rfl rfl dX11_upland_39 ?_
        refine bk_get (wf := cw) (q0 := 21) (ci := 1) (k := 3) (v := .ref (g.2.2 33)) C hP wl_X1 rfl rfl (by decide) wa_218 rfl rfl dX11_upland_42 ?_
        refine lv_iconst (v := (0 : Int32)) hx hb dX11_upland_45 (by decide) ?_
        refine lv_dup2_11 hx hb dX11_upland_46 rfl rfl ?_
        refine bk_iald (wf := cw) (q0 := 33) (n := 3) (j := 0) C hP rfl (vin_l (by decide) (by decide)) (by decide) dX11_upland_47 ?_
        refine lv_iconst (v := (1 : Int32)) hx hb dX11_upland_48 (by decide) ?_
        refine lv_iadd hx hb dX11_upland_49 ?_
        obtain ⟨σ9, eσ9, hf⟩ := bd_s hf
        refine bk_iast (wf := cw) (σ1 := σ9) (q0 := 33) (n := 3) (j := 0) C hP hD hS rfl (vin_l (by decide) (by decide)) (by decide) (by rw [eσ9]; exact cw_a33 g _ _ _) dX11_upland_50 (fun H locs hP hD hS => ?_)
        refine lv_aload_n hx hb dX11_upland_51 rfl (lv_at hl 0 rfl) ?_
        refine bk_get (wf := cw) (q0 := 0) (ci := 10) (k := 2) (v := .ref (g.2.2 2)) C hP wl_X11 rfl rfl (by decide) wa_19 rfl rfl dX11_upland_52 ?_
        refine bk_get (wf := cw) (q0 := 2) (ci := 3) (k := 1) (v := .int (σ9 2 1)) C hP wl_X3 rfl rfl (by decide) wa_219 rfl rfl dX11_upland_55 ?_
        exact bk_iretT C hP hD hS hf (Nat.le_of_ble_eq_true rfl) (Nat.le_of_ble_eq_true rfl) dX11_upland_58
    · have hf := (if_neg t9).symm.trans hf
      exact b_X11_upland_0_b12 C hex hst hf H locs ls hP hD hS (lv_sub hl [] rfl)
theorem c_X11_upland_0 {N : Nat} {x1 : Int32} {σ : Sg} {z : Zt} (hX : xOK g X) (hst : l.stackTraces = false) (hf : f_X11_upland_0 N x1 σ = some z) : MetTi l yX11_upland (Cond.code yX11_upland cX11_upland 2 (some .int) :: wsA) rm_X11_upland_0 1 6 cw g X [.ref (g.2.2 0), .int x1] σ z :=
  MetTi_of hX (by decide) (Nat.le_of_ble_eq_true rfl) (fun p e s m args below meth c A C hex => b_X11_upland_0 C hex hst hf)
-- X11_fault_0: fault()I
abbrev rm_X11_fault_0 : Room := { frames := 0, cells := 0, slots := 0, locals := 0 }
theorem nd_X11_fault : yX11_fault.cls ≠ "java/lang/invoke/MethodHandle" ∧ yX11_fault.cls ≠ "java/lang/invoke/VarHandle" ∧ (parseMethodDescriptor yX11_fault.desc).map (fun d => d.parameters.length) = some 0 := by decide +kernel
def f_X11_fault_0 (N : Nat) (σ : Sg) : Option (Int32 × Sg) :=
some ((σ 2 2), σ)
set_option maxHeartbeats 4000000 in
set_option maxRecDepth 100000 in
theorem b_X11_fault_0 {N : Nat} {σ : Sg} {z : Int32 × Sg} (C : Cx p s m args meth c cX11_fault 1 (some .int) RX11 g A X) (hf : f_X11_fault_0 N σ = some z) : Bk cw p l e rm_X11_fault_0 s m args below meth c 1 g A (MQ below (qI cw g A z.1 z.2) args s 0 0 A) 0 0 0 [(0, .ref (g.2.2 0))] [] σ := by
  obtain ⟨hx, hb, hr, hml, hown, hts, hK, hlocks, hXX, hA, hXo⟩ := id C
  intro H locs ls hP hD hS hl
  unfold f_X11_fault_0 at hf
  refine lv_aload_n hx hb dX11_fault_0 rfl (lv_at hl 0 rfl) ?_
  refine bk_get (wf := cw) (q0 := 0) (ci := 10) (k := 2) (v := .ref (g.2.2 2)) C hP wl_X11 rfl rfl (by decide) wa_19 rfl rfl dX11_fault_1 ?_
  refine bk_get (wf := cw) (q0 := 2) (ci := 3) (k := 2) (v := .int (σ 2 2)) C hP wl_X3 rfl rfl (by decide) wa_629 rfl rfl dX11_fault_4 ?_
  cases hf
  exact bk_iret C hP hD hS rfl dX11_fault_7
theorem c_X11_fault_0 {N : Nat} {σ : Sg} {z : Int32 × Sg} (hX : xOK g X) (hf : f_X11_fault_0 N σ = some z) : MetI l yX11_fault (Cond.code yX11_fault cX11_fault 1 (some .int) :: wsA) rm_X11_fault_0 cw g X [.ref (g.2.2 0)] σ z.1 z.2 :=
  MetI_of hX (by decide) (Nat.le_of_ble_eq_true rfl) (fun p e s m args below meth c A C => b_X11_fault_0 C hf)
-- X9_mistOf_12: mistOf(I)I
abbrev rm_X9_mistOf_12 : Room := { frames := 0, cells := 0, slots := 0, locals := 0 }
theorem nd_X9_mistOf : yX9_mistOf.cls ≠ "java/lang/invoke/MethodHandle" ∧ yX9_mistOf.cls ≠ "java/lang/invoke/VarHandle" ∧ (parseMethodDescriptor yX9_mistOf.desc).map (fun d => d.parameters.length) = some 1 := by decide +kernel
def f_X9_mistOf_12_b21 (N : Nat) (σ : Sg) : Option (Int32 × Sg) :=
some ((0 : Int32), σ)
set_option maxHeartbeats 4000000 in
set_option maxRecDepth 100000 in
theorem b_X9_mistOf_12_b21 {N : Nat} {σ : Sg} {z : Int32 × Sg} (C : Cx p s m args meth c cX9_mistOf 2 (some .int) RX9 g A X) (hf : f_X9_mistOf_12_b21 N σ = some z) : Bk cw p l e rm_X9_mistOf_12 s m args below meth c 2 g A (MQ below (qI cw g A z.1 z.2) args s 0 0 A) 0 0 21 [] [] σ := by
  obtain ⟨hx, hb, hr, hml, hown, hts, hK, hlocks, hXX, hA, hXo⟩ := id C
  intro H locs ls hP hD hS hl
  unfold f_X9_mistOf_12_b21 at hf
  refine lv_iconst (v := (0 : Int32)) hx hb dX9_mistOf_21 (by decide) ?_
  cases hf
  exact bk_iret C hP hD hS rfl dX9_mistOf_22
def f_X9_mistOf_12 (N : Nat) (x1 : Int32) (σ : Sg) : Option (Int32 × Sg) :=
if (σ 12 8) < (1 : Int32) then (f_X9_mistOf_12_b21 N σ)
else (if (8 : Int32) < (σ 12 8) then (f_X9_mistOf_12_b21 N σ)
else (if 0 ≤ x1 then (if (σ 12 8) = 0 then none else
if ((x1 - x1 / (σ 12 8) * (σ 12 8)) < 0 ∨ 8 ≤ (x1 - x1 / (σ 12 8) * (σ 12 8)).toNatClampNeg) then none else
some ((σ 17 (x1 - x1 / (σ 12 8) * (σ 12 8)).toNatClampNeg), σ))
else (f_X9_mistOf_12_b21 N σ)))
set_option maxHeartbeats 4000000 in
set_option maxRecDepth 100000 in
theorem b_X9_mistOf_12 {N : Nat} {x1 : Int32} {σ : Sg} {z : Int32 × Sg} (C : Cx p s m args meth c cX9_mistOf 2 (some .int) RX9 g A X) (hf : f_X9_mistOf_12 N x1 σ = some z) : Bk cw p l e rm_X9_mistOf_12 s m args below meth c 2 g A (MQ below (qI cw g A z.1 z.2) args s 0 0 A) 0 0 0 [(0, .ref (g.2.2 12)), (1, .int x1)] [] σ := by
  obtain ⟨hx, hb, hr, hml, hown, hts, hK, hlocks, hXX, hA, hXo⟩ := id C
  intro H locs ls hP hD hS hl
  unfold f_X9_mistOf_12 at hf
  refine lv_aload_n hx hb dX9_mistOf_0 rfl (lv_at hl 0 rfl) ?_
  refine bk_get (wf := cw) (q0 := 12) (ci := 8) (k := 8) (v := .int (σ 12 8)) C hP wl_X9 rfl rfl (by decide) wa_76 rfl rfl dX9_mistOf_1 ?_
  refine lv_iconst (v := (1 : Int32)) hx hb dX9_mistOf_4 (by decide) ?_
  refine lv_icmp_lt (tgt := 21) hx hb dX9_mistOf_5 (by decide) (fun t5 => ?_) (fun t5 => ?_)
  · have hf := (if_pos t5).symm.trans hf
    exact b_X9_mistOf_12_b21 C hf H locs ls hP hD hS (lv_sub hl [] rfl)
  · have hf := (if_neg t5).symm.trans hf
    refine lv_aload_n hx hb dX9_mistOf_8 rfl (lv_at hl 0 rfl) ?_
    refine bk_get (wf := cw) (q0 := 12) (ci := 8) (k := 8) (v := .int (σ 12 8)) C hP wl_X9 rfl rfl (by decide) wa_76 rfl rfl dX9_mistOf_9 ?_
    refine lv_bipush (v := (8 : Int32)) hx hb dX9_mistOf_12 (by decide) ?_
    refine lv_icmp_gt (tgt := 21) hx hb dX9_mistOf_14 (by decide) (fun t14 => ?_) (fun t14 => ?_)
    · have hf := (if_pos t14).symm.trans hf
      exact b_X9_mistOf_12_b21 C hf H locs ls hP hD hS (lv_sub hl [] rfl)
    · have hf := (if_neg t14).symm.trans hf
      refine lv_iload_n hx hb dX9_mistOf_17 rfl (lv_at hl 1 rfl) ?_
      refine lv_if_ge (tgt := 23) hx hb dX9_mistOf_18 (by decide) (fun t18 => ?_) (fun t18 => ?_)
      · have hf := (if_pos t18).symm.trans hf
        refine lv_aload_n hx hb dX9_mistOf_23 rfl (lv_at hl 0 rfl) ?_
        refine bk_get (wf := cw) (q0 := 12) (ci := 8) (k := 9) (v := .ref (g.2.2 17)) C hP wl_X9 rfl rfl (by decide) wa_77 rfl rfl dX9_mistOf_24 ?_
        refine lv_iload_n hx hb dX9_mistOf_27 rfl (lv_at hl 1 rfl) ?_
        refine lv_aload_n hx hb dX9_mistOf_28 rfl (lv_at hl 0 rfl) ?_
        refine bk_get (wf := cw) (q0 := 12) (ci := 8) (k := 8) (v := .int (σ 12 8)) C hP wl_X9 rfl rfl (by decide) wa_76 rfl rfl dX9_mistOf_29 ?_
        obtain ⟨g1, hf⟩ := gd_s hf
        refine lv_irem hx hb dX9_mistOf_32 g1 ?_
        obtain ⟨g2, hf⟩ := gd_s hf
        refine bk_iald (wf := cw) (q0 := 17) (n := 8) (j := (x1 - x1 / (σ 12 8) * (σ 12 8)).toNatClampNeg) C hP rfl g2 rfl dX9_mistOf_33 ?_
        cases hf
        exact bk_iret C hP hD hS rfl dX9_mistOf_34
      · have hf := (if_neg t18).symm.trans hf
        exact b_X9_mistOf_12_b21 C hf H locs ls hP hD hS (lv_sub hl [] rfl)
theorem c_X9_mistOf_12 {N : Nat} {x1 : Int32} {σ : Sg} {z : Int32 × Sg} (hX : xOK g X) (hf : f_X9_mistOf_12 N x1 σ = some z) : MetI l yX9_mistOf (Cond.code yX9_mistOf cX9_mistOf 2 (some .int) :: wsA) rm_X9_mistOf_12 cw g X [.ref (g.2.2 12), .int x1] σ z.1 z.2 :=
  MetI_of hX (by decide) (Nat.le_of_ble_eq_true rfl) (fun p e s m args below meth c A C => b_X9_mistOf_12 C hf)
-- X11_mistNow_0: mistNow()I
abbrev rm_X11_mistNow_0 : Room := { frames := 1, cells := 0, slots := 0, locals := 21 }
theorem nd_X11_mistNow : yX11_mistNow.cls ≠ "java/lang/invoke/MethodHandle" ∧ yX11_mistNow.cls ≠ "java/lang/invoke/VarHandle" ∧ (parseMethodDescriptor yX11_mistNow.desc).map (fun d => d.parameters.length) = some 0 := by decide +kernel
def f_X11_mistNow_0 (N : Nat) (σ : Sg) : Option (Int32 × Sg) :=
(f_X9_mistOf_12 N (σ 22 0) σ).bind fun q1 =>
some (q1.1, (q1.2))
set_option maxHeartbeats 4000000 in
set_option maxRecDepth 100000 in
theorem b_X11_mistNow_0 {N : Nat} {σ : Sg} {z : Int32 × Sg} (C : Cx p s m args meth c cX11_mistNow 1 (some .int) RX11 g A X) (hf : f_X11_mistNow_0 N σ = some z) : Bk cw p l e rm_X11_mistNow_0 s m args below meth c 1 g A (MQ below (qI cw g A z.1 z.2) args s 0 0 A) 0 0 0 [(0, .ref (g.2.2 0))] [] σ := by
  obtain ⟨hx, hb, hr, hml, hown, hts, hK, hlocks, hXX, hA, hXo⟩ := id C
  intro H locs ls hP hD hS hl
  unfold f_X11_mistNow_0 at hf
  refine lv_aload_n hx hb dX11_mistNow_0 rfl (lv_at hl 0 rfl) ?_
  refine bk_get (wf := cw) (q0 := 0) (ci := 10) (k := 3) (v := .ref (g.2.2 12)) C hP wl_X11 rfl rfl (by decide) wa_23 rfl rfl dX11_mistNow_1 ?_
  refine lv_aload_n hx hb dX11_mistNow_4 rfl (lv_at hl 0 rfl) ?_
  refine bk_get (wf := cw) (q0 := 0) (ci := 10) (k := 4) (v := .ref (g.2.2 21)) C hP wl_X11 rfl rfl (by decide) wa_27 rfl rfl dX11_mistNow_5 ?_
  refine bk_get (wf := cw) (q0 := 21) (ci := 1) (k := 0) (v := .ref (g.2.2 22)) C hP wl_X1 rfl rfl (by decide) wa_221 rfl rfl dX11_mistNow_8 ?_
  refine bk_get (wf := cw) (q0 := 22) (ci := 7) (k := 0) (v := .int (σ 22 0)) C hP wl_X7 rfl rfl (by decide) wa_645 rfl rfl dX11_mistNow_11 ?_
  obtain ⟨q1, hq1, hf⟩ := bi_s hf
  refine bk_VI (wf := cw) (q0 := 12) (ci := 8) (rest := []) [.int (σ 22 0)] C hP hD hS hl.1 (c_X9_mistOf_12 hXo hq1) (cwA_V 1 hts wa_658 wa_655 wa_656 wa_657 wa_22 rfl rfl nd_X9_mistOf ⟨Nat.le_of_ble_eq_true rfl, Nat.le_of_ble_eq_true rfl⟩) rfl rfl rfl rfl (Nat.le_of_ble_eq_true rfl) dX11_mistNow_14 ⟨Nat.le_of_ble_eq_true rfl, Nat.le_of_ble_eq_true rfl⟩ (fun H locs hP hD hS => ?_)
  cases hf
  exact bk_iret C hP hD hS rfl dX11_mistNow_17
theorem c_X11_mistNow_0 {N : Nat} {σ : Sg} {z : Int32 × Sg} (hX : xOK g X) (hf : f_X11_mistNow_0 N σ = some z) : MetI l yX11_mistNow (Cond.code yX11_mistNow cX11_mistNow 1 (some .int) :: wsA) rm_X11_mistNow_0 cw g X [.ref (g.2.2 0)] σ z.1 z.2 :=
  MetI_of hX (by decide) (Nat.le_of_ble_eq_true rfl) (fun p e s m args below meth c A C => b_X11_mistNow_0 C hf)
-- X7_whoWaits_22: whoWaits()I
abbrev rm_X7_whoWaits_22 : Room := { frames := 0, cells := 0, slots := 0, locals := 0 }
theorem nd_X7_whoWaits : yX7_whoWaits.cls ≠ "java/lang/invoke/MethodHandle" ∧ yX7_whoWaits.cls ≠ "java/lang/invoke/VarHandle" ∧ (parseMethodDescriptor yX7_whoWaits.desc).map (fun d => d.parameters.length) = some 0 := by decide +kernel
def f_X7_whoWaits_22_b25 (N : Nat) (x1 : Int32) (x2 : Int32) (σ : Sg) : Option (Nat × Int32 × Int32 × Sg) :=
bd (x2 + (1 : Int32)) fun v1 =>
some (0, x1, v1, σ)
set_option maxHeartbeats 4000000 in
set_option maxRecDepth 100000 in
theorem b_X7_whoWaits_22_b25 {N : Nat} {x1 : Int32} {x2 : Int32} {σ : Sg} {z : Nat × Int32 × Int32 × Sg} (C : Cx p s m args meth c cX7_whoWaits 3 (some .int) RX7 g A X) (hf : f_X7_whoWaits_22_b25 N x1 x2 σ = some z) (k0 : z.1 = 0 → Bk cw p l e rm_X7_whoWaits_22 s m args below meth c 3 g A Q 0 0 4 [(0, .ref (g.2.2 22)), (1, .int z.2.1), (2, .int z.2.2.1)] [] z.2.2.2) (k : ¬ z.1 = 0 → Bk cw p l e rm_X7_whoWaits_22 s m args below meth c 3 g A Q 0 0 31 [(1, .int z.2.1)] [] z.2.2.2) : Bk cw p l e rm_X7_whoWaits_22 s m args below meth c 3 g A Q 0 0 25 [(0, .ref (g.2.2 22)), (1, .int x1), (2, .int x2)] [] σ := by
  obtain ⟨hx, hb, hr, hml, hown, hts, hK, hlocks, hXX, hA, hXo⟩ := id C
  intro H locs ls hP hD hS hl
  unfold f_X7_whoWaits_22_b25 at hf
  obtain ⟨v1, ev1, hf⟩ := bd_s hf
  refine lv_iinc (v := v1) (lv' := [(2, .int v1), (0, .ref (g.2.2 22)), (1, .int x1)]) hx hb dX7_whoWaits_25 hl (k := 2) rfl (by rw [ev1]; rfl) (by decide) rfl (fun ls hl => ?_)
  refine lv_goto (tgt := 4) hx hb dX7_whoWaits_28 (by decide) ?_
  cases hf
  exact k0 rfl H locs ls hP hD hS (lv_sub hl [1, 2, 0] rfl)
def s_X7_whoWaits_22_h4 (N : Nat) (x1 : Int32) (x2 : Int32) (σ : Sg) : Option (Nat × Int32 × Int32 × Sg) :=
if (9 : Int32) ≤ x2 then (some (1, x1, 0, σ))
else (if (x2 < 0 ∨ 9 ≤ x2.toNatClampNeg) then none else
if (σ 23 x2.toNatClampNeg) ≤ 0 then (f_X7_whoWaits_22_b25 N x1 x2 σ)
else (bd (x1 ||| ((1 : Int32) <<< (x2 &&& 31))) fun v3 =>
f_X7_whoWaits_22_b25 N v3 x2 σ))
set_option maxHeartbeats 4000000 in
set_option maxRecDepth 100000 in
theorem e_X7_whoWaits_22_h4 {N : Nat} {x1 : Int32} {x2 : Int32} {σ : Sg} {z : Nat × Int32 × Int32 × Sg} (C : Cx p s m args meth c cX7_whoWaits 3 (some .int) RX7 g A X) (hf : s_X7_whoWaits_22_h4 N x1 x2 σ = some z) (k0 : z.1 = 0 → Bk cw p l e rm_X7_whoWaits_22 s m args below meth c 3 g A Q 0 0 4 [(0, .ref (g.2.2 22)), (1, .int z.2.1), (2, .int z.2.2.1)] [] z.2.2.2) (k : ¬ z.1 = 0 → Bk cw p l e rm_X7_whoWaits_22 s m args below meth c 3 g A Q 0 0 31 [(1, .int z.2.1)] [] z.2.2.2) : Bk cw p l e rm_X7_whoWaits_22 s m args below meth c 3 g A Q 0 0 4 [(0, .ref (g.2.2 22)), (1, .int x1), (2, .int x2)] [] σ := by
  obtain ⟨hx, hb, hr, hml, hown, hts, hK, hlocks, hXX, hA, hXo⟩ := id C
  intro H locs ls hP hD hS hl
  unfold s_X7_whoWaits_22_h4 at hf
  refine lv_iload_n hx hb dX7_whoWaits_4 rfl (lv_at hl 2 rfl) ?_
  refine lv_bipush (v := (9 : Int32)) hx hb dX7_whoWaits_5 (by decide) ?_
  refine lv_icmp_ge (tgt := 31) hx hb dX7_whoWaits_7 (by decide) (fun t7 => ?_) (fun t7 => ?_)
  · have hf := (if_pos t7).symm.trans hf
    cases hf
    exact (k (show ¬ (1 : Nat) = 0 by decide)) H locs ls hP hD hS (lv_sub hl [1] rfl)
  · have hf := (if_neg t7).symm.trans hf
    refine lv_aload_n hx hb dX7_whoWaits_10 rfl (lv_at hl 0 rfl) ?_
    refine bk_get (wf := cw) (q0 := 22) (ci := 7) (k := 2) (v := .ref (g.2.2 23)) C hP wl_X7 rfl rfl (by decide) wa_109 rfl rfl dX7_whoWaits_11 ?_
    refine lv_iload_n hx hb dX7_whoWaits_14 rfl (lv_at hl 2 rfl) ?_
    obtain ⟨g2, hf⟩ := gd_s hf
    refine bk_iald (wf := cw) (q0 := 23) (n := 9) (j := x2.toNatClampNeg) C hP rfl g2 rfl dX7_whoWaits_15 ?_
    refine lv_if_le (tgt := 25) hx hb dX7_whoWaits_16 (by decide) (fun t16 => ?_) (fun t16 => ?_)
    · have hf := (if_pos t16).symm.trans hf
      exact b_X7_whoWaits_22_b25 C hf k0 k H locs ls hP hD hS (lv_sub hl [0, 1, 2] rfl)
    · have hf := (if_neg t16).symm.trans hf
      refine lv_iload_n hx hb dX7_whoWaits_19 rfl (lv_at hl 1 rfl) ?_
      refine lv_iconst (v := (1 : Int32)) hx hb dX7_whoWaits_20 (by decide) ?_
      refine lv_iload_n hx hb dX7_whoWaits_21 rfl (lv_at hl 2 rfl) ?_
      refine lv_ishl hx hb dX7_whoWaits_22 ?_
      refine lv_ior hx hb dX7_whoWaits_23 ?_
      obtain ⟨v3, ev3, hf⟩ := bd_s hf
      rw [← ev3]
      refine lv_istore_n (lv' := [(1, .int v3), (0, .ref (g.2.2 22)), (2, .int x2)]) hx hb dX7_whoWaits_24 rfl hl (by decide) rfl (fun ls hl => ?_)
      exact b_X7_whoWaits_22_b25 C hf k0 k H locs ls hP hD hS (lv_sub hl [1, 0, 2] rfl)
theorem lp_X7_whoWaits_22_h4 {N : Nat} {n : Nat} {x1 : Int32} {x2 : Int32} {σ : Sg} {z : Nat × Int32 × Int32 × Sg} (C : Cx p s m args meth c cX7_whoWaits 3 (some .int) RX7 g A X) (hz : it (fun q => s_X7_whoWaits_22_h4 N q.1 q.2.1 q.2.2) n (x1, x2, σ) = some z) (k : Bk cw p l e rm_X7_whoWaits_22 s m args below meth c 3 g A Q 0 0 31 [(1, .int z.2.1)] [] z.2.2.2) : Bk cw p l e rm_X7_whoWaits_22 s m args below meth c 3 g A Q 0 0 4 [(0, .ref (g.2.2 22)), (1, .int x1), (2, .int x2)] [] σ :=
  it_W (S := Int32 × Int32 × Sg) (fun q => Bk cw p l e rm_X7_whoWaits_22 s m args below meth c 3 g A Q 0 0 4 [(0, .ref (g.2.2 22)), (1, .int q.1), (2, .int q.2.1)] [] q.2.2) (fun z => Bk cw p l e rm_X7_whoWaits_22 s m args below meth c 3 g A Q 0 0 31 [(1, .int z.2.1)] [] z.2.2.2) (fun q z hq k0 k => e_X7_whoWaits_22_h4 C hq k0 k) n (x1, x2, σ) z hz k
def f_X7_whoWaits_22 (N : Nat) (σ : Sg) : Option (Int32 × Sg) :=
(it (fun q => s_X7_whoWaits_22_h4 N q.1 q.2.1 q.2.2) N ((0 : Int32), (0 : Int32), σ)).bind fun z4 =>
some ((z4.2.1), (z4.2.2.2))
set_option maxHeartbeats 4000000 in
set_option maxRecDepth 100000 in
theorem b_X7_whoWaits_22 {N : Nat} {σ : Sg} {z : Int32 × Sg} (C : Cx p s m args meth c cX7_whoWaits 3 (some .int) RX7 g A X) (hf : f_X7_whoWaits_22 N σ = some z) : Bk cw p l e rm_X7_whoWaits_22 s m args below meth c 3 g A (MQ below (qI cw g A z.1 z.2) args s 0 0 A) 0 0 0 [(0, .ref (g.2.2 22))] [] σ := by
  obtain ⟨hx, hb, hr, hml, hown, hts, hK, hlocks, hXX, hA, hXo⟩ := id C
  intro H locs ls hP hD hS hl
  unfold f_X7_whoWaits_22 at hf
  refine lv_iconst (v := (0 : Int32)) hx hb dX7_whoWaits_0 (by decide) ?_
  refine lv_istore_n (lv' := [(1, .int (0 : Int32)), (0, .ref (g.2.2 22))]) hx hb dX7_whoWaits_1 rfl hl (by decide) rfl (fun ls hl => ?_)
  refine lv_iconst (v := (0 : Int32)) hx hb dX7_whoWaits_2 (by decide) ?_
  refine lv_istore_n (lv' := [(2, .int (0 : Int32)), (1, .int (0 : Int32)), (0, .ref (g.2.2 22))]) hx hb dX7_whoWaits_3 rfl hl (by decide) rfl (fun ls hl => ?_)
  obtain ⟨z4, hz4, hf⟩ := bi_s hf
  refine lp_X7_whoWaits_22_h4 C hz4 ?_ H locs ls hP hD hS (lv_sub hl [2, 1, 0] rfl)
  intro H locs ls hP hD hS hl
  refine lv_iload_n hx hb dX7_whoWaits_31 rfl (lv_at hl 0 rfl) ?_
  cases hf
  exact bk_iret C hP hD hS rfl dX7_whoWaits_32
theorem c_X7_whoWaits_22 {N : Nat} {σ : Sg} {z : Int32 × Sg} (hX : xOK g X) (hf : f_X7_whoWaits_22 N σ = some z) : MetI l yX7_whoWaits (Cond.code yX7_whoWaits cX7_whoWaits 3 (some .int) :: wsA) rm_X7_whoWaits_22 cw g X [.ref (g.2.2 22)] σ z.1 z.2 :=
  MetI_of hX (by decide) (Nat.le_of_ble_eq_true rfl) (fun p e s m args below meth c A C => b_X7_whoWaits_22 C hf)
-- X6_of_47: of(II)I
abbrev rm_X6_of_47 : Room := { frames := 0, cells := 0, slots := 0, locals := 0 }
theorem nd_X6_of : yX6_of.cls ≠ "java/lang/invoke/MethodHandle" ∧ yX6_of.cls ≠ "java/lang/invoke/VarHandle" ∧ (parseMethodDescriptor yX6_of.desc).map (fun d => d.parameters.length) = some 2 := by decide +kernel
def f_X6_of_47_b29 (N : Nat) (σ : Sg) : Option (Int32 × Sg) :=
some ((0 : Int32), σ)
set_option maxHeartbeats 4000000 in
set_option maxRecDepth 100000 in
theorem b_X6_of_47_b29 {N : Nat} {σ : Sg} {z : Int32 × Sg} (C : Cx p s m args meth c cX6_of 4 (some .int) RX6 g A X) (hf : f_X6_of_47_b29 N σ = some z) : Bk cw p l e rm_X6_of_47 s m args below meth c 4 g A (MQ below (qI cw g A z.1 z.2) args s 0 0 A) 0 0 29 [] [] σ := by
  obtain ⟨hx, hb, hr, hml, hown, hts, hK, hlocks, hXX, hA, hXo⟩ := id C
  intro H locs ls hP hD hS hl
  unfold f_X6_of_47_b29 at hf
  refine lv_iconst (v := (0 : Int32)) hx hb dX6_of_29 (by decide) ?_
  cases hf
  exact bk_iret C hP hD hS rfl dX6_of_30
def f_X6_of_47 (N : Nat) (x1 : Int32) (x2 : Int32) (σ : Sg) : Option (Int32 × Sg) :=
bd ((x2 * (9 : Int32)) + x1) fun v1 =>
if v1 < 0 then (f_X6_of_47_b29 N σ)
else (if (90 : Int32) ≤ v1 then (f_X6_of_47_b29 N σ)
else (if (v1 < 0 ∨ 90 ≤ v1.toNatClampNeg) then none else
some ((σ 49 v1.toNatClampNeg), σ)))
set_option maxHeartbeats 4000000 in
set_option maxRecDepth 100000 in
theorem b_X6_of_47 {N : Nat} {x1 : Int32} {x2 : Int32} {σ : Sg} {z : Int32 × Sg} (C : Cx p s m args meth c cX6_of 4 (some .int) RX6 g A X) (hf : f_X6_of_47 N x1 x2 σ = some z) : Bk cw p l e rm_X6_of_47 s m args below meth c 4 g A (MQ below (qI cw g A z.1 z.2) args s 0 0 A) 0 0 0 [(0, .ref (g.2.2 47)), (1, .int x1), (2, .int x2)] [] σ := by
  obtain ⟨hx, hb, hr, hml, hown, hts, hK, hlocks, hXX, hA, hXo⟩ := id C
  intro H locs ls hP hD hS hl
  unfold f_X6_of_47 at hf
  refine lv_iload_n hx hb dX6_of_0 rfl (lv_at hl 2 rfl) ?_
  refine lv_bipush (v := (9 : Int32)) hx hb dX6_of_1 (by decide) ?_
  refine lv_imul hx hb dX6_of_3 ?_
  refine lv_iload_n hx hb dX6_of_4 rfl (lv_at hl 1 rfl) ?_
  refine lv_iadd hx hb dX6_of_5 ?_
  obtain ⟨v1, ev1, hf⟩ := bd_s hf
  rw [← ev1]
  refine lv_istore_n (lv' := [(3, .int v1), (0, .ref (g.2.2 47)), (1, .int x1), (2, .int x2)]) hx hb dX6_of_6 rfl hl (by decide) rfl (fun ls hl => ?_)
  refine lv_iload_n hx hb dX6_of_7 rfl (lv_at hl 0 rfl) ?_
  refine lv_if_lt (tgt := 29) hx hb dX6_of_8 (by decide) (fun t8 => ?_) (fun t8 => ?_)
  · have hf := (if_pos t8).symm.trans hf
    exact b_X6_of_47_b29 C hf H locs ls hP hD hS (lv_sub hl [] rfl)
  · have hf := (if_neg t8).symm.trans hf
    refine lv_iload_n hx hb dX6_of_11 rfl (lv_at hl 0 rfl) ?_
    refine lv_aload_n hx hb dX6_of_12 rfl (lv_at hl 1 rfl) ?_
    refine bk_get (wf := cw) (q0 := 47) (ci := 6) (k := 2) (v := .ref (g.2.2 49)) C hP wl_X6 rfl rfl (by decide) wa_131 rfl rfl dX6_of_13 ?_
    refine bk_alen (wf := cw) (q0 := 49) (t0 := 0) (v := (90 : Int32)) C hP rfl rfl (show Int32.ofNat 90 = (90 : Int32) by decide) dX6_of_16 ?_
    refine lv_icmp_ge (tgt := 29) hx hb dX6_of_17 (by decide) (fun t17 => ?_) (fun t17 => ?_)
    · have hf := (if_pos t17).symm.trans hf
      exact b_X6_of_47_b29 C hf H locs ls hP hD hS (lv_sub hl [] rfl)
    · have hf := (if_neg t17).symm.trans hf
      refine lv_aload_n hx hb dX6_of_20 rfl (lv_at hl 1 rfl) ?_
      refine bk_get (wf := cw) (q0 := 47) (ci := 6) (k := 2) (v := .ref (g.2.2 49)) C hP wl_X6 rfl rfl (by decide) wa_131 rfl rfl dX6_of_21 ?_
      refine lv_iload_n hx hb dX6_of_24 rfl (lv_at hl 0 rfl) ?_
      obtain ⟨g2, hf⟩ := gd_s hf
      refine bk_iald (wf := cw) (q0 := 49) (n := 90) (j := v1.toNatClampNeg) C hP rfl g2 rfl dX6_of_25 ?_
      refine lv_goto (tgt := 30) hx hb dX6_of_26 (by decide) ?_
      cases hf
      exact bk_iret C hP hD hS rfl dX6_of_30
theorem c_X6_of_47 {N : Nat} {x1 : Int32} {x2 : Int32} {σ : Sg} {z : Int32 × Sg} (hX : xOK g X) (hf : f_X6_of_47 N x1 x2 σ = some z) : MetI l yX6_of (Cond.code yX6_of cX6_of 4 (some .int) :: wsA) rm_X6_of_47 cw g X [.ref (g.2.2 47), .int x1, .int x2] σ z.1 z.2 :=
  MetI_of hX (by decide) (Nat.le_of_ble_eq_true rfl) (fun p e s m args below meth c A C => b_X6_of_47 C hf)
-- X10_take_53_47: take(LNodPost$Sight;I)V
abbrev rm_X10_take_53_47 : Room := { frames := 1, cells := 0, slots := 0, locals := 23 }
theorem nd_X10_take : yX10_take.cls ≠ "java/lang/invoke/MethodHandle" ∧ yX10_take.cls ≠ "java/lang/invoke/VarHandle" ∧ (parseMethodDescriptor yX10_take.desc).map (fun d => d.parameters.length) = some 2 := by decide +kernel
def s_X10_take_53_47_h2 (N : Nat) (x2 : Int32) (x3 : Int32) (σ : Sg) : Option (Nat × Int32 × Sg) :=
if (σ 12 0) ≤ x3 then (some (1, 0, σ))
else ((f_X6_of_47 N x3 x2 σ).bind fun q1 =>
if (x3 < 0 ∨ 9 ≤ x3.toNatClampNeg) then none else
bd (wr (q1.2) 54 (x3.toNatClampNeg) q1.1) fun σ3 =>
bd (x3 + (1 : Int32)) fun v4 =>
some (0, v4, σ3))
set_option maxHeartbeats 4000000 in
set_option maxRecDepth 100000 in
theorem e_X10_take_53_47_h2 {N : Nat} {x2 : Int32} {x3 : Int32} {σ : Sg} {z : Nat × Int32 × Sg} (C : Cx p s m args meth c cX10_take 4 none RX10 g A X) (hf : s_X10_take_53_47_h2 N x2 x3 σ = some z) (k0 : z.1 = 0 → Bk cw p l e rm_X10_take_53_47 s m args below meth c 4 g A Q 0 0 2 [(0, .ref (g.2.2 53)), (1, .ref (g.2.2 47)), (2, .int x2), (3, .int z.2.1)] [] z.2.2) (k : ¬ z.1 = 0 → Bk cw p l e rm_X10_take_53_47 s m args below meth c 4 g A Q 0 0 31 [] [] z.2.2) : Bk cw p l e rm_X10_take_53_47 s m args below meth c 4 g A Q 0 0 2 [(0, .ref (g.2.2 53)), (1, .ref (g.2.2 47)), (2, .int x2), (3, .int x3)] [] σ := by
  obtain ⟨hx, hb, hr, hml, hown, hts, hK, hlocks, hXX, hA, hXo⟩ := id C
  intro H locs ls hP hD hS hl
  unfold s_X10_take_53_47_h2 at hf
  refine lv_iload_n hx hb dX10_take_2 rfl (lv_at hl 3 rfl) ?_
  refine lv_aload_n hx hb dX10_take_3 rfl (lv_at hl 0 rfl) ?_
  refine bk_get (wf := cw) (q0 := 53) (ci := 9) (k := 0) (v := .ref (g.2.2 12)) C hP wl_X10 rfl rfl (by decide) wa_138 rfl rfl dX10_take_4 ?_
  refine bk_get (wf := cw) (q0 := 12) (ci := 8) (k := 0) (v := .int (σ 12 0)) C hP wl_X9 rfl rfl (by decide) wa_671 rfl rfl dX10_take_7 ?_
  refine lv_icmp_ge (tgt := 31) hx hb dX10_take_10 (by decide) (fun t10 => ?_) (fun t10 => ?_)
  · have hf := (if_pos t10).symm.trans hf
    cases hf
    exact (k (show ¬ (1 : Nat) = 0 by decide)) H locs ls hP hD hS (lv_sub hl [] rfl)
  · have hf := (if_neg t10).symm.trans hf
    refine lv_aload_n hx hb dX10_take_13 rfl (lv_at hl 0 rfl) ?_
    refine bk_get (wf := cw) (q0 := 53) (ci := 9) (k := 1) (v := .ref (g.2.2 54)) C hP wl_X10 rfl rfl (by decide) wa_137 rfl rfl dX10_take_14 ?_
    refine lv_iload_n hx hb dX10_take_17 rfl (lv_at hl 3 rfl) ?_
    refine lv_aload_n hx hb dX10_take_18 rfl (lv_at hl 1 rfl) ?_
    refine lv_iload_n hx hb dX10_take_19 rfl (lv_at hl 3 rfl) ?_
    refine lv_iload_n hx hb dX10_take_20 rfl (lv_at hl 2 rfl) ?_
    obtain ⟨q1, hq1, hf⟩ := bi_s hf
    refine bk_VI (wf := cw) (q0 := 47) (ci := 6) (rest := [.int x3, .ref (g.2.2 54)]) [.int x3, .int x2] C hP hD hS hl.1 (c_X6_of_47 hXo hq1) (cwA_V 2 hts wa_675 wa_672 wa_673 wa_674 wa_32 rfl rfl nd_X6_of ⟨Nat.le_of_ble_eq_true rfl, Nat.le_of_ble_eq_true rfl⟩) rfl rfl rfl rfl (Nat.le_of_ble_eq_true rfl) dX10_take_21 ⟨Nat.le_of_ble_eq_true rfl, Nat.le_of_ble_eq_true rfl⟩ (fun H locs hP hD hS => ?_)
    obtain ⟨g2, hf⟩ := gd_s hf
    obtain ⟨σ3, eσ3, hf⟩ := bd_s hf
    refine bk_iast (wf := cw) (σ1 := σ3) (q0 := 54) (n := 9) (j := x3.toNatClampNeg) C hP hD hS rfl g2 rfl (by rw [eσ3]; exact cw_a54 g _ _ _) dX10_take_24 (fun H locs hP hD hS => ?_)
    obtain ⟨v4, ev4, hf⟩ := bd_s hf
    refine lv_iinc (v := v4) (lv' := [(3, .int v4), (0, .ref (g.2.2 53)), (1, .ref (g.2.2 47)), (2, .int x2)]) hx hb dX10_take_25 hl (k := 3) rfl (by rw [ev4]; rfl) (by decide) rfl (fun ls hl => ?_)
    refine lv_goto (tgt := 2) hx hb dX10_take_28 (by decide) ?_
    cases hf
    exact k0 rfl H locs ls hP hD hS (lv_sub hl [1, 2, 3, 0] rfl)
theorem lp_X10_take_53_47_h2 {N : Nat} {n : Nat} {x2 : Int32} {x3 : Int32} {σ : Sg} {z : Nat × Int32 × Sg} (C : Cx p s m args meth c cX10_take 4 none RX10 g A X) (hz : it (fun q => s_X10_take_53_47_h2 N x2 q.1 q.2) n (x3, σ) = some z) (k : Bk cw p l e rm_X10_take_53_47 s m args below meth c 4 g A Q 0 0 31 [] [] z.2.2) : Bk cw p l e rm_X10_take_53_47 s m args below meth c 4 g A Q 0 0 2 [(0, .ref (g.2.2 53)), (1, .ref (g.2.2 47)), (2, .int x2), (3, .int x3)] [] σ :=
  it_W (S := Int32 × Sg) (fun q => Bk cw p l e rm_X10_take_53_47 s m args below meth c 4 g A Q 0 0 2 [(0, .ref (g.2.2 53)), (1, .ref (g.2.2 47)), (2, .int x2), (3, .int q.1)] [] q.2) (fun z => Bk cw p l e rm_X10_take_53_47 s m args below meth c 4 g A Q 0 0 31 [] [] z.2.2) (fun q z hq k0 k => e_X10_take_53_47_h2 C hq k0 k) n (x3, σ) z hz k
def f_X10_take_53_47 (N : Nat) (x2 : Int32) (σ : Sg) : Option (Sg) :=
(it (fun q => s_X10_take_53_47_h2 N x2 q.1 q.2) N ((0 : Int32), σ)).bind fun z5 =>
some (z5.2.2)
set_option maxHeartbeats 4000000 in
set_option maxRecDepth 100000 in
theorem b_X10_take_53_47 {N : Nat} {x2 : Int32} {σ : Sg} {z : Sg} (C : Cx p s m args meth c cX10_take 4 none RX10 g A X) (hf : f_X10_take_53_47 N x2 σ = some z) : Bk cw p l e rm_X10_take_53_47 s m args below meth c 4 g A (MQ below (qV cw g A z) args s 0 0 A) 0 0 0 [(0, .ref (g.2.2 53)), (1, .ref (g.2.2 47)), (2, .int x2)] [] σ := by
  obtain ⟨hx, hb, hr, hml, hown, hts, hK, hlocks, hXX, hA, hXo⟩ := id C
  intro H locs ls hP hD hS hl
  unfold f_X10_take_53_47 at hf
  refine lv_iconst (v := (0 : Int32)) hx hb dX10_take_0 (by decide) ?_
  refine lv_istore_n (lv' := [(3, .int (0 : Int32)), (0, .ref (g.2.2 53)), (1, .ref (g.2.2 47)), (2, .int x2)]) hx hb dX10_take_1 rfl hl (by decide) rfl (fun ls hl => ?_)
  obtain ⟨z5, hz5, hf⟩ := bi_s hf
  refine lp_X10_take_53_47_h2 C hz5 ?_ H locs ls hP hD hS (lv_sub hl [1, 2, 3, 0] rfl)
  intro H locs ls hP hD hS hl
  cases hf
  exact bk_vret C hP hD hS rfl dX10_take_31
theorem c_X10_take_53_47 {N : Nat} {x2 : Int32} {σ : Sg} {z : Sg} (hX : xOK g X) (hf : f_X10_take_53_47 N x2 σ = some z) : MetV l yX10_take (Cond.code yX10_take cX10_take 4 none :: wsA) rm_X10_take_53_47 cw g X [.ref (g.2.2 53), .ref (g.2.2 47), .int x2] σ z :=
  MetV_of hX (by decide) (Nat.le_of_ble_eq_true rfl) (fun p e s m args below meth c A C => b_X10_take_53_47 C hf)
-- X11_viewsNow_0: viewsNow()LNodPost$Views;
abbrev rm_X11_viewsNow_0 : Room := { frames := 2, cells := 0, slots := 0, locals := 46 }
theorem nd_X11_viewsNow : yX11_viewsNow.cls ≠ "java/lang/invoke/MethodHandle" ∧ yX11_viewsNow.cls ≠ "java/lang/invoke/VarHandle" ∧ (parseMethodDescriptor yX11_viewsNow.desc).map (fun d => d.parameters.length) = some 0 := by decide +kernel
def f_X11_viewsNow_0 (N : Nat) (σ : Sg) : Option (Sg) :=
(f_X11_mistNow_0 N σ).bind fun q1 =>
(f_X10_take_53_47 N q1.1 (q1.2)).bind fun q2 =>
some q2
set_option maxHeartbeats 4000000 in
set_option maxRecDepth 100000 in
theorem b_X11_viewsNow_0 {N : Nat} {σ : Sg} {z : Sg} (C : Cx p s m args meth c cX11_viewsNow 1 (some (.object "NodPost$Views")) RX11 g A X) (hf : f_X11_viewsNow_0 N σ = some z) : Bk cw p l e rm_X11_viewsNow_0 s m args below meth c 1 g A (MQ below (qR cw g A (g.2.2 53) z) args s 0 0 A) 0 0 0 [(0, .ref (g.2.2 0))] [] σ := by
  obtain ⟨hx, hb, hr, hml, hown, hts, hK, hlocks, hXX, hA, hXo⟩ := id C
  intro H locs ls hP hD hS hl
  unfold f_X11_viewsNow_0 at hf
  refine lv_aload_n hx hb dX11_viewsNow_0 rfl (lv_at hl 0 rfl) ?_
  refine bk_get (wf := cw) (q0 := 0) (ci := 10) (k := 9) (v := .ref (g.2.2 53)) C hP wl_X11 rfl rfl (by decide) wa_38 rfl rfl dX11_viewsNow_1 ?_
  refine lv_aload_n hx hb dX11_viewsNow_4 rfl (lv_at hl 0 rfl) ?_
  refine bk_get (wf := cw) (q0 := 0) (ci := 10) (k := 7) (v := .ref (g.2.2 47)) C hP wl_X11 rfl rfl (by decide) wa_33 rfl rfl dX11_viewsNow_5 ?_
  refine lv_aload_n hx hb dX11_viewsNow_8 rfl (lv_at hl 0 rfl) ?_
  obtain ⟨q1, hq1, hf⟩ := bi_s hf
  refine bk_VI (wf := cw) (q0 := 0) (ci := 10) (rest := [.ref (g.2.2 47), .ref (g.2.2 53)]) [] C hP hD hS hl.1 (c_X11_mistNow_0 hXo hq1) (cwA_V 0 hts wa_654 wa_651 wa_652 wa_653 wa_2 rfl rfl nd_X11_mistNow ⟨Nat.le_of_ble_eq_true rfl, Nat.le_of_ble_eq_true rfl⟩) rfl rfl rfl rfl (Nat.le_of_ble_eq_true rfl) dX11_viewsNow_9 ⟨Nat.le_of_ble_eq_true rfl, Nat.le_of_ble_eq_true rfl⟩ (fun H locs hP hD hS => ?_)
  obtain ⟨q2, hq2, hf⟩ := bi_s hf
  refine bk_VV (wf := cw) (q0 := 53) (ci := 9) (rest := []) [.ref (g.2.2 47), .int q1.1] C hP hD hS hl.1 (c_X10_take_53_47 hXo hq2) (cwA_V 2 hts wa_670 wa_667 wa_668 wa_669 wa_37 rfl rfl nd_X10_take ⟨Nat.le_of_ble_eq_true rfl, Nat.le_of_ble_eq_true rfl⟩) rfl rfl rfl rfl (Nat.le_of_ble_eq_true rfl) dX11_viewsNow_12 ⟨Nat.le_of_ble_eq_true rfl, Nat.le_of_ble_eq_true rfl⟩ (fun H locs hP hD hS => ?_)
  refine lv_aload_n hx hb dX11_viewsNow_15 rfl (lv_at hl 0 rfl) ?_
  refine bk_get (wf := cw) (q0 := 0) (ci := 10) (k := 9) (v := .ref (g.2.2 53)) C hP wl_X11 rfl rfl (by decide) wa_38 rfl rfl dX11_viewsNow_16 ?_
  cases hf
  exact bk_aret C hP hD hS rfl rfl dX11_viewsNow_19
theorem c_X11_viewsNow_0 {N : Nat} {σ : Sg} {z : Sg} (hX : xOK g X) (hf : f_X11_viewsNow_0 N σ = some z) : MetR l yX11_viewsNow (Cond.code yX11_viewsNow cX11_viewsNow 1 (some (.object "NodPost$Views")) :: wsA) rm_X11_viewsNow_0 cw g X [.ref (g.2.2 0)] σ (g.2.2 53) z :=
  MetR_of hX (by decide) (Nat.le_of_ble_eq_true rfl) (fun p e s m args below meth c A C => b_X11_viewsNow_0 C hf)
-- X10_withNext_53: withNext(I)I
abbrev rm_X10_withNext_53 : Room := { frames := 0, cells := 0, slots := 0, locals := 0 }
theorem nd_X10_withNext : yX10_withNext.cls ≠ "java/lang/invoke/MethodHandle" ∧ yX10_withNext.cls ≠ "java/lang/invoke/VarHandle" ∧ (parseMethodDescriptor yX10_withNext.desc).map (fun d => d.parameters.length) = some 1 := by decide +kernel
def f_X10_withNext_53_b33 (N : Nat) (x1 : Int32) (x2 : Int32) (x3 : Int32) (σ : Sg) : Option (Nat × Int32 × Int32 × Sg) :=
bd (x3 + (1 : Int32)) fun v1 =>
some (0, x2, v1, σ)
set_option maxHeartbeats 4000000 in
set_option maxRecDepth 100000 in
theorem b_X10_withNext_53_b33 {N : Nat} {x1 : Int32} {x2 : Int32} {x3 : Int32} {σ : Sg} {z : Nat × Int32 × Int32 × Sg} (C : Cx p s m args meth c cX10_withNext 4 (some .int) RX10 g A X) (hf : f_X10_withNext_53_b33 N x1 x2 x3 σ = some z) (k0 : z.1 = 0 → Bk cw p l e rm_X10_withNext_53 s m args below meth c 4 g A Q 0 0 4 [(0, .ref (g.2.2 53)), (1, .int x1), (2, .int z.2.1), (3, .int z.2.2.1)] [] z.2.2.2) (k : ¬ z.1 = 0 → Bk cw p l e rm_X10_withNext_53 s m args below meth c 4 g A Q 0 0 39 [(2, .int z.2.1)] [] z.2.2.2) : Bk cw p l e rm_X10_withNext_53 s m args below meth c 4 g A Q 0 0 33 [(0, .ref (g.2.2 53)), (1, .int x1), (2, .int x2), (3, .int x3)] [] σ := by
  obtain ⟨hx, hb, hr, hml, hown, hts, hK, hlocks, hXX, hA, hXo⟩ := id C
  intro H locs ls hP hD hS hl
  unfold f_X10_withNext_53_b33 at hf
  obtain ⟨v1, ev1, hf⟩ := bd_s hf
  refine lv_iinc (v := v1) (lv' := [(3, .int v1), (0, .ref (g.2.2 53)), (1, .int x1), (2, .int x2)]) hx hb dX10_withNext_33 hl (k := 3) rfl (by rw [ev1]; rfl) (by decide) rfl (fun ls hl => ?_)
  refine lv_goto (tgt := 4) hx hb dX10_withNext_36 (by decide) ?_
  cases hf
  exact k0 rfl H locs ls hP hD hS (lv_sub hl [1, 2, 3, 0] rfl)
def s_X10_withNext_53_h4 (N : Nat) (x1 : Int32) (x2 : Int32) (x3 : Int32) (σ : Sg) : Option (Nat × Int32 × Int32 × Sg) :=
if (σ 12 0) ≤ x3 then (some (1, x2, 0, σ))
else (if ((x1 >>> (x3 &&& 31)) &&& (1 : Int32)) = (1 : Int32) then (if (x3 < 0 ∨ 9 ≤ x3.toNatClampNeg) then none else
bd (x2 ||| (σ 54 x3.toNatClampNeg)) fun v3 =>
f_X10_withNext_53_b33 N x1 v3 x3 σ)
else (f_X10_withNext_53_b33 N x1 x2 x3 σ))
set_option maxHeartbeats 4000000 in
set_option maxRecDepth 100000 in
theorem e_X10_withNext_53_h4 {N : Nat} {x1 : Int32} {x2 : Int32} {x3 : Int32} {σ : Sg} {z : Nat × Int32 × Int32 × Sg} (C : Cx p s m args meth c cX10_withNext 4 (some .int) RX10 g A X) (hf : s_X10_withNext_53_h4 N x1 x2 x3 σ = some z) (k0 : z.1 = 0 → Bk cw p l e rm_X10_withNext_53 s m args below meth c 4 g A Q 0 0 4 [(0, .ref (g.2.2 53)), (1, .int x1), (2, .int z.2.1), (3, .int z.2.2.1)] [] z.2.2.2) (k : ¬ z.1 = 0 → Bk cw p l e rm_X10_withNext_53 s m args below meth c 4 g A Q 0 0 39 [(2, .int z.2.1)] [] z.2.2.2) : Bk cw p l e rm_X10_withNext_53 s m args below meth c 4 g A Q 0 0 4 [(0, .ref (g.2.2 53)), (1, .int x1), (2, .int x2), (3, .int x3)] [] σ := by
  obtain ⟨hx, hb, hr, hml, hown, hts, hK, hlocks, hXX, hA, hXo⟩ := id C
  intro H locs ls hP hD hS hl
  unfold s_X10_withNext_53_h4 at hf
  refine lv_iload_n hx hb dX10_withNext_4 rfl (lv_at hl 3 rfl) ?_
  refine lv_aload_n hx hb dX10_withNext_5 rfl (lv_at hl 0 rfl) ?_
  refine bk_get (wf := cw) (q0 := 53) (ci := 9) (k := 0) (v := .ref (g.2.2 12)) C hP wl_X10 rfl rfl (by decide) wa_138 rfl rfl dX10_withNext_6 ?_
  refine bk_get (wf := cw) (q0 := 12) (ci := 8) (k := 0) (v := .int (σ 12 0)) C hP wl_X9 rfl rfl (by decide) wa_671 rfl rfl dX10_withNext_9 ?_
  refine lv_icmp_ge (tgt := 39) hx hb dX10_withNext_12 (by decide) (fun t12 => ?_) (fun t12 => ?_)
  · have hf := (if_pos t12).symm.trans hf
    cases hf
    exact (k (show ¬ (1 : Nat) = 0 by decide)) H locs ls hP hD hS (lv_sub hl [2] rfl)
  · have hf := (if_neg t12).symm.trans hf
    refine lv_iload_n hx hb dX10_withNext_15 rfl (lv_at hl 1 rfl) ?_
    refine lv_iload_n hx hb dX10_withNext_16 rfl (lv_at hl 3 rfl) ?_
    refine lv_ishr hx hb dX10_withNext_17 ?_
    refine lv_iconst (v := (1 : Int32)) hx hb dX10_withNext_18 (by decide) ?_
    refine lv_iand hx hb dX10_withNext_19 ?_
    refine lv_iconst (v := (1 : Int32)) hx hb dX10_withNext_20 (by decide) ?_
    refine lv_icmp_ne (tgt := 33) hx hb dX10_withNext_21 (by decide) (fun t21 => ?_) (fun t21 => ?_)
    · have hf := (if_neg t21).symm.trans hf
      exact b_X10_withNext_53_b33 C hf k0 k H locs ls hP hD hS (lv_sub hl [0, 1, 2, 3] rfl)
    · have hf := (if_pos t21).symm.trans hf
      refine lv_iload_n hx hb dX10_withNext_24 rfl (lv_at hl 2 rfl) ?_
      refine lv_aload_n hx hb dX10_withNext_25 rfl (lv_at hl 0 rfl) ?_
      refine bk_get (wf := cw) (q0 := 53) (ci := 9) (k := 1) (v := .ref (g.2.2 54)) C hP wl_X10 rfl rfl (by decide) wa_137 rfl rfl dX10_withNext_26 ?_
      refine lv_iload_n hx hb dX10_withNext_29 rfl (lv_at hl 3 rfl) ?_
      obtain ⟨g2, hf⟩ := gd_s hf
      refine bk_iald (wf := cw) (q0 := 54) (n := 9) (j := x3.toNatClampNeg) C hP rfl g2 rfl dX10_withNext_30 ?_
      refine lv_ior hx hb dX10_withNext_31 ?_
      obtain ⟨v3, ev3, hf⟩ := bd_s hf
      rw [← ev3]
      refine lv_istore_n (lv' := [(2, .int v3), (0, .ref (g.2.2 53)), (1, .int x1), (3, .int x3)]) hx hb dX10_withNext_32 rfl hl (by decide) rfl (fun ls hl => ?_)
      exact b_X10_withNext_53_b33 C hf k0 k H locs ls hP hD hS (lv_sub hl [1, 2, 0, 3] rfl)
theorem lp_X10_withNext_53_h4 {N : Nat} {n : Nat} {x1 : Int32} {x2 : Int32} {x3 : Int32} {σ : Sg} {z : Nat × Int32 × Int32 × Sg} (C : Cx p s m args meth c cX10_withNext 4 (some .int) RX10 g A X) (hz : it (fun q => s_X10_withNext_53_h4 N x1 q.1 q.2.1 q.2.2) n (x2, x3, σ) = some z) (k : Bk cw p l e rm_X10_withNext_53 s m args below meth c 4 g A Q 0 0 39 [(2, .int z.2.1)] [] z.2.2.2) : Bk cw p l e rm_X10_withNext_53 s m args below meth c 4 g A Q 0 0 4 [(0, .ref (g.2.2 53)), (1, .int x1), (2, .int x2), (3, .int x3)] [] σ :=
  it_W (S := Int32 × Int32 × Sg) (fun q => Bk cw p l e rm_X10_withNext_53 s m args below meth c 4 g A Q 0 0 4 [(0, .ref (g.2.2 53)), (1, .int x1), (2, .int q.1), (3, .int q.2.1)] [] q.2.2) (fun z => Bk cw p l e rm_X10_withNext_53 s m args below meth c 4 g A Q 0 0 39 [(2, .int z.2.1)] [] z.2.2.2) (fun q z hq k0 k => e_X10_withNext_53_h4 C hq k0 k) n (x2, x3, σ) z hz k
def f_X10_withNext_53 (N : Nat) (x1 : Int32) (σ : Sg) : Option (Int32 × Sg) :=
(it (fun q => s_X10_withNext_53_h4 N x1 q.1 q.2.1 q.2.2) N (x1, (0 : Int32), σ)).bind fun z4 =>
some ((z4.2.1), (z4.2.2.2))
set_option maxHeartbeats 4000000 in
set_option maxRecDepth 100000 in
theorem b_X10_withNext_53 {N : Nat} {x1 : Int32} {σ : Sg} {z : Int32 × Sg} (C : Cx p s m args meth c cX10_withNext 4 (some .int) RX10 g A X) (hf : f_X10_withNext_53 N x1 σ = some z) : Bk cw p l e rm_X10_withNext_53 s m args below meth c 4 g A (MQ below (qI cw g A z.1 z.2) args s 0 0 A) 0 0 0 [(0, .ref (g.2.2 53)), (1, .int x1)] [] σ := by
  obtain ⟨hx, hb, hr, hml, hown, hts, hK, hlocks, hXX, hA, hXo⟩ := id C
  intro H locs ls hP hD hS hl
  unfold f_X10_withNext_53 at hf
  refine lv_iload_n hx hb dX10_withNext_0 rfl (lv_at hl 1 rfl) ?_
  refine lv_istore_n (lv' := [(2, .int x1), (0, .ref (g.2.2 53)), (1, .int x1)]) hx hb dX10_withNext_1 rfl hl (by decide) rfl (fun ls hl => ?_)
  refine lv_iconst (v := (0 : Int32)) hx hb dX10_withNext_2 (by decide) ?_
  refine lv_istore_n (lv' := [(3, .int (0 : Int32)), (2, .int x1), (0, .ref (g.2.2 53)), (1, .int x1)]) hx hb dX10_withNext_3 rfl hl (by decide) rfl (fun ls hl => ?_)
  obtain ⟨z4, hz4, hf⟩ := bi_s hf
  refine lp_X10_withNext_53_h4 C hz4 ?_ H locs ls hP hD hS (lv_sub hl [2, 3, 1, 0] rfl)
  intro H locs ls hP hD hS hl
  refine lv_iload_n hx hb dX10_withNext_39 rfl (lv_at hl 0 rfl) ?_
  cases hf
  exact bk_iret C hP hD hS rfl dX10_withNext_40
theorem c_X10_withNext_53 {N : Nat} {x1 : Int32} {σ : Sg} {z : Int32 × Sg} (hX : xOK g X) (hf : f_X10_withNext_53 N x1 σ = some z) : MetI l yX10_withNext (Cond.code yX10_withNext cX10_withNext 4 (some .int) :: wsA) rm_X10_withNext_53 cw g X [.ref (g.2.2 53), .int x1] σ z.1 z.2 :=
  MetI_of hX (by decide) (Nat.le_of_ble_eq_true rfl) (fun p e s m args below meth c A C => b_X10_withNext_53 C hf)
-- X10_partOf_53: partOf(I)I
abbrev rm_X10_partOf_53 : Room := { frames := 1, cells := 0, slots := 0, locals := 23 }
theorem nd_X10_partOf : yX10_partOf.cls ≠ "java/lang/invoke/MethodHandle" ∧ yX10_partOf.cls ≠ "java/lang/invoke/VarHandle" ∧ (parseMethodDescriptor yX10_partOf.desc).map (fun d => d.parameters.length) = some 1 := by decide +kernel
def s_X10_partOf_53_h6 (N : Nat) (x2 : Int32) (x3 : Int32) (σ : Sg) : Option (Nat × Int32 × Int32 × Sg) :=
if (9 : Int32) ≤ x3 then (some (1, x2, 0, σ))
else ((f_X10_withNext_53 N x2 σ).bind fun q1 =>
bd q1.1 fun v2 =>
bd (x3 + (1 : Int32)) fun v3 =>
some (0, v2, v3, (q1.2)))
set_option maxHeartbeats 4000000 in
set_option maxRecDepth 100000 in
theorem e_X10_partOf_53_h6 {N : Nat} {x2 : Int32} {x3 : Int32} {σ : Sg} {z : Nat × Int32 × Int32 × Sg} (C : Cx p s m args meth c cX10_partOf 4 (some .int) RX10 g A X) (hf : s_X10_partOf_53_h6 N x2 x3 σ = some z) (k0 : z.1 = 0 → Bk cw p l e rm_X10_partOf_53 s m args below meth c 4 g A Q 0 0 6 [(0, .ref (g.2.2 53)), (2, .int z.2.1), (3, .int z.2.2.1)] [] z.2.2.2) (k : ¬ z.1 = 0 → Bk cw p l e rm_X10_partOf_53 s m args below meth c 4 g A Q 0 0 24 [(2, .int z.2.1)] [] z.2.2.2) : Bk cw p l e rm_X10_partOf_53 s m args below meth c 4 g A Q 0 0 6 [(0, .ref (g.2.2 53)), (2, .int x2), (3, .int x3)] [] σ := by
  obtain ⟨hx, hb, hr, hml, hown, hts, hK, hlocks, hXX, hA, hXo⟩ := id C
  intro H locs ls hP hD hS hl
  unfold s_X10_partOf_53_h6 at hf
  refine lv_iload_n hx hb dX10_partOf_6 rfl (lv_at hl 2 rfl) ?_
  refine lv_bipush (v := (9 : Int32)) hx hb dX10_partOf_7 (by decide) ?_
  refine lv_icmp_ge (tgt := 24) hx hb dX10_partOf_9 (by decide) (fun t9 => ?_) (fun t9 => ?_)
  · have hf := (if_pos t9).symm.trans hf
    cases hf
    exact (k (show ¬ (1 : Nat) = 0 by decide)) H locs ls hP hD hS (lv_sub hl [1] rfl)
  · have hf := (if_neg t9).symm.trans hf
    refine lv_aload_n hx hb dX10_partOf_12 rfl (lv_at hl 0 rfl) ?_
    refine lv_iload_n hx hb dX10_partOf_13 rfl (lv_at hl 1 rfl) ?_
    obtain ⟨q1, hq1, hf⟩ := bi_s hf
    refine bk_VI (wf := cw) (q0 := 53) (ci := 9) (rest := []) [.int x2] C hP hD hS hl.1 (c_X10_withNext_53 hXo hq1) (cwA_V 1 hts wa_687 wa_684 wa_685 wa_686 wa_37 rfl rfl nd_X10_withNext ⟨Nat.le_of_ble_eq_true rfl, Nat.le_of_ble_eq_true rfl⟩) rfl rfl rfl rfl (Nat.le_of_ble_eq_true rfl) dX10_partOf_14 ⟨Nat.le_of_ble_eq_true rfl, Nat.le_of_ble_eq_true rfl⟩ (fun H locs hP hD hS => ?_)
    obtain ⟨v2, ev2, hf⟩ := bd_s hf
    rw [← ev2]
    refine lv_istore_n (lv' := [(2, .int v2), (0, .ref (g.2.2 53)), (3, .int x3)]) hx hb dX10_partOf_17 rfl hl (by decide) rfl (fun ls hl => ?_)
    obtain ⟨v3, ev3, hf⟩ := bd_s hf
    refine lv_iinc (v := v3) (lv' := [(3, .int v3), (2, .int v2), (0, .ref (g.2.2 53))]) hx hb dX10_partOf_18 hl (k := 2) rfl (by rw [ev3]; rfl) (by decide) rfl (fun ls hl => ?_)
    refine lv_goto (tgt := 6) hx hb dX10_partOf_21 (by decide) ?_
    cases hf
    exact k0 rfl H locs ls hP hD hS (lv_sub hl [2, 1, 0] rfl)
theorem lp_X10_partOf_53_h6 {N : Nat} {n : Nat} {x2 : Int32} {x3 : Int32} {σ : Sg} {z : Nat × Int32 × Int32 × Sg} (C : Cx p s m args meth c cX10_partOf 4 (some .int) RX10 g A X) (hz : it (fun q => s_X10_partOf_53_h6 N q.1 q.2.1 q.2.2) n (x2, x3, σ) = some z) (k : Bk cw p l e rm_X10_partOf_53 s m args below meth c 4 g A Q 0 0 24 [(2, .int z.2.1)] [] z.2.2.2) : Bk cw p l e rm_X10_partOf_53 s m args below meth c 4 g A Q 0 0 6 [(0, .ref (g.2.2 53)), (2, .int x2), (3, .int x3)] [] σ :=
  it_W (S := Int32 × Int32 × Sg) (fun q => Bk cw p l e rm_X10_partOf_53 s m args below meth c 4 g A Q 0 0 6 [(0, .ref (g.2.2 53)), (2, .int q.1), (3, .int q.2.1)] [] q.2.2) (fun z => Bk cw p l e rm_X10_partOf_53 s m args below meth c 4 g A Q 0 0 24 [(2, .int z.2.1)] [] z.2.2.2) (fun q z hq k0 k => e_X10_partOf_53_h6 C hq k0 k) n (x2, x3, σ) z hz k
def f_X10_partOf_53 (N : Nat) (x1 : Int32) (σ : Sg) : Option (Int32 × Sg) :=
bd ((1 : Int32) <<< (x1 &&& 31)) fun v4 =>
(it (fun q => s_X10_partOf_53_h6 N q.1 q.2.1 q.2.2) N (v4, (0 : Int32), σ)).bind fun z5 =>
some ((z5.2.1), (z5.2.2.2))
set_option maxHeartbeats 4000000 in
set_option maxRecDepth 100000 in
theorem b_X10_partOf_53 {N : Nat} {x1 : Int32} {σ : Sg} {z : Int32 × Sg} (C : Cx p s m args meth c cX10_partOf 4 (some .int) RX10 g A X) (hf : f_X10_partOf_53 N x1 σ = some z) : Bk cw p l e rm_X10_partOf_53 s m args below meth c 4 g A (MQ below (qI cw g A z.1 z.2) args s 0 0 A) 0 0 0 [(0, .ref (g.2.2 53)), (1, .int x1)] [] σ := by
  obtain ⟨hx, hb, hr, hml, hown, hts, hK, hlocks, hXX, hA, hXo⟩ := id C
  intro H locs ls hP hD hS hl
  unfold f_X10_partOf_53 at hf
  refine lv_iconst (v := (1 : Int32)) hx hb dX10_partOf_0 (by decide) ?_
  refine lv_iload_n hx hb dX10_partOf_1 rfl (lv_at hl 1 rfl) ?_
  refine lv_ishl hx hb dX10_partOf_2 ?_
  obtain ⟨v4, ev4, hf⟩ := bd_s hf
  rw [← ev4]
  refine lv_istore_n (lv' := [(2, .int v4), (0, .ref (g.2.2 53)), (1, .int x1)]) hx hb dX10_partOf_3 rfl hl (by decide) rfl (fun ls hl => ?_)
  refine lv_iconst (v := (0 : Int32)) hx hb dX10_partOf_4 (by decide) ?_
  refine lv_istore_n (lv' := [(3, .int (0 : Int32)), (2, .int v4), (0, .ref (g.2.2 53)), (1, .int x1)]) hx hb dX10_partOf_5 rfl hl (by decide) rfl (fun ls hl => ?_)
  obtain ⟨z5, hz5, hf⟩ := bi_s hf
  refine lp_X10_partOf_53_h6 C hz5 ?_ H locs ls hP hD hS (lv_sub hl [2, 1, 0] rfl)
  intro H locs ls hP hD hS hl
  refine lv_iload_n hx hb dX10_partOf_24 rfl (lv_at hl 0 rfl) ?_
  cases hf
  exact bk_iret C hP hD hS rfl dX10_partOf_25
theorem c_X10_partOf_53 {N : Nat} {x1 : Int32} {σ : Sg} {z : Int32 × Sg} (hX : xOK g X) (hf : f_X10_partOf_53 N x1 σ = some z) : MetI l yX10_partOf (Cond.code yX10_partOf cX10_partOf 4 (some .int) :: wsA) rm_X10_partOf_53 cw g X [.ref (g.2.2 53), .int x1] σ z.1 z.2 :=
  MetI_of hX (by decide) (Nat.le_of_ble_eq_true rfl) (fun p e s m args below meth c A C => b_X10_partOf_53 C hf)
-- X10_parts_53: parts()I
abbrev rm_X10_parts_53 : Room := { frames := 2, cells := 0, slots := 0, locals := 46 }
theorem nd_X10_parts : yX10_parts.cls ≠ "java/lang/invoke/MethodHandle" ∧ yX10_parts.cls ≠ "java/lang/invoke/VarHandle" ∧ (parseMethodDescriptor yX10_parts.desc).map (fun d => d.parameters.length) = some 0 := by decide +kernel
def f_X10_parts_53_b36 (N : Nat) (x1 : Int32) (x2 : Int32) (x3 : Int32) (σ : Sg) : Option (Nat × Int32 × Int32 × Int32 × Sg) :=
bd (x3 + (1 : Int32)) fun v1 =>
some (0, x1, x2, v1, σ)
set_option maxHeartbeats 4000000 in
set_option maxRecDepth 100000 in
theorem b_X10_parts_53_b36 {N : Nat} {x1 : Int32} {x2 : Int32} {x3 : Int32} {σ : Sg} {z : Nat × Int32 × Int32 × Int32 × Sg} (C : Cx p s m args meth c cX10_parts 4 (some .int) RX10 g A X) (hf : f_X10_parts_53_b36 N x1 x2 x3 σ = some z) (k0 : z.1 = 0 → Bk cw p l e rm_X10_parts_53 s m args below meth c 4 g A Q 0 0 6 [(0, .ref (g.2.2 53)), (1, .int z.2.1), (2, .int z.2.2.1), (3, .int z.2.2.2.1)] [] z.2.2.2.2) (k : ¬ z.1 = 0 → Bk cw p l e rm_X10_parts_53 s m args below meth c 4 g A Q 0 0 42 [(1, .int z.2.1)] [] z.2.2.2.2) : Bk cw p l e rm_X10_parts_53 s m args below meth c 4 g A Q 0 0 36 [(0, .ref (g.2.2 53)), (1, .int x1), (2, .int x2), (3, .int x3)] [] σ := by
  obtain ⟨hx, hb, hr, hml, hown, hts, hK, hlocks, hXX, hA, hXo⟩ := id C
  intro H locs ls hP hD hS hl
  unfold f_X10_parts_53_b36 at hf
  obtain ⟨v1, ev1, hf⟩ := bd_s hf
  refine lv_iinc (v := v1) (lv' := [(3, .int v1), (0, .ref (g.2.2 53)), (1, .int x1), (2, .int x2)]) hx hb dX10_parts_36 hl (k := 3) rfl (by rw [ev1]; rfl) (by decide) rfl (fun ls hl => ?_)
  refine lv_goto (tgt := 6) hx hb dX10_parts_39 (by decide) ?_
  cases hf
  exact k0 rfl H locs ls hP hD hS (lv_sub hl [1, 2, 3, 0] rfl)
def s_X10_parts_53_h6 (N : Nat) (x1 : Int32) (x2 : Int32) (x3 : Int32) (σ : Sg) : Option (Nat × Int32 × Int32 × Int32 × Sg) :=
if (σ 12 0) ≤ x3 then (some (1, x1, 0, 0, σ))
else (if ((x2 >>> (x3 &&& 31)) &&& (1 : Int32)) = 0 then (bd (x1 + (1 : Int32)) fun v2 =>
(f_X10_partOf_53 N x3 σ).bind fun q3 =>
bd (x2 ||| q3.1) fun v4 =>
f_X10_parts_53_b36 N v2 v4 x3 (q3.2))
else (f_X10_parts_53_b36 N x1 x2 x3 σ))
set_option maxHeartbeats 4000000 in
set_option maxRecDepth 100000 in
theorem e_X10_parts_53_h6 {N : Nat} {x1 : Int32} {x2 : Int32} {x3 : Int32} {σ : Sg} {z : Nat × Int32 × Int32 × Int32 × Sg} (C : Cx p s m args meth c cX10_parts 4 (some .int) RX10 g A X) (hf : s_X10_parts_53_h6 N x1 x2 x3 σ = some z) (k0 : z.1 = 0 → Bk cw p l e rm_X10_parts_53 s m args below meth c 4 g A Q 0 0 6 [(0, .ref (g.2.2 53)), (1, .int z.2.1), (2, .int z.2.2.1), (3, .int z.2.2.2.1)] [] z.2.2.2.2) (k : ¬ z.1 = 0 → Bk cw p l e rm_X10_parts_53 s m args below meth c 4 g A Q 0 0 42 [(1, .int z.2.1)] [] z.2.2.2.2) : Bk cw p l e rm_X10_parts_53 s m args below meth c 4 g A Q 0 0 6 [(0, .ref (g.2.2 53)), (1, .int x1), (2, .int x2), (3, .int x3)] [] σ := by
  obtain ⟨hx, hb, hr, hml, hown, hts, hK, hlocks, hXX, hA, hXo⟩ := id C
  intro H locs ls hP hD hS hl
  unfold s_X10_parts_53_h6 at hf
  refine lv_iload_n hx hb dX10_parts_6 rfl (lv_at hl 3 rfl) ?_
  refine lv_aload_n hx hb dX10_parts_7 rfl (lv_at hl 0 rfl) ?_
  refine bk_get (wf := cw) (q0 := 53) (ci := 9) (k := 0) (v := .ref (g.2.2 12)) C hP wl_X10 rfl rfl (by decide) wa_138 rfl rfl dX10_parts_8 ?_
  refine bk_get (wf := cw) (q0 := 12) (ci := 8) (k := 0) (v := .int (σ 12 0)) C hP wl_X9 rfl rfl (by decide) wa_671 rfl rfl dX10_parts_11 ?_
  refine lv_icmp_ge (tgt := 42) hx hb dX10_parts_14 (by decide) (fun t14 => ?_) (fun t14 => ?_)
  · have hf := (if_pos t14).symm.trans hf
    cases hf
    exact (k (show ¬ (1 : Nat) = 0 by decide)) H locs ls hP hD hS (lv_sub hl [1] rfl)
  · have hf := (if_neg t14).symm.trans hf
    refine lv_iload_n hx hb dX10_parts_17 rfl (lv_at hl 2 rfl) ?_
    refine lv_iload_n hx hb dX10_parts_18 rfl (lv_at hl 3 rfl) ?_
    refine lv_ishr hx hb dX10_parts_19 ?_
    refine lv_iconst (v := (1 : Int32)) hx hb dX10_parts_20 (by decide) ?_
    refine lv_iand hx hb dX10_parts_21 ?_
    refine lv_if_ne (tgt := 36) hx hb dX10_parts_22 (by decide) (fun t22 => ?_) (fun t22 => ?_)
    · have hf := (if_neg t22).symm.trans hf
      exact b_X10_parts_53_b36 C hf k0 k H locs ls hP hD hS (lv_sub hl [0, 1, 2, 3] rfl)
    · have hf := (if_pos t22).symm.trans hf
      obtain ⟨v2, ev2, hf⟩ := bd_s hf
      refine lv_iinc (v := v2) (lv' := [(1, .int v2), (0, .ref (g.2.2 53)), (2, .int x2), (3, .int x3)]) hx hb dX10_parts_25 hl (k := 1) rfl (by rw [ev2]; rfl) (by decide) rfl (fun ls hl => ?_)
      refine lv_iload_n hx hb dX10_parts_28 rfl (lv_at hl 2 rfl) ?_
      refine lv_aload_n hx hb dX10_parts_29 rfl (lv_at hl 1 rfl) ?_
      refine lv_iload_n hx hb dX10_parts_30 rfl (lv_at hl 3 rfl) ?_
      obtain ⟨q3, hq3, hf⟩ := bi_s hf
      refine bk_VI (wf := cw) (q0 := 53) (ci := 9) (rest := [.int x2]) [.int x3] C hP hD hS hl.1 (c_X10_partOf_53 hXo hq3) (cwA_V 1 hts wa_683 wa_680 wa_681 wa_682 wa_37 rfl rfl nd_X10_partOf ⟨Nat.le_of_ble_eq_true rfl, Nat.le_of_ble_eq_true rfl⟩) rfl rfl rfl rfl (Nat.le_of_ble_eq_true rfl) dX10_parts_31 ⟨Nat.le_of_ble_eq_true rfl, Nat.le_of_ble_eq_true rfl⟩ (fun H locs hP hD hS => ?_)
      refine lv_ior hx hb dX10_parts_34 ?_
      obtain ⟨v4, ev4, hf⟩ := bd_s hf
      rw [← ev4]
      refine lv_istore_n (lv' := [(2, .int v4), (1, .int v2), (0, .ref (g.2.2 53)), (3, .int x3)]) hx hb dX10_parts_35 rfl hl (by decide) rfl (fun ls hl => ?_)
      exact b_X10_parts_53_b36 C hf k0 k H locs ls hP hD hS (lv_sub hl [2, 1, 0, 3] rfl)
theorem lp_X10_parts_53_h6 {N : Nat} {n : Nat} {x1 : Int32} {x2 : Int32} {x3 : Int32} {σ : Sg} {z : Nat × Int32 × Int32 × Int32 × Sg} (C : Cx p s m args meth c cX10_parts 4 (some .int) RX10 g A X) (hz : it (fun q => s_X10_parts_53_h6 N q.1 q.2.1 q.2.2.1 q.2.2.2) n (x1, x2, x3, σ) = some z) (k : Bk cw p l e rm_X10_parts_53 s m args below meth c 4 g A Q 0 0 42 [(1, .int z.2.1)] [] z.2.2.2.2) : Bk cw p l e rm_X10_parts_53 s m args below meth c 4 g A Q 0 0 6 [(0, .ref (g.2.2 53)), (1, .int x1), (2, .int x2), (3, .int x3)] [] σ :=
  it_W (S := Int32 × Int32 × Int32 × Sg) (fun q => Bk cw p l e rm_X10_parts_53 s m args below meth c 4 g A Q 0 0 6 [(0, .ref (g.2.2 53)), (1, .int q.1), (2, .int q.2.1), (3, .int q.2.2.1)] [] q.2.2.2) (fun z => Bk cw p l e rm_X10_parts_53 s m args below meth c 4 g A Q 0 0 42 [(1, .int z.2.1)] [] z.2.2.2.2) (fun q z hq k0 k => e_X10_parts_53_h6 C hq k0 k) n (x1, x2, x3, σ) z hz k
def f_X10_parts_53 (N : Nat) (σ : Sg) : Option (Int32 × Sg) :=
(it (fun q => s_X10_parts_53_h6 N q.1 q.2.1 q.2.2.1 q.2.2.2) N ((0 : Int32), (0 : Int32), (0 : Int32), σ)).bind fun z5 =>
some ((z5.2.1), (z5.2.2.2.2))
set_option maxHeartbeats 4000000 in
set_option maxRecDepth 100000 in
theorem b_X10_parts_53 {N : Nat} {σ : Sg} {z : Int32 × Sg} (C : Cx p s m args meth c cX10_parts 4 (some .int) RX10 g A X) (hf : f_X10_parts_53 N σ = some z) : Bk cw p l e rm_X10_parts_53 s m args below meth c 4 g A (MQ below (qI cw g A z.1 z.2) args s 0 0 A) 0 0 0 [(0, .ref (g.2.2 53))] [] σ := by
  obtain ⟨hx, hb, hr, hml, hown, hts, hK, hlocks, hXX, hA, hXo⟩ := id C
  intro H locs ls hP hD hS hl
  unfold f_X10_parts_53 at hf
  refine lv_iconst (v := (0 : Int32)) hx hb dX10_parts_0 (by decide) ?_
  refine lv_istore_n (lv' := [(1, .int (0 : Int32)), (0, .ref (g.2.2 53))]) hx hb dX10_parts_1 rfl hl (by decide) rfl (fun ls hl => ?_)
  refine lv_iconst (v := (0 : Int32)) hx hb dX10_parts_2 (by decide) ?_
  refine lv_istore_n (lv' := [(2, .int (0 : Int32)), (1, .int (0 : Int32)), (0, .ref (g.2.2 53))]) hx hb dX10_parts_3 rfl hl (by decide) rfl (fun ls hl => ?_)
  refine lv_iconst (v := (0 : Int32)) hx hb dX10_parts_4 (by decide) ?_
  refine lv_istore_n (lv' := [(3, .int (0 : Int32)), (2, .int (0 : Int32)), (1, .int (0 : Int32)), (0, .ref (g.2.2 53))]) hx hb dX10_parts_5 rfl hl (by decide) rfl (fun ls hl => ?_)
  obtain ⟨z5, hz5, hf⟩ := bi_s hf
  refine lp_X10_parts_53_h6 C hz5 ?_ H locs ls hP hD hS (lv_sub hl [3, 2, 1, 0] rfl)
  intro H locs ls hP hD hS hl
  refine lv_iload_n hx hb dX10_parts_42 rfl (lv_at hl 0 rfl) ?_
  cases hf
  exact bk_iret C hP hD hS rfl dX10_parts_43
theorem c_X10_parts_53 {N : Nat} {σ : Sg} {z : Int32 × Sg} (hX : xOK g X) (hf : f_X10_parts_53 N σ = some z) : MetI l yX10_parts (Cond.code yX10_parts cX10_parts 4 (some .int) :: wsA) rm_X10_parts_53 cw g X [.ref (g.2.2 53)] σ z.1 z.2 :=
  MetI_of hX (by decide) (Nat.le_of_ble_eq_true rfl) (fun p e s m args below meth c A C => b_X10_parts_53 C hf)
-- J6_bitCount_0f7a4: bitCount(I)I
abbrev rm_J6_bitCount_0f7a4 : Room := { frames := 0, cells := 0, slots := 0, locals := 0 }
theorem nd_J6_bitCount_0f7a4 : yJ6_bitCount_0f7a4.cls ≠ "java/lang/invoke/MethodHandle" ∧ yJ6_bitCount_0f7a4.cls ≠ "java/lang/invoke/VarHandle" ∧ (parseMethodDescriptor yJ6_bitCount_0f7a4.desc).map (fun d => d.parameters.length) = some 1 := by decide +kernel
def f_J6_bitCount_0f7a4 (N : Nat) (x0 : Int32) (σ : Sg) : Option (Int32 × Sg) :=
bd (x0 - (((x0).toUInt32 >>> (((1 : Int32)).toUInt32 &&& Int32.toUInt32 31)).toInt32 &&& (1431655765 : Int32))) fun v1 =>
bd ((v1 &&& (858993459 : Int32)) + (((v1).toUInt32 >>> (((2 : Int32)).toUInt32 &&& Int32.toUInt32 31)).toInt32 &&& (858993459 : Int32))) fun v2 =>
bd ((v2 + ((v2).toUInt32 >>> (((4 : Int32)).toUInt32 &&& Int32.toUInt32 31)).toInt32) &&& (252645135 : Int32)) fun v3 =>
bd (v3 + ((v3).toUInt32 >>> (((8 : Int32)).toUInt32 &&& Int32.toUInt32 31)).toInt32) fun v4 =>
bd (v4 + ((v4).toUInt32 >>> (((16 : Int32)).toUInt32 &&& Int32.toUInt32 31)).toInt32) fun v5 =>
some ((v5 &&& (63 : Int32)), σ)
set_option maxHeartbeats 4000000 in
set_option maxRecDepth 100000 in
theorem b_J6_bitCount_0f7a4 {N : Nat} {x0 : Int32} {σ : Sg} {z : Int32 × Sg} (C : Cx p s m args meth c cJ6_bitCount_0f7a4 1 (some .int) RJ6 g A X) (hf : f_J6_bitCount_0f7a4 N x0 σ = some z) : Bk cw p l e rm_J6_bitCount_0f7a4 s m args below meth c 1 g A (MQ below (qI cw g A z.1 z.2) args s 0 0 A) 0 0 0 [(0, .int x0)] [] σ := by
  obtain ⟨hx, hb, hr, hml, hown, hts, hK, hlocks, hXX, hA, hXo⟩ := id C
  intro H locs ls hP hD hS hl
  unfold f_J6_bitCount_0f7a4 at hf
  refine lv_iload_n hx hb dJ6_bitCount_0f7a4_0 rfl (lv_at hl 0 rfl) ?_
  refine lv_iload_n hx hb dJ6_bitCount_0f7a4_1 rfl (lv_at hl 0 rfl) ?_
  refine lv_iconst (v := (1 : Int32)) hx hb dJ6_bitCount_0f7a4_2 (by decide) ?_
  refine lv_iushr hx hb dJ6_bitCount_0f7a4_3 rfl ?_
  refine lv_ldcw (v := (1431655765 : Int32)) hx hb hown (hts _ wa_700) dJ6_bitCount_0f7a4_4 ?_
  refine lv_iand hx hb dJ6_bitCount_0f7a4_7 ?_
  refine lv_isub hx hb dJ6_bitCount_0f7a4_8 ?_
  obtain ⟨v1, ev1, hf⟩ := bd_s hf
  rw [← ev1]
  refine lv_istore_n (lv' := [(0, .int v1)]) hx hb dJ6_bitCount_0f7a4_9 rfl hl (by decide) rfl (fun ls hl => ?_)
  refine lv_iload_n hx hb dJ6_bitCount_0f7a4_10 rfl (lv_at hl 0 rfl) ?_
  refine lv_ldcw (v := (858993459 : Int32)) hx hb hown (hts _ wa_701) dJ6_bitCount_0f7a4_11 ?_
  refine lv_iand hx hb dJ6_bitCount_0f7a4_14 ?_
  refine lv_iload_n hx hb dJ6_bitCount_0f7a4_15 rfl (lv_at hl 0 rfl) ?_
  refine lv_iconst (v := (2 : Int32)) hx hb dJ6_bitCount_0f7a4_16 (by decide) ?_
  refine lv_iushr hx hb dJ6_bitCount_0f7a4_17 rfl ?_
  refine lv_ldcw (v := (858993459 : Int32)) hx hb hown (hts _ wa_701) dJ6_bitCount_0f7a4_18 ?_
  refine lv_iand hx hb dJ6_bitCount_0f7a4_21 ?_
  refine lv_iadd hx hb dJ6_bitCount_0f7a4_22 ?_
  obtain ⟨v2, ev2, hf⟩ := bd_s hf
  rw [← ev2]
  refine lv_istore_n (lv' := [(0, .int v2)]) hx hb dJ6_bitCount_0f7a4_23 rfl hl (by decide) rfl (fun ls hl => ?_)
  refine lv_iload_n hx hb dJ6_bitCount_0f7a4_24 rfl (lv_at hl 0 rfl) ?_
  refine lv_iload_n hx hb dJ6_bitCount_0f7a4_25 rfl (lv_at hl 0 rfl) ?_
  refine lv_iconst (v := (4 : Int32)) hx hb dJ6_bitCount_0f7a4_26 (by decide) ?_
  refine lv_iushr hx hb dJ6_bitCount_0f7a4_27 rfl ?_
  refine lv_iadd hx hb dJ6_bitCount_0f7a4_28 ?_
  refine lv_ldcw (v := (252645135 : Int32)) hx hb hown (hts _ wa_702) dJ6_bitCount_0f7a4_29 ?_
  refine lv_iand hx hb dJ6_bitCount_0f7a4_32 ?_
  obtain ⟨v3, ev3, hf⟩ := bd_s hf
  rw [← ev3]
  refine lv_istore_n (lv' := [(0, .int v3)]) hx hb dJ6_bitCount_0f7a4_33 rfl hl (by decide) rfl (fun ls hl => ?_)
  refine lv_iload_n hx hb dJ6_bitCount_0f7a4_34 rfl (lv_at hl 0 rfl) ?_
  refine lv_iload_n hx hb dJ6_bitCount_0f7a4_35 rfl (lv_at hl 0 rfl) ?_
  refine lv_bipush (v := (8 : Int32)) hx hb dJ6_bitCount_0f7a4_36 (by decide) ?_
  refine lv_iushr hx hb dJ6_bitCount_0f7a4_38 rfl ?_
  refine lv_iadd hx hb dJ6_bitCount_0f7a4_39 ?_
  obtain ⟨v4, ev4, hf⟩ := bd_s hf
  rw [← ev4]
  refine lv_istore_n (lv' := [(0, .int v4)]) hx hb dJ6_bitCount_0f7a4_40 rfl hl (by decide) rfl (fun ls hl => ?_)
  refine lv_iload_n hx hb dJ6_bitCount_0f7a4_41 rfl (lv_at hl 0 rfl) ?_
  refine lv_iload_n hx hb dJ6_bitCount_0f7a4_42 rfl (lv_at hl 0 rfl) ?_
  refine lv_bipush (v := (16 : Int32)) hx hb dJ6_bitCount_0f7a4_43 (by decide) ?_
  refine lv_iushr hx hb dJ6_bitCount_0f7a4_45 rfl ?_
  refine lv_iadd hx hb dJ6_bitCount_0f7a4_46 ?_
  obtain ⟨v5, ev5, hf⟩ := bd_s hf
  rw [← ev5]
  refine lv_istore_n (lv' := [(0, .int v5)]) hx hb dJ6_bitCount_0f7a4_47 rfl hl (by decide) rfl (fun ls hl => ?_)
  refine lv_iload_n hx hb dJ6_bitCount_0f7a4_48 rfl (lv_at hl 0 rfl) ?_
  refine lv_bipush (v := (63 : Int32)) hx hb dJ6_bitCount_0f7a4_49 (by decide) ?_
  refine lv_iand hx hb dJ6_bitCount_0f7a4_51 ?_
  cases hf
  exact bk_iret C hP hD hS rfl dJ6_bitCount_0f7a4_52
theorem c_J6_bitCount_0f7a4 {N : Nat} {x0 : Int32} {σ : Sg} {z : Int32 × Sg} (hX : xOK g X) (hf : f_J6_bitCount_0f7a4 N x0 σ = some z) : MetI l yJ6_bitCount_0f7a4 (Cond.code yJ6_bitCount_0f7a4 cJ6_bitCount_0f7a4 1 (some .int) :: wsA) rm_J6_bitCount_0f7a4 cw g X [.int x0] σ z.1 z.2 :=
  MetI_of hX (by decide) (Nat.le_of_ble_eq_true rfl) (fun p e s m args below meth c A C => b_J6_bitCount_0f7a4 C hf)
end GEN
