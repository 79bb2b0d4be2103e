section WRAP
variable {l : Launch} {g : WG} {X : Xt}
theorem castN : Cond.castable "java/util/NoSuchElementException" "java/util/NoSuchElementException" ∈ exN := by decide +kernel
theorem castI : Cond.castable "java/lang/IllegalArgumentException" "java/lang/IllegalArgumentException" ∈ exI := by decide +kernel
abbrev rm_L_upland : Room := { frames := 179, cells := 1, slots := 6, locals := 3616 }
theorem nd_L_upland : yL_upland.cls ≠ "java/lang/invoke/MethodHandle" ∧ yL_upland.cls ≠ "java/lang/invoke/VarHandle" ∧ (parseMethodDescriptor yL_upland.desc).map (fun d => d.parameters.length) = some 3 := by decide +kernel
set_option maxHeartbeats 4000000 in
set_option maxRecDepth 100000 in
theorem cwr_upland {N : Nat} {x1 : Int32} {σ : Sg} {z : Zt} {o o' : Int64} {k : Int32} (hX : xOK g X) (hst : l.stackTraces = false) (hf : f_X11_upland_0 N x1 σ = some z) (h0 : z.1 = 0 → k = 0 ∧ o' = z.2.1.toInt64) (hz : ¬ z.1 = 1) (h2 : z.1 = 2 → k = 1 ∧ o' = o) : MetW l yL_upland (Cond.codeWith yL_upland cL_upland 4 (some .int) [(0, 9, 12, 13)] :: wsA) rm_L_upland 1 6 g X [.ref (g.2.2 0), .int x1, .ref (g.2.2 70)] σ o k z.2.2 o' := by
  refine MetW_of hX (by decide) (Nat.le_of_ble_eq_true rfl) (fun p e s m args below meth c A C htab ls hP hD hS hl => ?_)
  obtain ⟨hx, hb, hr, hml, hown, hts, hK, hlocks, hXX, hA, hXo⟩ := id C
  have hl : lv_has ls 4 [(0, .ref (g.2.2 0)), (1, .int x1), (2, .ref (g.2.2 70))] := hl
  refine lv_aload_n hx hb dL_upland_0 rfl (lv_at hl 2 rfl) ?_
  refine lv_iconst (v := (0 : Int32)) hx hb dL_upland_1 (by decide) ?_
  refine lv_aload_n hx hb dL_upland_2 rfl (lv_at hl 0 rfl) ?_
  refine lv_iload_n hx hb dL_upland_3 rfl (lv_at hl 1 rfl) ?_
  refine wr_T (rest := [.int (0 : Int32), .ref (g.2.2 70)]) [.int x1] C hP hD hS hl.1 (c_X11_upland_0 hXo hst hf) (cwA_V 1 hts wa_215 wa_212 wa_213 wa_214 wa_2 rfl rfl nd_X11_upland ⟨Nat.le_of_ble_eq_true rfl, Nat.le_of_ble_eq_true rfl⟩) rfl rfl (Nat.le_of_ble_eq_true rfl) dL_upland_4 ⟨Nat.le_of_ble_eq_true rfl, Nat.le_of_ble_eq_true rfl⟩ (fun E ce q9 H locs hE hP hD hS hq9 hcv hcl => ?_) (fun hz0 H locs hP hD hS => ?_)
  · rcases hE with ⟨hE1, rfl⟩ | ⟨hE1, rfl⟩
    · exact absurd hE1 hz
    · refine vx_catch hown [] ⟨0, 9, 12, 13⟩ [] (htab.trans rfl) (fun _ h => nomatch h) (by decide) (by decide) (hts _ wa_211) ((hXo.2.2.2 _ _ _ hXX).2.2.1 _ _ (List.mem_append_left _ castI)) hq9 hcv hcl ?_
      refine lv_astore_n (lv' := [(3, .ref q9), (0, .ref (g.2.2 0)), (1, .int x1), (2, .ref (g.2.2 70))]) hx hb dL_upland_12 rfl hl (by decide) rfl (fun ls hl => ?_)
      refine lv_iconst (v := (1 : Int32)) hx hb dL_upland_13 (by decide) ?_
      exact wr_ret C hP hD hS (h2 hE1).1.symm (h2 hE1).2.symm rfl dL_upland_14
  · refine lv_i2l hx hb dL_upland_7 rfl ?_
    refine wr_last C hP hD hS dL_upland_8 (fun H locs hP hD hS => ?_)
    refine lv_goto (tgt := 15) hx hb dL_upland_9 (by decide) ?_
    refine lv_iconst (v := (0 : Int32)) hx hb dL_upland_15 (by decide) ?_
    exact wr_ret C hP hD hS (h0 hz0).1.symm (h0 hz0).2.symm rfl dL_upland_16
abbrev rm_L_count : Room := { frames := 7, cells := 1, slots := 6, locals := 111 }
theorem nd_L_count : yL_count.cls ≠ "java/lang/invoke/MethodHandle" ∧ yL_count.cls ≠ "java/lang/invoke/VarHandle" ∧ (parseMethodDescriptor yL_count.desc).map (fun d => d.parameters.length) = some 3 := by decide +kernel
set_option maxHeartbeats 4000000 in
set_option maxRecDepth 100000 in
theorem cwr_count {N : Nat} {x1 : Int32} {σ : Sg} {z : Zt} {o o' : Int64} {k : Int32} (hX : xOK g X) (hst : l.stackTraces = false) (hf : f_X11_count_0 N x1 σ = some z) (h0 : z.1 = 0 → k = 0 ∧ o' = z.2.1.toInt64) (hz : ¬ z.1 = 2) (h1 : z.1 = 1 → k = 1 ∧ o' = o) : MetW l yL_count (Cond.codeWith yL_count cL_count 4 (some .int) [(0, 9, 12, 18)] :: wsA) rm_L_count 1 6 g X [.ref (g.2.2 0), .int x1, .ref (g.2.2 70)] σ o k z.2.2 o' := by
  refine MetW_of hX (by decide) (Nat.le_of_ble_eq_true rfl) (fun p e s m args below meth c A C htab ls hP hD hS hl => ?_)
  obtain ⟨hx, hb, hr, hml, hown, hts, hK, hlocks, hXX, hA, hXo⟩ := id C
  have hl : lv_has ls 4 [(0, .ref (g.2.2 0)), (1, .int x1), (2, .ref (g.2.2 70))] := hl
  refine lv_aload_n hx hb dL_count_0 rfl (lv_at hl 2 rfl) ?_
  refine lv_iconst (v := (0 : Int32)) hx hb dL_count_1 (by decide) ?_
  refine lv_aload_n hx hb dL_count_2 rfl (lv_at hl 0 rfl) ?_
  refine lv_iload_n hx hb dL_count_3 rfl (lv_at hl 1 rfl) ?_
  refine wr_T (rest := [.int (0 : Int32), .ref (g.2.2 70)]) [.int x1] C hP hD hS hl.1 (c_X11_count_0 hXo hst hf) (cwA_V 1 hts wa_641 wa_638 wa_639 wa_640 wa_2 rfl rfl nd_X11_count ⟨Nat.le_of_ble_eq_true rfl, Nat.le_of_ble_eq_true rfl⟩) rfl rfl (Nat.le_of_ble_eq_true rfl) dL_count_4 ⟨Nat.le_of_ble_eq_true rfl, Nat.le_of_ble_eq_true rfl⟩ (fun E ce q9 H locs hE hP hD hS hq9 hcv hcl => ?_) (fun hz0 H locs hP hD hS => ?_)
  · rcases hE with ⟨hE1, rfl⟩ | ⟨hE1, rfl⟩
    · refine vx_catch hown [] ⟨0, 9, 12, 18⟩ [] (htab.trans rfl) (fun _ h => nomatch h) (by decide) (by decide) (hts _ wa_637) ((hXo.2.2.2 _ _ _ hXX).2.2.1 _ _ (List.mem_append_right _ castN)) hq9 hcv hcl ?_
      refine lv_astore_n (lv' := [(3, .ref q9), (0, .ref (g.2.2 0)), (1, .int x1), (2, .ref (g.2.2 70))]) hx hb dL_count_12 rfl hl (by decide) rfl (fun ls hl => ?_)
      refine lv_iconst (v := (1 : Int32)) hx hb dL_count_13 (by decide) ?_
      exact wr_ret C hP hD hS (h1 hE1).1.symm (h1 hE1).2.symm rfl dL_count_14
    · exact absurd hE1 hz
  · refine lv_i2l hx hb dL_count_7 rfl ?_
    refine wr_last C hP hD hS dL_count_8 (fun H locs hP hD hS => ?_)
    refine lv_goto (tgt := 15) hx hb dL_count_9 (by decide) ?_
    refine lv_iconst (v := (0 : Int32)) hx hb dL_count_15 (by decide) ?_
    exact wr_ret C hP hD hS (h0 hz0).1.symm (h0 hz0).2.symm rfl dL_count_16
abbrev rm_L_farm : Room := { frames := 8, cells := 2, slots := 12, locals := 134 }
theorem nd_L_farm : yL_farm.cls ≠ "java/lang/invoke/MethodHandle" ∧ yL_farm.cls ≠ "java/lang/invoke/VarHandle" ∧ (parseMethodDescriptor yL_farm.desc).map (fun d => d.parameters.length) = some 4 := by decide +kernel
set_option maxHeartbeats 4000000 in
set_option maxRecDepth 100000 in
theorem cwr_farm {N : Nat} {x1 : Int32} {x2 : Int32} {σ : Sg} {z : Zt} {o o' : Int64} {k : Int32} (hX : xOK g X) (hst : l.stackTraces = false) (hf : f_X11_farm_0 N x1 x2 σ = some z) (h0 : z.1 = 0 → k = 0 ∧ o' = z.2.1.toInt64) (hz : ¬ z.1 = 2) (h1 : z.1 = 1 → k = 1 ∧ o' = o) : MetW l yL_farm (Cond.codeWith yL_farm cL_farm 5 (some .int) [(0, 10, 13, 18)] :: wsA) rm_L_farm 2 12 g X [.ref (g.2.2 0), .int x1, .int x2, .ref (g.2.2 70)] σ o k z.2.2 o' := by
  refine MetW_of hX (by decide) (Nat.le_of_ble_eq_true rfl) (fun p e s m args below meth c A C htab ls hP hD hS hl => ?_)
  obtain ⟨hx, hb, hr, hml, hown, hts, hK, hlocks, hXX, hA, hXo⟩ := id C
  have hl : lv_has ls 5 [(0, .ref (g.2.2 0)), (1, .int x1), (2, .int x2), (3, .ref (g.2.2 70))] := hl
  refine lv_aload_n hx hb dL_farm_0 rfl (lv_at hl 3 rfl) ?_
  refine lv_iconst (v := (0 : Int32)) hx hb dL_farm_1 (by decide) ?_
  refine lv_aload_n hx hb dL_farm_2 rfl (lv_at hl 0 rfl) ?_
  refine lv_iload_n hx hb dL_farm_3 rfl (lv_at hl 1 rfl) ?_
  refine lv_iload_n hx hb dL_farm_4 rfl (lv_at hl 2 rfl) ?_
  refine wr_T (rest := [.int (0 : Int32), .ref (g.2.2 70)]) [.int x1, .int x2] C hP hD hS hl.1 (c_X11_farm_0 hXo hst hf) (cwA_V 2 hts wa_780 wa_777 wa_778 wa_779 wa_2 rfl rfl nd_X11_farm ⟨Nat.le_of_ble_eq_true rfl, Nat.le_of_ble_eq_true rfl⟩) rfl rfl (Nat.le_of_ble_eq_true rfl) dL_farm_5 ⟨Nat.le_of_ble_eq_true rfl, Nat.le_of_ble_eq_true rfl⟩ (fun E ce q9 H locs hE hP hD hS hq9 hcv hcl => ?_) (fun hz0 H locs hP hD hS => ?_)
  · rcases hE with ⟨hE1, rfl⟩ | ⟨hE1, rfl⟩
    · refine vx_catch hown [] ⟨0, 10, 13, 18⟩ [] (htab.trans rfl) (fun _ h => nomatch h) (by decide) (by decide) (hts _ wa_637) ((hXo.2.2.2 _ _ _ hXX).2.2.1 _ _ (List.mem_append_right _ castN)) hq9 hcv hcl ?_
      refine lv_astore (lv' := [(4, .ref q9), (0, .ref (g.2.2 0)), (1, .int x1), (2, .int x2), (3, .ref (g.2.2 70))]) hx hb dL_farm_13 hl (by decide) rfl (fun ls hl => ?_)
      refine lv_iconst (v := (1 : Int32)) hx hb dL_farm_15 (by decide) ?_
      exact wr_ret C hP hD hS (h1 hE1).1.symm (h1 hE1).2.symm rfl dL_farm_16
    · exact absurd hE1 hz
  · refine lv_i2l hx hb dL_farm_8 rfl ?_
    refine wr_last C hP hD hS dL_farm_9 (fun H locs hP hD hS => ?_)
    refine lv_goto (tgt := 17) hx hb dL_farm_10 (by decide) ?_
    refine lv_iconst (v := (0 : Int32)) hx hb dL_farm_17 (by decide) ?_
    exact wr_ret C hP hD hS (h0 hz0).1.symm (h0 hz0).2.symm rfl dL_farm_18
abbrev rm_L_begin : Room := { frames := 8, cells := 1, slots := 6, locals := 132 }
theorem nd_L_begin : yL_begin.cls ≠ "java/lang/invoke/MethodHandle" ∧ yL_begin.cls ≠ "java/lang/invoke/VarHandle" ∧ (parseMethodDescriptor yL_begin.desc).map (fun d => d.parameters.length) = some 3 := by decide +kernel
set_option maxHeartbeats 4000000 in
set_option maxRecDepth 100000 in
theorem cwr_begin {N : Nat} {x1 : Int32} {σ : Sg} {z : Zt} {o o' : Int64} {k : Int32} (hX : xOK g X) (hst : l.stackTraces = false) (hf : f_X11_begin_0 N x1 σ = some z) (h0 : z.1 = 0 → k = 0 ∧ o' = (if z.2.1 = 0 then (0 : Int64) else 1)) (hz : ¬ z.1 = 2) (h1 : z.1 = 1 → k = 1 ∧ o' = o) : MetW l yL_begin (Cond.codeWith yL_begin cL_begin 4 (some .int) [(0, 16, 19, 18)] :: wsA) rm_L_begin 1 6 g X [.ref (g.2.2 0), .int x1, .ref (g.2.2 70)] σ o k z.2.2 o' := by
  refine MetW_of hX (by decide) (Nat.le_of_ble_eq_true rfl) (fun p e s m args below meth c A C htab ls hP hD hS hl => ?_)
  obtain ⟨hx, hb, hr, hml, hown, hts, hK, hlocks, hXX, hA, hXo⟩ := id C
  have hl : lv_has ls 4 [(0, .ref (g.2.2 0)), (1, .int x1), (2, .ref (g.2.2 70))] := hl
  refine lv_aload_n hx hb dL_begin_0 rfl (lv_at hl 2 rfl) ?_
  refine lv_iconst (v := (0 : Int32)) hx hb dL_begin_1 (by decide) ?_
  refine lv_aload_n hx hb dL_begin_2 rfl (lv_at hl 0 rfl) ?_
  refine lv_iload_n hx hb dL_begin_3 rfl (lv_at hl 1 rfl) ?_
  refine wr_T (rest := [.int (0 : Int32), .ref (g.2.2 70)]) [.int x1] C hP hD hS hl.1 (c_X11_begin_0 hXo hst hf) (cwA_V 1 hts wa_922 wa_919 wa_920 wa_921 wa_2 rfl rfl nd_X11_begin ⟨Nat.le_of_ble_eq_true rfl, Nat.le_of_ble_eq_true rfl⟩) rfl rfl (Nat.le_of_ble_eq_true rfl) dL_begin_4 ⟨Nat.le_of_ble_eq_true rfl, Nat.le_of_ble_eq_true rfl⟩ (fun E ce q9 H locs hE hP hD hS hq9 hcv hcl => ?_) (fun hz0 H locs hP hD hS => ?_)
  · rcases hE with ⟨hE1, rfl⟩ | ⟨hE1, rfl⟩
    · refine vx_catch hown [] ⟨0, 16, 19, 18⟩ [] (htab.trans rfl) (fun _ h => nomatch h) (by decide) (by decide) (hts _ wa_637) ((hXo.2.2.2 _ _ _ hXX).2.2.1 _ _ (List.mem_append_right _ castN)) hq9 hcv hcl ?_
      refine lv_astore_n (lv' := [(3, .ref q9), (0, .ref (g.2.2 0)), (1, .int x1), (2, .ref (g.2.2 70))]) hx hb dL_begin_19 rfl hl (by decide) rfl (fun ls hl => ?_)
      refine lv_iconst (v := (1 : Int32)) hx hb dL_begin_20 (by decide) ?_
      exact wr_ret C hP hD hS (h1 hE1).1.symm (h1 hE1).2.symm rfl dL_begin_21
    · exact absurd hE1 hz
  · refine lv_if_eq (tgt := 14) hx hb dL_begin_7 (by decide) (fun t => ?_) (fun t => ?_)
    · refine lv_lconst (v := (0 : Int64)) hx hb dL_begin_14 (by decide) ?_
      refine wr_last C hP hD hS dL_begin_15 (fun H locs hP hD hS => ?_)
      refine lv_goto (tgt := 22) hx hb dL_begin_16 (by decide) ?_
      refine lv_iconst (v := (0 : Int32)) hx hb dL_begin_22 (by decide) ?_
      exact wr_ret C hP hD hS (h0 hz0).1.symm (by rw [(h0 hz0).2, if_pos t]) rfl dL_begin_23
    · refine lv_lconst (v := (1 : Int64)) hx hb dL_begin_10 (by decide) ?_
      refine lv_goto (tgt := 15) hx hb dL_begin_11 (by decide) ?_
      refine wr_last C hP hD hS dL_begin_15 (fun H locs hP hD hS => ?_)
      refine lv_goto (tgt := 22) hx hb dL_begin_16 (by decide) ?_
      refine lv_iconst (v := (0 : Int32)) hx hb dL_begin_22 (by decide) ?_
      exact wr_ret C hP hD hS (h0 hz0).1.symm (by rw [(h0 hz0).2, if_neg t]) rfl dL_begin_23
abbrev rm_L_sleep : Room := { frames := 8, cells := 1, slots := 6, locals := 133 }
theorem nd_L_sleep : yL_sleep.cls ≠ "java/lang/invoke/MethodHandle" ∧ yL_sleep.cls ≠ "java/lang/invoke/VarHandle" ∧ (parseMethodDescriptor yL_sleep.desc).map (fun d => d.parameters.length) = some 4 := by decide +kernel
set_option maxHeartbeats 4000000 in
set_option maxRecDepth 100000 in
theorem cwr_sleep {N : Nat} {x1 : Int32} {x2 : Int32} {σ : Sg} {z : Zt} {o o' : Int64} {k : Int32} (hX : xOK g X) (hst : l.stackTraces = false) (hf : f_X11_sleep_0 N x1 x2 σ = some z) (h0 : z.1 = 0 → k = 0 ∧ o' = (if z.2.1 = 0 then (0 : Int64) else 1)) (hz : ¬ z.1 = 2) (h1 : z.1 = 1 → k = 1 ∧ o' = o) : MetW l yL_sleep (Cond.codeWith yL_sleep cL_sleep 5 (some .int) [(0, 17, 20, 18)] :: wsA) rm_L_sleep 1 6 g X [.ref (g.2.2 0), .int x1, .int x2, .ref (g.2.2 70)] σ o k z.2.2 o' := by
  refine MetW_of hX (by decide) (Nat.le_of_ble_eq_true rfl) (fun p e s m args below meth c A C htab ls hP hD hS hl => ?_)
  obtain ⟨hx, hb, hr, hml, hown, hts, hK, hlocks, hXX, hA, hXo⟩ := id C
  have hl : lv_has ls 5 [(0, .ref (g.2.2 0)), (1, .int x1), (2, .int x2), (3, .ref (g.2.2 70))] := hl
  refine lv_aload_n hx hb dL_sleep_0 rfl (lv_at hl 3 rfl) ?_
  refine lv_iconst (v := (0 : Int32)) hx hb dL_sleep_1 (by decide) ?_
  refine lv_aload_n hx hb dL_sleep_2 rfl (lv_at hl 0 rfl) ?_
  refine lv_iload_n hx hb dL_sleep_3 rfl (lv_at hl 1 rfl) ?_
  refine lv_iload_n hx hb dL_sleep_4 rfl (lv_at hl 2 rfl) ?_
  refine wr_T (rest := [.int (0 : Int32), .ref (g.2.2 70)]) [.int x1, .int x2] C hP hD hS hl.1 (c_X11_sleep_0 hXo hst hf) (cwA_V 2 hts wa_954 wa_951 wa_952 wa_953 wa_2 rfl rfl nd_X11_sleep ⟨Nat.le_of_ble_eq_true rfl, Nat.le_of_ble_eq_true rfl⟩) rfl rfl (Nat.le_of_ble_eq_true rfl) dL_sleep_5 ⟨Nat.le_of_ble_eq_true rfl, Nat.le_of_ble_eq_true rfl⟩ (fun E ce q9 H locs hE hP hD hS hq9 hcv hcl => ?_) (fun hz0 H locs hP hD hS => ?_)
  · rcases hE with ⟨hE1, rfl⟩ | ⟨hE1, rfl⟩
    · refine vx_catch hown [] ⟨0, 17, 20, 18⟩ [] (htab.trans rfl) (fun _ h => nomatch h) (by decide) (by decide) (hts _ wa_637) ((hXo.2.2.2 _ _ _ hXX).2.2.1 _ _ (List.mem_append_right _ castN)) hq9 hcv hcl ?_
      refine lv_astore (lv' := [(4, .ref q9), (0, .ref (g.2.2 0)), (1, .int x1), (2, .int x2), (3, .ref (g.2.2 70))]) hx hb dL_sleep_20 hl (by decide) rfl (fun ls hl => ?_)
      refine lv_iconst (v := (1 : Int32)) hx hb dL_sleep_22 (by decide) ?_
      exact wr_ret C hP hD hS (h1 hE1).1.symm (h1 hE1).2.symm rfl dL_sleep_23
    · exact absurd hE1 hz
  · refine lv_if_eq (tgt := 15) hx hb dL_sleep_8 (by decide) (fun t => ?_) (fun t => ?_)
    · refine lv_lconst (v := (0 : Int64)) hx hb dL_sleep_15 (by decide) ?_
      refine wr_last C hP hD hS dL_sleep_16 (fun H locs hP hD hS => ?_)
      refine lv_goto (tgt := 24) hx hb dL_sleep_17 (by decide) ?_
      refine lv_iconst (v := (0 : Int32)) hx hb dL_sleep_24 (by decide) ?_
      exact wr_ret C hP hD hS (h0 hz0).1.symm (by rw [(h0 hz0).2, if_pos t]) rfl dL_sleep_25
    · refine lv_lconst (v := (1 : Int64)) hx hb dL_sleep_11 (by decide) ?_
      refine lv_goto (tgt := 16) hx hb dL_sleep_12 (by decide) ?_
      refine wr_last C hP hD hS dL_sleep_16 (fun H locs hP hD hS => ?_)
      refine lv_goto (tgt := 24) hx hb dL_sleep_17 (by decide) ?_
      refine lv_iconst (v := (0 : Int32)) hx hb dL_sleep_24 (by decide) ?_
      exact wr_ret C hP hD hS (h0 hz0).1.symm (by rw [(h0 hz0).2, if_neg t]) rfl dL_sleep_25
abbrev rm_L_hat : Room := { frames := 8, cells := 1, slots := 6, locals := 138 }
theorem nd_L_hat : yL_hat.cls ≠ "java/lang/invoke/MethodHandle" ∧ yL_hat.cls ≠ "java/lang/invoke/VarHandle" ∧ (parseMethodDescriptor yL_hat.desc).map (fun d => d.parameters.length) = some 4 := by decide +kernel
set_option maxHeartbeats 4000000 in
set_option maxRecDepth 100000 in
theorem cwr_hat {N : Nat} {x1 : Int32} {x2 : Int32} {σ : Sg} {z : Zt} {o o' : Int64} {k : Int32} (hX : xOK g X) (hst : l.stackTraces = false) (hf : f_X11_hat_0 N x1 x2 σ = some z) (h0 : z.1 = 0 → k = 0 ∧ o' = z.2.1.toInt64) (hz : ¬ z.1 = 2) (h1 : z.1 = 1 → k = 1 ∧ o' = o) : MetW l yL_hat (Cond.codeWith yL_hat cL_hat 5 (some .int) [(0, 10, 13, 18)] :: wsA) rm_L_hat 1 6 g X [.ref (g.2.2 0), .int x1, .int x2, .ref (g.2.2 70)] σ o k z.2.2 o' := by
  refine MetW_of hX (by decide) (Nat.le_of_ble_eq_true rfl) (fun p e s m args below meth c A C htab ls hP hD hS hl => ?_)
  obtain ⟨hx, hb, hr, hml, hown, hts, hK, hlocks, hXX, hA, hXo⟩ := id C
  have hl : lv_has ls 5 [(0, .ref (g.2.2 0)), (1, .int x1), (2, .int x2), (3, .ref (g.2.2 70))] := hl
  refine lv_aload_n hx hb dL_hat_0 rfl (lv_at hl 3 rfl) ?_
  refine lv_iconst (v := (0 : Int32)) hx hb dL_hat_1 (by decide) ?_
  refine lv_aload_n hx hb dL_hat_2 rfl (lv_at hl 0 rfl) ?_
  refine lv_iload_n hx hb dL_hat_3 rfl (lv_at hl 1 rfl) ?_
  refine lv_iload_n hx hb dL_hat_4 rfl (lv_at hl 2 rfl) ?_
  refine wr_T (rest := [.int (0 : Int32), .ref (g.2.2 70)]) [.int x1, .int x2] C hP hD hS hl.1 (c_X11_hat_0 hXo hst hf) (cwA_V 2 hts wa_973 wa_970 wa_971 wa_972 wa_2 rfl rfl nd_X11_hat ⟨Nat.le_of_ble_eq_true rfl, Nat.le_of_ble_eq_true rfl⟩) rfl rfl (Nat.le_of_ble_eq_true rfl) dL_hat_5 ⟨Nat.le_of_ble_eq_true rfl, Nat.le_of_ble_eq_true rfl⟩ (fun E ce q9 H locs hE hP hD hS hq9 hcv hcl => ?_) (fun hz0 H locs hP hD hS => ?_)
  · rcases hE with ⟨hE1, rfl⟩ | ⟨hE1, rfl⟩
    · refine vx_catch hown [] ⟨0, 10, 13, 18⟩ [] (htab.trans rfl) (fun _ h => nomatch h) (by decide) (by decide) (hts _ wa_637) ((hXo.2.2.2 _ _ _ hXX).2.2.1 _ _ (List.mem_append_right _ castN)) hq9 hcv hcl ?_
      refine lv_astore (lv' := [(4, .ref q9), (0, .ref (g.2.2 0)), (1, .int x1), (2, .int x2), (3, .ref (g.2.2 70))]) hx hb dL_hat_13 hl (by decide) rfl (fun ls hl => ?_)
      refine lv_iconst (v := (1 : Int32)) hx hb dL_hat_15 (by decide) ?_
      exact wr_ret C hP hD hS (h1 hE1).1.symm (h1 hE1).2.symm rfl dL_hat_16
    · exact absurd hE1 hz
  · refine lv_i2l hx hb dL_hat_8 rfl ?_
    refine wr_last C hP hD hS dL_hat_9 (fun H locs hP hD hS => ?_)
    refine lv_goto (tgt := 17) hx hb dL_hat_10 (by decide) ?_
    refine lv_iconst (v := (0 : Int32)) hx hb dL_hat_17 (by decide) ?_
    exact wr_ret C hP hD hS (h0 hz0).1.symm (h0 hz0).2.symm rfl dL_hat_18
abbrev rm_L_nodding : Room := { frames := 8, cells := 1, slots := 6, locals := 167 }
theorem nd_L_nodding : yL_nodding.cls ≠ "java/lang/invoke/MethodHandle" ∧ yL_nodding.cls ≠ "java/lang/invoke/VarHandle" ∧ (parseMethodDescriptor yL_nodding.desc).map (fun d => d.parameters.length) = some 3 := by decide +kernel
set_option maxHeartbeats 4000000 in
set_option maxRecDepth 100000 in
theorem cwr_nodding {N : Nat} {x1 : Int32} {σ : Sg} {z : Zt} {o o' : Int64} {k : Int32} (hX : xOK g X) (hst : l.stackTraces = false) (hf : f_X11_nodding_0 N x1 σ = some z) (h0 : z.1 = 0 → k = 0 ∧ o' = z.2.1.toInt64) (hz : ¬ z.1 = 1) (h2 : z.1 = 2 → k = 1 ∧ o' = o) : MetW l yL_nodding (Cond.codeWith yL_nodding cL_nodding 4 (some .int) [(0, 9, 12, 13)] :: wsA) rm_L_nodding 1 6 g X [.ref (g.2.2 0), .int x1, .ref (g.2.2 70)] σ o k z.2.2 o' := by
  refine MetW_of hX (by decide) (Nat.le_of_ble_eq_true rfl) (fun p e s m args below meth c A C htab ls hP hD hS hl => ?_)
  obtain ⟨hx, hb, hr, hml, hown, hts, hK, hlocks, hXX, hA, hXo⟩ := id C
  have hl : lv_has ls 4 [(0, .ref (g.2.2 0)), (1, .int x1), (2, .ref (g.2.2 70))] := hl
  refine lv_aload_n hx hb dL_nodding_0 rfl (lv_at hl 2 rfl) ?_
  refine lv_iconst (v := (0 : Int32)) hx hb dL_nodding_1 (by decide) ?_
  refine lv_aload_n hx hb dL_nodding_2 rfl (lv_at hl 0 rfl) ?_
  refine lv_iload_n hx hb dL_nodding_3 rfl (lv_at hl 1 rfl) ?_
  refine wr_T (rest := [.int (0 : Int32), .ref (g.2.2 70)]) [.int x1] C hP hD hS hl.1 (c_X11_nodding_0 hXo hst hf) (cwA_V 1 hts wa_1017 wa_1014 wa_1015 wa_1016 wa_2 rfl rfl nd_X11_nodding ⟨Nat.le_of_ble_eq_true rfl, Nat.le_of_ble_eq_true rfl⟩) rfl rfl (Nat.le_of_ble_eq_true rfl) dL_nodding_4 ⟨Nat.le_of_ble_eq_true rfl, Nat.le_of_ble_eq_true rfl⟩ (fun E ce q9 H locs hE hP hD hS hq9 hcv hcl => ?_) (fun hz0 H locs hP hD hS => ?_)
  · rcases hE with ⟨hE1, rfl⟩ | ⟨hE1, rfl⟩
    · exact absurd hE1 hz
    · refine vx_catch hown [] ⟨0, 9, 12, 13⟩ [] (htab.trans rfl) (fun _ h => nomatch h) (by decide) (by decide) (hts _ wa_211) ((hXo.2.2.2 _ _ _ hXX).2.2.1 _ _ (List.mem_append_left _ castI)) hq9 hcv hcl ?_
      refine lv_astore_n (lv' := [(3, .ref q9), (0, .ref (g.2.2 0)), (1, .int x1), (2, .ref (g.2.2 70))]) hx hb dL_nodding_12 rfl hl (by decide) rfl (fun ls hl => ?_)
      refine lv_iconst (v := (1 : Int32)) hx hb dL_nodding_13 (by decide) ?_
      exact wr_ret C hP hD hS (h2 hE1).1.symm (h2 hE1).2.symm rfl dL_nodding_14
  · refine lv_i2l hx hb dL_nodding_7 rfl ?_
    refine wr_last C hP hD hS dL_nodding_8 (fun H locs hP hD hS => ?_)
    refine lv_goto (tgt := 15) hx hb dL_nodding_9 (by decide) ?_
    refine lv_iconst (v := (0 : Int32)) hx hb dL_nodding_15 (by decide) ?_
    exact wr_ret C hP hD hS (h0 hz0).1.symm (h0 hz0).2.symm rfl dL_nodding_16
abbrev rm_L_then : Room := { frames := 8, cells := 3, slots := 18, locals := 168 }
theorem nd_L_then : yL_then.cls ≠ "java/lang/invoke/MethodHandle" ∧ yL_then.cls ≠ "java/lang/invoke/VarHandle" ∧ (parseMethodDescriptor yL_then.desc).map (fun d => d.parameters.length) = some 5 := by decide +kernel
set_option maxHeartbeats 4000000 in
set_option maxRecDepth 100000 in
theorem cwr_then {N : Nat} {x1 : Int32} {x2 : Int32} {x3 : Int32} {σ : Sg} {z : Zt} {o o' : Int64} {k : Int32} (hX : xOK g X) (hst : l.stackTraces = false) (hf : f_X11_then_0 N x1 x2 x3 σ = some z) (h0 : z.1 = 0 → k = 0 ∧ o' = z.2.1.toInt64) (h1 : z.1 = 1 → k = 1 ∧ o' = o) (h2 : z.1 = 2 → k = 2 ∧ o' = o) : MetW l yL_then (Cond.codeWith yL_then cL_then 6 (some .int) [(0, 12, 15, 18), (0, 12, 19, 13)] :: wsA) rm_L_then 3 18 g X [.ref (g.2.2 0), .int x1, .int x2, .int x3, .ref (g.2.2 70)] σ o k z.2.2 o' := by
  refine MetW_of hX (by decide) (Nat.le_of_ble_eq_true rfl) (fun p e s m args below meth c A C htab ls hP hD hS hl => ?_)
  obtain ⟨hx, hb, hr, hml, hown, hts, hK, hlocks, hXX, hA, hXo⟩ := id C
  have hl : lv_has ls 6 [(0, .ref (g.2.2 0)), (1, .int x1), (2, .int x2), (3, .int x3), (4, .ref (g.2.2 70))] := hl
  refine lv_aload hx hb dL_then_0 (lv_at hl 4 rfl) ?_
  refine lv_iconst (v := (0 : Int32)) hx hb dL_then_2 (by decide) ?_
  refine lv_aload_n hx hb dL_then_3 rfl (lv_at hl 0 rfl) ?_
  refine lv_iload_n hx hb dL_then_4 rfl (lv_at hl 1 rfl) ?_
  refine lv_iload_n hx hb dL_then_5 rfl (lv_at hl 2 rfl) ?_
  refine lv_iload_n hx hb dL_then_6 rfl (lv_at hl 3 rfl) ?_
  refine wr_T (rest := [.int (0 : Int32), .ref (g.2.2 70)]) [.int x1, .int x2, .int x3] C hP hD hS hl.1 (c_X11_then_0 hXo hst hf) (cwA_V 3 hts wa_1032 wa_1029 wa_1030 wa_1031 wa_2 rfl rfl nd_X11_then ⟨Nat.le_of_ble_eq_true rfl, Nat.le_of_ble_eq_true rfl⟩) rfl rfl (Nat.le_of_ble_eq_true rfl) dL_then_7 ⟨Nat.le_of_ble_eq_true rfl, Nat.le_of_ble_eq_true rfl⟩ (fun E ce q9 H locs hE hP hD hS hq9 hcv hcl => ?_) (fun hz0 H locs hP hD hS => ?_)
  · rcases hE with ⟨hE1, rfl⟩ | ⟨hE1, rfl⟩
    · refine vx_catch hown [] ⟨0, 12, 15, 18⟩ [(⟨0, 12, 19, 13⟩ : ExceptionTableEntry)] (htab.trans rfl) (fun _ h => nomatch h) (by decide) (by decide) (hts _ wa_637) ((hXo.2.2.2 _ _ _ hXX).2.2.1 _ _ (List.mem_append_right _ castN)) hq9 hcv hcl ?_
      refine lv_astore (lv' := [(5, .ref q9), (0, .ref (g.2.2 0)), (1, .int x1), (2, .int x2), (3, .int x3), (4, .ref (g.2.2 70))]) hx hb dL_then_15 hl (by decide) rfl (fun ls hl => ?_)
      refine lv_iconst (v := (1 : Int32)) hx hb dL_then_17 (by decide) ?_
      exact wr_ret C hP hD hS (h1 hE1).1.symm (h1 hE1).2.symm rfl dL_then_18
    · refine vx_catch hown [(⟨0, 12, 15, 18⟩ : ExceptionTableEntry)] ⟨0, 12, 19, 13⟩ [] (htab.trans rfl) (fun y hy => Or.inr ⟨by rw [List.mem_singleton.mp hy]; decide, "java/util/NoSuchElementException", by rw [List.mem_singleton.mp hy]; exact hts _ wa_637, (hXo.2.2.2 _ _ _ hXX).1.2.2.2.2⟩) (by decide) (by decide) (hts _ wa_211) ((hXo.2.2.2 _ _ _ hXX).2.2.1 _ _ (List.mem_append_left _ castI)) hq9 hcv hcl ?_
      refine lv_astore (lv' := [(5, .ref q9), (0, .ref (g.2.2 0)), (1, .int x1), (2, .int x2), (3, .int x3), (4, .ref (g.2.2 70))]) hx hb dL_then_19 hl (by decide) rfl (fun ls hl => ?_)
      refine lv_iconst (v := (2 : Int32)) hx hb dL_then_21 (by decide) ?_
      exact wr_ret C hP hD hS (h2 hE1).1.symm (h2 hE1).2.symm rfl dL_then_22
  · refine lv_i2l hx hb dL_then_10 rfl ?_
    refine wr_last C hP hD hS dL_then_11 (fun H locs hP hD hS => ?_)
    refine lv_goto (tgt := 23) hx hb dL_then_12 (by decide) ?_
    refine lv_iconst (v := (0 : Int32)) hx hb dL_then_23 (by decide) ?_
    exact wr_ret C hP hD hS (h0 hz0).1.symm (h0 hz0).2.symm rfl dL_then_24
abbrev rm_L_first : Room := { frames := 8, cells := 1, slots := 6, locals := 183 }
theorem nd_L_first : yL_first.cls ≠ "java/lang/invoke/MethodHandle" ∧ yL_first.cls ≠ "java/lang/invoke/VarHandle" ∧ (parseMethodDescriptor yL_first.desc).map (fun d => d.parameters.length) = some 3 := by decide +kernel
set_option maxHeartbeats 4000000 in
set_option maxRecDepth 100000 in
theorem cwr_first {N : Nat} {x1 : Int32} {σ : Sg} {z : Zt} {o o' : Int64} {k : Int32} (hX : xOK g X) (hst : l.stackTraces = false) (hf : f_X11_first_0 N x1 σ = some z) (h0 : z.1 = 0 → k = 0 ∧ o' = z.2.1.toInt64) (hz : ¬ z.1 = 2) (h1 : z.1 = 1 → k = 1 ∧ o' = o) : MetW l yL_first (Cond.codeWith yL_first cL_first 4 (some .int) [(0, 9, 12, 18)] :: wsA) rm_L_first 1 6 g X [.ref (g.2.2 0), .int x1, .ref (g.2.2 70)] σ o k z.2.2 o' := by
  refine MetW_of hX (by decide) (Nat.le_of_ble_eq_true rfl) (fun p e s m args below meth c A C htab ls hP hD hS hl => ?_)
  obtain ⟨hx, hb, hr, hml, hown, hts, hK, hlocks, hXX, hA, hXo⟩ := id C
  have hl : lv_has ls 4 [(0, .ref (g.2.2 0)), (1, .int x1), (2, .ref (g.2.2 70))] := hl
  refine lv_aload_n hx hb dL_first_0 rfl (lv_at hl 2 rfl) ?_
  refine lv_iconst (v := (0 : Int32)) hx hb dL_first_1 (by decide) ?_
  refine lv_aload_n hx hb dL_first_2 rfl (lv_at hl 0 rfl) ?_
  refine lv_iload_n hx hb dL_first_3 rfl (lv_at hl 1 rfl) ?_
  refine wr_T (rest := [.int (0 : Int32), .ref (g.2.2 70)]) [.int x1] C hP hD hS hl.1 (c_X11_first_0 hXo hst hf) (cwA_V 1 hts wa_1046 wa_1043 wa_1044 wa_1045 wa_2 rfl rfl nd_X11_first ⟨Nat.le_of_ble_eq_true rfl, Nat.le_of_ble_eq_true rfl⟩) rfl rfl (Nat.le_of_ble_eq_true rfl) dL_first_4 ⟨Nat.le_of_ble_eq_true rfl, Nat.le_of_ble_eq_true rfl⟩ (fun E ce q9 H locs hE hP hD hS hq9 hcv hcl => ?_) (fun hz0 H locs hP hD hS => ?_)
  · rcases hE with ⟨hE1, rfl⟩ | ⟨hE1, rfl⟩
    · refine vx_catch hown [] ⟨0, 9, 12, 18⟩ [] (htab.trans rfl) (fun _ h => nomatch h) (by decide) (by decide) (hts _ wa_637) ((hXo.2.2.2 _ _ _ hXX).2.2.1 _ _ (List.mem_append_right _ castN)) hq9 hcv hcl ?_
      refine lv_astore_n (lv' := [(3, .ref q9), (0, .ref (g.2.2 0)), (1, .int x1), (2, .ref (g.2.2 70))]) hx hb dL_first_12 rfl hl (by decide) rfl (fun ls hl => ?_)
      refine lv_iconst (v := (1 : Int32)) hx hb dL_first_13 (by decide) ?_
      exact wr_ret C hP hD hS (h1 hE1).1.symm (h1 hE1).2.symm rfl dL_first_14
    · exact absurd hE1 hz
  · refine lv_i2l hx hb dL_first_7 rfl ?_
    refine wr_last C hP hD hS dL_first_8 (fun H locs hP hD hS => ?_)
    refine lv_goto (tgt := 15) hx hb dL_first_9 (by decide) ?_
    refine lv_iconst (v := (0 : Int32)) hx hb dL_first_15 (by decide) ?_
    exact wr_ret C hP hD hS (h0 hz0).1.symm (h0 hz0).2.symm rfl dL_first_16
abbrev rm_L_loudest : Room := { frames := 8, cells := 1, slots := 6, locals := 169 }
theorem nd_L_loudest : yL_loudest.cls ≠ "java/lang/invoke/MethodHandle" ∧ yL_loudest.cls ≠ "java/lang/invoke/VarHandle" ∧ (parseMethodDescriptor yL_loudest.desc).map (fun d => d.parameters.length) = some 3 := by decide +kernel
set_option maxHeartbeats 4000000 in
set_option maxRecDepth 100000 in
theorem cwr_loudest {N : Nat} {x1 : Int32} {σ : Sg} {z : Zt} {o o' : Int64} {k : Int32} (hX : xOK g X) (hst : l.stackTraces = false) (hf : f_X11_loudest_0 N x1 σ = some z) (h0 : z.1 = 0 → k = 0 ∧ o' = z.2.1.toInt64) (hz : ¬ z.1 = 1) (h2 : z.1 = 2 → k = 1 ∧ o' = o) : MetW l yL_loudest (Cond.codeWith yL_loudest cL_loudest 4 (some .int) [(0, 9, 12, 13)] :: wsA) rm_L_loudest 1 6 g X [.ref (g.2.2 0), .int x1, .ref (g.2.2 70)] σ o k z.2.2 o' := by
  refine MetW_of hX (by decide) (Nat.le_of_ble_eq_true rfl) (fun p e s m args below meth c A C htab ls hP hD hS hl => ?_)
  obtain ⟨hx, hb, hr, hml, hown, hts, hK, hlocks, hXX, hA, hXo⟩ := id C
  have hl : lv_has ls 4 [(0, .ref (g.2.2 0)), (1, .int x1), (2, .ref (g.2.2 70))] := hl
  refine lv_aload_n hx hb dL_loudest_0 rfl (lv_at hl 2 rfl) ?_
  refine lv_iconst (v := (0 : Int32)) hx hb dL_loudest_1 (by decide) ?_
  refine lv_aload_n hx hb dL_loudest_2 rfl (lv_at hl 0 rfl) ?_
  refine lv_iload_n hx hb dL_loudest_3 rfl (lv_at hl 1 rfl) ?_
  refine wr_T (rest := [.int (0 : Int32), .ref (g.2.2 70)]) [.int x1] C hP hD hS hl.1 (c_X11_loudest_0 hXo hst hf) (cwA_V 1 hts wa_1070 wa_1067 wa_1068 wa_1069 wa_2 rfl rfl nd_X11_loudest ⟨Nat.le_of_ble_eq_true rfl, Nat.le_of_ble_eq_true rfl⟩) rfl rfl (Nat.le_of_ble_eq_true rfl) dL_loudest_4 ⟨Nat.le_of_ble_eq_true rfl, Nat.le_of_ble_eq_true rfl⟩ (fun E ce q9 H locs hE hP hD hS hq9 hcv hcl => ?_) (fun hz0 H locs hP hD hS => ?_)
  · rcases hE with ⟨hE1, rfl⟩ | ⟨hE1, rfl⟩
    · exact absurd hE1 hz
    · refine vx_catch hown [] ⟨0, 9, 12, 13⟩ [] (htab.trans rfl) (fun _ h => nomatch h) (by decide) (by decide) (hts _ wa_211) ((hXo.2.2.2 _ _ _ hXX).2.2.1 _ _ (List.mem_append_left _ castI)) hq9 hcv hcl ?_
      refine lv_astore_n (lv' := [(3, .ref q9), (0, .ref (g.2.2 0)), (1, .int x1), (2, .ref (g.2.2 70))]) hx hb dL_loudest_12 rfl hl (by decide) rfl (fun ls hl => ?_)
      refine lv_iconst (v := (1 : Int32)) hx hb dL_loudest_13 (by decide) ?_
      exact wr_ret C hP hD hS (h2 hE1).1.symm (h2 hE1).2.symm rfl dL_loudest_14
  · refine lv_i2l hx hb dL_loudest_7 rfl ?_
    refine wr_last C hP hD hS dL_loudest_8 (fun H locs hP hD hS => ?_)
    refine lv_goto (tgt := 15) hx hb dL_loudest_9 (by decide) ?_
    refine lv_iconst (v := (0 : Int32)) hx hb dL_loudest_15 (by decide) ?_
    exact wr_ret C hP hD hS (h0 hz0).1.symm (h0 hz0).2.symm rfl dL_loudest_16
abbrev rm_L_oftenest : Room := { frames := 8, cells := 1, slots := 6, locals := 168 }
theorem nd_L_oftenest : yL_oftenest.cls ≠ "java/lang/invoke/MethodHandle" ∧ yL_oftenest.cls ≠ "java/lang/invoke/VarHandle" ∧ (parseMethodDescriptor yL_oftenest.desc).map (fun d => d.parameters.length) = some 3 := by decide +kernel
set_option maxHeartbeats 4000000 in
set_option maxRecDepth 100000 in
theorem cwr_oftenest {N : Nat} {x1 : Int32} {σ : Sg} {z : Zt} {o o' : Int64} {k : Int32} (hX : xOK g X) (hst : l.stackTraces = false) (hf : f_X11_oftenest_0 N x1 σ = some z) (h0 : z.1 = 0 → k = 0 ∧ o' = z.2.1.toInt64) (hz : ¬ z.1 = 1) (h2 : z.1 = 2 → k = 1 ∧ o' = o) : MetW l yL_oftenest (Cond.codeWith yL_oftenest cL_oftenest 4 (some .int) [(0, 9, 12, 13)] :: wsA) rm_L_oftenest 1 6 g X [.ref (g.2.2 0), .int x1, .ref (g.2.2 70)] σ o k z.2.2 o' := by
  refine MetW_of hX (by decide) (Nat.le_of_ble_eq_true rfl) (fun p e s m args below meth c A C htab ls hP hD hS hl => ?_)
  obtain ⟨hx, hb, hr, hml, hown, hts, hK, hlocks, hXX, hA, hXo⟩ := id C
  have hl : lv_has ls 4 [(0, .ref (g.2.2 0)), (1, .int x1), (2, .ref (g.2.2 70))] := hl
  refine lv_aload_n hx hb dL_oftenest_0 rfl (lv_at hl 2 rfl) ?_
  refine lv_iconst (v := (0 : Int32)) hx hb dL_oftenest_1 (by decide) ?_
  refine lv_aload_n hx hb dL_oftenest_2 rfl (lv_at hl 0 rfl) ?_
  refine lv_iload_n hx hb dL_oftenest_3 rfl (lv_at hl 1 rfl) ?_
  refine wr_T (rest := [.int (0 : Int32), .ref (g.2.2 70)]) [.int x1] C hP hD hS hl.1 (c_X11_oftenest_0 hXo hst hf) (cwA_V 1 hts wa_1082 wa_1079 wa_1080 wa_1081 wa_2 rfl rfl nd_X11_oftenest ⟨Nat.le_of_ble_eq_true rfl, Nat.le_of_ble_eq_true rfl⟩) rfl rfl (Nat.le_of_ble_eq_true rfl) dL_oftenest_4 ⟨Nat.le_of_ble_eq_true rfl, Nat.le_of_ble_eq_true rfl⟩ (fun E ce q9 H locs hE hP hD hS hq9 hcv hcl => ?_) (fun hz0 H locs hP hD hS => ?_)
  · rcases hE with ⟨hE1, rfl⟩ | ⟨hE1, rfl⟩
    · exact absurd hE1 hz
    · refine vx_catch hown [] ⟨0, 9, 12, 13⟩ [] (htab.trans rfl) (fun _ h => nomatch h) (by decide) (by decide) (hts _ wa_211) ((hXo.2.2.2 _ _ _ hXX).2.2.1 _ _ (List.mem_append_left _ castI)) hq9 hcv hcl ?_
      refine lv_astore_n (lv' := [(3, .ref q9), (0, .ref (g.2.2 0)), (1, .int x1), (2, .ref (g.2.2 70))]) hx hb dL_oftenest_12 rfl hl (by decide) rfl (fun ls hl => ?_)
      refine lv_iconst (v := (1 : Int32)) hx hb dL_oftenest_13 (by decide) ?_
      exact wr_ret C hP hD hS (h2 hE1).1.symm (h2 hE1).2.symm rfl dL_oftenest_14
  · refine lv_i2l hx hb dL_oftenest_7 rfl ?_
    refine wr_last C hP hD hS dL_oftenest_8 (fun H locs hP hD hS => ?_)
    refine lv_goto (tgt := 15) hx hb dL_oftenest_9 (by decide) ?_
    refine lv_iconst (v := (0 : Int32)) hx hb dL_oftenest_15 (by decide) ?_
    exact wr_ret C hP hD hS (h0 hz0).1.symm (h0 hz0).2.symm rfl dL_oftenest_16
abbrev rm_L_reaches : Room := { frames := 9, cells := 2, slots := 12, locals := 189 }
theorem nd_L_reaches : yL_reaches.cls ≠ "java/lang/invoke/MethodHandle" ∧ yL_reaches.cls ≠ "java/lang/invoke/VarHandle" ∧ (parseMethodDescriptor yL_reaches.desc).map (fun d => d.parameters.length) = some 4 := by decide +kernel
set_option maxHeartbeats 4000000 in
set_option maxRecDepth 100000 in
theorem cwr_reaches {N : Nat} {x1 : Int32} {x2 : Int32} {σ : Sg} {z : Zt} {o o' : Int64} {k : Int32} (hX : xOK g X) (hst : l.stackTraces = false) (hf : f_X11_reaches_0 N x1 x2 σ = some z) (h0 : z.1 = 0 → k = 0 ∧ o' = z.2.1.toInt64) (hz : ¬ z.1 = 2) (h1 : z.1 = 1 → k = 1 ∧ o' = o) : MetW l yL_reaches (Cond.codeWith yL_reaches cL_reaches 5 (some .int) [(0, 10, 13, 18)] :: wsA) rm_L_reaches 2 12 g X [.ref (g.2.2 0), .int x1, .int x2, .ref (g.2.2 70)] σ o k z.2.2 o' := by
  refine MetW_of hX (by decide) (Nat.le_of_ble_eq_true rfl) (fun p e s m args below meth c A C htab ls hP hD hS hl => ?_)
  obtain ⟨hx, hb, hr, hml, hown, hts, hK, hlocks, hXX, hA, hXo⟩ := id C
  have hl : lv_has ls 5 [(0, .ref (g.2.2 0)), (1, .int x1), (2, .int x2), (3, .ref (g.2.2 70))] := hl
  refine lv_aload_n hx hb dL_reaches_0 rfl (lv_at hl 3 rfl) ?_
  refine lv_iconst (v := (0 : Int32)) hx hb dL_reaches_1 (by decide) ?_
  refine lv_aload_n hx hb dL_reaches_2 rfl (lv_at hl 0 rfl) ?_
  refine lv_iload_n hx hb dL_reaches_3 rfl (lv_at hl 1 rfl) ?_
  refine lv_iload_n hx hb dL_reaches_4 rfl (lv_at hl 2 rfl) ?_
  refine wr_T (rest := [.int (0 : Int32), .ref (g.2.2 70)]) [.int x1, .int x2] C hP hD hS hl.1 (c_X11_reaches_0 hXo hst hf) (cwA_V 2 hts wa_1094 wa_1091 wa_1092 wa_1093 wa_2 rfl rfl nd_X11_reaches ⟨Nat.le_of_ble_eq_true rfl, Nat.le_of_ble_eq_true rfl⟩) rfl rfl (Nat.le_of_ble_eq_true rfl) dL_reaches_5 ⟨Nat.le_of_ble_eq_true rfl, Nat.le_of_ble_eq_true rfl⟩ (fun E ce q9 H locs hE hP hD hS hq9 hcv hcl => ?_) (fun hz0 H locs hP hD hS => ?_)
  · rcases hE with ⟨hE1, rfl⟩ | ⟨hE1, rfl⟩
    · refine vx_catch hown [] ⟨0, 10, 13, 18⟩ [] (htab.trans rfl) (fun _ h => nomatch h) (by decide) (by decide) (hts _ wa_637) ((hXo.2.2.2 _ _ _ hXX).2.2.1 _ _ (List.mem_append_right _ castN)) hq9 hcv hcl ?_
      refine lv_astore (lv' := [(4, .ref q9), (0, .ref (g.2.2 0)), (1, .int x1), (2, .int x2), (3, .ref (g.2.2 70))]) hx hb dL_reaches_13 hl (by decide) rfl (fun ls hl => ?_)
      refine lv_iconst (v := (1 : Int32)) hx hb dL_reaches_15 (by decide) ?_
      exact wr_ret C hP hD hS (h1 hE1).1.symm (h1 hE1).2.symm rfl dL_reaches_16
    · exact absurd hE1 hz
  · refine lv_i2l hx hb dL_reaches_8 rfl ?_
    refine wr_last C hP hD hS dL_reaches_9 (fun H locs hP hD hS => ?_)
    refine lv_goto (tgt := 17) hx hb dL_reaches_10 (by decide) ?_
    refine lv_iconst (v := (0 : Int32)) hx hb dL_reaches_17 (by decide) ?_
    exact wr_ret C hP hD hS (h0 hz0).1.symm (h0 hz0).2.symm rfl dL_reaches_18
abbrev rm_L_reached : Room := { frames := 9, cells := 2, slots := 12, locals := 211 }
theorem nd_L_reached : yL_reached.cls ≠ "java/lang/invoke/MethodHandle" ∧ yL_reached.cls ≠ "java/lang/invoke/VarHandle" ∧ (parseMethodDescriptor yL_reached.desc).map (fun d => d.parameters.length) = some 4 := by decide +kernel
set_option maxHeartbeats 4000000 in
set_option maxRecDepth 100000 in
theorem cwr_reached {N : Nat} {x1 : Int32} {x2 : Int32} {σ : Sg} {z : Zt} {o o' : Int64} {k : Int32} (hX : xOK g X) (hst : l.stackTraces = false) (hf : f_X11_reached_0 N x1 x2 σ = some z) (h0 : z.1 = 0 → k = 0 ∧ o' = z.2.1.toInt64) (h1 : z.1 = 1 → k = 1 ∧ o' = o) (h2 : z.1 = 2 → k = 2 ∧ o' = o) : MetW l yL_reached (Cond.codeWith yL_reached cL_reached 5 (some .int) [(0, 10, 13, 18), (0, 10, 17, 13)] :: wsA) rm_L_reached 2 12 g X [.ref (g.2.2 0), .int x1, .int x2, .ref (g.2.2 70)] σ o k z.2.2 o' := by
  refine MetW_of hX (by decide) (Nat.le_of_ble_eq_true rfl) (fun p e s m args below meth c A C htab ls hP hD hS hl => ?_)
  obtain ⟨hx, hb, hr, hml, hown, hts, hK, hlocks, hXX, hA, hXo⟩ := id C
  have hl : lv_has ls 5 [(0, .ref (g.2.2 0)), (1, .int x1), (2, .int x2), (3, .ref (g.2.2 70))] := hl
  refine lv_aload_n hx hb dL_reached_0 rfl (lv_at hl 3 rfl) ?_
  refine lv_iconst (v := (0 : Int32)) hx hb dL_reached_1 (by decide) ?_
  refine lv_aload_n hx hb dL_reached_2 rfl (lv_at hl 0 rfl) ?_
  refine lv_iload_n hx hb dL_reached_3 rfl (lv_at hl 1 rfl) ?_
  refine lv_iload_n hx hb dL_reached_4 rfl (lv_at hl 2 rfl) ?_
  refine wr_T (rest := [.int (0 : Int32), .ref (g.2.2 70)]) [.int x1, .int x2] C hP hD hS hl.1 (c_X11_reached_0 hXo hst hf) (cwA_V 2 hts wa_1124 wa_1121 wa_1122 wa_1123 wa_2 rfl rfl nd_X11_reached ⟨Nat.le_of_ble_eq_true rfl, Nat.le_of_ble_eq_true rfl⟩) rfl rfl (Nat.le_of_ble_eq_true rfl) dL_reached_5 ⟨Nat.le_of_ble_eq_true rfl, Nat.le_of_ble_eq_true rfl⟩ (fun E ce q9 H locs hE hP hD hS hq9 hcv hcl => ?_) (fun hz0 H locs hP hD hS => ?_)
  · rcases hE with ⟨hE1, rfl⟩ | ⟨hE1, rfl⟩
    · refine vx_catch hown [] ⟨0, 10, 13, 18⟩ [(⟨0, 10, 17, 13⟩ : ExceptionTableEntry)] (htab.trans rfl) (fun _ h => nomatch h) (by decide) (by decide) (hts _ wa_637) ((hXo.2.2.2 _ _ _ hXX).2.2.1 _ _ (List.mem_append_right _ castN)) hq9 hcv hcl ?_
      refine lv_astore (lv' := [(4, .ref q9), (0, .ref (g.2.2 0)), (1, .int x1), (2, .int x2), (3, .ref (g.2.2 70))]) hx hb dL_reached_13 hl (by decide) rfl (fun ls hl => ?_)
      refine lv_iconst (v := (1 : Int32)) hx hb dL_reached_15 (by decide) ?_
      exact wr_ret C hP hD hS (h1 hE1).1.symm (h1 hE1).2.symm rfl dL_reached_16
    · refine vx_catch hown [(⟨0, 10, 13, 18⟩ : ExceptionTableEntry)] ⟨0, 10, 17, 13⟩ [] (htab.trans rfl) (fun y hy => Or.inr ⟨by rw [List.mem_singleton.mp hy]; decide, "java/util/NoSuchElementException", by rw [List.mem_singleton.mp hy]; exact hts _ wa_637, (hXo.2.2.2 _ _ _ hXX).1.2.2.2.2⟩) (by decide) (by decide) (hts _ wa_211) ((hXo.2.2.2 _ _ _ hXX).2.2.1 _ _ (List.mem_append_left _ castI)) hq9 hcv hcl ?_
      refine lv_astore (lv' := [(4, .ref q9), (0, .ref (g.2.2 0)), (1, .int x1), (2, .int x2), (3, .ref (g.2.2 70))]) hx hb dL_reached_17 hl (by decide) rfl (fun ls hl => ?_)
      refine lv_iconst (v := (2 : Int32)) hx hb dL_reached_19 (by decide) ?_
      exact wr_ret C hP hD hS (h2 hE1).1.symm (h2 hE1).2.symm rfl dL_reached_20
  · refine lv_i2l hx hb dL_reached_8 rfl ?_
    refine wr_last C hP hD hS dL_reached_9 (fun H locs hP hD hS => ?_)
    refine lv_goto (tgt := 21) hx hb dL_reached_10 (by decide) ?_
    refine lv_iconst (v := (0 : Int32)) hx hb dL_reached_21 (by decide) ?_
    exact wr_ret C hP hD hS (h0 hz0).1.symm (h0 hz0).2.symm rfl dL_reached_22
abbrev rm_L_through : Room := { frames := 9, cells := 2, slots := 12, locals := 214 }
theorem nd_L_through : yL_through.cls ≠ "java/lang/invoke/MethodHandle" ∧ yL_through.cls ≠ "java/lang/invoke/VarHandle" ∧ (parseMethodDescriptor yL_through.desc).map (fun d => d.parameters.length) = some 4 := by decide +kernel
set_option maxHeartbeats 4000000 in
set_option maxRecDepth 100000 in
theorem cwr_through {N : Nat} {x1 : Int32} {x2 : Int32} {σ : Sg} {z : Zt} {o o' : Int64} {k : Int32} (hX : xOK g X) (hst : l.stackTraces = false) (hf : f_X11_through_0 N x1 x2 σ = some z) (h0 : z.1 = 0 → k = 0 ∧ o' = z.2.1.toInt64) (hz : ¬ z.1 = 2) (h1 : z.1 = 1 → k = 1 ∧ o' = o) : MetW l yL_through (Cond.codeWith yL_through cL_through 5 (some .int) [(0, 10, 13, 18)] :: wsA) rm_L_through 2 12 g X [.ref (g.2.2 0), .int x1, .int x2, .ref (g.2.2 70)] σ o k z.2.2 o' := by
  refine MetW_of hX (by decide) (Nat.le_of_ble_eq_true rfl) (fun p e s m args below meth c A C htab ls hP hD hS hl => ?_)
  obtain ⟨hx, hb, hr, hml, hown, hts, hK, hlocks, hXX, hA, hXo⟩ := id C
  have hl : lv_has ls 5 [(0, .ref (g.2.2 0)), (1, .int x1), (2, .int x2), (3, .ref (g.2.2 70))] := hl
  refine lv_aload_n hx hb dL_through_0 rfl (lv_at hl 3 rfl) ?_
  refine lv_iconst (v := (0 : Int32)) hx hb dL_through_1 (by decide) ?_
  refine lv_aload_n hx hb dL_through_2 rfl (lv_at hl 0 rfl) ?_
  refine lv_iload_n hx hb dL_through_3 rfl (lv_at hl 1 rfl) ?_
  refine lv_iload_n hx hb dL_through_4 rfl (lv_at hl 2 rfl) ?_
  refine wr_T (rest := [.int (0 : Int32), .ref (g.2.2 70)]) [.int x1, .int x2] C hP hD hS hl.1 (c_X11_through_0 hXo hst hf) (cwA_V 2 hts wa_1145 wa_1142 wa_1143 wa_1144 wa_2 rfl rfl nd_X11_through ⟨Nat.le_of_ble_eq_true rfl, Nat.le_of_ble_eq_true rfl⟩) rfl rfl (Nat.le_of_ble_eq_true rfl) dL_through_5 ⟨Nat.le_of_ble_eq_true rfl, Nat.le_of_ble_eq_true rfl⟩ (fun E ce q9 H locs hE hP hD hS hq9 hcv hcl => ?_) (fun hz0 H locs hP hD hS => ?_)
  · rcases hE with ⟨hE1, rfl⟩ | ⟨hE1, rfl⟩
    · refine vx_catch hown [] ⟨0, 10, 13, 18⟩ [] (htab.trans rfl) (fun _ h => nomatch h) (by decide) (by decide) (hts _ wa_637) ((hXo.2.2.2 _ _ _ hXX).2.2.1 _ _ (List.mem_append_right _ castN)) hq9 hcv hcl ?_
      refine lv_astore (lv' := [(4, .ref q9), (0, .ref (g.2.2 0)), (1, .int x1), (2, .int x2), (3, .ref (g.2.2 70))]) hx hb dL_through_13 hl (by decide) rfl (fun ls hl => ?_)
      refine lv_iconst (v := (1 : Int32)) hx hb dL_through_15 (by decide) ?_
      exact wr_ret C hP hD hS (h1 hE1).1.symm (h1 hE1).2.symm rfl dL_through_16
    · exact absurd hE1 hz
  · refine lv_i2l hx hb dL_through_8 rfl ?_
    refine wr_last C hP hD hS dL_through_9 (fun H locs hP hD hS => ?_)
    refine lv_goto (tgt := 17) hx hb dL_through_10 (by decide) ?_
    refine lv_iconst (v := (0 : Int32)) hx hb dL_through_17 (by decide) ?_
    exact wr_ret C hP hD hS (h0 hz0).1.symm (h0 hz0).2.symm rfl dL_through_18
abbrev rm_L_best : Room := { frames := 9, cells := 1, slots := 6, locals := 214 }
theorem nd_L_best : yL_best.cls ≠ "java/lang/invoke/MethodHandle" ∧ yL_best.cls ≠ "java/lang/invoke/VarHandle" ∧ (parseMethodDescriptor yL_best.desc).map (fun d => d.parameters.length) = some 3 := by decide +kernel
set_option maxHeartbeats 4000000 in
set_option maxRecDepth 100000 in
theorem cwr_best {N : Nat} {x1 : Int32} {σ : Sg} {z : Zt} {o o' : Int64} {k : Int32} (hX : xOK g X) (hst : l.stackTraces = false) (hf : f_X11_best_0 N x1 σ = some z) (h0 : z.1 = 0 → k = 0 ∧ o' = z.2.1.toInt64) (hz : ¬ z.1 = 1) (h2 : z.1 = 2 → k = 1 ∧ o' = o) : MetW l yL_best (Cond.codeWith yL_best cL_best 4 (some .int) [(0, 9, 12, 13)] :: wsA) rm_L_best 1 6 g X [.ref (g.2.2 0), .int x1, .ref (g.2.2 70)] σ o k z.2.2 o' := by
  refine MetW_of hX (by decide) (Nat.le_of_ble_eq_true rfl) (fun p e s m args below meth c A C htab ls hP hD hS hl => ?_)
  obtain ⟨hx, hb, hr, hml, hown, hts, hK, hlocks, hXX, hA, hXo⟩ := id C
  have hl : lv_has ls 4 [(0, .ref (g.2.2 0)), (1, .int x1), (2, .ref (g.2.2 70))] := hl
  refine lv_aload_n hx hb dL_best_0 rfl (lv_at hl 2 rfl) ?_
  refine lv_iconst (v := (0 : Int32)) hx hb dL_best_1 (by decide) ?_
  refine lv_aload_n hx hb dL_best_2 rfl (lv_at hl 0 rfl) ?_
  refine lv_iload_n hx hb dL_best_3 rfl (lv_at hl 1 rfl) ?_
  refine wr_T (rest := [.int (0 : Int32), .ref (g.2.2 70)]) [.int x1] C hP hD hS hl.1 (c_X11_best_0 hXo hst hf) (cwA_V 1 hts wa_1160 wa_1157 wa_1158 wa_1159 wa_2 rfl rfl nd_X11_best ⟨Nat.le_of_ble_eq_true rfl, Nat.le_of_ble_eq_true rfl⟩) rfl rfl (Nat.le_of_ble_eq_true rfl) dL_best_4 ⟨Nat.le_of_ble_eq_true rfl, Nat.le_of_ble_eq_true rfl⟩ (fun E ce q9 H locs hE hP hD hS hq9 hcv hcl => ?_) (fun hz0 H locs hP hD hS => ?_)
  · rcases hE with ⟨hE1, rfl⟩ | ⟨hE1, rfl⟩
    · exact absurd hE1 hz
    · refine vx_catch hown [] ⟨0, 9, 12, 13⟩ [] (htab.trans rfl) (fun _ h => nomatch h) (by decide) (by decide) (hts _ wa_211) ((hXo.2.2.2 _ _ _ hXX).2.2.1 _ _ (List.mem_append_left _ castI)) hq9 hcv hcl ?_
      refine lv_astore_n (lv' := [(3, .ref q9), (0, .ref (g.2.2 0)), (1, .int x1), (2, .ref (g.2.2 70))]) hx hb dL_best_12 rfl hl (by decide) rfl (fun ls hl => ?_)
      refine lv_iconst (v := (1 : Int32)) hx hb dL_best_13 (by decide) ?_
      exact wr_ret C hP hD hS (h2 hE1).1.symm (h2 hE1).2.symm rfl dL_best_14
  · refine lv_i2l hx hb dL_best_7 rfl ?_
    refine wr_last C hP hD hS dL_best_8 (fun H locs hP hD hS => ?_)
    refine lv_goto (tgt := 15) hx hb dL_best_9 (by decide) ?_
    refine lv_iconst (v := (0 : Int32)) hx hb dL_best_15 (by decide) ?_
    exact wr_ret C hP hD hS (h0 hz0).1.symm (h0 hz0).2.symm rfl dL_best_16
abbrev rm_L_toBegin : Room := { frames := 9, cells := 1, slots := 6, locals := 213 }
theorem nd_L_toBegin : yL_toBegin.cls ≠ "java/lang/invoke/MethodHandle" ∧ yL_toBegin.cls ≠ "java/lang/invoke/VarHandle" ∧ (parseMethodDescriptor yL_toBegin.desc).map (fun d => d.parameters.length) = some 3 := by decide +kernel
set_option maxHeartbeats 4000000 in
set_option maxRecDepth 100000 in
theorem cwr_toBegin {N : Nat} {x1 : Int32} {σ : Sg} {z : Zt} {o o' : Int64} {k : Int32} (hX : xOK g X) (hst : l.stackTraces = false) (hf : f_X11_toBegin_0 N x1 σ = some z) (h0 : z.1 = 0 → k = 0 ∧ o' = z.2.1.toInt64) (hz : ¬ z.1 = 1) (h2 : z.1 = 2 → k = 1 ∧ o' = o) : MetW l yL_toBegin (Cond.codeWith yL_toBegin cL_toBegin 4 (some .int) [(0, 9, 12, 13)] :: wsA) rm_L_toBegin 1 6 g X [.ref (g.2.2 0), .int x1, .ref (g.2.2 70)] σ o k z.2.2 o' := by
  refine MetW_of hX (by decide) (Nat.le_of_ble_eq_true rfl) (fun p e s m args below meth c A C htab ls hP hD hS hl => ?_)
  obtain ⟨hx, hb, hr, hml, hown, hts, hK, hlocks, hXX, hA, hXo⟩ := id C
  have hl : lv_has ls 4 [(0, .ref (g.2.2 0)), (1, .int x1), (2, .ref (g.2.2 70))] := hl
  refine lv_aload_n hx hb dL_toBegin_0 rfl (lv_at hl 2 rfl) ?_
  refine lv_iconst (v := (0 : Int32)) hx hb dL_toBegin_1 (by decide) ?_
  refine lv_aload_n hx hb dL_toBegin_2 rfl (lv_at hl 0 rfl) ?_
  refine lv_iload_n hx hb dL_toBegin_3 rfl (lv_at hl 1 rfl) ?_
  refine wr_T (rest := [.int (0 : Int32), .ref (g.2.2 70)]) [.int x1] C hP hD hS hl.1 (c_X11_toBegin_0 hXo hst hf) (cwA_V 1 hts wa_1171 wa_1168 wa_1169 wa_1170 wa_2 rfl rfl nd_X11_toBegin ⟨Nat.le_of_ble_eq_true rfl, Nat.le_of_ble_eq_true rfl⟩) rfl rfl (Nat.le_of_ble_eq_true rfl) dL_toBegin_4 ⟨Nat.le_of_ble_eq_true rfl, Nat.le_of_ble_eq_true rfl⟩ (fun E ce q9 H locs hE hP hD hS hq9 hcv hcl => ?_) (fun hz0 H locs hP hD hS => ?_)
  · rcases hE with ⟨hE1, rfl⟩ | ⟨hE1, rfl⟩
    · exact absurd hE1 hz
    · refine vx_catch hown [] ⟨0, 9, 12, 13⟩ [] (htab.trans rfl) (fun _ h => nomatch h) (by decide) (by decide) (hts _ wa_211) ((hXo.2.2.2 _ _ _ hXX).2.2.1 _ _ (List.mem_append_left _ castI)) hq9 hcv hcl ?_
      refine lv_astore_n (lv' := [(3, .ref q9), (0, .ref (g.2.2 0)), (1, .int x1), (2, .ref (g.2.2 70))]) hx hb dL_toBegin_12 rfl hl (by decide) rfl (fun ls hl => ?_)
      refine lv_iconst (v := (1 : Int32)) hx hb dL_toBegin_13 (by decide) ?_
      exact wr_ret C hP hD hS (h2 hE1).1.symm (h2 hE1).2.symm rfl dL_toBegin_14
  · refine lv_i2l hx hb dL_toBegin_7 rfl ?_
    refine wr_last C hP hD hS dL_toBegin_8 (fun H locs hP hD hS => ?_)
    refine lv_goto (tgt := 15) hx hb dL_toBegin_9 (by decide) ?_
    refine lv_iconst (v := (0 : Int32)) hx hb dL_toBegin_15 (by decide) ?_
    exact wr_ret C hP hD hS (h0 hz0).1.symm (h0 hz0).2.symm rfl dL_toBegin_16
abbrev rm_L_way : Room := { frames := 9, cells := 2, slots := 12, locals := 155 }
theorem nd_L_way : yL_way.cls ≠ "java/lang/invoke/MethodHandle" ∧ yL_way.cls ≠ "java/lang/invoke/VarHandle" ∧ (parseMethodDescriptor yL_way.desc).map (fun d => d.parameters.length) = some 4 := by decide +kernel
set_option maxHeartbeats 4000000 in
set_option maxRecDepth 100000 in
theorem cwr_way {N : Nat} {x1 : Int32} {x2 : Int32} {σ : Sg} {z : Zt} {o o' : Int64} {k : Int32} (hX : xOK g X) (hst : l.stackTraces = false) (hf : f_X11_way_0 N x1 x2 σ = some z) (h0 : z.1 = 0 → k = 0 ∧ o' = z.2.1.toInt64) (hz : ¬ z.1 = 2) (h1 : z.1 = 1 → k = 1 ∧ o' = o) : MetW l yL_way (Cond.codeWith yL_way cL_way 5 (some .int) [(0, 10, 13, 18)] :: wsA) rm_L_way 2 12 g X [.ref (g.2.2 0), .int x1, .int x2, .ref (g.2.2 70)] σ o k z.2.2 o' := by
  refine MetW_of hX (by decide) (Nat.le_of_ble_eq_true rfl) (fun p e s m args below meth c A C htab ls hP hD hS hl => ?_)
  obtain ⟨hx, hb, hr, hml, hown, hts, hK, hlocks, hXX, hA, hXo⟩ := id C
  have hl : lv_has ls 5 [(0, .ref (g.2.2 0)), (1, .int x1), (2, .int x2), (3, .ref (g.2.2 70))] := hl
  refine lv_aload_n hx hb dL_way_0 rfl (lv_at hl 3 rfl) ?_
  refine lv_iconst (v := (0 : Int32)) hx hb dL_way_1 (by decide) ?_
  refine lv_aload_n hx hb dL_way_2 rfl (lv_at hl 0 rfl) ?_
  refine lv_iload_n hx hb dL_way_3 rfl (lv_at hl 1 rfl) ?_
  refine lv_iload_n hx hb dL_way_4 rfl (lv_at hl 2 rfl) ?_
  refine wr_T (rest := [.int (0 : Int32), .ref (g.2.2 70)]) [.int x1, .int x2] C hP hD hS hl.1 (c_X11_way_0 hXo hst hf) (cwA_V 2 hts wa_1183 wa_1180 wa_1181 wa_1182 wa_2 rfl rfl nd_X11_way ⟨Nat.le_of_ble_eq_true rfl, Nat.le_of_ble_eq_true rfl⟩) rfl rfl (Nat.le_of_ble_eq_true rfl) dL_way_5 ⟨Nat.le_of_ble_eq_true rfl, Nat.le_of_ble_eq_true rfl⟩ (fun E ce q9 H locs hE hP hD hS hq9 hcv hcl => ?_) (fun hz0 H locs hP hD hS => ?_)
  · rcases hE with ⟨hE1, rfl⟩ | ⟨hE1, rfl⟩
    · refine vx_catch hown [] ⟨0, 10, 13, 18⟩ [] (htab.trans rfl) (fun _ h => nomatch h) (by decide) (by decide) (hts _ wa_637) ((hXo.2.2.2 _ _ _ hXX).2.2.1 _ _ (List.mem_append_right _ castN)) hq9 hcv hcl ?_
      refine lv_astore (lv' := [(4, .ref q9), (0, .ref (g.2.2 0)), (1, .int x1), (2, .int x2), (3, .ref (g.2.2 70))]) hx hb dL_way_13 hl (by decide) rfl (fun ls hl => ?_)
      refine lv_iconst (v := (1 : Int32)) hx hb dL_way_15 (by decide) ?_
      exact wr_ret C hP hD hS (h1 hE1).1.symm (h1 hE1).2.symm rfl dL_way_16
    · exact absurd hE1 hz
  · refine lv_i2l hx hb dL_way_8 rfl ?_
    refine wr_last C hP hD hS dL_way_9 (fun H locs hP hD hS => ?_)
    refine lv_goto (tgt := 17) hx hb dL_way_10 (by decide) ?_
    refine lv_iconst (v := (0 : Int32)) hx hb dL_way_17 (by decide) ?_
    exact wr_ret C hP hD hS (h0 hz0).1.symm (h0 hz0).2.symm rfl dL_way_18
abbrev rm_L_toHat : Room := { frames := 9, cells := 2, slots := 12, locals := 156 }
theorem nd_L_toHat : yL_toHat.cls ≠ "java/lang/invoke/MethodHandle" ∧ yL_toHat.cls ≠ "java/lang/invoke/VarHandle" ∧ (parseMethodDescriptor yL_toHat.desc).map (fun d => d.parameters.length) = some 4 := by decide +kernel
set_option maxHeartbeats 4000000 in
set_option maxRecDepth 100000 in
theorem cwr_toHat {N : Nat} {x1 : Int32} {x2 : Int32} {σ : Sg} {z : Zt} {o o' : Int64} {k : Int32} (hX : xOK g X) (hst : l.stackTraces = false) (hf : f_X11_toHat_0 N x1 x2 σ = some z) (h0 : z.1 = 0 → k = 0 ∧ o' = z.2.1.toInt64) (hz : ¬ z.1 = 2) (h1 : z.1 = 1 → k = 1 ∧ o' = o) : MetW l yL_toHat (Cond.codeWith yL_toHat cL_toHat 5 (some .int) [(0, 10, 13, 18)] :: wsA) rm_L_toHat 2 12 g X [.ref (g.2.2 0), .int x1, .int x2, .ref (g.2.2 70)] σ o k z.2.2 o' := by
  refine MetW_of hX (by decide) (Nat.le_of_ble_eq_true rfl) (fun p e s m args below meth c A C htab ls hP hD hS hl => ?_)
  obtain ⟨hx, hb, hr, hml, hown, hts, hK, hlocks, hXX, hA, hXo⟩ := id C
  have hl : lv_has ls 5 [(0, .ref (g.2.2 0)), (1, .int x1), (2, .int x2), (3, .ref (g.2.2 70))] := hl
  refine lv_aload_n hx hb dL_toHat_0 rfl (lv_at hl 3 rfl) ?_
  refine lv_iconst (v := (0 : Int32)) hx hb dL_toHat_1 (by decide) ?_
  refine lv_aload_n hx hb dL_toHat_2 rfl (lv_at hl 0 rfl) ?_
  refine lv_iload_n hx hb dL_toHat_3 rfl (lv_at hl 1 rfl) ?_
  refine lv_iload_n hx hb dL_toHat_4 rfl (lv_at hl 2 rfl) ?_
  refine wr_T (rest := [.int (0 : Int32), .ref (g.2.2 70)]) [.int x1, .int x2] C hP hD hS hl.1 (c_X11_toHat_0 hXo hst hf) (cwA_V 2 hts wa_1198 wa_1195 wa_1196 wa_1197 wa_2 rfl rfl nd_X11_toHat ⟨Nat.le_of_ble_eq_true rfl, Nat.le_of_ble_eq_true rfl⟩) rfl rfl (Nat.le_of_ble_eq_true rfl) dL_toHat_5 ⟨Nat.le_of_ble_eq_true rfl, Nat.le_of_ble_eq_true rfl⟩ (fun E ce q9 H locs hE hP hD hS hq9 hcv hcl => ?_) (fun hz0 H locs hP hD hS => ?_)
  · rcases hE with ⟨hE1, rfl⟩ | ⟨hE1, rfl⟩
    · refine vx_catch hown [] ⟨0, 10, 13, 18⟩ [] (htab.trans rfl) (fun _ h => nomatch h) (by decide) (by decide) (hts _ wa_637) ((hXo.2.2.2 _ _ _ hXX).2.2.1 _ _ (List.mem_append_right _ castN)) hq9 hcv hcl ?_
      refine lv_astore (lv' := [(4, .ref q9), (0, .ref (g.2.2 0)), (1, .int x1), (2, .int x2), (3, .ref (g.2.2 70))]) hx hb dL_toHat_13 hl (by decide) rfl (fun ls hl => ?_)
      refine lv_iconst (v := (1 : Int32)) hx hb dL_toHat_15 (by decide) ?_
      exact wr_ret C hP hD hS (h1 hE1).1.symm (h1 hE1).2.symm rfl dL_toHat_16
    · exact absurd hE1 hz
  · refine lv_i2l hx hb dL_toHat_8 rfl ?_
    refine wr_last C hP hD hS dL_toHat_9 (fun H locs hP hD hS => ?_)
    refine lv_goto (tgt := 17) hx hb dL_toHat_10 (by decide) ?_
    refine lv_iconst (v := (0 : Int32)) hx hb dL_toHat_17 (by decide) ?_
    exact wr_ret C hP hD hS (h0 hz0).1.symm (h0 hz0).2.symm rfl dL_toHat_18
abbrev rm_L_between : Room := { frames := 9, cells := 2, slots := 12, locals := 155 }
theorem nd_L_between : yL_between.cls ≠ "java/lang/invoke/MethodHandle" ∧ yL_between.cls ≠ "java/lang/invoke/VarHandle" ∧ (parseMethodDescriptor yL_between.desc).map (fun d => d.parameters.length) = some 4 := by decide +kernel
set_option maxHeartbeats 4000000 in
set_option maxRecDepth 100000 in
theorem cwr_between {N : Nat} {x1 : Int32} {x2 : Int32} {σ : Sg} {z : Zt} {o o' : Int64} {k : Int32} (hX : xOK g X) (hst : l.stackTraces = false) (hf : f_X11_between_0 N x1 x2 σ = some z) (h0 : z.1 = 0 → k = 0 ∧ o' = z.2.1.toInt64) (hz : ¬ z.1 = 2) (h1 : z.1 = 1 → k = 1 ∧ o' = o) : MetW l yL_between (Cond.codeWith yL_between cL_between 5 (some .int) [(0, 10, 13, 18)] :: wsA) rm_L_between 2 12 g X [.ref (g.2.2 0), .int x1, .int x2, .ref (g.2.2 70)] σ o k z.2.2 o' := by
  refine MetW_of hX (by decide) (Nat.le_of_ble_eq_true rfl) (fun p e s m args below meth c A C htab ls hP hD hS hl => ?_)
  obtain ⟨hx, hb, hr, hml, hown, hts, hK, hlocks, hXX, hA, hXo⟩ := id C
  have hl : lv_has ls 5 [(0, .ref (g.2.2 0)), (1, .int x1), (2, .int x2), (3, .ref (g.2.2 70))] := hl
  refine lv_aload_n hx hb dL_between_0 rfl (lv_at hl 3 rfl) ?_
  refine lv_iconst (v := (0 : Int32)) hx hb dL_between_1 (by decide) ?_
  refine lv_aload_n hx hb dL_between_2 rfl (lv_at hl 0 rfl) ?_
  refine lv_iload_n hx hb dL_between_3 rfl (lv_at hl 1 rfl) ?_
  refine lv_iload_n hx hb dL_between_4 rfl (lv_at hl 2 rfl) ?_
  refine wr_T (rest := [.int (0 : Int32), .ref (g.2.2 70)]) [.int x1, .int x2] C hP hD hS hl.1 (c_X11_between_0 hXo hst hf) (cwA_V 2 hts wa_1213 wa_1210 wa_1211 wa_1212 wa_2 rfl rfl nd_X11_between ⟨Nat.le_of_ble_eq_true rfl, Nat.le_of_ble_eq_true rfl⟩) rfl rfl (Nat.le_of_ble_eq_true rfl) dL_between_5 ⟨Nat.le_of_ble_eq_true rfl, Nat.le_of_ble_eq_true rfl⟩ (fun E ce q9 H locs hE hP hD hS hq9 hcv hcl => ?_) (fun hz0 H locs hP hD hS => ?_)
  · rcases hE with ⟨hE1, rfl⟩ | ⟨hE1, rfl⟩
    · refine vx_catch hown [] ⟨0, 10, 13, 18⟩ [] (htab.trans rfl) (fun _ h => nomatch h) (by decide) (by decide) (hts _ wa_637) ((hXo.2.2.2 _ _ _ hXX).2.2.1 _ _ (List.mem_append_right _ castN)) hq9 hcv hcl ?_
      refine lv_astore (lv' := [(4, .ref q9), (0, .ref (g.2.2 0)), (1, .int x1), (2, .int x2), (3, .ref (g.2.2 70))]) hx hb dL_between_13 hl (by decide) rfl (fun ls hl => ?_)
      refine lv_iconst (v := (1 : Int32)) hx hb dL_between_15 (by decide) ?_
      exact wr_ret C hP hD hS (h1 hE1).1.symm (h1 hE1).2.symm rfl dL_between_16
    · exact absurd hE1 hz
  · refine lv_i2l hx hb dL_between_8 rfl ?_
    refine wr_last C hP hD hS dL_between_9 (fun H locs hP hD hS => ?_)
    refine lv_goto (tgt := 17) hx hb dL_between_10 (by decide) ?_
    refine lv_iconst (v := (0 : Int32)) hx hb dL_between_17 (by decide) ?_
    exact wr_ret C hP hD hS (h0 hz0).1.symm (h0 hz0).2.symm rfl dL_between_18
abbrev rm_L_hidden : Room := { frames := 8, cells := 1, slots := 6, locals := 132 }
theorem nd_L_hidden : yL_hidden.cls ≠ "java/lang/invoke/MethodHandle" ∧ yL_hidden.cls ≠ "java/lang/invoke/VarHandle" ∧ (parseMethodDescriptor yL_hidden.desc).map (fun d => d.parameters.length) = some 3 := by decide +kernel
set_option maxHeartbeats 4000000 in
set_option maxRecDepth 100000 in
theorem cwr_hidden {N : Nat} {x1 : Int32} {σ : Sg} {z : Zt} {o o' : Int64} {k : Int32} (hX : xOK g X) (hst : l.stackTraces = false) (hf : f_X11_hidden_0 N x1 σ = some z) (h0 : z.1 = 0 → k = 0 ∧ o' = z.2.1.toInt64) (hz : ¬ z.1 = 2) (h1 : z.1 = 1 → k = 1 ∧ o' = o) : MetW l yL_hidden (Cond.codeWith yL_hidden cL_hidden 4 (some .int) [(0, 9, 12, 18)] :: wsA) rm_L_hidden 1 6 g X [.ref (g.2.2 0), .int x1, .ref (g.2.2 70)] σ o k z.2.2 o' := by
  refine MetW_of hX (by decide) (Nat.le_of_ble_eq_true rfl) (fun p e s m args below meth c A C htab ls hP hD hS hl => ?_)
  obtain ⟨hx, hb, hr, hml, hown, hts, hK, hlocks, hXX, hA, hXo⟩ := id C
  have hl : lv_has ls 4 [(0, .ref (g.2.2 0)), (1, .int x1), (2, .ref (g.2.2 70))] := hl
  refine lv_aload_n hx hb dL_hidden_0 rfl (lv_at hl 2 rfl) ?_
  refine lv_iconst (v := (0 : Int32)) hx hb dL_hidden_1 (by decide) ?_
  refine lv_aload_n hx hb dL_hidden_2 rfl (lv_at hl 0 rfl) ?_
  refine lv_iload_n hx hb dL_hidden_3 rfl (lv_at hl 1 rfl) ?_
  refine wr_T (rest := [.int (0 : Int32), .ref (g.2.2 70)]) [.int x1] C hP hD hS hl.1 (c_X11_hidden_0 hXo hst hf) (cwA_V 1 hts wa_1246 wa_1243 wa_1244 wa_1245 wa_2 rfl rfl nd_X11_hidden ⟨Nat.le_of_ble_eq_true rfl, Nat.le_of_ble_eq_true rfl⟩) rfl rfl (Nat.le_of_ble_eq_true rfl) dL_hidden_4 ⟨Nat.le_of_ble_eq_true rfl, Nat.le_of_ble_eq_true rfl⟩ (fun E ce q9 H locs hE hP hD hS hq9 hcv hcl => ?_) (fun hz0 H locs hP hD hS => ?_)
  · rcases hE with ⟨hE1, rfl⟩ | ⟨hE1, rfl⟩
    · refine vx_catch hown [] ⟨0, 9, 12, 18⟩ [] (htab.trans rfl) (fun _ h => nomatch h) (by decide) (by decide) (hts _ wa_637) ((hXo.2.2.2 _ _ _ hXX).2.2.1 _ _ (List.mem_append_right _ castN)) hq9 hcv hcl ?_
      refine lv_astore_n (lv' := [(3, .ref q9), (0, .ref (g.2.2 0)), (1, .int x1), (2, .ref (g.2.2 70))]) hx hb dL_hidden_12 rfl hl (by decide) rfl (fun ls hl => ?_)
      refine lv_iconst (v := (1 : Int32)) hx hb dL_hidden_13 (by decide) ?_
      exact wr_ret C hP hD hS (h1 hE1).1.symm (h1 hE1).2.symm rfl dL_hidden_14
    · exact absurd hE1 hz
  · refine lv_i2l hx hb dL_hidden_7 rfl ?_
    refine wr_last C hP hD hS dL_hidden_8 (fun H locs hP hD hS => ?_)
    refine lv_goto (tgt := 15) hx hb dL_hidden_9 (by decide) ?_
    refine lv_iconst (v := (0 : Int32)) hx hb dL_hidden_15 (by decide) ?_
    exact wr_ret C hP hD hS (h0 hz0).1.symm (h0 hz0).2.symm rfl dL_hidden_16
abbrev rm_L_crowd : Room := { frames := 8, cells := 2, slots := 12, locals := 170 }
theorem nd_L_crowd : yL_crowd.cls ≠ "java/lang/invoke/MethodHandle" ∧ yL_crowd.cls ≠ "java/lang/invoke/VarHandle" ∧ (parseMethodDescriptor yL_crowd.desc).map (fun d => d.parameters.length) = some 4 := by decide +kernel
set_option maxHeartbeats 4000000 in
set_option maxRecDepth 100000 in
theorem cwr_crowd {N : Nat} {x1 : Int32} {x2 : Int32} {σ : Sg} {z : Zt} {o o' : Int64} {k : Int32} (hX : xOK g X) (hst : l.stackTraces = false) (hf : f_X11_crowd_0 N x1 x2 σ = some z) (h0 : z.1 = 0 → k = 0 ∧ o' = z.2.1.toInt64) (h1 : z.1 = 1 → k = 1 ∧ o' = o) (h2 : z.1 = 2 → k = 2 ∧ o' = o) : MetW l yL_crowd (Cond.codeWith yL_crowd cL_crowd 5 (some .int) [(0, 10, 13, 18), (0, 10, 17, 13)] :: wsA) rm_L_crowd 2 12 g X [.ref (g.2.2 0), .int x1, .int x2, .ref (g.2.2 70)] σ o k z.2.2 o' := by
  refine MetW_of hX (by decide) (Nat.le_of_ble_eq_true rfl) (fun p e s m args below meth c A C htab ls hP hD hS hl => ?_)
  obtain ⟨hx, hb, hr, hml, hown, hts, hK, hlocks, hXX, hA, hXo⟩ := id C
  have hl : lv_has ls 5 [(0, .ref (g.2.2 0)), (1, .int x1), (2, .int x2), (3, .ref (g.2.2 70))] := hl
  refine lv_aload_n hx hb dL_crowd_0 rfl (lv_at hl 3 rfl) ?_
  refine lv_iconst (v := (0 : Int32)) hx hb dL_crowd_1 (by decide) ?_
  refine lv_aload_n hx hb dL_crowd_2 rfl (lv_at hl 0 rfl) ?_
  refine lv_iload_n hx hb dL_crowd_3 rfl (lv_at hl 1 rfl) ?_
  refine lv_iload_n hx hb dL_crowd_4 rfl (lv_at hl 2 rfl) ?_
  refine wr_T (rest := [.int (0 : Int32), .ref (g.2.2 70)]) [.int x1, .int x2] C hP hD hS hl.1 (c_X11_crowd_0 hXo hst hf) (cwA_V 2 hts wa_1257 wa_1254 wa_1255 wa_1256 wa_2 rfl rfl nd_X11_crowd ⟨Nat.le_of_ble_eq_true rfl, Nat.le_of_ble_eq_true rfl⟩) rfl rfl (Nat.le_of_ble_eq_true rfl) dL_crowd_5 ⟨Nat.le_of_ble_eq_true rfl, Nat.le_of_ble_eq_true rfl⟩ (fun E ce q9 H locs hE hP hD hS hq9 hcv hcl => ?_) (fun hz0 H locs hP hD hS => ?_)
  · rcases hE with ⟨hE1, rfl⟩ | ⟨hE1, rfl⟩
    · refine vx_catch hown [] ⟨0, 10, 13, 18⟩ [(⟨0, 10, 17, 13⟩ : ExceptionTableEntry)] (htab.trans rfl) (fun _ h => nomatch h) (by decide) (by decide) (hts _ wa_637) ((hXo.2.2.2 _ _ _ hXX).2.2.1 _ _ (List.mem_append_right _ castN)) hq9 hcv hcl ?_
      refine lv_astore (lv' := [(4, .ref q9), (0, .ref (g.2.2 0)), (1, .int x1), (2, .int x2), (3, .ref (g.2.2 70))]) hx hb dL_crowd_13 hl (by decide) rfl (fun ls hl => ?_)
      refine lv_iconst (v := (1 : Int32)) hx hb dL_crowd_15 (by decide) ?_
      exact wr_ret C hP hD hS (h1 hE1).1.symm (h1 hE1).2.symm rfl dL_crowd_16
    · refine vx_catch hown [(⟨0, 10, 13, 18⟩ : ExceptionTableEntry)] ⟨0, 10, 17, 13⟩ [] (htab.trans rfl) (fun y hy => Or.inr ⟨by rw [List.mem_singleton.mp hy]; decide, "java/util/NoSuchElementException", by rw [List.mem_singleton.mp hy]; exact hts _ wa_637, (hXo.2.2.2 _ _ _ hXX).1.2.2.2.2⟩) (by decide) (by decide) (hts _ wa_211) ((hXo.2.2.2 _ _ _ hXX).2.2.1 _ _ (List.mem_append_left _ castI)) hq9 hcv hcl ?_
      refine lv_astore (lv' := [(4, .ref q9), (0, .ref (g.2.2 0)), (1, .int x1), (2, .int x2), (3, .ref (g.2.2 70))]) hx hb dL_crowd_17 hl (by decide) rfl (fun ls hl => ?_)
      refine lv_iconst (v := (2 : Int32)) hx hb dL_crowd_19 (by decide) ?_
      exact wr_ret C hP hD hS (h2 hE1).1.symm (h2 hE1).2.symm rfl dL_crowd_20
  · refine lv_i2l hx hb dL_crowd_8 rfl ?_
    refine wr_last C hP hD hS dL_crowd_9 (fun H locs hP hD hS => ?_)
    refine lv_goto (tgt := 21) hx hb dL_crowd_10 (by decide) ?_
    refine lv_iconst (v := (0 : Int32)) hx hb dL_crowd_21 (by decide) ?_
    exact wr_ret C hP hD hS (h0 hz0).1.symm (h0 hz0).2.symm rfl dL_crowd_22
abbrev rm_L_see : Room := { frames := 8, cells := 1, slots := 6, locals := 134 }
theorem nd_L_see : yL_see.cls ≠ "java/lang/invoke/MethodHandle" ∧ yL_see.cls ≠ "java/lang/invoke/VarHandle" ∧ (parseMethodDescriptor yL_see.desc).map (fun d => d.parameters.length) = some 5 := by decide +kernel
set_option maxHeartbeats 4000000 in
set_option maxRecDepth 100000 in
theorem cwr_see {N : Nat} {x1 : Int32} {x2 : Int32} {x3 : Int32} {σ : Sg} {z : Zt} {o o' : Int64} {k : Int32} (hX : xOK g X) (hst : l.stackTraces = false) (hf : f_X11_see_0 N x1 x2 x3 σ = some z) (h0 : z.1 = 0 → k = 0 ∧ o' = z.2.1.toInt64) (hz : ¬ z.1 = 2) (h1 : z.1 = 1 → k = 1 ∧ o' = o) : MetW l yL_see (Cond.codeWith yL_see cL_see 6 (some .int) [(0, 12, 15, 18)] :: wsA) rm_L_see 1 6 g X [.ref (g.2.2 0), .int x1, .int x2, .int x3, .ref (g.2.2 70)] σ o k z.2.2 o' := by
  refine MetW_of hX (by decide) (Nat.le_of_ble_eq_true rfl) (fun p e s m args below meth c A C htab ls hP hD hS hl => ?_)
  obtain ⟨hx, hb, hr, hml, hown, hts, hK, hlocks, hXX, hA, hXo⟩ := id C
  have hl : lv_has ls 6 [(0, .ref (g.2.2 0)), (1, .int x1), (2, .int x2), (3, .int x3), (4, .ref (g.2.2 70))] := hl
  refine lv_aload hx hb dL_see_0 (lv_at hl 4 rfl) ?_
  refine lv_iconst (v := (0 : Int32)) hx hb dL_see_2 (by decide) ?_
  refine lv_aload_n hx hb dL_see_3 rfl (lv_at hl 0 rfl) ?_
  refine lv_iload_n hx hb dL_see_4 rfl (lv_at hl 1 rfl) ?_
  refine lv_iload_n hx hb dL_see_5 rfl (lv_at hl 2 rfl) ?_
  refine lv_iload_n hx hb dL_see_6 rfl (lv_at hl 3 rfl) ?_
  refine wr_T (rest := [.int (0 : Int32), .ref (g.2.2 70)]) [.int x1, .int x2, .int x3] C hP hD hS hl.1 (c_X11_see_0 hXo hst hf) (cwA_V 3 hts wa_1269 wa_1266 wa_1267 wa_1268 wa_2 rfl rfl nd_X11_see ⟨Nat.le_of_ble_eq_true rfl, Nat.le_of_ble_eq_true rfl⟩) rfl rfl (Nat.le_of_ble_eq_true rfl) dL_see_7 ⟨Nat.le_of_ble_eq_true rfl, Nat.le_of_ble_eq_true rfl⟩ (fun E ce q9 H locs hE hP hD hS hq9 hcv hcl => ?_) (fun hz0 H locs hP hD hS => ?_)
  · rcases hE with ⟨hE1, rfl⟩ | ⟨hE1, rfl⟩
    · refine vx_catch hown [] ⟨0, 12, 15, 18⟩ [] (htab.trans rfl) (fun _ h => nomatch h) (by decide) (by decide) (hts _ wa_637) ((hXo.2.2.2 _ _ _ hXX).2.2.1 _ _ (List.mem_append_right _ castN)) hq9 hcv hcl ?_
      refine lv_astore (lv' := [(5, .ref q9), (0, .ref (g.2.2 0)), (1, .int x1), (2, .int x2), (3, .int x3), (4, .ref (g.2.2 70))]) hx hb dL_see_15 hl (by decide) rfl (fun ls hl => ?_)
      refine lv_iconst (v := (1 : Int32)) hx hb dL_see_17 (by decide) ?_
      exact wr_ret C hP hD hS (h1 hE1).1.symm (h1 hE1).2.symm rfl dL_see_18
    · exact absurd hE1 hz
  · refine lv_i2l hx hb dL_see_10 rfl ?_
    refine wr_last C hP hD hS dL_see_11 (fun H locs hP hD hS => ?_)
    refine lv_goto (tgt := 19) hx hb dL_see_12 (by decide) ?_
    refine lv_iconst (v := (0 : Int32)) hx hb dL_see_19 (by decide) ?_
    exact wr_ret C hP hD hS (h0 hz0).1.symm (h0 hz0).2.symm rfl dL_see_20
abbrev rm_L_begun : Room := { frames := 9, cells := 1, slots := 6, locals := 211 }
theorem nd_L_begun : yL_begun.cls ≠ "java/lang/invoke/MethodHandle" ∧ yL_begun.cls ≠ "java/lang/invoke/VarHandle" ∧ (parseMethodDescriptor yL_begun.desc).map (fun d => d.parameters.length) = some 3 := by decide +kernel
set_option maxHeartbeats 4000000 in
set_option maxRecDepth 100000 in
theorem cwr_begun {N : Nat} {x1 : Int32} {σ : Sg} {z : Zt} {o o' : Int64} {k : Int32} (hX : xOK g X) (hst : l.stackTraces = false) (hf : f_X11_begun_0 N x1 σ = some z) (h0 : z.1 = 0 → k = 0 ∧ o' = z.2.1.toInt64) (hz : ¬ z.1 = 2) (h1 : z.1 = 1 → k = 1 ∧ o' = o) : MetW l yL_begun (Cond.codeWith yL_begun cL_begun 4 (some .int) [(0, 9, 12, 18)] :: wsA) rm_L_begun 1 6 g X [.ref (g.2.2 0), .int x1, .ref (g.2.2 70)] σ o k z.2.2 o' := by
  refine MetW_of hX (by decide) (Nat.le_of_ble_eq_true rfl) (fun p e s m args below meth c A C htab ls hP hD hS hl => ?_)
  obtain ⟨hx, hb, hr, hml, hown, hts, hK, hlocks, hXX, hA, hXo⟩ := id C
  have hl : lv_has ls 4 [(0, .ref (g.2.2 0)), (1, .int x1), (2, .ref (g.2.2 70))] := hl
  refine lv_aload_n hx hb dL_begun_0 rfl (lv_at hl 2 rfl) ?_
  refine lv_iconst (v := (0 : Int32)) hx hb dL_begun_1 (by decide) ?_
  refine lv_aload_n hx hb dL_begun_2 rfl (lv_at hl 0 rfl) ?_
  refine lv_iload_n hx hb dL_begun_3 rfl (lv_at hl 1 rfl) ?_
  refine wr_T (rest := [.int (0 : Int32), .ref (g.2.2 70)]) [.int x1] C hP hD hS hl.1 (c_X11_begun_0 hXo hst hf) (cwA_V 1 hts wa_1284 wa_1281 wa_1282 wa_1283 wa_2 rfl rfl nd_X11_begun ⟨Nat.le_of_ble_eq_true rfl, Nat.le_of_ble_eq_true rfl⟩) rfl rfl (Nat.le_of_ble_eq_true rfl) dL_begun_4 ⟨Nat.le_of_ble_eq_true rfl, Nat.le_of_ble_eq_true rfl⟩ (fun E ce q9 H locs hE hP hD hS hq9 hcv hcl => ?_) (fun hz0 H locs hP hD hS => ?_)
  · rcases hE with ⟨hE1, rfl⟩ | ⟨hE1, rfl⟩
    · refine vx_catch hown [] ⟨0, 9, 12, 18⟩ [] (htab.trans rfl) (fun _ h => nomatch h) (by decide) (by decide) (hts _ wa_637) ((hXo.2.2.2 _ _ _ hXX).2.2.1 _ _ (List.mem_append_right _ castN)) hq9 hcv hcl ?_
      refine lv_astore_n (lv' := [(3, .ref q9), (0, .ref (g.2.2 0)), (1, .int x1), (2, .ref (g.2.2 70))]) hx hb dL_begun_12 rfl hl (by decide) rfl (fun ls hl => ?_)
      refine lv_iconst (v := (1 : Int32)) hx hb dL_begun_13 (by decide) ?_
      exact wr_ret C hP hD hS (h1 hE1).1.symm (h1 hE1).2.symm rfl dL_begun_14
    · exact absurd hE1 hz
  · refine lv_i2l hx hb dL_begun_7 rfl ?_
    refine wr_last C hP hD hS dL_begun_8 (fun H locs hP hD hS => ?_)
    refine lv_goto (tgt := 15) hx hb dL_begun_9 (by decide) ?_
    refine lv_iconst (v := (0 : Int32)) hx hb dL_begun_15 (by decide) ?_
    exact wr_ret C hP hD hS (h0 hz0).1.symm (h0 hz0).2.symm rfl dL_begun_16
abbrev rm_L_look : Room := { frames := 9, cells := 1, slots := 6, locals := 215 }
theorem nd_L_look : yL_look.cls ≠ "java/lang/invoke/MethodHandle" ∧ yL_look.cls ≠ "java/lang/invoke/VarHandle" ∧ (parseMethodDescriptor yL_look.desc).map (fun d => d.parameters.length) = some 3 := by decide +kernel
set_option maxHeartbeats 4000000 in
set_option maxRecDepth 100000 in
theorem cwr_look {N : Nat} {x1 : Int32} {σ : Sg} {z : Zt} {o o' : Int64} {k : Int32} (hX : xOK g X) (hst : l.stackTraces = false) (hf : f_X11_look_0 N x1 σ = some z) (h0 : z.1 = 0 → k = 0 ∧ o' = z.2.1.toInt64) (hz : ¬ z.1 = 2) (h1 : z.1 = 1 → k = 1 ∧ o' = o) : MetW l yL_look (Cond.codeWith yL_look cL_look 4 (some .int) [(0, 9, 12, 18)] :: wsA) rm_L_look 1 6 g X [.ref (g.2.2 0), .int x1, .ref (g.2.2 70)] σ o k z.2.2 o' := by
  refine MetW_of hX (by decide) (Nat.le_of_ble_eq_true rfl) (fun p e s m args below meth c A C htab ls hP hD hS hl => ?_)
  obtain ⟨hx, hb, hr, hml, hown, hts, hK, hlocks, hXX, hA, hXo⟩ := id C
  have hl : lv_has ls 4 [(0, .ref (g.2.2 0)), (1, .int x1), (2, .ref (g.2.2 70))] := hl
  refine lv_aload_n hx hb dL_look_0 rfl (lv_at hl 2 rfl) ?_
  refine lv_iconst (v := (0 : Int32)) hx hb dL_look_1 (by decide) ?_
  refine lv_aload_n hx hb dL_look_2 rfl (lv_at hl 0 rfl) ?_
  refine lv_iload_n hx hb dL_look_3 rfl (lv_at hl 1 rfl) ?_
  refine wr_T (rest := [.int (0 : Int32), .ref (g.2.2 70)]) [.int x1] C hP hD hS hl.1 (c_X11_look_0 hXo hst hf) (cwA_V 1 hts wa_1321 wa_1318 wa_1319 wa_1320 wa_2 rfl rfl nd_X11_look ⟨Nat.le_of_ble_eq_true rfl, Nat.le_of_ble_eq_true rfl⟩) rfl rfl (Nat.le_of_ble_eq_true rfl) dL_look_4 ⟨Nat.le_of_ble_eq_true rfl, Nat.le_of_ble_eq_true rfl⟩ (fun E ce q9 H locs hE hP hD hS hq9 hcv hcl => ?_) (fun hz0 H locs hP hD hS => ?_)
  · rcases hE with ⟨hE1, rfl⟩ | ⟨hE1, rfl⟩
    · refine vx_catch hown [] ⟨0, 9, 12, 18⟩ [] (htab.trans rfl) (fun _ h => nomatch h) (by decide) (by decide) (hts _ wa_637) ((hXo.2.2.2 _ _ _ hXX).2.2.1 _ _ (List.mem_append_right _ castN)) hq9 hcv hcl ?_
      refine lv_astore_n (lv' := [(3, .ref q9), (0, .ref (g.2.2 0)), (1, .int x1), (2, .ref (g.2.2 70))]) hx hb dL_look_12 rfl hl (by decide) rfl (fun ls hl => ?_)
      refine lv_iconst (v := (1 : Int32)) hx hb dL_look_13 (by decide) ?_
      exact wr_ret C hP hD hS (h1 hE1).1.symm (h1 hE1).2.symm rfl dL_look_14
    · exact absurd hE1 hz
  · refine lv_i2l hx hb dL_look_7 rfl ?_
    refine wr_last C hP hD hS dL_look_8 (fun H locs hP hD hS => ?_)
    refine lv_goto (tgt := 15) hx hb dL_look_9 (by decide) ?_
    refine lv_iconst (v := (0 : Int32)) hx hb dL_look_15 (by decide) ?_
    exact wr_ret C hP hD hS (h0 hz0).1.symm (h0 hz0).2.symm rfl dL_look_16
abbrev rm_L_byMist : Room := { frames := 8, cells := 3, slots := 18, locals := 172 }
theorem nd_L_byMist : yL_byMist.cls ≠ "java/lang/invoke/MethodHandle" ∧ yL_byMist.cls ≠ "java/lang/invoke/VarHandle" ∧ (parseMethodDescriptor yL_byMist.desc).map (fun d => d.parameters.length) = some 5 := by decide +kernel
set_option maxHeartbeats 4000000 in
set_option maxRecDepth 100000 in
theorem cwr_byMist {N : Nat} {x1 : Int32} {x2 : Int32} {x3 : Int32} {σ : Sg} {z : Zt} {o o' : Int64} {k : Int32} (hX : xOK g X) (hst : l.stackTraces = false) (hf : f_X11_byMist_0 N x1 x2 x3 σ = some z) (h0 : z.1 = 0 → k = 0 ∧ o' = z.2.1.toInt64) (h1 : z.1 = 1 → k = 1 ∧ o' = o) (h2 : z.1 = 2 → k = 2 ∧ o' = o) : MetW l yL_byMist (Cond.codeWith yL_byMist cL_byMist 6 (some .int) [(0, 12, 15, 18), (0, 12, 19, 13)] :: wsA) rm_L_byMist 3 18 g X [.ref (g.2.2 0), .int x1, .int x2, .int x3, .ref (g.2.2 70)] σ o k z.2.2 o' := by
  refine MetW_of hX (by decide) (Nat.le_of_ble_eq_true rfl) (fun p e s m args below meth c A C htab ls hP hD hS hl => ?_)
  obtain ⟨hx, hb, hr, hml, hown, hts, hK, hlocks, hXX, hA, hXo⟩ := id C
  have hl : lv_has ls 6 [(0, .ref (g.2.2 0)), (1, .int x1), (2, .int x2), (3, .int x3), (4, .ref (g.2.2 70))] := hl
  refine lv_aload hx hb dL_byMist_0 (lv_at hl 4 rfl) ?_
  refine lv_iconst (v := (0 : Int32)) hx hb dL_byMist_2 (by decide) ?_
  refine lv_aload_n hx hb dL_byMist_3 rfl (lv_at hl 0 rfl) ?_
  refine lv_iload_n hx hb dL_byMist_4 rfl (lv_at hl 1 rfl) ?_
  refine lv_iload_n hx hb dL_byMist_5 rfl (lv_at hl 2 rfl) ?_
  refine lv_iload_n hx hb dL_byMist_6 rfl (lv_at hl 3 rfl) ?_
  refine wr_T (rest := [.int (0 : Int32), .ref (g.2.2 70)]) [.int x1, .int x2, .int x3] C hP hD hS hl.1 (c_X11_byMist_0 hXo hst hf) (cwA_V 3 hts wa_1352 wa_1349 wa_1350 wa_1351 wa_2 rfl rfl nd_X11_byMist ⟨Nat.le_of_ble_eq_true rfl, Nat.le_of_ble_eq_true rfl⟩) rfl rfl (Nat.le_of_ble_eq_true rfl) dL_byMist_7 ⟨Nat.le_of_ble_eq_true rfl, Nat.le_of_ble_eq_true rfl⟩ (fun E ce q9 H locs hE hP hD hS hq9 hcv hcl => ?_) (fun hz0 H locs hP hD hS => ?_)
  · rcases hE with ⟨hE1, rfl⟩ | ⟨hE1, rfl⟩
    · refine vx_catch hown [] ⟨0, 12, 15, 18⟩ [(⟨0, 12, 19, 13⟩ : ExceptionTableEntry)] (htab.trans rfl) (fun _ h => nomatch h) (by decide) (by decide) (hts _ wa_637) ((hXo.2.2.2 _ _ _ hXX).2.2.1 _ _ (List.mem_append_right _ castN)) hq9 hcv hcl ?_
      refine lv_astore (lv' := [(5, .ref q9), (0, .ref (g.2.2 0)), (1, .int x1), (2, .int x2), (3, .int x3), (4, .ref (g.2.2 70))]) hx hb dL_byMist_15 hl (by decide) rfl (fun ls hl => ?_)
      refine lv_iconst (v := (1 : Int32)) hx hb dL_byMist_17 (by decide) ?_
      exact wr_ret C hP hD hS (h1 hE1).1.symm (h1 hE1).2.symm rfl dL_byMist_18
    · refine vx_catch hown [(⟨0, 12, 15, 18⟩ : ExceptionTableEntry)] ⟨0, 12, 19, 13⟩ [] (htab.trans rfl) (fun y hy => Or.inr ⟨by rw [List.mem_singleton.mp hy]; decide, "java/util/NoSuchElementException", by rw [List.mem_singleton.mp hy]; exact hts _ wa_637, (hXo.2.2.2 _ _ _ hXX).1.2.2.2.2⟩) (by decide) (by decide) (hts _ wa_211) ((hXo.2.2.2 _ _ _ hXX).2.2.1 _ _ (List.mem_append_left _ castI)) hq9 hcv hcl ?_
      refine lv_astore (lv' := [(5, .ref q9), (0, .ref (g.2.2 0)), (1, .int x1), (2, .int x2), (3, .int x3), (4, .ref (g.2.2 70))]) hx hb dL_byMist_19 hl (by decide) rfl (fun ls hl => ?_)
      refine lv_iconst (v := (2 : Int32)) hx hb dL_byMist_21 (by decide) ?_
      exact wr_ret C hP hD hS (h2 hE1).1.symm (h2 hE1).2.symm rfl dL_byMist_22
  · refine lv_i2l hx hb dL_byMist_10 rfl ?_
    refine wr_last C hP hD hS dL_byMist_11 (fun H locs hP hD hS => ?_)
    refine lv_goto (tgt := 23) hx hb dL_byMist_12 (by decide) ?_
    refine lv_iconst (v := (0 : Int32)) hx hb dL_byMist_23 (by decide) ?_
    exact wr_ret C hP hD hS (h0 hz0).1.symm (h0 hz0).2.symm rfl dL_byMist_24
abbrev rm_L_game : Room := { frames := 9, cells := 4, slots := 24, locals := 195 }
theorem nd_L_game : yL_game.cls ≠ "java/lang/invoke/MethodHandle" ∧ yL_game.cls ≠ "java/lang/invoke/VarHandle" ∧ (parseMethodDescriptor yL_game.desc).map (fun d => d.parameters.length) = some 5 := by decide +kernel
set_option maxHeartbeats 4000000 in
set_option maxRecDepth 100000 in
theorem cwr_game {N : Nat} {x1 : Int32} {x2 : Int32} {x3 : Int32} {σ : Sg} {z : Zt} {o o' : Int64} {k : Int32} (hX : xOK g X) (hst : l.stackTraces = false) (hf : f_X11_game_0 N x1 x2 x3 σ = some z) (h0 : z.1 = 0 → k = 0 ∧ o' = z.2.1.toInt64) (h1 : z.1 = 1 → k = 1 ∧ o' = o) (h2 : z.1 = 2 → k = 2 ∧ o' = o) : MetW l yL_game (Cond.codeWith yL_game cL_game 6 (some .int) [(0, 12, 15, 18), (0, 12, 19, 13)] :: wsA) rm_L_game 4 24 g X [.ref (g.2.2 0), .int x1, .int x2, .int x3, .ref (g.2.2 70)] σ o k z.2.2 o' := by
  refine MetW_of hX (by decide) (Nat.le_of_ble_eq_true rfl) (fun p e s m args below meth c A C htab ls hP hD hS hl => ?_)
  obtain ⟨hx, hb, hr, hml, hown, hts, hK, hlocks, hXX, hA, hXo⟩ := id C
  have hl : lv_has ls 6 [(0, .ref (g.2.2 0)), (1, .int x1), (2, .int x2), (3, .int x3), (4, .ref (g.2.2 70))] := hl
  refine lv_aload hx hb dL_game_0 (lv_at hl 4 rfl) ?_
  refine lv_iconst (v := (0 : Int32)) hx hb dL_game_2 (by decide) ?_
  refine lv_aload_n hx hb dL_game_3 rfl (lv_at hl 0 rfl) ?_
  refine lv_iload_n hx hb dL_game_4 rfl (lv_at hl 1 rfl) ?_
  refine lv_iload_n hx hb dL_game_5 rfl (lv_at hl 2 rfl) ?_
  refine lv_iload_n hx hb dL_game_6 rfl (lv_at hl 3 rfl) ?_
  refine wr_T (rest := [.int (0 : Int32), .ref (g.2.2 70)]) [.int x1, .int x2, .int x3] C hP hD hS hl.1 (c_X11_game_0 hXo hst hf) (cwA_V 3 hts wa_1370 wa_1367 wa_1368 wa_1369 wa_2 rfl rfl nd_X11_game ⟨Nat.le_of_ble_eq_true rfl, Nat.le_of_ble_eq_true rfl⟩) rfl rfl (Nat.le_of_ble_eq_true rfl) dL_game_7 ⟨Nat.le_of_ble_eq_true rfl, Nat.le_of_ble_eq_true rfl⟩ (fun E ce q9 H locs hE hP hD hS hq9 hcv hcl => ?_) (fun hz0 H locs hP hD hS => ?_)
  · rcases hE with ⟨hE1, rfl⟩ | ⟨hE1, rfl⟩
    · refine vx_catch hown [] ⟨0, 12, 15, 18⟩ [(⟨0, 12, 19, 13⟩ : ExceptionTableEntry)] (htab.trans rfl) (fun _ h => nomatch h) (by decide) (by decide) (hts _ wa_637) ((hXo.2.2.2 _ _ _ hXX).2.2.1 _ _ (List.mem_append_right _ castN)) hq9 hcv hcl ?_
      refine lv_astore (lv' := [(5, .ref q9), (0, .ref (g.2.2 0)), (1, .int x1), (2, .int x2), (3, .int x3), (4, .ref (g.2.2 70))]) hx hb dL_game_15 hl (by decide) rfl (fun ls hl => ?_)
      refine lv_iconst (v := (1 : Int32)) hx hb dL_game_17 (by decide) ?_
      exact wr_ret C hP hD hS (h1 hE1).1.symm (h1 hE1).2.symm rfl dL_game_18
    · refine vx_catch hown [(⟨0, 12, 15, 18⟩ : ExceptionTableEntry)] ⟨0, 12, 19, 13⟩ [] (htab.trans rfl) (fun y hy => Or.inr ⟨by rw [List.mem_singleton.mp hy]; decide, "java/util/NoSuchElementException", by rw [List.mem_singleton.mp hy]; exact hts _ wa_637, (hXo.2.2.2 _ _ _ hXX).1.2.2.2.2⟩) (by decide) (by decide) (hts _ wa_211) ((hXo.2.2.2 _ _ _ hXX).2.2.1 _ _ (List.mem_append_left _ castI)) hq9 hcv hcl ?_
      refine lv_astore (lv' := [(5, .ref q9), (0, .ref (g.2.2 0)), (1, .int x1), (2, .int x2), (3, .int x3), (4, .ref (g.2.2 70))]) hx hb dL_game_19 hl (by decide) rfl (fun ls hl => ?_)
      refine lv_iconst (v := (2 : Int32)) hx hb dL_game_21 (by decide) ?_
      exact wr_ret C hP hD hS (h2 hE1).1.symm (h2 hE1).2.symm rfl dL_game_22
  · refine lv_i2l hx hb dL_game_10 rfl ?_
    refine wr_last C hP hD hS dL_game_11 (fun H locs hP hD hS => ?_)
    refine lv_goto (tgt := 23) hx hb dL_game_12 (by decide) ?_
    refine lv_iconst (v := (0 : Int32)) hx hb dL_game_23 (by decide) ?_
    exact wr_ret C hP hD hS (h0 hz0).1.symm (h0 hz0).2.symm rfl dL_game_24
abbrev rm_L_years : Room := { frames := 8, cells := 2, slots := 12, locals := 171 }
theorem nd_L_years : yL_years.cls ≠ "java/lang/invoke/MethodHandle" ∧ yL_years.cls ≠ "java/lang/invoke/VarHandle" ∧ (parseMethodDescriptor yL_years.desc).map (fun d => d.parameters.length) = some 5 := by decide +kernel
set_option maxHeartbeats 4000000 in
set_option maxRecDepth 100000 in
theorem cwr_years {N : Nat} {x1 : Int32} {x2 : Int32} {x3 : Int32} {σ : Sg} {z : Zt} {o o' : Int64} {k : Int32} (hX : xOK g X) (hst : l.stackTraces = false) (hf : f_X11_years_0 N x1 x2 x3 σ = some z) (h0 : z.1 = 0 → k = 0 ∧ o' = z.2.1.toInt64) (h1 : z.1 = 1 → k = 1 ∧ o' = o) (h2 : z.1 = 2 → k = 2 ∧ o' = o) : MetW l yL_years (Cond.codeWith yL_years cL_years 6 (some .int) [(0, 12, 15, 18), (0, 12, 19, 13)] :: wsA) rm_L_years 2 12 g X [.ref (g.2.2 0), .int x1, .int x2, .int x3, .ref (g.2.2 70)] σ o k z.2.2 o' := by
  refine MetW_of hX (by decide) (Nat.le_of_ble_eq_true rfl) (fun p e s m args below meth c A C htab ls hP hD hS hl => ?_)
  obtain ⟨hx, hb, hr, hml, hown, hts, hK, hlocks, hXX, hA, hXo⟩ := id C
  have hl : lv_has ls 6 [(0, .ref (g.2.2 0)), (1, .int x1), (2, .int x2), (3, .int x3), (4, .ref (g.2.2 70))] := hl
  refine lv_aload hx hb dL_years_0 (lv_at hl 4 rfl) ?_
  refine lv_iconst (v := (0 : Int32)) hx hb dL_years_2 (by decide) ?_
  refine lv_aload_n hx hb dL_years_3 rfl (lv_at hl 0 rfl) ?_
  refine lv_iload_n hx hb dL_years_4 rfl (lv_at hl 1 rfl) ?_
  refine lv_iload_n hx hb dL_years_5 rfl (lv_at hl 2 rfl) ?_
  refine lv_iload_n hx hb dL_years_6 rfl (lv_at hl 3 rfl) ?_
  refine wr_T (rest := [.int (0 : Int32), .ref (g.2.2 70)]) [.int x1, .int x2, .int x3] C hP hD hS hl.1 (c_X11_years_0 hXo hst hf) (cwA_V 3 hts wa_1393 wa_1390 wa_1391 wa_1392 wa_2 rfl rfl nd_X11_years ⟨Nat.le_of_ble_eq_true rfl, Nat.le_of_ble_eq_true rfl⟩) rfl rfl (Nat.le_of_ble_eq_true rfl) dL_years_7 ⟨Nat.le_of_ble_eq_true rfl, Nat.le_of_ble_eq_true rfl⟩ (fun E ce q9 H locs hE hP hD hS hq9 hcv hcl => ?_) (fun hz0 H locs hP hD hS => ?_)
  · rcases hE with ⟨hE1, rfl⟩ | ⟨hE1, rfl⟩
    · refine vx_catch hown [] ⟨0, 12, 15, 18⟩ [(⟨0, 12, 19, 13⟩ : ExceptionTableEntry)] (htab.trans rfl) (fun _ h => nomatch h) (by decide) (by decide) (hts _ wa_637) ((hXo.2.2.2 _ _ _ hXX).2.2.1 _ _ (List.mem_append_right _ castN)) hq9 hcv hcl ?_
      refine lv_astore (lv' := [(5, .ref q9), (0, .ref (g.2.2 0)), (1, .int x1), (2, .int x2), (3, .int x3), (4, .ref (g.2.2 70))]) hx hb dL_years_15 hl (by decide) rfl (fun ls hl => ?_)
      refine lv_iconst (v := (1 : Int32)) hx hb dL_years_17 (by decide) ?_
      exact wr_ret C hP hD hS (h1 hE1).1.symm (h1 hE1).2.symm rfl dL_years_18
    · refine vx_catch hown [(⟨0, 12, 15, 18⟩ : ExceptionTableEntry)] ⟨0, 12, 19, 13⟩ [] (htab.trans rfl) (fun y hy => Or.inr ⟨by rw [List.mem_singleton.mp hy]; decide, "java/util/NoSuchElementException", by rw [List.mem_singleton.mp hy]; exact hts _ wa_637, (hXo.2.2.2 _ _ _ hXX).1.2.2.2.2⟩) (by decide) (by decide) (hts _ wa_211) ((hXo.2.2.2 _ _ _ hXX).2.2.1 _ _ (List.mem_append_left _ castI)) hq9 hcv hcl ?_
      refine lv_astore (lv' := [(5, .ref q9), (0, .ref (g.2.2 0)), (1, .int x1), (2, .int x2), (3, .int x3), (4, .ref (g.2.2 70))]) hx hb dL_years_19 hl (by decide) rfl (fun ls hl => ?_)
      refine lv_iconst (v := (2 : Int32)) hx hb dL_years_21 (by decide) ?_
      exact wr_ret C hP hD hS (h2 hE1).1.symm (h2 hE1).2.symm rfl dL_years_22
  · refine lv_i2l hx hb dL_years_10 rfl ?_
    refine wr_last C hP hD hS dL_years_11 (fun H locs hP hD hS => ?_)
    refine lv_goto (tgt := 23) hx hb dL_years_12 (by decide) ?_
    refine lv_iconst (v := (0 : Int32)) hx hb dL_years_23 (by decide) ?_
    exact wr_ret C hP hD hS (h0 hz0).1.symm (h0 hz0).2.symm rfl dL_years_24
end WRAP
