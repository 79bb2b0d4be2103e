section GEN
variable {p : Program} {l : Launch} {e : Env} {s : State} {m : MethodId} {args : Array Value} {below : List Frame} {meth : Method} {c : Code} {g : WG} {A : Nat → Prop} {X : Xt} {Q : State → Prop}
-- X11_years_0: years(III)I
abbrev rm_X11_years_0 : Room := { frames := 7, cells := 2, slots := 12, locals := 144 }
theorem nd_X11_years : yX11_years.cls ≠ "java/lang/invoke/MethodHandle" ∧ yX11_years.cls ≠ "java/lang/invoke/VarHandle" ∧ (parseMethodDescriptor yX11_years.desc).map (fun d => d.parameters.length) = some 3 := by decide +kernel
def s_X11_years_0_h60 (N : Nat) (x2 : Int32) (x3 : Int32) (x4 : Int32) (x5 : Int32) (x6 : Int32) (σ : Sg) : Option (Nat × Int32 × Int32 × Int32 × Sg) :=
if x2 ≤ x6 then (some (1, x4, x5, 0, σ))
else ((f_X11_happen_0 N σ).bind fun q1 =>
(f_X2_draw_55 N (10 : Int32) q1).bind fun q2 =>
(f_X2_step_55_50 N q2.1 (q2.2)).bind fun q3 =>
bd q3.1 fun v4 =>
bd (x4 ||| v4) fun v5 =>
(f_J6_bitCount_0f7a4 N v4 (q3.2)).bind fun q6 =>
bd (x5 + q6.1) fun v7 =>
bd (x6 + (1 : Int32)) fun v8 =>
some (0, v5, v7, v8, (q6.2)))
set_option maxHeartbeats 4000000 in
set_option maxRecDepth 100000 in
theorem e_X11_years_0_h60 {N : Nat} {x2 : Int32} {x3 : Int32} {x4 : Int32} {x5 : Int32} {x6 : Int32} {σ : Sg} {z : Nat × Int32 × Int32 × Int32 × Sg} (C : Cx p s m args meth c cX11_years 8 (some .int) RX11 g A X) (hex : ∀ x ∈ c.exceptionTable.toList, False) (hst : l.stackTraces = false) (hf : s_X11_years_0_h60 N x2 x3 x4 x5 x6 σ = some z) (k0 : z.1 = 0 → Bk cw p l e rm_X11_years_0 s m args below meth c 8 g A Q 2 12 60 [(0, .ref (g.2.2 0)), (2, .int x2), (3, .int x3), (4, .int z.2.1), (5, .int z.2.2.1), (6, .int z.2.2.2.1)] [] z.2.2.2.2) (k : ¬ z.1 = 0 → Bk cw p l e rm_X11_years_0 s m args below meth c 8 g A Q 2 12 115 [(0, .ref (g.2.2 0)), (3, .int x3), (4, .int z.2.1), (5, .int z.2.2.1)] [] z.2.2.2.2) : Bk cw p l e rm_X11_years_0 s m args below meth c 8 g A Q 2 12 60 [(0, .ref (g.2.2 0)), (2, .int x2), (3, .int x3), (4, .int x4), (5, .int x5), (6, .int x6)] [] σ := by
  obtain ⟨hx, hb, hr, hml, hown, hts, hK, hlocks, hXX, hA, hXo⟩ := id C
  intro H locs ls hP hD hS hl
  unfold s_X11_years_0_h60 at hf
  refine lv_iload hx hb dX11_years_60 (lv_at hl 5 rfl) ?_
  refine lv_iload_n hx hb dX11_years_62 rfl (lv_at hl 1 rfl) ?_
  refine lv_icmp_ge (tgt := 115) hx hb dX11_years_63 (by decide) (fun t63 => ?_) (fun t63 => ?_)
  · have hf := (if_pos t63).symm.trans hf
    cases hf
    exact (k (show ¬ (1 : Nat) = 0 by decide)) H locs ls hP hD hS (lv_sub hl [0, 2, 3, 4] rfl)
  · have hf := (if_neg t63).symm.trans hf
    refine lv_aload_n hx hb dX11_years_66 rfl (lv_at hl 0 rfl) ?_
    obtain ⟨q1, hq1, hf⟩ := bi_s hf
    refine bk_VV (wf := cw) (q0 := 0) (ci := 10) (rest := []) [] C hP hD hS hl.1 (c_X11_happen_0 hXo hq1) (cwA_V 0 hts wa_1398 wa_1395 wa_1396 wa_1397 wa_2 rfl rfl nd_X11_happen ⟨Nat.le_of_ble_eq_true rfl, Nat.le_of_ble_eq_true rfl⟩) rfl rfl rfl rfl (Nat.le_of_ble_eq_true rfl) dX11_years_67 ⟨Nat.le_of_ble_eq_true rfl, Nat.le_of_ble_eq_true rfl⟩ (fun H locs hP hD hS => ?_)
    refine lv_aload_n hx hb dX11_years_70 rfl (lv_at hl 0 rfl) ?_
    refine bk_get (wf := cw) (q0 := 0) (ci := 10) (k := 10) (v := .ref (g.2.2 55)) C hP wl_X11 rfl rfl (by decide) wa_42 rfl rfl dX11_years_71 ?_
    refine lv_aload_n hx hb dX11_years_74 rfl (lv_at hl 0 rfl) ?_
    refine bk_get (wf := cw) (q0 := 0) (ci := 10) (k := 8) (v := .ref (g.2.2 50)) C hP wl_X11 rfl rfl (by decide) wa_34 rfl rfl dX11_years_75 ?_
    refine lv_aload_n hx hb dX11_years_78 rfl (lv_at hl 0 rfl) ?_
    refine bk_get (wf := cw) (q0 := 0) (ci := 10) (k := 10) (v := .ref (g.2.2 55)) C hP wl_X11 rfl rfl (by decide) wa_42 rfl rfl dX11_years_79 ?_
    refine lv_bipush (v := (10 : Int32)) hx hb dX11_years_82 (by decide) ?_
    obtain ⟨q2, hq2, hf⟩ := bi_s hf
    refine bk_VI (wf := cw) (q0 := 55) (ci := 2) (rest := [.ref (g.2.2 50), .ref (g.2.2 55)]) [.int (10 : Int32)] C hP hD hS hl.1 (c_X2_draw_55 hXo hq2) (cwA_V 1 hts wa_1402 wa_1399 wa_1400 wa_1401 wa_41 rfl rfl nd_X2_draw ⟨Nat.le_of_ble_eq_true rfl, Nat.le_of_ble_eq_true rfl⟩) rfl rfl rfl rfl (Nat.le_of_ble_eq_true rfl) dX11_years_84 ⟨Nat.le_of_ble_eq_true rfl, Nat.le_of_ble_eq_true rfl⟩ (fun H locs hP hD hS => ?_)
    obtain ⟨q3, hq3, hf⟩ := bi_s hf
    refine bk_VI (wf := cw) (q0 := 55) (ci := 2) (rest := []) [.ref (g.2.2 50), .int q2.1] C hP hD hS hl.1 (c_X2_step_55_50 hXo hq3) (cwA_V 2 hts wa_839 wa_1353 wa_837 wa_838 wa_41 rfl rfl nd_X2_step ⟨Nat.le_of_ble_eq_true rfl, Nat.le_of_ble_eq_true rfl⟩) rfl rfl rfl rfl (Nat.le_of_ble_eq_true rfl) dX11_years_87 ⟨Nat.le_of_ble_eq_true rfl, Nat.le_of_ble_eq_true rfl⟩ (fun H locs hP hD hS => ?_)
    obtain ⟨v4, ev4, hf⟩ := bd_s hf
    rw [← ev4]
    refine lv_istore (lv' := [(7, .int v4), (0, .ref (g.2.2 0)), (2, .int x2), (3, .int x3), (4, .int x4), (5, .int x5), (6, .int x6)]) hx hb dX11_years_90 hl (by decide) rfl (fun ls hl => ?_)
    refine lv_iload hx hb dX11_years_92 (lv_at hl 4 rfl) ?_
    refine lv_iload hx hb dX11_years_94 (lv_at hl 0 rfl) ?_
    refine lv_ior hx hb dX11_years_96 ?_
    obtain ⟨v5, ev5, hf⟩ := bd_s hf
    rw [← ev5]
    refine lv_istore (lv' := [(4, .int v5), (7, .int v4), (0, .ref (g.2.2 0)), (2, .int x2), (3, .int x3), (5, .int x5), (6, .int x6)]) hx hb dX11_years_97 hl (by decide) rfl (fun ls hl => ?_)
    refine lv_iload hx hb dX11_years_99 (lv_at hl 5 rfl) ?_
    refine lv_iload hx hb dX11_years_101 (lv_at hl 1 rfl) ?_
    obtain ⟨q6, hq6, hf⟩ := bi_s hf
    refine bk_SI (wf := cw) (rest := [.int x5]) [.int v4] C hP hD hS hl.1 (c_J6_bitCount_0f7a4 hXo hq6) (cwA_S 1 hts wa_699 wa_1071 wa_697 wa_698 rfl rfl nd_J6_bitCount_0f7a4 ⟨Nat.le_of_ble_eq_true rfl, Nat.le_of_ble_eq_true rfl⟩) rfl rfl (Nat.le_of_ble_eq_true rfl) dX11_years_103 ⟨Nat.le_of_ble_eq_true rfl, Nat.le_of_ble_eq_true rfl⟩ (fun H locs hP hD hS => ?_)
    refine lv_iadd hx hb dX11_years_106 ?_
    obtain ⟨v7, ev7, hf⟩ := bd_s hf
    rw [← ev7]
    refine lv_istore (lv' := [(5, .int v7), (4, .int v5), (7, .int v4), (0, .ref (g.2.2 0)), (2, .int x2), (3, .int x3), (6, .int x6)]) hx hb dX11_years_107 hl (by decide) rfl (fun ls hl => ?_)
    obtain ⟨v8, ev8, hf⟩ := bd_s hf
    refine lv_iinc (v := v8) (lv' := [(6, .int v8), (5, .int v7), (4, .int v5), (7, .int v4), (0, .ref (g.2.2 0)), (2, .int x2), (3, .int x3)]) hx hb dX11_years_109 hl (k := 6) rfl (by rw [ev8]; rfl) (by decide) rfl (fun ls hl => ?_)
    refine lv_goto (tgt := 60) hx hb dX11_years_112 (by decide) ?_
    cases hf
    exact k0 rfl H locs ls hP hD hS (lv_sub hl [4, 5, 6, 2, 1, 0] rfl)
theorem lp_X11_years_0_h60 {N n : Nat} {x2 : Int32} {x3 : Int32} {x4 : Int32} {x5 : Int32} {x6 : Int32} {σ : Sg} {z : Nat × Int32 × Int32 × Int32 × Sg} (C : Cx p s m args meth c cX11_years 8 (some .int) RX11 g A X) (hex : ∀ x ∈ c.exceptionTable.toList, False) (hst : l.stackTraces = false) (hz : it (fun q => s_X11_years_0_h60 N x2 x3 q.1 q.2.1 q.2.2.1 q.2.2.2) n (x4, x5, x6, σ) = some z) (k : Bk cw p l e rm_X11_years_0 s m args below meth c 8 g A Q 2 12 115 [(0, .ref (g.2.2 0)), (3, .int x3), (4, .int z.2.1), (5, .int z.2.2.1)] [] z.2.2.2.2) : Bk cw p l e rm_X11_years_0 s m args below meth c 8 g A Q 2 12 60 [(0, .ref (g.2.2 0)), (2, .int x2), (3, .int x3), (4, .int x4), (5, .int x5), (6, .int x6)] [] σ :=
  it_W (S := Int32 × Int32 × Int32 × Sg) (fun q => Bk cw p l e rm_X11_years_0 s m args below meth c 8 g A Q 2 12 60 [(0, .ref (g.2.2 0)), (2, .int x2), (3, .int x3), (4, .int q.1), (5, .int q.2.1), (6, .int q.2.2.1)] [] q.2.2.2) (fun z => Bk cw p l e rm_X11_years_0 s m args below meth c 8 g A Q 2 12 115 [(0, .ref (g.2.2 0)), (3, .int x3), (4, .int z.2.1), (5, .int z.2.2.1)] [] z.2.2.2.2) (fun q z hq k0 k => e_X11_years_0_h60 C hex hst hq k0 k) n (x4, x5, x6, σ) z hz k
def f_X11_years_0 (N : Nat) (x1 : Int32) (x2 : Int32) (x3 : Int32) (σ : Sg) : Option (Zt) :=
(f_X11_needWhat N x3 (2 : Int32) σ).bind fun q9 =>
if q9.1 = 0 then ((f_X11_needWithin N x2 (0 : Int32) (60 : Int32) (q9.2.2)).bind fun q10 =>
if q10.1 = 0 then ((f_X2_start_55_22 N (q10.2.2)).bind fun q11 =>
bd (wr q11 55 2 x1) fun σ12 =>
(f_X6_build_50_26 N σ12).bind fun q13 =>
(it (fun q => s_X11_years_0_h60 N x2 x3 q.1 q.2.1 q.2.2.1 q.2.2.2) N ((0 : Int32), (0 : Int32), (0 : Int32), q13)).bind fun z14 =>
if x3 = 0 then (some (0, (z14.2.2.1), (z14.2.2.2.2)))
else (if x3 = (1 : Int32) then (some (0, ((z14.2.2.2.2) 56 1), (z14.2.2.2.2)))
else ((f_J6_bitCount_0f7a4 N (z14.2.1) (z14.2.2.2.2)).bind fun q15 =>
some (0, (((z14.2.2.2.2) 12 0) - q15.1), (q15.2)))))
else some (q10.1, 0, q10.2.2))
else some (q9.1, 0, q9.2.2)
set_option maxHeartbeats 4000000 in
set_option maxRecDepth 100000 in
theorem b_X11_years_0 {N : Nat} {x1 : Int32} {x2 : Int32} {x3 : Int32} {σ : Sg} {z : Zt} (C : Cx p s m args meth c cX11_years 8 (some .int) RX11 g A X) (hex : ∀ x ∈ c.exceptionTable.toList, False) (hst : l.stackTraces = false) (hf : f_X11_years_0 N x1 x2 x3 σ = some z) : Bk cw p l e rm_X11_years_0 s m args below meth c 8 g A (vx_MQ below (qTi cw g A z) (xT cw g A z) args s 2 12 A) 0 0 0 [(0, .ref (g.2.2 0)), (1, .int x1), (2, .int x2), (3, .int x3)] [] σ := by
  obtain ⟨hx, hb, hr, hml, hown, hts, hK, hlocks, hXX, hA, hXo⟩ := id C
  intro H locs ls hP hD hS hl
  unfold f_X11_years_0 at hf
  refine lv_iload_n hx hb dX11_years_0 rfl (lv_at hl 3 rfl) ?_
  refine lv_iconst (v := (2 : Int32)) hx hb dX11_years_1 (by decide) ?_
  obtain ⟨q9, hq9, hf⟩ := bi_s hf
  refine bk_TS (wf := cw) (rest := []) [.int x3, .int (2 : Int32)] C hex hP hD hS hl.1 (c_X11_needWhat hXo hst hq9) (cwA_S 2 hts wa_1035 wa_1033 wa_1034 wa_2 rfl rfl nd_X11_needWhat ⟨Nat.le_of_ble_eq_true rfl, Nat.le_of_ble_eq_true rfl⟩) rfl rfl (Nat.le_of_ble_eq_true rfl) dX11_years_2 ⟨Nat.le_of_ble_eq_true rfl, Nat.le_of_ble_eq_true rfl⟩ ⟨Nat.le_of_ble_eq_true rfl, Nat.le_of_ble_eq_true rfl⟩ (fun h0 => by have hf := (if_neg h0).symm.trans hf; cases hf; exact ⟨rfl, rfl⟩) (fun h0 H locs hP hD hS => ?_)
  have hf := (if_pos h0).symm.trans hf
  refine lv_iload_n hx hb dX11_years_5 rfl (lv_at hl 2 rfl) ?_
  refine lv_iconst (v := (0 : Int32)) hx hb dX11_years_6 (by decide) ?_
  refine lv_bipush (v := (60 : Int32)) hx hb dX11_years_7 (by decide) ?_
  obtain ⟨q10, hq10, hf⟩ := bi_s hf
  refine bk_TS (wf := cw) (rest := []) [.int x2, .int (0 : Int32), .int (60 : Int32)] C hex hP hD hS hl.1 (c_X11_needWithin hXo hst hq10) (cwA_S 3 hts wa_1020 wa_1018 wa_1019 wa_2 rfl rfl nd_X11_needWithin ⟨Nat.le_of_ble_eq_true rfl, Nat.le_of_ble_eq_true rfl⟩) rfl rfl (Nat.le_of_ble_eq_true rfl) dX11_years_9 ⟨Nat.le_of_ble_eq_true rfl, Nat.le_of_ble_eq_true rfl⟩ ⟨Nat.le_of_ble_eq_true rfl, Nat.le_of_ble_eq_true rfl⟩ (fun h0 => by have hf := (if_neg h0).symm.trans hf; cases hf; exact ⟨rfl, rfl⟩) (fun h0 H locs hP hD hS => ?_)
  have hf := (if_pos h0).symm.trans hf
  refine lv_aload_n hx hb dX11_years_12 rfl (lv_at hl 0 rfl) ?_
  refine bk_get (wf := cw) (q0 := 0) (ci := 10) (k := 10) (v := .ref (g.2.2 55)) C hP wl_X11 rfl rfl (by decide) wa_42 rfl rfl dX11_years_13 ?_
  refine lv_aload_n hx hb dX11_years_16 rfl (lv_at hl 0 rfl) ?_
  refine bk_get (wf := cw) (q0 := 0) (ci := 10) (k := 4) (v := .ref (g.2.2 21)) C hP wl_X11 rfl rfl (by decide) wa_27 rfl rfl dX11_years_17 ?_
  refine bk_get (wf := cw) (q0 := 21) (ci := 1) (k := 0) (v := .ref (g.2.2 22)) C hP wl_X1 rfl rfl (by decide) wa_221 rfl rfl dX11_years_20 ?_
  obtain ⟨q11, hq11, hf⟩ := bi_s hf
  refine bk_VV (wf := cw) (q0 := 55) (ci := 2) (rest := []) [.ref (g.2.2 22)] C hP hD hS hl.1 (c_X2_start_55_22 hXo hq11) (cwA_V 1 hts wa_825 wa_822 wa_823 wa_824 wa_41 rfl rfl nd_X2_start ⟨Nat.le_of_ble_eq_true rfl, Nat.le_of_ble_eq_true rfl⟩) rfl rfl rfl rfl (Nat.le_of_ble_eq_true rfl) dX11_years_23 ⟨Nat.le_of_ble_eq_true rfl, Nat.le_of_ble_eq_true rfl⟩ (fun H locs hP hD hS => ?_)
  refine lv_aload_n hx hb dX11_years_26 rfl (lv_at hl 0 rfl) ?_
  refine bk_get (wf := cw) (q0 := 0) (ci := 10) (k := 10) (v := .ref (g.2.2 55)) C hP wl_X11 rfl rfl (by decide) wa_42 rfl rfl dX11_years_27 ?_
  refine lv_iload_n hx hb dX11_years_30 rfl (lv_at hl 1 rfl) ?_
  obtain ⟨σ12, eσ12, hf⟩ := bd_s hf
  refine bk_put (wf := cw) (σ1 := σ12) (q0 := 55) (ci := 2) (k := 2) (v := .int x1) C hP hD hS wl_X2 tyX2_ok nmX2 rfl rfl (by decide) wa_1394 rfl rfl rfl rfl rfl (Nat.le_of_ble_eq_true rfl) (by rw [eσ12]; exact cw_p55_2 g _ _) dX11_years_31 (fun H locs hP hD hS => ?_)
  refine lv_aload_n hx hb dX11_years_34 rfl (lv_at hl 0 rfl) ?_
  refine bk_get (wf := cw) (q0 := 0) (ci := 10) (k := 8) (v := .ref (g.2.2 50)) C hP wl_X11 rfl rfl (by decide) wa_34 rfl rfl dX11_years_35 ?_
  refine lv_aload_n hx hb dX11_years_38 rfl (lv_at hl 0 rfl) ?_
  refine bk_get (wf := cw) (q0 := 0) (ci := 10) (k := 4) (v := .ref (g.2.2 21)) C hP wl_X11 rfl rfl (by decide) wa_27 rfl rfl dX11_years_39 ?_
  refine bk_get (wf := cw) (q0 := 21) (ci := 1) (k := 0) (v := .ref (g.2.2 22)) C hP wl_X1 rfl rfl (by decide) wa_221 rfl rfl dX11_years_42 ?_
  refine bk_get (wf := cw) (q0 := 22) (ci := 7) (k := 5) (v := .ref (g.2.2 26)) C hP wl_X7 rfl rfl (by decide) wa_224 rfl rfl dX11_years_45 ?_
  obtain ⟨q13, hq13, hf⟩ := bi_s hf
  refine bk_VV (wf := cw) (q0 := 50) (ci := 6) (rest := []) [.ref (g.2.2 26)] C hP hD hS hl.1 (c_X6_build_50_26 hXo hq13) (cwA_V 1 hts wa_472 wa_469 wa_470 wa_471 wa_32 rfl rfl nd_X6_build ⟨Nat.le_of_ble_eq_true rfl, Nat.le_of_ble_eq_true rfl⟩) rfl rfl rfl rfl (Nat.le_of_ble_eq_true rfl) dX11_years_48 ⟨Nat.le_of_ble_eq_true rfl, Nat.le_of_ble_eq_true rfl⟩ (fun H locs hP hD hS => ?_)
  refine lv_iconst (v := (0 : Int32)) hx hb dX11_years_51 (by decide) ?_
  refine lv_istore (lv' := [(4, .int (0 : Int32)), (0, .ref (g.2.2 0)), (1, .int x1), (2, .int x2), (3, .int x3)]) hx hb dX11_years_52 hl (by decide) rfl (fun ls hl => ?_)
  refine lv_iconst (v := (0 : Int32)) hx hb dX11_years_54 (by decide) ?_
  refine lv_istore (lv' := [(5, .int (0 : Int32)), (4, .int (0 : Int32)), (0, .ref (g.2.2 0)), (1, .int x1), (2, .int x2), (3, .int x3)]) hx hb dX11_years_55 hl (by decide) rfl (fun ls hl => ?_)
  refine lv_iconst (v := (0 : Int32)) hx hb dX11_years_57 (by decide) ?_
  refine lv_istore (lv' := [(6, .int (0 : Int32)), (5, .int (0 : Int32)), (4, .int (0 : Int32)), (0, .ref (g.2.2 0)), (1, .int x1), (2, .int x2), (3, .int x3)]) hx hb dX11_years_58 hl (by decide) rfl (fun ls hl => ?_)
  obtain ⟨z14, hz14, hf⟩ := bi_s hf
  refine lp_X11_years_0_h60 C hex hst hz14 ?_ H locs ls hP hD hS (lv_sub hl [3, 5, 6, 2, 1, 0] rfl)
  intro H locs ls hP hD hS hl
  refine lv_iload_n hx hb dX11_years_115 rfl (lv_at hl 1 rfl) ?_
  refine lv_if_ne (tgt := 122) hx hb dX11_years_116 (by decide) (fun t116 => ?_) (fun t116 => ?_)
  · have hf := (if_neg t116).symm.trans hf
    refine lv_iload_n hx hb dX11_years_122 rfl (lv_at hl 1 rfl) ?_
    refine lv_iconst (v := (1 : Int32)) hx hb dX11_years_123 (by decide) ?_
    refine lv_icmp_ne (tgt := 140) hx hb dX11_years_124 (by decide) (fun t124 => ?_) (fun t124 => ?_)
    · have hf := (if_neg t124).symm.trans hf
      refine lv_aload_n hx hb dX11_years_140 rfl (lv_at hl 0 rfl) ?_
      refine bk_get (wf := cw) (q0 := 0) (ci := 10) (k := 3) (v := .ref (g.2.2 12)) C hP wl_X11 rfl rfl (by decide) wa_23 rfl rfl dX11_years_141 ?_
      refine bk_get (wf := cw) (q0 := 12) (ci := 8) (k := 0) (v := .int ((z14.2.2.2.2) 12 0)) C hP wl_X9 rfl rfl (by decide) wa_644 rfl rfl dX11_years_144 ?_
      refine lv_iload hx hb dX11_years_147 (lv_at hl 2 rfl) ?_
      obtain ⟨q15, hq15, hf⟩ := bi_s hf
      refine bk_SI (wf := cw) (rest := [.int ((z14.2.2.2.2) 12 0)]) [.int (z14.2.1)] C hP hD hS hl.1 (c_J6_bitCount_0f7a4 hXo hq15) (cwA_S 1 hts wa_699 wa_1071 wa_697 wa_698 rfl rfl nd_J6_bitCount_0f7a4 ⟨Nat.le_of_ble_eq_true rfl, Nat.le_of_ble_eq_true rfl⟩) rfl rfl (Nat.le_of_ble_eq_true rfl) dX11_years_149 ⟨Nat.le_of_ble_eq_true rfl, Nat.le_of_ble_eq_true rfl⟩ (fun H locs hP hD hS => ?_)
      refine lv_isub hx hb dX11_years_152 ?_
      exact bk_iretT C hP hD hS hf (Nat.le_of_ble_eq_true rfl) (Nat.le_of_ble_eq_true rfl) dX11_years_153
    · have hf := (if_pos t124).symm.trans hf
      refine lv_aload_n hx hb dX11_years_127 rfl (lv_at hl 0 rfl) ?_
      refine bk_get (wf := cw) (q0 := 0) (ci := 10) (k := 10) (v := .ref (g.2.2 55)) C hP wl_X11 rfl rfl (by decide) wa_42 rfl rfl dX11_years_128 ?_
      refine bk_get (wf := cw) (q0 := 55) (ci := 2) (k := 0) (v := .ref (g.2.2 56)) C hP wl_X2 rfl rfl (by decide) wa_808 rfl rfl dX11_years_131 ?_
      refine bk_get (wf := cw) (q0 := 56) (ci := 7) (k := 1) (v := .int ((z14.2.2.2.2) 56 1)) C hP wl_X7 rfl rfl (by decide) wa_648 rfl rfl dX11_years_134 ?_
      refine lv_goto (tgt := 153) hx hb dX11_years_137 (by decide) ?_
      exact bk_iretT C hP hD hS hf (Nat.le_of_ble_eq_true rfl) (Nat.le_of_ble_eq_true rfl) dX11_years_153
  · have hf := (if_pos t116).symm.trans hf
    refine lv_iload hx hb dX11_years_119 (lv_at hl 3 rfl) ?_
    exact bk_iretT C hP hD hS hf (Nat.le_of_ble_eq_true rfl) (Nat.le_of_ble_eq_true rfl) dX11_years_121
theorem c_X11_years_0 {N : Nat} {x1 : Int32} {x2 : Int32} {x3 : Int32} {σ : Sg} {z : Zt} (hX : xOK g X) (hst : l.stackTraces = false) (hf : f_X11_years_0 N x1 x2 x3 σ = some z) : MetTi l yX11_years (Cond.code yX11_years cX11_years 8 (some .int) :: wsA) rm_X11_years_0 2 12 cw g X [.ref (g.2.2 0), .int x1, .int x2, .int x3] σ z :=
  MetTi_of hX (by decide) (Nat.le_of_ble_eq_true rfl) (fun p e s m args below meth c A C hex => b_X11_years_0 C hex hst hf)
-- X11_copyFarms_23_36: copyFarms([I[I)V
abbrev rm_X11_copyFarms_23_36 : Room := { frames := 1, cells := 0, slots := 0, locals := 80 }
def f_X11_copyFarms_23_36 (N : Nat) (σ : Sg) : Option (Sg) :=
bd (wrR σ 36 (va_cpy (σ 23) (σ 36) 0 0 9)) fun σ1 =>
some σ1
set_option maxHeartbeats 4000000 in
set_option maxRecDepth 100000 in
theorem b_X11_copyFarms_23_36 {N : Nat} {σ : Sg} {z : Sg} (C : Cx p s m args meth c cX11_copyFarms 2 none RX11 g A X) (hf : f_X11_copyFarms_23_36 N σ = some z) : Bk cw p l e rm_X11_copyFarms_23_36 s m args below meth c 2 g A (MQ below (qV cw g A z) args s 0 0 A) 0 0 0 [(0, .ref (g.2.2 23)), (1, .ref (g.2.2 36))] [] σ := by
  obtain ⟨hx, hb, hr, hml, hown, hts, hK, hlocks, hXX, hA, hXo⟩ := id C
  intro H locs ls hP hD hS hl
  unfold f_X11_copyFarms_23_36 at hf
  refine lv_aload_n hx hb dX11_copyFarms_0 rfl (lv_at hl 0 rfl) ?_
  refine lv_iconst (v := (0 : Int32)) hx hb dX11_copyFarms_1 (by decide) ?_
  refine lv_aload_n hx hb dX11_copyFarms_2 rfl (lv_at hl 1 rfl) ?_
  refine lv_iconst (v := (0 : Int32)) hx hb dX11_copyFarms_3 (by decide) ?_
  refine lv_bipush (v := (9 : Int32)) hx hb dX11_copyFarms_4 (by decide) ?_
  obtain ⟨σ1, eσ1, hf⟩ := bd_s hf
  refine bk_copy (wf := cw) (σ1 := σ1) (q0 := 23) (q1 := 36) (n0 := 9) (n1 := 9) (js := 0) (jd := 0) (jn := 9) C hP hD hS hl.1 wa_446 wa_441 wa_442 wa_443 rfl rfl (by decide) (by decide) (by decide) (by decide) (by decide) (by decide) (Nat.le_of_ble_eq_true rfl) (Nat.le_of_ble_eq_true rfl) (Nat.le_of_ble_eq_true rfl) (Nat.le_of_ble_eq_true rfl) (by rw [eσ1]; exact cw_r36 g _ _) dX11_copyFarms_6 (fun H locs hP hD hS => ?_)
  cases hf
  exact bk_vret C hP hD hS rfl dX11_copyFarms_9
theorem c_X11_copyFarms_23_36 {N : Nat} {σ : Sg} {z : Sg} (hX : xOK g X) (hf : f_X11_copyFarms_23_36 N σ = some z) : MetV l yX11_copyFarms (Cond.code yX11_copyFarms cX11_copyFarms 2 none :: wsA) rm_X11_copyFarms_23_36 cw g X [.ref (g.2.2 23), .ref (g.2.2 36)] σ z :=
  MetV_of hX (by decide) (Nat.le_of_ble_eq_true rfl) (fun p e s m args below meth c A C => b_X11_copyFarms_23_36 C hf)
-- X11_copyFarms_24_37: copyFarms([I[I)V
abbrev rm_X11_copyFarms_24_37 : Room := { frames := 1, cells := 0, slots := 0, locals := 80 }
def f_X11_copyFarms_24_37 (N : Nat) (σ : Sg) : Option (Sg) :=
bd (wrR σ 37 (va_cpy (σ 24) (σ 37) 0 0 9)) fun σ1 =>
some σ1
set_option maxHeartbeats 4000000 in
set_option maxRecDepth 100000 in
theorem b_X11_copyFarms_24_37 {N : Nat} {σ : Sg} {z : Sg} (C : Cx p s m args meth c cX11_copyFarms 2 none RX11 g A X) (hf : f_X11_copyFarms_24_37 N σ = some z) : Bk cw p l e rm_X11_copyFarms_24_37 s m args below meth c 2 g A (MQ below (qV cw g A z) args s 0 0 A) 0 0 0 [(0, .ref (g.2.2 24)), (1, .ref (g.2.2 37))] [] σ := by
  obtain ⟨hx, hb, hr, hml, hown, hts, hK, hlocks, hXX, hA, hXo⟩ := id C
  intro H locs ls hP hD hS hl
  unfold f_X11_copyFarms_24_37 at hf
  refine lv_aload_n hx hb dX11_copyFarms_0 rfl (lv_at hl 0 rfl) ?_
  refine lv_iconst (v := (0 : Int32)) hx hb dX11_copyFarms_1 (by decide) ?_
  refine lv_aload_n hx hb dX11_copyFarms_2 rfl (lv_at hl 1 rfl) ?_
  refine lv_iconst (v := (0 : Int32)) hx hb dX11_copyFarms_3 (by decide) ?_
  refine lv_bipush (v := (9 : Int32)) hx hb dX11_copyFarms_4 (by decide) ?_
  obtain ⟨σ1, eσ1, hf⟩ := bd_s hf
  refine bk_copy (wf := cw) (σ1 := σ1) (q0 := 24) (q1 := 37) (n0 := 9) (n1 := 9) (js := 0) (jd := 0) (jn := 9) C hP hD hS hl.1 wa_446 wa_441 wa_442 wa_443 rfl rfl (by decide) (by decide) (by decide) (by decide) (by decide) (by decide) (Nat.le_of_ble_eq_true rfl) (Nat.le_of_ble_eq_true rfl) (Nat.le_of_ble_eq_true rfl) (Nat.le_of_ble_eq_true rfl) (by rw [eσ1]; exact cw_r37 g _ _) dX11_copyFarms_6 (fun H locs hP hD hS => ?_)
  cases hf
  exact bk_vret C hP hD hS rfl dX11_copyFarms_9
theorem c_X11_copyFarms_24_37 {N : Nat} {σ : Sg} {z : Sg} (hX : xOK g X) (hf : f_X11_copyFarms_24_37 N σ = some z) : MetV l yX11_copyFarms (Cond.code yX11_copyFarms cX11_copyFarms 2 none :: wsA) rm_X11_copyFarms_24_37 cw g X [.ref (g.2.2 24), .ref (g.2.2 37)] σ z :=
  MetV_of hX (by decide) (Nat.le_of_ble_eq_true rfl) (fun p e s m args below meth c A C => b_X11_copyFarms_24_37 C hf)
-- X11_copyFarms_25_38: copyFarms([I[I)V
abbrev rm_X11_copyFarms_25_38 : Room := { frames := 1, cells := 0, slots := 0, locals := 80 }
def f_X11_copyFarms_25_38 (N : Nat) (σ : Sg) : Option (Sg) :=
bd (wrR σ 38 (va_cpy (σ 25) (σ 38) 0 0 9)) fun σ1 =>
some σ1
set_option maxHeartbeats 4000000 in
set_option maxRecDepth 100000 in
theorem b_X11_copyFarms_25_38 {N : Nat} {σ : Sg} {z : Sg} (C : Cx p s m args meth c cX11_copyFarms 2 none RX11 g A X) (hf : f_X11_copyFarms_25_38 N σ = some z) : Bk cw p l e rm_X11_copyFarms_25_38 s m args below meth c 2 g A (MQ below (qV cw g A z) args s 0 0 A) 0 0 0 [(0, .ref (g.2.2 25)), (1, .ref (g.2.2 38))] [] σ := by
  obtain ⟨hx, hb, hr, hml, hown, hts, hK, hlocks, hXX, hA, hXo⟩ := id C
  intro H locs ls hP hD hS hl
  unfold f_X11_copyFarms_25_38 at hf
  refine lv_aload_n hx hb dX11_copyFarms_0 rfl (lv_at hl 0 rfl) ?_
  refine lv_iconst (v := (0 : Int32)) hx hb dX11_copyFarms_1 (by decide) ?_
  refine lv_aload_n hx hb dX11_copyFarms_2 rfl (lv_at hl 1 rfl) ?_
  refine lv_iconst (v := (0 : Int32)) hx hb dX11_copyFarms_3 (by decide) ?_
  refine lv_bipush (v := (9 : Int32)) hx hb dX11_copyFarms_4 (by decide) ?_
  obtain ⟨σ1, eσ1, hf⟩ := bd_s hf
  refine bk_copy (wf := cw) (σ1 := σ1) (q0 := 25) (q1 := 38) (n0 := 9) (n1 := 9) (js := 0) (jd := 0) (jn := 9) C hP hD hS hl.1 wa_446 wa_441 wa_442 wa_443 rfl rfl (by decide) (by decide) (by decide) (by decide) (by decide) (by decide) (Nat.le_of_ble_eq_true rfl) (Nat.le_of_ble_eq_true rfl) (Nat.le_of_ble_eq_true rfl) (Nat.le_of_ble_eq_true rfl) (by rw [eσ1]; exact cw_r38 g _ _) dX11_copyFarms_6 (fun H locs hP hD hS => ?_)
  cases hf
  exact bk_vret C hP hD hS rfl dX11_copyFarms_9
theorem c_X11_copyFarms_25_38 {N : Nat} {σ : Sg} {z : Sg} (hX : xOK g X) (hf : f_X11_copyFarms_25_38 N σ = some z) : MetV l yX11_copyFarms (Cond.code yX11_copyFarms cX11_copyFarms 2 none :: wsA) rm_X11_copyFarms_25_38 cw g X [.ref (g.2.2 25), .ref (g.2.2 38)] σ z :=
  MetV_of hX (by decide) (Nat.le_of_ble_eq_true rfl) (fun p e s m args below meth c A C => b_X11_copyFarms_25_38 C hf)
-- X11_copyFarms_26_39: copyFarms([I[I)V
abbrev rm_X11_copyFarms_26_39 : Room := { frames := 1, cells := 0, slots := 0, locals := 80 }
def f_X11_copyFarms_26_39 (N : Nat) (σ : Sg) : Option (Sg) :=
bd (wrR σ 39 (va_cpy (σ 26) (σ 39) 0 0 9)) fun σ1 =>
some σ1
set_option maxHeartbeats 4000000 in
set_option maxRecDepth 100000 in
theorem b_X11_copyFarms_26_39 {N : Nat} {σ : Sg} {z : Sg} (C : Cx p s m args meth c cX11_copyFarms 2 none RX11 g A X) (hf : f_X11_copyFarms_26_39 N σ = some z) : Bk cw p l e rm_X11_copyFarms_26_39 s m args below meth c 2 g A (MQ below (qV cw g A z) args s 0 0 A) 0 0 0 [(0, .ref (g.2.2 26)), (1, .ref (g.2.2 39))] [] σ := by
  obtain ⟨hx, hb, hr, hml, hown, hts, hK, hlocks, hXX, hA, hXo⟩ := id C
  intro H locs ls hP hD hS hl
  unfold f_X11_copyFarms_26_39 at hf
  refine lv_aload_n hx hb dX11_copyFarms_0 rfl (lv_at hl 0 rfl) ?_
  refine lv_iconst (v := (0 : Int32)) hx hb dX11_copyFarms_1 (by decide) ?_
  refine lv_aload_n hx hb dX11_copyFarms_2 rfl (lv_at hl 1 rfl) ?_
  refine lv_iconst (v := (0 : Int32)) hx hb dX11_copyFarms_3 (by decide) ?_
  refine lv_bipush (v := (9 : Int32)) hx hb dX11_copyFarms_4 (by decide) ?_
  obtain ⟨σ1, eσ1, hf⟩ := bd_s hf
  refine bk_copy (wf := cw) (σ1 := σ1) (q0 := 26) (q1 := 39) (n0 := 9) (n1 := 9) (js := 0) (jd := 0) (jn := 9) C hP hD hS hl.1 wa_446 wa_441 wa_442 wa_443 rfl rfl (by decide) (by decide) (by decide) (by decide) (by decide) (by decide) (Nat.le_of_ble_eq_true rfl) (Nat.le_of_ble_eq_true rfl) (Nat.le_of_ble_eq_true rfl) (Nat.le_of_ble_eq_true rfl) (by rw [eσ1]; exact cw_r39 g _ _) dX11_copyFarms_6 (fun H locs hP hD hS => ?_)
  cases hf
  exact bk_vret C hP hD hS rfl dX11_copyFarms_9
theorem c_X11_copyFarms_26_39 {N : Nat} {σ : Sg} {z : Sg} (hX : xOK g X) (hf : f_X11_copyFarms_26_39 N σ = some z) : MetV l yX11_copyFarms (Cond.code yX11_copyFarms cX11_copyFarms 2 none :: wsA) rm_X11_copyFarms_26_39 cw g X [.ref (g.2.2 26), .ref (g.2.2 39)] σ z :=
  MetV_of hX (by decide) (Nat.le_of_ble_eq_true rfl) (fun p e s m args below meth c A C => b_X11_copyFarms_26_39 C hf)
-- X7_copy_35_22: copy(LNodPost$State;)V
abbrev rm_X7_copy_35_22 : Room := { frames := 2, cells := 0, slots := 0, locals := 101 }
def f_X7_copy_35_22 (N : Nat) (σ : Sg) : Option (Sg) :=
bd (wr σ 35 0 (σ 22 0)) fun σ1 =>
bd (wr σ1 35 1 (σ1 22 1)) fun σ2 =>
(f_X11_copyFarms_23_36 N σ2).bind fun q3 =>
(f_X11_copyFarms_24_37 N q3).bind fun q4 =>
(f_X11_copyFarms_25_38 N q4).bind fun q5 =>
(f_X11_copyFarms_26_39 N q5).bind fun q6 =>
some q6
set_option maxHeartbeats 4000000 in
set_option maxRecDepth 100000 in
theorem b_X7_copy_35_22 {N : Nat} {σ : Sg} {z : Sg} (C : Cx p s m args meth c cX7_copy 2 none RX7 g A X) (hf : f_X7_copy_35_22 N σ = some z) : Bk cw p l e rm_X7_copy_35_22 s m args below meth c 2 g A (MQ below (qV cw g A z) args s 0 0 A) 0 0 0 [(0, .ref (g.2.2 35)), (1, .ref (g.2.2 22))] [] σ := by
  obtain ⟨hx, hb, hr, hml, hown, hts, hK, hlocks, hXX, hA, hXo⟩ := id C
  intro H locs ls hP hD hS hl
  unfold f_X7_copy_35_22 at hf
  refine lv_aload_n hx hb dX7_copy_0 rfl (lv_at hl 0 rfl) ?_
  refine lv_aload_n hx hb dX7_copy_1 rfl (lv_at hl 1 rfl) ?_
  refine bk_get (wf := cw) (q0 := 22) (ci := 7) (k := 0) (v := .int (σ 22 0)) C hP wl_X7 rfl rfl (by decide) wa_107 rfl rfl dX7_copy_2 ?_
  obtain ⟨σ1, eσ1, hf⟩ := bd_s hf
  refine bk_put (wf := cw) (σ1 := σ1) (q0 := 35) (ci := 7) (k := 0) (v := .int (σ 22 0)) C hP hD hS wl_X7 tyX7_ok nmX7 rfl rfl (by decide) wa_107 rfl rfl rfl rfl rfl (Nat.le_of_ble_eq_true rfl) (by rw [eσ1]; exact cw_p35_0 g _ _) dX7_copy_5 (fun H locs hP hD hS => ?_)
  refine lv_aload_n hx hb dX7_copy_8 rfl (lv_at hl 0 rfl) ?_
  refine lv_aload_n hx hb dX7_copy_9 rfl (lv_at hl 1 rfl) ?_
  refine bk_get (wf := cw) (q0 := 22) (ci := 7) (k := 1) (v := .int (σ1 22 1)) C hP wl_X7 rfl rfl (by decide) wa_108 rfl rfl dX7_copy_10 ?_
  obtain ⟨σ2, eσ2, hf⟩ := bd_s hf
  refine bk_put (wf := cw) (σ1 := σ2) (q0 := 35) (ci := 7) (k := 1) (v := .int (σ1 22 1)) C hP hD hS wl_X7 tyX7_ok nmX7 rfl rfl (by decide) wa_108 rfl rfl rfl rfl rfl (Nat.le_of_ble_eq_true rfl) (by rw [eσ2]; exact cw_p35_1 g _ _) dX7_copy_13 (fun H locs hP hD hS => ?_)
  refine lv_aload_n hx hb dX7_copy_16 rfl (lv_at hl 1 rfl) ?_
  refine bk_get (wf := cw) (q0 := 22) (ci := 7) (k := 2) (v := .ref (g.2.2 23)) C hP wl_X7 rfl rfl (by decide) wa_109 rfl rfl dX7_copy_17 ?_
  refine lv_aload_n hx hb dX7_copy_20 rfl (lv_at hl 0 rfl) ?_
  refine bk_get (wf := cw) (q0 := 35) (ci := 7) (k := 2) (v := .ref (g.2.2 36)) C hP wl_X7 rfl rfl (by decide) wa_109 rfl rfl dX7_copy_21 ?_
  obtain ⟨q3, hq3, hf⟩ := bi_s hf
  refine bk_NV (wf := cw) (rest := []) [.ref (g.2.2 23), .ref (g.2.2 36)] C hP hD hS hl.1 (c_X11_copyFarms_23_36 hXo hq3) wa_445 wa_444 wa_2 (hXo.2.2.2 _ _ _ hXX).1.1 rfl rfl nd_X11_copyFarms ⟨Nat.le_of_ble_eq_true rfl, Nat.le_of_ble_eq_true rfl⟩ rfl rfl (Nat.le_of_ble_eq_true rfl) dX7_copy_24 ⟨Nat.le_of_ble_eq_true rfl, Nat.le_of_ble_eq_true rfl⟩ (fun H locs hP hD hS => ?_)
  refine lv_aload_n hx hb dX7_copy_27 rfl (lv_at hl 1 rfl) ?_
  refine bk_get (wf := cw) (q0 := 22) (ci := 7) (k := 3) (v := .ref (g.2.2 24)) C hP wl_X7 rfl rfl (by decide) wa_110 rfl rfl dX7_copy_28 ?_
  refine lv_aload_n hx hb dX7_copy_31 rfl (lv_at hl 0 rfl) ?_
  refine bk_get (wf := cw) (q0 := 35) (ci := 7) (k := 3) (v := .ref (g.2.2 37)) C hP wl_X7 rfl rfl (by decide) wa_110 rfl rfl dX7_copy_32 ?_
  obtain ⟨q4, hq4, hf⟩ := bi_s hf
  refine bk_NV (wf := cw) (rest := []) [.ref (g.2.2 24), .ref (g.2.2 37)] C hP hD hS hl.1 (c_X11_copyFarms_24_37 hXo hq4) wa_445 wa_444 wa_2 (hXo.2.2.2 _ _ _ hXX).1.1 rfl rfl nd_X11_copyFarms ⟨Nat.le_of_ble_eq_true rfl, Nat.le_of_ble_eq_true rfl⟩ rfl rfl (Nat.le_of_ble_eq_true rfl) dX7_copy_35 ⟨Nat.le_of_ble_eq_true rfl, Nat.le_of_ble_eq_true rfl⟩ (fun H locs hP hD hS => ?_)
  refine lv_aload_n hx hb dX7_copy_38 rfl (lv_at hl 1 rfl) ?_
  refine bk_get (wf := cw) (q0 := 22) (ci := 7) (k := 4) (v := .ref (g.2.2 25)) C hP wl_X7 rfl rfl (by decide) wa_111 rfl rfl dX7_copy_39 ?_
  refine lv_aload_n hx hb dX7_copy_42 rfl (lv_at hl 0 rfl) ?_
  refine bk_get (wf := cw) (q0 := 35) (ci := 7) (k := 4) (v := .ref (g.2.2 38)) C hP wl_X7 rfl rfl (by decide) wa_111 rfl rfl dX7_copy_43 ?_
  obtain ⟨q5, hq5, hf⟩ := bi_s hf
  refine bk_NV (wf := cw) (rest := []) [.ref (g.2.2 25), .ref (g.2.2 38)] C hP hD hS hl.1 (c_X11_copyFarms_25_38 hXo hq5) wa_445 wa_444 wa_2 (hXo.2.2.2 _ _ _ hXX).1.1 rfl rfl nd_X11_copyFarms ⟨Nat.le_of_ble_eq_true rfl, Nat.le_of_ble_eq_true rfl⟩ rfl rfl (Nat.le_of_ble_eq_true rfl) dX7_copy_46 ⟨Nat.le_of_ble_eq_true rfl, Nat.le_of_ble_eq_true rfl⟩ (fun H locs hP hD hS => ?_)
  refine lv_aload_n hx hb dX7_copy_49 rfl (lv_at hl 1 rfl) ?_
  refine bk_get (wf := cw) (q0 := 22) (ci := 7) (k := 5) (v := .ref (g.2.2 26)) C hP wl_X7 rfl rfl (by decide) wa_112 rfl rfl dX7_copy_50 ?_
  refine lv_aload_n hx hb dX7_copy_53 rfl (lv_at hl 0 rfl) ?_
  refine bk_get (wf := cw) (q0 := 35) (ci := 7) (k := 5) (v := .ref (g.2.2 39)) C hP wl_X7 rfl rfl (by decide) wa_112 rfl rfl dX7_copy_54 ?_
  obtain ⟨q6, hq6, hf⟩ := bi_s hf
  refine bk_NV (wf := cw) (rest := []) [.ref (g.2.2 26), .ref (g.2.2 39)] C hP hD hS hl.1 (c_X11_copyFarms_26_39 hXo hq6) wa_445 wa_444 wa_2 (hXo.2.2.2 _ _ _ hXX).1.1 rfl rfl nd_X11_copyFarms ⟨Nat.le_of_ble_eq_true rfl, Nat.le_of_ble_eq_true rfl⟩ rfl rfl (Nat.le_of_ble_eq_true rfl) dX7_copy_57 ⟨Nat.le_of_ble_eq_true rfl, Nat.le_of_ble_eq_true rfl⟩ (fun H locs hP hD hS => ?_)
  cases hf
  exact bk_vret C hP hD hS rfl dX7_copy_60
theorem c_X7_copy_35_22 {N : Nat} {σ : Sg} {z : Sg} (hX : xOK g X) (hf : f_X7_copy_35_22 N σ = some z) : MetV l yX7_copy (Cond.code yX7_copy cX7_copy 2 none :: wsA) rm_X7_copy_35_22 cw g X [.ref (g.2.2 35), .ref (g.2.2 22)] σ z :=
  MetV_of hX (by decide) (Nat.le_of_ble_eq_true rfl) (fun p e s m args below meth c A C => b_X7_copy_35_22 C hf)
-- X0_copy_40_27: copy(LNodPost$Acts;)V
abbrev rm_X0_copy_40_27 : Room := { frames := 1, cells := 0, slots := 0, locals := 80 }
theorem nd_X0_copy : yX0_copy.cls ≠ "java/lang/invoke/MethodHandle" ∧ yX0_copy.cls ≠ "java/lang/invoke/VarHandle" ∧ (parseMethodDescriptor yX0_copy.desc).map (fun d => d.parameters.length) = some 1 := by decide +kernel
def f_X0_copy_40_27 (N : Nat) (σ : Sg) : Option (Sg) :=
bd (wr σ 40 0 (σ 27 0)) fun σ1 =>
bd (wr σ1 40 1 (σ1 27 1)) fun σ2 =>
bd (wrR σ2 41 (va_cpy (σ2 28) (σ2 41) 0 0 1520)) fun σ3 =>
some σ3
set_option maxHeartbeats 4000000 in
set_option maxRecDepth 100000 in
theorem b_X0_copy_40_27 {N : Nat} {σ : Sg} {z : Sg} (C : Cx p s m args meth c cX0_copy 2 none RX0 g A X) (hf : f_X0_copy_40_27 N σ = some z) : Bk cw p l e rm_X0_copy_40_27 s m args below meth c 2 g A (MQ below (qV cw g A z) args s 0 0 A) 0 0 0 [(0, .ref (g.2.2 40)), (1, .ref (g.2.2 27))] [] σ := by
  obtain ⟨hx, hb, hr, hml, hown, hts, hK, hlocks, hXX, hA, hXo⟩ := id C
  intro H locs ls hP hD hS hl
  unfold f_X0_copy_40_27 at hf
  refine lv_aload_n hx hb dX0_copy_0 rfl (lv_at hl 0 rfl) ?_
  refine lv_aload_n hx hb dX0_copy_1 rfl (lv_at hl 1 rfl) ?_
  refine bk_get (wf := cw) (q0 := 27) (ci := 0) (k := 0) (v := .int (σ 27 0)) C hP wl_X0 rfl rfl (by decide) wa_116 rfl rfl dX0_copy_2 ?_
  obtain ⟨σ1, eσ1, hf⟩ := bd_s hf
  refine bk_put (wf := cw) (σ1 := σ1) (q0 := 40) (ci := 0) (k := 0) (v := .int (σ 27 0)) C hP hD hS wl_X0 tyX0_ok nmX0 rfl rfl (by decide) wa_116 rfl rfl rfl rfl rfl (Nat.le_of_ble_eq_true rfl) (by rw [eσ1]; exact cw_p40_0 g _ _) dX0_copy_5 (fun H locs hP hD hS => ?_)
  refine lv_aload_n hx hb dX0_copy_8 rfl (lv_at hl 0 rfl) ?_
  refine lv_aload_n hx hb dX0_copy_9 rfl (lv_at hl 1 rfl) ?_
  refine bk_get (wf := cw) (q0 := 27) (ci := 0) (k := 1) (v := .int (σ1 27 1)) C hP wl_X0 rfl rfl (by decide) wa_117 rfl rfl dX0_copy_10 ?_
  obtain ⟨σ2, eσ2, hf⟩ := bd_s hf
  refine bk_put (wf := cw) (σ1 := σ2) (q0 := 40) (ci := 0) (k := 1) (v := .int (σ1 27 1)) C hP hD hS wl_X0 tyX0_ok nmX0 rfl rfl (by decide) wa_117 rfl rfl rfl rfl rfl (Nat.le_of_ble_eq_true rfl) (by rw [eσ2]; exact cw_p40_1 g _ _) dX0_copy_13 (fun H locs hP hD hS => ?_)
  refine lv_aload_n hx hb dX0_copy_16 rfl (lv_at hl 1 rfl) ?_
  refine bk_get (wf := cw) (q0 := 27) (ci := 0) (k := 2) (v := .ref (g.2.2 28)) C hP wl_X0 rfl rfl (by decide) wa_118 rfl rfl dX0_copy_17 ?_
  refine lv_iconst (v := (0 : Int32)) hx hb dX0_copy_20 (by decide) ?_
  refine lv_aload_n hx hb dX0_copy_21 rfl (lv_at hl 0 rfl) ?_
  refine bk_get (wf := cw) (q0 := 40) (ci := 0) (k := 2) (v := .ref (g.2.2 41)) C hP wl_X0 rfl rfl (by decide) wa_118 rfl rfl dX0_copy_22 ?_
  refine lv_iconst (v := (0 : Int32)) hx hb dX0_copy_25 (by decide) ?_
  refine lv_sipush (v := (1520 : Int32)) hx hb dX0_copy_26 (by decide) ?_
  obtain ⟨σ3, eσ3, hf⟩ := bd_s hf
  refine bk_copy (wf := cw) (σ1 := σ3) (q0 := 28) (q1 := 41) (n0 := 1520) (n1 := 1520) (js := 0) (jd := 0) (jn := 1520) C hP hD hS hl.1 wa_1432 wa_441 wa_442 wa_443 rfl rfl (by decide) (by decide) (by decide) (by decide) (by decide) (by decide) (Nat.le_of_ble_eq_true rfl) (Nat.le_of_ble_eq_true rfl) (Nat.le_of_ble_eq_true rfl) (Nat.le_of_ble_eq_true rfl) (by rw [eσ3]; exact cw_r41 g _ _) dX0_copy_29 (fun H locs hP hD hS => ?_)
  cases hf
  exact bk_vret C hP hD hS rfl dX0_copy_32
theorem c_X0_copy_40_27 {N : Nat} {σ : Sg} {z : Sg} (hX : xOK g X) (hf : f_X0_copy_40_27 N σ = some z) : MetV l yX0_copy (Cond.code yX0_copy cX0_copy 2 none :: wsA) rm_X0_copy_40_27 cw g X [.ref (g.2.2 40), .ref (g.2.2 27)] σ z :=
  MetV_of hX (by decide) (Nat.le_of_ble_eq_true rfl) (fun p e s m args below meth c A C => b_X0_copy_40_27 C hf)
-- X5_copy_42_29: copy(LNodPost$Seen;)V
abbrev rm_X5_copy_42_29 : Room := { frames := 1, cells := 0, slots := 0, locals := 80 }
theorem nd_X5_copy : yX5_copy.cls ≠ "java/lang/invoke/MethodHandle" ∧ yX5_copy.cls ≠ "java/lang/invoke/VarHandle" ∧ (parseMethodDescriptor yX5_copy.desc).map (fun d => d.parameters.length) = some 1 := by decide +kernel
def f_X5_copy_42_29 (N : Nat) (σ : Sg) : Option (Sg) :=
bd (wr σ 42 0 (σ 29 0)) fun σ1 =>
bd (wrR σ1 43 (va_cpy (σ1 30) (σ1 43) 0 0 8)) fun σ2 =>
bd (wrR σ2 44 (va_cpy (σ2 31) (σ2 44) 0 0 8)) fun σ3 =>
bd (wrR σ3 45 (va_cpy (σ3 32) (σ3 45) 0 0 8)) fun σ4 =>
some σ4
set_option maxHeartbeats 4000000 in
set_option maxRecDepth 100000 in
theorem b_X5_copy_42_29 {N : Nat} {σ : Sg} {z : Sg} (C : Cx p s m args meth c cX5_copy 2 none RX5 g A X) (hf : f_X5_copy_42_29 N σ = some z) : Bk cw p l e rm_X5_copy_42_29 s m args below meth c 2 g A (MQ below (qV cw g A z) args s 0 0 A) 0 0 0 [(0, .ref (g.2.2 42)), (1, .ref (g.2.2 29))] [] σ := by
  obtain ⟨hx, hb, hr, hml, hown, hts, hK, hlocks, hXX, hA, hXo⟩ := id C
  intro H locs ls hP hD hS hl
  unfold f_X5_copy_42_29 at hf
  refine lv_aload_n hx hb dX5_copy_0 rfl (lv_at hl 0 rfl) ?_
  refine lv_aload_n hx hb dX5_copy_1 rfl (lv_at hl 1 rfl) ?_
  refine bk_get (wf := cw) (q0 := 29) (ci := 5) (k := 0) (v := .int (σ 29 0)) C hP wl_X5 rfl rfl (by decide) wa_122 rfl rfl dX5_copy_2 ?_
  obtain ⟨σ1, eσ1, hf⟩ := bd_s hf
  refine bk_put (wf := cw) (σ1 := σ1) (q0 := 42) (ci := 5) (k := 0) (v := .int (σ 29 0)) C hP hD hS wl_X5 tyX5_ok nmX5 rfl rfl (by decide) wa_122 rfl rfl rfl rfl rfl (Nat.le_of_ble_eq_true rfl) (by rw [eσ1]; exact cw_p42_0 g _ _) dX5_copy_5 (fun H locs hP hD hS => ?_)
  refine lv_aload_n hx hb dX5_copy_8 rfl (lv_at hl 1 rfl) ?_
  refine bk_get (wf := cw) (q0 := 29) (ci := 5) (k := 1) (v := .ref (g.2.2 30)) C hP wl_X5 rfl rfl (by decide) wa_123 rfl rfl dX5_copy_9 ?_
  refine lv_iconst (v := (0 : Int32)) hx hb dX5_copy_12 (by decide) ?_
  refine lv_aload_n hx hb dX5_copy_13 rfl (lv_at hl 0 rfl) ?_
  refine bk_get (wf := cw) (q0 := 42) (ci := 5) (k := 1) (v := .ref (g.2.2 43)) C hP wl_X5 rfl rfl (by decide) wa_123 rfl rfl dX5_copy_14 ?_
  refine lv_iconst (v := (0 : Int32)) hx hb dX5_copy_17 (by decide) ?_
  refine lv_bipush (v := (8 : Int32)) hx hb dX5_copy_18 (by decide) ?_
  obtain ⟨σ2, eσ2, hf⟩ := bd_s hf
  refine bk_copy (wf := cw) (σ1 := σ2) (q0 := 30) (q1 := 43) (n0 := 8) (n1 := 8) (js := 0) (jd := 0) (jn := 8) C hP hD hS hl.1 wa_1437 wa_441 wa_442 wa_443 rfl rfl (by decide) (by decide) (by decide) (by decide) (by decide) (by decide) (Nat.le_of_ble_eq_true rfl) (Nat.le_of_ble_eq_true rfl) (Nat.le_of_ble_eq_true rfl) (Nat.le_of_ble_eq_true rfl) (by rw [eσ2]; exact cw_r43 g _ _) dX5_copy_20 (fun H locs hP hD hS => ?_)
  refine lv_aload_n hx hb dX5_copy_23 rfl (lv_at hl 1 rfl) ?_
  refine bk_get (wf := cw) (q0 := 29) (ci := 5) (k := 2) (v := .ref (g.2.2 31)) C hP wl_X5 rfl rfl (by decide) wa_124 rfl rfl dX5_copy_24 ?_
  refine lv_iconst (v := (0 : Int32)) hx hb dX5_copy_27 (by decide) ?_
  refine lv_aload_n hx hb dX5_copy_28 rfl (lv_at hl 0 rfl) ?_
  refine bk_get (wf := cw) (q0 := 42) (ci := 5) (k := 2) (v := .ref (g.2.2 44)) C hP wl_X5 rfl rfl (by decide) wa_124 rfl rfl dX5_copy_29 ?_
  refine lv_iconst (v := (0 : Int32)) hx hb dX5_copy_32 (by decide) ?_
  refine lv_bipush (v := (8 : Int32)) hx hb dX5_copy_33 (by decide) ?_
  obtain ⟨σ3, eσ3, hf⟩ := bd_s hf
  refine bk_copy (wf := cw) (σ1 := σ3) (q0 := 31) (q1 := 44) (n0 := 8) (n1 := 8) (js := 0) (jd := 0) (jn := 8) C hP hD hS hl.1 wa_1437 wa_441 wa_442 wa_443 rfl rfl (by decide) (by decide) (by decide) (by decide) (by decide) (by decide) (Nat.le_of_ble_eq_true rfl) (Nat.le_of_ble_eq_true rfl) (Nat.le_of_ble_eq_true rfl) (Nat.le_of_ble_eq_true rfl) (by rw [eσ3]; exact cw_r44 g _ _) dX5_copy_35 (fun H locs hP hD hS => ?_)
  refine lv_aload_n hx hb dX5_copy_38 rfl (lv_at hl 1 rfl) ?_
  refine bk_get (wf := cw) (q0 := 29) (ci := 5) (k := 3) (v := .ref (g.2.2 32)) C hP wl_X5 rfl rfl (by decide) wa_125 rfl rfl dX5_copy_39 ?_
  refine lv_iconst (v := (0 : Int32)) hx hb dX5_copy_42 (by decide) ?_
  refine lv_aload_n hx hb dX5_copy_43 rfl (lv_at hl 0 rfl) ?_
  refine bk_get (wf := cw) (q0 := 42) (ci := 5) (k := 3) (v := .ref (g.2.2 45)) C hP wl_X5 rfl rfl (by decide) wa_125 rfl rfl dX5_copy_44 ?_
  refine lv_iconst (v := (0 : Int32)) hx hb dX5_copy_47 (by decide) ?_
  refine lv_bipush (v := (8 : Int32)) hx hb dX5_copy_48 (by decide) ?_
  obtain ⟨σ4, eσ4, hf⟩ := bd_s hf
  refine bk_copy (wf := cw) (σ1 := σ4) (q0 := 32) (q1 := 45) (n0 := 8) (n1 := 8) (js := 0) (jd := 0) (jn := 8) C hP hD hS hl.1 wa_1437 wa_441 wa_442 wa_443 rfl rfl (by decide) (by decide) (by decide) (by decide) (by decide) (by decide) (Nat.le_of_ble_eq_true rfl) (Nat.le_of_ble_eq_true rfl) (Nat.le_of_ble_eq_true rfl) (Nat.le_of_ble_eq_true rfl) (by rw [eσ4]; exact cw_r45 g _ _) dX5_copy_50 (fun H locs hP hD hS => ?_)
  cases hf
  exact bk_vret C hP hD hS rfl dX5_copy_53
theorem c_X5_copy_42_29 {N : Nat} {σ : Sg} {z : Sg} (hX : xOK g X) (hf : f_X5_copy_42_29 N σ = some z) : MetV l yX5_copy (Cond.code yX5_copy cX5_copy 2 none :: wsA) rm_X5_copy_42_29 cw g X [.ref (g.2.2 42), .ref (g.2.2 29)] σ z :=
  MetV_of hX (by decide) (Nat.le_of_ble_eq_true rfl) (fun p e s m args below meth c A C => b_X5_copy_42_29 C hf)
-- X1_copy_34_21: copy(LNodPost$Book;)V
abbrev rm_X1_copy_34_21 : Room := { frames := 3, cells := 0, slots := 0, locals := 122 }
theorem nd_X1_copy : yX1_copy.cls ≠ "java/lang/invoke/MethodHandle" ∧ yX1_copy.cls ≠ "java/lang/invoke/VarHandle" ∧ (parseMethodDescriptor yX1_copy.desc).map (fun d => d.parameters.length) = some 1 := by decide +kernel
def f_X1_copy_34_21 (N : Nat) (σ : Sg) : Option (Sg) :=
(f_X7_copy_35_22 N σ).bind fun q1 =>
(f_X0_copy_40_27 N q1).bind fun q2 =>
(f_X5_copy_42_29 N q2).bind fun q3 =>
bd (wrR q3 46 (va_cpy (q3 33) (q3 46) 0 0 3)) fun σ4 =>
some σ4
set_option maxHeartbeats 4000000 in
set_option maxRecDepth 100000 in
theorem b_X1_copy_34_21 {N : Nat} {σ : Sg} {z : Sg} (C : Cx p s m args meth c cX1_copy 2 none RX1 g A X) (hf : f_X1_copy_34_21 N σ = some z) : Bk cw p l e rm_X1_copy_34_21 s m args below meth c 2 g A (MQ below (qV cw g A z) args s 0 0 A) 0 0 0 [(0, .ref (g.2.2 34)), (1, .ref (g.2.2 21))] [] σ := by
  obtain ⟨hx, hb, hr, hml, hown, hts, hK, hlocks, hXX, hA, hXo⟩ := id C
  intro H locs ls hP hD hS hl
  unfold f_X1_copy_34_21 at hf
  refine lv_aload_n hx hb dX1_copy_0 rfl (lv_at hl 0 rfl) ?_
  refine bk_get (wf := cw) (q0 := 34) (ci := 1) (k := 0) (v := .ref (g.2.2 35)) C hP wl_X1 rfl rfl (by decide) wa_94 rfl rfl dX1_copy_1 ?_
  refine lv_aload_n hx hb dX1_copy_4 rfl (lv_at hl 1 rfl) ?_
  refine bk_get (wf := cw) (q0 := 21) (ci := 1) (k := 0) (v := .ref (g.2.2 22)) C hP wl_X1 rfl rfl (by decide) wa_94 rfl rfl dX1_copy_5 ?_
  obtain ⟨q1, hq1, hf⟩ := bi_s hf
  refine bk_VV (wf := cw) (q0 := 35) (ci := 7) (rest := []) [.ref (g.2.2 22)] C hP hD hS hl.1 (c_X7_copy_35_22 hXo hq1) (cwA_V 1 hts wa_829 wa_1427 wa_827 wa_828 wa_93 rfl rfl nd_X7_copy ⟨Nat.le_of_ble_eq_true rfl, Nat.le_of_ble_eq_true rfl⟩) rfl rfl rfl rfl (Nat.le_of_ble_eq_true rfl) dX1_copy_8 ⟨Nat.le_of_ble_eq_true rfl, Nat.le_of_ble_eq_true rfl⟩ (fun H locs hP hD hS => ?_)
  refine lv_aload_n hx hb dX1_copy_11 rfl (lv_at hl 0 rfl) ?_
  refine bk_get (wf := cw) (q0 := 34) (ci := 1) (k := 1) (v := .ref (g.2.2 40)) C hP wl_X1 rfl rfl (by decide) wa_98 rfl rfl dX1_copy_12 ?_
  refine lv_aload_n hx hb dX1_copy_15 rfl (lv_at hl 1 rfl) ?_
  refine bk_get (wf := cw) (q0 := 21) (ci := 1) (k := 1) (v := .ref (g.2.2 27)) C hP wl_X1 rfl rfl (by decide) wa_98 rfl rfl dX1_copy_16 ?_
  obtain ⟨q2, hq2, hf⟩ := bi_s hf
  refine bk_VV (wf := cw) (q0 := 40) (ci := 0) (rest := []) [.ref (g.2.2 27)] C hP hD hS hl.1 (c_X0_copy_40_27 hXo hq2) (cwA_V 1 hts wa_1431 wa_1428 wa_1429 wa_1430 wa_97 rfl rfl nd_X0_copy ⟨Nat.le_of_ble_eq_true rfl, Nat.le_of_ble_eq_true rfl⟩) rfl rfl rfl rfl (Nat.le_of_ble_eq_true rfl) dX1_copy_19 ⟨Nat.le_of_ble_eq_true rfl, Nat.le_of_ble_eq_true rfl⟩ (fun H locs hP hD hS => ?_)
  refine lv_aload_n hx hb dX1_copy_22 rfl (lv_at hl 0 rfl) ?_
  refine bk_get (wf := cw) (q0 := 34) (ci := 1) (k := 2) (v := .ref (g.2.2 42)) C hP wl_X1 rfl rfl (by decide) wa_102 rfl rfl dX1_copy_23 ?_
  refine lv_aload_n hx hb dX1_copy_26 rfl (lv_at hl 1 rfl) ?_
  refine bk_get (wf := cw) (q0 := 21) (ci := 1) (k := 2) (v := .ref (g.2.2 29)) C hP wl_X1 rfl rfl (by decide) wa_102 rfl rfl dX1_copy_27 ?_
  obtain ⟨q3, hq3, hf⟩ := bi_s hf
  refine bk_VV (wf := cw) (q0 := 42) (ci := 5) (rest := []) [.ref (g.2.2 29)] C hP hD hS hl.1 (c_X5_copy_42_29 hXo hq3) (cwA_V 1 hts wa_1436 wa_1433 wa_1434 wa_1435 wa_101 rfl rfl nd_X5_copy ⟨Nat.le_of_ble_eq_true rfl, Nat.le_of_ble_eq_true rfl⟩) rfl rfl rfl rfl (Nat.le_of_ble_eq_true rfl) dX1_copy_30 ⟨Nat.le_of_ble_eq_true rfl, Nat.le_of_ble_eq_true rfl⟩ (fun H locs hP hD hS => ?_)
  refine lv_aload_n hx hb dX1_copy_33 rfl (lv_at hl 1 rfl) ?_
  refine bk_get (wf := cw) (q0 := 21) (ci := 1) (k := 3) (v := .ref (g.2.2 33)) C hP wl_X1 rfl rfl (by decide) wa_103 rfl rfl dX1_copy_34 ?_
  refine lv_iconst (v := (0 : Int32)) hx hb dX1_copy_37 (by decide) ?_
  refine lv_aload_n hx hb dX1_copy_38 rfl (lv_at hl 0 rfl) ?_
  refine bk_get (wf := cw) (q0 := 34) (ci := 1) (k := 3) (v := .ref (g.2.2 46)) C hP wl_X1 rfl rfl (by decide) wa_103 rfl rfl dX1_copy_39 ?_
  refine lv_iconst (v := (0 : Int32)) hx hb dX1_copy_42 (by decide) ?_
  refine lv_iconst (v := (3 : Int32)) hx hb dX1_copy_43 (by decide) ?_
  obtain ⟨σ4, eσ4, hf⟩ := bd_s hf
  refine bk_copy (wf := cw) (σ1 := σ4) (q0 := 33) (q1 := 46) (n0 := 3) (n1 := 3) (js := 0) (jd := 0) (jn := 3) C hP hD hS hl.1 wa_1426 wa_441 wa_442 wa_443 rfl rfl (by decide) (by decide) (by decide) (by decide) (by decide) (by decide) (Nat.le_of_ble_eq_true rfl) (Nat.le_of_ble_eq_true rfl) (Nat.le_of_ble_eq_true rfl) (Nat.le_of_ble_eq_true rfl) (by rw [eσ4]; exact cw_r46 g _ _) dX1_copy_44 (fun H locs hP hD hS => ?_)
  cases hf
  exact bk_vret C hP hD hS rfl dX1_copy_47
theorem c_X1_copy_34_21 {N : Nat} {σ : Sg} {z : Sg} (hX : xOK g X) (hf : f_X1_copy_34_21 N σ = some z) : MetV l yX1_copy (Cond.code yX1_copy cX1_copy 2 none :: wsA) rm_X1_copy_34_21 cw g X [.ref (g.2.2 34), .ref (g.2.2 21)] σ z :=
  MetV_of hX (by decide) (Nat.le_of_ble_eq_true rfl) (fun p e s m args below meth c A C => b_X1_copy_34_21 C hf)
-- X11_image_0: image()V
abbrev rm_X11_image_0 : Room := { frames := 4, cells := 0, slots := 0, locals := 143 }
theorem nd_X11_image : yX11_image.cls ≠ "java/lang/invoke/MethodHandle" ∧ yX11_image.cls ≠ "java/lang/invoke/VarHandle" ∧ (parseMethodDescriptor yX11_image.desc).map (fun d => d.parameters.length) = some 0 := by decide +kernel
def f_X11_image_0 (N : Nat) (σ : Sg) : Option (Sg) :=
(f_X1_copy_34_21 N σ).bind fun q1 =>
bd (wr q1 0 6 (1 : Int32)) fun σ2 =>
some σ2
set_option maxHeartbeats 4000000 in
set_option maxRecDepth 100000 in
theorem b_X11_image_0 {N : Nat} {σ : Sg} {z : Sg} (C : Cx p s m args meth c cX11_image 1 none RX11 g A X) (hf : f_X11_image_0 N σ = some z) : Bk cw p l e rm_X11_image_0 s m args below meth c 1 g A (MQ below (qV cw g A z) args s 0 0 A) 0 0 0 [(0, .ref (g.2.2 0))] [] σ := by
  obtain ⟨hx, hb, hr, hml, hown, hts, hK, hlocks, hXX, hA, hXo⟩ := id C
  intro H locs ls hP hD hS hl
  unfold f_X11_image_0 at hf
  refine lv_aload_n hx hb dX11_image_0 rfl (lv_at hl 0 rfl) ?_
  refine bk_get (wf := cw) (q0 := 0) (ci := 10) (k := 5) (v := .ref (g.2.2 34)) C hP wl_X11 rfl rfl (by decide) wa_28 rfl rfl dX11_image_1 ?_
  refine lv_aload_n hx hb dX11_image_4 rfl (lv_at hl 0 rfl) ?_
  refine bk_get (wf := cw) (q0 := 0) (ci := 10) (k := 4) (v := .ref (g.2.2 21)) C hP wl_X11 rfl rfl (by decide) wa_27 rfl rfl dX11_image_5 ?_
  obtain ⟨q1, hq1, hf⟩ := bi_s hf
  refine bk_VV (wf := cw) (q0 := 34) (ci := 1) (rest := []) [.ref (g.2.2 21)] C hP hD hS hl.1 (c_X1_copy_34_21 hXo hq1) (cwA_V 1 hts wa_1425 wa_1422 wa_1423 wa_1424 wa_26 rfl rfl nd_X1_copy ⟨Nat.le_of_ble_eq_true rfl, Nat.le_of_ble_eq_true rfl⟩) rfl rfl rfl rfl (Nat.le_of_ble_eq_true rfl) dX11_image_8 ⟨Nat.le_of_ble_eq_true rfl, Nat.le_of_ble_eq_true rfl⟩ (fun H locs hP hD hS => ?_)
  refine lv_aload_n hx hb dX11_image_11 rfl (lv_at hl 0 rfl) ?_
  refine lv_iconst (v := (1 : Int32)) hx hb dX11_image_12 (by decide) ?_
  obtain ⟨σ2, eσ2, hf⟩ := bd_s hf
  refine bk_put (wf := cw) (σ1 := σ2) (q0 := 0) (ci := 10) (k := 6) (v := .int (1 : Int32)) C hP hD hS wl_X11 tyX11_ok nmX11 rfl rfl (by decide) wa_29 rfl rfl rfl rfl rfl (Nat.le_of_ble_eq_true rfl) (by rw [eσ2]; exact cw_p0_6 g _ _) dX11_image_13 (fun H locs hP hD hS => ?_)
  cases hf
  exact bk_vret C hP hD hS rfl dX11_image_16
theorem c_X11_image_0 {N : Nat} {σ : Sg} {z : Sg} (hX : xOK g X) (hf : f_X11_image_0 N σ = some z) : MetV l yX11_image (Cond.code yX11_image cX11_image 1 none :: wsA) rm_X11_image_0 cw g X [.ref (g.2.2 0)] σ z :=
  MetV_of hX (by decide) (Nat.le_of_ble_eq_true rfl) (fun p e s m args below meth c A C => b_X11_image_0 C hf)
-- X11_copyFarms_36_23: copyFarms([I[I)V
abbrev rm_X11_copyFarms_36_23 : Room := { frames := 1, cells := 0, slots := 0, locals := 80 }
def f_X11_copyFarms_36_23 (N : Nat) (σ : Sg) : Option (Sg) :=
bd (wrR σ 23 (va_cpy (σ 36) (σ 23) 0 0 9)) fun σ1 =>
some σ1
set_option maxHeartbeats 4000000 in
set_option maxRecDepth 100000 in
theorem b_X11_copyFarms_36_23 {N : Nat} {σ : Sg} {z : Sg} (C : Cx p s m args meth c cX11_copyFarms 2 none RX11 g A X) (hf : f_X11_copyFarms_36_23 N σ = some z) : Bk cw p l e rm_X11_copyFarms_36_23 s m args below meth c 2 g A (MQ below (qV cw g A z) args s 0 0 A) 0 0 0 [(0, .ref (g.2.2 36)), (1, .ref (g.2.2 23))] [] σ := by
  obtain ⟨hx, hb, hr, hml, hown, hts, hK, hlocks, hXX, hA, hXo⟩ := id C
  intro H locs ls hP hD hS hl
  unfold f_X11_copyFarms_36_23 at hf
  refine lv_aload_n hx hb dX11_copyFarms_0 rfl (lv_at hl 0 rfl) ?_
  refine lv_iconst (v := (0 : Int32)) hx hb dX11_copyFarms_1 (by decide) ?_
  refine lv_aload_n hx hb dX11_copyFarms_2 rfl (lv_at hl 1 rfl) ?_
  refine lv_iconst (v := (0 : Int32)) hx hb dX11_copyFarms_3 (by decide) ?_
  refine lv_bipush (v := (9 : Int32)) hx hb dX11_copyFarms_4 (by decide) ?_
  obtain ⟨σ1, eσ1, hf⟩ := bd_s hf
  refine bk_copy (wf := cw) (σ1 := σ1) (q0 := 36) (q1 := 23) (n0 := 9) (n1 := 9) (js := 0) (jd := 0) (jn := 9) C hP hD hS hl.1 wa_446 wa_441 wa_442 wa_443 rfl rfl (by decide) (by decide) (by decide) (by decide) (by decide) (by decide) (Nat.le_of_ble_eq_true rfl) (Nat.le_of_ble_eq_true rfl) (Nat.le_of_ble_eq_true rfl) (Nat.le_of_ble_eq_true rfl) (by rw [eσ1]; exact cw_r23 g _ _) dX11_copyFarms_6 (fun H locs hP hD hS => ?_)
  cases hf
  exact bk_vret C hP hD hS rfl dX11_copyFarms_9
theorem c_X11_copyFarms_36_23 {N : Nat} {σ : Sg} {z : Sg} (hX : xOK g X) (hf : f_X11_copyFarms_36_23 N σ = some z) : MetV l yX11_copyFarms (Cond.code yX11_copyFarms cX11_copyFarms 2 none :: wsA) rm_X11_copyFarms_36_23 cw g X [.ref (g.2.2 36), .ref (g.2.2 23)] σ z :=
  MetV_of hX (by decide) (Nat.le_of_ble_eq_true rfl) (fun p e s m args below meth c A C => b_X11_copyFarms_36_23 C hf)
-- X11_copyFarms_37_24: copyFarms([I[I)V
abbrev rm_X11_copyFarms_37_24 : Room := { frames := 1, cells := 0, slots := 0, locals := 80 }
def f_X11_copyFarms_37_24 (N : Nat) (σ : Sg) : Option (Sg) :=
bd (wrR σ 24 (va_cpy (σ 37) (σ 24) 0 0 9)) fun σ1 =>
some σ1
set_option maxHeartbeats 4000000 in
set_option maxRecDepth 100000 in
theorem b_X11_copyFarms_37_24 {N : Nat} {σ : Sg} {z : Sg} (C : Cx p s m args meth c cX11_copyFarms 2 none RX11 g A X) (hf : f_X11_copyFarms_37_24 N σ = some z) : Bk cw p l e rm_X11_copyFarms_37_24 s m args below meth c 2 g A (MQ below (qV cw g A z) args s 0 0 A) 0 0 0 [(0, .ref (g.2.2 37)), (1, .ref (g.2.2 24))] [] σ := by
  obtain ⟨hx, hb, hr, hml, hown, hts, hK, hlocks, hXX, hA, hXo⟩ := id C
  intro H locs ls hP hD hS hl
  unfold f_X11_copyFarms_37_24 at hf
  refine lv_aload_n hx hb dX11_copyFarms_0 rfl (lv_at hl 0 rfl) ?_
  refine lv_iconst (v := (0 : Int32)) hx hb dX11_copyFarms_1 (by decide) ?_
  refine lv_aload_n hx hb dX11_copyFarms_2 rfl (lv_at hl 1 rfl) ?_
  refine lv_iconst (v := (0 : Int32)) hx hb dX11_copyFarms_3 (by decide) ?_
  refine lv_bipush (v := (9 : Int32)) hx hb dX11_copyFarms_4 (by decide) ?_
  obtain ⟨σ1, eσ1, hf⟩ := bd_s hf
  refine bk_copy (wf := cw) (σ1 := σ1) (q0 := 37) (q1 := 24) (n0 := 9) (n1 := 9) (js := 0) (jd := 0) (jn := 9) C hP hD hS hl.1 wa_446 wa_441 wa_442 wa_443 rfl rfl (by decide) (by decide) (by decide) (by decide) (by decide) (by decide) (Nat.le_of_ble_eq_true rfl) (Nat.le_of_ble_eq_true rfl) (Nat.le_of_ble_eq_true rfl) (Nat.le_of_ble_eq_true rfl) (by rw [eσ1]; exact cw_r24 g _ _) dX11_copyFarms_6 (fun H locs hP hD hS => ?_)
  cases hf
  exact bk_vret C hP hD hS rfl dX11_copyFarms_9
theorem c_X11_copyFarms_37_24 {N : Nat} {σ : Sg} {z : Sg} (hX : xOK g X) (hf : f_X11_copyFarms_37_24 N σ = some z) : MetV l yX11_copyFarms (Cond.code yX11_copyFarms cX11_copyFarms 2 none :: wsA) rm_X11_copyFarms_37_24 cw g X [.ref (g.2.2 37), .ref (g.2.2 24)] σ z :=
  MetV_of hX (by decide) (Nat.le_of_ble_eq_true rfl) (fun p e s m args below meth c A C => b_X11_copyFarms_37_24 C hf)
-- X11_copyFarms_38_25: copyFarms([I[I)V
abbrev rm_X11_copyFarms_38_25 : Room := { frames := 1, cells := 0, slots := 0, locals := 80 }
def f_X11_copyFarms_38_25 (N : Nat) (σ : Sg) : Option (Sg) :=
bd (wrR σ 25 (va_cpy (σ 38) (σ 25) 0 0 9)) fun σ1 =>
some σ1
set_option maxHeartbeats 4000000 in
set_option maxRecDepth 100000 in
theorem b_X11_copyFarms_38_25 {N : Nat} {σ : Sg} {z : Sg} (C : Cx p s m args meth c cX11_copyFarms 2 none RX11 g A X) (hf : f_X11_copyFarms_38_25 N σ = some z) : Bk cw p l e rm_X11_copyFarms_38_25 s m args below meth c 2 g A (MQ below (qV cw g A z) args s 0 0 A) 0 0 0 [(0, .ref (g.2.2 38)), (1, .ref (g.2.2 25))] [] σ := by
  obtain ⟨hx, hb, hr, hml, hown, hts, hK, hlocks, hXX, hA, hXo⟩ := id C
  intro H locs ls hP hD hS hl
  unfold f_X11_copyFarms_38_25 at hf
  refine lv_aload_n hx hb dX11_copyFarms_0 rfl (lv_at hl 0 rfl) ?_
  refine lv_iconst (v := (0 : Int32)) hx hb dX11_copyFarms_1 (by decide) ?_
  refine lv_aload_n hx hb dX11_copyFarms_2 rfl (lv_at hl 1 rfl) ?_
  refine lv_iconst (v := (0 : Int32)) hx hb dX11_copyFarms_3 (by decide) ?_
  refine lv_bipush (v := (9 : Int32)) hx hb dX11_copyFarms_4 (by decide) ?_
  obtain ⟨σ1, eσ1, hf⟩ := bd_s hf
  refine bk_copy (wf := cw) (σ1 := σ1) (q0 := 38) (q1 := 25) (n0 := 9) (n1 := 9) (js := 0) (jd := 0) (jn := 9) C hP hD hS hl.1 wa_446 wa_441 wa_442 wa_443 rfl rfl (by decide) (by decide) (by decide) (by decide) (by decide) (by decide) (Nat.le_of_ble_eq_true rfl) (Nat.le_of_ble_eq_true rfl) (Nat.le_of_ble_eq_true rfl) (Nat.le_of_ble_eq_true rfl) (by rw [eσ1]; exact cw_r25 g _ _) dX11_copyFarms_6 (fun H locs hP hD hS => ?_)
  cases hf
  exact bk_vret C hP hD hS rfl dX11_copyFarms_9
theorem c_X11_copyFarms_38_25 {N : Nat} {σ : Sg} {z : Sg} (hX : xOK g X) (hf : f_X11_copyFarms_38_25 N σ = some z) : MetV l yX11_copyFarms (Cond.code yX11_copyFarms cX11_copyFarms 2 none :: wsA) rm_X11_copyFarms_38_25 cw g X [.ref (g.2.2 38), .ref (g.2.2 25)] σ z :=
  MetV_of hX (by decide) (Nat.le_of_ble_eq_true rfl) (fun p e s m args below meth c A C => b_X11_copyFarms_38_25 C hf)
-- X11_copyFarms_39_26: copyFarms([I[I)V
abbrev rm_X11_copyFarms_39_26 : Room := { frames := 1, cells := 0, slots := 0, locals := 80 }
def f_X11_copyFarms_39_26 (N : Nat) (σ : Sg) : Option (Sg) :=
bd (wrR σ 26 (va_cpy (σ 39) (σ 26) 0 0 9)) fun σ1 =>
some σ1
set_option maxHeartbeats 4000000 in
set_option maxRecDepth 100000 in
theorem b_X11_copyFarms_39_26 {N : Nat} {σ : Sg} {z : Sg} (C : Cx p s m args meth c cX11_copyFarms 2 none RX11 g A X) (hf : f_X11_copyFarms_39_26 N σ = some z) : Bk cw p l e rm_X11_copyFarms_39_26 s m args below meth c 2 g A (MQ below (qV cw g A z) args s 0 0 A) 0 0 0 [(0, .ref (g.2.2 39)), (1, .ref (g.2.2 26))] [] σ := by
  obtain ⟨hx, hb, hr, hml, hown, hts, hK, hlocks, hXX, hA, hXo⟩ := id C
  intro H locs ls hP hD hS hl
  unfold f_X11_copyFarms_39_26 at hf
  refine lv_aload_n hx hb dX11_copyFarms_0 rfl (lv_at hl 0 rfl) ?_
  refine lv_iconst (v := (0 : Int32)) hx hb dX11_copyFarms_1 (by decide) ?_
  refine lv_aload_n hx hb dX11_copyFarms_2 rfl (lv_at hl 1 rfl) ?_
  refine lv_iconst (v := (0 : Int32)) hx hb dX11_copyFarms_3 (by decide) ?_
  refine lv_bipush (v := (9 : Int32)) hx hb dX11_copyFarms_4 (by decide) ?_
  obtain ⟨σ1, eσ1, hf⟩ := bd_s hf
  refine bk_copy (wf := cw) (σ1 := σ1) (q0 := 39) (q1 := 26) (n0 := 9) (n1 := 9) (js := 0) (jd := 0) (jn := 9) C hP hD hS hl.1 wa_446 wa_441 wa_442 wa_443 rfl rfl (by decide) (by decide) (by decide) (by decide) (by decide) (by decide) (Nat.le_of_ble_eq_true rfl) (Nat.le_of_ble_eq_true rfl) (Nat.le_of_ble_eq_true rfl) (Nat.le_of_ble_eq_true rfl) (by rw [eσ1]; exact cw_r26 g _ _) dX11_copyFarms_6 (fun H locs hP hD hS => ?_)
  cases hf
  exact bk_vret C hP hD hS rfl dX11_copyFarms_9
theorem c_X11_copyFarms_39_26 {N : Nat} {σ : Sg} {z : Sg} (hX : xOK g X) (hf : f_X11_copyFarms_39_26 N σ = some z) : MetV l yX11_copyFarms (Cond.code yX11_copyFarms cX11_copyFarms 2 none :: wsA) rm_X11_copyFarms_39_26 cw g X [.ref (g.2.2 39), .ref (g.2.2 26)] σ z :=
  MetV_of hX (by decide) (Nat.le_of_ble_eq_true rfl) (fun p e s m args below meth c A C => b_X11_copyFarms_39_26 C hf)
-- X7_copy_22_35: copy(LNodPost$State;)V
abbrev rm_X7_copy_22_35 : Room := { frames := 2, cells := 0, slots := 0, locals := 101 }
def f_X7_copy_22_35 (N : Nat) (σ : Sg) : Option (Sg) :=
bd (wr σ 22 0 (σ 35 0)) fun σ1 =>
bd (wr σ1 22 1 (σ1 35 1)) fun σ2 =>
(f_X11_copyFarms_36_23 N σ2).bind fun q3 =>
(f_X11_copyFarms_37_24 N q3).bind fun q4 =>
(f_X11_copyFarms_38_25 N q4).bind fun q5 =>
(f_X11_copyFarms_39_26 N q5).bind fun q6 =>
some q6
set_option maxHeartbeats 4000000 in
set_option maxRecDepth 100000 in
theorem b_X7_copy_22_35 {N : Nat} {σ : Sg} {z : Sg} (C : Cx p s m args meth c cX7_copy 2 none RX7 g A X) (hf : f_X7_copy_22_35 N σ = some z) : Bk cw p l e rm_X7_copy_22_35 s m args below meth c 2 g A (MQ below (qV cw g A z) args s 0 0 A) 0 0 0 [(0, .ref (g.2.2 22)), (1, .ref (g.2.2 35))] [] σ := by
  obtain ⟨hx, hb, hr, hml, hown, hts, hK, hlocks, hXX, hA, hXo⟩ := id C
  intro H locs ls hP hD hS hl
  unfold f_X7_copy_22_35 at hf
  refine lv_aload_n hx hb dX7_copy_0 rfl (lv_at hl 0 rfl) ?_
  refine lv_aload_n hx hb dX7_copy_1 rfl (lv_at hl 1 rfl) ?_
  refine bk_get (wf := cw) (q0 := 35) (ci := 7) (k := 0) (v := .int (σ 35 0)) C hP wl_X7 rfl rfl (by decide) wa_107 rfl rfl dX7_copy_2 ?_
  obtain ⟨σ1, eσ1, hf⟩ := bd_s hf
  refine bk_put (wf := cw) (σ1 := σ1) (q0 := 22) (ci := 7) (k := 0) (v := .int (σ 35 0)) C hP hD hS wl_X7 tyX7_ok nmX7 rfl rfl (by decide) wa_107 rfl rfl rfl rfl rfl (Nat.le_of_ble_eq_true rfl) (by rw [eσ1]; exact cw_p22_0 g _ _) dX7_copy_5 (fun H locs hP hD hS => ?_)
  refine lv_aload_n hx hb dX7_copy_8 rfl (lv_at hl 0 rfl) ?_
  refine lv_aload_n hx hb dX7_copy_9 rfl (lv_at hl 1 rfl) ?_
  refine bk_get (wf := cw) (q0 := 35) (ci := 7) (k := 1) (v := .int (σ1 35 1)) C hP wl_X7 rfl rfl (by decide) wa_108 rfl rfl dX7_copy_10 ?_
  obtain ⟨σ2, eσ2, hf⟩ := bd_s hf
  refine bk_put (wf := cw) (σ1 := σ2) (q0 := 22) (ci := 7) (k := 1) (v := .int (σ1 35 1)) C hP hD hS wl_X7 tyX7_ok nmX7 rfl rfl (by decide) wa_108 rfl rfl rfl rfl rfl (Nat.le_of_ble_eq_true rfl) (by rw [eσ2]; exact cw_p22_1 g _ _) dX7_copy_13 (fun H locs hP hD hS => ?_)
  refine lv_aload_n hx hb dX7_copy_16 rfl (lv_at hl 1 rfl) ?_
  refine bk_get (wf := cw) (q0 := 35) (ci := 7) (k := 2) (v := .ref (g.2.2 36)) C hP wl_X7 rfl rfl (by decide) wa_109 rfl rfl dX7_copy_17 ?_
  refine lv_aload_n hx hb dX7_copy_20 rfl (lv_at hl 0 rfl) ?_
  refine bk_get (wf := cw) (q0 := 22) (ci := 7) (k := 2) (v := .ref (g.2.2 23)) C hP wl_X7 rfl rfl (by decide) wa_109 rfl rfl dX7_copy_21 ?_
  obtain ⟨q3, hq3, hf⟩ := bi_s hf
  refine bk_NV (wf := cw) (rest := []) [.ref (g.2.2 36), .ref (g.2.2 23)] C hP hD hS hl.1 (c_X11_copyFarms_36_23 hXo hq3) wa_445 wa_444 wa_2 (hXo.2.2.2 _ _ _ hXX).1.1 rfl rfl nd_X11_copyFarms ⟨Nat.le_of_ble_eq_true rfl, Nat.le_of_ble_eq_true rfl⟩ rfl rfl (Nat.le_of_ble_eq_true rfl) dX7_copy_24 ⟨Nat.le_of_ble_eq_true rfl, Nat.le_of_ble_eq_true rfl⟩ (fun H locs hP hD hS => ?_)
  refine lv_aload_n hx hb dX7_copy_27 rfl (lv_at hl 1 rfl) ?_
  refine bk_get (wf := cw) (q0 := 35) (ci := 7) (k := 3) (v := .ref (g.2.2 37)) C hP wl_X7 rfl rfl (by decide) wa_110 rfl rfl dX7_copy_28 ?_
  refine lv_aload_n hx hb dX7_copy_31 rfl (lv_at hl 0 rfl) ?_
  refine bk_get (wf := cw) (q0 := 22) (ci := 7) (k := 3) (v := .ref (g.2.2 24)) C hP wl_X7 rfl rfl (by decide) wa_110 rfl rfl dX7_copy_32 ?_
  obtain ⟨q4, hq4, hf⟩ := bi_s hf
  refine bk_NV (wf := cw) (rest := []) [.ref (g.2.2 37), .ref (g.2.2 24)] C hP hD hS hl.1 (c_X11_copyFarms_37_24 hXo hq4) wa_445 wa_444 wa_2 (hXo.2.2.2 _ _ _ hXX).1.1 rfl rfl nd_X11_copyFarms ⟨Nat.le_of_ble_eq_true rfl, Nat.le_of_ble_eq_true rfl⟩ rfl rfl (Nat.le_of_ble_eq_true rfl) dX7_copy_35 ⟨Nat.le_of_ble_eq_true rfl, Nat.le_of_ble_eq_true rfl⟩ (fun H locs hP hD hS => ?_)
  refine lv_aload_n hx hb dX7_copy_38 rfl (lv_at hl 1 rfl) ?_
  refine bk_get (wf := cw) (q0 := 35) (ci := 7) (k := 4) (v := .ref (g.2.2 38)) C hP wl_X7 rfl rfl (by decide) wa_111 rfl rfl dX7_copy_39 ?_
  refine lv_aload_n hx hb dX7_copy_42 rfl (lv_at hl 0 rfl) ?_
  refine bk_get (wf := cw) (q0 := 22) (ci := 7) (k := 4) (v := .ref (g.2.2 25)) C hP wl_X7 rfl rfl (by decide) wa_111 rfl rfl dX7_copy_43 ?_
  obtain ⟨q5, hq5, hf⟩ := bi_s hf
  refine bk_NV (wf := cw) (rest := []) [.ref (g.2.2 38), .ref (g.2.2 25)] C hP hD hS hl.1 (c_X11_copyFarms_38_25 hXo hq5) wa_445 wa_444 wa_2 (hXo.2.2.2 _ _ _ hXX).1.1 rfl rfl nd_X11_copyFarms ⟨Nat.le_of_ble_eq_true rfl, Nat.le_of_ble_eq_true rfl⟩ rfl rfl (Nat.le_of_ble_eq_true rfl) dX7_copy_46 ⟨Nat.le_of_ble_eq_true rfl, Nat.le_of_ble_eq_true rfl⟩ (fun H locs hP hD hS => ?_)
  refine lv_aload_n hx hb dX7_copy_49 rfl (lv_at hl 1 rfl) ?_
  refine bk_get (wf := cw) (q0 := 35) (ci := 7) (k := 5) (v := .ref (g.2.2 39)) C hP wl_X7 rfl rfl (by decide) wa_112 rfl rfl dX7_copy_50 ?_
  refine lv_aload_n hx hb dX7_copy_53 rfl (lv_at hl 0 rfl) ?_
  refine bk_get (wf := cw) (q0 := 22) (ci := 7) (k := 5) (v := .ref (g.2.2 26)) C hP wl_X7 rfl rfl (by decide) wa_112 rfl rfl dX7_copy_54 ?_
  obtain ⟨q6, hq6, hf⟩ := bi_s hf
  refine bk_NV (wf := cw) (rest := []) [.ref (g.2.2 39), .ref (g.2.2 26)] C hP hD hS hl.1 (c_X11_copyFarms_39_26 hXo hq6) wa_445 wa_444 wa_2 (hXo.2.2.2 _ _ _ hXX).1.1 rfl rfl nd_X11_copyFarms ⟨Nat.le_of_ble_eq_true rfl, Nat.le_of_ble_eq_true rfl⟩ rfl rfl (Nat.le_of_ble_eq_true rfl) dX7_copy_57 ⟨Nat.le_of_ble_eq_true rfl, Nat.le_of_ble_eq_true rfl⟩ (fun H locs hP hD hS => ?_)
  cases hf
  exact bk_vret C hP hD hS rfl dX7_copy_60
theorem c_X7_copy_22_35 {N : Nat} {σ : Sg} {z : Sg} (hX : xOK g X) (hf : f_X7_copy_22_35 N σ = some z) : MetV l yX7_copy (Cond.code yX7_copy cX7_copy 2 none :: wsA) rm_X7_copy_22_35 cw g X [.ref (g.2.2 22), .ref (g.2.2 35)] σ z :=
  MetV_of hX (by decide) (Nat.le_of_ble_eq_true rfl) (fun p e s m args below meth c A C => b_X7_copy_22_35 C hf)
-- X0_copy_27_40: copy(LNodPost$Acts;)V
abbrev rm_X0_copy_27_40 : Room := { frames := 1, cells := 0, slots := 0, locals := 80 }
def f_X0_copy_27_40 (N : Nat) (σ : Sg) : Option (Sg) :=
bd (wr σ 27 0 (σ 40 0)) fun σ1 =>
bd (wr σ1 27 1 (σ1 40 1)) fun σ2 =>
bd (wrR σ2 28 (va_cpy (σ2 41) (σ2 28) 0 0 1520)) fun σ3 =>
some σ3
set_option maxHeartbeats 4000000 in
set_option maxRecDepth 100000 in
theorem b_X0_copy_27_40 {N : Nat} {σ : Sg} {z : Sg} (C : Cx p s m args meth c cX0_copy 2 none RX0 g A X) (hf : f_X0_copy_27_40 N σ = some z) : Bk cw p l e rm_X0_copy_27_40 s m args below meth c 2 g A (MQ below (qV cw g A z) args s 0 0 A) 0 0 0 [(0, .ref (g.2.2 27)), (1, .ref (g.2.2 40))] [] σ := by
  obtain ⟨hx, hb, hr, hml, hown, hts, hK, hlocks, hXX, hA, hXo⟩ := id C
  intro H locs ls hP hD hS hl
  unfold f_X0_copy_27_40 at hf
  refine lv_aload_n hx hb dX0_copy_0 rfl (lv_at hl 0 rfl) ?_
  refine lv_aload_n hx hb dX0_copy_1 rfl (lv_at hl 1 rfl) ?_
  refine bk_get (wf := cw) (q0 := 40) (ci := 0) (k := 0) (v := .int (σ 40 0)) C hP wl_X0 rfl rfl (by decide) wa_116 rfl rfl dX0_copy_2 ?_
  obtain ⟨σ1, eσ1, hf⟩ := bd_s hf
  refine bk_put (wf := cw) (σ1 := σ1) (q0 := 27) (ci := 0) (k := 0) (v := .int (σ 40 0)) C hP hD hS wl_X0 tyX0_ok nmX0 rfl rfl (by decide) wa_116 rfl rfl rfl rfl rfl (Nat.le_of_ble_eq_true rfl) (by rw [eσ1]; exact cw_p27_0 g _ _) dX0_copy_5 (fun H locs hP hD hS => ?_)
  refine lv_aload_n hx hb dX0_copy_8 rfl (lv_at hl 0 rfl) ?_
  refine lv_aload_n hx hb dX0_copy_9 rfl (lv_at hl 1 rfl) ?_
  refine bk_get (wf := cw) (q0 := 40) (ci := 0) (k := 1) (v := .int (σ1 40 1)) C hP wl_X0 rfl rfl (by decide) wa_117 rfl rfl dX0_copy_10 ?_
  obtain ⟨σ2, eσ2, hf⟩ := bd_s hf
  refine bk_put (wf := cw) (σ1 := σ2) (q0 := 27) (ci := 0) (k := 1) (v := .int (σ1 40 1)) C hP hD hS wl_X0 tyX0_ok nmX0 rfl rfl (by decide) wa_117 rfl rfl rfl rfl rfl (Nat.le_of_ble_eq_true rfl) (by rw [eσ2]; exact cw_p27_1 g _ _) dX0_copy_13 (fun H locs hP hD hS => ?_)
  refine lv_aload_n hx hb dX0_copy_16 rfl (lv_at hl 1 rfl) ?_
  refine bk_get (wf := cw) (q0 := 40) (ci := 0) (k := 2) (v := .ref (g.2.2 41)) C hP wl_X0 rfl rfl (by decide) wa_118 rfl rfl dX0_copy_17 ?_
  refine lv_iconst (v := (0 : Int32)) hx hb dX0_copy_20 (by decide) ?_
  refine lv_aload_n hx hb dX0_copy_21 rfl (lv_at hl 0 rfl) ?_
  refine bk_get (wf := cw) (q0 := 27) (ci := 0) (k := 2) (v := .ref (g.2.2 28)) C hP wl_X0 rfl rfl (by decide) wa_118 rfl rfl dX0_copy_22 ?_
  refine lv_iconst (v := (0 : Int32)) hx hb dX0_copy_25 (by decide) ?_
  refine lv_sipush (v := (1520 : Int32)) hx hb dX0_copy_26 (by decide) ?_
  obtain ⟨σ3, eσ3, hf⟩ := bd_s hf
  refine bk_copy (wf := cw) (σ1 := σ3) (q0 := 41) (q1 := 28) (n0 := 1520) (n1 := 1520) (js := 0) (jd := 0) (jn := 1520) C hP hD hS hl.1 wa_1432 wa_441 wa_442 wa_443 rfl rfl (by decide) (by decide) (by decide) (by decide) (by decide) (by decide) (Nat.le_of_ble_eq_true rfl) (Nat.le_of_ble_eq_true rfl) (Nat.le_of_ble_eq_true rfl) (Nat.le_of_ble_eq_true rfl) (by rw [eσ3]; exact cw_r28 g _ _) dX0_copy_29 (fun H locs hP hD hS => ?_)
  cases hf
  exact bk_vret C hP hD hS rfl dX0_copy_32
theorem c_X0_copy_27_40 {N : Nat} {σ : Sg} {z : Sg} (hX : xOK g X) (hf : f_X0_copy_27_40 N σ = some z) : MetV l yX0_copy (Cond.code yX0_copy cX0_copy 2 none :: wsA) rm_X0_copy_27_40 cw g X [.ref (g.2.2 27), .ref (g.2.2 40)] σ z :=
  MetV_of hX (by decide) (Nat.le_of_ble_eq_true rfl) (fun p e s m args below meth c A C => b_X0_copy_27_40 C hf)
-- X5_copy_29_42: copy(LNodPost$Seen;)V
abbrev rm_X5_copy_29_42 : Room := { frames := 1, cells := 0, slots := 0, locals := 80 }
def f_X5_copy_29_42 (N : Nat) (σ : Sg) : Option (Sg) :=
bd (wr σ 29 0 (σ 42 0)) fun σ1 =>
bd (wrR σ1 30 (va_cpy (σ1 43) (σ1 30) 0 0 8)) fun σ2 =>
bd (wrR σ2 31 (va_cpy (σ2 44) (σ2 31) 0 0 8)) fun σ3 =>
bd (wrR σ3 32 (va_cpy (σ3 45) (σ3 32) 0 0 8)) fun σ4 =>
some σ4
set_option maxHeartbeats 4000000 in
set_option maxRecDepth 100000 in
theorem b_X5_copy_29_42 {N : Nat} {σ : Sg} {z : Sg} (C : Cx p s m args meth c cX5_copy 2 none RX5 g A X) (hf : f_X5_copy_29_42 N σ = some z) : Bk cw p l e rm_X5_copy_29_42 s m args below meth c 2 g A (MQ below (qV cw g A z) args s 0 0 A) 0 0 0 [(0, .ref (g.2.2 29)), (1, .ref (g.2.2 42))] [] σ := by
  obtain ⟨hx, hb, hr, hml, hown, hts, hK, hlocks, hXX, hA, hXo⟩ := id C
  intro H locs ls hP hD hS hl
  unfold f_X5_copy_29_42 at hf
  refine lv_aload_n hx hb dX5_copy_0 rfl (lv_at hl 0 rfl) ?_
  refine lv_aload_n hx hb dX5_copy_1 rfl (lv_at hl 1 rfl) ?_
  refine bk_get (wf := cw) (q0 := 42) (ci := 5) (k := 0) (v := .int (σ 42 0)) C hP wl_X5 rfl rfl (by decide) wa_122 rfl rfl dX5_copy_2 ?_
  obtain ⟨σ1, eσ1, hf⟩ := bd_s hf
  refine bk_put (wf := cw) (σ1 := σ1) (q0 := 29) (ci := 5) (k := 0) (v := .int (σ 42 0)) C hP hD hS wl_X5 tyX5_ok nmX5 rfl rfl (by decide) wa_122 rfl rfl rfl rfl rfl (Nat.le_of_ble_eq_true rfl) (by rw [eσ1]; exact cw_p29_0 g _ _) dX5_copy_5 (fun H locs hP hD hS => ?_)
  refine lv_aload_n hx hb dX5_copy_8 rfl (lv_at hl 1 rfl) ?_
  refine bk_get (wf := cw) (q0 := 42) (ci := 5) (k := 1) (v := .ref (g.2.2 43)) C hP wl_X5 rfl rfl (by decide) wa_123 rfl rfl dX5_copy_9 ?_
  refine lv_iconst (v := (0 : Int32)) hx hb dX5_copy_12 (by decide) ?_
  refine lv_aload_n hx hb dX5_copy_13 rfl (lv_at hl 0 rfl) ?_
  refine bk_get (wf := cw) (q0 := 29) (ci := 5) (k := 1) (v := .ref (g.2.2 30)) C hP wl_X5 rfl rfl (by decide) wa_123 rfl rfl dX5_copy_14 ?_
  refine lv_iconst (v := (0 : Int32)) hx hb dX5_copy_17 (by decide) ?_
  refine lv_bipush (v := (8 : Int32)) hx hb dX5_copy_18 (by decide) ?_
  obtain ⟨σ2, eσ2, hf⟩ := bd_s hf
  refine bk_copy (wf := cw) (σ1 := σ2) (q0 := 43) (q1 := 30) (n0 := 8) (n1 := 8) (js := 0) (jd := 0) (jn := 8) C hP hD hS hl.1 wa_1437 wa_441 wa_442 wa_443 rfl rfl (by decide) (by decide) (by decide) (by decide) (by decide) (by decide) (Nat.le_of_ble_eq_true rfl) (Nat.le_of_ble_eq_true rfl) (Nat.le_of_ble_eq_true rfl) (Nat.le_of_ble_eq_true rfl) (by rw [eσ2]; exact cw_r30 g _ _) dX5_copy_20 (fun H locs hP hD hS => ?_)
  refine lv_aload_n hx hb dX5_copy_23 rfl (lv_at hl 1 rfl) ?_
  refine bk_get (wf := cw) (q0 := 42) (ci := 5) (k := 2) (v := .ref (g.2.2 44)) C hP wl_X5 rfl rfl (by decide) wa_124 rfl rfl dX5_copy_24 ?_
  refine lv_iconst (v := (0 : Int32)) hx hb dX5_copy_27 (by decide) ?_
  refine lv_aload_n hx hb dX5_copy_28 rfl (lv_at hl 0 rfl) ?_
  refine bk_get (wf := cw) (q0 := 29) (ci := 5) (k := 2) (v := .ref (g.2.2 31)) C hP wl_X5 rfl rfl (by decide) wa_124 rfl rfl dX5_copy_29 ?_
  refine lv_iconst (v := (0 : Int32)) hx hb dX5_copy_32 (by decide) ?_
  refine lv_bipush (v := (8 : Int32)) hx hb dX5_copy_33 (by decide) ?_
  obtain ⟨σ3, eσ3, hf⟩ := bd_s hf
  refine bk_copy (wf := cw) (σ1 := σ3) (q0 := 44) (q1 := 31) (n0 := 8) (n1 := 8) (js := 0) (jd := 0) (jn := 8) C hP hD hS hl.1 wa_1437 wa_441 wa_442 wa_443 rfl rfl (by decide) (by decide) (by decide) (by decide) (by decide) (by decide) (Nat.le_of_ble_eq_true rfl) (Nat.le_of_ble_eq_true rfl) (Nat.le_of_ble_eq_true rfl) (Nat.le_of_ble_eq_true rfl) (by rw [eσ3]; exact cw_r31 g _ _) dX5_copy_35 (fun H locs hP hD hS => ?_)
  refine lv_aload_n hx hb dX5_copy_38 rfl (lv_at hl 1 rfl) ?_
  refine bk_get (wf := cw) (q0 := 42) (ci := 5) (k := 3) (v := .ref (g.2.2 45)) C hP wl_X5 rfl rfl (by decide) wa_125 rfl rfl dX5_copy_39 ?_
  refine lv_iconst (v := (0 : Int32)) hx hb dX5_copy_42 (by decide) ?_
  refine lv_aload_n hx hb dX5_copy_43 rfl (lv_at hl 0 rfl) ?_
  refine bk_get (wf := cw) (q0 := 29) (ci := 5) (k := 3) (v := .ref (g.2.2 32)) C hP wl_X5 rfl rfl (by decide) wa_125 rfl rfl dX5_copy_44 ?_
  refine lv_iconst (v := (0 : Int32)) hx hb dX5_copy_47 (by decide) ?_
  refine lv_bipush (v := (8 : Int32)) hx hb dX5_copy_48 (by decide) ?_
  obtain ⟨σ4, eσ4, hf⟩ := bd_s hf
  refine bk_copy (wf := cw) (σ1 := σ4) (q0 := 45) (q1 := 32) (n0 := 8) (n1 := 8) (js := 0) (jd := 0) (jn := 8) C hP hD hS hl.1 wa_1437 wa_441 wa_442 wa_443 rfl rfl (by decide) (by decide) (by decide) (by decide) (by decide) (by decide) (Nat.le_of_ble_eq_true rfl) (Nat.le_of_ble_eq_true rfl) (Nat.le_of_ble_eq_true rfl) (Nat.le_of_ble_eq_true rfl) (by rw [eσ4]; exact cw_r32 g _ _) dX5_copy_50 (fun H locs hP hD hS => ?_)
  cases hf
  exact bk_vret C hP hD hS rfl dX5_copy_53
theorem c_X5_copy_29_42 {N : Nat} {σ : Sg} {z : Sg} (hX : xOK g X) (hf : f_X5_copy_29_42 N σ = some z) : MetV l yX5_copy (Cond.code yX5_copy cX5_copy 2 none :: wsA) rm_X5_copy_29_42 cw g X [.ref (g.2.2 29), .ref (g.2.2 42)] σ z :=
  MetV_of hX (by decide) (Nat.le_of_ble_eq_true rfl) (fun p e s m args below meth c A C => b_X5_copy_29_42 C hf)
-- X1_copy_21_34: copy(LNodPost$Book;)V
abbrev rm_X1_copy_21_34 : Room := { frames := 3, cells := 0, slots := 0, locals := 122 }
def f_X1_copy_21_34 (N : Nat) (σ : Sg) : Option (Sg) :=
(f_X7_copy_22_35 N σ).bind fun q1 =>
(f_X0_copy_27_40 N q1).bind fun q2 =>
(f_X5_copy_29_42 N q2).bind fun q3 =>
bd (wrR q3 33 (va_cpy (q3 46) (q3 33) 0 0 3)) fun σ4 =>
some σ4
set_option maxHeartbeats 4000000 in
set_option maxRecDepth 100000 in
theorem b_X1_copy_21_34 {N : Nat} {σ : Sg} {z : Sg} (C : Cx p s m args meth c cX1_copy 2 none RX1 g A X) (hf : f_X1_copy_21_34 N σ = some z) : Bk cw p l e rm_X1_copy_21_34 s m args below meth c 2 g A (MQ below (qV cw g A z) args s 0 0 A) 0 0 0 [(0, .ref (g.2.2 21)), (1, .ref (g.2.2 34))] [] σ := by
  obtain ⟨hx, hb, hr, hml, hown, hts, hK, hlocks, hXX, hA, hXo⟩ := id C
  intro H locs ls hP hD hS hl
  unfold f_X1_copy_21_34 at hf
  refine lv_aload_n hx hb dX1_copy_0 rfl (lv_at hl 0 rfl) ?_
  refine bk_get (wf := cw) (q0 := 21) (ci := 1) (k := 0) (v := .ref (g.2.2 22)) C hP wl_X1 rfl rfl (by decide) wa_94 rfl rfl dX1_copy_1 ?_
  refine lv_aload_n hx hb dX1_copy_4 rfl (lv_at hl 1 rfl) ?_
  refine bk_get (wf := cw) (q0 := 34) (ci := 1) (k := 0) (v := .ref (g.2.2 35)) C hP wl_X1 rfl rfl (by decide) wa_94 rfl rfl dX1_copy_5 ?_
  obtain ⟨q1, hq1, hf⟩ := bi_s hf
  refine bk_VV (wf := cw) (q0 := 22) (ci := 7) (rest := []) [.ref (g.2.2 35)] C hP hD hS hl.1 (c_X7_copy_22_35 hXo hq1) (cwA_V 1 hts wa_829 wa_1427 wa_827 wa_828 wa_93 rfl rfl nd_X7_copy ⟨Nat.le_of_ble_eq_true rfl, Nat.le_of_ble_eq_true rfl⟩) rfl rfl rfl rfl (Nat.le_of_ble_eq_true rfl) dX1_copy_8 ⟨Nat.le_of_ble_eq_true rfl, Nat.le_of_ble_eq_true rfl⟩ (fun H locs hP hD hS => ?_)
  refine lv_aload_n hx hb dX1_copy_11 rfl (lv_at hl 0 rfl) ?_
  refine bk_get (wf := cw) (q0 := 21) (ci := 1) (k := 1) (v := .ref (g.2.2 27)) C hP wl_X1 rfl rfl (by decide) wa_98 rfl rfl dX1_copy_12 ?_
  refine lv_aload_n hx hb dX1_copy_15 rfl (lv_at hl 1 rfl) ?_
  refine bk_get (wf := cw) (q0 := 34) (ci := 1) (k := 1) (v := .ref (g.2.2 40)) C hP wl_X1 rfl rfl (by decide) wa_98 rfl rfl dX1_copy_16 ?_
  obtain ⟨q2, hq2, hf⟩ := bi_s hf
  refine bk_VV (wf := cw) (q0 := 27) (ci := 0) (rest := []) [.ref (g.2.2 40)] C hP hD hS hl.1 (c_X0_copy_27_40 hXo hq2) (cwA_V 1 hts wa_1431 wa_1428 wa_1429 wa_1430 wa_97 rfl rfl nd_X0_copy ⟨Nat.le_of_ble_eq_true rfl, Nat.le_of_ble_eq_true rfl⟩) rfl rfl rfl rfl (Nat.le_of_ble_eq_true rfl) dX1_copy_19 ⟨Nat.le_of_ble_eq_true rfl, Nat.le_of_ble_eq_true rfl⟩ (fun H locs hP hD hS => ?_)
  refine lv_aload_n hx hb dX1_copy_22 rfl (lv_at hl 0 rfl) ?_
  refine bk_get (wf := cw) (q0 := 21) (ci := 1) (k := 2) (v := .ref (g.2.2 29)) C hP wl_X1 rfl rfl (by decide) wa_102 rfl rfl dX1_copy_23 ?_
  refine lv_aload_n hx hb dX1_copy_26 rfl (lv_at hl 1 rfl) ?_
  refine bk_get (wf := cw) (q0 := 34) (ci := 1) (k := 2) (v := .ref (g.2.2 42)) C hP wl_X1 rfl rfl (by decide) wa_102 rfl rfl dX1_copy_27 ?_
  obtain ⟨q3, hq3, hf⟩ := bi_s hf
  refine bk_VV (wf := cw) (q0 := 29) (ci := 5) (rest := []) [.ref (g.2.2 42)] C hP hD hS hl.1 (c_X5_copy_29_42 hXo hq3) (cwA_V 1 hts wa_1436 wa_1433 wa_1434 wa_1435 wa_101 rfl rfl nd_X5_copy ⟨Nat.le_of_ble_eq_true rfl, Nat.le_of_ble_eq_true rfl⟩) rfl rfl rfl rfl (Nat.le_of_ble_eq_true rfl) dX1_copy_30 ⟨Nat.le_of_ble_eq_true rfl, Nat.le_of_ble_eq_true rfl⟩ (fun H locs hP hD hS => ?_)
  refine lv_aload_n hx hb dX1_copy_33 rfl (lv_at hl 1 rfl) ?_
  refine bk_get (wf := cw) (q0 := 34) (ci := 1) (k := 3) (v := .ref (g.2.2 46)) C hP wl_X1 rfl rfl (by decide) wa_103 rfl rfl dX1_copy_34 ?_
  refine lv_iconst (v := (0 : Int32)) hx hb dX1_copy_37 (by decide) ?_
  refine lv_aload_n hx hb dX1_copy_38 rfl (lv_at hl 0 rfl) ?_
  refine bk_get (wf := cw) (q0 := 21) (ci := 1) (k := 3) (v := .ref (g.2.2 33)) C hP wl_X1 rfl rfl (by decide) wa_103 rfl rfl dX1_copy_39 ?_
  refine lv_iconst (v := (0 : Int32)) hx hb dX1_copy_42 (by decide) ?_
  refine lv_iconst (v := (3 : Int32)) hx hb dX1_copy_43 (by decide) ?_
  obtain ⟨σ4, eσ4, hf⟩ := bd_s hf
  refine bk_copy (wf := cw) (σ1 := σ4) (q0 := 46) (q1 := 33) (n0 := 3) (n1 := 3) (js := 0) (jd := 0) (jn := 3) C hP hD hS hl.1 wa_1426 wa_441 wa_442 wa_443 rfl rfl (by decide) (by decide) (by decide) (by decide) (by decide) (by decide) (Nat.le_of_ble_eq_true rfl) (Nat.le_of_ble_eq_true rfl) (Nat.le_of_ble_eq_true rfl) (Nat.le_of_ble_eq_true rfl) (by rw [eσ4]; exact cw_r33 g _ _) dX1_copy_44 (fun H locs hP hD hS => ?_)
  cases hf
  exact bk_vret C hP hD hS rfl dX1_copy_47
theorem c_X1_copy_21_34 {N : Nat} {σ : Sg} {z : Sg} (hX : xOK g X) (hf : f_X1_copy_21_34 N σ = some z) : MetV l yX1_copy (Cond.code yX1_copy cX1_copy 2 none :: wsA) rm_X1_copy_21_34 cw g X [.ref (g.2.2 21), .ref (g.2.2 34)] σ z :=
  MetV_of hX (by decide) (Nat.le_of_ble_eq_true rfl) (fun p e s m args below meth c A C => b_X1_copy_21_34 C hf)
-- X11_restore_0: restore()Z
abbrev rm_X11_restore_0 : Room := { frames := 5, cells := 0, slots := 0, locals := 143 }
theorem nd_X11_restore : yX11_restore.cls ≠ "java/lang/invoke/MethodHandle" ∧ yX11_restore.cls ≠ "java/lang/invoke/VarHandle" ∧ (parseMethodDescriptor yX11_restore.desc).map (fun d => d.parameters.length) = some 0 := by decide +kernel
def f_X11_restore_0 (N : Nat) (σ : Sg) : Option (Int32 × Sg) :=
if (σ 0 6) = 0 then (some ((0 : Int32), σ))
else ((f_X1_copy_21_34 N σ).bind fun q1 =>
(f_X6_build_47_26 N q1).bind fun q2 =>
some ((1 : Int32), q2))
set_option maxHeartbeats 4000000 in
set_option maxRecDepth 100000 in
theorem b_X11_restore_0 {N : Nat} {σ : Sg} {z : Int32 × Sg} (C : Cx p s m args meth c cX11_restore 1 (some .boolean) RX11 g A X) (hf : f_X11_restore_0 N σ = some z) : Bk cw p l e rm_X11_restore_0 s m args below meth c 1 g A (MQ below (qI cw g A z.1 z.2) args s 0 0 A) 0 0 0 [(0, .ref (g.2.2 0))] [] σ := by
  obtain ⟨hx, hb, hr, hml, hown, hts, hK, hlocks, hXX, hA, hXo⟩ := id C
  intro H locs ls hP hD hS hl
  unfold f_X11_restore_0 at hf
  refine lv_aload_n hx hb dX11_restore_0 rfl (lv_at hl 0 rfl) ?_
  refine bk_get (wf := cw) (q0 := 0) (ci := 10) (k := 6) (v := .int (σ 0 6)) C hP wl_X11 rfl rfl (by decide) wa_29 rfl rfl dX11_restore_1 ?_
  refine lv_if_ne (tgt := 9) hx hb dX11_restore_4 (by decide) (fun t4 => ?_) (fun t4 => ?_)
  · have hf := (if_neg t4).symm.trans hf
    refine lv_aload_n hx hb dX11_restore_9 rfl (lv_at hl 0 rfl) ?_
    refine bk_get (wf := cw) (q0 := 0) (ci := 10) (k := 4) (v := .ref (g.2.2 21)) C hP wl_X11 rfl rfl (by decide) wa_27 rfl rfl dX11_restore_10 ?_
    refine lv_aload_n hx hb dX11_restore_13 rfl (lv_at hl 0 rfl) ?_
    refine bk_get (wf := cw) (q0 := 0) (ci := 10) (k := 5) (v := .ref (g.2.2 34)) C hP wl_X11 rfl rfl (by decide) wa_28 rfl rfl dX11_restore_14 ?_
    obtain ⟨q1, hq1, hf⟩ := bi_s hf
    refine bk_VV (wf := cw) (q0 := 21) (ci := 1) (rest := []) [.ref (g.2.2 34)] C hP hD hS hl.1 (c_X1_copy_21_34 hXo hq1) (cwA_V 1 hts wa_1425 wa_1422 wa_1423 wa_1424 wa_26 rfl rfl nd_X1_copy ⟨Nat.le_of_ble_eq_true rfl, Nat.le_of_ble_eq_true rfl⟩) rfl rfl rfl rfl (Nat.le_of_ble_eq_true rfl) dX11_restore_17 ⟨Nat.le_of_ble_eq_true rfl, Nat.le_of_ble_eq_true rfl⟩ (fun H locs hP hD hS => ?_)
    refine lv_aload_n hx hb dX11_restore_20 rfl (lv_at hl 0 rfl) ?_
    refine bk_get (wf := cw) (q0 := 0) (ci := 10) (k := 7) (v := .ref (g.2.2 47)) C hP wl_X11 rfl rfl (by decide) wa_33 rfl rfl dX11_restore_21 ?_
    refine lv_aload_n hx hb dX11_restore_24 rfl (lv_at hl 0 rfl) ?_
    refine bk_get (wf := cw) (q0 := 0) (ci := 10) (k := 4) (v := .ref (g.2.2 21)) C hP wl_X11 rfl rfl (by decide) wa_27 rfl rfl dX11_restore_25 ?_
    refine bk_get (wf := cw) (q0 := 21) (ci := 1) (k := 0) (v := .ref (g.2.2 22)) C hP wl_X1 rfl rfl (by decide) wa_221 rfl rfl dX11_restore_28 ?_
    refine bk_get (wf := cw) (q0 := 22) (ci := 7) (k := 5) (v := .ref (g.2.2 26)) C hP wl_X7 rfl rfl (by decide) wa_224 rfl rfl dX11_restore_31 ?_
    obtain ⟨q2, hq2, hf⟩ := bi_s hf
    refine bk_VV (wf := cw) (q0 := 47) (ci := 6) (rest := []) [.ref (g.2.2 26)] C hP hD hS hl.1 (c_X6_build_47_26 hXo hq2) (cwA_V 1 hts wa_472 wa_469 wa_470 wa_471 wa_32 rfl rfl nd_X6_build ⟨Nat.le_of_ble_eq_true rfl, Nat.le_of_ble_eq_true rfl⟩) rfl rfl rfl rfl (Nat.le_of_ble_eq_true rfl) dX11_restore_34 ⟨Nat.le_of_ble_eq_true rfl, Nat.le_of_ble_eq_true rfl⟩ (fun H locs hP hD hS => ?_)
    refine lv_iconst (v := (1 : Int32)) hx hb dX11_restore_37 (by decide) ?_
    cases hf
    exact bk_zret C hP hD hS (by decide) rfl dX11_restore_38
  · have hf := (if_pos t4).symm.trans hf
    refine lv_iconst (v := (0 : Int32)) hx hb dX11_restore_7 (by decide) ?_
    cases hf
    exact bk_zret C hP hD hS (by decide) rfl dX11_restore_8
theorem c_X11_restore_0 {N : Nat} {σ : Sg} {z : Int32 × Sg} (hX : xOK g X) (hf : f_X11_restore_0 N σ = some z) : MetI l yX11_restore (Cond.code yX11_restore cX11_restore 1 (some .boolean) :: wsA) rm_X11_restore_0 cw g X [.ref (g.2.2 0)] σ z.1 z.2 :=
  MetI_of hX (by decide) (Nat.le_of_ble_eq_true rfl) (fun p e s m args below meth c A C => b_X11_restore_0 C hf)
end GEN
