section GEN
variable {p : Program} {l : Launch} {e : Env} {s : State} {m : MethodId} {args : Array Value} {below : List Frame} {meth : Method} {c : Code} {g : WG} {A : Nat → Prop} {X : Xt} {Q : State → Prop}
-- X11_feedNumber_0: feedNumber(I)V
abbrev rm_X11_feedNumber_0 : Room := { frames := 0, cells := 0, slots := 0, locals := 0 }
theorem nd_X11_feedNumber : yX11_feedNumber.cls ≠ "java/lang/invoke/MethodHandle" ∧ yX11_feedNumber.cls ≠ "java/lang/invoke/VarHandle" ∧ (parseMethodDescriptor yX11_feedNumber.desc).map (fun d => d.parameters.length) = some 1 := by decide +kernel
def s_X11_feedNumber_0_h3 (N : Nat) (x1 : Int32) (x2 : Int32) (σ : Sg) : Option (Nat × Int32 × Sg) :=
if x2 < 0 then (some (1, 0, σ))
else (if (700 : Int32) ≤ (σ 0 1) then (some (1, 0, σ))
else (if ((σ 0 1) < 0 ∨ 700 ≤ (σ 0 1).toNatClampNeg) then none else
bd (wr σ 1 ((σ 0 1).toNatClampNeg) (vp_nar .byte (((x1).toUInt32 >>> ((x2).toUInt32 &&& Int32.toUInt32 31)).toInt32).toInt8.toInt32)) fun σ2 =>
bd (wr σ2 0 1 ((σ2 0 1) + (1 : Int32))) fun σ3 =>
bd (x2 + (-8 : Int32)) fun v4 =>
some (0, v4, σ3)))
set_option maxHeartbeats 4000000 in
set_option maxRecDepth 100000 in
theorem e_X11_feedNumber_0_h3 {N : Nat} {x1 : Int32} {x2 : Int32} {σ : Sg} {z : Nat × Int32 × Sg} (C : Cx p s m args meth c cX11_feedNumber 3 none RX11 g A X) (hf : s_X11_feedNumber_0_h3 N x1 x2 σ = some z) (k0 : z.1 = 0 → Bk cw p l e rm_X11_feedNumber_0 s m args below meth c 3 g A Q 0 0 3 [(0, .ref (g.2.2 0)), (1, .int x1), (2, .int z.2.1)] [] z.2.2) (k : ¬ z.1 = 0 → Bk cw p l e rm_X11_feedNumber_0 s m args below meth c 3 g A Q 0 0 48 [] [] z.2.2) : Bk cw p l e rm_X11_feedNumber_0 s m args below meth c 3 g A Q 0 0 3 [(0, .ref (g.2.2 0)), (1, .int x1), (2, .int x2)] [] σ := by
  obtain ⟨hx, hb, hr, hml, hown, hts, hK, hlocks, hXX, hA, hXo⟩ := id C
  intro H locs ls hP hD hS hl
  unfold s_X11_feedNumber_0_h3 at hf
  refine lv_iload_n hx hb dX11_feedNumber_3 rfl (lv_at hl 2 rfl) ?_
  refine lv_if_lt (tgt := 48) hx hb dX11_feedNumber_4 (by decide) (fun t4 => ?_) (fun t4 => ?_)
  · have hf := (if_pos t4).symm.trans hf
    cases hf
    exact (k (show ¬ (1 : Nat) = 0 by decide)) H locs ls hP hD hS (lv_sub hl [] rfl)
  · have hf := (if_neg t4).symm.trans hf
    refine lv_aload_n hx hb dX11_feedNumber_7 rfl (lv_at hl 0 rfl) ?_
    refine bk_get (wf := cw) (q0 := 0) (ci := 10) (k := 1) (v := .int (σ 0 1)) C hP wl_X11 rfl rfl (by decide) wa_15 rfl rfl dX11_feedNumber_8 ?_
    refine lv_aload_n hx hb dX11_feedNumber_11 rfl (lv_at hl 0 rfl) ?_
    refine bk_get (wf := cw) (q0 := 0) (ci := 10) (k := 0) (v := .ref (g.2.2 1)) C hP wl_X11 rfl rfl (by decide) wa_14 rfl rfl dX11_feedNumber_12 ?_
    refine bk_alen (wf := cw) (q0 := 1) (t0 := 1) (v := (700 : Int32)) C hP rfl rfl (show Int32.ofNat 700 = (700 : Int32) by decide) dX11_feedNumber_15 ?_
    refine lv_icmp_ge (tgt := 48) hx hb dX11_feedNumber_16 (by decide) (fun t16 => ?_) (fun t16 => ?_)
    · have hf := (if_pos t16).symm.trans hf
      cases hf
      exact (k (show ¬ (1 : Nat) = 0 by decide)) H locs ls hP hD hS (lv_sub hl [] rfl)
    · have hf := (if_neg t16).symm.trans hf
      refine lv_aload_n hx hb dX11_feedNumber_19 rfl (lv_at hl 0 rfl) ?_
      refine bk_get (wf := cw) (q0 := 0) (ci := 10) (k := 0) (v := .ref (g.2.2 1)) C hP wl_X11 rfl rfl (by decide) wa_14 rfl rfl dX11_feedNumber_20 ?_
      refine lv_aload_n hx hb dX11_feedNumber_23 rfl (lv_at hl 0 rfl) ?_
      refine bk_get (wf := cw) (q0 := 0) (ci := 10) (k := 1) (v := .int (σ 0 1)) C hP wl_X11 rfl rfl (by decide) wa_15 rfl rfl dX11_feedNumber_24 ?_
      refine lv_iload_n hx hb dX11_feedNumber_27 rfl (lv_at hl 1 rfl) ?_
      refine lv_iload_n hx hb dX11_feedNumber_28 rfl (lv_at hl 2 rfl) ?_
      refine lv_iushr hx hb dX11_feedNumber_29 rfl ?_
      refine lv_i2b hx hb dX11_feedNumber_30 rfl ?_
      obtain ⟨g1, hf⟩ := gd_s hf
      obtain ⟨σ2, eσ2, hf⟩ := bd_s hf
      refine bk_bast (wf := cw) (σ1 := σ2) (q0 := 1) (n := 700) (j := (σ 0 1).toNatClampNeg) C hP hD hS rfl g1 rfl (by rw [eσ2]; exact cw_a1 g _ _ _) dX11_feedNumber_31 (fun H locs hP hD hS => ?_)
      refine lv_aload_n hx hb dX11_feedNumber_32 rfl (lv_at hl 0 rfl) ?_
      refine lv_dup hx hb dX11_feedNumber_33 rfl ?_
      refine bk_get (wf := cw) (q0 := 0) (ci := 10) (k := 1) (v := .int (σ2 0 1)) C hP wl_X11 rfl rfl (by decide) wa_15 rfl rfl dX11_feedNumber_34 ?_
      refine lv_iconst (v := (1 : Int32)) hx hb dX11_feedNumber_37 (by decide) ?_
      refine lv_iadd hx hb dX11_feedNumber_38 ?_
      obtain ⟨σ3, eσ3, hf⟩ := bd_s hf
      refine bk_put (wf := cw) (σ1 := σ3) (q0 := 0) (ci := 10) (k := 1) (v := .int ((σ2 0 1) + (1 : Int32))) C hP hD hS wl_X11 tyX11_ok nmX11 rfl rfl (by decide) wa_15 rfl rfl rfl rfl rfl (Nat.le_of_ble_eq_true rfl) (by rw [eσ3]; exact cw_p0_1 g _ _) dX11_feedNumber_39 (fun H locs hP hD hS => ?_)
      obtain ⟨v4, ev4, hf⟩ := bd_s hf
      refine lv_iinc (v := v4) (lv' := [(2, .int v4), (0, .ref (g.2.2 0)), (1, .int x1)]) hx hb dX11_feedNumber_42 hl (k := 2) rfl (by rw [ev4]; rfl) (by decide) rfl (fun ls hl => ?_)
      refine lv_goto (tgt := 3) hx hb dX11_feedNumber_45 (by decide) ?_
      cases hf
      exact k0 rfl H locs ls hP hD hS (lv_sub hl [1, 2, 0] rfl)
theorem lp_X11_feedNumber_0_h3 {N : Nat} {n : Nat} {x1 : Int32} {x2 : Int32} {σ : Sg} {z : Nat × Int32 × Sg} (C : Cx p s m args meth c cX11_feedNumber 3 none RX11 g A X) (hz : it (fun q => s_X11_feedNumber_0_h3 N x1 q.1 q.2) n (x2, σ) = some z) (k : Bk cw p l e rm_X11_feedNumber_0 s m args below meth c 3 g A Q 0 0 48 [] [] z.2.2) : Bk cw p l e rm_X11_feedNumber_0 s m args below meth c 3 g A Q 0 0 3 [(0, .ref (g.2.2 0)), (1, .int x1), (2, .int x2)] [] σ :=
  it_W (S := Int32 × Sg) (fun q => Bk cw p l e rm_X11_feedNumber_0 s m args below meth c 3 g A Q 0 0 3 [(0, .ref (g.2.2 0)), (1, .int x1), (2, .int q.1)] [] q.2) (fun z => Bk cw p l e rm_X11_feedNumber_0 s m args below meth c 3 g A Q 0 0 48 [] [] z.2.2) (fun q z hq k0 k => e_X11_feedNumber_0_h3 C hq k0 k) n (x2, σ) z hz k
def f_X11_feedNumber_0 (N : Nat) (x1 : Int32) (σ : Sg) : Option (Sg) :=
(it (fun q => s_X11_feedNumber_0_h3 N x1 q.1 q.2) N ((24 : Int32), σ)).bind fun z5 =>
some (z5.2.2)
set_option maxHeartbeats 4000000 in
set_option maxRecDepth 100000 in
theorem b_X11_feedNumber_0 {N : Nat} {x1 : Int32} {σ : Sg} {z : Sg} (C : Cx p s m args meth c cX11_feedNumber 3 none RX11 g A X) (hf : f_X11_feedNumber_0 N x1 σ = some z) : Bk cw p l e rm_X11_feedNumber_0 s m args below meth c 3 g A (MQ below (qV cw g A z) args s 0 0 A) 0 0 0 [(0, .ref (g.2.2 0)), (1, .int x1)] [] σ := by
  obtain ⟨hx, hb, hr, hml, hown, hts, hK, hlocks, hXX, hA, hXo⟩ := id C
  intro H locs ls hP hD hS hl
  unfold f_X11_feedNumber_0 at hf
  refine lv_bipush (v := (24 : Int32)) hx hb dX11_feedNumber_0 (by decide) ?_
  refine lv_istore_n (lv' := [(2, .int (24 : Int32)), (0, .ref (g.2.2 0)), (1, .int x1)]) hx hb dX11_feedNumber_2 rfl hl (by decide) rfl (fun ls hl => ?_)
  obtain ⟨z5, hz5, hf⟩ := bi_s hf
  refine lp_X11_feedNumber_0_h3 C hz5 ?_ H locs ls hP hD hS (lv_sub hl [1, 2, 0] rfl)
  intro H locs ls hP hD hS hl
  cases hf
  exact bk_vret C hP hD hS rfl dX11_feedNumber_48
theorem c_X11_feedNumber_0 {N : Nat} {x1 : Int32} {σ : Sg} {z : Sg} (hX : xOK g X) (hf : f_X11_feedNumber_0 N x1 σ = some z) : MetV l yX11_feedNumber (Cond.code yX11_feedNumber cX11_feedNumber 3 none :: wsA) rm_X11_feedNumber_0 cw g X [.ref (g.2.2 0), .int x1] σ z :=
  MetV_of hX (by decide) (Nat.le_of_ble_eq_true rfl) (fun p e s m args below meth c A C => b_X11_feedNumber_0 C hf)
-- X11_feed_0: feed(IIIII)I
abbrev rm_X11_feed_0 : Room := { frames := 1, cells := 0, slots := 0, locals := 22 }
theorem nd_X11_feed : yX11_feed.cls ≠ "java/lang/invoke/MethodHandle" ∧ yX11_feed.cls ≠ "java/lang/invoke/VarHandle" ∧ (parseMethodDescriptor yX11_feed.desc).map (fun d => d.parameters.length) = some 5 := by decide +kernel
def f_X11_feed_0 (N : Nat) (x1 : Int32) (x2 : Int32) (x3 : Int32) (x4 : Int32) (x5 : Int32) (σ : Sg) : Option (Int32 × Sg) :=
if ((σ 0 1) + (20 : Int32)) ≤ (700 : Int32) then ((f_X11_feedNumber_0 N x1 σ).bind fun q1 =>
(f_X11_feedNumber_0 N x2 q1).bind fun q2 =>
(f_X11_feedNumber_0 N x3 q2).bind fun q3 =>
(f_X11_feedNumber_0 N x4 q3).bind fun q4 =>
(f_X11_feedNumber_0 N x5 q4).bind fun q5 =>
some ((q5 0 1), q5))
else (some ((-1 : Int32), σ))
set_option maxHeartbeats 4000000 in
set_option maxRecDepth 100000 in
theorem b_X11_feed_0 {N : Nat} {x1 : Int32} {x2 : Int32} {x3 : Int32} {x4 : Int32} {x5 : Int32} {σ : Sg} {z : Int32 × Sg} (C : Cx p s m args meth c cX11_feed 6 (some .int) RX11 g A X) (hf : f_X11_feed_0 N x1 x2 x3 x4 x5 σ = some z) : Bk cw p l e rm_X11_feed_0 s m args below meth c 6 g A (MQ below (qI cw g A z.1 z.2) args s 0 0 A) 0 0 0 [(0, .ref (g.2.2 0)), (1, .int x1), (2, .int x2), (3, .int x3), (4, .int x4), (5, .int x5)] [] σ := by
  obtain ⟨hx, hb, hr, hml, hown, hts, hK, hlocks, hXX, hA, hXo⟩ := id C
  intro H locs ls hP hD hS hl
  unfold f_X11_feed_0 at hf
  refine lv_aload_n hx hb dX11_feed_0 rfl (lv_at hl 0 rfl) ?_
  refine bk_get (wf := cw) (q0 := 0) (ci := 10) (k := 1) (v := .int (σ 0 1)) C hP wl_X11 rfl rfl (by decide) wa_15 rfl rfl dX11_feed_1 ?_
  refine lv_bipush (v := (20 : Int32)) hx hb dX11_feed_4 (by decide) ?_
  refine lv_iadd hx hb dX11_feed_6 ?_
  refine lv_sipush (v := (700 : Int32)) hx hb dX11_feed_7 (by decide) ?_
  refine lv_icmp_le (tgt := 15) hx hb dX11_feed_10 (by decide) (fun t10 => ?_) (fun t10 => ?_)
  · have hf := (if_pos t10).symm.trans hf
    refine lv_aload_n hx hb dX11_feed_15 rfl (lv_at hl 0 rfl) ?_
    refine lv_iload_n hx hb dX11_feed_16 rfl (lv_at hl 1 rfl) ?_
    obtain ⟨q1, hq1, hf⟩ := bi_s hf
    refine bk_VV (wf := cw) (q0 := 0) (ci := 10) (rest := []) [.int x1] C hP hD hS hl.1 (c_X11_feedNumber_0 hXo hq1) (cwA_V 1 hts wa_200 wa_197 wa_198 wa_199 wa_2 rfl rfl nd_X11_feedNumber ⟨Nat.le_of_ble_eq_true rfl, Nat.le_of_ble_eq_true rfl⟩) rfl rfl rfl rfl (Nat.le_of_ble_eq_true rfl) dX11_feed_17 ⟨Nat.le_of_ble_eq_true rfl, Nat.le_of_ble_eq_true rfl⟩ (fun H locs hP hD hS => ?_)
    refine lv_aload_n hx hb dX11_feed_20 rfl (lv_at hl 0 rfl) ?_
    refine lv_iload_n hx hb dX11_feed_21 rfl (lv_at hl 2 rfl) ?_
    obtain ⟨q2, hq2, hf⟩ := bi_s hf
    refine bk_VV (wf := cw) (q0 := 0) (ci := 10) (rest := []) [.int x2] C hP hD hS hl.1 (c_X11_feedNumber_0 hXo hq2) (cwA_V 1 hts wa_200 wa_197 wa_198 wa_199 wa_2 rfl rfl nd_X11_feedNumber ⟨Nat.le_of_ble_eq_true rfl, Nat.le_of_ble_eq_true rfl⟩) rfl rfl rfl rfl (Nat.le_of_ble_eq_true rfl) dX11_feed_22 ⟨Nat.le_of_ble_eq_true rfl, Nat.le_of_ble_eq_true rfl⟩ (fun H locs hP hD hS => ?_)
    refine lv_aload_n hx hb dX11_feed_25 rfl (lv_at hl 0 rfl) ?_
    refine lv_iload_n hx hb dX11_feed_26 rfl (lv_at hl 3 rfl) ?_
    obtain ⟨q3, hq3, hf⟩ := bi_s hf
    refine bk_VV (wf := cw) (q0 := 0) (ci := 10) (rest := []) [.int x3] C hP hD hS hl.1 (c_X11_feedNumber_0 hXo hq3) (cwA_V 1 hts wa_200 wa_197 wa_198 wa_199 wa_2 rfl rfl nd_X11_feedNumber ⟨Nat.le_of_ble_eq_true rfl, Nat.le_of_ble_eq_true rfl⟩) rfl rfl rfl rfl (Nat.le_of_ble_eq_true rfl) dX11_feed_27 ⟨Nat.le_of_ble_eq_true rfl, Nat.le_of_ble_eq_true rfl⟩ (fun H locs hP hD hS => ?_)
    refine lv_aload_n hx hb dX11_feed_30 rfl (lv_at hl 0 rfl) ?_
    refine lv_iload hx hb dX11_feed_31 (lv_at hl 4 rfl) ?_
    obtain ⟨q4, hq4, hf⟩ := bi_s hf
    refine bk_VV (wf := cw) (q0 := 0) (ci := 10) (rest := []) [.int x4] C hP hD hS hl.1 (c_X11_feedNumber_0 hXo hq4) (cwA_V 1 hts wa_200 wa_197 wa_198 wa_199 wa_2 rfl rfl nd_X11_feedNumber ⟨Nat.le_of_ble_eq_true rfl, Nat.le_of_ble_eq_true rfl⟩) rfl rfl rfl rfl (Nat.le_of_ble_eq_true rfl) dX11_feed_33 ⟨Nat.le_of_ble_eq_true rfl, Nat.le_of_ble_eq_true rfl⟩ (fun H locs hP hD hS => ?_)
    refine lv_aload_n hx hb dX11_feed_36 rfl (lv_at hl 0 rfl) ?_
    refine lv_iload hx hb dX11_feed_37 (lv_at hl 5 rfl) ?_
    obtain ⟨q5, hq5, hf⟩ := bi_s hf
    refine bk_VV (wf := cw) (q0 := 0) (ci := 10) (rest := []) [.int x5] C hP hD hS hl.1 (c_X11_feedNumber_0 hXo hq5) (cwA_V 1 hts wa_200 wa_197 wa_198 wa_199 wa_2 rfl rfl nd_X11_feedNumber ⟨Nat.le_of_ble_eq_true rfl, Nat.le_of_ble_eq_true rfl⟩) rfl rfl rfl rfl (Nat.le_of_ble_eq_true rfl) dX11_feed_39 ⟨Nat.le_of_ble_eq_true rfl, Nat.le_of_ble_eq_true rfl⟩ (fun H locs hP hD hS => ?_)
    refine lv_aload_n hx hb dX11_feed_42 rfl (lv_at hl 0 rfl) ?_
    refine bk_get (wf := cw) (q0 := 0) (ci := 10) (k := 1) (v := .int (q5 0 1)) C hP wl_X11 rfl rfl (by decide) wa_15 rfl rfl dX11_feed_43 ?_
    cases hf
    exact bk_iret C hP hD hS rfl dX11_feed_46
  · have hf := (if_neg t10).symm.trans hf
    refine lv_iconst (v := (-1 : Int32)) hx hb dX11_feed_13 (by decide) ?_
    cases hf
    exact bk_iret C hP hD hS rfl dX11_feed_14
theorem c_X11_feed_0 {N : Nat} {x1 : Int32} {x2 : Int32} {x3 : Int32} {x4 : Int32} {x5 : Int32} {σ : Sg} {z : Int32 × Sg} (hX : xOK g X) (hf : f_X11_feed_0 N x1 x2 x3 x4 x5 σ = some z) : MetI l yX11_feed (Cond.code yX11_feed cX11_feed 6 (some .int) :: wsA) rm_X11_feed_0 cw g X [.ref (g.2.2 0), .int x1, .int x2, .int x3, .int x4, .int x5] σ z.1 z.2 :=
  MetI_of hX (by decide) (Nat.le_of_ble_eq_true rfl) (fun p e s m args below meth c A C => b_X11_feed_0 C hf)
-- X3_isDigit_2: isDigit(I)Z
abbrev rm_X3_isDigit_2 : Room := { frames := 0, cells := 0, slots := 0, locals := 0 }
theorem nd_X3_isDigit : yX3_isDigit.cls ≠ "java/lang/invoke/MethodHandle" ∧ yX3_isDigit.cls ≠ "java/lang/invoke/VarHandle" ∧ (parseMethodDescriptor yX3_isDigit.desc).map (fun d => d.parameters.length) = some 1 := by decide +kernel
def f_X3_isDigit_2_b26 (N : Nat) (σ : Sg) : Option (Int32 × Sg) :=
some ((0 : Int32), σ)
set_option maxHeartbeats 4000000 in
set_option maxRecDepth 100000 in
theorem b_X3_isDigit_2_b26 {N : Nat} {σ : Sg} {z : Int32 × Sg} (C : Cx p s m args meth c cX3_isDigit 2 (some .boolean) RX3 g A X) (hf : f_X3_isDigit_2_b26 N σ = some z) : Bk cw p l e rm_X3_isDigit_2 s m args below meth c 2 g A (MQ below (qI cw g A z.1 z.2) args s 0 0 A) 0 0 26 [] [] σ := by
  obtain ⟨hx, hb, hr, hml, hown, hts, hK, hlocks, hXX, hA, hXo⟩ := id C
  intro H locs ls hP hD hS hl
  unfold f_X3_isDigit_2_b26 at hf
  refine lv_iconst (v := (0 : Int32)) hx hb dX3_isDigit_26 (by decide) ?_
  cases hf
  exact bk_zret C hP hD hS (by decide) rfl dX3_isDigit_27
def f_X3_isDigit_2 (N : Nat) (x1 : Int32) (σ : Sg) : Option (Int32 × Sg) :=
if (x1 < 0 ∨ 700 ≤ x1.toNatClampNeg) then none else
if (σ 1 x1.toNatClampNeg) < (48 : Int32) then (f_X3_isDigit_2_b26 N σ)
else (if (x1 < 0 ∨ 700 ≤ x1.toNatClampNeg) then none else
if (57 : Int32) < (σ 1 x1.toNatClampNeg) then (f_X3_isDigit_2_b26 N σ)
else (some ((1 : Int32), σ)))
set_option maxHeartbeats 4000000 in
set_option maxRecDepth 100000 in
theorem b_X3_isDigit_2 {N : Nat} {x1 : Int32} {σ : Sg} {z : Int32 × Sg} (C : Cx p s m args meth c cX3_isDigit 2 (some .boolean) RX3 g A X) (hf : f_X3_isDigit_2 N x1 σ = some z) : Bk cw p l e rm_X3_isDigit_2 s m args below meth c 2 g A (MQ below (qI cw g A z.1 z.2) args s 0 0 A) 0 0 0 [(0, .ref (g.2.2 2)), (1, .int x1)] [] σ := by
  obtain ⟨hx, hb, hr, hml, hown, hts, hK, hlocks, hXX, hA, hXo⟩ := id C
  intro H locs ls hP hD hS hl
  unfold f_X3_isDigit_2 at hf
  refine lv_aload_n hx hb dX3_isDigit_0 rfl (lv_at hl 0 rfl) ?_
  refine bk_get (wf := cw) (q0 := 2) (ci := 3) (k := 3) (v := .ref (g.2.2 1)) C hP wl_X3 rfl rfl (by decide) wa_64 rfl rfl dX3_isDigit_1 ?_
  refine lv_iload_n hx hb dX3_isDigit_4 rfl (lv_at hl 1 rfl) ?_
  obtain ⟨g1, hf⟩ := gd_s hf
  refine bk_bald (wf := cw) (q0 := 1) (n := 700) (j := x1.toNatClampNeg) C hP rfl g1 rfl dX3_isDigit_5 ?_
  refine lv_bipush (v := (48 : Int32)) hx hb dX3_isDigit_6 (by decide) ?_
  refine lv_icmp_lt (tgt := 26) hx hb dX3_isDigit_8 (by decide) (fun t8 => ?_) (fun t8 => ?_)
  · have hf := (if_pos t8).symm.trans hf
    exact b_X3_isDigit_2_b26 C hf H locs ls hP hD hS (lv_sub hl [] rfl)
  · have hf := (if_neg t8).symm.trans hf
    refine lv_aload_n hx hb dX3_isDigit_11 rfl (lv_at hl 0 rfl) ?_
    refine bk_get (wf := cw) (q0 := 2) (ci := 3) (k := 3) (v := .ref (g.2.2 1)) C hP wl_X3 rfl rfl (by decide) wa_64 rfl rfl dX3_isDigit_12 ?_
    refine lv_iload_n hx hb dX3_isDigit_15 rfl (lv_at hl 1 rfl) ?_
    obtain ⟨g2, hf⟩ := gd_s hf
    refine bk_bald (wf := cw) (q0 := 1) (n := 700) (j := x1.toNatClampNeg) C hP rfl g2 rfl dX3_isDigit_16 ?_
    refine lv_bipush (v := (57 : Int32)) hx hb dX3_isDigit_17 (by decide) ?_
    refine lv_icmp_gt (tgt := 26) hx hb dX3_isDigit_19 (by decide) (fun t19 => ?_) (fun t19 => ?_)
    · have hf := (if_pos t19).symm.trans hf
      exact b_X3_isDigit_2_b26 C hf H locs ls hP hD hS (lv_sub hl [] rfl)
    · have hf := (if_neg t19).symm.trans hf
      refine lv_iconst (v := (1 : Int32)) hx hb dX3_isDigit_22 (by decide) ?_
      refine lv_goto (tgt := 27) hx hb dX3_isDigit_23 (by decide) ?_
      cases hf
      exact bk_zret C hP hD hS (by decide) rfl dX3_isDigit_27
theorem c_X3_isDigit_2 {N : Nat} {x1 : Int32} {σ : Sg} {z : Int32 × Sg} (hX : xOK g X) (hf : f_X3_isDigit_2 N x1 σ = some z) : MetI l yX3_isDigit (Cond.code yX3_isDigit cX3_isDigit 2 (some .boolean) :: wsA) rm_X3_isDigit_2 cw g X [.ref (g.2.2 2), .int x1] σ z.1 z.2 :=
  MetI_of hX (by decide) (Nat.le_of_ble_eq_true rfl) (fun p e s m args below meth c A C => b_X3_isDigit_2 C hf)
-- X8_stands_1: stands([BII)Z
abbrev rm_X8_stands_1 : Room := { frames := 4, cells := 0, slots := 0, locals := 85 }
theorem nd_X8_stands : yX8_stands.cls ≠ "java/lang/invoke/MethodHandle" ∧ yX8_stands.cls ≠ "java/lang/invoke/VarHandle" ∧ (parseMethodDescriptor yX8_stands.desc).map (fun d => d.parameters.length) = some 3 := by decide +kernel
def s_X8_stands_1_h28 (N : Nat) (x0 : Int32) (x2 : Int32) (x3 : Int32) (x4 : Int32) (σ : Sg) : Option (Nat × Int32 × Sg) :=
if x3 ≤ x4 then (some (2, 0, σ))
else (if (700 : Int32) ≤ x4 then (some (2, 0, σ))
else (if (x4 < 0 ∨ 700 ≤ x4.toNatClampNeg) then none else
if (x0 < 0 ∨ 27 ≤ x0.toNatClampNeg) then none else
if ¬ ((14 + x0.toNatClampNeg) < 41) then none else
if ((x4 - x2) < 0 ∨ tlen (14 + x0.toNatClampNeg) ≤ (x4 - x2).toNatClampNeg) then none else
if ((σ 1 x4.toNatClampNeg) &&& (255 : Int32)) = (tch (14 + x0.toNatClampNeg) (x4 - x2).toNatClampNeg) then (bd (x4 + (1 : Int32)) fun v5 =>
some (0, v5, σ))
else (some (1, 0, σ))))
set_option maxHeartbeats 4000000 in
set_option maxRecDepth 100000 in
theorem e_X8_stands_1_h28 {N : Nat} {x0 : Int32} {x2 : Int32} {x3 : Int32} {x4 : Int32} {σ : Sg} {z : Nat × Int32 × Sg} (C : Cx p s m args meth c cX8_stands 5 (some .boolean) RX8 g A X) (hf : s_X8_stands_1_h28 N x0 x2 x3 x4 σ = some z) (k0 : z.1 = 0 → Bk cw p l e rm_X8_stands_1 s m args below meth c 5 g A Q 0 0 28 [(0, .ref (g.2.2 (300 + x0.toNatClampNeg))), (1, .ref (g.2.2 1)), (2, .int x2), (3, .int x3), (4, .int z.2.1)] [] z.2.2) (k : ¬ z.1 = 0 → ((z.1 = 1 → Bk cw p l e rm_X8_stands_1 s m args below meth c 5 g A Q 0 0 63 [] [] z.2.2) ∧ (¬ z.1 = 1 → Bk cw p l e rm_X8_stands_1 s m args below meth c 5 g A Q 0 0 71 [] [] z.2.2))) : Bk cw p l e rm_X8_stands_1 s m args below meth c 5 g A Q 0 0 28 [(0, .ref (g.2.2 (300 + x0.toNatClampNeg))), (1, .ref (g.2.2 1)), (2, .int x2), (3, .int x3), (4, .int x4)] [] σ := by
  obtain ⟨hx, hb, hr, hml, hown, hts, hK, hlocks, hXX, hA, hXo⟩ := id C
  intro H locs ls hP hD hS hl
  unfold s_X8_stands_1_h28 at hf
  refine lv_iload hx hb dX8_stands_28 (lv_at hl 4 rfl) ?_
  refine lv_iload_n hx hb dX8_stands_30 rfl (lv_at hl 3 rfl) ?_
  refine lv_icmp_ge (tgt := 71) hx hb dX8_stands_31 (by decide) (fun t31 => ?_) (fun t31 => ?_)
  · have hf := (if_pos t31).symm.trans hf
    cases hf
    exact ((k (show ¬ (2 : Nat) = 0 by decide)).2 (show ¬ (2 : Nat) = 1 by decide)) H locs ls hP hD hS (lv_sub hl [] rfl)
  · have hf := (if_neg t31).symm.trans hf
    refine lv_iload hx hb dX8_stands_34 (lv_at hl 4 rfl) ?_
    refine lv_aload_n hx hb dX8_stands_36 rfl (lv_at hl 1 rfl) ?_
    refine bk_alen (wf := cw) (q0 := 1) (t0 := 1) (v := (700 : Int32)) C hP rfl rfl (show Int32.ofNat 700 = (700 : Int32) by decide) dX8_stands_37 ?_
    refine lv_icmp_ge (tgt := 71) hx hb dX8_stands_38 (by decide) (fun t38 => ?_) (fun t38 => ?_)
    · have hf := (if_pos t38).symm.trans hf
      cases hf
      exact ((k (show ¬ (2 : Nat) = 0 by decide)).2 (show ¬ (2 : Nat) = 1 by decide)) H locs ls hP hD hS (lv_sub hl [] rfl)
    · have hf := (if_neg t38).symm.trans hf
      refine lv_aload_n hx hb dX8_stands_41 rfl (lv_at hl 1 rfl) ?_
      refine lv_iload hx hb dX8_stands_42 (lv_at hl 4 rfl) ?_
      obtain ⟨g1, hf⟩ := gd_s hf
      refine bk_bald (wf := cw) (q0 := 1) (n := 700) (j := x4.toNatClampNeg) C hP rfl g1 rfl dX8_stands_44 ?_
      refine lv_sipush (v := (255 : Int32)) hx hb dX8_stands_45 (by decide) ?_
      refine lv_iand hx hb dX8_stands_48 ?_
      refine lv_aload_n hx hb dX8_stands_49 rfl (lv_at hl 0 rfl) ?_
      obtain ⟨g2, hf⟩ := gd_s hf
      refine vk_getf (v := .ref (g.2.2 (100 + (14 + x0.toNatClampNeg)))) hx hb ((hXo.2.2.2 _ _ _ hXX).2.2.2.2.2.1.1 _ (vin_n g2)).2.2.1 hS hown (hts _ wa_266) (fun _ h => h) dX8_stands_50 ?_
      refine lv_iload hx hb dX8_stands_53 (lv_at hl 4 rfl) ?_
      refine lv_iload_n hx hb dX8_stands_55 rfl (lv_at hl 2 rfl) ?_
      refine lv_isub hx hb dX8_stands_56 ?_
      obtain ⟨g3, hf⟩ := gd_s hf
      obtain ⟨g4, hf⟩ := gd_s hf
      refine bk_VIr (wf := cw) (rest := [.int ((σ 1 x4.toNatClampNeg) &&& (255 : Int32))]) [.int (x4 - x2)] C hP hD hS hl.1 (c_charAt (Decidable.not_not.mp g3) g4 hXo) (cwA_V 1 hts wa_286 wa_283 wa_284 wa_285 wa_270 rfl rfl nd_J0_charAt_5068e ⟨Nat.le_of_ble_eq_true rfl, Nat.le_of_ble_eq_true rfl⟩) ((hXo.2.2.2 _ _ _ hXX).2.2.2.2.1 _ (Decidable.not_not.mp g3)).1 rfl rfl (Nat.le_of_ble_eq_true rfl) dX8_stands_57 ⟨Nat.le_of_ble_eq_true rfl, Nat.le_of_ble_eq_true rfl⟩ (fun H locs hP hD hS => ?_)
      refine lv_icmp_eq (tgt := 65) hx hb dX8_stands_60 (by decide) (fun t60 => ?_) (fun t60 => ?_)
      · have hf := (if_pos t60).symm.trans hf
        obtain ⟨v5, ev5, hf⟩ := bd_s hf
        refine lv_iinc (v := v5) (lv' := [(4, .int v5), (0, .ref (g.2.2 (300 + x0.toNatClampNeg))), (1, .ref (g.2.2 1)), (2, .int x2), (3, .int x3)]) hx hb dX8_stands_65 hl (k := 4) rfl (by rw [ev5]; rfl) (by decide) rfl (fun ls hl => ?_)
        refine lv_goto (tgt := 28) hx hb dX8_stands_68 (by decide) ?_
        cases hf
        exact k0 rfl H locs ls hP hD hS (lv_sub hl [1, 2, 3, 4, 0] rfl)
      · have hf := (if_neg t60).symm.trans hf
        cases hf
        exact ((k (show ¬ (1 : Nat) = 0 by decide)).1 rfl) H locs ls hP hD hS (lv_sub hl [] rfl)
theorem lp_X8_stands_1_h28 {N : Nat} {n : Nat} {x0 : Int32} {x2 : Int32} {x3 : Int32} {x4 : Int32} {σ : Sg} {z : Nat × Int32 × Sg} (C : Cx p s m args meth c cX8_stands 5 (some .boolean) RX8 g A X) (hz : it (fun q => s_X8_stands_1_h28 N x0 x2 x3 q.1 q.2) n (x4, σ) = some z) (k : ((z.1 = 1 → Bk cw p l e rm_X8_stands_1 s m args below meth c 5 g A Q 0 0 63 [] [] z.2.2) ∧ (¬ z.1 = 1 → Bk cw p l e rm_X8_stands_1 s m args below meth c 5 g A Q 0 0 71 [] [] z.2.2))) : Bk cw p l e rm_X8_stands_1 s m args below meth c 5 g A Q 0 0 28 [(0, .ref (g.2.2 (300 + x0.toNatClampNeg))), (1, .ref (g.2.2 1)), (2, .int x2), (3, .int x3), (4, .int x4)] [] σ :=
  it_W (S := Int32 × Sg) (fun q => Bk cw p l e rm_X8_stands_1 s m args below meth c 5 g A Q 0 0 28 [(0, .ref (g.2.2 (300 + x0.toNatClampNeg))), (1, .ref (g.2.2 1)), (2, .int x2), (3, .int x3), (4, .int q.1)] [] q.2) (fun z => ((z.1 = 1 → Bk cw p l e rm_X8_stands_1 s m args below meth c 5 g A Q 0 0 63 [] [] z.2.2) ∧ (¬ z.1 = 1 → Bk cw p l e rm_X8_stands_1 s m args below meth c 5 g A Q 0 0 71 [] [] z.2.2))) (fun q z hq k0 k => e_X8_stands_1_h28 C hq k0 k) n (x4, σ) z hz k
def f_X8_stands_1_b23 (N : Nat) (σ : Sg) : Option (Int32 × Sg) :=
some ((0 : Int32), σ)
set_option maxHeartbeats 4000000 in
set_option maxRecDepth 100000 in
theorem b_X8_stands_1_b23 {N : Nat} {σ : Sg} {z : Int32 × Sg} (C : Cx p s m args meth c cX8_stands 5 (some .boolean) RX8 g A X) (hf : f_X8_stands_1_b23 N σ = some z) : Bk cw p l e rm_X8_stands_1 s m args below meth c 5 g A (MQ below (qI cw g A z.1 z.2) args s 0 0 A) 0 0 23 [] [] σ := by
  obtain ⟨hx, hb, hr, hml, hown, hts, hK, hlocks, hXX, hA, hXo⟩ := id C
  intro H locs ls hP hD hS hl
  unfold f_X8_stands_1_b23 at hf
  refine lv_iconst (v := (0 : Int32)) hx hb dX8_stands_23 (by decide) ?_
  cases hf
  exact bk_zret C hP hD hS (by decide) rfl dX8_stands_24
def f_X8_stands_1 (N : Nat) (x0 : Int32) (x2 : Int32) (x3 : Int32) (σ : Sg) : Option (Int32 × Sg) :=
if (x0 < 0 ∨ 27 ≤ x0.toNatClampNeg) then none else
if ¬ ((14 + x0.toNatClampNeg) < 41) then none else
if (if nI (tlen (14 + x0.toNatClampNeg)) = 0 then (1 : Int32) else 0) = 0 then (if (x0 < 0 ∨ 27 ≤ x0.toNatClampNeg) then none else
if ¬ ((14 + x0.toNatClampNeg) < 41) then none else
if (nI (tlen (14 + x0.toNatClampNeg))) = (x3 - x2) then ((it (fun q => s_X8_stands_1_h28 N x0 x2 x3 q.1 q.2) N (x2, σ)).bind fun z10 =>
if z10.1 = 1 then (some ((0 : Int32), (z10.2.2)))
else (some ((1 : Int32), (z10.2.2))))
else (f_X8_stands_1_b23 N σ))
else (f_X8_stands_1_b23 N σ)
set_option maxHeartbeats 4000000 in
set_option maxRecDepth 100000 in
theorem b_X8_stands_1 {N : Nat} {x0 : Int32} {x2 : Int32} {x3 : Int32} {σ : Sg} {z : Int32 × Sg} (C : Cx p s m args meth c cX8_stands 5 (some .boolean) RX8 g A X) (hf : f_X8_stands_1 N x0 x2 x3 σ = some z) : Bk cw p l e rm_X8_stands_1 s m args below meth c 5 g A (MQ below (qI cw g A z.1 z.2) args s 0 0 A) 0 0 0 [(0, .ref (g.2.2 (300 + x0.toNatClampNeg))), (1, .ref (g.2.2 1)), (2, .int x2), (3, .int x3)] [] σ := by
  obtain ⟨hx, hb, hr, hml, hown, hts, hK, hlocks, hXX, hA, hXo⟩ := id C
  intro H locs ls hP hD hS hl
  unfold f_X8_stands_1 at hf
  refine lv_aload_n hx hb dX8_stands_0 rfl (lv_at hl 0 rfl) ?_
  obtain ⟨g6, hf⟩ := gd_s hf
  refine vk_getf (v := .ref (g.2.2 (100 + (14 + x0.toNatClampNeg)))) hx hb ((hXo.2.2.2 _ _ _ hXX).2.2.2.2.2.1.1 _ (vin_n g6)).2.2.1 hS hown (hts _ wa_266) (fun _ h => h) dX8_stands_1 ?_
  obtain ⟨g7, hf⟩ := gd_s hf
  refine bk_VIr (wf := cw) (rest := []) [] C hP hD hS hl.1 (c_isEmpty (Decidable.not_not.mp g7) hXo) (cwA_V 0 hts wa_271 wa_267 wa_268 wa_269 wa_270 rfl rfl nd_J0_isEmpty_aae02 ⟨Nat.le_of_ble_eq_true rfl, Nat.le_of_ble_eq_true rfl⟩) ((hXo.2.2.2 _ _ _ hXX).2.2.2.2.1 _ (Decidable.not_not.mp g7)).1 rfl rfl (Nat.le_of_ble_eq_true rfl) dX8_stands_4 ⟨Nat.le_of_ble_eq_true rfl, Nat.le_of_ble_eq_true rfl⟩ (fun H locs hP hD hS => ?_)
  refine lv_if_ne (tgt := 23) hx hb dX8_stands_7 (by decide) (fun t7 => ?_) (fun t7 => ?_)
  · have hf := (if_neg t7).symm.trans hf
    exact b_X8_stands_1_b23 C hf H locs ls hP hD hS (lv_sub hl [] rfl)
  · have hf := (if_pos t7).symm.trans hf
    refine lv_aload_n hx hb dX8_stands_10 rfl (lv_at hl 0 rfl) ?_
    obtain ⟨g8, hf⟩ := gd_s hf
    refine vk_getf (v := .ref (g.2.2 (100 + (14 + x0.toNatClampNeg)))) hx hb ((hXo.2.2.2 _ _ _ hXX).2.2.2.2.2.1.1 _ (vin_n g8)).2.2.1 hS hown (hts _ wa_266) (fun _ h => h) dX8_stands_11 ?_
    obtain ⟨g9, hf⟩ := gd_s hf
    refine bk_VIr (wf := cw) (rest := []) [] C hP hD hS hl.1 (c_length (Decidable.not_not.mp g9) hXo) (cwA_V 0 hts wa_276 wa_273 wa_274 wa_275 wa_270 rfl rfl nd_J0_length_8abf5 ⟨Nat.le_of_ble_eq_true rfl, Nat.le_of_ble_eq_true rfl⟩) ((hXo.2.2.2 _ _ _ hXX).2.2.2.2.1 _ (Decidable.not_not.mp g9)).1 rfl rfl (Nat.le_of_ble_eq_true rfl) dX8_stands_14 ⟨Nat.le_of_ble_eq_true rfl, Nat.le_of_ble_eq_true rfl⟩ (fun H locs hP hD hS => ?_)
    refine lv_iload_n hx hb dX8_stands_17 rfl (lv_at hl 3 rfl) ?_
    refine lv_iload_n hx hb dX8_stands_18 rfl (lv_at hl 2 rfl) ?_
    refine lv_isub hx hb dX8_stands_19 ?_
    refine lv_icmp_eq (tgt := 25) hx hb dX8_stands_20 (by decide) (fun t20 => ?_) (fun t20 => ?_)
    · have hf := (if_pos t20).symm.trans hf
      refine lv_iload_n hx hb dX8_stands_25 rfl (lv_at hl 2 rfl) ?_
      refine lv_istore (lv' := [(4, .int x2), (0, .ref (g.2.2 (300 + x0.toNatClampNeg))), (1, .ref (g.2.2 1)), (2, .int x2), (3, .int x3)]) hx hb dX8_stands_26 hl (by decide) rfl (fun ls hl => ?_)
      obtain ⟨z10, hz10, hf⟩ := bi_s hf
      refine lp_X8_stands_1_h28 C hz10 ⟨fun t0 => ?_, fun t0 => ?_⟩ H locs ls hP hD hS (lv_sub hl [1, 2, 3, 4, 0] rfl)
      · have hf := (if_pos t0).symm.trans hf
        intro H locs ls hP hD hS hl
        refine lv_iconst (v := (0 : Int32)) hx hb dX8_stands_63 (by decide) ?_
        cases hf
        exact bk_zret C hP hD hS (by decide) rfl dX8_stands_64
      · have hf := (if_neg t0).symm.trans hf
        intro H locs ls hP hD hS hl
        refine lv_iconst (v := (1 : Int32)) hx hb dX8_stands_71 (by decide) ?_
        cases hf
        exact bk_zret C hP hD hS (by decide) rfl dX8_stands_72
    · have hf := (if_neg t20).symm.trans hf
      exact b_X8_stands_1_b23 C hf H locs ls hP hD hS (lv_sub hl [] rfl)
theorem c_X8_stands_1 {N : Nat} {x0 : Int32} {x2 : Int32} {x3 : Int32} {σ : Sg} {z : Int32 × Sg} (hX : xOK g X) (hf : f_X8_stands_1 N x0 x2 x3 σ = some z) : MetI l yX8_stands (Cond.code yX8_stands cX8_stands 5 (some .boolean) :: wsA) rm_X8_stands_1 cw g X [.ref (g.2.2 (300 + x0.toNatClampNeg)), .ref (g.2.2 1), .int x2, .int x3] σ z.1 z.2 :=
  MetI_of hX (by decide) (Nat.le_of_ble_eq_true rfl) (fun p e s m args below meth c A C => b_X8_stands_1 C hf)
-- X3_isLetter_2: isLetter(I)Z
abbrev rm_X3_isLetter_2 : Room := { frames := 0, cells := 0, slots := 0, locals := 0 }
theorem nd_X3_isLetter : yX3_isLetter.cls ≠ "java/lang/invoke/MethodHandle" ∧ yX3_isLetter.cls ≠ "java/lang/invoke/VarHandle" ∧ (parseMethodDescriptor yX3_isLetter.desc).map (fun d => d.parameters.length) = some 1 := by decide +kernel
def f_X3_isLetter_2_b26 (N : Nat) (σ : Sg) : Option (Int32 × Sg) :=
some ((0 : Int32), σ)
set_option maxHeartbeats 4000000 in
set_option maxRecDepth 100000 in
theorem b_X3_isLetter_2_b26 {N : Nat} {σ : Sg} {z : Int32 × Sg} (C : Cx p s m args meth c cX3_isLetter 2 (some .boolean) RX3 g A X) (hf : f_X3_isLetter_2_b26 N σ = some z) : Bk cw p l e rm_X3_isLetter_2 s m args below meth c 2 g A (MQ below (qI cw g A z.1 z.2) args s 0 0 A) 0 0 26 [] [] σ := by
  obtain ⟨hx, hb, hr, hml, hown, hts, hK, hlocks, hXX, hA, hXo⟩ := id C
  intro H locs ls hP hD hS hl
  unfold f_X3_isLetter_2_b26 at hf
  refine lv_iconst (v := (0 : Int32)) hx hb dX3_isLetter_26 (by decide) ?_
  cases hf
  exact bk_zret C hP hD hS (by decide) rfl dX3_isLetter_27
def f_X3_isLetter_2 (N : Nat) (x1 : Int32) (σ : Sg) : Option (Int32 × Sg) :=
if (x1 < 0 ∨ 700 ≤ x1.toNatClampNeg) then none else
if (σ 1 x1.toNatClampNeg) < (97 : Int32) then (f_X3_isLetter_2_b26 N σ)
else (if (x1 < 0 ∨ 700 ≤ x1.toNatClampNeg) then none else
if (122 : Int32) < (σ 1 x1.toNatClampNeg) then (f_X3_isLetter_2_b26 N σ)
else (some ((1 : Int32), σ)))
set_option maxHeartbeats 4000000 in
set_option maxRecDepth 100000 in
theorem b_X3_isLetter_2 {N : Nat} {x1 : Int32} {σ : Sg} {z : Int32 × Sg} (C : Cx p s m args meth c cX3_isLetter 2 (some .boolean) RX3 g A X) (hf : f_X3_isLetter_2 N x1 σ = some z) : Bk cw p l e rm_X3_isLetter_2 s m args below meth c 2 g A (MQ below (qI cw g A z.1 z.2) args s 0 0 A) 0 0 0 [(0, .ref (g.2.2 2)), (1, .int x1)] [] σ := by
  obtain ⟨hx, hb, hr, hml, hown, hts, hK, hlocks, hXX, hA, hXo⟩ := id C
  intro H locs ls hP hD hS hl
  unfold f_X3_isLetter_2 at hf
  refine lv_aload_n hx hb dX3_isLetter_0 rfl (lv_at hl 0 rfl) ?_
  refine bk_get (wf := cw) (q0 := 2) (ci := 3) (k := 3) (v := .ref (g.2.2 1)) C hP wl_X3 rfl rfl (by decide) wa_64 rfl rfl dX3_isLetter_1 ?_
  refine lv_iload_n hx hb dX3_isLetter_4 rfl (lv_at hl 1 rfl) ?_
  obtain ⟨g1, hf⟩ := gd_s hf
  refine bk_bald (wf := cw) (q0 := 1) (n := 700) (j := x1.toNatClampNeg) C hP rfl g1 rfl dX3_isLetter_5 ?_
  refine lv_bipush (v := (97 : Int32)) hx hb dX3_isLetter_6 (by decide) ?_
  refine lv_icmp_lt (tgt := 26) hx hb dX3_isLetter_8 (by decide) (fun t8 => ?_) (fun t8 => ?_)
  · have hf := (if_pos t8).symm.trans hf
    exact b_X3_isLetter_2_b26 C hf H locs ls hP hD hS (lv_sub hl [] rfl)
  · have hf := (if_neg t8).symm.trans hf
    refine lv_aload_n hx hb dX3_isLetter_11 rfl (lv_at hl 0 rfl) ?_
    refine bk_get (wf := cw) (q0 := 2) (ci := 3) (k := 3) (v := .ref (g.2.2 1)) C hP wl_X3 rfl rfl (by decide) wa_64 rfl rfl dX3_isLetter_12 ?_
    refine lv_iload_n hx hb dX3_isLetter_15 rfl (lv_at hl 1 rfl) ?_
    obtain ⟨g2, hf⟩ := gd_s hf
    refine bk_bald (wf := cw) (q0 := 1) (n := 700) (j := x1.toNatClampNeg) C hP rfl g2 rfl dX3_isLetter_16 ?_
    refine lv_bipush (v := (122 : Int32)) hx hb dX3_isLetter_17 (by decide) ?_
    refine lv_icmp_gt (tgt := 26) hx hb dX3_isLetter_19 (by decide) (fun t19 => ?_) (fun t19 => ?_)
    · have hf := (if_pos t19).symm.trans hf
      exact b_X3_isLetter_2_b26 C hf H locs ls hP hD hS (lv_sub hl [] rfl)
    · have hf := (if_neg t19).symm.trans hf
      refine lv_iconst (v := (1 : Int32)) hx hb dX3_isLetter_22 (by decide) ?_
      refine lv_goto (tgt := 27) hx hb dX3_isLetter_23 (by decide) ?_
      cases hf
      exact bk_zret C hP hD hS (by decide) rfl dX3_isLetter_27
theorem c_X3_isLetter_2 {N : Nat} {x1 : Int32} {σ : Sg} {z : Int32 × Sg} (hX : xOK g X) (hf : f_X3_isLetter_2 N x1 σ = some z) : MetI l yX3_isLetter (Cond.code yX3_isLetter cX3_isLetter 2 (some .boolean) :: wsA) rm_X3_isLetter_2 cw g X [.ref (g.2.2 2), .int x1] σ z.1 z.2 :=
  MetI_of hX (by decide) (Nat.le_of_ble_eq_true rfl) (fun p e s m args below meth c A C => b_X3_isLetter_2 C hf)
-- X3_takeName_2: takeName()V
abbrev rm_X3_takeName_2 : Room := { frames := 5, cells := 0, slots := 0, locals := 109 }
theorem nd_X3_takeName : yX3_takeName.cls ≠ "java/lang/invoke/MethodHandle" ∧ yX3_takeName.cls ≠ "java/lang/invoke/VarHandle" ∧ (parseMethodDescriptor yX3_takeName.desc).map (fun d => d.parameters.length) = some 0 := by decide +kernel
def f_X3_takeName_2_b114 (N : Nat) (x1 : Int32) (σ : Sg) : Option (Nat × Int32 × Sg) :=
bd (x1 + (1 : Int32)) fun v1 =>
some (0, v1, σ)
set_option maxHeartbeats 4000000 in
set_option maxRecDepth 100000 in
theorem b_X3_takeName_2_b114 {N : Nat} {x1 : Int32} {σ : Sg} {z : Nat × Int32 × Sg} (C : Cx p s m args meth c cX3_takeName 2 none RX3 g A X) (hf : f_X3_takeName_2_b114 N x1 σ = some z) (k0 : z.1 = 0 → Bk cw p l e rm_X3_takeName_2 s m args below meth c 2 g A Q 0 0 74 [(0, .ref (g.2.2 2)), (1, .int z.2.1)] [] z.2.2) (k : ¬ z.1 = 0 → Bk cw p l e rm_X3_takeName_2 s m args below meth c 2 g A Q 0 0 120 [] [] z.2.2) : Bk cw p l e rm_X3_takeName_2 s m args below meth c 2 g A Q 0 0 114 [(0, .ref (g.2.2 2)), (1, .int x1)] [] σ := by
  obtain ⟨hx, hb, hr, hml, hown, hts, hK, hlocks, hXX, hA, hXo⟩ := id C
  intro H locs ls hP hD hS hl
  unfold f_X3_takeName_2_b114 at hf
  obtain ⟨v1, ev1, hf⟩ := bd_s hf
  refine lv_iinc (v := v1) (lv' := [(1, .int v1), (0, .ref (g.2.2 2))]) hx hb dX3_takeName_114 hl (k := 1) rfl (by rw [ev1]; rfl) (by decide) rfl (fun ls hl => ?_)
  refine lv_goto (tgt := 74) hx hb dX3_takeName_117 (by decide) ?_
  cases hf
  exact k0 rfl H locs ls hP hD hS (lv_sub hl [1, 0] rfl)
def s_X3_takeName_2_h74 (N : Nat) (x1 : Int32) (σ : Sg) : Option (Nat × Int32 × Sg) :=
if (27 : Int32) ≤ x1 then (some (1, 0, σ))
else (if (x1 < 0 ∨ 27 ≤ x1.toNatClampNeg) then none else
if (x1 < 0 ∨ 27 ≤ x1.toNatClampNeg) then none else
(f_X8_stands_1 N x1 (σ 2 6) (σ 2 7) σ).bind fun q4 =>
if q4.1 = 0 then (f_X3_takeName_2_b114 N x1 (q4.2))
else (if (x1 < 0 ∨ 27 ≤ x1.toNatClampNeg) then none else
bd (wr (q4.2) 2 5 x1) fun σ6 =>
f_X3_takeName_2_b114 N x1 σ6))
set_option maxHeartbeats 4000000 in
set_option maxRecDepth 100000 in
theorem e_X3_takeName_2_h74 {N : Nat} {x1 : Int32} {σ : Sg} {z : Nat × Int32 × Sg} (C : Cx p s m args meth c cX3_takeName 2 none RX3 g A X) (hf : s_X3_takeName_2_h74 N x1 σ = some z) (k0 : z.1 = 0 → Bk cw p l e rm_X3_takeName_2 s m args below meth c 2 g A Q 0 0 74 [(0, .ref (g.2.2 2)), (1, .int z.2.1)] [] z.2.2) (k : ¬ z.1 = 0 → Bk cw p l e rm_X3_takeName_2 s m args below meth c 2 g A Q 0 0 120 [] [] z.2.2) : Bk cw p l e rm_X3_takeName_2 s m args below meth c 2 g A Q 0 0 74 [(0, .ref (g.2.2 2)), (1, .int x1)] [] σ := by
  obtain ⟨hx, hb, hr, hml, hown, hts, hK, hlocks, hXX, hA, hXo⟩ := id C
  intro H locs ls hP hD hS hl
  unfold s_X3_takeName_2_h74 at hf
  refine lv_iload_n hx hb dX3_takeName_74 rfl (lv_at hl 1 rfl) ?_
  refine va_getsN (v := .ref (g.2.2 330)) hx hb (hXo.2.2.2 _ _ _ hXX).2.2.2.2.2.1.2.1 hS hown (va_Nw.use rfl (hXo.2.2.2 _ _ _ hXX).2.2.2.2.2.2.2.2.1) (fun _ h => h) dX3_takeName_75 ?_
  refine va_tlen (v := (27 : Int32)) hx hb (hXo.2.2.2 _ _ _ hXX).2.2.2.2.2.1.2.2.1 hS (by decide) dX3_takeName_78 ?_
  refine lv_icmp_ge (tgt := 120) hx hb dX3_takeName_79 (by decide) (fun t79 => ?_) (fun t79 => ?_)
  · have hf := (if_pos t79).symm.trans hf
    cases hf
    exact (k (show ¬ (1 : Nat) = 0 by decide)) H locs ls hP hD hS (lv_sub hl [] rfl)
  · have hf := (if_neg t79).symm.trans hf
    refine va_getsN (v := .ref (g.2.2 330)) hx hb (hXo.2.2.2 _ _ _ hXX).2.2.2.2.2.1.2.1 hS hown (va_Nw.use rfl (hXo.2.2.2 _ _ _ hXX).2.2.2.2.2.2.2.2.1) (fun _ h => h) dX3_takeName_82 ?_
    refine lv_iload_n hx hb dX3_takeName_85 rfl (lv_at hl 1 rfl) ?_
    obtain ⟨g2, hf⟩ := gd_s hf
    refine vb_tq (v := .ref (g.2.2 (300 + x1.toNatClampNeg))) hx hb (hXo.2.2.2 _ _ _ hXX).2.2.2.2.2.1.2.2.1 hS g2 rfl dX3_takeName_86 ?_
    refine lv_aload_n hx hb dX3_takeName_87 rfl (lv_at hl 0 rfl) ?_
    refine bk_get (wf := cw) (q0 := 2) (ci := 3) (k := 3) (v := .ref (g.2.2 1)) C hP wl_X3 rfl rfl (by decide) wa_64 rfl rfl dX3_takeName_88 ?_
    refine lv_aload_n hx hb dX3_takeName_91 rfl (lv_at hl 0 rfl) ?_
    refine bk_get (wf := cw) (q0 := 2) (ci := 3) (k := 6) (v := .int (σ 2 6)) C hP wl_X3 rfl rfl (by decide) wa_57 rfl rfl dX3_takeName_92 ?_
    refine lv_aload_n hx hb dX3_takeName_95 rfl (lv_at hl 0 rfl) ?_
    refine bk_get (wf := cw) (q0 := 2) (ci := 3) (k := 7) (v := .int (σ 2 7)) C hP wl_X3 rfl rfl (by decide) wa_58 rfl rfl dX3_takeName_96 ?_
    obtain ⟨g3, hf⟩ := gd_s hf
    obtain ⟨q4, hq4, hf⟩ := bi_s hf
    refine bk_VIr (wf := cw) (rest := []) [.ref (g.2.2 1), .int (σ 2 6), .int (σ 2 7)] C hP hD hS hl.1 (c_X8_stands_1 hXo hq4) (cwA_V 3 hts wa_265 wa_261 wa_262 wa_263 wa_264 rfl rfl nd_X8_stands ⟨Nat.le_of_ble_eq_true rfl, Nat.le_of_ble_eq_true rfl⟩) ((hXo.2.2.2 _ _ _ hXX).2.2.2.2.2.1.1 _ (vin_n g3)).2.1 rfl rfl (Nat.le_of_ble_eq_true rfl) dX3_takeName_99 ⟨Nat.le_of_ble_eq_true rfl, Nat.le_of_ble_eq_true rfl⟩ (fun H locs hP hD hS => ?_)
    refine lv_if_eq (tgt := 114) hx hb dX3_takeName_102 (by decide) (fun t102 => ?_) (fun t102 => ?_)
    · have hf := (if_pos t102).symm.trans hf
      exact b_X3_takeName_2_b114 C hf k0 k H locs ls hP hD hS (lv_sub hl [0, 1] rfl)
    · have hf := (if_neg t102).symm.trans hf
      refine lv_aload_n hx hb dX3_takeName_105 rfl (lv_at hl 0 rfl) ?_
      refine va_getsN (v := .ref (g.2.2 330)) hx hb (hXo.2.2.2 _ _ _ hXX).2.2.2.2.2.1.2.1 hS hown (va_Nw.use rfl (hXo.2.2.2 _ _ _ hXX).2.2.2.2.2.2.2.2.1) (fun _ h => h) dX3_takeName_106 ?_
      refine lv_iload_n hx hb dX3_takeName_109 rfl (lv_at hl 1 rfl) ?_
      obtain ⟨g5, hf⟩ := gd_s hf
      refine vb_tq (v := .ref (g.2.2 (300 + x1.toNatClampNeg))) hx hb (hXo.2.2.2 _ _ _ hXX).2.2.2.2.2.1.2.2.1 hS g5 rfl dX3_takeName_110 ?_
      obtain ⟨σ6, eσ6, hf⟩ := bd_s hf
      refine bk_put (wf := cw) (σ1 := σ6) (q0 := 2) (ci := 3) (k := 5) (v := .ref (g.2.2 (300 + x1.toNatClampNeg))) C hP hD hS wl_X3 tyX3_ok nmX3 rfl rfl (by decide) wa_56 rfl rfl rfl rfl rfl (Nat.le_of_ble_eq_true rfl) (by rw [eσ6]; exact cw_p2_5 g _ _) dX3_takeName_111 (fun H locs hP hD hS => ?_)
      exact b_X3_takeName_2_b114 C hf k0 k H locs ls hP hD hS (lv_sub hl [0, 1] rfl)
theorem lp_X3_takeName_2_h74 {N : Nat} {n : Nat} {x1 : Int32} {σ : Sg} {z : Nat × Int32 × Sg} (C : Cx p s m args meth c cX3_takeName 2 none RX3 g A X) (hz : it (fun q => s_X3_takeName_2_h74 N q.1 q.2) n (x1, σ) = some z) (k : Bk cw p l e rm_X3_takeName_2 s m args below meth c 2 g A Q 0 0 120 [] [] z.2.2) : Bk cw p l e rm_X3_takeName_2 s m args below meth c 2 g A Q 0 0 74 [(0, .ref (g.2.2 2)), (1, .int x1)] [] σ :=
  it_W (S := Int32 × Sg) (fun q => Bk cw p l e rm_X3_takeName_2 s m args below meth c 2 g A Q 0 0 74 [(0, .ref (g.2.2 2)), (1, .int q.1)] [] q.2) (fun z => Bk cw p l e rm_X3_takeName_2 s m args below meth c 2 g A Q 0 0 120 [] [] z.2.2) (fun q z hq k0 k => e_X3_takeName_2_h74 C hq k0 k) n (x1, σ) z hz k
def s_X3_takeName_2_h10 (N : Nat) (σ : Sg) : Option (Nat × Sg) :=
if (σ 2 8) = 0 then (some (1, σ))
else (if (σ 2 4) ≤ (σ 2 7) then (some (1, σ))
else ((f_X3_isLetter_2 N (σ 2 7) σ).bind fun q7 =>
if q7.1 = 0 then (some (1, (q7.2)))
else (bd (wr (q7.2) 2 7 (((q7.2) 2 7) + (1 : Int32))) fun σ8 =>
some (0, σ8))))
set_option maxHeartbeats 4000000 in
set_option maxRecDepth 100000 in
theorem e_X3_takeName_2_h10 {N : Nat} {σ : Sg} {z : Nat × Sg} (C : Cx p s m args meth c cX3_takeName 2 none RX3 g A X) (hf : s_X3_takeName_2_h10 N σ = some z) (k0 : z.1 = 0 → Bk cw p l e rm_X3_takeName_2 s m args below meth c 2 g A Q 0 0 10 [(0, .ref (g.2.2 2))] [] z.2) (k : ¬ z.1 = 0 → Bk cw p l e rm_X3_takeName_2 s m args below meth c 2 g A Q 0 0 52 [(0, .ref (g.2.2 2))] [] z.2) : Bk cw p l e rm_X3_takeName_2 s m args below meth c 2 g A Q 0 0 10 [(0, .ref (g.2.2 2))] [] σ := by
  obtain ⟨hx, hb, hr, hml, hown, hts, hK, hlocks, hXX, hA, hXo⟩ := id C
  intro H locs ls hP hD hS hl
  unfold s_X3_takeName_2_h10 at hf
  refine lv_aload_n hx hb dX3_takeName_10 rfl (lv_at hl 0 rfl) ?_
  refine bk_get (wf := cw) (q0 := 2) (ci := 3) (k := 8) (v := .int (σ 2 8)) C hP wl_X3 rfl rfl (by decide) wa_59 rfl rfl dX3_takeName_11 ?_
  refine lv_if_eq (tgt := 52) hx hb dX3_takeName_14 (by decide) (fun t14 => ?_) (fun t14 => ?_)
  · have hf := (if_pos t14).symm.trans hf
    cases hf
    exact (k (show ¬ (1 : Nat) = 0 by decide)) H locs ls hP hD hS (lv_sub hl [0] rfl)
  · have hf := (if_neg t14).symm.trans hf
    refine lv_aload_n hx hb dX3_takeName_17 rfl (lv_at hl 0 rfl) ?_
    refine bk_get (wf := cw) (q0 := 2) (ci := 3) (k := 7) (v := .int (σ 2 7)) C hP wl_X3 rfl rfl (by decide) wa_58 rfl rfl dX3_takeName_18 ?_
    refine lv_aload_n hx hb dX3_takeName_21 rfl (lv_at hl 0 rfl) ?_
    refine bk_get (wf := cw) (q0 := 2) (ci := 3) (k := 4) (v := .int (σ 2 4)) C hP wl_X3 rfl rfl (by decide) wa_54 rfl rfl dX3_takeName_22 ?_
    refine lv_icmp_ge (tgt := 52) hx hb dX3_takeName_25 (by decide) (fun t25 => ?_) (fun t25 => ?_)
    · have hf := (if_pos t25).symm.trans hf
      cases hf
      exact (k (show ¬ (1 : Nat) = 0 by decide)) H locs ls hP hD hS (lv_sub hl [0] rfl)
    · have hf := (if_neg t25).symm.trans hf
      refine lv_aload_n hx hb dX3_takeName_28 rfl (lv_at hl 0 rfl) ?_
      refine lv_aload_n hx hb dX3_takeName_29 rfl (lv_at hl 0 rfl) ?_
      refine bk_get (wf := cw) (q0 := 2) (ci := 3) (k := 7) (v := .int (σ 2 7)) C hP wl_X3 rfl rfl (by decide) wa_58 rfl rfl dX3_takeName_30 ?_
      obtain ⟨q7, hq7, hf⟩ := bi_s hf
      refine bk_VI (wf := cw) (q0 := 2) (ci := 3) (rest := []) [.int (σ 2 7)] C hP hD hS hl.1 (c_X3_isLetter_2 hXo hq7) (cwA_V 1 hts wa_245 wa_242 wa_243 wa_244 wa_18 rfl rfl nd_X3_isLetter ⟨Nat.le_of_ble_eq_true rfl, Nat.le_of_ble_eq_true rfl⟩) rfl rfl rfl rfl (Nat.le_of_ble_eq_true rfl) dX3_takeName_33 ⟨Nat.le_of_ble_eq_true rfl, Nat.le_of_ble_eq_true rfl⟩ (fun H locs hP hD hS => ?_)
      refine lv_if_eq (tgt := 52) hx hb dX3_takeName_36 (by decide) (fun t36 => ?_) (fun t36 => ?_)
      · have hf := (if_pos t36).symm.trans hf
        cases hf
        exact (k (show ¬ (1 : Nat) = 0 by decide)) H locs ls hP hD hS (lv_sub hl [0] rfl)
      · have hf := (if_neg t36).symm.trans hf
        refine lv_aload_n hx hb dX3_takeName_39 rfl (lv_at hl 0 rfl) ?_
        refine lv_dup hx hb dX3_takeName_40 rfl ?_
        refine bk_get (wf := cw) (q0 := 2) (ci := 3) (k := 7) (v := .int ((q7.2) 2 7)) C hP wl_X3 rfl rfl (by decide) wa_58 rfl rfl dX3_takeName_41 ?_
        refine lv_iconst (v := (1 : Int32)) hx hb dX3_takeName_44 (by decide) ?_
        refine lv_iadd hx hb dX3_takeName_45 ?_
        obtain ⟨σ8, eσ8, hf⟩ := bd_s hf
        refine bk_put (wf := cw) (σ1 := σ8) (q0 := 2) (ci := 3) (k := 7) (v := .int (((q7.2) 2 7) + (1 : Int32))) C hP hD hS wl_X3 tyX3_ok nmX3 rfl rfl (by decide) wa_58 rfl rfl rfl rfl rfl (Nat.le_of_ble_eq_true rfl) (by rw [eσ8]; exact cw_p2_7 g _ _) dX3_takeName_46 (fun H locs hP hD hS => ?_)
        refine lv_goto (tgt := 10) hx hb dX3_takeName_49 (by decide) ?_
        cases hf
        exact k0 rfl H locs ls hP hD hS (lv_sub hl [0] rfl)
theorem lp_X3_takeName_2_h10 {N : Nat} {n : Nat} {σ : Sg} {z : Nat × Sg} (C : Cx p s m args meth c cX3_takeName 2 none RX3 g A X) (hz : it (fun q => s_X3_takeName_2_h10 N q) n (σ) = some z) (k : Bk cw p l e rm_X3_takeName_2 s m args below meth c 2 g A Q 0 0 52 [(0, .ref (g.2.2 2))] [] z.2) : Bk cw p l e rm_X3_takeName_2 s m args below meth c 2 g A Q 0 0 10 [(0, .ref (g.2.2 2))] [] σ :=
  it_W (S := Sg) (fun q => Bk cw p l e rm_X3_takeName_2 s m args below meth c 2 g A Q 0 0 10 [(0, .ref (g.2.2 2))] [] q) (fun z => Bk cw p l e rm_X3_takeName_2 s m args below meth c 2 g A Q 0 0 52 [(0, .ref (g.2.2 2))] [] z.2) (fun q z hq k0 k => e_X3_takeName_2_h10 C hq k0 k) n (σ) z hz k
def f_X3_takeName_2_b69 (N : Nat) (t1 : Int32) (σ : Sg) : Option (Sg) :=
bd (wr σ 2 5 t1) fun σ9 =>
(it (fun q => s_X3_takeName_2_h74 N q.1 q.2) N ((0 : Int32), σ9)).bind fun z10 =>
some (z10.2.2)
set_option maxHeartbeats 4000000 in
set_option maxRecDepth 100000 in
theorem b_X3_takeName_2_b69 {N : Nat} {t1 : Int32} {σ : Sg} {z : Sg} (C : Cx p s m args meth c cX3_takeName 2 none RX3 g A X) (hf : f_X3_takeName_2_b69 N t1 σ = some z) : Bk cw p l e rm_X3_takeName_2 s m args below meth c 2 g A (MQ below (qV cw g A z) args s 0 0 A) 0 0 69 [(0, .ref (g.2.2 2))] [.ref (g.2.2 (300 + t1.toNatClampNeg)), .ref (g.2.2 2)] σ := by
  obtain ⟨hx, hb, hr, hml, hown, hts, hK, hlocks, hXX, hA, hXo⟩ := id C
  intro H locs ls hP hD hS hl
  unfold f_X3_takeName_2_b69 at hf
  obtain ⟨σ9, eσ9, hf⟩ := bd_s hf
  refine bk_put (wf := cw) (σ1 := σ9) (q0 := 2) (ci := 3) (k := 5) (v := .ref (g.2.2 (300 + t1.toNatClampNeg))) C hP hD hS wl_X3 tyX3_ok nmX3 rfl rfl (by decide) wa_56 rfl rfl rfl rfl rfl (Nat.le_of_ble_eq_true rfl) (by rw [eσ9]; exact cw_p2_5 g _ _) dX3_takeName_69 (fun H locs hP hD hS => ?_)
  refine lv_iconst (v := (0 : Int32)) hx hb dX3_takeName_72 (by decide) ?_
  refine lv_istore_n (lv' := [(1, .int (0 : Int32)), (0, .ref (g.2.2 2))]) hx hb dX3_takeName_73 rfl hl (by decide) rfl (fun ls hl => ?_)
  obtain ⟨z10, hz10, hf⟩ := bi_s hf
  refine lp_X3_takeName_2_h74 C hz10 ?_ H locs ls hP hD hS (lv_sub hl [1, 0] rfl)
  intro H locs ls hP hD hS hl
  cases hf
  exact bk_vret C hP hD hS rfl dX3_takeName_120
def f_X3_takeName_2 (N : Nat) (σ : Sg) : Option (Sg) :=
bd (wr σ 2 7 ((σ 2 6) + (1 : Int32))) fun σ11 =>
(it (fun q => s_X3_takeName_2_h10 N q) N (σ11)).bind fun z12 =>
if ((z12.2) 2 8) = 0 then (f_X3_takeName_2_b69 N (1 : Int32) (z12.2))
else (f_X3_takeName_2_b69 N (3 : Int32) (z12.2))
set_option maxHeartbeats 4000000 in
set_option maxRecDepth 100000 in
theorem b_X3_takeName_2 {N : Nat} {σ : Sg} {z : Sg} (C : Cx p s m args meth c cX3_takeName 2 none RX3 g A X) (hf : f_X3_takeName_2 N σ = some z) : Bk cw p l e rm_X3_takeName_2 s m args below meth c 2 g A (MQ below (qV cw g A z) args s 0 0 A) 0 0 0 [(0, .ref (g.2.2 2))] [] σ := by
  obtain ⟨hx, hb, hr, hml, hown, hts, hK, hlocks, hXX, hA, hXo⟩ := id C
  intro H locs ls hP hD hS hl
  unfold f_X3_takeName_2 at hf
  refine lv_aload_n hx hb dX3_takeName_0 rfl (lv_at hl 0 rfl) ?_
  refine lv_aload_n hx hb dX3_takeName_1 rfl (lv_at hl 0 rfl) ?_
  refine bk_get (wf := cw) (q0 := 2) (ci := 3) (k := 6) (v := .int (σ 2 6)) C hP wl_X3 rfl rfl (by decide) wa_57 rfl rfl dX3_takeName_2 ?_
  refine lv_iconst (v := (1 : Int32)) hx hb dX3_takeName_5 (by decide) ?_
  refine lv_iadd hx hb dX3_takeName_6 ?_
  obtain ⟨σ11, eσ11, hf⟩ := bd_s hf
  refine bk_put (wf := cw) (σ1 := σ11) (q0 := 2) (ci := 3) (k := 7) (v := .int ((σ 2 6) + (1 : Int32))) C hP hD hS wl_X3 tyX3_ok nmX3 rfl rfl (by decide) wa_58 rfl rfl rfl rfl rfl (Nat.le_of_ble_eq_true rfl) (by rw [eσ11]; exact cw_p2_7 g _ _) dX3_takeName_7 (fun H locs hP hD hS => ?_)
  obtain ⟨z12, hz12, hf⟩ := bi_s hf
  refine lp_X3_takeName_2_h10 C hz12 ?_ H locs ls hP hD hS (lv_sub hl [0] rfl)
  intro H locs ls hP hD hS hl
  refine lv_aload_n hx hb dX3_takeName_52 rfl (lv_at hl 0 rfl) ?_
  refine lv_aload_n hx hb dX3_takeName_53 rfl (lv_at hl 0 rfl) ?_
  refine bk_get (wf := cw) (q0 := 2) (ci := 3) (k := 8) (v := .int ((z12.2) 2 8)) C hP wl_X3 rfl rfl (by decide) wa_59 rfl rfl dX3_takeName_54 ?_
  refine lv_if_eq (tgt := 66) hx hb dX3_takeName_57 (by decide) (fun t57 => ?_) (fun t57 => ?_)
  · have hf := (if_pos t57).symm.trans hf
    refine va_gets (v := .ref (g.2.2 (300 + (1 : Int32).toNatClampNeg))) hx hb (tok_Z (hXo.2.2.2 _ _ _ hXX).2.2.2.2.2.1 1 "BAD" (by decide) (by decide) rfl) hS hown (hts _ wa_260) (fun _ h => h) dX3_takeName_66 ?_
    exact b_X3_takeName_2_b69 C hf H locs ls hP hD hS (lv_sub hl [0] rfl)
  · have hf := (if_neg t57).symm.trans hf
    refine va_gets (v := .ref (g.2.2 (300 + (3 : Int32).toNatClampNeg))) hx hb (tok_Z (hXo.2.2.2 _ _ _ hXX).2.2.2.2.2.1 3 "WORD" (by decide) (by decide) rfl) hS hown (hts _ wa_259) (fun _ h => h) dX3_takeName_60 ?_
    refine lv_goto (tgt := 69) hx hb dX3_takeName_63 (by decide) ?_
    exact b_X3_takeName_2_b69 C hf H locs ls hP hD hS (lv_sub hl [0] rfl)
theorem c_X3_takeName_2 {N : Nat} {σ : Sg} {z : Sg} (hX : xOK g X) (hf : f_X3_takeName_2 N σ = some z) : MetV l yX3_takeName (Cond.code yX3_takeName cX3_takeName 2 none :: wsA) rm_X3_takeName_2 cw g X [.ref (g.2.2 2)] σ z :=
  MetV_of hX (by decide) (Nat.le_of_ble_eq_true rfl) (fun p e s m args below meth c A C => b_X3_takeName_2 C hf)
-- X3_takeNumber_2: takeNumber()V
abbrev rm_X3_takeNumber_2 : Room := { frames := 1, cells := 0, slots := 0, locals := 21 }
theorem nd_X3_takeNumber : yX3_takeNumber.cls ≠ "java/lang/invoke/MethodHandle" ∧ yX3_takeNumber.cls ≠ "java/lang/invoke/VarHandle" ∧ (parseMethodDescriptor yX3_takeNumber.desc).map (fun d => d.parameters.length) = some 0 := by decide +kernel
def f_X3_takeNumber_2_b74 (N : Nat) (σ : Sg) : Option (Nat × Sg) :=
bd (wr σ 2 7 ((σ 2 7) + (1 : Int32))) fun σ1 =>
some (0, σ1)
set_option maxHeartbeats 4000000 in
set_option maxRecDepth 100000 in
theorem b_X3_takeNumber_2_b74 {N : Nat} {σ : Sg} {z : Nat × Sg} (C : Cx p s m args meth c cX3_takeNumber 1 none RX3 g A X) (hf : f_X3_takeNumber_2_b74 N σ = some z) (k0 : z.1 = 0 → Bk cw p l e rm_X3_takeNumber_2 s m args below meth c 1 g A Q 0 0 10 [(0, .ref (g.2.2 2))] [] z.2) (k : ¬ z.1 = 0 → Bk cw p l e rm_X3_takeNumber_2 s m args below meth c 1 g A Q 0 0 87 [(0, .ref (g.2.2 2))] [] z.2) : Bk cw p l e rm_X3_takeNumber_2 s m args below meth c 1 g A Q 0 0 74 [(0, .ref (g.2.2 2))] [] σ := by
  obtain ⟨hx, hb, hr, hml, hown, hts, hK, hlocks, hXX, hA, hXo⟩ := id C
  intro H locs ls hP hD hS hl
  unfold f_X3_takeNumber_2_b74 at hf
  refine lv_aload_n hx hb dX3_takeNumber_74 rfl (lv_at hl 0 rfl) ?_
  refine lv_dup hx hb dX3_takeNumber_75 rfl ?_
  refine bk_get (wf := cw) (q0 := 2) (ci := 3) (k := 7) (v := .int (σ 2 7)) C hP wl_X3 rfl rfl (by decide) wa_58 rfl rfl dX3_takeNumber_76 ?_
  refine lv_iconst (v := (1 : Int32)) hx hb dX3_takeNumber_79 (by decide) ?_
  refine lv_iadd hx hb dX3_takeNumber_80 ?_
  obtain ⟨σ1, eσ1, hf⟩ := bd_s hf
  refine bk_put (wf := cw) (σ1 := σ1) (q0 := 2) (ci := 3) (k := 7) (v := .int ((σ 2 7) + (1 : Int32))) C hP hD hS wl_X3 tyX3_ok nmX3 rfl rfl (by decide) wa_58 rfl rfl rfl rfl rfl (Nat.le_of_ble_eq_true rfl) (by rw [eσ1]; exact cw_p2_7 g _ _) dX3_takeNumber_81 (fun H locs hP hD hS => ?_)
  refine lv_goto (tgt := 10) hx hb dX3_takeNumber_84 (by decide) ?_
  cases hf
  exact k0 rfl H locs ls hP hD hS (lv_sub hl [0] rfl)
def s_X3_takeNumber_2_h10 (N : Nat) (σ : Sg) : Option (Nat × Sg) :=
if (σ 2 4) ≤ (σ 2 7) then (some (1, σ))
else ((f_X3_isDigit_2 N (σ 2 7) σ).bind fun q2 =>
if q2.1 = 0 then (some (1, (q2.2)))
else (bd (wr (q2.2) 2 9 (((q2.2) 2 9) + (1 : Int32))) fun σ3 =>
if (4 : Int32) < (σ3 2 9) then (f_X3_takeNumber_2_b74 N σ3)
else (if ((σ3 2 7) < 0 ∨ 700 ≤ (σ3 2 7).toNatClampNeg) then none else
bd (wr σ3 2 10 ((((10 : Int32) * (σ3 2 10)) + (σ3 1 (σ3 2 7).toNatClampNeg)) - (48 : Int32))) fun σ5 =>
f_X3_takeNumber_2_b74 N σ5)))
set_option maxHeartbeats 4000000 in
set_option maxRecDepth 100000 in
theorem e_X3_takeNumber_2_h10 {N : Nat} {σ : Sg} {z : Nat × Sg} (C : Cx p s m args meth c cX3_takeNumber 1 none RX3 g A X) (hf : s_X3_takeNumber_2_h10 N σ = some z) (k0 : z.1 = 0 → Bk cw p l e rm_X3_takeNumber_2 s m args below meth c 1 g A Q 0 0 10 [(0, .ref (g.2.2 2))] [] z.2) (k : ¬ z.1 = 0 → Bk cw p l e rm_X3_takeNumber_2 s m args below meth c 1 g A Q 0 0 87 [(0, .ref (g.2.2 2))] [] z.2) : Bk cw p l e rm_X3_takeNumber_2 s m args below meth c 1 g A Q 0 0 10 [(0, .ref (g.2.2 2))] [] σ := by
  obtain ⟨hx, hb, hr, hml, hown, hts, hK, hlocks, hXX, hA, hXo⟩ := id C
  intro H locs ls hP hD hS hl
  unfold s_X3_takeNumber_2_h10 at hf
  refine lv_aload_n hx hb dX3_takeNumber_10 rfl (lv_at hl 0 rfl) ?_
  refine bk_get (wf := cw) (q0 := 2) (ci := 3) (k := 7) (v := .int (σ 2 7)) C hP wl_X3 rfl rfl (by decide) wa_58 rfl rfl dX3_takeNumber_11 ?_
  refine lv_aload_n hx hb dX3_takeNumber_14 rfl (lv_at hl 0 rfl) ?_
  refine bk_get (wf := cw) (q0 := 2) (ci := 3) (k := 4) (v := .int (σ 2 4)) C hP wl_X3 rfl rfl (by decide) wa_54 rfl rfl dX3_takeNumber_15 ?_
  refine lv_icmp_ge (tgt := 87) hx hb dX3_takeNumber_18 (by decide) (fun t18 => ?_) (fun t18 => ?_)
  · have hf := (if_pos t18).symm.trans hf
    cases hf
    exact (k (show ¬ (1 : Nat) = 0 by decide)) H locs ls hP hD hS (lv_sub hl [0] rfl)
  · have hf := (if_neg t18).symm.trans hf
    refine lv_aload_n hx hb dX3_takeNumber_21 rfl (lv_at hl 0 rfl) ?_
    refine lv_aload_n hx hb dX3_takeNumber_22 rfl (lv_at hl 0 rfl) ?_
    refine bk_get (wf := cw) (q0 := 2) (ci := 3) (k := 7) (v := .int (σ 2 7)) C hP wl_X3 rfl rfl (by decide) wa_58 rfl rfl dX3_takeNumber_23 ?_
    obtain ⟨q2, hq2, hf⟩ := bi_s hf
    refine bk_VI (wf := cw) (q0 := 2) (ci := 3) (rest := []) [.int (σ 2 7)] C hP hD hS hl.1 (c_X3_isDigit_2 hXo hq2) (cwA_V 1 hts wa_249 wa_246 wa_247 wa_248 wa_18 rfl rfl nd_X3_isDigit ⟨Nat.le_of_ble_eq_true rfl, Nat.le_of_ble_eq_true rfl⟩) rfl rfl rfl rfl (Nat.le_of_ble_eq_true rfl) dX3_takeNumber_26 ⟨Nat.le_of_ble_eq_true rfl, Nat.le_of_ble_eq_true rfl⟩ (fun H locs hP hD hS => ?_)
    refine lv_if_eq (tgt := 87) hx hb dX3_takeNumber_29 (by decide) (fun t29 => ?_) (fun t29 => ?_)
    · have hf := (if_pos t29).symm.trans hf
      cases hf
      exact (k (show ¬ (1 : Nat) = 0 by decide)) H locs ls hP hD hS (lv_sub hl [0] rfl)
    · have hf := (if_neg t29).symm.trans hf
      refine lv_aload_n hx hb dX3_takeNumber_32 rfl (lv_at hl 0 rfl) ?_
      refine lv_dup hx hb dX3_takeNumber_33 rfl ?_
      refine bk_get (wf := cw) (q0 := 2) (ci := 3) (k := 9) (v := .int ((q2.2) 2 9)) C hP wl_X3 rfl rfl (by decide) wa_60 rfl rfl dX3_takeNumber_34 ?_
      refine lv_iconst (v := (1 : Int32)) hx hb dX3_takeNumber_37 (by decide) ?_
      refine lv_iadd hx hb dX3_takeNumber_38 ?_
      obtain ⟨σ3, eσ3, hf⟩ := bd_s hf
      refine bk_put (wf := cw) (σ1 := σ3) (q0 := 2) (ci := 3) (k := 9) (v := .int (((q2.2) 2 9) + (1 : Int32))) C hP hD hS wl_X3 tyX3_ok nmX3 rfl rfl (by decide) wa_60 rfl rfl rfl rfl rfl (Nat.le_of_ble_eq_true rfl) (by rw [eσ3]; exact cw_p2_9 g _ _) dX3_takeNumber_39 (fun H locs hP hD hS => ?_)
      refine lv_aload_n hx hb dX3_takeNumber_42 rfl (lv_at hl 0 rfl) ?_
      refine bk_get (wf := cw) (q0 := 2) (ci := 3) (k := 9) (v := .int (σ3 2 9)) C hP wl_X3 rfl rfl (by decide) wa_60 rfl rfl dX3_takeNumber_43 ?_
      refine lv_iconst (v := (4 : Int32)) hx hb dX3_takeNumber_46 (by decide) ?_
      refine lv_icmp_gt (tgt := 74) hx hb dX3_takeNumber_47 (by decide) (fun t47 => ?_) (fun t47 => ?_)
      · have hf := (if_pos t47).symm.trans hf
        exact b_X3_takeNumber_2_b74 C hf k0 k H locs ls hP hD hS (lv_sub hl [0] rfl)
      · have hf := (if_neg t47).symm.trans hf
        refine lv_aload_n hx hb dX3_takeNumber_50 rfl (lv_at hl 0 rfl) ?_
        refine lv_bipush (v := (10 : Int32)) hx hb dX3_takeNumber_51 (by decide) ?_
        refine lv_aload_n hx hb dX3_takeNumber_53 rfl (lv_at hl 0 rfl) ?_
        refine bk_get (wf := cw) (q0 := 2) (ci := 3) (k := 10) (v := .int (σ3 2 10)) C hP wl_X3 rfl rfl (by decide) wa_61 rfl rfl dX3_takeNumber_54 ?_
        refine lv_imul hx hb dX3_takeNumber_57 ?_
        refine lv_aload_n hx hb dX3_takeNumber_58 rfl (lv_at hl 0 rfl) ?_
        refine bk_get (wf := cw) (q0 := 2) (ci := 3) (k := 3) (v := .ref (g.2.2 1)) C hP wl_X3 rfl rfl (by decide) wa_64 rfl rfl dX3_takeNumber_59 ?_
        refine lv_aload_n hx hb dX3_takeNumber_62 rfl (lv_at hl 0 rfl) ?_
        refine bk_get (wf := cw) (q0 := 2) (ci := 3) (k := 7) (v := .int (σ3 2 7)) C hP wl_X3 rfl rfl (by decide) wa_58 rfl rfl dX3_takeNumber_63 ?_
        obtain ⟨g4, hf⟩ := gd_s hf
        refine bk_bald (wf := cw) (q0 := 1) (n := 700) (j := (σ3 2 7).toNatClampNeg) C hP rfl g4 rfl dX3_takeNumber_66 ?_
        refine lv_iadd hx hb dX3_takeNumber_67 ?_
        refine lv_bipush (v := (48 : Int32)) hx hb dX3_takeNumber_68 (by decide) ?_
        refine lv_isub hx hb dX3_takeNumber_70 ?_
        obtain ⟨σ5, eσ5, hf⟩ := bd_s hf
        refine bk_put (wf := cw) (σ1 := σ5) (q0 := 2) (ci := 3) (k := 10) (v := .int ((((10 : Int32) * (σ3 2 10)) + (σ3 1 (σ3 2 7).toNatClampNeg)) - (48 : Int32))) C hP hD hS wl_X3 tyX3_ok nmX3 rfl rfl (by decide) wa_61 rfl rfl rfl rfl rfl (Nat.le_of_ble_eq_true rfl) (by rw [eσ5]; exact cw_p2_10 g _ _) dX3_takeNumber_71 (fun H locs hP hD hS => ?_)
        exact b_X3_takeNumber_2_b74 C hf k0 k H locs ls hP hD hS (lv_sub hl [0] rfl)
theorem lp_X3_takeNumber_2_h10 {N : Nat} {n : Nat} {σ : Sg} {z : Nat × Sg} (C : Cx p s m args meth c cX3_takeNumber 1 none RX3 g A X) (hz : it (fun q => s_X3_takeNumber_2_h10 N q) n (σ) = some z) (k : Bk cw p l e rm_X3_takeNumber_2 s m args below meth c 1 g A Q 0 0 87 [(0, .ref (g.2.2 2))] [] z.2) : Bk cw p l e rm_X3_takeNumber_2 s m args below meth c 1 g A Q 0 0 10 [(0, .ref (g.2.2 2))] [] σ :=
  it_W (S := Sg) (fun q => Bk cw p l e rm_X3_takeNumber_2 s m args below meth c 1 g A Q 0 0 10 [(0, .ref (g.2.2 2))] [] q) (fun z => Bk cw p l e rm_X3_takeNumber_2 s m args below meth c 1 g A Q 0 0 87 [(0, .ref (g.2.2 2))] [] z.2) (fun q z hq k0 k => e_X3_takeNumber_2_h10 C hq k0 k) n (σ) z hz k
def f_X3_takeNumber_2 (N : Nat) (σ : Sg) : Option (Sg) :=
bd (wr σ 2 9 (0 : Int32)) fun σ6 =>
bd (wr σ6 2 10 (0 : Int32)) fun σ7 =>
(it (fun q => s_X3_takeNumber_2_h10 N q) N (σ7)).bind fun z8 =>
bd (wr (z8.2) 2 5 (2 : Int32)) fun σ9 =>
some σ9
set_option maxHeartbeats 4000000 in
set_option maxRecDepth 100000 in
theorem b_X3_takeNumber_2 {N : Nat} {σ : Sg} {z : Sg} (C : Cx p s m args meth c cX3_takeNumber 1 none RX3 g A X) (hf : f_X3_takeNumber_2 N σ = some z) : Bk cw p l e rm_X3_takeNumber_2 s m args below meth c 1 g A (MQ below (qV cw g A z) args s 0 0 A) 0 0 0 [(0, .ref (g.2.2 2))] [] σ := by
  obtain ⟨hx, hb, hr, hml, hown, hts, hK, hlocks, hXX, hA, hXo⟩ := id C
  intro H locs ls hP hD hS hl
  unfold f_X3_takeNumber_2 at hf
  refine lv_aload_n hx hb dX3_takeNumber_0 rfl (lv_at hl 0 rfl) ?_
  refine lv_iconst (v := (0 : Int32)) hx hb dX3_takeNumber_1 (by decide) ?_
  obtain ⟨σ6, eσ6, hf⟩ := bd_s hf
  refine bk_put (wf := cw) (σ1 := σ6) (q0 := 2) (ci := 3) (k := 9) (v := .int (0 : Int32)) C hP hD hS wl_X3 tyX3_ok nmX3 rfl rfl (by decide) wa_60 rfl rfl rfl rfl rfl (Nat.le_of_ble_eq_true rfl) (by rw [eσ6]; exact cw_p2_9 g _ _) dX3_takeNumber_2 (fun H locs hP hD hS => ?_)
  refine lv_aload_n hx hb dX3_takeNumber_5 rfl (lv_at hl 0 rfl) ?_
  refine lv_iconst (v := (0 : Int32)) hx hb dX3_takeNumber_6 (by decide) ?_
  obtain ⟨σ7, eσ7, hf⟩ := bd_s hf
  refine bk_put (wf := cw) (σ1 := σ7) (q0 := 2) (ci := 3) (k := 10) (v := .int (0 : Int32)) C hP hD hS wl_X3 tyX3_ok nmX3 rfl rfl (by decide) wa_61 rfl rfl rfl rfl rfl (Nat.le_of_ble_eq_true rfl) (by rw [eσ7]; exact cw_p2_10 g _ _) dX3_takeNumber_7 (fun H locs hP hD hS => ?_)
  obtain ⟨z8, hz8, hf⟩ := bi_s hf
  refine lp_X3_takeNumber_2_h10 C hz8 ?_ H locs ls hP hD hS (lv_sub hl [0] rfl)
  intro H locs ls hP hD hS hl
  refine lv_aload_n hx hb dX3_takeNumber_87 rfl (lv_at hl 0 rfl) ?_
  refine va_gets (v := .ref (g.2.2 (300 + (2 : Int32).toNatClampNeg))) hx hb (tok_Z (hXo.2.2.2 _ _ _ hXX).2.2.2.2.2.1 2 "NUMBER" (by decide) (by decide) rfl) hS hown (hts _ wa_254) (fun _ h => h) dX3_takeNumber_88 ?_
  obtain ⟨σ9, eσ9, hf⟩ := bd_s hf
  refine bk_put (wf := cw) (σ1 := σ9) (q0 := 2) (ci := 3) (k := 5) (v := .ref (g.2.2 (300 + (2 : Int32).toNatClampNeg))) C hP hD hS wl_X3 tyX3_ok nmX3 rfl rfl (by decide) wa_56 rfl rfl rfl rfl rfl (Nat.le_of_ble_eq_true rfl) (by rw [eσ9]; exact cw_p2_5 g _ _) dX3_takeNumber_91 (fun H locs hP hD hS => ?_)
  cases hf
  exact bk_vret C hP hD hS rfl dX3_takeNumber_94
theorem c_X3_takeNumber_2 {N : Nat} {σ : Sg} {z : Sg} (hX : xOK g X) (hf : f_X3_takeNumber_2 N σ = some z) : MetV l yX3_takeNumber (Cond.code yX3_takeNumber cX3_takeNumber 1 none :: wsA) rm_X3_takeNumber_2 cw g X [.ref (g.2.2 2)] σ z :=
  MetV_of hX (by decide) (Nat.le_of_ble_eq_true rfl) (fun p e s m args below meth c A C => b_X3_takeNumber_2 C hf)
-- X3_advance_2: advance()V
abbrev rm_X3_advance_2 : Room := { frames := 6, cells := 0, slots := 0, locals := 130 }
theorem nd_X3_advance : yX3_advance.cls ≠ "java/lang/invoke/MethodHandle" ∧ yX3_advance.cls ≠ "java/lang/invoke/VarHandle" ∧ (parseMethodDescriptor yX3_advance.desc).map (fun d => d.parameters.length) = some 0 := by decide +kernel
def f_X3_advance_2_b47 (N : Nat) (σ : Sg) : Option (Nat × Sg) :=
bd (wr σ 2 6 ((σ 2 6) + (1 : Int32))) fun σ1 =>
some (0, σ1)
set_option maxHeartbeats 4000000 in
set_option maxRecDepth 100000 in
theorem b_X3_advance_2_b47 {N : Nat} {σ : Sg} {z : Nat × Sg} (C : Cx p s m args meth c cX3_advance 1 none RX3 g A X) (hf : f_X3_advance_2_b47 N σ = some z) (k0 : z.1 = 0 → Bk cw p l e rm_X3_advance_2 s m args below meth c 1 g A Q 0 0 8 [(0, .ref (g.2.2 2))] [] z.2) (k : ¬ z.1 = 0 → Bk cw p l e rm_X3_advance_2 s m args below meth c 1 g A Q 0 0 60 [(0, .ref (g.2.2 2))] [] z.2) : Bk cw p l e rm_X3_advance_2 s m args below meth c 1 g A Q 0 0 47 [(0, .ref (g.2.2 2))] [] σ := by
  obtain ⟨hx, hb, hr, hml, hown, hts, hK, hlocks, hXX, hA, hXo⟩ := id C
  intro H locs ls hP hD hS hl
  unfold f_X3_advance_2_b47 at hf
  refine lv_aload_n hx hb dX3_advance_47 rfl (lv_at hl 0 rfl) ?_
  refine lv_dup hx hb dX3_advance_48 rfl ?_
  refine bk_get (wf := cw) (q0 := 2) (ci := 3) (k := 6) (v := .int (σ 2 6)) C hP wl_X3 rfl rfl (by decide) wa_57 rfl rfl dX3_advance_49 ?_
  refine lv_iconst (v := (1 : Int32)) hx hb dX3_advance_52 (by decide) ?_
  refine lv_iadd hx hb dX3_advance_53 ?_
  obtain ⟨σ1, eσ1, hf⟩ := bd_s hf
  refine bk_put (wf := cw) (σ1 := σ1) (q0 := 2) (ci := 3) (k := 6) (v := .int ((σ 2 6) + (1 : Int32))) C hP hD hS wl_X3 tyX3_ok nmX3 rfl rfl (by decide) wa_57 rfl rfl rfl rfl rfl (Nat.le_of_ble_eq_true rfl) (by rw [eσ1]; exact cw_p2_6 g _ _) dX3_advance_54 (fun H locs hP hD hS => ?_)
  refine lv_goto (tgt := 8) hx hb dX3_advance_57 (by decide) ?_
  cases hf
  exact k0 rfl H locs ls hP hD hS (lv_sub hl [0] rfl)
def s_X3_advance_2_h8 (N : Nat) (σ : Sg) : Option (Nat × Sg) :=
if (σ 2 4) ≤ (σ 2 6) then (some (1, σ))
else (if ((σ 2 6) < 0 ∨ 700 ≤ (σ 2 6).toNatClampNeg) then none else
if (σ 1 (σ 2 6).toNatClampNeg) = (32 : Int32) then (f_X3_advance_2_b47 N σ)
else (if ((σ 2 6) < 0 ∨ 700 ≤ (σ 2 6).toNatClampNeg) then none else
if (σ 1 (σ 2 6).toNatClampNeg) = (10 : Int32) then (f_X3_advance_2_b47 N σ)
else (some (1, σ))))
set_option maxHeartbeats 4000000 in
set_option maxRecDepth 100000 in
theorem e_X3_advance_2_h8 {N : Nat} {σ : Sg} {z : Nat × Sg} (C : Cx p s m args meth c cX3_advance 1 none RX3 g A X) (hf : s_X3_advance_2_h8 N σ = some z) (k0 : z.1 = 0 → Bk cw p l e rm_X3_advance_2 s m args below meth c 1 g A Q 0 0 8 [(0, .ref (g.2.2 2))] [] z.2) (k : ¬ z.1 = 0 → Bk cw p l e rm_X3_advance_2 s m args below meth c 1 g A Q 0 0 60 [(0, .ref (g.2.2 2))] [] z.2) : Bk cw p l e rm_X3_advance_2 s m args below meth c 1 g A Q 0 0 8 [(0, .ref (g.2.2 2))] [] σ := by
  obtain ⟨hx, hb, hr, hml, hown, hts, hK, hlocks, hXX, hA, hXo⟩ := id C
  intro H locs ls hP hD hS hl
  unfold s_X3_advance_2_h8 at hf
  refine lv_aload_n hx hb dX3_advance_8 rfl (lv_at hl 0 rfl) ?_
  refine bk_get (wf := cw) (q0 := 2) (ci := 3) (k := 6) (v := .int (σ 2 6)) C hP wl_X3 rfl rfl (by decide) wa_57 rfl rfl dX3_advance_9 ?_
  refine lv_aload_n hx hb dX3_advance_12 rfl (lv_at hl 0 rfl) ?_
  refine bk_get (wf := cw) (q0 := 2) (ci := 3) (k := 4) (v := .int (σ 2 4)) C hP wl_X3 rfl rfl (by decide) wa_54 rfl rfl dX3_advance_13 ?_
  refine lv_icmp_ge (tgt := 60) hx hb dX3_advance_16 (by decide) (fun t16 => ?_) (fun t16 => ?_)
  · have hf := (if_pos t16).symm.trans hf
    cases hf
    exact (k (show ¬ (1 : Nat) = 0 by decide)) H locs ls hP hD hS (lv_sub hl [0] rfl)
  · have hf := (if_neg t16).symm.trans hf
    refine lv_aload_n hx hb dX3_advance_19 rfl (lv_at hl 0 rfl) ?_
    refine bk_get (wf := cw) (q0 := 2) (ci := 3) (k := 3) (v := .ref (g.2.2 1)) C hP wl_X3 rfl rfl (by decide) wa_64 rfl rfl dX3_advance_20 ?_
    refine lv_aload_n hx hb dX3_advance_23 rfl (lv_at hl 0 rfl) ?_
    refine bk_get (wf := cw) (q0 := 2) (ci := 3) (k := 6) (v := .int (σ 2 6)) C hP wl_X3 rfl rfl (by decide) wa_57 rfl rfl dX3_advance_24 ?_
    obtain ⟨g2, hf⟩ := gd_s hf
    refine bk_bald (wf := cw) (q0 := 1) (n := 700) (j := (σ 2 6).toNatClampNeg) C hP rfl g2 rfl dX3_advance_27 ?_
    refine lv_bipush (v := (32 : Int32)) hx hb dX3_advance_28 (by decide) ?_
    refine lv_icmp_eq (tgt := 47) hx hb dX3_advance_30 (by decide) (fun t30 => ?_) (fun t30 => ?_)
    · have hf := (if_pos t30).symm.trans hf
      exact b_X3_advance_2_b47 C hf k0 k H locs ls hP hD hS (lv_sub hl [0] rfl)
    · have hf := (if_neg t30).symm.trans hf
      refine lv_aload_n hx hb dX3_advance_33 rfl (lv_at hl 0 rfl) ?_
      refine bk_get (wf := cw) (q0 := 2) (ci := 3) (k := 3) (v := .ref (g.2.2 1)) C hP wl_X3 rfl rfl (by decide) wa_64 rfl rfl dX3_advance_34 ?_
      refine lv_aload_n hx hb dX3_advance_37 rfl (lv_at hl 0 rfl) ?_
      refine bk_get (wf := cw) (q0 := 2) (ci := 3) (k := 6) (v := .int (σ 2 6)) C hP wl_X3 rfl rfl (by decide) wa_57 rfl rfl dX3_advance_38 ?_
      obtain ⟨g3, hf⟩ := gd_s hf
      refine bk_bald (wf := cw) (q0 := 1) (n := 700) (j := (σ 2 6).toNatClampNeg) C hP rfl g3 rfl dX3_advance_41 ?_
      refine lv_bipush (v := (10 : Int32)) hx hb dX3_advance_42 (by decide) ?_
      refine lv_icmp_ne (tgt := 60) hx hb dX3_advance_44 (by decide) (fun t44 => ?_) (fun t44 => ?_)
      · have hf := (if_neg t44).symm.trans hf
        cases hf
        exact (k (show ¬ (1 : Nat) = 0 by decide)) H locs ls hP hD hS (lv_sub hl [0] rfl)
      · have hf := (if_pos t44).symm.trans hf
        exact b_X3_advance_2_b47 C hf k0 k H locs ls hP hD hS (lv_sub hl [0] rfl)
theorem lp_X3_advance_2_h8 {N : Nat} {n : Nat} {σ : Sg} {z : Nat × Sg} (C : Cx p s m args meth c cX3_advance 1 none RX3 g A X) (hz : it (fun q => s_X3_advance_2_h8 N q) n (σ) = some z) (k : Bk cw p l e rm_X3_advance_2 s m args below meth c 1 g A Q 0 0 60 [(0, .ref (g.2.2 2))] [] z.2) : Bk cw p l e rm_X3_advance_2 s m args below meth c 1 g A Q 0 0 8 [(0, .ref (g.2.2 2))] [] σ :=
  it_W (S := Sg) (fun q => Bk cw p l e rm_X3_advance_2 s m args below meth c 1 g A Q 0 0 8 [(0, .ref (g.2.2 2))] [] q) (fun z => Bk cw p l e rm_X3_advance_2 s m args below meth c 1 g A Q 0 0 60 [(0, .ref (g.2.2 2))] [] z.2) (fun q z hq k0 k => e_X3_advance_2_h8 C hq k0 k) n (σ) z hz k
def f_X3_advance_2_b96 (N : Nat) (t1 : Int32) (σ : Sg) : Option (Sg) :=
if ¬ (t1 = 0 ∨ t1 = 1) then none else
bd (wr σ 2 8 t1) fun σ5 =>
if (σ5 2 6) < (σ5 2 4) then ((f_X3_isDigit_2 N (σ5 2 6) σ5).bind fun q6 =>
if q6.1 = 0 then ((f_X3_takeName_2 N (q6.2)).bind fun q7 =>
some q7)
else ((f_X3_takeNumber_2 N (q6.2)).bind fun q8 =>
some q8))
else (bd (wr σ5 2 5 (0 : Int32)) fun σ9 =>
some σ9)
set_option maxHeartbeats 4000000 in
set_option maxRecDepth 100000 in
theorem b_X3_advance_2_b96 {N : Nat} {t1 : Int32} {σ : Sg} {z : Sg} (C : Cx p s m args meth c cX3_advance 1 none RX3 g A X) (hf : f_X3_advance_2_b96 N t1 σ = some z) : Bk cw p l e rm_X3_advance_2 s m args below meth c 1 g A (MQ below (qV cw g A z) args s 0 0 A) 0 0 96 [(0, .ref (g.2.2 2))] [.int t1, .ref (g.2.2 2)] σ := by
  obtain ⟨hx, hb, hr, hml, hown, hts, hK, hlocks, hXX, hA, hXo⟩ := id C
  intro H locs ls hP hD hS hl
  unfold f_X3_advance_2_b96 at hf
  obtain ⟨g4, hf⟩ := gd_s hf
  obtain ⟨σ5, eσ5, hf⟩ := bd_s hf
  refine bk_put (wf := cw) (σ1 := σ5) (q0 := 2) (ci := 3) (k := 8) (v := .int t1) C hP hD hS wl_X3 tyX3_ok nmX3 rfl rfl (by decide) wa_59 rfl rfl rfl (zn_n (Decidable.not_not.mp g4)) (zn_f (Decidable.not_not.mp g4)) (Nat.le_of_ble_eq_true rfl) (by rw [eσ5]; exact cw_p2_8 g _ _) dX3_advance_96 (fun H locs hP hD hS => ?_)
  refine lv_aload_n hx hb dX3_advance_99 rfl (lv_at hl 0 rfl) ?_
  refine bk_get (wf := cw) (q0 := 2) (ci := 3) (k := 6) (v := .int (σ5 2 6)) C hP wl_X3 rfl rfl (by decide) wa_57 rfl rfl dX3_advance_100 ?_
  refine lv_aload_n hx hb dX3_advance_103 rfl (lv_at hl 0 rfl) ?_
  refine bk_get (wf := cw) (q0 := 2) (ci := 3) (k := 4) (v := .int (σ5 2 4)) C hP wl_X3 rfl rfl (by decide) wa_54 rfl rfl dX3_advance_104 ?_
  refine lv_icmp_lt (tgt := 120) hx hb dX3_advance_107 (by decide) (fun t107 => ?_) (fun t107 => ?_)
  · have hf := (if_pos t107).symm.trans hf
    refine lv_aload_n hx hb dX3_advance_120 rfl (lv_at hl 0 rfl) ?_
    refine lv_aload_n hx hb dX3_advance_121 rfl (lv_at hl 0 rfl) ?_
    refine bk_get (wf := cw) (q0 := 2) (ci := 3) (k := 6) (v := .int (σ5 2 6)) C hP wl_X3 rfl rfl (by decide) wa_57 rfl rfl dX3_advance_122 ?_
    obtain ⟨q6, hq6, hf⟩ := bi_s hf
    refine bk_VI (wf := cw) (q0 := 2) (ci := 3) (rest := []) [.int (σ5 2 6)] C hP hD hS hl.1 (c_X3_isDigit_2 hXo hq6) (cwA_V 1 hts wa_249 wa_246 wa_247 wa_248 wa_18 rfl rfl nd_X3_isDigit ⟨Nat.le_of_ble_eq_true rfl, Nat.le_of_ble_eq_true rfl⟩) rfl rfl rfl rfl (Nat.le_of_ble_eq_true rfl) dX3_advance_125 ⟨Nat.le_of_ble_eq_true rfl, Nat.le_of_ble_eq_true rfl⟩ (fun H locs hP hD hS => ?_)
    refine lv_if_eq (tgt := 138) hx hb dX3_advance_128 (by decide) (fun t128 => ?_) (fun t128 => ?_)
    · have hf := (if_pos t128).symm.trans hf
      refine lv_aload_n hx hb dX3_advance_138 rfl (lv_at hl 0 rfl) ?_
      obtain ⟨q7, hq7, hf⟩ := bi_s hf
      refine bk_VV (wf := cw) (q0 := 2) (ci := 3) (rest := []) [] C hP hD hS hl.1 (c_X3_takeName_2 hXo hq7) (cwA_V 0 hts wa_258 wa_255 wa_256 wa_257 wa_18 rfl rfl nd_X3_takeName ⟨Nat.le_of_ble_eq_true rfl, Nat.le_of_ble_eq_true rfl⟩) rfl rfl rfl rfl (Nat.le_of_ble_eq_true rfl) dX3_advance_139 ⟨Nat.le_of_ble_eq_true rfl, Nat.le_of_ble_eq_true rfl⟩ (fun H locs hP hD hS => ?_)
      cases hf
      exact bk_vret C hP hD hS rfl dX3_advance_142
    · have hf := (if_neg t128).symm.trans hf
      refine lv_aload_n hx hb dX3_advance_131 rfl (lv_at hl 0 rfl) ?_
      obtain ⟨q8, hq8, hf⟩ := bi_s hf
      refine bk_VV (wf := cw) (q0 := 2) (ci := 3) (rest := []) [] C hP hD hS hl.1 (c_X3_takeNumber_2 hXo hq8) (cwA_V 0 hts wa_253 wa_250 wa_251 wa_252 wa_18 rfl rfl nd_X3_takeNumber ⟨Nat.le_of_ble_eq_true rfl, Nat.le_of_ble_eq_true rfl⟩) rfl rfl rfl rfl (Nat.le_of_ble_eq_true rfl) dX3_advance_132 ⟨Nat.le_of_ble_eq_true rfl, Nat.le_of_ble_eq_true rfl⟩ (fun H locs hP hD hS => ?_)
      refine lv_goto (tgt := 142) hx hb dX3_advance_135 (by decide) ?_
      cases hf
      exact bk_vret C hP hD hS rfl dX3_advance_142
  · have hf := (if_neg t107).symm.trans hf
    refine lv_aload_n hx hb dX3_advance_110 rfl (lv_at hl 0 rfl) ?_
    refine va_gets (v := .ref (g.2.2 (300 + (0 : Int32).toNatClampNeg))) hx hb (tok_Z (hXo.2.2.2 _ _ _ hXX).2.2.2.2.2.1 0 "END" (by decide) (by decide) rfl) hS hown (hts _ wa_55) (fun _ h => h) dX3_advance_111 ?_
    obtain ⟨σ9, eσ9, hf⟩ := bd_s hf
    refine bk_put (wf := cw) (σ1 := σ9) (q0 := 2) (ci := 3) (k := 5) (v := .ref (g.2.2 (300 + (0 : Int32).toNatClampNeg))) C hP hD hS wl_X3 tyX3_ok nmX3 rfl rfl (by decide) wa_56 rfl rfl rfl rfl rfl (Nat.le_of_ble_eq_true rfl) (by rw [eσ9]; exact cw_p2_5 g _ _) dX3_advance_114 (fun H locs hP hD hS => ?_)
    refine lv_goto (tgt := 142) hx hb dX3_advance_117 (by decide) ?_
    cases hf
    exact bk_vret C hP hD hS rfl dX3_advance_142
def f_X3_advance_2_b95 (N : Nat) (σ : Sg) : Option (Sg) :=
f_X3_advance_2_b96 N (0 : Int32) σ
set_option maxHeartbeats 4000000 in
set_option maxRecDepth 100000 in
theorem b_X3_advance_2_b95 {N : Nat} {σ : Sg} {z : Sg} (C : Cx p s m args meth c cX3_advance 1 none RX3 g A X) (hf : f_X3_advance_2_b95 N σ = some z) : Bk cw p l e rm_X3_advance_2 s m args below meth c 1 g A (MQ below (qV cw g A z) args s 0 0 A) 0 0 95 [(0, .ref (g.2.2 2))] [.ref (g.2.2 2)] σ := by
  obtain ⟨hx, hb, hr, hml, hown, hts, hK, hlocks, hXX, hA, hXo⟩ := id C
  intro H locs ls hP hD hS hl
  unfold f_X3_advance_2_b95 at hf
  refine lv_iconst (v := (0 : Int32)) hx hb dX3_advance_95 (by decide) ?_
  exact b_X3_advance_2_b96 C hf H locs ls hP hD hS (lv_sub hl [0] rfl)
def f_X3_advance_2 (N : Nat) (σ : Sg) : Option (Sg) :=
bd (wr σ 2 6 (σ 2 7)) fun σ10 =>
(it (fun q => s_X3_advance_2_h8 N q) N (σ10)).bind fun z11 =>
bd (wr (z11.2) 2 7 ((z11.2) 2 6)) fun σ12 =>
if (σ12 2 4) ≤ (σ12 2 6) then (f_X3_advance_2_b95 N σ12)
else ((f_X3_isLetter_2 N (σ12 2 6) σ12).bind fun q13 =>
if q13.1 = 0 then (f_X3_advance_2_b95 N (q13.2))
else (f_X3_advance_2_b96 N (1 : Int32) (q13.2)))
set_option maxHeartbeats 4000000 in
set_option maxRecDepth 100000 in
theorem b_X3_advance_2 {N : Nat} {σ : Sg} {z : Sg} (C : Cx p s m args meth c cX3_advance 1 none RX3 g A X) (hf : f_X3_advance_2 N σ = some z) : Bk cw p l e rm_X3_advance_2 s m args below meth c 1 g A (MQ below (qV cw g A z) args s 0 0 A) 0 0 0 [(0, .ref (g.2.2 2))] [] σ := by
  obtain ⟨hx, hb, hr, hml, hown, hts, hK, hlocks, hXX, hA, hXo⟩ := id C
  intro H locs ls hP hD hS hl
  unfold f_X3_advance_2 at hf
  refine lv_aload_n hx hb dX3_advance_0 rfl (lv_at hl 0 rfl) ?_
  refine lv_aload_n hx hb dX3_advance_1 rfl (lv_at hl 0 rfl) ?_
  refine bk_get (wf := cw) (q0 := 2) (ci := 3) (k := 7) (v := .int (σ 2 7)) C hP wl_X3 rfl rfl (by decide) wa_58 rfl rfl dX3_advance_2 ?_
  obtain ⟨σ10, eσ10, hf⟩ := bd_s hf
  refine bk_put (wf := cw) (σ1 := σ10) (q0 := 2) (ci := 3) (k := 6) (v := .int (σ 2 7)) C hP hD hS wl_X3 tyX3_ok nmX3 rfl rfl (by decide) wa_57 rfl rfl rfl rfl rfl (Nat.le_of_ble_eq_true rfl) (by rw [eσ10]; exact cw_p2_6 g _ _) dX3_advance_5 (fun H locs hP hD hS => ?_)
  obtain ⟨z11, hz11, hf⟩ := bi_s hf
  refine lp_X3_advance_2_h8 C hz11 ?_ H locs ls hP hD hS (lv_sub hl [0] rfl)
  intro H locs ls hP hD hS hl
  refine lv_aload_n hx hb dX3_advance_60 rfl (lv_at hl 0 rfl) ?_
  refine lv_aload_n hx hb dX3_advance_61 rfl (lv_at hl 0 rfl) ?_
  refine bk_get (wf := cw) (q0 := 2) (ci := 3) (k := 6) (v := .int ((z11.2) 2 6)) C hP wl_X3 rfl rfl (by decide) wa_57 rfl rfl dX3_advance_62 ?_
  obtain ⟨σ12, eσ12, hf⟩ := bd_s hf
  refine bk_put (wf := cw) (σ1 := σ12) (q0 := 2) (ci := 3) (k := 7) (v := .int ((z11.2) 2 6)) C hP hD hS wl_X3 tyX3_ok nmX3 rfl rfl (by decide) wa_58 rfl rfl rfl rfl rfl (Nat.le_of_ble_eq_true rfl) (by rw [eσ12]; exact cw_p2_7 g _ _) dX3_advance_65 (fun H locs hP hD hS => ?_)
  refine lv_aload_n hx hb dX3_advance_68 rfl (lv_at hl 0 rfl) ?_
  refine lv_aload_n hx hb dX3_advance_69 rfl (lv_at hl 0 rfl) ?_
  refine bk_get (wf := cw) (q0 := 2) (ci := 3) (k := 6) (v := .int (σ12 2 6)) C hP wl_X3 rfl rfl (by decide) wa_57 rfl rfl dX3_advance_70 ?_
  refine lv_aload_n hx hb dX3_advance_73 rfl (lv_at hl 0 rfl) ?_
  refine bk_get (wf := cw) (q0 := 2) (ci := 3) (k := 4) (v := .int (σ12 2 4)) C hP wl_X3 rfl rfl (by decide) wa_54 rfl rfl dX3_advance_74 ?_
  refine lv_icmp_ge (tgt := 95) hx hb dX3_advance_77 (by decide) (fun t77 => ?_) (fun t77 => ?_)
  · have hf := (if_pos t77).symm.trans hf
    exact b_X3_advance_2_b95 C hf H locs ls hP hD hS (lv_sub hl [0] rfl)
  · have hf := (if_neg t77).symm.trans hf
    refine lv_aload_n hx hb dX3_advance_80 rfl (lv_at hl 0 rfl) ?_
    refine lv_aload_n hx hb dX3_advance_81 rfl (lv_at hl 0 rfl) ?_
    refine bk_get (wf := cw) (q0 := 2) (ci := 3) (k := 6) (v := .int (σ12 2 6)) C hP wl_X3 rfl rfl (by decide) wa_57 rfl rfl dX3_advance_82 ?_
    obtain ⟨q13, hq13, hf⟩ := bi_s hf
    refine bk_VI (wf := cw) (q0 := 2) (ci := 3) (rest := [.ref (g.2.2 2)]) [.int (σ12 2 6)] C hP hD hS hl.1 (c_X3_isLetter_2 hXo hq13) (cwA_V 1 hts wa_245 wa_242 wa_243 wa_244 wa_18 rfl rfl nd_X3_isLetter ⟨Nat.le_of_ble_eq_true rfl, Nat.le_of_ble_eq_true rfl⟩) rfl rfl rfl rfl (Nat.le_of_ble_eq_true rfl) dX3_advance_85 ⟨Nat.le_of_ble_eq_true rfl, Nat.le_of_ble_eq_true rfl⟩ (fun H locs hP hD hS => ?_)
    refine lv_if_eq (tgt := 95) hx hb dX3_advance_88 (by decide) (fun t88 => ?_) (fun t88 => ?_)
    · have hf := (if_pos t88).symm.trans hf
      exact b_X3_advance_2_b95 C hf H locs ls hP hD hS (lv_sub hl [0] rfl)
    · have hf := (if_neg t88).symm.trans hf
      refine lv_iconst (v := (1 : Int32)) hx hb dX3_advance_91 (by decide) ?_
      refine lv_goto (tgt := 96) hx hb dX3_advance_92 (by decide) ?_
      exact b_X3_advance_2_b96 C hf H locs ls hP hD hS (lv_sub hl [0] rfl)
theorem c_X3_advance_2 {N : Nat} {σ : Sg} {z : Sg} (hX : xOK g X) (hf : f_X3_advance_2 N σ = some z) : MetV l yX3_advance (Cond.code yX3_advance cX3_advance 1 none :: wsA) rm_X3_advance_2 cw g X [.ref (g.2.2 2)] σ z :=
  MetV_of hX (by decide) (Nat.le_of_ble_eq_true rfl) (fun p e s m args below meth c A C => b_X3_advance_2 C hf)
-- X3_fails_2: fails(I)Z
abbrev rm_X3_fails_2 : Room := { frames := 0, cells := 0, slots := 0, locals := 0 }
theorem nd_X3_fails : yX3_fails.cls ≠ "java/lang/invoke/MethodHandle" ∧ yX3_fails.cls ≠ "java/lang/invoke/VarHandle" ∧ (parseMethodDescriptor yX3_fails.desc).map (fun d => d.parameters.length) = some 1 := by decide +kernel
def f_X3_fails_2 (N : Nat) (x1 : Int32) (σ : Sg) : Option (Int32 × Sg) :=
bd (wr σ 2 1 x1) fun σ1 =>
bd (wr σ1 2 2 (σ1 2 6)) fun σ2 =>
some ((0 : Int32), σ2)
set_option maxHeartbeats 4000000 in
set_option maxRecDepth 100000 in
theorem b_X3_fails_2 {N : Nat} {x1 : Int32} {σ : Sg} {z : Int32 × Sg} (C : Cx p s m args meth c cX3_fails 2 (some .boolean) RX3 g A X) (hf : f_X3_fails_2 N x1 σ = some z) : Bk cw p l e rm_X3_fails_2 s m args below meth c 2 g A (MQ below (qI cw g A z.1 z.2) args s 0 0 A) 0 0 0 [(0, .ref (g.2.2 2)), (1, .int x1)] [] σ := by
  obtain ⟨hx, hb, hr, hml, hown, hts, hK, hlocks, hXX, hA, hXo⟩ := id C
  intro H locs ls hP hD hS hl
  unfold f_X3_fails_2 at hf
  refine lv_aload_n hx hb dX3_fails_0 rfl (lv_at hl 0 rfl) ?_
  refine lv_iload_n hx hb dX3_fails_1 rfl (lv_at hl 1 rfl) ?_
  obtain ⟨σ1, eσ1, hf⟩ := bd_s hf
  refine bk_put (wf := cw) (σ1 := σ1) (q0 := 2) (ci := 3) (k := 1) (v := .int x1) C hP hD hS wl_X3 tyX3_ok nmX3 rfl rfl (by decide) wa_52 rfl rfl rfl rfl rfl (Nat.le_of_ble_eq_true rfl) (by rw [eσ1]; exact cw_p2_1 g _ _) dX3_fails_2 (fun H locs hP hD hS => ?_)
  refine lv_aload_n hx hb dX3_fails_5 rfl (lv_at hl 0 rfl) ?_
  refine lv_aload_n hx hb dX3_fails_6 rfl (lv_at hl 0 rfl) ?_
  refine bk_get (wf := cw) (q0 := 2) (ci := 3) (k := 6) (v := .int (σ1 2 6)) C hP wl_X3 rfl rfl (by decide) wa_57 rfl rfl dX3_fails_7 ?_
  obtain ⟨σ2, eσ2, hf⟩ := bd_s hf
  refine bk_put (wf := cw) (σ1 := σ2) (q0 := 2) (ci := 3) (k := 2) (v := .int (σ1 2 6)) C hP hD hS wl_X3 tyX3_ok nmX3 rfl rfl (by decide) wa_53 rfl rfl rfl rfl rfl (Nat.le_of_ble_eq_true rfl) (by rw [eσ2]; exact cw_p2_2 g _ _) dX3_fails_10 (fun H locs hP hD hS => ?_)
  refine lv_iconst (v := (0 : Int32)) hx hb dX3_fails_13 (by decide) ?_
  cases hf
  exact bk_zret C hP hD hS (by decide) rfl dX3_fails_14
theorem c_X3_fails_2 {N : Nat} {x1 : Int32} {σ : Sg} {z : Int32 × Sg} (hX : xOK g X) (hf : f_X3_fails_2 N x1 σ = some z) : MetI l yX3_fails (Cond.code yX3_fails cX3_fails 2 (some .boolean) :: wsA) rm_X3_fails_2 cw g X [.ref (g.2.2 2), .int x1] σ z.1 z.2 :=
  MetI_of hX (by decide) (Nat.le_of_ble_eq_true rfl) (fun p e s m args below meth c A C => b_X3_fails_2 C hf)
-- X3_isNumber_2: isNumber(II)Z
abbrev rm_X3_isNumber_2 : Room := { frames := 1, cells := 0, slots := 0, locals := 21 }
theorem nd_X3_isNumber : yX3_isNumber.cls ≠ "java/lang/invoke/MethodHandle" ∧ yX3_isNumber.cls ≠ "java/lang/invoke/VarHandle" ∧ (parseMethodDescriptor yX3_isNumber.desc).map (fun d => d.parameters.length) = some 2 := by decide +kernel
def f_X3_isNumber_2_b40 (N : Nat) (σ : Sg) : Option (Int32 × Sg) :=
(f_X3_fails_2 N (2 : Int32) σ).bind fun q1 =>
if ¬ (q1.1 = 0 ∨ q1.1 = 1) then none else some (q1.1, (q1.2))
set_option maxHeartbeats 4000000 in
set_option maxRecDepth 100000 in
theorem b_X3_isNumber_2_b40 {N : Nat} {σ : Sg} {z : Int32 × Sg} (C : Cx p s m args meth c cX3_isNumber 3 (some .boolean) RX3 g A X) (hf : f_X3_isNumber_2_b40 N σ = some z) : Bk cw p l e rm_X3_isNumber_2 s m args below meth c 3 g A (MQ below (qI cw g A z.1 z.2) args s 0 0 A) 0 0 40 [(0, .ref (g.2.2 2))] [] σ := by
  obtain ⟨hx, hb, hr, hml, hown, hts, hK, hlocks, hXX, hA, hXo⟩ := id C
  intro H locs ls hP hD hS hl
  unfold f_X3_isNumber_2_b40 at hf
  refine lv_aload_n hx hb dX3_isNumber_40 rfl (lv_at hl 0 rfl) ?_
  refine lv_iconst (v := (2 : Int32)) hx hb dX3_isNumber_41 (by decide) ?_
  obtain ⟨q1, hq1, hf⟩ := bi_s hf
  refine bk_VI (wf := cw) (q0 := 2) (ci := 3) (rest := []) [.int (2 : Int32)] C hP hD hS hl.1 (c_X3_fails_2 hXo hq1) (cwA_V 1 hts wa_343 wa_340 wa_341 wa_342 wa_18 rfl rfl nd_X3_fails ⟨Nat.le_of_ble_eq_true rfl, Nat.le_of_ble_eq_true rfl⟩) rfl rfl rfl rfl (Nat.le_of_ble_eq_true rfl) dX3_isNumber_42 ⟨Nat.le_of_ble_eq_true rfl, Nat.le_of_ble_eq_true rfl⟩ (fun H locs hP hD hS => ?_)
  obtain ⟨g2, hf⟩ := gd_s hf
  cases hf
  exact bk_zret C hP hD hS (Decidable.not_not.mp g2) rfl dX3_isNumber_45
def f_X3_isNumber_2 (N : Nat) (x1 : Int32) (x2 : Int32) (σ : Sg) : Option (Int32 × Sg) :=
if ((σ 2 5) < 0 ∨ 27 ≤ (σ 2 5).toNatClampNeg) then none else
if (σ 2 5) = (2 : Int32) then (if (4 : Int32) < (σ 2 9) then (f_X3_isNumber_2_b40 N σ)
else (if (σ 2 10) < x1 then (f_X3_isNumber_2_b40 N σ)
else (if (σ 2 10) ≤ x2 then (some ((1 : Int32), σ))
else (f_X3_isNumber_2_b40 N σ))))
else ((f_X3_fails_2 N (1 : Int32) σ).bind fun q4 =>
if ¬ (q4.1 = 0 ∨ q4.1 = 1) then none else some (q4.1, (q4.2)))
set_option maxHeartbeats 4000000 in
set_option maxRecDepth 100000 in
theorem b_X3_isNumber_2 {N : Nat} {x1 : Int32} {x2 : Int32} {σ : Sg} {z : Int32 × Sg} (C : Cx p s m args meth c cX3_isNumber 3 (some .boolean) RX3 g A X) (hf : f_X3_isNumber_2 N x1 x2 σ = some z) : Bk cw p l e rm_X3_isNumber_2 s m args below meth c 3 g A (MQ below (qI cw g A z.1 z.2) args s 0 0 A) 0 0 0 [(0, .ref (g.2.2 2)), (1, .int x1), (2, .int x2)] [] σ := by
  obtain ⟨hx, hb, hr, hml, hown, hts, hK, hlocks, hXX, hA, hXo⟩ := id C
  intro H locs ls hP hD hS hl
  unfold f_X3_isNumber_2 at hf
  refine lv_aload_n hx hb dX3_isNumber_0 rfl (lv_at hl 0 rfl) ?_
  refine bk_get (wf := cw) (q0 := 2) (ci := 3) (k := 5) (v := .ref (g.2.2 (300 + (σ 2 5).toNatClampNeg))) C hP wl_X3 rfl rfl (by decide) wa_56 rfl rfl dX3_isNumber_1 ?_
  refine va_gets (v := .ref (g.2.2 (300 + (2 : Int32).toNatClampNeg))) hx hb (tok_Z (hXo.2.2.2 _ _ _ hXX).2.2.2.2.2.1 2 "NUMBER" (by decide) (by decide) rfl) hS hown (hts _ wa_254) (fun _ h => h) dX3_isNumber_4 ?_
  obtain ⟨g3, hf⟩ := gd_s hf
  refine bk_acq (tgt := 16) C g3 (vin_l (by decide) (by decide)) dX3_isNumber_7 (by decide) (fun t7 => ?_) (fun t7 => ?_)
  · have hf := (if_pos t7).symm.trans hf
    refine lv_aload_n hx hb dX3_isNumber_16 rfl (lv_at hl 0 rfl) ?_
    refine bk_get (wf := cw) (q0 := 2) (ci := 3) (k := 9) (v := .int (σ 2 9)) C hP wl_X3 rfl rfl (by decide) wa_60 rfl rfl dX3_isNumber_17 ?_
    refine lv_iconst (v := (4 : Int32)) hx hb dX3_isNumber_20 (by decide) ?_
    refine lv_icmp_gt (tgt := 40) hx hb dX3_isNumber_21 (by decide) (fun t21 => ?_) (fun t21 => ?_)
    · have hf := (if_pos t21).symm.trans hf
      exact b_X3_isNumber_2_b40 C hf H locs ls hP hD hS (lv_sub hl [0] rfl)
    · have hf := (if_neg t21).symm.trans hf
      refine lv_aload_n hx hb dX3_isNumber_24 rfl (lv_at hl 0 rfl) ?_
      refine bk_get (wf := cw) (q0 := 2) (ci := 3) (k := 10) (v := .int (σ 2 10)) C hP wl_X3 rfl rfl (by decide) wa_61 rfl rfl dX3_isNumber_25 ?_
      refine lv_iload_n hx hb dX3_isNumber_28 rfl (lv_at hl 1 rfl) ?_
      refine lv_icmp_lt (tgt := 40) hx hb dX3_isNumber_29 (by decide) (fun t29 => ?_) (fun t29 => ?_)
      · have hf := (if_pos t29).symm.trans hf
        exact b_X3_isNumber_2_b40 C hf H locs ls hP hD hS (lv_sub hl [0] rfl)
      · have hf := (if_neg t29).symm.trans hf
        refine lv_aload_n hx hb dX3_isNumber_32 rfl (lv_at hl 0 rfl) ?_
        refine bk_get (wf := cw) (q0 := 2) (ci := 3) (k := 10) (v := .int (σ 2 10)) C hP wl_X3 rfl rfl (by decide) wa_61 rfl rfl dX3_isNumber_33 ?_
        refine lv_iload_n hx hb dX3_isNumber_36 rfl (lv_at hl 2 rfl) ?_
        refine lv_icmp_le (tgt := 46) hx hb dX3_isNumber_37 (by decide) (fun t37 => ?_) (fun t37 => ?_)
        · have hf := (if_pos t37).symm.trans hf
          refine lv_iconst (v := (1 : Int32)) hx hb dX3_isNumber_46 (by decide) ?_
          cases hf
          exact bk_zret C hP hD hS (by decide) rfl dX3_isNumber_47
        · have hf := (if_neg t37).symm.trans hf
          exact b_X3_isNumber_2_b40 C hf H locs ls hP hD hS (lv_sub hl [0] rfl)
  · have hf := (if_neg t7).symm.trans hf
    refine lv_aload_n hx hb dX3_isNumber_10 rfl (lv_at hl 0 rfl) ?_
    refine lv_iconst (v := (1 : Int32)) hx hb dX3_isNumber_11 (by decide) ?_
    obtain ⟨q4, hq4, hf⟩ := bi_s hf
    refine bk_VI (wf := cw) (q0 := 2) (ci := 3) (rest := []) [.int (1 : Int32)] C hP hD hS hl.1 (c_X3_fails_2 hXo hq4) (cwA_V 1 hts wa_343 wa_340 wa_341 wa_342 wa_18 rfl rfl nd_X3_fails ⟨Nat.le_of_ble_eq_true rfl, Nat.le_of_ble_eq_true rfl⟩) rfl rfl rfl rfl (Nat.le_of_ble_eq_true rfl) dX3_isNumber_12 ⟨Nat.le_of_ble_eq_true rfl, Nat.le_of_ble_eq_true rfl⟩ (fun H locs hP hD hS => ?_)
    obtain ⟨g5, hf⟩ := gd_s hf
    cases hf
    exact bk_zret C hP hD hS (Decidable.not_not.mp g5) rfl dX3_isNumber_15
theorem c_X3_isNumber_2 {N : Nat} {x1 : Int32} {x2 : Int32} {σ : Sg} {z : Int32 × Sg} (hX : xOK g X) (hf : f_X3_isNumber_2 N x1 x2 σ = some z) : MetI l yX3_isNumber (Cond.code yX3_isNumber cX3_isNumber 3 (some .boolean) :: wsA) rm_X3_isNumber_2 cw g X [.ref (g.2.2 2), .int x1, .int x2] σ z.1 z.2 :=
  MetI_of hX (by decide) (Nat.le_of_ble_eq_true rfl) (fun p e s m args below meth c A C => b_X3_isNumber_2 C hf)
-- X9_isTaken_3: isTaken(I)Z
abbrev rm_X9_isTaken_3 : Room := { frames := 0, cells := 0, slots := 0, locals := 0 }
theorem nd_X9_isTaken : yX9_isTaken.cls ≠ "java/lang/invoke/MethodHandle" ∧ yX9_isTaken.cls ≠ "java/lang/invoke/VarHandle" ∧ (parseMethodDescriptor yX9_isTaken.desc).map (fun d => d.parameters.length) = some 1 := by decide +kernel
def s_X9_isTaken_3_h2 (N : Nat) (x1 : Int32) (x2 : Int32) (σ : Sg) : Option (Nat × Int32 × Sg) :=
if (σ 3 0) ≤ x2 then (some (2, 0, σ))
else (if (x2 < 0 ∨ 9 ≤ x2.toNatClampNeg) then none else
if (σ 4 x2.toNatClampNeg) = x1 then (some (1, 0, σ))
else (bd (x2 + (1 : Int32)) fun v2 =>
some (0, v2, σ)))
set_option maxHeartbeats 4000000 in
set_option maxRecDepth 100000 in
theorem e_X9_isTaken_3_h2 {N : Nat} {x1 : Int32} {x2 : Int32} {σ : Sg} {z : Nat × Int32 × Sg} (C : Cx p s m args meth c cX9_isTaken 3 (some .boolean) RX9 g A X) (hf : s_X9_isTaken_3_h2 N x1 x2 σ = some z) (k0 : z.1 = 0 → Bk cw p l e rm_X9_isTaken_3 s m args below meth c 3 g A Q 0 0 2 [(0, .ref (g.2.2 3)), (1, .int x1), (2, .int z.2.1)] [] z.2.2) (k : ¬ z.1 = 0 → ((z.1 = 1 → Bk cw p l e rm_X9_isTaken_3 s m args below meth c 3 g A Q 0 0 20 [] [] z.2.2) ∧ (¬ z.1 = 1 → Bk cw p l e rm_X9_isTaken_3 s m args below meth c 3 g A Q 0 0 28 [] [] z.2.2))) : Bk cw p l e rm_X9_isTaken_3 s m args below meth c 3 g A Q 0 0 2 [(0, .ref (g.2.2 3)), (1, .int x1), (2, .int x2)] [] σ := by
  obtain ⟨hx, hb, hr, hml, hown, hts, hK, hlocks, hXX, hA, hXo⟩ := id C
  intro H locs ls hP hD hS hl
  unfold s_X9_isTaken_3_h2 at hf
  refine lv_iload_n hx hb dX9_isTaken_2 rfl (lv_at hl 2 rfl) ?_
  refine lv_aload_n hx hb dX9_isTaken_3 rfl (lv_at hl 0 rfl) ?_
  refine bk_get (wf := cw) (q0 := 3) (ci := 8) (k := 0) (v := .int (σ 3 0)) C hP wl_X9 rfl rfl (by decide) wa_68 rfl rfl dX9_isTaken_4 ?_
  refine lv_icmp_ge (tgt := 28) hx hb dX9_isTaken_7 (by decide) (fun t7 => ?_) (fun t7 => ?_)
  · have hf := (if_pos t7).symm.trans hf
    cases hf
    exact ((k (show ¬ (2 : Nat) = 0 by decide)).2 (show ¬ (2 : Nat) = 1 by decide)) H locs ls hP hD hS (lv_sub hl [] rfl)
  · have hf := (if_neg t7).symm.trans hf
    refine lv_aload_n hx hb dX9_isTaken_10 rfl (lv_at hl 0 rfl) ?_
    refine bk_get (wf := cw) (q0 := 3) (ci := 8) (k := 1) (v := .ref (g.2.2 4)) C hP wl_X9 rfl rfl (by decide) wa_69 rfl rfl dX9_isTaken_11 ?_
    refine lv_iload_n hx hb dX9_isTaken_14 rfl (lv_at hl 2 rfl) ?_
    obtain ⟨g1, hf⟩ := gd_s hf
    refine bk_iald (wf := cw) (q0 := 4) (n := 9) (j := x2.toNatClampNeg) C hP rfl g1 rfl dX9_isTaken_15 ?_
    refine lv_iload_n hx hb dX9_isTaken_16 rfl (lv_at hl 1 rfl) ?_
    refine lv_icmp_ne (tgt := 22) hx hb dX9_isTaken_17 (by decide) (fun t17 => ?_) (fun t17 => ?_)
    · have hf := (if_neg t17).symm.trans hf
      obtain ⟨v2, ev2, hf⟩ := bd_s hf
      refine lv_iinc (v := v2) (lv' := [(2, .int v2), (0, .ref (g.2.2 3)), (1, .int x1)]) hx hb dX9_isTaken_22 hl (k := 2) rfl (by rw [ev2]; rfl) (by decide) rfl (fun ls hl => ?_)
      refine lv_goto (tgt := 2) hx hb dX9_isTaken_25 (by decide) ?_
      cases hf
      exact k0 rfl H locs ls hP hD hS (lv_sub hl [1, 2, 0] rfl)
    · have hf := (if_pos t17).symm.trans hf
      cases hf
      exact ((k (show ¬ (1 : Nat) = 0 by decide)).1 rfl) H locs ls hP hD hS (lv_sub hl [] rfl)
theorem lp_X9_isTaken_3_h2 {N : Nat} {n : Nat} {x1 : Int32} {x2 : Int32} {σ : Sg} {z : Nat × Int32 × Sg} (C : Cx p s m args meth c cX9_isTaken 3 (some .boolean) RX9 g A X) (hz : it (fun q => s_X9_isTaken_3_h2 N x1 q.1 q.2) n (x2, σ) = some z) (k : ((z.1 = 1 → Bk cw p l e rm_X9_isTaken_3 s m args below meth c 3 g A Q 0 0 20 [] [] z.2.2) ∧ (¬ z.1 = 1 → Bk cw p l e rm_X9_isTaken_3 s m args below meth c 3 g A Q 0 0 28 [] [] z.2.2))) : Bk cw p l e rm_X9_isTaken_3 s m args below meth c 3 g A Q 0 0 2 [(0, .ref (g.2.2 3)), (1, .int x1), (2, .int x2)] [] σ :=
  it_W (S := Int32 × Sg) (fun q => Bk cw p l e rm_X9_isTaken_3 s m args below meth c 3 g A Q 0 0 2 [(0, .ref (g.2.2 3)), (1, .int x1), (2, .int q.1)] [] q.2) (fun z => ((z.1 = 1 → Bk cw p l e rm_X9_isTaken_3 s m args below meth c 3 g A Q 0 0 20 [] [] z.2.2) ∧ (¬ z.1 = 1 → Bk cw p l e rm_X9_isTaken_3 s m args below meth c 3 g A Q 0 0 28 [] [] z.2.2))) (fun q z hq k0 k => e_X9_isTaken_3_h2 C hq k0 k) n (x2, σ) z hz k
def f_X9_isTaken_3 (N : Nat) (x1 : Int32) (σ : Sg) : Option (Int32 × Sg) :=
(it (fun q => s_X9_isTaken_3_h2 N x1 q.1 q.2) N ((0 : Int32), σ)).bind fun z3 =>
if z3.1 = 1 then (some ((1 : Int32), (z3.2.2)))
else (some ((0 : Int32), (z3.2.2)))
set_option maxHeartbeats 4000000 in
set_option maxRecDepth 100000 in
theorem b_X9_isTaken_3 {N : Nat} {x1 : Int32} {σ : Sg} {z : Int32 × Sg} (C : Cx p s m args meth c cX9_isTaken 3 (some .boolean) RX9 g A X) (hf : f_X9_isTaken_3 N x1 σ = some z) : Bk cw p l e rm_X9_isTaken_3 s m args below meth c 3 g A (MQ below (qI cw g A z.1 z.2) args s 0 0 A) 0 0 0 [(0, .ref (g.2.2 3)), (1, .int x1)] [] σ := by
  obtain ⟨hx, hb, hr, hml, hown, hts, hK, hlocks, hXX, hA, hXo⟩ := id C
  intro H locs ls hP hD hS hl
  unfold f_X9_isTaken_3 at hf
  refine lv_iconst (v := (0 : Int32)) hx hb dX9_isTaken_0 (by decide) ?_
  refine lv_istore_n (lv' := [(2, .int (0 : Int32)), (0, .ref (g.2.2 3)), (1, .int x1)]) hx hb dX9_isTaken_1 rfl hl (by decide) rfl (fun ls hl => ?_)
  obtain ⟨z3, hz3, hf⟩ := bi_s hf
  refine lp_X9_isTaken_3_h2 C hz3 ⟨fun t0 => ?_, fun t0 => ?_⟩ H locs ls hP hD hS (lv_sub hl [1, 2, 0] rfl)
  · have hf := (if_pos t0).symm.trans hf
    intro H locs ls hP hD hS hl
    refine lv_iconst (v := (1 : Int32)) hx hb dX9_isTaken_20 (by decide) ?_
    cases hf
    exact bk_zret C hP hD hS (by decide) rfl dX9_isTaken_21
  · have hf := (if_neg t0).symm.trans hf
    intro H locs ls hP hD hS hl
    refine lv_iconst (v := (0 : Int32)) hx hb dX9_isTaken_28 (by decide) ?_
    cases hf
    exact bk_zret C hP hD hS (by decide) rfl dX9_isTaken_29
theorem c_X9_isTaken_3 {N : Nat} {x1 : Int32} {σ : Sg} {z : Int32 × Sg} (hX : xOK g X) (hf : f_X9_isTaken_3 N x1 σ = some z) : MetI l yX9_isTaken (Cond.code yX9_isTaken cX9_isTaken 3 (some .boolean) :: wsA) rm_X9_isTaken_3 cw g X [.ref (g.2.2 3), .int x1] σ z.1 z.2 :=
  MetI_of hX (by decide) (Nat.le_of_ble_eq_true rfl) (fun p e s m args below meth c A C => b_X9_isTaken_3 C hf)
-- X3_takesNumber_2_4: takesNumber([IIII)Z
abbrev rm_X3_takesNumber_2_4 : Room := { frames := 7, cells := 0, slots := 0, locals := 150 }
theorem nd_X3_takesNumber : yX3_takesNumber.cls ≠ "java/lang/invoke/MethodHandle" ∧ yX3_takesNumber.cls ≠ "java/lang/invoke/VarHandle" ∧ (parseMethodDescriptor yX3_takesNumber.desc).map (fun d => d.parameters.length) = some 4 := by decide +kernel
def f_X3_takesNumber_2_4_b29 (N : Nat) (σ : Sg) : Option (Int32 × Sg) :=
(f_X3_advance_2 N σ).bind fun q1 =>
some ((1 : Int32), q1)
set_option maxHeartbeats 4000000 in
set_option maxRecDepth 100000 in
theorem b_X3_takesNumber_2_4_b29 {N : Nat} {σ : Sg} {z : Int32 × Sg} (C : Cx p s m args meth c cX3_takesNumber 5 (some .boolean) RX3 g A X) (hf : f_X3_takesNumber_2_4_b29 N σ = some z) : Bk cw p l e rm_X3_takesNumber_2_4 s m args below meth c 5 g A (MQ below (qI cw g A z.1 z.2) args s 0 0 A) 0 0 29 [(0, .ref (g.2.2 2))] [] σ := by
  obtain ⟨hx, hb, hr, hml, hown, hts, hK, hlocks, hXX, hA, hXo⟩ := id C
  intro H locs ls hP hD hS hl
  unfold f_X3_takesNumber_2_4_b29 at hf
  refine lv_aload_n hx hb dX3_takesNumber_29 rfl (lv_at hl 0 rfl) ?_
  obtain ⟨q1, hq1, hf⟩ := bi_s hf
  refine bk_VV (wf := cw) (q0 := 2) (ci := 3) (rest := []) [] C hP hD hS hl.1 (c_X3_advance_2 hXo hq1) (cwA_V 0 hts wa_241 wa_238 wa_239 wa_240 wa_18 rfl rfl nd_X3_advance ⟨Nat.le_of_ble_eq_true rfl, Nat.le_of_ble_eq_true rfl⟩) rfl rfl rfl rfl (Nat.le_of_ble_eq_true rfl) dX3_takesNumber_30 ⟨Nat.le_of_ble_eq_true rfl, Nat.le_of_ble_eq_true rfl⟩ (fun H locs hP hD hS => ?_)
  refine lv_iconst (v := (1 : Int32)) hx hb dX3_takesNumber_33 (by decide) ?_
  cases hf
  exact bk_zret C hP hD hS (by decide) rfl dX3_takesNumber_34
def f_X3_takesNumber_2_4 (N : Nat) (x2 : Int32) (x3 : Int32) (x4 : Int32) (σ : Sg) : Option (Int32 × Sg) :=
(f_X3_isNumber_2 N x3 x4 σ).bind fun q2 =>
if q2.1 = 0 then (some ((0 : Int32), (q2.2)))
else (if x2 < 0 then (f_X3_takesNumber_2_4_b29 N (q2.2))
else (if (9 : Int32) ≤ x2 then (f_X3_takesNumber_2_4_b29 N (q2.2))
else (if (x2 < 0 ∨ 9 ≤ x2.toNatClampNeg) then none else
bd (wr (q2.2) 4 (x2.toNatClampNeg) ((q2.2) 2 10)) fun σ4 =>
f_X3_takesNumber_2_4_b29 N σ4)))
set_option maxHeartbeats 4000000 in
set_option maxRecDepth 100000 in
theorem b_X3_takesNumber_2_4 {N : Nat} {x2 : Int32} {x3 : Int32} {x4 : Int32} {σ : Sg} {z : Int32 × Sg} (C : Cx p s m args meth c cX3_takesNumber 5 (some .boolean) RX3 g A X) (hf : f_X3_takesNumber_2_4 N x2 x3 x4 σ = some z) : Bk cw p l e rm_X3_takesNumber_2_4 s m args below meth c 5 g A (MQ below (qI cw g A z.1 z.2) args s 0 0 A) 0 0 0 [(0, .ref (g.2.2 2)), (1, .ref (g.2.2 4)), (2, .int x2), (3, .int x3), (4, .int x4)] [] σ := by
  obtain ⟨hx, hb, hr, hml, hown, hts, hK, hlocks, hXX, hA, hXo⟩ := id C
  intro H locs ls hP hD hS hl
  unfold f_X3_takesNumber_2_4 at hf
  refine lv_aload_n hx hb dX3_takesNumber_0 rfl (lv_at hl 0 rfl) ?_
  refine lv_iload_n hx hb dX3_takesNumber_1 rfl (lv_at hl 3 rfl) ?_
  refine lv_iload hx hb dX3_takesNumber_2 (lv_at hl 4 rfl) ?_
  obtain ⟨q2, hq2, hf⟩ := bi_s hf
  refine bk_VI (wf := cw) (q0 := 2) (ci := 3) (rest := []) [.int x3, .int x4] C hP hD hS hl.1 (c_X3_isNumber_2 hXo hq2) (cwA_V 2 hts wa_347 wa_344 wa_345 wa_346 wa_18 rfl rfl nd_X3_isNumber ⟨Nat.le_of_ble_eq_true rfl, Nat.le_of_ble_eq_true rfl⟩) rfl rfl rfl rfl (Nat.le_of_ble_eq_true rfl) dX3_takesNumber_4 ⟨Nat.le_of_ble_eq_true rfl, Nat.le_of_ble_eq_true rfl⟩ (fun H locs hP hD hS => ?_)
  refine lv_if_ne (tgt := 12) hx hb dX3_takesNumber_7 (by decide) (fun t7 => ?_) (fun t7 => ?_)
  · have hf := (if_neg t7).symm.trans hf
    refine lv_iload_n hx hb dX3_takesNumber_12 rfl (lv_at hl 2 rfl) ?_
    refine lv_if_lt (tgt := 29) hx hb dX3_takesNumber_13 (by decide) (fun t13 => ?_) (fun t13 => ?_)
    · have hf := (if_pos t13).symm.trans hf
      exact b_X3_takesNumber_2_4_b29 C hf H locs ls hP hD hS (lv_sub hl [0] rfl)
    · have hf := (if_neg t13).symm.trans hf
      refine lv_iload_n hx hb dX3_takesNumber_16 rfl (lv_at hl 2 rfl) ?_
      refine lv_aload_n hx hb dX3_takesNumber_17 rfl (lv_at hl 1 rfl) ?_
      refine bk_alen (wf := cw) (q0 := 4) (t0 := 0) (v := (9 : Int32)) C hP rfl rfl (show Int32.ofNat 9 = (9 : Int32) by decide) dX3_takesNumber_18 ?_
      refine lv_icmp_ge (tgt := 29) hx hb dX3_takesNumber_19 (by decide) (fun t19 => ?_) (fun t19 => ?_)
      · have hf := (if_pos t19).symm.trans hf
        exact b_X3_takesNumber_2_4_b29 C hf H locs ls hP hD hS (lv_sub hl [0] rfl)
      · have hf := (if_neg t19).symm.trans hf
        refine lv_aload_n hx hb dX3_takesNumber_22 rfl (lv_at hl 1 rfl) ?_
        refine lv_iload_n hx hb dX3_takesNumber_23 rfl (lv_at hl 2 rfl) ?_
        refine lv_aload_n hx hb dX3_takesNumber_24 rfl (lv_at hl 0 rfl) ?_
        refine bk_get (wf := cw) (q0 := 2) (ci := 3) (k := 10) (v := .int ((q2.2) 2 10)) C hP wl_X3 rfl rfl (by decide) wa_61 rfl rfl dX3_takesNumber_25 ?_
        obtain ⟨g3, hf⟩ := gd_s hf
        obtain ⟨σ4, eσ4, hf⟩ := bd_s hf
        refine bk_iast (wf := cw) (σ1 := σ4) (q0 := 4) (n := 9) (j := x2.toNatClampNeg) C hP hD hS rfl g3 rfl (by rw [eσ4]; exact cw_a4 g _ _ _) dX3_takesNumber_28 (fun H locs hP hD hS => ?_)
        exact b_X3_takesNumber_2_4_b29 C hf H locs ls hP hD hS (lv_sub hl [0] rfl)
  · have hf := (if_pos t7).symm.trans hf
    refine lv_iconst (v := (0 : Int32)) hx hb dX3_takesNumber_10 (by decide) ?_
    cases hf
    exact bk_zret C hP hD hS (by decide) rfl dX3_takesNumber_11
theorem c_X3_takesNumber_2_4 {N : Nat} {x2 : Int32} {x3 : Int32} {x4 : Int32} {σ : Sg} {z : Int32 × Sg} (hX : xOK g X) (hf : f_X3_takesNumber_2_4 N x2 x3 x4 σ = some z) : MetI l yX3_takesNumber (Cond.code yX3_takesNumber cX3_takesNumber 5 (some .boolean) :: wsA) rm_X3_takesNumber_2_4 cw g X [.ref (g.2.2 2), .ref (g.2.2 4), .int x2, .int x3, .int x4] σ z.1 z.2 :=
  MetI_of hX (by decide) (Nat.le_of_ble_eq_true rfl) (fun p e s m args below meth c A C => b_X3_takesNumber_2_4 C hf)
-- X3_takesNumber_2_5: takesNumber([IIII)Z
abbrev rm_X3_takesNumber_2_5 : Room := { frames := 7, cells := 0, slots := 0, locals := 150 }
def f_X3_takesNumber_2_5_b29 (N : Nat) (σ : Sg) : Option (Int32 × Sg) :=
(f_X3_advance_2 N σ).bind fun q1 =>
some ((1 : Int32), q1)
set_option maxHeartbeats 4000000 in
set_option maxRecDepth 100000 in
theorem b_X3_takesNumber_2_5_b29 {N : Nat} {σ : Sg} {z : Int32 × Sg} (C : Cx p s m args meth c cX3_takesNumber 5 (some .boolean) RX3 g A X) (hf : f_X3_takesNumber_2_5_b29 N σ = some z) : Bk cw p l e rm_X3_takesNumber_2_5 s m args below meth c 5 g A (MQ below (qI cw g A z.1 z.2) args s 0 0 A) 0 0 29 [(0, .ref (g.2.2 2))] [] σ := by
  obtain ⟨hx, hb, hr, hml, hown, hts, hK, hlocks, hXX, hA, hXo⟩ := id C
  intro H locs ls hP hD hS hl
  unfold f_X3_takesNumber_2_5_b29 at hf
  refine lv_aload_n hx hb dX3_takesNumber_29 rfl (lv_at hl 0 rfl) ?_
  obtain ⟨q1, hq1, hf⟩ := bi_s hf
  refine bk_VV (wf := cw) (q0 := 2) (ci := 3) (rest := []) [] C hP hD hS hl.1 (c_X3_advance_2 hXo hq1) (cwA_V 0 hts wa_241 wa_238 wa_239 wa_240 wa_18 rfl rfl nd_X3_advance ⟨Nat.le_of_ble_eq_true rfl, Nat.le_of_ble_eq_true rfl⟩) rfl rfl rfl rfl (Nat.le_of_ble_eq_true rfl) dX3_takesNumber_30 ⟨Nat.le_of_ble_eq_true rfl, Nat.le_of_ble_eq_true rfl⟩ (fun H locs hP hD hS => ?_)
  refine lv_iconst (v := (1 : Int32)) hx hb dX3_takesNumber_33 (by decide) ?_
  cases hf
  exact bk_zret C hP hD hS (by decide) rfl dX3_takesNumber_34
def f_X3_takesNumber_2_5 (N : Nat) (x2 : Int32) (x3 : Int32) (x4 : Int32) (σ : Sg) : Option (Int32 × Sg) :=
(f_X3_isNumber_2 N x3 x4 σ).bind fun q2 =>
if q2.1 = 0 then (some ((0 : Int32), (q2.2)))
else (if x2 < 0 then (f_X3_takesNumber_2_5_b29 N (q2.2))
else (if (9 : Int32) ≤ x2 then (f_X3_takesNumber_2_5_b29 N (q2.2))
else (if (x2 < 0 ∨ 9 ≤ x2.toNatClampNeg) then none else
bd (wr (q2.2) 5 (x2.toNatClampNeg) ((q2.2) 2 10)) fun σ4 =>
f_X3_takesNumber_2_5_b29 N σ4)))
set_option maxHeartbeats 4000000 in
set_option maxRecDepth 100000 in
theorem b_X3_takesNumber_2_5 {N : Nat} {x2 : Int32} {x3 : Int32} {x4 : Int32} {σ : Sg} {z : Int32 × Sg} (C : Cx p s m args meth c cX3_takesNumber 5 (some .boolean) RX3 g A X) (hf : f_X3_takesNumber_2_5 N x2 x3 x4 σ = some z) : Bk cw p l e rm_X3_takesNumber_2_5 s m args below meth c 5 g A (MQ below (qI cw g A z.1 z.2) args s 0 0 A) 0 0 0 [(0, .ref (g.2.2 2)), (1, .ref (g.2.2 5)), (2, .int x2), (3, .int x3), (4, .int x4)] [] σ := by
  obtain ⟨hx, hb, hr, hml, hown, hts, hK, hlocks, hXX, hA, hXo⟩ := id C
  intro H locs ls hP hD hS hl
  unfold f_X3_takesNumber_2_5 at hf
  refine lv_aload_n hx hb dX3_takesNumber_0 rfl (lv_at hl 0 rfl) ?_
  refine lv_iload_n hx hb dX3_takesNumber_1 rfl (lv_at hl 3 rfl) ?_
  refine lv_iload hx hb dX3_takesNumber_2 (lv_at hl 4 rfl) ?_
  obtain ⟨q2, hq2, hf⟩ := bi_s hf
  refine bk_VI (wf := cw) (q0 := 2) (ci := 3) (rest := []) [.int x3, .int x4] C hP hD hS hl.1 (c_X3_isNumber_2 hXo hq2) (cwA_V 2 hts wa_347 wa_344 wa_345 wa_346 wa_18 rfl rfl nd_X3_isNumber ⟨Nat.le_of_ble_eq_true rfl, Nat.le_of_ble_eq_true rfl⟩) rfl rfl rfl rfl (Nat.le_of_ble_eq_true rfl) dX3_takesNumber_4 ⟨Nat.le_of_ble_eq_true rfl, Nat.le_of_ble_eq_true rfl⟩ (fun H locs hP hD hS => ?_)
  refine lv_if_ne (tgt := 12) hx hb dX3_takesNumber_7 (by decide) (fun t7 => ?_) (fun t7 => ?_)
  · have hf := (if_neg t7).symm.trans hf
    refine lv_iload_n hx hb dX3_takesNumber_12 rfl (lv_at hl 2 rfl) ?_
    refine lv_if_lt (tgt := 29) hx hb dX3_takesNumber_13 (by decide) (fun t13 => ?_) (fun t13 => ?_)
    · have hf := (if_pos t13).symm.trans hf
      exact b_X3_takesNumber_2_5_b29 C hf H locs ls hP hD hS (lv_sub hl [0] rfl)
    · have hf := (if_neg t13).symm.trans hf
      refine lv_iload_n hx hb dX3_takesNumber_16 rfl (lv_at hl 2 rfl) ?_
      refine lv_aload_n hx hb dX3_takesNumber_17 rfl (lv_at hl 1 rfl) ?_
      refine bk_alen (wf := cw) (q0 := 5) (t0 := 0) (v := (9 : Int32)) C hP rfl rfl (show Int32.ofNat 9 = (9 : Int32) by decide) dX3_takesNumber_18 ?_
      refine lv_icmp_ge (tgt := 29) hx hb dX3_takesNumber_19 (by decide) (fun t19 => ?_) (fun t19 => ?_)
      · have hf := (if_pos t19).symm.trans hf
        exact b_X3_takesNumber_2_5_b29 C hf H locs ls hP hD hS (lv_sub hl [0] rfl)
      · have hf := (if_neg t19).symm.trans hf
        refine lv_aload_n hx hb dX3_takesNumber_22 rfl (lv_at hl 1 rfl) ?_
        refine lv_iload_n hx hb dX3_takesNumber_23 rfl (lv_at hl 2 rfl) ?_
        refine lv_aload_n hx hb dX3_takesNumber_24 rfl (lv_at hl 0 rfl) ?_
        refine bk_get (wf := cw) (q0 := 2) (ci := 3) (k := 10) (v := .int ((q2.2) 2 10)) C hP wl_X3 rfl rfl (by decide) wa_61 rfl rfl dX3_takesNumber_25 ?_
        obtain ⟨g3, hf⟩ := gd_s hf
        obtain ⟨σ4, eσ4, hf⟩ := bd_s hf
        refine bk_iast (wf := cw) (σ1 := σ4) (q0 := 5) (n := 9) (j := x2.toNatClampNeg) C hP hD hS rfl g3 rfl (by rw [eσ4]; exact cw_a5 g _ _ _) dX3_takesNumber_28 (fun H locs hP hD hS => ?_)
        exact b_X3_takesNumber_2_5_b29 C hf H locs ls hP hD hS (lv_sub hl [0] rfl)
  · have hf := (if_pos t7).symm.trans hf
    refine lv_iconst (v := (0 : Int32)) hx hb dX3_takesNumber_10 (by decide) ?_
    cases hf
    exact bk_zret C hP hD hS (by decide) rfl dX3_takesNumber_11
theorem c_X3_takesNumber_2_5 {N : Nat} {x2 : Int32} {x3 : Int32} {x4 : Int32} {σ : Sg} {z : Int32 × Sg} (hX : xOK g X) (hf : f_X3_takesNumber_2_5 N x2 x3 x4 σ = some z) : MetI l yX3_takesNumber (Cond.code yX3_takesNumber cX3_takesNumber 5 (some .boolean) :: wsA) rm_X3_takesNumber_2_5 cw g X [.ref (g.2.2 2), .ref (g.2.2 5), .int x2, .int x3, .int x4] σ z.1 z.2 :=
  MetI_of hX (by decide) (Nat.le_of_ble_eq_true rfl) (fun p e s m args below meth c A C => b_X3_takesNumber_2_5 C hf)
-- X3_takesNumber_2_6: takesNumber([IIII)Z
abbrev rm_X3_takesNumber_2_6 : Room := { frames := 7, cells := 0, slots := 0, locals := 150 }
def f_X3_takesNumber_2_6_b29 (N : Nat) (σ : Sg) : Option (Int32 × Sg) :=
(f_X3_advance_2 N σ).bind fun q1 =>
some ((1 : Int32), q1)
set_option maxHeartbeats 4000000 in
set_option maxRecDepth 100000 in
theorem b_X3_takesNumber_2_6_b29 {N : Nat} {σ : Sg} {z : Int32 × Sg} (C : Cx p s m args meth c cX3_takesNumber 5 (some .boolean) RX3 g A X) (hf : f_X3_takesNumber_2_6_b29 N σ = some z) : Bk cw p l e rm_X3_takesNumber_2_6 s m args below meth c 5 g A (MQ below (qI cw g A z.1 z.2) args s 0 0 A) 0 0 29 [(0, .ref (g.2.2 2))] [] σ := by
  obtain ⟨hx, hb, hr, hml, hown, hts, hK, hlocks, hXX, hA, hXo⟩ := id C
  intro H locs ls hP hD hS hl
  unfold f_X3_takesNumber_2_6_b29 at hf
  refine lv_aload_n hx hb dX3_takesNumber_29 rfl (lv_at hl 0 rfl) ?_
  obtain ⟨q1, hq1, hf⟩ := bi_s hf
  refine bk_VV (wf := cw) (q0 := 2) (ci := 3) (rest := []) [] C hP hD hS hl.1 (c_X3_advance_2 hXo hq1) (cwA_V 0 hts wa_241 wa_238 wa_239 wa_240 wa_18 rfl rfl nd_X3_advance ⟨Nat.le_of_ble_eq_true rfl, Nat.le_of_ble_eq_true rfl⟩) rfl rfl rfl rfl (Nat.le_of_ble_eq_true rfl) dX3_takesNumber_30 ⟨Nat.le_of_ble_eq_true rfl, Nat.le_of_ble_eq_true rfl⟩ (fun H locs hP hD hS => ?_)
  refine lv_iconst (v := (1 : Int32)) hx hb dX3_takesNumber_33 (by decide) ?_
  cases hf
  exact bk_zret C hP hD hS (by decide) rfl dX3_takesNumber_34
def f_X3_takesNumber_2_6 (N : Nat) (x2 : Int32) (x3 : Int32) (x4 : Int32) (σ : Sg) : Option (Int32 × Sg) :=
(f_X3_isNumber_2 N x3 x4 σ).bind fun q2 =>
if q2.1 = 0 then (some ((0 : Int32), (q2.2)))
else (if x2 < 0 then (f_X3_takesNumber_2_6_b29 N (q2.2))
else (if (9 : Int32) ≤ x2 then (f_X3_takesNumber_2_6_b29 N (q2.2))
else (if (x2 < 0 ∨ 9 ≤ x2.toNatClampNeg) then none else
bd (wr (q2.2) 6 (x2.toNatClampNeg) ((q2.2) 2 10)) fun σ4 =>
f_X3_takesNumber_2_6_b29 N σ4)))
set_option maxHeartbeats 4000000 in
set_option maxRecDepth 100000 in
theorem b_X3_takesNumber_2_6 {N : Nat} {x2 : Int32} {x3 : Int32} {x4 : Int32} {σ : Sg} {z : Int32 × Sg} (C : Cx p s m args meth c cX3_takesNumber 5 (some .boolean) RX3 g A X) (hf : f_X3_takesNumber_2_6 N x2 x3 x4 σ = some z) : Bk cw p l e rm_X3_takesNumber_2_6 s m args below meth c 5 g A (MQ below (qI cw g A z.1 z.2) args s 0 0 A) 0 0 0 [(0, .ref (g.2.2 2)), (1, .ref (g.2.2 6)), (2, .int x2), (3, .int x3), (4, .int x4)] [] σ := by
  obtain ⟨hx, hb, hr, hml, hown, hts, hK, hlocks, hXX, hA, hXo⟩ := id C
  intro H locs ls hP hD hS hl
  unfold f_X3_takesNumber_2_6 at hf
  refine lv_aload_n hx hb dX3_takesNumber_0 rfl (lv_at hl 0 rfl) ?_
  refine lv_iload_n hx hb dX3_takesNumber_1 rfl (lv_at hl 3 rfl) ?_
  refine lv_iload hx hb dX3_takesNumber_2 (lv_at hl 4 rfl) ?_
  obtain ⟨q2, hq2, hf⟩ := bi_s hf
  refine bk_VI (wf := cw) (q0 := 2) (ci := 3) (rest := []) [.int x3, .int x4] C hP hD hS hl.1 (c_X3_isNumber_2 hXo hq2) (cwA_V 2 hts wa_347 wa_344 wa_345 wa_346 wa_18 rfl rfl nd_X3_isNumber ⟨Nat.le_of_ble_eq_true rfl, Nat.le_of_ble_eq_true rfl⟩) rfl rfl rfl rfl (Nat.le_of_ble_eq_true rfl) dX3_takesNumber_4 ⟨Nat.le_of_ble_eq_true rfl, Nat.le_of_ble_eq_true rfl⟩ (fun H locs hP hD hS => ?_)
  refine lv_if_ne (tgt := 12) hx hb dX3_takesNumber_7 (by decide) (fun t7 => ?_) (fun t7 => ?_)
  · have hf := (if_neg t7).symm.trans hf
    refine lv_iload_n hx hb dX3_takesNumber_12 rfl (lv_at hl 2 rfl) ?_
    refine lv_if_lt (tgt := 29) hx hb dX3_takesNumber_13 (by decide) (fun t13 => ?_) (fun t13 => ?_)
    · have hf := (if_pos t13).symm.trans hf
      exact b_X3_takesNumber_2_6_b29 C hf H locs ls hP hD hS (lv_sub hl [0] rfl)
    · have hf := (if_neg t13).symm.trans hf
      refine lv_iload_n hx hb dX3_takesNumber_16 rfl (lv_at hl 2 rfl) ?_
      refine lv_aload_n hx hb dX3_takesNumber_17 rfl (lv_at hl 1 rfl) ?_
      refine bk_alen (wf := cw) (q0 := 6) (t0 := 0) (v := (9 : Int32)) C hP rfl rfl (show Int32.ofNat 9 = (9 : Int32) by decide) dX3_takesNumber_18 ?_
      refine lv_icmp_ge (tgt := 29) hx hb dX3_takesNumber_19 (by decide) (fun t19 => ?_) (fun t19 => ?_)
      · have hf := (if_pos t19).symm.trans hf
        exact b_X3_takesNumber_2_6_b29 C hf H locs ls hP hD hS (lv_sub hl [0] rfl)
      · have hf := (if_neg t19).symm.trans hf
        refine lv_aload_n hx hb dX3_takesNumber_22 rfl (lv_at hl 1 rfl) ?_
        refine lv_iload_n hx hb dX3_takesNumber_23 rfl (lv_at hl 2 rfl) ?_
        refine lv_aload_n hx hb dX3_takesNumber_24 rfl (lv_at hl 0 rfl) ?_
        refine bk_get (wf := cw) (q0 := 2) (ci := 3) (k := 10) (v := .int ((q2.2) 2 10)) C hP wl_X3 rfl rfl (by decide) wa_61 rfl rfl dX3_takesNumber_25 ?_
        obtain ⟨g3, hf⟩ := gd_s hf
        obtain ⟨σ4, eσ4, hf⟩ := bd_s hf
        refine bk_iast (wf := cw) (σ1 := σ4) (q0 := 6) (n := 9) (j := x2.toNatClampNeg) C hP hD hS rfl g3 rfl (by rw [eσ4]; exact cw_a6 g _ _ _) dX3_takesNumber_28 (fun H locs hP hD hS => ?_)
        exact b_X3_takesNumber_2_6_b29 C hf H locs ls hP hD hS (lv_sub hl [0] rfl)
  · have hf := (if_pos t7).symm.trans hf
    refine lv_iconst (v := (0 : Int32)) hx hb dX3_takesNumber_10 (by decide) ?_
    cases hf
    exact bk_zret C hP hD hS (by decide) rfl dX3_takesNumber_11
theorem c_X3_takesNumber_2_6 {N : Nat} {x2 : Int32} {x3 : Int32} {x4 : Int32} {σ : Sg} {z : Int32 × Sg} (hX : xOK g X) (hf : f_X3_takesNumber_2_6 N x2 x3 x4 σ = some z) : MetI l yX3_takesNumber (Cond.code yX3_takesNumber cX3_takesNumber 5 (some .boolean) :: wsA) rm_X3_takesNumber_2_6 cw g X [.ref (g.2.2 2), .ref (g.2.2 6), .int x2, .int x3, .int x4] σ z.1 z.2 :=
  MetI_of hX (by decide) (Nat.le_of_ble_eq_true rfl) (fun p e s m args below meth c A C => b_X3_takesNumber_2_6 C hf)
-- X3_takesNumber_2_7: takesNumber([IIII)Z
abbrev rm_X3_takesNumber_2_7 : Room := { frames := 7, cells := 0, slots := 0, locals := 150 }
def f_X3_takesNumber_2_7_b29 (N : Nat) (σ : Sg) : Option (Int32 × Sg) :=
(f_X3_advance_2 N σ).bind fun q1 =>
some ((1 : Int32), q1)
set_option maxHeartbeats 4000000 in
set_option maxRecDepth 100000 in
theorem b_X3_takesNumber_2_7_b29 {N : Nat} {σ : Sg} {z : Int32 × Sg} (C : Cx p s m args meth c cX3_takesNumber 5 (some .boolean) RX3 g A X) (hf : f_X3_takesNumber_2_7_b29 N σ = some z) : Bk cw p l e rm_X3_takesNumber_2_7 s m args below meth c 5 g A (MQ below (qI cw g A z.1 z.2) args s 0 0 A) 0 0 29 [(0, .ref (g.2.2 2))] [] σ := by
  obtain ⟨hx, hb, hr, hml, hown, hts, hK, hlocks, hXX, hA, hXo⟩ := id C
  intro H locs ls hP hD hS hl
  unfold f_X3_takesNumber_2_7_b29 at hf
  refine lv_aload_n hx hb dX3_takesNumber_29 rfl (lv_at hl 0 rfl) ?_
  obtain ⟨q1, hq1, hf⟩ := bi_s hf
  refine bk_VV (wf := cw) (q0 := 2) (ci := 3) (rest := []) [] C hP hD hS hl.1 (c_X3_advance_2 hXo hq1) (cwA_V 0 hts wa_241 wa_238 wa_239 wa_240 wa_18 rfl rfl nd_X3_advance ⟨Nat.le_of_ble_eq_true rfl, Nat.le_of_ble_eq_true rfl⟩) rfl rfl rfl rfl (Nat.le_of_ble_eq_true rfl) dX3_takesNumber_30 ⟨Nat.le_of_ble_eq_true rfl, Nat.le_of_ble_eq_true rfl⟩ (fun H locs hP hD hS => ?_)
  refine lv_iconst (v := (1 : Int32)) hx hb dX3_takesNumber_33 (by decide) ?_
  cases hf
  exact bk_zret C hP hD hS (by decide) rfl dX3_takesNumber_34
def f_X3_takesNumber_2_7 (N : Nat) (x2 : Int32) (x3 : Int32) (x4 : Int32) (σ : Sg) : Option (Int32 × Sg) :=
(f_X3_isNumber_2 N x3 x4 σ).bind fun q2 =>
if q2.1 = 0 then (some ((0 : Int32), (q2.2)))
else (if x2 < 0 then (f_X3_takesNumber_2_7_b29 N (q2.2))
else (if (9 : Int32) ≤ x2 then (f_X3_takesNumber_2_7_b29 N (q2.2))
else (if (x2 < 0 ∨ 9 ≤ x2.toNatClampNeg) then none else
bd (wr (q2.2) 7 (x2.toNatClampNeg) ((q2.2) 2 10)) fun σ4 =>
f_X3_takesNumber_2_7_b29 N σ4)))
set_option maxHeartbeats 4000000 in
set_option maxRecDepth 100000 in
theorem b_X3_takesNumber_2_7 {N : Nat} {x2 : Int32} {x3 : Int32} {x4 : Int32} {σ : Sg} {z : Int32 × Sg} (C : Cx p s m args meth c cX3_takesNumber 5 (some .boolean) RX3 g A X) (hf : f_X3_takesNumber_2_7 N x2 x3 x4 σ = some z) : Bk cw p l e rm_X3_takesNumber_2_7 s m args below meth c 5 g A (MQ below (qI cw g A z.1 z.2) args s 0 0 A) 0 0 0 [(0, .ref (g.2.2 2)), (1, .ref (g.2.2 7)), (2, .int x2), (3, .int x3), (4, .int x4)] [] σ := by
  obtain ⟨hx, hb, hr, hml, hown, hts, hK, hlocks, hXX, hA, hXo⟩ := id C
  intro H locs ls hP hD hS hl
  unfold f_X3_takesNumber_2_7 at hf
  refine lv_aload_n hx hb dX3_takesNumber_0 rfl (lv_at hl 0 rfl) ?_
  refine lv_iload_n hx hb dX3_takesNumber_1 rfl (lv_at hl 3 rfl) ?_
  refine lv_iload hx hb dX3_takesNumber_2 (lv_at hl 4 rfl) ?_
  obtain ⟨q2, hq2, hf⟩ := bi_s hf
  refine bk_VI (wf := cw) (q0 := 2) (ci := 3) (rest := []) [.int x3, .int x4] C hP hD hS hl.1 (c_X3_isNumber_2 hXo hq2) (cwA_V 2 hts wa_347 wa_344 wa_345 wa_346 wa_18 rfl rfl nd_X3_isNumber ⟨Nat.le_of_ble_eq_true rfl, Nat.le_of_ble_eq_true rfl⟩) rfl rfl rfl rfl (Nat.le_of_ble_eq_true rfl) dX3_takesNumber_4 ⟨Nat.le_of_ble_eq_true rfl, Nat.le_of_ble_eq_true rfl⟩ (fun H locs hP hD hS => ?_)
  refine lv_if_ne (tgt := 12) hx hb dX3_takesNumber_7 (by decide) (fun t7 => ?_) (fun t7 => ?_)
  · have hf := (if_neg t7).symm.trans hf
    refine lv_iload_n hx hb dX3_takesNumber_12 rfl (lv_at hl 2 rfl) ?_
    refine lv_if_lt (tgt := 29) hx hb dX3_takesNumber_13 (by decide) (fun t13 => ?_) (fun t13 => ?_)
    · have hf := (if_pos t13).symm.trans hf
      exact b_X3_takesNumber_2_7_b29 C hf H locs ls hP hD hS (lv_sub hl [0] rfl)
    · have hf := (if_neg t13).symm.trans hf
      refine lv_iload_n hx hb dX3_takesNumber_16 rfl (lv_at hl 2 rfl) ?_
      refine lv_aload_n hx hb dX3_takesNumber_17 rfl (lv_at hl 1 rfl) ?_
      refine bk_alen (wf := cw) (q0 := 7) (t0 := 0) (v := (9 : Int32)) C hP rfl rfl (show Int32.ofNat 9 = (9 : Int32) by decide) dX3_takesNumber_18 ?_
      refine lv_icmp_ge (tgt := 29) hx hb dX3_takesNumber_19 (by decide) (fun t19 => ?_) (fun t19 => ?_)
      · have hf := (if_pos t19).symm.trans hf
        exact b_X3_takesNumber_2_7_b29 C hf H locs ls hP hD hS (lv_sub hl [0] rfl)
      · have hf := (if_neg t19).symm.trans hf
        refine lv_aload_n hx hb dX3_takesNumber_22 rfl (lv_at hl 1 rfl) ?_
        refine lv_iload_n hx hb dX3_takesNumber_23 rfl (lv_at hl 2 rfl) ?_
        refine lv_aload_n hx hb dX3_takesNumber_24 rfl (lv_at hl 0 rfl) ?_
        refine bk_get (wf := cw) (q0 := 2) (ci := 3) (k := 10) (v := .int ((q2.2) 2 10)) C hP wl_X3 rfl rfl (by decide) wa_61 rfl rfl dX3_takesNumber_25 ?_
        obtain ⟨g3, hf⟩ := gd_s hf
        obtain ⟨σ4, eσ4, hf⟩ := bd_s hf
        refine bk_iast (wf := cw) (σ1 := σ4) (q0 := 7) (n := 9) (j := x2.toNatClampNeg) C hP hD hS rfl g3 rfl (by rw [eσ4]; exact cw_a7 g _ _ _) dX3_takesNumber_28 (fun H locs hP hD hS => ?_)
        exact b_X3_takesNumber_2_7_b29 C hf H locs ls hP hD hS (lv_sub hl [0] rfl)
  · have hf := (if_pos t7).symm.trans hf
    refine lv_iconst (v := (0 : Int32)) hx hb dX3_takesNumber_10 (by decide) ?_
    cases hf
    exact bk_zret C hP hD hS (by decide) rfl dX3_takesNumber_11
theorem c_X3_takesNumber_2_7 {N : Nat} {x2 : Int32} {x3 : Int32} {x4 : Int32} {σ : Sg} {z : Int32 × Sg} (hX : xOK g X) (hf : f_X3_takesNumber_2_7 N x2 x3 x4 σ = some z) : MetI l yX3_takesNumber (Cond.code yX3_takesNumber cX3_takesNumber 5 (some .boolean) :: wsA) rm_X3_takesNumber_2_7 cw g X [.ref (g.2.2 2), .ref (g.2.2 7), .int x2, .int x3, .int x4] σ z.1 z.2 :=
  MetI_of hX (by decide) (Nat.le_of_ble_eq_true rfl) (fun p e s m args below meth c A C => b_X3_takesNumber_2_7 C hf)
-- X3_endsLine_2: endsLine()Z
abbrev rm_X3_endsLine_2 : Room := { frames := 7, cells := 0, slots := 0, locals := 150 }
theorem nd_X3_endsLine : yX3_endsLine.cls ≠ "java/lang/invoke/MethodHandle" ∧ yX3_endsLine.cls ≠ "java/lang/invoke/VarHandle" ∧ (parseMethodDescriptor yX3_endsLine.desc).map (fun d => d.parameters.length) = some 0 := by decide +kernel
def f_X3_endsLine_2 (N : Nat) (σ : Sg) : Option (Int32 × Sg) :=
if ((σ 2 5) < 0 ∨ 27 ≤ (σ 2 5).toNatClampNeg) then none else
if (σ 2 5) = (4 : Int32) then ((f_X3_advance_2 N σ).bind fun q2 =>
some ((1 : Int32), q2))
else ((f_X3_fails_2 N (1 : Int32) σ).bind fun q3 =>
if ¬ (q3.1 = 0 ∨ q3.1 = 1) then none else some (q3.1, (q3.2)))
set_option maxHeartbeats 4000000 in
set_option maxRecDepth 100000 in
theorem b_X3_endsLine_2 {N : Nat} {σ : Sg} {z : Int32 × Sg} (C : Cx p s m args meth c cX3_endsLine 1 (some .boolean) RX3 g A X) (hf : f_X3_endsLine_2 N σ = some z) : Bk cw p l e rm_X3_endsLine_2 s m args below meth c 1 g A (MQ below (qI cw g A z.1 z.2) args s 0 0 A) 0 0 0 [(0, .ref (g.2.2 2))] [] σ := by
  obtain ⟨hx, hb, hr, hml, hown, hts, hK, hlocks, hXX, hA, hXo⟩ := id C
  intro H locs ls hP hD hS hl
  unfold f_X3_endsLine_2 at hf
  refine lv_aload_n hx hb dX3_endsLine_0 rfl (lv_at hl 0 rfl) ?_
  refine bk_get (wf := cw) (q0 := 2) (ci := 3) (k := 5) (v := .ref (g.2.2 (300 + (σ 2 5).toNatClampNeg))) C hP wl_X3 rfl rfl (by decide) wa_56 rfl rfl dX3_endsLine_1 ?_
  refine va_gets (v := .ref (g.2.2 (300 + (4 : Int32).toNatClampNeg))) hx hb (tok_Z (hXo.2.2.2 _ _ _ hXX).2.2.2.2.2.1 4 "SEMICOLON" (by decide) (by decide) rfl) hS hown (hts _ wa_360) (fun _ h => h) dX3_endsLine_4 ?_
  obtain ⟨g1, hf⟩ := gd_s hf
  refine bk_acq (tgt := 16) C g1 (vin_l (by decide) (by decide)) dX3_endsLine_7 (by decide) (fun t7 => ?_) (fun t7 => ?_)
  · have hf := (if_pos t7).symm.trans hf
    refine lv_aload_n hx hb dX3_endsLine_16 rfl (lv_at hl 0 rfl) ?_
    obtain ⟨q2, hq2, hf⟩ := bi_s hf
    refine bk_VV (wf := cw) (q0 := 2) (ci := 3) (rest := []) [] C hP hD hS hl.1 (c_X3_advance_2 hXo hq2) (cwA_V 0 hts wa_241 wa_238 wa_239 wa_240 wa_18 rfl rfl nd_X3_advance ⟨Nat.le_of_ble_eq_true rfl, Nat.le_of_ble_eq_true rfl⟩) rfl rfl rfl rfl (Nat.le_of_ble_eq_true rfl) dX3_endsLine_17 ⟨Nat.le_of_ble_eq_true rfl, Nat.le_of_ble_eq_true rfl⟩ (fun H locs hP hD hS => ?_)
    refine lv_iconst (v := (1 : Int32)) hx hb dX3_endsLine_20 (by decide) ?_
    cases hf
    exact bk_zret C hP hD hS (by decide) rfl dX3_endsLine_21
  · have hf := (if_neg t7).symm.trans hf
    refine lv_aload_n hx hb dX3_endsLine_10 rfl (lv_at hl 0 rfl) ?_
    refine lv_iconst (v := (1 : Int32)) hx hb dX3_endsLine_11 (by decide) ?_
    obtain ⟨q3, hq3, hf⟩ := bi_s hf
    refine bk_VI (wf := cw) (q0 := 2) (ci := 3) (rest := []) [.int (1 : Int32)] C hP hD hS hl.1 (c_X3_fails_2 hXo hq3) (cwA_V 1 hts wa_343 wa_340 wa_341 wa_342 wa_18 rfl rfl nd_X3_fails ⟨Nat.le_of_ble_eq_true rfl, Nat.le_of_ble_eq_true rfl⟩) rfl rfl rfl rfl (Nat.le_of_ble_eq_true rfl) dX3_endsLine_12 ⟨Nat.le_of_ble_eq_true rfl, Nat.le_of_ble_eq_true rfl⟩ (fun H locs hP hD hS => ?_)
    obtain ⟨g4, hf⟩ := gd_s hf
    cases hf
    exact bk_zret C hP hD hS (Decidable.not_not.mp g4) rfl dX3_endsLine_15
theorem c_X3_endsLine_2 {N : Nat} {σ : Sg} {z : Int32 × Sg} (hX : xOK g X) (hf : f_X3_endsLine_2 N σ = some z) : MetI l yX3_endsLine (Cond.code yX3_endsLine cX3_endsLine 1 (some .boolean) :: wsA) rm_X3_endsLine_2 cw g X [.ref (g.2.2 2)] σ z.1 z.2 :=
  MetI_of hX (by decide) (Nat.le_of_ble_eq_true rfl) (fun p e s m args below meth c A C => b_X3_endsLine_2 C hf)
-- X3_readsFarm_2: readsFarm(I)Z
abbrev rm_X3_readsFarm_2 : Room := { frames := 8, cells := 0, slots := 0, locals := 174 }
theorem nd_X3_readsFarm : yX3_readsFarm.cls ≠ "java/lang/invoke/MethodHandle" ∧ yX3_readsFarm.cls ≠ "java/lang/invoke/VarHandle" ∧ (parseMethodDescriptor yX3_readsFarm.desc).map (fun d => d.parameters.length) = some 1 := by decide +kernel
def f_X3_readsFarm_2_b166 (N : Nat) (σ : Sg) : Option (Int32 × Sg) :=
some ((0 : Int32), σ)
set_option maxHeartbeats 4000000 in
set_option maxRecDepth 100000 in
theorem b_X3_readsFarm_2_b166 {N : Nat} {σ : Sg} {z : Int32 × Sg} (C : Cx p s m args meth c cX3_readsFarm 3 (some .boolean) RX3 g A X) (hf : f_X3_readsFarm_2_b166 N σ = some z) : Bk cw p l e rm_X3_readsFarm_2 s m args below meth c 3 g A (MQ below (qI cw g A z.1 z.2) args s 0 0 A) 0 0 166 [] [] σ := by
  obtain ⟨hx, hb, hr, hml, hown, hts, hK, hlocks, hXX, hA, hXo⟩ := id C
  intro H locs ls hP hD hS hl
  unfold f_X3_readsFarm_2_b166 at hf
  refine lv_iconst (v := (0 : Int32)) hx hb dX3_readsFarm_166 (by decide) ?_
  cases hf
  exact bk_zret C hP hD hS (by decide) rfl dX3_readsFarm_167
def f_X3_readsFarm_2 (N : Nat) (x1 : Int32) (σ : Sg) : Option (Int32 × Sg) :=
bd (σ 3 0) fun v1 =>
if v1 < (9 : Int32) then ((f_X3_advance_2 N σ).bind fun q2 =>
(f_X3_isNumber_2 N (0 : Int32) (99 : Int32) q2).bind fun q3 =>
if q3.1 = 0 then (some ((0 : Int32), (q3.2)))
else ((f_X9_isTaken_3 N ((q3.2) 2 10) (q3.2)).bind fun q4 =>
if q4.1 = 0 then (bd (wr (q4.2) 3 5 (((q4.2) 3 5) ||| (x1 <<< (v1 &&& 31)))) fun σ5 =>
bd (wr σ5 3 0 ((σ5 3 0) + (1 : Int32))) fun σ6 =>
(f_X3_takesNumber_2_4 N v1 (0 : Int32) (99 : Int32) σ6).bind fun q7 =>
if q7.1 = 0 then (f_X3_readsFarm_2_b166 N (q7.2))
else ((f_X3_takesNumber_2_5 N v1 (0 : Int32) (99 : Int32) (q7.2)).bind fun q8 =>
if q8.1 = 0 then (f_X3_readsFarm_2_b166 N (q8.2))
else ((f_X3_takesNumber_2_6 N v1 (0 : Int32) (20 : Int32) (q8.2)).bind fun q9 =>
if q9.1 = 0 then (f_X3_readsFarm_2_b166 N (q9.2))
else ((f_X3_takesNumber_2_7 N v1 (1 : Int32) (5 : Int32) (q9.2)).bind fun q10 =>
if q10.1 = 0 then (f_X3_readsFarm_2_b166 N (q10.2))
else ((f_X3_endsLine_2 N (q10.2)).bind fun q11 =>
if q11.1 = 0 then (f_X3_readsFarm_2_b166 N (q11.2))
else (some ((1 : Int32), (q11.2))))))))
else ((f_X3_fails_2 N (4 : Int32) (q4.2)).bind fun q12 =>
if ¬ (q12.1 = 0 ∨ q12.1 = 1) then none else some (q12.1, (q12.2)))))
else ((f_X3_fails_2 N (2 : Int32) σ).bind fun q14 =>
if ¬ (q14.1 = 0 ∨ q14.1 = 1) then none else some (q14.1, (q14.2)))
set_option maxHeartbeats 4000000 in
set_option maxRecDepth 100000 in
theorem b_X3_readsFarm_2 {N : Nat} {x1 : Int32} {σ : Sg} {z : Int32 × Sg} (C : Cx p s m args meth c cX3_readsFarm 3 (some .boolean) RX3 g A X) (hf : f_X3_readsFarm_2 N x1 σ = some z) : Bk cw p l e rm_X3_readsFarm_2 s m args below meth c 3 g A (MQ below (qI cw g A z.1 z.2) args s 0 0 A) 0 0 0 [(0, .ref (g.2.2 2)), (1, .int x1)] [] σ := by
  obtain ⟨hx, hb, hr, hml, hown, hts, hK, hlocks, hXX, hA, hXo⟩ := id C
  intro H locs ls hP hD hS hl
  unfold f_X3_readsFarm_2 at hf
  refine lv_aload_n hx hb dX3_readsFarm_0 rfl (lv_at hl 0 rfl) ?_
  refine bk_get (wf := cw) (q0 := 2) (ci := 3) (k := 0) (v := .ref (g.2.2 3)) C hP wl_X3 rfl rfl (by decide) wa_51 rfl rfl dX3_readsFarm_1 ?_
  refine bk_get (wf := cw) (q0 := 3) (ci := 8) (k := 0) (v := .int (σ 3 0)) C hP wl_X9 rfl rfl (by decide) wa_334 rfl rfl dX3_readsFarm_4 ?_
  obtain ⟨v1, ev1, hf⟩ := bd_s hf
  rw [← ev1]
  refine lv_istore_n (lv' := [(2, .int v1), (0, .ref (g.2.2 2)), (1, .int x1)]) hx hb dX3_readsFarm_7 rfl hl (by decide) rfl (fun ls hl => ?_)
  refine lv_iload_n hx hb dX3_readsFarm_8 rfl (lv_at hl 0 rfl) ?_
  refine lv_bipush (v := (9 : Int32)) hx hb dX3_readsFarm_9 (by decide) ?_
  refine lv_icmp_lt (tgt := 20) hx hb dX3_readsFarm_11 (by decide) (fun t11 => ?_) (fun t11 => ?_)
  · have hf := (if_pos t11).symm.trans hf
    refine lv_aload_n hx hb dX3_readsFarm_20 rfl (lv_at hl 1 rfl) ?_
    obtain ⟨q2, hq2, hf⟩ := bi_s hf
    refine bk_VV (wf := cw) (q0 := 2) (ci := 3) (rest := []) [] C hP hD hS hl.1 (c_X3_advance_2 hXo hq2) (cwA_V 0 hts wa_241 wa_238 wa_239 wa_240 wa_18 rfl rfl nd_X3_advance ⟨Nat.le_of_ble_eq_true rfl, Nat.le_of_ble_eq_true rfl⟩) rfl rfl rfl rfl (Nat.le_of_ble_eq_true rfl) dX3_readsFarm_21 ⟨Nat.le_of_ble_eq_true rfl, Nat.le_of_ble_eq_true rfl⟩ (fun H locs hP hD hS => ?_)
    refine lv_aload_n hx hb dX3_readsFarm_24 rfl (lv_at hl 1 rfl) ?_
    refine lv_iconst (v := (0 : Int32)) hx hb dX3_readsFarm_25 (by decide) ?_
    refine lv_bipush (v := (99 : Int32)) hx hb dX3_readsFarm_26 (by decide) ?_
    obtain ⟨q3, hq3, hf⟩ := bi_s hf
    refine bk_VI (wf := cw) (q0 := 2) (ci := 3) (rest := []) [.int (0 : Int32), .int (99 : Int32)] C hP hD hS hl.1 (c_X3_isNumber_2 hXo hq3) (cwA_V 2 hts wa_347 wa_344 wa_345 wa_346 wa_18 rfl rfl nd_X3_isNumber ⟨Nat.le_of_ble_eq_true rfl, Nat.le_of_ble_eq_true rfl⟩) rfl rfl rfl rfl (Nat.le_of_ble_eq_true rfl) dX3_readsFarm_28 ⟨Nat.le_of_ble_eq_true rfl, Nat.le_of_ble_eq_true rfl⟩ (fun H locs hP hD hS => ?_)
    refine lv_if_ne (tgt := 36) hx hb dX3_readsFarm_31 (by decide) (fun t31 => ?_) (fun t31 => ?_)
    · have hf := (if_neg t31).symm.trans hf
      refine lv_aload_n hx hb dX3_readsFarm_36 rfl (lv_at hl 1 rfl) ?_
      refine bk_get (wf := cw) (q0 := 2) (ci := 3) (k := 0) (v := .ref (g.2.2 3)) C hP wl_X3 rfl rfl (by decide) wa_51 rfl rfl dX3_readsFarm_37 ?_
      refine lv_aload_n hx hb dX3_readsFarm_40 rfl (lv_at hl 1 rfl) ?_
      refine bk_get (wf := cw) (q0 := 2) (ci := 3) (k := 10) (v := .int ((q3.2) 2 10)) C hP wl_X3 rfl rfl (by decide) wa_61 rfl rfl dX3_readsFarm_41 ?_
      obtain ⟨q4, hq4, hf⟩ := bi_s hf
      refine bk_VI (wf := cw) (q0 := 3) (ci := 8) (rest := []) [.int ((q3.2) 2 10)] C hP hD hS hl.1 (c_X9_isTaken_3 hXo hq4) (cwA_V 1 hts wa_351 wa_348 wa_349 wa_350 wa_22 rfl rfl nd_X9_isTaken ⟨Nat.le_of_ble_eq_true rfl, Nat.le_of_ble_eq_true rfl⟩) rfl rfl rfl rfl (Nat.le_of_ble_eq_true rfl) dX3_readsFarm_44 ⟨Nat.le_of_ble_eq_true rfl, Nat.le_of_ble_eq_true rfl⟩ (fun H locs hP hD hS => ?_)
      refine lv_if_eq (tgt := 56) hx hb dX3_readsFarm_47 (by decide) (fun t47 => ?_) (fun t47 => ?_)
      · have hf := (if_pos t47).symm.trans hf
        refine lv_aload_n hx hb dX3_readsFarm_56 rfl (lv_at hl 1 rfl) ?_
        refine bk_get (wf := cw) (q0 := 2) (ci := 3) (k := 0) (v := .ref (g.2.2 3)) C hP wl_X3 rfl rfl (by decide) wa_51 rfl rfl dX3_readsFarm_57 ?_
        refine lv_dup hx hb dX3_readsFarm_60 rfl ?_
        refine bk_get (wf := cw) (q0 := 3) (ci := 8) (k := 5) (v := .int ((q4.2) 3 5)) C hP wl_X9 rfl rfl (by decide) wa_335 rfl rfl dX3_readsFarm_61 ?_
        refine lv_iload_n hx hb dX3_readsFarm_64 rfl (lv_at hl 2 rfl) ?_
        refine lv_iload_n hx hb dX3_readsFarm_65 rfl (lv_at hl 0 rfl) ?_
        refine lv_ishl hx hb dX3_readsFarm_66 ?_
        refine lv_ior hx hb dX3_readsFarm_67 ?_
        obtain ⟨σ5, eσ5, hf⟩ := bd_s hf
        refine bk_put (wf := cw) (σ1 := σ5) (q0 := 3) (ci := 8) (k := 5) (v := .int (((q4.2) 3 5) ||| (x1 <<< (v1 &&& 31)))) C hP hD hS wl_X9 tyX9_ok nmX9 rfl rfl (by decide) wa_335 rfl rfl rfl rfl rfl (Nat.le_of_ble_eq_true rfl) (by rw [eσ5]; exact cw_p3_5 g _ _) dX3_readsFarm_68 (fun H locs hP hD hS => ?_)
        refine lv_aload_n hx hb dX3_readsFarm_71 rfl (lv_at hl 1 rfl) ?_
        refine bk_get (wf := cw) (q0 := 2) (ci := 3) (k := 0) (v := .ref (g.2.2 3)) C hP wl_X3 rfl rfl (by decide) wa_51 rfl rfl dX3_readsFarm_72 ?_
        refine lv_dup hx hb dX3_readsFarm_75 rfl ?_
        refine bk_get (wf := cw) (q0 := 3) (ci := 8) (k := 0) (v := .int (σ5 3 0)) C hP wl_X9 rfl rfl (by decide) wa_334 rfl rfl dX3_readsFarm_76 ?_
        refine lv_iconst (v := (1 : Int32)) hx hb dX3_readsFarm_79 (by decide) ?_
        refine lv_iadd hx hb dX3_readsFarm_80 ?_
        obtain ⟨σ6, eσ6, hf⟩ := bd_s hf
        refine bk_put (wf := cw) (σ1 := σ6) (q0 := 3) (ci := 8) (k := 0) (v := .int ((σ5 3 0) + (1 : Int32))) C hP hD hS wl_X9 tyX9_ok nmX9 rfl rfl (by decide) wa_334 rfl rfl rfl rfl rfl (Nat.le_of_ble_eq_true rfl) (by rw [eσ6]; exact cw_p3_0 g _ _) dX3_readsFarm_81 (fun H locs hP hD hS => ?_)
        refine lv_aload_n hx hb dX3_readsFarm_84 rfl (lv_at hl 1 rfl) ?_
        refine lv_aload_n hx hb dX3_readsFarm_85 rfl (lv_at hl 1 rfl) ?_
        refine bk_get (wf := cw) (q0 := 2) (ci := 3) (k := 0) (v := .ref (g.2.2 3)) C hP wl_X3 rfl rfl (by decide) wa_51 rfl rfl dX3_readsFarm_86 ?_
        refine bk_get (wf := cw) (q0 := 3) (ci := 8) (k := 1) (v := .ref (g.2.2 4)) C hP wl_X9 rfl rfl (by decide) wa_336 rfl rfl dX3_readsFarm_89 ?_
        refine lv_iload_n hx hb dX3_readsFarm_92 rfl (lv_at hl 0 rfl) ?_
        refine lv_iconst (v := (0 : Int32)) hx hb dX3_readsFarm_93 (by decide) ?_
        refine lv_bipush (v := (99 : Int32)) hx hb dX3_readsFarm_94 (by decide) ?_
        obtain ⟨q7, hq7, hf⟩ := bi_s hf
        refine bk_VI (wf := cw) (q0 := 2) (ci := 3) (rest := []) [.ref (g.2.2 4), .int v1, .int (0 : Int32), .int (99 : Int32)] C hP hD hS hl.1 (c_X3_takesNumber_2_4 hXo hq7) (cwA_V 4 hts wa_355 wa_352 wa_353 wa_354 wa_18 rfl rfl nd_X3_takesNumber ⟨Nat.le_of_ble_eq_true rfl, Nat.le_of_ble_eq_true rfl⟩) rfl rfl rfl rfl (Nat.le_of_ble_eq_true rfl) dX3_readsFarm_96 ⟨Nat.le_of_ble_eq_true rfl, Nat.le_of_ble_eq_true rfl⟩ (fun H locs hP hD hS => ?_)
        refine lv_if_eq (tgt := 166) hx hb dX3_readsFarm_99 (by decide) (fun t99 => ?_) (fun t99 => ?_)
        · have hf := (if_pos t99).symm.trans hf
          exact b_X3_readsFarm_2_b166 C hf H locs ls hP hD hS (lv_sub hl [] rfl)
        · have hf := (if_neg t99).symm.trans hf
          refine lv_aload_n hx hb dX3_readsFarm_102 rfl (lv_at hl 1 rfl) ?_
          refine lv_aload_n hx hb dX3_readsFarm_103 rfl (lv_at hl 1 rfl) ?_
          refine bk_get (wf := cw) (q0 := 2) (ci := 3) (k := 0) (v := .ref (g.2.2 3)) C hP wl_X3 rfl rfl (by decide) wa_51 rfl rfl dX3_readsFarm_104 ?_
          refine bk_get (wf := cw) (q0 := 3) (ci := 8) (k := 2) (v := .ref (g.2.2 5)) C hP wl_X9 rfl rfl (by decide) wa_337 rfl rfl dX3_readsFarm_107 ?_
          refine lv_iload_n hx hb dX3_readsFarm_110 rfl (lv_at hl 0 rfl) ?_
          refine lv_iconst (v := (0 : Int32)) hx hb dX3_readsFarm_111 (by decide) ?_
          refine lv_bipush (v := (99 : Int32)) hx hb dX3_readsFarm_112 (by decide) ?_
          obtain ⟨q8, hq8, hf⟩ := bi_s hf
          refine bk_VI (wf := cw) (q0 := 2) (ci := 3) (rest := []) [.ref (g.2.2 5), .int v1, .int (0 : Int32), .int (99 : Int32)] C hP hD hS hl.1 (c_X3_takesNumber_2_5 hXo hq8) (cwA_V 4 hts wa_355 wa_352 wa_353 wa_354 wa_18 rfl rfl nd_X3_takesNumber ⟨Nat.le_of_ble_eq_true rfl, Nat.le_of_ble_eq_true rfl⟩) rfl rfl rfl rfl (Nat.le_of_ble_eq_true rfl) dX3_readsFarm_114 ⟨Nat.le_of_ble_eq_true rfl, Nat.le_of_ble_eq_true rfl⟩ (fun H locs hP hD hS => ?_)
          refine lv_if_eq (tgt := 166) hx hb dX3_readsFarm_117 (by decide) (fun t117 => ?_) (fun t117 => ?_)
          · have hf := (if_pos t117).symm.trans hf
            exact b_X3_readsFarm_2_b166 C hf H locs ls hP hD hS (lv_sub hl [] rfl)
          · have hf := (if_neg t117).symm.trans hf
            refine lv_aload_n hx hb dX3_readsFarm_120 rfl (lv_at hl 1 rfl) ?_
            refine lv_aload_n hx hb dX3_readsFarm_121 rfl (lv_at hl 1 rfl) ?_
            refine bk_get (wf := cw) (q0 := 2) (ci := 3) (k := 0) (v := .ref (g.2.2 3)) C hP wl_X3 rfl rfl (by decide) wa_51 rfl rfl dX3_readsFarm_122 ?_
            refine bk_get (wf := cw) (q0 := 3) (ci := 8) (k := 3) (v := .ref (g.2.2 6)) C hP wl_X9 rfl rfl (by decide) wa_338 rfl rfl dX3_readsFarm_125 ?_
            refine lv_iload_n hx hb dX3_readsFarm_128 rfl (lv_at hl 0 rfl) ?_
            refine lv_iconst (v := (0 : Int32)) hx hb dX3_readsFarm_129 (by decide) ?_
            refine lv_bipush (v := (20 : Int32)) hx hb dX3_readsFarm_130 (by decide) ?_
            obtain ⟨q9, hq9, hf⟩ := bi_s hf
            refine bk_VI (wf := cw) (q0 := 2) (ci := 3) (rest := []) [.ref (g.2.2 6), .int v1, .int (0 : Int32), .int (20 : Int32)] C hP hD hS hl.1 (c_X3_takesNumber_2_6 hXo hq9) (cwA_V 4 hts wa_355 wa_352 wa_353 wa_354 wa_18 rfl rfl nd_X3_takesNumber ⟨Nat.le_of_ble_eq_true rfl, Nat.le_of_ble_eq_true rfl⟩) rfl rfl rfl rfl (Nat.le_of_ble_eq_true rfl) dX3_readsFarm_132 ⟨Nat.le_of_ble_eq_true rfl, Nat.le_of_ble_eq_true rfl⟩ (fun H locs hP hD hS => ?_)
            refine lv_if_eq (tgt := 166) hx hb dX3_readsFarm_135 (by decide) (fun t135 => ?_) (fun t135 => ?_)
            · have hf := (if_pos t135).symm.trans hf
              exact b_X3_readsFarm_2_b166 C hf H locs ls hP hD hS (lv_sub hl [] rfl)
            · have hf := (if_neg t135).symm.trans hf
              refine lv_aload_n hx hb dX3_readsFarm_138 rfl (lv_at hl 1 rfl) ?_
              refine lv_aload_n hx hb dX3_readsFarm_139 rfl (lv_at hl 1 rfl) ?_
              refine bk_get (wf := cw) (q0 := 2) (ci := 3) (k := 0) (v := .ref (g.2.2 3)) C hP wl_X3 rfl rfl (by decide) wa_51 rfl rfl dX3_readsFarm_140 ?_
              refine bk_get (wf := cw) (q0 := 3) (ci := 8) (k := 4) (v := .ref (g.2.2 7)) C hP wl_X9 rfl rfl (by decide) wa_339 rfl rfl dX3_readsFarm_143 ?_
              refine lv_iload_n hx hb dX3_readsFarm_146 rfl (lv_at hl 0 rfl) ?_
              refine lv_iconst (v := (1 : Int32)) hx hb dX3_readsFarm_147 (by decide) ?_
              refine lv_iconst (v := (5 : Int32)) hx hb dX3_readsFarm_148 (by decide) ?_
              obtain ⟨q10, hq10, hf⟩ := bi_s hf
              refine bk_VI (wf := cw) (q0 := 2) (ci := 3) (rest := []) [.ref (g.2.2 7), .int v1, .int (1 : Int32), .int (5 : Int32)] C hP hD hS hl.1 (c_X3_takesNumber_2_7 hXo hq10) (cwA_V 4 hts wa_355 wa_352 wa_353 wa_354 wa_18 rfl rfl nd_X3_takesNumber ⟨Nat.le_of_ble_eq_true rfl, Nat.le_of_ble_eq_true rfl⟩) rfl rfl rfl rfl (Nat.le_of_ble_eq_true rfl) dX3_readsFarm_149 ⟨Nat.le_of_ble_eq_true rfl, Nat.le_of_ble_eq_true rfl⟩ (fun H locs hP hD hS => ?_)
              refine lv_if_eq (tgt := 166) hx hb dX3_readsFarm_152 (by decide) (fun t152 => ?_) (fun t152 => ?_)
              · have hf := (if_pos t152).symm.trans hf
                exact b_X3_readsFarm_2_b166 C hf H locs ls hP hD hS (lv_sub hl [] rfl)
              · have hf := (if_neg t152).symm.trans hf
                refine lv_aload_n hx hb dX3_readsFarm_155 rfl (lv_at hl 1 rfl) ?_
                obtain ⟨q11, hq11, hf⟩ := bi_s hf
                refine bk_VI (wf := cw) (q0 := 2) (ci := 3) (rest := []) [] C hP hD hS hl.1 (c_X3_endsLine_2 hXo hq11) (cwA_V 0 hts wa_359 wa_356 wa_357 wa_358 wa_18 rfl rfl nd_X3_endsLine ⟨Nat.le_of_ble_eq_true rfl, Nat.le_of_ble_eq_true rfl⟩) rfl rfl rfl rfl (Nat.le_of_ble_eq_true rfl) dX3_readsFarm_156 ⟨Nat.le_of_ble_eq_true rfl, Nat.le_of_ble_eq_true rfl⟩ (fun H locs hP hD hS => ?_)
                refine lv_if_eq (tgt := 166) hx hb dX3_readsFarm_159 (by decide) (fun t159 => ?_) (fun t159 => ?_)
                · have hf := (if_pos t159).symm.trans hf
                  exact b_X3_readsFarm_2_b166 C hf H locs ls hP hD hS (lv_sub hl [] rfl)
                · have hf := (if_neg t159).symm.trans hf
                  refine lv_iconst (v := (1 : Int32)) hx hb dX3_readsFarm_162 (by decide) ?_
                  refine lv_goto (tgt := 167) hx hb dX3_readsFarm_163 (by decide) ?_
                  cases hf
                  exact bk_zret C hP hD hS (by decide) rfl dX3_readsFarm_167
      · have hf := (if_neg t47).symm.trans hf
        refine lv_aload_n hx hb dX3_readsFarm_50 rfl (lv_at hl 1 rfl) ?_
        refine lv_iconst (v := (4 : Int32)) hx hb dX3_readsFarm_51 (by decide) ?_
        obtain ⟨q12, hq12, hf⟩ := bi_s hf
        refine bk_VI (wf := cw) (q0 := 2) (ci := 3) (rest := []) [.int (4 : Int32)] C hP hD hS hl.1 (c_X3_fails_2 hXo hq12) (cwA_V 1 hts wa_343 wa_340 wa_341 wa_342 wa_18 rfl rfl nd_X3_fails ⟨Nat.le_of_ble_eq_true rfl, Nat.le_of_ble_eq_true rfl⟩) rfl rfl rfl rfl (Nat.le_of_ble_eq_true rfl) dX3_readsFarm_52 ⟨Nat.le_of_ble_eq_true rfl, Nat.le_of_ble_eq_true rfl⟩ (fun H locs hP hD hS => ?_)
        obtain ⟨g13, hf⟩ := gd_s hf
        cases hf
        exact bk_zret C hP hD hS (Decidable.not_not.mp g13) rfl dX3_readsFarm_55
    · have hf := (if_pos t31).symm.trans hf
      refine lv_iconst (v := (0 : Int32)) hx hb dX3_readsFarm_34 (by decide) ?_
      cases hf
      exact bk_zret C hP hD hS (by decide) rfl dX3_readsFarm_35
  · have hf := (if_neg t11).symm.trans hf
    refine lv_aload_n hx hb dX3_readsFarm_14 rfl (lv_at hl 1 rfl) ?_
    refine lv_iconst (v := (2 : Int32)) hx hb dX3_readsFarm_15 (by decide) ?_
    obtain ⟨q14, hq14, hf⟩ := bi_s hf
    refine bk_VI (wf := cw) (q0 := 2) (ci := 3) (rest := []) [.int (2 : Int32)] C hP hD hS hl.1 (c_X3_fails_2 hXo hq14) (cwA_V 1 hts wa_343 wa_340 wa_341 wa_342 wa_18 rfl rfl nd_X3_fails ⟨Nat.le_of_ble_eq_true rfl, Nat.le_of_ble_eq_true rfl⟩) rfl rfl rfl rfl (Nat.le_of_ble_eq_true rfl) dX3_readsFarm_16 ⟨Nat.le_of_ble_eq_true rfl, Nat.le_of_ble_eq_true rfl⟩ (fun H locs hP hD hS => ?_)
    obtain ⟨g15, hf⟩ := gd_s hf
    cases hf
    exact bk_zret C hP hD hS (Decidable.not_not.mp g15) rfl dX3_readsFarm_19
theorem c_X3_readsFarm_2 {N : Nat} {x1 : Int32} {σ : Sg} {z : Int32 × Sg} (hX : xOK g X) (hf : f_X3_readsFarm_2 N x1 σ = some z) : MetI l yX3_readsFarm (Cond.code yX3_readsFarm cX3_readsFarm 3 (some .boolean) :: wsA) rm_X3_readsFarm_2 cw g X [.ref (g.2.2 2), .int x1] σ z.1 z.2 :=
  MetI_of hX (by decide) (Nat.le_of_ble_eq_true rfl) (fun p e s m args below meth c A C => b_X3_readsFarm_2 C hf)
-- X4_add_9: add(I)V
abbrev rm_X4_add_9 : Room := { frames := 0, cells := 0, slots := 0, locals := 0 }
theorem nd_X4_add : yX4_add.cls ≠ "java/lang/invoke/MethodHandle" ∧ yX4_add.cls ≠ "java/lang/invoke/VarHandle" ∧ (parseMethodDescriptor yX4_add.desc).map (fun d => d.parameters.length) = some 1 := by decide +kernel
def f_X4_add_9 (N : Nat) (x1 : Int32) (σ : Sg) : Option (Sg) :=
if (700 : Int32) ≤ (σ 9 0) then (some σ)
else (if ((σ 9 0) < 0 ∨ 700 ≤ (σ 9 0).toNatClampNeg) then none else
bd (wr σ 10 ((σ 9 0).toNatClampNeg) x1) fun σ2 =>
bd (wr σ2 9 0 ((σ2 9 0) + (1 : Int32))) fun σ3 =>
some σ3)
set_option maxHeartbeats 4000000 in
set_option maxRecDepth 100000 in
theorem b_X4_add_9 {N : Nat} {x1 : Int32} {σ : Sg} {z : Sg} (C : Cx p s m args meth c cX4_add 2 none RX4 g A X) (hf : f_X4_add_9 N x1 σ = some z) : Bk cw p l e rm_X4_add_9 s m args below meth c 2 g A (MQ below (qV cw g A z) args s 0 0 A) 0 0 0 [(0, .ref (g.2.2 9)), (1, .int x1)] [] σ := by
  obtain ⟨hx, hb, hr, hml, hown, hts, hK, hlocks, hXX, hA, hXo⟩ := id C
  intro H locs ls hP hD hS hl
  unfold f_X4_add_9 at hf
  refine lv_aload_n hx hb dX4_add_0 rfl (lv_at hl 0 rfl) ?_
  refine bk_get (wf := cw) (q0 := 9) (ci := 4) (k := 0) (v := .int (σ 9 0)) C hP wl_X4 rfl rfl (by decide) wa_85 rfl rfl dX4_add_1 ?_
  refine lv_aload_n hx hb dX4_add_4 rfl (lv_at hl 0 rfl) ?_
  refine bk_get (wf := cw) (q0 := 9) (ci := 4) (k := 1) (v := .ref (g.2.2 10)) C hP wl_X4 rfl rfl (by decide) wa_86 rfl rfl dX4_add_5 ?_
  refine bk_alen (wf := cw) (q0 := 10) (t0 := 0) (v := (700 : Int32)) C hP rfl rfl (show Int32.ofNat 700 = (700 : Int32) by decide) dX4_add_8 ?_
  refine lv_icmp_ge (tgt := 32) hx hb dX4_add_9 (by decide) (fun t9 => ?_) (fun t9 => ?_)
  · have hf := (if_pos t9).symm.trans hf
    cases hf
    exact bk_vret C hP hD hS rfl dX4_add_32
  · have hf := (if_neg t9).symm.trans hf
    refine lv_aload_n hx hb dX4_add_12 rfl (lv_at hl 0 rfl) ?_
    refine bk_get (wf := cw) (q0 := 9) (ci := 4) (k := 1) (v := .ref (g.2.2 10)) C hP wl_X4 rfl rfl (by decide) wa_86 rfl rfl dX4_add_13 ?_
    refine lv_aload_n hx hb dX4_add_16 rfl (lv_at hl 0 rfl) ?_
    refine bk_get (wf := cw) (q0 := 9) (ci := 4) (k := 0) (v := .int (σ 9 0)) C hP wl_X4 rfl rfl (by decide) wa_85 rfl rfl dX4_add_17 ?_
    refine lv_iload_n hx hb dX4_add_20 rfl (lv_at hl 1 rfl) ?_
    obtain ⟨g1, hf⟩ := gd_s hf
    obtain ⟨σ2, eσ2, hf⟩ := bd_s hf
    refine bk_iast (wf := cw) (σ1 := σ2) (q0 := 10) (n := 700) (j := (σ 9 0).toNatClampNeg) C hP hD hS rfl g1 rfl (by rw [eσ2]; exact cw_a10 g _ _ _) dX4_add_21 (fun H locs hP hD hS => ?_)
    refine lv_aload_n hx hb dX4_add_22 rfl (lv_at hl 0 rfl) ?_
    refine lv_dup hx hb dX4_add_23 rfl ?_
    refine bk_get (wf := cw) (q0 := 9) (ci := 4) (k := 0) (v := .int (σ2 9 0)) C hP wl_X4 rfl rfl (by decide) wa_85 rfl rfl dX4_add_24 ?_
    refine lv_iconst (v := (1 : Int32)) hx hb dX4_add_27 (by decide) ?_
    refine lv_iadd hx hb dX4_add_28 ?_
    obtain ⟨σ3, eσ3, hf⟩ := bd_s hf
    refine bk_put (wf := cw) (σ1 := σ3) (q0 := 9) (ci := 4) (k := 0) (v := .int ((σ2 9 0) + (1 : Int32))) C hP hD hS wl_X4 tyX4_ok nmX4 rfl rfl (by decide) wa_85 rfl rfl rfl rfl rfl (Nat.le_of_ble_eq_true rfl) (by rw [eσ3]; exact cw_p9_0 g _ _) dX4_add_29 (fun H locs hP hD hS => ?_)
    cases hf
    exact bk_vret C hP hD hS rfl dX4_add_32
theorem c_X4_add_9 {N : Nat} {x1 : Int32} {σ : Sg} {z : Sg} (hX : xOK g X) (hf : f_X4_add_9 N x1 σ = some z) : MetV l yX4_add (Cond.code yX4_add cX4_add 2 none :: wsA) rm_X4_add_9 cw g X [.ref (g.2.2 9), .int x1] σ z :=
  MetV_of hX (by decide) (Nat.le_of_ble_eq_true rfl) (fun p e s m args below meth c A C => b_X4_add_9 C hf)
-- X8_isValue: isValue()Z
abbrev rm_X8_isValue : Room := { frames := 0, cells := 0, slots := 0, locals := 0 }
theorem nd_X8_isValue : yX8_isValue.cls ≠ "java/lang/invoke/MethodHandle" ∧ yX8_isValue.cls ≠ "java/lang/invoke/VarHandle" ∧ (parseMethodDescriptor yX8_isValue.desc).map (fun d => d.parameters.length) = some 0 := by decide +kernel
def f_X8_isValue_b20 (N : Nat) (σ : Sg) : Option (Int32 × Sg) :=
some ((0 : Int32), σ)
set_option maxHeartbeats 4000000 in
set_option maxRecDepth 100000 in
theorem b_X8_isValue_b20 {N : Nat} {σ : Sg} {z : Int32 × Sg} (C : Cx p s m args meth c cX8_isValue 1 (some .boolean) RX8 g A X) (hf : f_X8_isValue_b20 N σ = some z) : Bk cw p l e rm_X8_isValue s m args below meth c 1 g A (MQ below (qI cw g A z.1 z.2) args s 0 0 A) 0 0 20 [] [] σ := by
  obtain ⟨hx, hb, hr, hml, hown, hts, hK, hlocks, hXX, hA, hXo⟩ := id C
  intro H locs ls hP hD hS hl
  unfold f_X8_isValue_b20 at hf
  refine lv_iconst (v := (0 : Int32)) hx hb dX8_isValue_20 (by decide) ?_
  cases hf
  exact bk_zret C hP hD hS (by decide) rfl dX8_isValue_21
def f_X8_isValue (N : Nat) (x0 : Int32) (σ : Sg) : Option (Int32 × Sg) :=
if (x0 < 0 ∨ 27 ≤ x0.toNatClampNeg) then none else
if 0 ≤ (tkI x0.toNatClampNeg) then (f_X8_isValue_b20 N σ)
else (if (x0 < 0 ∨ 27 ≤ x0.toNatClampNeg) then none else
if (tkI x0.toNatClampNeg) < (-6 : Int32) then (f_X8_isValue_b20 N σ)
else (some ((1 : Int32), σ)))
set_option maxHeartbeats 4000000 in
set_option maxRecDepth 100000 in
theorem b_X8_isValue {N : Nat} {x0 : Int32} {σ : Sg} {z : Int32 × Sg} (C : Cx p s m args meth c cX8_isValue 1 (some .boolean) RX8 g A X) (hf : f_X8_isValue N x0 σ = some z) : Bk cw p l e rm_X8_isValue s m args below meth c 1 g A (MQ below (qI cw g A z.1 z.2) args s 0 0 A) 0 0 0 [(0, .ref (g.2.2 (300 + x0.toNatClampNeg)))] [] σ := by
  obtain ⟨hx, hb, hr, hml, hown, hts, hK, hlocks, hXX, hA, hXo⟩ := id C
  intro H locs ls hP hD hS hl
  unfold f_X8_isValue at hf
  refine lv_aload_n hx hb dX8_isValue_0 rfl (lv_at hl 0 rfl) ?_
  obtain ⟨g1, hf⟩ := gd_s hf
  refine vk_getf (v := .int (tkI x0.toNatClampNeg)) hx hb ((hXo.2.2.2 _ _ _ hXX).2.2.2.2.2.1.1 _ (vin_n g1)).2.2.2 hS hown (hts _ wa_417) (fun _ h => h) dX8_isValue_1 ?_
  refine lv_if_ge (tgt := 20) hx hb dX8_isValue_4 (by decide) (fun t4 => ?_) (fun t4 => ?_)
  · have hf := (if_pos t4).symm.trans hf
    exact b_X8_isValue_b20 C hf H locs ls hP hD hS (lv_sub hl [] rfl)
  · have hf := (if_neg t4).symm.trans hf
    refine lv_aload_n hx hb dX8_isValue_7 rfl (lv_at hl 0 rfl) ?_
    obtain ⟨g2, hf⟩ := gd_s hf
    refine vk_getf (v := .int (tkI x0.toNatClampNeg)) hx hb ((hXo.2.2.2 _ _ _ hXX).2.2.2.2.2.1.1 _ (vin_n g2)).2.2.2 hS hown (hts _ wa_417) (fun _ h => h) dX8_isValue_8 ?_
    refine lv_bipush (v := (-6 : Int32)) hx hb dX8_isValue_11 (by decide) ?_
    refine lv_icmp_lt (tgt := 20) hx hb dX8_isValue_13 (by decide) (fun t13 => ?_) (fun t13 => ?_)
    · have hf := (if_pos t13).symm.trans hf
      exact b_X8_isValue_b20 C hf H locs ls hP hD hS (lv_sub hl [] rfl)
    · have hf := (if_neg t13).symm.trans hf
      refine lv_iconst (v := (1 : Int32)) hx hb dX8_isValue_16 (by decide) ?_
      refine lv_goto (tgt := 21) hx hb dX8_isValue_17 (by decide) ?_
      cases hf
      exact bk_zret C hP hD hS (by decide) rfl dX8_isValue_21
theorem c_X8_isValue {N : Nat} {x0 : Int32} {σ : Sg} {z : Int32 × Sg} (hX : xOK g X) (hf : f_X8_isValue N x0 σ = some z) : MetI l yX8_isValue (Cond.code yX8_isValue cX8_isValue 1 (some .boolean) :: wsA) rm_X8_isValue cw g X [.ref (g.2.2 (300 + x0.toNatClampNeg))] σ z.1 z.2 :=
  MetI_of hX (by decide) (Nat.le_of_ble_eq_true rfl) (fun p e s m args below meth c A C => b_X8_isValue C hf)
abbrev rm_X3_readsParenthesis_2 (d : Nat) : Room := { frames := 20 * d + 7, cells := 0, slots := 0, locals := 400 * d + 150 }
theorem nd_X3_readsParenthesis : yX3_readsParenthesis.cls ≠ "java/lang/invoke/MethodHandle" ∧ yX3_readsParenthesis.cls ≠ "java/lang/invoke/VarHandle" ∧ (parseMethodDescriptor yX3_readsParenthesis.desc).map (fun d => d.parameters.length) = some 1 := by decide +kernel
abbrev rm_X3_readsPart_2 (d : Nat) : Room := { frames := 20 * d + 8, cells := 0, slots := 0, locals := 400 * d + 171 }
theorem nd_X3_readsPart : yX3_readsPart.cls ≠ "java/lang/invoke/MethodHandle" ∧ yX3_readsPart.cls ≠ "java/lang/invoke/VarHandle" ∧ (parseMethodDescriptor yX3_readsPart.desc).map (fun d => d.parameters.length) = some 1 := by decide +kernel
abbrev rm_X3_readsProduct_2 (d : Nat) : Room := { frames := 20 * d + 9, cells := 0, slots := 0, locals := 400 * d + 192 }
theorem nd_X3_readsProduct : yX3_readsProduct.cls ≠ "java/lang/invoke/MethodHandle" ∧ yX3_readsProduct.cls ≠ "java/lang/invoke/VarHandle" ∧ (parseMethodDescriptor yX3_readsProduct.desc).map (fun d => d.parameters.length) = some 1 := by decide +kernel
abbrev rm_X3_readsSum_2 (d : Nat) : Room := { frames := 20 * d + 10, cells := 0, slots := 0, locals := 400 * d + 216 }
theorem nd_X3_readsSum : yX3_readsSum.cls ≠ "java/lang/invoke/MethodHandle" ∧ yX3_readsSum.cls ≠ "java/lang/invoke/VarHandle" ∧ (parseMethodDescriptor yX3_readsSum.desc).map (fun d => d.parameters.length) = some 1 := by decide +kernel
abbrev rm_X3_readsTest_2 (d : Nat) : Room := { frames := 20 * d + 11, cells := 0, slots := 0, locals := 400 * d + 240 }
theorem nd_X3_readsTest : yX3_readsTest.cls ≠ "java/lang/invoke/MethodHandle" ∧ yX3_readsTest.cls ≠ "java/lang/invoke/VarHandle" ∧ (parseMethodDescriptor yX3_readsTest.desc).map (fun d => d.parameters.length) = some 1 := by decide +kernel
abbrev rm_X3_readsNot_2 (d : Nat) : Room := { frames := 20 * d + 12, cells := 0, slots := 0, locals := 400 * d + 263 }
theorem nd_X3_readsNot : yX3_readsNot.cls ≠ "java/lang/invoke/MethodHandle" ∧ yX3_readsNot.cls ≠ "java/lang/invoke/VarHandle" ∧ (parseMethodDescriptor yX3_readsNot.desc).map (fun d => d.parameters.length) = some 1 := by decide +kernel
abbrev rm_X3_readsAnd_2 (d : Nat) : Room := { frames := 20 * d + 13, cells := 0, slots := 0, locals := 400 * d + 287 }
theorem nd_X3_readsAnd : yX3_readsAnd.cls ≠ "java/lang/invoke/MethodHandle" ∧ yX3_readsAnd.cls ≠ "java/lang/invoke/VarHandle" ∧ (parseMethodDescriptor yX3_readsAnd.desc).map (fun d => d.parameters.length) = some 1 := by decide +kernel
abbrev rm_X3_readsExpression_2 (d : Nat) : Room := { frames := 20 * d + 14, cells := 0, slots := 0, locals := 400 * d + 310 }
theorem nd_X3_readsExpression : yX3_readsExpression.cls ≠ "java/lang/invoke/MethodHandle" ∧ yX3_readsExpression.cls ≠ "java/lang/invoke/VarHandle" ∧ (parseMethodDescriptor yX3_readsExpression.desc).map (fun d => d.parameters.length) = some 1 := by decide +kernel
-- X3_readsParenthesis_2: readsParenthesis(I)Z
def f_X3_readsParenthesis_2 (N : Nat) (rec : Int32 → Sg → Option (Int32 × Sg)) (x1 : Int32) (σ : Sg) : Option (Int32 × Sg) :=
(f_X3_advance_2 N σ).bind fun q1 =>
(rec (x1 + (1 : Int32)) q1).bind fun q2 =>
if q2.1 = 0 then (some ((0 : Int32), (q2.2)))
else (if (((q2.2) 2 5) < 0 ∨ 27 ≤ ((q2.2) 2 5).toNatClampNeg) then none else
if ((q2.2) 2 5) = (6 : Int32) then ((f_X3_advance_2 N (q2.2)).bind fun q4 =>
some ((1 : Int32), q4))
else ((f_X3_fails_2 N (1 : Int32) (q2.2)).bind fun q5 =>
if ¬ (q5.1 = 0 ∨ q5.1 = 1) then none else some (q5.1, (q5.2))))
set_option maxHeartbeats 4000000 in
set_option maxRecDepth 100000 in
theorem b_X3_readsParenthesis_2 {N d : Nat} {rec : Int32 → Sg → Option (Int32 × Sg)} {x1 : Int32} {σ : Sg} {z : Int32 × Sg} (C : Cx p s m args meth c cX3_readsParenthesis 2 (some .boolean) RX3 g A X) (hrec : ∀ (x : Int32) (σ : Sg) (z : Int32 × Sg), rec x σ = some z → MetI l yX3_readsExpression (Cond.code yX3_readsExpression cX3_readsExpression 4 (some .boolean) :: wsA) (rm_X3_readsExpression_2 d) cw g X [.ref (g.2.2 2), .int x] σ z.1 z.2) (hf : f_X3_readsParenthesis_2 N rec x1 σ = some z) : Bk cw p l e (rm_X3_readsParenthesis_2 (d + 1)) s m args below meth c 2 g A (MQ below (qI cw g A z.1 z.2) args s 0 0 A) 0 0 0 [(0, .ref (g.2.2 2)), (1, .int x1)] [] σ := by
  obtain ⟨hx, hb, hr, hml, hown, hts, hK, hlocks, hXX, hA, hXo⟩ := id C
  intro H locs ls hP hD hS hl
  unfold f_X3_readsParenthesis_2 at hf
  refine lv_aload_n hx hb dX3_readsParenthesis_0 rfl (lv_at hl 0 rfl) ?_
  obtain ⟨q1, hq1, hf⟩ := bi_s hf
  refine bk_VV (wf := cw) (q0 := 2) (ci := 3) (rest := []) [] C hP hD hS hl.1 (c_X3_advance_2 hXo hq1) (cwA_V 0 hts wa_241 wa_238 wa_239 wa_240 wa_18 rfl rfl nd_X3_advance ⟨by dsimp only [rm_X3_advance_2, rm_X3_readsParenthesis_2]; omega, by dsimp only [rm_X3_advance_2, rm_X3_readsParenthesis_2]; omega⟩) rfl rfl rfl rfl (Nat.le_of_ble_eq_true rfl) dX3_readsParenthesis_1 ⟨Nat.zero_le _, Nat.zero_le _⟩ (fun H locs hP hD hS => ?_)
  refine lv_aload_n hx hb dX3_readsParenthesis_4 rfl (lv_at hl 0 rfl) ?_
  refine lv_iload_n hx hb dX3_readsParenthesis_5 rfl (lv_at hl 1 rfl) ?_
  refine lv_iconst (v := (1 : Int32)) hx hb dX3_readsParenthesis_6 (by decide) ?_
  refine lv_iadd hx hb dX3_readsParenthesis_7 ?_
  obtain ⟨q2, hq2, hf⟩ := bi_s hf
  refine bk_VI (wf := cw) (q0 := 2) (ci := 3) (rest := []) [.int (x1 + (1 : Int32))] C hP hD hS hl.1 (hrec _ _ _ hq2) (cwA_V 1 hts wa_386 wa_383 wa_384 wa_385 wa_18 rfl rfl nd_X3_readsExpression ⟨by dsimp only [rm_X3_readsExpression_2, rm_X3_readsParenthesis_2]; omega, by dsimp only [rm_X3_readsExpression_2, rm_X3_readsParenthesis_2]; omega⟩) rfl rfl rfl rfl (Nat.le_of_ble_eq_true rfl) dX3_readsParenthesis_8 ⟨Nat.zero_le _, Nat.zero_le _⟩ (fun H locs hP hD hS => ?_)
  refine lv_if_ne (tgt := 16) hx hb dX3_readsParenthesis_11 (by decide) (fun t11 => ?_) (fun t11 => ?_)
  · have hf := (if_neg t11).symm.trans hf
    refine lv_aload_n hx hb dX3_readsParenthesis_16 rfl (lv_at hl 0 rfl) ?_
    refine bk_get (wf := cw) (q0 := 2) (ci := 3) (k := 5) (v := .ref (g.2.2 (300 + ((q2.2) 2 5).toNatClampNeg))) C hP wl_X3 rfl rfl (by decide) wa_56 rfl rfl dX3_readsParenthesis_17 ?_
    refine va_gets (v := .ref (g.2.2 (300 + (6 : Int32).toNatClampNeg))) hx hb (tok_Z (hXo.2.2.2 _ _ _ hXX).2.2.2.2.2.1 6 "CLOSE" (by decide) (by decide) rfl) hS hown (hts _ wa_407) (fun _ h => h) dX3_readsParenthesis_20 ?_
    obtain ⟨g3, hf⟩ := gd_s hf
    refine bk_acq (tgt := 32) C g3 (vin_l (by decide) (by decide)) dX3_readsParenthesis_23 (by decide) (fun t23 => ?_) (fun t23 => ?_)
    · have hf := (if_pos t23).symm.trans hf
      refine lv_aload_n hx hb dX3_readsParenthesis_32 rfl (lv_at hl 0 rfl) ?_
      obtain ⟨q4, hq4, hf⟩ := bi_s hf
      refine bk_VV (wf := cw) (q0 := 2) (ci := 3) (rest := []) [] C hP hD hS hl.1 (c_X3_advance_2 hXo hq4) (cwA_V 0 hts wa_241 wa_238 wa_239 wa_240 wa_18 rfl rfl nd_X3_advance ⟨by dsimp only [rm_X3_advance_2, rm_X3_readsParenthesis_2]; omega, by dsimp only [rm_X3_advance_2, rm_X3_readsParenthesis_2]; omega⟩) rfl rfl rfl rfl (Nat.le_of_ble_eq_true rfl) dX3_readsParenthesis_33 ⟨Nat.zero_le _, Nat.zero_le _⟩ (fun H locs hP hD hS => ?_)
      refine lv_iconst (v := (1 : Int32)) hx hb dX3_readsParenthesis_36 (by decide) ?_
      cases hf
      exact bk_zret C hP hD hS (by decide) rfl dX3_readsParenthesis_37
    · have hf := (if_neg t23).symm.trans hf
      refine lv_aload_n hx hb dX3_readsParenthesis_26 rfl (lv_at hl 0 rfl) ?_
      refine lv_iconst (v := (1 : Int32)) hx hb dX3_readsParenthesis_27 (by decide) ?_
      obtain ⟨q5, hq5, hf⟩ := bi_s hf
      refine bk_VI (wf := cw) (q0 := 2) (ci := 3) (rest := []) [.int (1 : Int32)] C hP hD hS hl.1 (c_X3_fails_2 hXo hq5) (cwA_V 1 hts wa_343 wa_340 wa_341 wa_342 wa_18 rfl rfl nd_X3_fails ⟨by dsimp only [rm_X3_fails_2, rm_X3_readsParenthesis_2]; omega, by dsimp only [rm_X3_fails_2, rm_X3_readsParenthesis_2]; omega⟩) rfl rfl rfl rfl (Nat.le_of_ble_eq_true rfl) dX3_readsParenthesis_28 ⟨Nat.zero_le _, Nat.zero_le _⟩ (fun H locs hP hD hS => ?_)
      obtain ⟨g6, hf⟩ := gd_s hf
      cases hf
      exact bk_zret C hP hD hS (Decidable.not_not.mp g6) rfl dX3_readsParenthesis_31
  · have hf := (if_pos t11).symm.trans hf
    refine lv_iconst (v := (0 : Int32)) hx hb dX3_readsParenthesis_14 (by decide) ?_
    cases hf
    exact bk_zret C hP hD hS (by decide) rfl dX3_readsParenthesis_15
theorem c_X3_readsParenthesis_2 {N d : Nat} {rec : Int32 → Sg → Option (Int32 × Sg)} {x1 : Int32} {σ : Sg} {z : Int32 × Sg} (hX : xOK g X) (hrec : ∀ (x : Int32) (σ : Sg) (z : Int32 × Sg), rec x σ = some z → MetI l yX3_readsExpression (Cond.code yX3_readsExpression cX3_readsExpression 4 (some .boolean) :: wsA) (rm_X3_readsExpression_2 d) cw g X [.ref (g.2.2 2), .int x] σ z.1 z.2) (hf : f_X3_readsParenthesis_2 N rec x1 σ = some z) : MetI l yX3_readsParenthesis (Cond.code yX3_readsParenthesis cX3_readsParenthesis 2 (some .boolean) :: wsA) (rm_X3_readsParenthesis_2 (d + 1)) cw g X [.ref (g.2.2 2), .int x1] σ z.1 z.2 :=
  MetI_of hX (by decide) (Nat.le_of_ble_eq_true rfl) (fun p e s m args below meth c A C => b_X3_readsParenthesis_2 C hrec hf)
-- X3_readsPart_2: readsPart(I)Z
def f_X3_readsPart_2_b87 (N : Nat) (rec : Int32 → Sg → Option (Int32 × Sg)) (t1 : Int32) (σ : Sg) : Option (Int32 × Sg) :=
(f_X4_add_9 N t1 σ).bind fun q1 =>
(f_X3_advance_2 N q1).bind fun q2 =>
some ((1 : Int32), q2)
set_option maxHeartbeats 4000000 in
set_option maxRecDepth 100000 in
theorem b_X3_readsPart_2_b87 {N d : Nat} {rec : Int32 → Sg → Option (Int32 × Sg)} {t1 : Int32} {σ : Sg} {z : Int32 × Sg} (C : Cx p s m args meth c cX3_readsPart 2 (some .boolean) RX3 g A X) (hrec : ∀ (x : Int32) (σ : Sg) (z : Int32 × Sg), rec x σ = some z → MetI l yX3_readsExpression (Cond.code yX3_readsExpression cX3_readsExpression 4 (some .boolean) :: wsA) (rm_X3_readsExpression_2 d) cw g X [.ref (g.2.2 2), .int x] σ z.1 z.2) (hf : f_X3_readsPart_2_b87 N rec t1 σ = some z) : Bk cw p l e (rm_X3_readsPart_2 (d + 1)) s m args below meth c 2 g A (MQ below (qI cw g A z.1 z.2) args s 0 0 A) 0 0 87 [(0, .ref (g.2.2 2))] [.int t1, .ref (g.2.2 9)] σ := by
  obtain ⟨hx, hb, hr, hml, hown, hts, hK, hlocks, hXX, hA, hXo⟩ := id C
  intro H locs ls hP hD hS hl
  unfold f_X3_readsPart_2_b87 at hf
  obtain ⟨q1, hq1, hf⟩ := bi_s hf
  refine bk_VV (wf := cw) (q0 := 9) (ci := 4) (rest := []) [.int t1] C hP hD hS hl.1 (c_X4_add_9 hXo hq1) (cwA_V 1 hts wa_395 wa_392 wa_393 wa_394 wa_80 rfl rfl nd_X4_add ⟨by dsimp only [rm_X4_add_9, rm_X3_readsPart_2]; omega, by dsimp only [rm_X4_add_9, rm_X3_readsPart_2]; omega⟩) rfl rfl rfl rfl (Nat.le_of_ble_eq_true rfl) dX3_readsPart_87 ⟨Nat.zero_le _, Nat.zero_le _⟩ (fun H locs hP hD hS => ?_)
  refine lv_aload_n hx hb dX3_readsPart_90 rfl (lv_at hl 0 rfl) ?_
  obtain ⟨q2, hq2, hf⟩ := bi_s hf
  refine bk_VV (wf := cw) (q0 := 2) (ci := 3) (rest := []) [] C hP hD hS hl.1 (c_X3_advance_2 hXo hq2) (cwA_V 0 hts wa_241 wa_238 wa_239 wa_240 wa_18 rfl rfl nd_X3_advance ⟨by dsimp only [rm_X3_advance_2, rm_X3_readsPart_2]; omega, by dsimp only [rm_X3_advance_2, rm_X3_readsPart_2]; omega⟩) rfl rfl rfl rfl (Nat.le_of_ble_eq_true rfl) dX3_readsPart_91 ⟨Nat.zero_le _, Nat.zero_le _⟩ (fun H locs hP hD hS => ?_)
  refine lv_iconst (v := (1 : Int32)) hx hb dX3_readsPart_94 (by decide) ?_
  cases hf
  exact bk_zret C hP hD hS (by decide) rfl dX3_readsPart_95
def f_X3_readsPart_2_b59 (N : Nat) (rec : Int32 → Sg → Option (Int32 × Sg)) (σ : Sg) : Option (Int32 × Sg) :=
if (σ 2 8) = 0 then (f_X3_readsPart_2_b87 N rec (σ 2 10) σ)
else (if ((σ 2 5) < 0 ∨ 27 ≤ (σ 2 5).toNatClampNeg) then none else
f_X3_readsPart_2_b87 N rec (tkI (σ 2 5).toNatClampNeg) σ)
set_option maxHeartbeats 4000000 in
set_option maxRecDepth 100000 in
theorem b_X3_readsPart_2_b59 {N d : Nat} {rec : Int32 → Sg → Option (Int32 × Sg)} {σ : Sg} {z : Int32 × Sg} (C : Cx p s m args meth c cX3_readsPart 2 (some .boolean) RX3 g A X) (hrec : ∀ (x : Int32) (σ : Sg) (z : Int32 × Sg), rec x σ = some z → MetI l yX3_readsExpression (Cond.code yX3_readsExpression cX3_readsExpression 4 (some .boolean) :: wsA) (rm_X3_readsExpression_2 d) cw g X [.ref (g.2.2 2), .int x] σ z.1 z.2) (hf : f_X3_readsPart_2_b59 N rec σ = some z) : Bk cw p l e (rm_X3_readsPart_2 (d + 1)) s m args below meth c 2 g A (MQ below (qI cw g A z.1 z.2) args s 0 0 A) 0 0 59 [(0, .ref (g.2.2 2))] [] σ := by
  obtain ⟨hx, hb, hr, hml, hown, hts, hK, hlocks, hXX, hA, hXo⟩ := id C
  intro H locs ls hP hD hS hl
  unfold f_X3_readsPart_2_b59 at hf
  refine lv_aload_n hx hb dX3_readsPart_59 rfl (lv_at hl 0 rfl) ?_
  refine bk_get (wf := cw) (q0 := 2) (ci := 3) (k := 0) (v := .ref (g.2.2 3)) C hP wl_X3 rfl rfl (by decide) wa_51 rfl rfl dX3_readsPart_60 ?_
  refine bk_get (wf := cw) (q0 := 3) (ci := 8) (k := 10) (v := .ref (g.2.2 9)) C hP wl_X9 rfl rfl (by decide) wa_381 rfl rfl dX3_readsPart_63 ?_
  refine lv_aload_n hx hb dX3_readsPart_66 rfl (lv_at hl 0 rfl) ?_
  refine bk_get (wf := cw) (q0 := 2) (ci := 3) (k := 8) (v := .int (σ 2 8)) C hP wl_X3 rfl rfl (by decide) wa_59 rfl rfl dX3_readsPart_67 ?_
  refine lv_if_eq (tgt := 83) hx hb dX3_readsPart_70 (by decide) (fun t70 => ?_) (fun t70 => ?_)
  · have hf := (if_pos t70).symm.trans hf
    refine lv_aload_n hx hb dX3_readsPart_83 rfl (lv_at hl 0 rfl) ?_
    refine bk_get (wf := cw) (q0 := 2) (ci := 3) (k := 10) (v := .int (σ 2 10)) C hP wl_X3 rfl rfl (by decide) wa_61 rfl rfl dX3_readsPart_84 ?_
    exact b_X3_readsPart_2_b87 C hrec hf H locs ls hP hD hS (lv_sub hl [0] rfl)
  · have hf := (if_neg t70).symm.trans hf
    refine lv_aload_n hx hb dX3_readsPart_73 rfl (lv_at hl 0 rfl) ?_
    refine bk_get (wf := cw) (q0 := 2) (ci := 3) (k := 5) (v := .ref (g.2.2 (300 + (σ 2 5).toNatClampNeg))) C hP wl_X3 rfl rfl (by decide) wa_56 rfl rfl dX3_readsPart_74 ?_
    obtain ⟨g3, hf⟩ := gd_s hf
    refine vk_getf (v := .int (tkI (σ 2 5).toNatClampNeg)) hx hb ((hXo.2.2.2 _ _ _ hXX).2.2.2.2.2.1.1 _ (vin_n g3)).2.2.2 hS hown (hts _ wa_409) (fun _ h => h) dX3_readsPart_77 ?_
    refine lv_goto (tgt := 87) hx hb dX3_readsPart_80 (by decide) ?_
    exact b_X3_readsPart_2_b87 C hrec hf H locs ls hP hD hS (lv_sub hl [0] rfl)
def f_X3_readsPart_2_b39 (N : Nat) (rec : Int32 → Sg → Option (Int32 × Sg)) (σ : Sg) : Option (Int32 × Sg) :=
if (σ 2 8) = 0 then ((f_X3_isNumber_2 N (0 : Int32) (9999 : Int32) σ).bind fun q4 =>
if q4.1 = 0 then (some ((0 : Int32), (q4.2)))
else (f_X3_readsPart_2_b59 N rec (q4.2)))
else (f_X3_readsPart_2_b59 N rec σ)
set_option maxHeartbeats 4000000 in
set_option maxRecDepth 100000 in
theorem b_X3_readsPart_2_b39 {N d : Nat} {rec : Int32 → Sg → Option (Int32 × Sg)} {σ : Sg} {z : Int32 × Sg} (C : Cx p s m args meth c cX3_readsPart 2 (some .boolean) RX3 g A X) (hrec : ∀ (x : Int32) (σ : Sg) (z : Int32 × Sg), rec x σ = some z → MetI l yX3_readsExpression (Cond.code yX3_readsExpression cX3_readsExpression 4 (some .boolean) :: wsA) (rm_X3_readsExpression_2 d) cw g X [.ref (g.2.2 2), .int x] σ z.1 z.2) (hf : f_X3_readsPart_2_b39 N rec σ = some z) : Bk cw p l e (rm_X3_readsPart_2 (d + 1)) s m args below meth c 2 g A (MQ below (qI cw g A z.1 z.2) args s 0 0 A) 0 0 39 [(0, .ref (g.2.2 2))] [] σ := by
  obtain ⟨hx, hb, hr, hml, hown, hts, hK, hlocks, hXX, hA, hXo⟩ := id C
  intro H locs ls hP hD hS hl
  unfold f_X3_readsPart_2_b39 at hf
  refine lv_aload_n hx hb dX3_readsPart_39 rfl (lv_at hl 0 rfl) ?_
  refine bk_get (wf := cw) (q0 := 2) (ci := 3) (k := 8) (v := .int (σ 2 8)) C hP wl_X3 rfl rfl (by decide) wa_59 rfl rfl dX3_readsPart_40 ?_
  refine lv_if_ne (tgt := 59) hx hb dX3_readsPart_43 (by decide) (fun t43 => ?_) (fun t43 => ?_)
  · have hf := (if_neg t43).symm.trans hf
    exact b_X3_readsPart_2_b59 C hrec hf H locs ls hP hD hS (lv_sub hl [0] rfl)
  · have hf := (if_pos t43).symm.trans hf
    refine lv_aload_n hx hb dX3_readsPart_46 rfl (lv_at hl 0 rfl) ?_
    refine lv_iconst (v := (0 : Int32)) hx hb dX3_readsPart_47 (by decide) ?_
    refine lv_sipush (v := (9999 : Int32)) hx hb dX3_readsPart_48 (by decide) ?_
    obtain ⟨q4, hq4, hf⟩ := bi_s hf
    refine bk_VI (wf := cw) (q0 := 2) (ci := 3) (rest := []) [.int (0 : Int32), .int (9999 : Int32)] C hP hD hS hl.1 (c_X3_isNumber_2 hXo hq4) (cwA_V 2 hts wa_347 wa_344 wa_345 wa_346 wa_18 rfl rfl nd_X3_isNumber ⟨by dsimp only [rm_X3_isNumber_2, rm_X3_readsPart_2]; omega, by dsimp only [rm_X3_isNumber_2, rm_X3_readsPart_2]; omega⟩) rfl rfl rfl rfl (Nat.le_of_ble_eq_true rfl) dX3_readsPart_51 ⟨Nat.zero_le _, Nat.zero_le _⟩ (fun H locs hP hD hS => ?_)
    refine lv_if_ne (tgt := 59) hx hb dX3_readsPart_54 (by decide) (fun t54 => ?_) (fun t54 => ?_)
    · have hf := (if_neg t54).symm.trans hf
      exact b_X3_readsPart_2_b59 C hrec hf H locs ls hP hD hS (lv_sub hl [0] rfl)
    · have hf := (if_pos t54).symm.trans hf
      refine lv_iconst (v := (0 : Int32)) hx hb dX3_readsPart_57 (by decide) ?_
      cases hf
      exact bk_zret C hP hD hS (by decide) rfl dX3_readsPart_58
def f_X3_readsPart_2 (N : Nat) (rec : Int32 → Sg → Option (Int32 × Sg)) (x1 : Int32) (σ : Sg) : Option (Int32 × Sg) :=
if ((σ 2 5) < 0 ∨ 27 ≤ (σ 2 5).toNatClampNeg) then none else
if (σ 2 5) = (5 : Int32) then ((f_X3_readsParenthesis_2 N rec x1 σ).bind fun q10 =>
if ¬ (q10.1 = 0 ∨ q10.1 = 1) then none else some (q10.1, (q10.2)))
else (if (σ 2 8) = 0 then (f_X3_readsPart_2_b39 N rec σ)
else (if ((σ 2 5) < 0 ∨ 27 ≤ (σ 2 5).toNatClampNeg) then none else
(f_X8_isValue N (σ 2 5) σ).bind fun q7 =>
if q7.1 = 0 then ((f_X3_fails_2 N (3 : Int32) (q7.2)).bind fun q8 =>
if ¬ (q8.1 = 0 ∨ q8.1 = 1) then none else some (q8.1, (q8.2)))
else (f_X3_readsPart_2_b39 N rec (q7.2))))
set_option maxHeartbeats 4000000 in
set_option maxRecDepth 100000 in
theorem b_X3_readsPart_2 {N d : Nat} {rec : Int32 → Sg → Option (Int32 × Sg)} {x1 : Int32} {σ : Sg} {z : Int32 × Sg} (C : Cx p s m args meth c cX3_readsPart 2 (some .boolean) RX3 g A X) (hrec : ∀ (x : Int32) (σ : Sg) (z : Int32 × Sg), rec x σ = some z → MetI l yX3_readsExpression (Cond.code yX3_readsExpression cX3_readsExpression 4 (some .boolean) :: wsA) (rm_X3_readsExpression_2 d) cw g X [.ref (g.2.2 2), .int x] σ z.1 z.2) (hf : f_X3_readsPart_2 N rec x1 σ = some z) : Bk cw p l e (rm_X3_readsPart_2 (d + 1)) s m args below meth c 2 g A (MQ below (qI cw g A z.1 z.2) args s 0 0 A) 0 0 0 [(0, .ref (g.2.2 2)), (1, .int x1)] [] σ := by
  obtain ⟨hx, hb, hr, hml, hown, hts, hK, hlocks, hXX, hA, hXo⟩ := id C
  intro H locs ls hP hD hS hl
  unfold f_X3_readsPart_2 at hf
  refine lv_aload_n hx hb dX3_readsPart_0 rfl (lv_at hl 0 rfl) ?_
  refine bk_get (wf := cw) (q0 := 2) (ci := 3) (k := 5) (v := .ref (g.2.2 (300 + (σ 2 5).toNatClampNeg))) C hP wl_X3 rfl rfl (by decide) wa_56 rfl rfl dX3_readsPart_1 ?_
  refine va_gets (v := .ref (g.2.2 (300 + (5 : Int32).toNatClampNeg))) hx hb (tok_Z (hXo.2.2.2 _ _ _ hXX).2.2.2.2.2.1 5 "OPEN" (by decide) (by decide) rfl) hS hown (hts _ wa_387) (fun _ h => h) dX3_readsPart_4 ?_
  obtain ⟨g5, hf⟩ := gd_s hf
  refine bk_acn (tgt := 16) C g5 (vin_l (by decide) (by decide)) dX3_readsPart_7 (by decide) (fun t7 => ?_) (fun t7 => ?_)
  · have hf := (if_neg t7).symm.trans hf
    refine lv_aload_n hx hb dX3_readsPart_16 rfl (lv_at hl 0 rfl) ?_
    refine bk_get (wf := cw) (q0 := 2) (ci := 3) (k := 8) (v := .int (σ 2 8)) C hP wl_X3 rfl rfl (by decide) wa_59 rfl rfl dX3_readsPart_17 ?_
    refine lv_if_eq (tgt := 39) hx hb dX3_readsPart_20 (by decide) (fun t20 => ?_) (fun t20 => ?_)
    · have hf := (if_pos t20).symm.trans hf
      exact b_X3_readsPart_2_b39 C hrec hf H locs ls hP hD hS (lv_sub hl [0] rfl)
    · have hf := (if_neg t20).symm.trans hf
      refine lv_aload_n hx hb dX3_readsPart_23 rfl (lv_at hl 0 rfl) ?_
      refine bk_get (wf := cw) (q0 := 2) (ci := 3) (k := 5) (v := .ref (g.2.2 (300 + (σ 2 5).toNatClampNeg))) C hP wl_X3 rfl rfl (by decide) wa_56 rfl rfl dX3_readsPart_24 ?_
      obtain ⟨g6, hf⟩ := gd_s hf
      obtain ⟨q7, hq7, hf⟩ := bi_s hf
      refine bk_VIr (wf := cw) (rest := []) [] C hP hD hS hl.1 (c_X8_isValue hXo hq7) (cwA_V 0 hts wa_416 wa_413 wa_414 wa_415 wa_264 rfl rfl nd_X8_isValue ⟨by dsimp only [rm_X8_isValue, rm_X3_readsPart_2]; omega, by dsimp only [rm_X8_isValue, rm_X3_readsPart_2]; omega⟩) ((hXo.2.2.2 _ _ _ hXX).2.2.2.2.2.1.1 _ (vin_n g6)).2.1 rfl rfl (Nat.le_of_ble_eq_true rfl) dX3_readsPart_27 ⟨Nat.zero_le _, Nat.zero_le _⟩ (fun H locs hP hD hS => ?_)
      refine lv_if_ne (tgt := 39) hx hb dX3_readsPart_30 (by decide) (fun t30 => ?_) (fun t30 => ?_)
      · have hf := (if_neg t30).symm.trans hf
        exact b_X3_readsPart_2_b39 C hrec hf H locs ls hP hD hS (lv_sub hl [0] rfl)
      · have hf := (if_pos t30).symm.trans hf
        refine lv_aload_n hx hb dX3_readsPart_33 rfl (lv_at hl 0 rfl) ?_
        refine lv_iconst (v := (3 : Int32)) hx hb dX3_readsPart_34 (by decide) ?_
        obtain ⟨q8, hq8, hf⟩ := bi_s hf
        refine bk_VI (wf := cw) (q0 := 2) (ci := 3) (rest := []) [.int (3 : Int32)] C hP hD hS hl.1 (c_X3_fails_2 hXo hq8) (cwA_V 1 hts wa_343 wa_340 wa_341 wa_342 wa_18 rfl rfl nd_X3_fails ⟨by dsimp only [rm_X3_fails_2, rm_X3_readsPart_2]; omega, by dsimp only [rm_X3_fails_2, rm_X3_readsPart_2]; omega⟩) rfl rfl rfl rfl (Nat.le_of_ble_eq_true rfl) dX3_readsPart_35 ⟨Nat.zero_le _, Nat.zero_le _⟩ (fun H locs hP hD hS => ?_)
        obtain ⟨g9, hf⟩ := gd_s hf
        cases hf
        exact bk_zret C hP hD hS (Decidable.not_not.mp g9) rfl dX3_readsPart_38
  · have hf := (if_pos t7).symm.trans hf
    refine lv_aload_n hx hb dX3_readsPart_10 rfl (lv_at hl 0 rfl) ?_
    refine lv_iload_n hx hb dX3_readsPart_11 rfl (lv_at hl 1 rfl) ?_
    obtain ⟨q10, hq10, hf⟩ := bi_s hf
    refine bk_VI (wf := cw) (q0 := 2) (ci := 3) (rest := []) [.int x1] C hP hD hS hl.1 (c_X3_readsParenthesis_2 hXo hrec hq10) (cwA_V 1 hts wa_406 wa_410 wa_411 wa_412 wa_18 rfl rfl nd_X3_readsParenthesis ⟨by dsimp only [rm_X3_readsParenthesis_2, rm_X3_readsPart_2]; omega, by dsimp only [rm_X3_readsParenthesis_2, rm_X3_readsPart_2]; omega⟩) rfl rfl rfl rfl (Nat.le_of_ble_eq_true rfl) dX3_readsPart_12 ⟨Nat.zero_le _, Nat.zero_le _⟩ (fun H locs hP hD hS => ?_)
    obtain ⟨g11, hf⟩ := gd_s hf
    cases hf
    exact bk_zret C hP hD hS (Decidable.not_not.mp g11) rfl dX3_readsPart_15
theorem c_X3_readsPart_2 {N d : Nat} {rec : Int32 → Sg → Option (Int32 × Sg)} {x1 : Int32} {σ : Sg} {z : Int32 × Sg} (hX : xOK g X) (hrec : ∀ (x : Int32) (σ : Sg) (z : Int32 × Sg), rec x σ = some z → MetI l yX3_readsExpression (Cond.code yX3_readsExpression cX3_readsExpression 4 (some .boolean) :: wsA) (rm_X3_readsExpression_2 d) cw g X [.ref (g.2.2 2), .int x] σ z.1 z.2) (hf : f_X3_readsPart_2 N rec x1 σ = some z) : MetI l yX3_readsPart (Cond.code yX3_readsPart cX3_readsPart 2 (some .boolean) :: wsA) (rm_X3_readsPart_2 (d + 1)) cw g X [.ref (g.2.2 2), .int x1] σ z.1 z.2 :=
  MetI_of hX (by decide) (Nat.le_of_ble_eq_true rfl) (fun p e s m args below meth c A C => b_X3_readsPart_2 C hrec hf)
-- X3_readsProduct_2: readsProduct(I)Z
def f_X3_readsProduct_2_b40 (N : Nat) (rec : Int32 → Sg → Option (Int32 × Sg)) (x1 : Int32) (x3 : Int32) (σ : Sg) : Option (Nat × Int32 × Int32 × Sg) :=
if ((σ 2 5) < 0 ∨ 27 ≤ (σ 2 5).toNatClampNeg) then none else
bd (tkI (σ 2 5).toNatClampNeg) fun v2 =>
(f_X3_advance_2 N σ).bind fun q3 =>
(f_X3_readsPart_2 N rec x1 q3).bind fun q4 =>
bd q4.1 fun v5 =>
(f_X4_add_9 N v2 (q4.2)).bind fun q6 =>
bd (x3 + (1 : Int32)) fun v7 =>
some (0, v5, v7, q6)
set_option maxHeartbeats 4000000 in
set_option maxRecDepth 100000 in
theorem b_X3_readsProduct_2_b40 {N d : Nat} {rec : Int32 → Sg → Option (Int32 × Sg)} {x1 : Int32} {x3 : Int32} {σ : Sg} {z : Nat × Int32 × Int32 × Sg} (C : Cx p s m args meth c cX3_readsProduct 5 (some .boolean) RX3 g A X) (hrec : ∀ (x : Int32) (σ : Sg) (z : Int32 × Sg), rec x σ = some z → MetI l yX3_readsExpression (Cond.code yX3_readsExpression cX3_readsExpression 4 (some .boolean) :: wsA) (rm_X3_readsExpression_2 d) cw g X [.ref (g.2.2 2), .int x] σ z.1 z.2) (hf : f_X3_readsProduct_2_b40 N rec x1 x3 σ = some z) (k0 : z.1 = 0 → Bk cw p l e (rm_X3_readsProduct_2 (d + 1)) s m args below meth c 5 g A Q 0 0 8 [(0, .ref (g.2.2 2)), (1, .int x1), (2, .int z.2.1), (3, .int z.2.2.1)] [] z.2.2.2) (k : ¬ z.1 = 0 → Bk cw p l e (rm_X3_readsProduct_2 (d + 1)) s m args below meth c 5 g A Q 0 0 77 [(2, .int z.2.1)] [] z.2.2.2) : Bk cw p l e (rm_X3_readsProduct_2 (d + 1)) s m args below meth c 5 g A Q 0 0 40 [(0, .ref (g.2.2 2)), (1, .int x1), (3, .int x3)] [] σ := by
  obtain ⟨hx, hb, hr, hml, hown, hts, hK, hlocks, hXX, hA, hXo⟩ := id C
  intro H locs ls hP hD hS hl
  unfold f_X3_readsProduct_2_b40 at hf
  refine lv_aload_n hx hb dX3_readsProduct_40 rfl (lv_at hl 0 rfl) ?_
  refine bk_get (wf := cw) (q0 := 2) (ci := 3) (k := 5) (v := .ref (g.2.2 (300 + (σ 2 5).toNatClampNeg))) C hP wl_X3 rfl rfl (by decide) wa_56 rfl rfl dX3_readsProduct_41 ?_
  obtain ⟨g1, hf⟩ := gd_s hf
  refine vk_getf (v := .int (tkI (σ 2 5).toNatClampNeg)) hx hb ((hXo.2.2.2 _ _ _ hXX).2.2.2.2.2.1.1 _ (vin_n g1)).2.2.2 hS hown (hts _ wa_409) (fun _ h => h) dX3_readsProduct_44 ?_
  obtain ⟨v2, ev2, hf⟩ := bd_s hf
  rw [← ev2]
  refine lv_istore (lv' := [(4, .int v2), (0, .ref (g.2.2 2)), (1, .int x1), (3, .int x3)]) hx hb dX3_readsProduct_47 hl (by decide) rfl (fun ls hl => ?_)
  refine lv_aload_n hx hb dX3_readsProduct_49 rfl (lv_at hl 1 rfl) ?_
  obtain ⟨q3, hq3, hf⟩ := bi_s hf
  refine bk_VV (wf := cw) (q0 := 2) (ci := 3) (rest := []) [] C hP hD hS hl.1 (c_X3_advance_2 hXo hq3) (cwA_V 0 hts wa_241 wa_238 wa_239 wa_240 wa_18 rfl rfl nd_X3_advance ⟨by dsimp only [rm_X3_advance_2, rm_X3_readsProduct_2]; omega, by dsimp only [rm_X3_advance_2, rm_X3_readsProduct_2]; omega⟩) rfl rfl rfl rfl (Nat.le_of_ble_eq_true rfl) dX3_readsProduct_50 ⟨Nat.zero_le _, Nat.zero_le _⟩ (fun H locs hP hD hS => ?_)
  refine lv_aload_n hx hb dX3_readsProduct_53 rfl (lv_at hl 1 rfl) ?_
  refine lv_iload_n hx hb dX3_readsProduct_54 rfl (lv_at hl 2 rfl) ?_
  obtain ⟨q4, hq4, hf⟩ := bi_s hf
  refine bk_VI (wf := cw) (q0 := 2) (ci := 3) (rest := []) [.int x1] C hP hD hS hl.1 (c_X3_readsPart_2 hXo hrec hq4) (cwA_V 1 hts wa_408 wa_421 wa_422 wa_423 wa_18 rfl rfl nd_X3_readsPart ⟨by dsimp only [rm_X3_readsPart_2, rm_X3_readsProduct_2]; omega, by dsimp only [rm_X3_readsPart_2, rm_X3_readsProduct_2]; omega⟩) rfl rfl rfl rfl (Nat.le_of_ble_eq_true rfl) dX3_readsProduct_55 ⟨Nat.zero_le _, Nat.zero_le _⟩ (fun H locs hP hD hS => ?_)
  obtain ⟨v5, ev5, hf⟩ := bd_s hf
  rw [← ev5]
  refine lv_istore_n (lv' := [(2, .int v5), (4, .int v2), (0, .ref (g.2.2 2)), (1, .int x1), (3, .int x3)]) hx hb dX3_readsProduct_58 rfl hl (by decide) rfl (fun ls hl => ?_)
  refine lv_aload_n hx hb dX3_readsProduct_59 rfl (lv_at hl 2 rfl) ?_
  refine bk_get (wf := cw) (q0 := 2) (ci := 3) (k := 0) (v := .ref (g.2.2 3)) C hP wl_X3 rfl rfl (by decide) wa_51 rfl rfl dX3_readsProduct_60 ?_
  refine bk_get (wf := cw) (q0 := 3) (ci := 8) (k := 10) (v := .ref (g.2.2 9)) C hP wl_X9 rfl rfl (by decide) wa_381 rfl rfl dX3_readsProduct_63 ?_
  refine lv_iload hx hb dX3_readsProduct_66 (lv_at hl 1 rfl) ?_
  obtain ⟨q6, hq6, hf⟩ := bi_s hf
  refine bk_VV (wf := cw) (q0 := 9) (ci := 4) (rest := []) [.int v2] C hP hD hS hl.1 (c_X4_add_9 hXo hq6) (cwA_V 1 hts wa_395 wa_392 wa_393 wa_394 wa_80 rfl rfl nd_X4_add ⟨by dsimp only [rm_X4_add_9, rm_X3_readsProduct_2]; omega, by dsimp only [rm_X4_add_9, rm_X3_readsProduct_2]; omega⟩) rfl rfl rfl rfl (Nat.le_of_ble_eq_true rfl) dX3_readsProduct_68 ⟨Nat.zero_le _, Nat.zero_le _⟩ (fun H locs hP hD hS => ?_)
  obtain ⟨v7, ev7, hf⟩ := bd_s hf
  refine lv_iinc (v := v7) (lv' := [(3, .int v7), (2, .int v5), (4, .int v2), (0, .ref (g.2.2 2)), (1, .int x1)]) hx hb dX3_readsProduct_71 hl (k := 4) rfl (by rw [ev7]; rfl) (by decide) rfl (fun ls hl => ?_)
  refine lv_goto (tgt := 8) hx hb dX3_readsProduct_74 (by decide) ?_
  cases hf
  exact k0 rfl H locs ls hP hD hS (lv_sub hl [3, 4, 1, 0] rfl)
def s_X3_readsProduct_2_h8 (N : Nat) (rec : Int32 → Sg → Option (Int32 × Sg)) (x1 : Int32) (x2 : Int32) (x3 : Int32) (σ : Sg) : Option (Nat × Int32 × Int32 × Sg) :=
if (σ 2 4) ≤ x3 then (some (1, x2, 0, σ))
else (if x2 = 0 then (some (1, x2, 0, σ))
else (if ((σ 2 5) < 0 ∨ 27 ≤ (σ 2 5).toNatClampNeg) then none else
if (σ 2 5) = (9 : Int32) then (f_X3_readsProduct_2_b40 N rec x1 x3 σ)
else (if ((σ 2 5) < 0 ∨ 27 ≤ (σ 2 5).toNatClampNeg) then none else
if (σ 2 5) = (10 : Int32) then (f_X3_readsProduct_2_b40 N rec x1 x3 σ)
else (some (1, x2, 0, σ)))))
set_option maxHeartbeats 4000000 in
set_option maxRecDepth 100000 in
theorem e_X3_readsProduct_2_h8 {N d : Nat} {rec : Int32 → Sg → Option (Int32 × Sg)} {x1 : Int32} {x2 : Int32} {x3 : Int32} {σ : Sg} {z : Nat × Int32 × Int32 × Sg} (C : Cx p s m args meth c cX3_readsProduct 5 (some .boolean) RX3 g A X) (hrec : ∀ (x : Int32) (σ : Sg) (z : Int32 × Sg), rec x σ = some z → MetI l yX3_readsExpression (Cond.code yX3_readsExpression cX3_readsExpression 4 (some .boolean) :: wsA) (rm_X3_readsExpression_2 d) cw g X [.ref (g.2.2 2), .int x] σ z.1 z.2) (hf : s_X3_readsProduct_2_h8 N rec x1 x2 x3 σ = some z) (k0 : z.1 = 0 → Bk cw p l e (rm_X3_readsProduct_2 (d + 1)) s m args below meth c 5 g A Q 0 0 8 [(0, .ref (g.2.2 2)), (1, .int x1), (2, .int z.2.1), (3, .int z.2.2.1)] [] z.2.2.2) (k : ¬ z.1 = 0 → Bk cw p l e (rm_X3_readsProduct_2 (d + 1)) s m args below meth c 5 g A Q 0 0 77 [(2, .int z.2.1)] [] z.2.2.2) : Bk cw p l e (rm_X3_readsProduct_2 (d + 1)) s m args below meth c 5 g A Q 0 0 8 [(0, .ref (g.2.2 2)), (1, .int x1), (2, .int x2), (3, .int x3)] [] σ := by
  obtain ⟨hx, hb, hr, hml, hown, hts, hK, hlocks, hXX, hA, hXo⟩ := id C
  intro H locs ls hP hD hS hl
  unfold s_X3_readsProduct_2_h8 at hf
  refine lv_iload_n hx hb dX3_readsProduct_8 rfl (lv_at hl 3 rfl) ?_
  refine lv_aload_n hx hb dX3_readsProduct_9 rfl (lv_at hl 0 rfl) ?_
  refine bk_get (wf := cw) (q0 := 2) (ci := 3) (k := 4) (v := .int (σ 2 4)) C hP wl_X3 rfl rfl (by decide) wa_54 rfl rfl dX3_readsProduct_10 ?_
  refine lv_icmp_ge (tgt := 77) hx hb dX3_readsProduct_13 (by decide) (fun t13 => ?_) (fun t13 => ?_)
  · have hf := (if_pos t13).symm.trans hf
    cases hf
    exact (k (show ¬ (1 : Nat) = 0 by decide)) H locs ls hP hD hS (lv_sub hl [2] rfl)
  · have hf := (if_neg t13).symm.trans hf
    refine lv_iload_n hx hb dX3_readsProduct_16 rfl (lv_at hl 2 rfl) ?_
    refine lv_if_eq (tgt := 77) hx hb dX3_readsProduct_17 (by decide) (fun t17 => ?_) (fun t17 => ?_)
    · have hf := (if_pos t17).symm.trans hf
      cases hf
      exact (k (show ¬ (1 : Nat) = 0 by decide)) H locs ls hP hD hS (lv_sub hl [2] rfl)
    · have hf := (if_neg t17).symm.trans hf
      refine lv_aload_n hx hb dX3_readsProduct_20 rfl (lv_at hl 0 rfl) ?_
      refine bk_get (wf := cw) (q0 := 2) (ci := 3) (k := 5) (v := .ref (g.2.2 (300 + (σ 2 5).toNatClampNeg))) C hP wl_X3 rfl rfl (by decide) wa_56 rfl rfl dX3_readsProduct_21 ?_
      refine va_gets (v := .ref (g.2.2 (300 + (9 : Int32).toNatClampNeg))) hx hb (tok_Z (hXo.2.2.2 _ _ _ hXX).2.2.2.2.2.1 9 "TIMES" (by decide) (by decide) rfl) hS hown (hts _ wa_419) (fun _ h => h) dX3_readsProduct_24 ?_
      obtain ⟨g8, hf⟩ := gd_s hf
      refine bk_acq (tgt := 40) C g8 (vin_l (by decide) (by decide)) dX3_readsProduct_27 (by decide) (fun t27 => ?_) (fun t27 => ?_)
      · have hf := (if_pos t27).symm.trans hf
        exact b_X3_readsProduct_2_b40 C hrec hf k0 k H locs ls hP hD hS (lv_sub hl [0, 1, 3] rfl)
      · have hf := (if_neg t27).symm.trans hf
        refine lv_aload_n hx hb dX3_readsProduct_30 rfl (lv_at hl 0 rfl) ?_
        refine bk_get (wf := cw) (q0 := 2) (ci := 3) (k := 5) (v := .ref (g.2.2 (300 + (σ 2 5).toNatClampNeg))) C hP wl_X3 rfl rfl (by decide) wa_56 rfl rfl dX3_readsProduct_31 ?_
        refine va_gets (v := .ref (g.2.2 (300 + (10 : Int32).toNatClampNeg))) hx hb (tok_Z (hXo.2.2.2 _ _ _ hXX).2.2.2.2.2.1 10 "OVER" (by decide) (by decide) rfl) hS hown (hts _ wa_420) (fun _ h => h) dX3_readsProduct_34 ?_
        obtain ⟨g9, hf⟩ := gd_s hf
        refine bk_acn (tgt := 77) C g9 (vin_l (by decide) (by decide)) dX3_readsProduct_37 (by decide) (fun t37 => ?_) (fun t37 => ?_)
        · have hf := (if_neg t37).symm.trans hf
          cases hf
          exact (k (show ¬ (1 : Nat) = 0 by decide)) H locs ls hP hD hS (lv_sub hl [2] rfl)
        · have hf := (if_pos t37).symm.trans hf
          exact b_X3_readsProduct_2_b40 C hrec hf k0 k H locs ls hP hD hS (lv_sub hl [0, 1, 3] rfl)
theorem lp_X3_readsProduct_2_h8 {N d : Nat} {rec : Int32 → Sg → Option (Int32 × Sg)} {n : Nat} {x1 : Int32} {x2 : Int32} {x3 : Int32} {σ : Sg} {z : Nat × Int32 × Int32 × Sg} (C : Cx p s m args meth c cX3_readsProduct 5 (some .boolean) RX3 g A X) (hrec : ∀ (x : Int32) (σ : Sg) (z : Int32 × Sg), rec x σ = some z → MetI l yX3_readsExpression (Cond.code yX3_readsExpression cX3_readsExpression 4 (some .boolean) :: wsA) (rm_X3_readsExpression_2 d) cw g X [.ref (g.2.2 2), .int x] σ z.1 z.2) (hz : it (fun q => s_X3_readsProduct_2_h8 N rec x1 q.1 q.2.1 q.2.2) n (x2, x3, σ) = some z) (k : Bk cw p l e (rm_X3_readsProduct_2 (d + 1)) s m args below meth c 5 g A Q 0 0 77 [(2, .int z.2.1)] [] z.2.2.2) : Bk cw p l e (rm_X3_readsProduct_2 (d + 1)) s m args below meth c 5 g A Q 0 0 8 [(0, .ref (g.2.2 2)), (1, .int x1), (2, .int x2), (3, .int x3)] [] σ :=
  it_W (S := Int32 × Int32 × Sg) (fun q => Bk cw p l e (rm_X3_readsProduct_2 (d + 1)) s m args below meth c 5 g A Q 0 0 8 [(0, .ref (g.2.2 2)), (1, .int x1), (2, .int q.1), (3, .int q.2.1)] [] q.2.2) (fun z => Bk cw p l e (rm_X3_readsProduct_2 (d + 1)) s m args below meth c 5 g A Q 0 0 77 [(2, .int z.2.1)] [] z.2.2.2) (fun q z hq k0 k => e_X3_readsProduct_2_h8 C hrec hq k0 k) n (x2, x3, σ) z hz k
def f_X3_readsProduct_2 (N : Nat) (rec : Int32 → Sg → Option (Int32 × Sg)) (x1 : Int32) (σ : Sg) : Option (Int32 × Sg) :=
(f_X3_readsPart_2 N rec x1 σ).bind fun q10 =>
bd q10.1 fun v11 =>
(it (fun q => s_X3_readsProduct_2_h8 N rec x1 q.1 q.2.1 q.2.2) N (v11, (0 : Int32), (q10.2))).bind fun z12 =>
if ¬ ((z12.2.1) = 0 ∨ (z12.2.1) = 1) then none else some ((z12.2.1), (z12.2.2.2))
set_option maxHeartbeats 4000000 in
set_option maxRecDepth 100000 in
theorem b_X3_readsProduct_2 {N d : Nat} {rec : Int32 → Sg → Option (Int32 × Sg)} {x1 : Int32} {σ : Sg} {z : Int32 × Sg} (C : Cx p s m args meth c cX3_readsProduct 5 (some .boolean) RX3 g A X) (hrec : ∀ (x : Int32) (σ : Sg) (z : Int32 × Sg), rec x σ = some z → MetI l yX3_readsExpression (Cond.code yX3_readsExpression cX3_readsExpression 4 (some .boolean) :: wsA) (rm_X3_readsExpression_2 d) cw g X [.ref (g.2.2 2), .int x] σ z.1 z.2) (hf : f_X3_readsProduct_2 N rec x1 σ = some z) : Bk cw p l e (rm_X3_readsProduct_2 (d + 1)) s m args below meth c 5 g A (MQ below (qI cw g A z.1 z.2) args s 0 0 A) 0 0 0 [(0, .ref (g.2.2 2)), (1, .int x1)] [] σ := by
  obtain ⟨hx, hb, hr, hml, hown, hts, hK, hlocks, hXX, hA, hXo⟩ := id C
  intro H locs ls hP hD hS hl
  unfold f_X3_readsProduct_2 at hf
  refine lv_aload_n hx hb dX3_readsProduct_0 rfl (lv_at hl 0 rfl) ?_
  refine lv_iload_n hx hb dX3_readsProduct_1 rfl (lv_at hl 1 rfl) ?_
  obtain ⟨q10, hq10, hf⟩ := bi_s hf
  refine bk_VI (wf := cw) (q0 := 2) (ci := 3) (rest := []) [.int x1] C hP hD hS hl.1 (c_X3_readsPart_2 hXo hrec hq10) (cwA_V 1 hts wa_408 wa_421 wa_422 wa_423 wa_18 rfl rfl nd_X3_readsPart ⟨by dsimp only [rm_X3_readsPart_2, rm_X3_readsProduct_2]; omega, by dsimp only [rm_X3_readsPart_2, rm_X3_readsProduct_2]; omega⟩) rfl rfl rfl rfl (Nat.le_of_ble_eq_true rfl) dX3_readsProduct_2 ⟨Nat.zero_le _, Nat.zero_le _⟩ (fun H locs hP hD hS => ?_)
  obtain ⟨v11, ev11, hf⟩ := bd_s hf
  rw [← ev11]
  refine lv_istore_n (lv' := [(2, .int v11), (0, .ref (g.2.2 2)), (1, .int x1)]) hx hb dX3_readsProduct_5 rfl hl (by decide) rfl (fun ls hl => ?_)
  refine lv_iconst (v := (0 : Int32)) hx hb dX3_readsProduct_6 (by decide) ?_
  refine lv_istore_n (lv' := [(3, .int (0 : Int32)), (2, .int v11), (0, .ref (g.2.2 2)), (1, .int x1)]) hx hb dX3_readsProduct_7 rfl hl (by decide) rfl (fun ls hl => ?_)
  obtain ⟨z12, hz12, hf⟩ := bi_s hf
  refine lp_X3_readsProduct_2_h8 C hrec hz12 ?_ H locs ls hP hD hS (lv_sub hl [2, 3, 1, 0] rfl)
  intro H locs ls hP hD hS hl
  refine lv_iload_n hx hb dX3_readsProduct_77 rfl (lv_at hl 0 rfl) ?_
  obtain ⟨g13, hf⟩ := gd_s hf
  cases hf
  exact bk_zret C hP hD hS (Decidable.not_not.mp g13) rfl dX3_readsProduct_78
theorem c_X3_readsProduct_2 {N d : Nat} {rec : Int32 → Sg → Option (Int32 × Sg)} {x1 : Int32} {σ : Sg} {z : Int32 × Sg} (hX : xOK g X) (hrec : ∀ (x : Int32) (σ : Sg) (z : Int32 × Sg), rec x σ = some z → MetI l yX3_readsExpression (Cond.code yX3_readsExpression cX3_readsExpression 4 (some .boolean) :: wsA) (rm_X3_readsExpression_2 d) cw g X [.ref (g.2.2 2), .int x] σ z.1 z.2) (hf : f_X3_readsProduct_2 N rec x1 σ = some z) : MetI l yX3_readsProduct (Cond.code yX3_readsProduct cX3_readsProduct 5 (some .boolean) :: wsA) (rm_X3_readsProduct_2 (d + 1)) cw g X [.ref (g.2.2 2), .int x1] σ z.1 z.2 :=
  MetI_of hX (by decide) (Nat.le_of_ble_eq_true rfl) (fun p e s m args below meth c A C => b_X3_readsProduct_2 C hrec hf)
-- X3_readsSum_2: readsSum(I)Z
def f_X3_readsSum_2_b40 (N : Nat) (rec : Int32 → Sg → Option (Int32 × Sg)) (x1 : Int32) (x3 : Int32) (σ : Sg) : Option (Nat × Int32 × Int32 × Sg) :=
if ((σ 2 5) < 0 ∨ 27 ≤ (σ 2 5).toNatClampNeg) then none else
bd (tkI (σ 2 5).toNatClampNeg) fun v2 =>
(f_X3_advance_2 N σ).bind fun q3 =>
(f_X3_readsProduct_2 N rec x1 q3).bind fun q4 =>
bd q4.1 fun v5 =>
(f_X4_add_9 N v2 (q4.2)).bind fun q6 =>
bd (x3 + (1 : Int32)) fun v7 =>
some (0, v5, v7, q6)
set_option maxHeartbeats 4000000 in
set_option maxRecDepth 100000 in
theorem b_X3_readsSum_2_b40 {N d : Nat} {rec : Int32 → Sg → Option (Int32 × Sg)} {x1 : Int32} {x3 : Int32} {σ : Sg} {z : Nat × Int32 × Int32 × Sg} (C : Cx p s m args meth c cX3_readsSum 5 (some .boolean) RX3 g A X) (hrec : ∀ (x : Int32) (σ : Sg) (z : Int32 × Sg), rec x σ = some z → MetI l yX3_readsExpression (Cond.code yX3_readsExpression cX3_readsExpression 4 (some .boolean) :: wsA) (rm_X3_readsExpression_2 d) cw g X [.ref (g.2.2 2), .int x] σ z.1 z.2) (hf : f_X3_readsSum_2_b40 N rec x1 x3 σ = some z) (k0 : z.1 = 0 → Bk cw p l e (rm_X3_readsSum_2 (d + 1)) s m args below meth c 5 g A Q 0 0 8 [(0, .ref (g.2.2 2)), (1, .int x1), (2, .int z.2.1), (3, .int z.2.2.1)] [] z.2.2.2) (k : ¬ z.1 = 0 → Bk cw p l e (rm_X3_readsSum_2 (d + 1)) s m args below meth c 5 g A Q 0 0 77 [(2, .int z.2.1)] [] z.2.2.2) : Bk cw p l e (rm_X3_readsSum_2 (d + 1)) s m args below meth c 5 g A Q 0 0 40 [(0, .ref (g.2.2 2)), (1, .int x1), (3, .int x3)] [] σ := by
  obtain ⟨hx, hb, hr, hml, hown, hts, hK, hlocks, hXX, hA, hXo⟩ := id C
  intro H locs ls hP hD hS hl
  unfold f_X3_readsSum_2_b40 at hf
  refine lv_aload_n hx hb dX3_readsSum_40 rfl (lv_at hl 0 rfl) ?_
  refine bk_get (wf := cw) (q0 := 2) (ci := 3) (k := 5) (v := .ref (g.2.2 (300 + (σ 2 5).toNatClampNeg))) C hP wl_X3 rfl rfl (by decide) wa_56 rfl rfl dX3_readsSum_41 ?_
  obtain ⟨g1, hf⟩ := gd_s hf
  refine vk_getf (v := .int (tkI (σ 2 5).toNatClampNeg)) hx hb ((hXo.2.2.2 _ _ _ hXX).2.2.2.2.2.1.1 _ (vin_n g1)).2.2.2 hS hown (hts _ wa_409) (fun _ h => h) dX3_readsSum_44 ?_
  obtain ⟨v2, ev2, hf⟩ := bd_s hf
  rw [← ev2]
  refine lv_istore (lv' := [(4, .int v2), (0, .ref (g.2.2 2)), (1, .int x1), (3, .int x3)]) hx hb dX3_readsSum_47 hl (by decide) rfl (fun ls hl => ?_)
  refine lv_aload_n hx hb dX3_readsSum_49 rfl (lv_at hl 1 rfl) ?_
  obtain ⟨q3, hq3, hf⟩ := bi_s hf
  refine bk_VV (wf := cw) (q0 := 2) (ci := 3) (rest := []) [] C hP hD hS hl.1 (c_X3_advance_2 hXo hq3) (cwA_V 0 hts wa_241 wa_238 wa_239 wa_240 wa_18 rfl rfl nd_X3_advance ⟨by dsimp only [rm_X3_advance_2, rm_X3_readsSum_2]; omega, by dsimp only [rm_X3_advance_2, rm_X3_readsSum_2]; omega⟩) rfl rfl rfl rfl (Nat.le_of_ble_eq_true rfl) dX3_readsSum_50 ⟨Nat.zero_le _, Nat.zero_le _⟩ (fun H locs hP hD hS => ?_)
  refine lv_aload_n hx hb dX3_readsSum_53 rfl (lv_at hl 1 rfl) ?_
  refine lv_iload_n hx hb dX3_readsSum_54 rfl (lv_at hl 2 rfl) ?_
  obtain ⟨q4, hq4, hf⟩ := bi_s hf
  refine bk_VI (wf := cw) (q0 := 2) (ci := 3) (rest := []) [.int x1] C hP hD hS hl.1 (c_X3_readsProduct_2 hXo hrec hq4) (cwA_V 1 hts wa_418 wa_427 wa_428 wa_429 wa_18 rfl rfl nd_X3_readsProduct ⟨by dsimp only [rm_X3_readsProduct_2, rm_X3_readsSum_2]; omega, by dsimp only [rm_X3_readsProduct_2, rm_X3_readsSum_2]; omega⟩) rfl rfl rfl rfl (Nat.le_of_ble_eq_true rfl) dX3_readsSum_55 ⟨Nat.zero_le _, Nat.zero_le _⟩ (fun H locs hP hD hS => ?_)
  obtain ⟨v5, ev5, hf⟩ := bd_s hf
  rw [← ev5]
  refine lv_istore_n (lv' := [(2, .int v5), (4, .int v2), (0, .ref (g.2.2 2)), (1, .int x1), (3, .int x3)]) hx hb dX3_readsSum_58 rfl hl (by decide) rfl (fun ls hl => ?_)
  refine lv_aload_n hx hb dX3_readsSum_59 rfl (lv_at hl 2 rfl) ?_
  refine bk_get (wf := cw) (q0 := 2) (ci := 3) (k := 0) (v := .ref (g.2.2 3)) C hP wl_X3 rfl rfl (by decide) wa_51 rfl rfl dX3_readsSum_60 ?_
  refine bk_get (wf := cw) (q0 := 3) (ci := 8) (k := 10) (v := .ref (g.2.2 9)) C hP wl_X9 rfl rfl (by decide) wa_381 rfl rfl dX3_readsSum_63 ?_
  refine lv_iload hx hb dX3_readsSum_66 (lv_at hl 1 rfl) ?_
  obtain ⟨q6, hq6, hf⟩ := bi_s hf
  refine bk_VV (wf := cw) (q0 := 9) (ci := 4) (rest := []) [.int v2] C hP hD hS hl.1 (c_X4_add_9 hXo hq6) (cwA_V 1 hts wa_395 wa_392 wa_393 wa_394 wa_80 rfl rfl nd_X4_add ⟨by dsimp only [rm_X4_add_9, rm_X3_readsSum_2]; omega, by dsimp only [rm_X4_add_9, rm_X3_readsSum_2]; omega⟩) rfl rfl rfl rfl (Nat.le_of_ble_eq_true rfl) dX3_readsSum_68 ⟨Nat.zero_le _, Nat.zero_le _⟩ (fun H locs hP hD hS => ?_)
  obtain ⟨v7, ev7, hf⟩ := bd_s hf
  refine lv_iinc (v := v7) (lv' := [(3, .int v7), (2, .int v5), (4, .int v2), (0, .ref (g.2.2 2)), (1, .int x1)]) hx hb dX3_readsSum_71 hl (k := 4) rfl (by rw [ev7]; rfl) (by decide) rfl (fun ls hl => ?_)
  refine lv_goto (tgt := 8) hx hb dX3_readsSum_74 (by decide) ?_
  cases hf
  exact k0 rfl H locs ls hP hD hS (lv_sub hl [3, 4, 1, 0] rfl)
def s_X3_readsSum_2_h8 (N : Nat) (rec : Int32 → Sg → Option (Int32 × Sg)) (x1 : Int32) (x2 : Int32) (x3 : Int32) (σ : Sg) : Option (Nat × Int32 × Int32 × Sg) :=
if (σ 2 4) ≤ x3 then (some (1, x2, 0, σ))
else (if x2 = 0 then (some (1, x2, 0, σ))
else (if ((σ 2 5) < 0 ∨ 27 ≤ (σ 2 5).toNatClampNeg) then none else
if (σ 2 5) = (7 : Int32) then (f_X3_readsSum_2_b40 N rec x1 x3 σ)
else (if ((σ 2 5) < 0 ∨ 27 ≤ (σ 2 5).toNatClampNeg) then none else
if (σ 2 5) = (8 : Int32) then (f_X3_readsSum_2_b40 N rec x1 x3 σ)
else (some (1, x2, 0, σ)))))
set_option maxHeartbeats 4000000 in
set_option maxRecDepth 100000 in
theorem e_X3_readsSum_2_h8 {N d : Nat} {rec : Int32 → Sg → Option (Int32 × Sg)} {x1 : Int32} {x2 : Int32} {x3 : Int32} {σ : Sg} {z : Nat × Int32 × Int32 × Sg} (C : Cx p s m args meth c cX3_readsSum 5 (some .boolean) RX3 g A X) (hrec : ∀ (x : Int32) (σ : Sg) (z : Int32 × Sg), rec x σ = some z → MetI l yX3_readsExpression (Cond.code yX3_readsExpression cX3_readsExpression 4 (some .boolean) :: wsA) (rm_X3_readsExpression_2 d) cw g X [.ref (g.2.2 2), .int x] σ z.1 z.2) (hf : s_X3_readsSum_2_h8 N rec x1 x2 x3 σ = some z) (k0 : z.1 = 0 → Bk cw p l e (rm_X3_readsSum_2 (d + 1)) s m args below meth c 5 g A Q 0 0 8 [(0, .ref (g.2.2 2)), (1, .int x1), (2, .int z.2.1), (3, .int z.2.2.1)] [] z.2.2.2) (k : ¬ z.1 = 0 → Bk cw p l e (rm_X3_readsSum_2 (d + 1)) s m args below meth c 5 g A Q 0 0 77 [(2, .int z.2.1)] [] z.2.2.2) : Bk cw p l e (rm_X3_readsSum_2 (d + 1)) s m args below meth c 5 g A Q 0 0 8 [(0, .ref (g.2.2 2)), (1, .int x1), (2, .int x2), (3, .int x3)] [] σ := by
  obtain ⟨hx, hb, hr, hml, hown, hts, hK, hlocks, hXX, hA, hXo⟩ := id C
  intro H locs ls hP hD hS hl
  unfold s_X3_readsSum_2_h8 at hf
  refine lv_iload_n hx hb dX3_readsSum_8 rfl (lv_at hl 3 rfl) ?_
  refine lv_aload_n hx hb dX3_readsSum_9 rfl (lv_at hl 0 rfl) ?_
  refine bk_get (wf := cw) (q0 := 2) (ci := 3) (k := 4) (v := .int (σ 2 4)) C hP wl_X3 rfl rfl (by decide) wa_54 rfl rfl dX3_readsSum_10 ?_
  refine lv_icmp_ge (tgt := 77) hx hb dX3_readsSum_13 (by decide) (fun t13 => ?_) (fun t13 => ?_)
  · have hf := (if_pos t13).symm.trans hf
    cases hf
    exact (k (show ¬ (1 : Nat) = 0 by decide)) H locs ls hP hD hS (lv_sub hl [2] rfl)
  · have hf := (if_neg t13).symm.trans hf
    refine lv_iload_n hx hb dX3_readsSum_16 rfl (lv_at hl 2 rfl) ?_
    refine lv_if_eq (tgt := 77) hx hb dX3_readsSum_17 (by decide) (fun t17 => ?_) (fun t17 => ?_)
    · have hf := (if_pos t17).symm.trans hf
      cases hf
      exact (k (show ¬ (1 : Nat) = 0 by decide)) H locs ls hP hD hS (lv_sub hl [2] rfl)
    · have hf := (if_neg t17).symm.trans hf
      refine lv_aload_n hx hb dX3_readsSum_20 rfl (lv_at hl 0 rfl) ?_
      refine bk_get (wf := cw) (q0 := 2) (ci := 3) (k := 5) (v := .ref (g.2.2 (300 + (σ 2 5).toNatClampNeg))) C hP wl_X3 rfl rfl (by decide) wa_56 rfl rfl dX3_readsSum_21 ?_
      refine va_gets (v := .ref (g.2.2 (300 + (7 : Int32).toNatClampNeg))) hx hb (tok_Z (hXo.2.2.2 _ _ _ hXX).2.2.2.2.2.1 7 "PLUS" (by decide) (by decide) rfl) hS hown (hts _ wa_425) (fun _ h => h) dX3_readsSum_24 ?_
      obtain ⟨g8, hf⟩ := gd_s hf
      refine bk_acq (tgt := 40) C g8 (vin_l (by decide) (by decide)) dX3_readsSum_27 (by decide) (fun t27 => ?_) (fun t27 => ?_)
      · have hf := (if_pos t27).symm.trans hf
        exact b_X3_readsSum_2_b40 C hrec hf k0 k H locs ls hP hD hS (lv_sub hl [0, 1, 3] rfl)
      · have hf := (if_neg t27).symm.trans hf
        refine lv_aload_n hx hb dX3_readsSum_30 rfl (lv_at hl 0 rfl) ?_
        refine bk_get (wf := cw) (q0 := 2) (ci := 3) (k := 5) (v := .ref (g.2.2 (300 + (σ 2 5).toNatClampNeg))) C hP wl_X3 rfl rfl (by decide) wa_56 rfl rfl dX3_readsSum_31 ?_
        refine va_gets (v := .ref (g.2.2 (300 + (8 : Int32).toNatClampNeg))) hx hb (tok_Z (hXo.2.2.2 _ _ _ hXX).2.2.2.2.2.1 8 "MINUS" (by decide) (by decide) rfl) hS hown (hts _ wa_426) (fun _ h => h) dX3_readsSum_34 ?_
        obtain ⟨g9, hf⟩ := gd_s hf
        refine bk_acn (tgt := 77) C g9 (vin_l (by decide) (by decide)) dX3_readsSum_37 (by decide) (fun t37 => ?_) (fun t37 => ?_)
        · have hf := (if_neg t37).symm.trans hf
          cases hf
          exact (k (show ¬ (1 : Nat) = 0 by decide)) H locs ls hP hD hS (lv_sub hl [2] rfl)
        · have hf := (if_pos t37).symm.trans hf
          exact b_X3_readsSum_2_b40 C hrec hf k0 k H locs ls hP hD hS (lv_sub hl [0, 1, 3] rfl)
theorem lp_X3_readsSum_2_h8 {N d : Nat} {rec : Int32 → Sg → Option (Int32 × Sg)} {n : Nat} {x1 : Int32} {x2 : Int32} {x3 : Int32} {σ : Sg} {z : Nat × Int32 × Int32 × Sg} (C : Cx p s m args meth c cX3_readsSum 5 (some .boolean) RX3 g A X) (hrec : ∀ (x : Int32) (σ : Sg) (z : Int32 × Sg), rec x σ = some z → MetI l yX3_readsExpression (Cond.code yX3_readsExpression cX3_readsExpression 4 (some .boolean) :: wsA) (rm_X3_readsExpression_2 d) cw g X [.ref (g.2.2 2), .int x] σ z.1 z.2) (hz : it (fun q => s_X3_readsSum_2_h8 N rec x1 q.1 q.2.1 q.2.2) n (x2, x3, σ) = some z) (k : Bk cw p l e (rm_X3_readsSum_2 (d + 1)) s m args below meth c 5 g A Q 0 0 77 [(2, .int z.2.1)] [] z.2.2.2) : Bk cw p l e (rm_X3_readsSum_2 (d + 1)) s m args below meth c 5 g A Q 0 0 8 [(0, .ref (g.2.2 2)), (1, .int x1), (2, .int x2), (3, .int x3)] [] σ :=
  it_W (S := Int32 × Int32 × Sg) (fun q => Bk cw p l e (rm_X3_readsSum_2 (d + 1)) s m args below meth c 5 g A Q 0 0 8 [(0, .ref (g.2.2 2)), (1, .int x1), (2, .int q.1), (3, .int q.2.1)] [] q.2.2) (fun z => Bk cw p l e (rm_X3_readsSum_2 (d + 1)) s m args below meth c 5 g A Q 0 0 77 [(2, .int z.2.1)] [] z.2.2.2) (fun q z hq k0 k => e_X3_readsSum_2_h8 C hrec hq k0 k) n (x2, x3, σ) z hz k
def f_X3_readsSum_2 (N : Nat) (rec : Int32 → Sg → Option (Int32 × Sg)) (x1 : Int32) (σ : Sg) : Option (Int32 × Sg) :=
(f_X3_readsProduct_2 N rec x1 σ).bind fun q10 =>
bd q10.1 fun v11 =>
(it (fun q => s_X3_readsSum_2_h8 N rec x1 q.1 q.2.1 q.2.2) N (v11, (0 : Int32), (q10.2))).bind fun z12 =>
if ¬ ((z12.2.1) = 0 ∨ (z12.2.1) = 1) then none else some ((z12.2.1), (z12.2.2.2))
set_option maxHeartbeats 4000000 in
set_option maxRecDepth 100000 in
theorem b_X3_readsSum_2 {N d : Nat} {rec : Int32 → Sg → Option (Int32 × Sg)} {x1 : Int32} {σ : Sg} {z : Int32 × Sg} (C : Cx p s m args meth c cX3_readsSum 5 (some .boolean) RX3 g A X) (hrec : ∀ (x : Int32) (σ : Sg) (z : Int32 × Sg), rec x σ = some z → MetI l yX3_readsExpression (Cond.code yX3_readsExpression cX3_readsExpression 4 (some .boolean) :: wsA) (rm_X3_readsExpression_2 d) cw g X [.ref (g.2.2 2), .int x] σ z.1 z.2) (hf : f_X3_readsSum_2 N rec x1 σ = some z) : Bk cw p l e (rm_X3_readsSum_2 (d + 1)) s m args below meth c 5 g A (MQ below (qI cw g A z.1 z.2) args s 0 0 A) 0 0 0 [(0, .ref (g.2.2 2)), (1, .int x1)] [] σ := by
  obtain ⟨hx, hb, hr, hml, hown, hts, hK, hlocks, hXX, hA, hXo⟩ := id C
  intro H locs ls hP hD hS hl
  unfold f_X3_readsSum_2 at hf
  refine lv_aload_n hx hb dX3_readsSum_0 rfl (lv_at hl 0 rfl) ?_
  refine lv_iload_n hx hb dX3_readsSum_1 rfl (lv_at hl 1 rfl) ?_
  obtain ⟨q10, hq10, hf⟩ := bi_s hf
  refine bk_VI (wf := cw) (q0 := 2) (ci := 3) (rest := []) [.int x1] C hP hD hS hl.1 (c_X3_readsProduct_2 hXo hrec hq10) (cwA_V 1 hts wa_418 wa_427 wa_428 wa_429 wa_18 rfl rfl nd_X3_readsProduct ⟨by dsimp only [rm_X3_readsProduct_2, rm_X3_readsSum_2]; omega, by dsimp only [rm_X3_readsProduct_2, rm_X3_readsSum_2]; omega⟩) rfl rfl rfl rfl (Nat.le_of_ble_eq_true rfl) dX3_readsSum_2 ⟨Nat.zero_le _, Nat.zero_le _⟩ (fun H locs hP hD hS => ?_)
  obtain ⟨v11, ev11, hf⟩ := bd_s hf
  rw [← ev11]
  refine lv_istore_n (lv' := [(2, .int v11), (0, .ref (g.2.2 2)), (1, .int x1)]) hx hb dX3_readsSum_5 rfl hl (by decide) rfl (fun ls hl => ?_)
  refine lv_iconst (v := (0 : Int32)) hx hb dX3_readsSum_6 (by decide) ?_
  refine lv_istore_n (lv' := [(3, .int (0 : Int32)), (2, .int v11), (0, .ref (g.2.2 2)), (1, .int x1)]) hx hb dX3_readsSum_7 rfl hl (by decide) rfl (fun ls hl => ?_)
  obtain ⟨z12, hz12, hf⟩ := bi_s hf
  refine lp_X3_readsSum_2_h8 C hrec hz12 ?_ H locs ls hP hD hS (lv_sub hl [2, 3, 1, 0] rfl)
  intro H locs ls hP hD hS hl
  refine lv_iload_n hx hb dX3_readsSum_77 rfl (lv_at hl 0 rfl) ?_
  obtain ⟨g13, hf⟩ := gd_s hf
  cases hf
  exact bk_zret C hP hD hS (Decidable.not_not.mp g13) rfl dX3_readsSum_78
theorem c_X3_readsSum_2 {N d : Nat} {rec : Int32 → Sg → Option (Int32 × Sg)} {x1 : Int32} {σ : Sg} {z : Int32 × Sg} (hX : xOK g X) (hrec : ∀ (x : Int32) (σ : Sg) (z : Int32 × Sg), rec x σ = some z → MetI l yX3_readsExpression (Cond.code yX3_readsExpression cX3_readsExpression 4 (some .boolean) :: wsA) (rm_X3_readsExpression_2 d) cw g X [.ref (g.2.2 2), .int x] σ z.1 z.2) (hf : f_X3_readsSum_2 N rec x1 σ = some z) : MetI l yX3_readsSum (Cond.code yX3_readsSum cX3_readsSum 5 (some .boolean) :: wsA) (rm_X3_readsSum_2 (d + 1)) cw g X [.ref (g.2.2 2), .int x1] σ z.1 z.2 :=
  MetI_of hX (by decide) (Nat.le_of_ble_eq_true rfl) (fun p e s m args below meth c A C => b_X3_readsSum_2 C hrec hf)
-- X3_readsTest_2: readsTest(I)Z
def f_X3_readsTest_2_b32 (N : Nat) (rec : Int32 → Sg → Option (Int32 × Sg)) (x1 : Int32) (σ : Sg) : Option (Int32 × Sg) :=
if ((σ 2 5) < 0 ∨ 27 ≤ (σ 2 5).toNatClampNeg) then none else
bd (tkI (σ 2 5).toNatClampNeg) fun v2 =>
(f_X3_advance_2 N σ).bind fun q3 =>
(f_X3_readsSum_2 N rec x1 q3).bind fun q4 =>
bd q4.1 fun v5 =>
(f_X4_add_9 N v2 (q4.2)).bind fun q6 =>
if ¬ (v5 = 0 ∨ v5 = 1) then none else some (v5, q6)
set_option maxHeartbeats 4000000 in
set_option maxRecDepth 100000 in
theorem b_X3_readsTest_2_b32 {N d : Nat} {rec : Int32 → Sg → Option (Int32 × Sg)} {x1 : Int32} {σ : Sg} {z : Int32 × Sg} (C : Cx p s m args meth c cX3_readsTest 4 (some .boolean) RX3 g A X) (hrec : ∀ (x : Int32) (σ : Sg) (z : Int32 × Sg), rec x σ = some z → MetI l yX3_readsExpression (Cond.code yX3_readsExpression cX3_readsExpression 4 (some .boolean) :: wsA) (rm_X3_readsExpression_2 d) cw g X [.ref (g.2.2 2), .int x] σ z.1 z.2) (hf : f_X3_readsTest_2_b32 N rec x1 σ = some z) : Bk cw p l e (rm_X3_readsTest_2 (d + 1)) s m args below meth c 4 g A (MQ below (qI cw g A z.1 z.2) args s 0 0 A) 0 0 32 [(0, .ref (g.2.2 2)), (1, .int x1)] [] σ := by
  obtain ⟨hx, hb, hr, hml, hown, hts, hK, hlocks, hXX, hA, hXo⟩ := id C
  intro H locs ls hP hD hS hl
  unfold f_X3_readsTest_2_b32 at hf
  refine lv_aload_n hx hb dX3_readsTest_32 rfl (lv_at hl 0 rfl) ?_
  refine bk_get (wf := cw) (q0 := 2) (ci := 3) (k := 5) (v := .ref (g.2.2 (300 + (σ 2 5).toNatClampNeg))) C hP wl_X3 rfl rfl (by decide) wa_56 rfl rfl dX3_readsTest_33 ?_
  obtain ⟨g1, hf⟩ := gd_s hf
  refine vk_getf (v := .int (tkI (σ 2 5).toNatClampNeg)) hx hb ((hXo.2.2.2 _ _ _ hXX).2.2.2.2.2.1.1 _ (vin_n g1)).2.2.2 hS hown (hts _ wa_409) (fun _ h => h) dX3_readsTest_36 ?_
  obtain ⟨v2, ev2, hf⟩ := bd_s hf
  rw [← ev2]
  refine lv_istore_n (lv' := [(2, .int v2), (0, .ref (g.2.2 2)), (1, .int x1)]) hx hb dX3_readsTest_39 rfl hl (by decide) rfl (fun ls hl => ?_)
  refine lv_aload_n hx hb dX3_readsTest_40 rfl (lv_at hl 1 rfl) ?_
  obtain ⟨q3, hq3, hf⟩ := bi_s hf
  refine bk_VV (wf := cw) (q0 := 2) (ci := 3) (rest := []) [] C hP hD hS hl.1 (c_X3_advance_2 hXo hq3) (cwA_V 0 hts wa_241 wa_238 wa_239 wa_240 wa_18 rfl rfl nd_X3_advance ⟨by dsimp only [rm_X3_advance_2, rm_X3_readsTest_2]; omega, by dsimp only [rm_X3_advance_2, rm_X3_readsTest_2]; omega⟩) rfl rfl rfl rfl (Nat.le_of_ble_eq_true rfl) dX3_readsTest_41 ⟨Nat.zero_le _, Nat.zero_le _⟩ (fun H locs hP hD hS => ?_)
  refine lv_aload_n hx hb dX3_readsTest_44 rfl (lv_at hl 1 rfl) ?_
  refine lv_iload_n hx hb dX3_readsTest_45 rfl (lv_at hl 2 rfl) ?_
  obtain ⟨q4, hq4, hf⟩ := bi_s hf
  refine bk_VI (wf := cw) (q0 := 2) (ci := 3) (rest := []) [.int x1] C hP hD hS hl.1 (c_X3_readsSum_2 hXo hrec hq4) (cwA_V 1 hts wa_424 wa_433 wa_434 wa_435 wa_18 rfl rfl nd_X3_readsSum ⟨by dsimp only [rm_X3_readsSum_2, rm_X3_readsTest_2]; omega, by dsimp only [rm_X3_readsSum_2, rm_X3_readsTest_2]; omega⟩) rfl rfl rfl rfl (Nat.le_of_ble_eq_true rfl) dX3_readsTest_46 ⟨Nat.zero_le _, Nat.zero_le _⟩ (fun H locs hP hD hS => ?_)
  obtain ⟨v5, ev5, hf⟩ := bd_s hf
  rw [← ev5]
  refine lv_istore_n (lv' := [(3, .int v5), (2, .int v2), (0, .ref (g.2.2 2)), (1, .int x1)]) hx hb dX3_readsTest_49 rfl hl (by decide) rfl (fun ls hl => ?_)
  refine lv_aload_n hx hb dX3_readsTest_50 rfl (lv_at hl 2 rfl) ?_
  refine bk_get (wf := cw) (q0 := 2) (ci := 3) (k := 0) (v := .ref (g.2.2 3)) C hP wl_X3 rfl rfl (by decide) wa_51 rfl rfl dX3_readsTest_51 ?_
  refine bk_get (wf := cw) (q0 := 3) (ci := 8) (k := 10) (v := .ref (g.2.2 9)) C hP wl_X9 rfl rfl (by decide) wa_381 rfl rfl dX3_readsTest_54 ?_
  refine lv_iload_n hx hb dX3_readsTest_57 rfl (lv_at hl 1 rfl) ?_
  obtain ⟨q6, hq6, hf⟩ := bi_s hf
  refine bk_VV (wf := cw) (q0 := 9) (ci := 4) (rest := []) [.int v2] C hP hD hS hl.1 (c_X4_add_9 hXo hq6) (cwA_V 1 hts wa_395 wa_392 wa_393 wa_394 wa_80 rfl rfl nd_X4_add ⟨by dsimp only [rm_X4_add_9, rm_X3_readsTest_2]; omega, by dsimp only [rm_X4_add_9, rm_X3_readsTest_2]; omega⟩) rfl rfl rfl rfl (Nat.le_of_ble_eq_true rfl) dX3_readsTest_58 ⟨Nat.zero_le _, Nat.zero_le _⟩ (fun H locs hP hD hS => ?_)
  refine lv_iload_n hx hb dX3_readsTest_61 rfl (lv_at hl 0 rfl) ?_
  obtain ⟨g7, hf⟩ := gd_s hf
  cases hf
  exact bk_zret C hP hD hS (Decidable.not_not.mp g7) rfl dX3_readsTest_62
def f_X3_readsTest_2 (N : Nat) (rec : Int32 → Sg → Option (Int32 × Sg)) (x1 : Int32) (σ : Sg) : Option (Int32 × Sg) :=
(f_X3_readsSum_2 N rec x1 σ).bind fun q8 =>
if q8.1 = 0 then (some ((0 : Int32), (q8.2)))
else (if (((q8.2) 2 5) < 0 ∨ 27 ≤ ((q8.2) 2 5).toNatClampNeg) then none else
if ((q8.2) 2 5) = (11 : Int32) then (f_X3_readsTest_2_b32 N rec x1 (q8.2))
else (if (((q8.2) 2 5) < 0 ∨ 27 ≤ ((q8.2) 2 5).toNatClampNeg) then none else
if ((q8.2) 2 5) = (12 : Int32) then (f_X3_readsTest_2_b32 N rec x1 (q8.2))
else (some ((1 : Int32), (q8.2)))))
set_option maxHeartbeats 4000000 in
set_option maxRecDepth 100000 in
theorem b_X3_readsTest_2 {N d : Nat} {rec : Int32 → Sg → Option (Int32 × Sg)} {x1 : Int32} {σ : Sg} {z : Int32 × Sg} (C : Cx p s m args meth c cX3_readsTest 4 (some .boolean) RX3 g A X) (hrec : ∀ (x : Int32) (σ : Sg) (z : Int32 × Sg), rec x σ = some z → MetI l yX3_readsExpression (Cond.code yX3_readsExpression cX3_readsExpression 4 (some .boolean) :: wsA) (rm_X3_readsExpression_2 d) cw g X [.ref (g.2.2 2), .int x] σ z.1 z.2) (hf : f_X3_readsTest_2 N rec x1 σ = some z) : Bk cw p l e (rm_X3_readsTest_2 (d + 1)) s m args below meth c 4 g A (MQ below (qI cw g A z.1 z.2) args s 0 0 A) 0 0 0 [(0, .ref (g.2.2 2)), (1, .int x1)] [] σ := by
  obtain ⟨hx, hb, hr, hml, hown, hts, hK, hlocks, hXX, hA, hXo⟩ := id C
  intro H locs ls hP hD hS hl
  unfold f_X3_readsTest_2 at hf
  refine lv_aload_n hx hb dX3_readsTest_0 rfl (lv_at hl 0 rfl) ?_
  refine lv_iload_n hx hb dX3_readsTest_1 rfl (lv_at hl 1 rfl) ?_
  obtain ⟨q8, hq8, hf⟩ := bi_s hf
  refine bk_VI (wf := cw) (q0 := 2) (ci := 3) (rest := []) [.int x1] C hP hD hS hl.1 (c_X3_readsSum_2 hXo hrec hq8) (cwA_V 1 hts wa_424 wa_433 wa_434 wa_435 wa_18 rfl rfl nd_X3_readsSum ⟨by dsimp only [rm_X3_readsSum_2, rm_X3_readsTest_2]; omega, by dsimp only [rm_X3_readsSum_2, rm_X3_readsTest_2]; omega⟩) rfl rfl rfl rfl (Nat.le_of_ble_eq_true rfl) dX3_readsTest_2 ⟨Nat.zero_le _, Nat.zero_le _⟩ (fun H locs hP hD hS => ?_)
  refine lv_if_ne (tgt := 10) hx hb dX3_readsTest_5 (by decide) (fun t5 => ?_) (fun t5 => ?_)
  · have hf := (if_neg t5).symm.trans hf
    refine lv_aload_n hx hb dX3_readsTest_10 rfl (lv_at hl 0 rfl) ?_
    refine bk_get (wf := cw) (q0 := 2) (ci := 3) (k := 5) (v := .ref (g.2.2 (300 + ((q8.2) 2 5).toNatClampNeg))) C hP wl_X3 rfl rfl (by decide) wa_56 rfl rfl dX3_readsTest_11 ?_
    refine va_gets (v := .ref (g.2.2 (300 + (11 : Int32).toNatClampNeg))) hx hb (tok_Z (hXo.2.2.2 _ _ _ hXX).2.2.2.2.2.1 11 "LESS" (by decide) (by decide) rfl) hS hown (hts _ wa_431) (fun _ h => h) dX3_readsTest_14 ?_
    obtain ⟨g9, hf⟩ := gd_s hf
    refine bk_acq (tgt := 32) C g9 (vin_l (by decide) (by decide)) dX3_readsTest_17 (by decide) (fun t17 => ?_) (fun t17 => ?_)
    · have hf := (if_pos t17).symm.trans hf
      exact b_X3_readsTest_2_b32 C hrec hf H locs ls hP hD hS (lv_sub hl [0, 1] rfl)
    · have hf := (if_neg t17).symm.trans hf
      refine lv_aload_n hx hb dX3_readsTest_20 rfl (lv_at hl 0 rfl) ?_
      refine bk_get (wf := cw) (q0 := 2) (ci := 3) (k := 5) (v := .ref (g.2.2 (300 + ((q8.2) 2 5).toNatClampNeg))) C hP wl_X3 rfl rfl (by decide) wa_56 rfl rfl dX3_readsTest_21 ?_
      refine va_gets (v := .ref (g.2.2 (300 + (12 : Int32).toNatClampNeg))) hx hb (tok_Z (hXo.2.2.2 _ _ _ hXX).2.2.2.2.2.1 12 "EQUAL" (by decide) (by decide) rfl) hS hown (hts _ wa_432) (fun _ h => h) dX3_readsTest_24 ?_
      obtain ⟨g10, hf⟩ := gd_s hf
      refine bk_acq (tgt := 32) C g10 (vin_l (by decide) (by decide)) dX3_readsTest_27 (by decide) (fun t27 => ?_) (fun t27 => ?_)
      · have hf := (if_pos t27).symm.trans hf
        exact b_X3_readsTest_2_b32 C hrec hf H locs ls hP hD hS (lv_sub hl [0, 1] rfl)
      · have hf := (if_neg t27).symm.trans hf
        refine lv_iconst (v := (1 : Int32)) hx hb dX3_readsTest_30 (by decide) ?_
        cases hf
        exact bk_zret C hP hD hS (by decide) rfl dX3_readsTest_31
  · have hf := (if_pos t5).symm.trans hf
    refine lv_iconst (v := (0 : Int32)) hx hb dX3_readsTest_8 (by decide) ?_
    cases hf
    exact bk_zret C hP hD hS (by decide) rfl dX3_readsTest_9
theorem c_X3_readsTest_2 {N d : Nat} {rec : Int32 → Sg → Option (Int32 × Sg)} {x1 : Int32} {σ : Sg} {z : Int32 × Sg} (hX : xOK g X) (hrec : ∀ (x : Int32) (σ : Sg) (z : Int32 × Sg), rec x σ = some z → MetI l yX3_readsExpression (Cond.code yX3_readsExpression cX3_readsExpression 4 (some .boolean) :: wsA) (rm_X3_readsExpression_2 d) cw g X [.ref (g.2.2 2), .int x] σ z.1 z.2) (hf : f_X3_readsTest_2 N rec x1 σ = some z) : MetI l yX3_readsTest (Cond.code yX3_readsTest cX3_readsTest 4 (some .boolean) :: wsA) (rm_X3_readsTest_2 (d + 1)) cw g X [.ref (g.2.2 2), .int x1] σ z.1 z.2 :=
  MetI_of hX (by decide) (Nat.le_of_ble_eq_true rfl) (fun p e s m args below meth c A C => b_X3_readsTest_2 C hrec hf)
-- X3_readsNot_2: readsNot(I)Z
def s_X3_readsNot_2_h59 (N : Nat) (rec : Int32 → Sg → Option (Int32 × Sg)) (x2 : Int32) (x3 : Int32) (x4 : Int32) (σ : Sg) : Option (Nat × Int32 × Sg) :=
if x2 ≤ x4 then (some (1, 0, σ))
else ((f_X4_add_9 N (-7 : Int32) σ).bind fun q1 =>
bd (x4 + (1 : Int32)) fun v2 =>
some (0, v2, q1))
set_option maxHeartbeats 4000000 in
set_option maxRecDepth 100000 in
theorem e_X3_readsNot_2_h59 {N d : Nat} {rec : Int32 → Sg → Option (Int32 × Sg)} {x2 : Int32} {x3 : Int32} {x4 : Int32} {σ : Sg} {z : Nat × Int32 × Sg} (C : Cx p s m args meth c cX3_readsNot 5 (some .boolean) RX3 g A X) (hrec : ∀ (x : Int32) (σ : Sg) (z : Int32 × Sg), rec x σ = some z → MetI l yX3_readsExpression (Cond.code yX3_readsExpression cX3_readsExpression 4 (some .boolean) :: wsA) (rm_X3_readsExpression_2 d) cw g X [.ref (g.2.2 2), .int x] σ z.1 z.2) (hf : s_X3_readsNot_2_h59 N rec x2 x3 x4 σ = some z) (k0 : z.1 = 0 → Bk cw p l e (rm_X3_readsNot_2 (d + 1)) s m args below meth c 5 g A Q 0 0 59 [(0, .ref (g.2.2 2)), (2, .int x2), (3, .int x3), (4, .int z.2.1)] [] z.2.2) (k : ¬ z.1 = 0 → Bk cw p l e (rm_X3_readsNot_2 (d + 1)) s m args below meth c 5 g A Q 0 0 83 [(3, .int x3)] [] z.2.2) : Bk cw p l e (rm_X3_readsNot_2 (d + 1)) s m args below meth c 5 g A Q 0 0 59 [(0, .ref (g.2.2 2)), (2, .int x2), (3, .int x3), (4, .int x4)] [] σ := by
  obtain ⟨hx, hb, hr, hml, hown, hts, hK, hlocks, hXX, hA, hXo⟩ := id C
  intro H locs ls hP hD hS hl
  unfold s_X3_readsNot_2_h59 at hf
  refine lv_iload hx hb dX3_readsNot_59 (lv_at hl 3 rfl) ?_
  refine lv_iload_n hx hb dX3_readsNot_61 rfl (lv_at hl 1 rfl) ?_
  refine lv_icmp_ge (tgt := 83) hx hb dX3_readsNot_62 (by decide) (fun t62 => ?_) (fun t62 => ?_)
  · have hf := (if_pos t62).symm.trans hf
    cases hf
    exact (k (show ¬ (1 : Nat) = 0 by decide)) H locs ls hP hD hS (lv_sub hl [2] rfl)
  · have hf := (if_neg t62).symm.trans hf
    refine lv_aload_n hx hb dX3_readsNot_65 rfl (lv_at hl 0 rfl) ?_
    refine bk_get (wf := cw) (q0 := 2) (ci := 3) (k := 0) (v := .ref (g.2.2 3)) C hP wl_X3 rfl rfl (by decide) wa_51 rfl rfl dX3_readsNot_66 ?_
    refine bk_get (wf := cw) (q0 := 3) (ci := 8) (k := 10) (v := .ref (g.2.2 9)) C hP wl_X9 rfl rfl (by decide) wa_381 rfl rfl dX3_readsNot_69 ?_
    refine lv_bipush (v := (-7 : Int32)) hx hb dX3_readsNot_72 (by decide) ?_
    obtain ⟨q1, hq1, hf⟩ := bi_s hf
    refine bk_VV (wf := cw) (q0 := 9) (ci := 4) (rest := []) [.int (-7 : Int32)] C hP hD hS hl.1 (c_X4_add_9 hXo hq1) (cwA_V 1 hts wa_395 wa_392 wa_393 wa_394 wa_80 rfl rfl nd_X4_add ⟨by dsimp only [rm_X4_add_9, rm_X3_readsNot_2]; omega, by dsimp only [rm_X4_add_9, rm_X3_readsNot_2]; omega⟩) rfl rfl rfl rfl (Nat.le_of_ble_eq_true rfl) dX3_readsNot_74 ⟨Nat.zero_le _, Nat.zero_le _⟩ (fun H locs hP hD hS => ?_)
    obtain ⟨v2, ev2, hf⟩ := bd_s hf
    refine lv_iinc (v := v2) (lv' := [(4, .int v2), (0, .ref (g.2.2 2)), (2, .int x2), (3, .int x3)]) hx hb dX3_readsNot_77 hl (k := 3) rfl (by rw [ev2]; rfl) (by decide) rfl (fun ls hl => ?_)
    refine lv_goto (tgt := 59) hx hb dX3_readsNot_80 (by decide) ?_
    cases hf
    exact k0 rfl H locs ls hP hD hS (lv_sub hl [1, 2, 3, 0] rfl)
theorem lp_X3_readsNot_2_h59 {N d : Nat} {rec : Int32 → Sg → Option (Int32 × Sg)} {n : Nat} {x2 : Int32} {x3 : Int32} {x4 : Int32} {σ : Sg} {z : Nat × Int32 × Sg} (C : Cx p s m args meth c cX3_readsNot 5 (some .boolean) RX3 g A X) (hrec : ∀ (x : Int32) (σ : Sg) (z : Int32 × Sg), rec x σ = some z → MetI l yX3_readsExpression (Cond.code yX3_readsExpression cX3_readsExpression 4 (some .boolean) :: wsA) (rm_X3_readsExpression_2 d) cw g X [.ref (g.2.2 2), .int x] σ z.1 z.2) (hz : it (fun q => s_X3_readsNot_2_h59 N rec x2 x3 q.1 q.2) n (x4, σ) = some z) (k : Bk cw p l e (rm_X3_readsNot_2 (d + 1)) s m args below meth c 5 g A Q 0 0 83 [(3, .int x3)] [] z.2.2) : Bk cw p l e (rm_X3_readsNot_2 (d + 1)) s m args below meth c 5 g A Q 0 0 59 [(0, .ref (g.2.2 2)), (2, .int x2), (3, .int x3), (4, .int x4)] [] σ :=
  it_W (S := Int32 × Sg) (fun q => Bk cw p l e (rm_X3_readsNot_2 (d + 1)) s m args below meth c 5 g A Q 0 0 59 [(0, .ref (g.2.2 2)), (2, .int x2), (3, .int x3), (4, .int q.1)] [] q.2) (fun z => Bk cw p l e (rm_X3_readsNot_2 (d + 1)) s m args below meth c 5 g A Q 0 0 83 [(3, .int x3)] [] z.2.2) (fun q z hq k0 k => e_X3_readsNot_2_h59 C hrec hq k0 k) n (x4, σ) z hz k
def s_X3_readsNot_2_h2 (N : Nat) (rec : Int32 → Sg → Option (Int32 × Sg)) (x1 : Int32) (x2 : Int32) (σ : Sg) : Option (Nat × Int32 × Sg) :=
if ((σ 2 5) < 0 ∨ 27 ≤ (σ 2 5).toNatClampNeg) then none else
if (σ 2 5) = (20 : Int32) then (if (6 : Int32) ≤ x2 then (some (1, x2, σ))
else (bd (x2 + (1 : Int32)) fun v4 =>
(f_X3_advance_2 N σ).bind fun q5 =>
some (0, v4, q5)))
else (some (1, x2, σ))
set_option maxHeartbeats 4000000 in
set_option maxRecDepth 100000 in
theorem e_X3_readsNot_2_h2 {N d : Nat} {rec : Int32 → Sg → Option (Int32 × Sg)} {x1 : Int32} {x2 : Int32} {σ : Sg} {z : Nat × Int32 × Sg} (C : Cx p s m args meth c cX3_readsNot 5 (some .boolean) RX3 g A X) (hrec : ∀ (x : Int32) (σ : Sg) (z : Int32 × Sg), rec x σ = some z → MetI l yX3_readsExpression (Cond.code yX3_readsExpression cX3_readsExpression 4 (some .boolean) :: wsA) (rm_X3_readsExpression_2 d) cw g X [.ref (g.2.2 2), .int x] σ z.1 z.2) (hf : s_X3_readsNot_2_h2 N rec x1 x2 σ = some z) (k0 : z.1 = 0 → Bk cw p l e (rm_X3_readsNot_2 (d + 1)) s m args below meth c 5 g A Q 0 0 2 [(0, .ref (g.2.2 2)), (1, .int x1), (2, .int z.2.1)] [] z.2.2) (k : ¬ z.1 = 0 → Bk cw p l e (rm_X3_readsNot_2 (d + 1)) s m args below meth c 5 g A Q 0 0 28 [(0, .ref (g.2.2 2)), (1, .int x1), (2, .int z.2.1)] [] z.2.2) : Bk cw p l e (rm_X3_readsNot_2 (d + 1)) s m args below meth c 5 g A Q 0 0 2 [(0, .ref (g.2.2 2)), (1, .int x1), (2, .int x2)] [] σ := by
  obtain ⟨hx, hb, hr, hml, hown, hts, hK, hlocks, hXX, hA, hXo⟩ := id C
  intro H locs ls hP hD hS hl
  unfold s_X3_readsNot_2_h2 at hf
  refine lv_aload_n hx hb dX3_readsNot_2 rfl (lv_at hl 0 rfl) ?_
  refine bk_get (wf := cw) (q0 := 2) (ci := 3) (k := 5) (v := .ref (g.2.2 (300 + (σ 2 5).toNatClampNeg))) C hP wl_X3 rfl rfl (by decide) wa_56 rfl rfl dX3_readsNot_3 ?_
  refine va_gets (v := .ref (g.2.2 (300 + (20 : Int32).toNatClampNeg))) hx hb (tok_Z (hXo.2.2.2 _ _ _ hXX).2.2.2.2.2.1 20 "NOT" (by decide) (by decide) rfl) hS hown (hts _ wa_402) (fun _ h => h) dX3_readsNot_6 ?_
  obtain ⟨g3, hf⟩ := gd_s hf
  refine bk_acn (tgt := 28) C g3 (vin_l (by decide) (by decide)) dX3_readsNot_9 (by decide) (fun t9 => ?_) (fun t9 => ?_)
  · have hf := (if_neg t9).symm.trans hf
    cases hf
    exact (k (show ¬ (1 : Nat) = 0 by decide)) H locs ls hP hD hS (lv_sub hl [0, 1, 2] rfl)
  · have hf := (if_pos t9).symm.trans hf
    refine lv_iload_n hx hb dX3_readsNot_12 rfl (lv_at hl 2 rfl) ?_
    refine lv_bipush (v := (6 : Int32)) hx hb dX3_readsNot_13 (by decide) ?_
    refine lv_icmp_ge (tgt := 28) hx hb dX3_readsNot_15 (by decide) (fun t15 => ?_) (fun t15 => ?_)
    · have hf := (if_pos t15).symm.trans hf
      cases hf
      exact (k (show ¬ (1 : Nat) = 0 by decide)) H locs ls hP hD hS (lv_sub hl [0, 1, 2] rfl)
    · have hf := (if_neg t15).symm.trans hf
      obtain ⟨v4, ev4, hf⟩ := bd_s hf
      refine lv_iinc (v := v4) (lv' := [(2, .int v4), (0, .ref (g.2.2 2)), (1, .int x1)]) hx hb dX3_readsNot_18 hl (k := 2) rfl (by rw [ev4]; rfl) (by decide) rfl (fun ls hl => ?_)
      refine lv_aload_n hx hb dX3_readsNot_21 rfl (lv_at hl 1 rfl) ?_
      obtain ⟨q5, hq5, hf⟩ := bi_s hf
      refine bk_VV (wf := cw) (q0 := 2) (ci := 3) (rest := []) [] C hP hD hS hl.1 (c_X3_advance_2 hXo hq5) (cwA_V 0 hts wa_241 wa_238 wa_239 wa_240 wa_18 rfl rfl nd_X3_advance ⟨by dsimp only [rm_X3_advance_2, rm_X3_readsNot_2]; omega, by dsimp only [rm_X3_advance_2, rm_X3_readsNot_2]; omega⟩) rfl rfl rfl rfl (Nat.le_of_ble_eq_true rfl) dX3_readsNot_22 ⟨Nat.zero_le _, Nat.zero_le _⟩ (fun H locs hP hD hS => ?_)
      refine lv_goto (tgt := 2) hx hb dX3_readsNot_25 (by decide) ?_
      cases hf
      exact k0 rfl H locs ls hP hD hS (lv_sub hl [1, 2, 0] rfl)
theorem lp_X3_readsNot_2_h2 {N d : Nat} {rec : Int32 → Sg → Option (Int32 × Sg)} {n : Nat} {x1 : Int32} {x2 : Int32} {σ : Sg} {z : Nat × Int32 × Sg} (C : Cx p s m args meth c cX3_readsNot 5 (some .boolean) RX3 g A X) (hrec : ∀ (x : Int32) (σ : Sg) (z : Int32 × Sg), rec x σ = some z → MetI l yX3_readsExpression (Cond.code yX3_readsExpression cX3_readsExpression 4 (some .boolean) :: wsA) (rm_X3_readsExpression_2 d) cw g X [.ref (g.2.2 2), .int x] σ z.1 z.2) (hz : it (fun q => s_X3_readsNot_2_h2 N rec x1 q.1 q.2) n (x2, σ) = some z) (k : Bk cw p l e (rm_X3_readsNot_2 (d + 1)) s m args below meth c 5 g A Q 0 0 28 [(0, .ref (g.2.2 2)), (1, .int x1), (2, .int z.2.1)] [] z.2.2) : Bk cw p l e (rm_X3_readsNot_2 (d + 1)) s m args below meth c 5 g A Q 0 0 2 [(0, .ref (g.2.2 2)), (1, .int x1), (2, .int x2)] [] σ :=
  it_W (S := Int32 × Sg) (fun q => Bk cw p l e (rm_X3_readsNot_2 (d + 1)) s m args below meth c 5 g A Q 0 0 2 [(0, .ref (g.2.2 2)), (1, .int x1), (2, .int q.1)] [] q.2) (fun z => Bk cw p l e (rm_X3_readsNot_2 (d + 1)) s m args below meth c 5 g A Q 0 0 28 [(0, .ref (g.2.2 2)), (1, .int x1), (2, .int z.2.1)] [] z.2.2) (fun q z hq k0 k => e_X3_readsNot_2_h2 C hrec hq k0 k) n (x2, σ) z hz k
def f_X3_readsNot_2_b50 (N : Nat) (rec : Int32 → Sg → Option (Int32 × Sg)) (x1 : Int32) (x2 : Int32) (σ : Sg) : Option (Int32 × Sg) :=
(f_X3_readsTest_2 N rec x1 σ).bind fun q6 =>
bd q6.1 fun v7 =>
(it (fun q => s_X3_readsNot_2_h59 N rec x2 v7 q.1 q.2) N ((0 : Int32), (q6.2))).bind fun z8 =>
if ¬ (v7 = 0 ∨ v7 = 1) then none else some (v7, (z8.2.2))
set_option maxHeartbeats 4000000 in
set_option maxRecDepth 100000 in
theorem b_X3_readsNot_2_b50 {N d : Nat} {rec : Int32 → Sg → Option (Int32 × Sg)} {x1 : Int32} {x2 : Int32} {σ : Sg} {z : Int32 × Sg} (C : Cx p s m args meth c cX3_readsNot 5 (some .boolean) RX3 g A X) (hrec : ∀ (x : Int32) (σ : Sg) (z : Int32 × Sg), rec x σ = some z → MetI l yX3_readsExpression (Cond.code yX3_readsExpression cX3_readsExpression 4 (some .boolean) :: wsA) (rm_X3_readsExpression_2 d) cw g X [.ref (g.2.2 2), .int x] σ z.1 z.2) (hf : f_X3_readsNot_2_b50 N rec x1 x2 σ = some z) : Bk cw p l e (rm_X3_readsNot_2 (d + 1)) s m args below meth c 5 g A (MQ below (qI cw g A z.1 z.2) args s 0 0 A) 0 0 50 [(0, .ref (g.2.2 2)), (1, .int x1), (2, .int x2)] [] σ := by
  obtain ⟨hx, hb, hr, hml, hown, hts, hK, hlocks, hXX, hA, hXo⟩ := id C
  intro H locs ls hP hD hS hl
  unfold f_X3_readsNot_2_b50 at hf
  refine lv_aload_n hx hb dX3_readsNot_50 rfl (lv_at hl 0 rfl) ?_
  refine lv_iload_n hx hb dX3_readsNot_51 rfl (lv_at hl 1 rfl) ?_
  obtain ⟨q6, hq6, hf⟩ := bi_s hf
  refine bk_VI (wf := cw) (q0 := 2) (ci := 3) (rest := []) [.int x1] C hP hD hS hl.1 (c_X3_readsTest_2 hXo hrec hq6) (cwA_V 1 hts wa_430 wa_403 wa_404 wa_405 wa_18 rfl rfl nd_X3_readsTest ⟨by dsimp only [rm_X3_readsTest_2, rm_X3_readsNot_2]; omega, by dsimp only [rm_X3_readsTest_2, rm_X3_readsNot_2]; omega⟩) rfl rfl rfl rfl (Nat.le_of_ble_eq_true rfl) dX3_readsNot_52 ⟨Nat.zero_le _, Nat.zero_le _⟩ (fun H locs hP hD hS => ?_)
  obtain ⟨v7, ev7, hf⟩ := bd_s hf
  rw [← ev7]
  refine lv_istore_n (lv' := [(3, .int v7), (0, .ref (g.2.2 2)), (1, .int x1), (2, .int x2)]) hx hb dX3_readsNot_55 rfl hl (by decide) rfl (fun ls hl => ?_)
  refine lv_iconst (v := (0 : Int32)) hx hb dX3_readsNot_56 (by decide) ?_
  refine lv_istore (lv' := [(4, .int (0 : Int32)), (3, .int v7), (0, .ref (g.2.2 2)), (1, .int x1), (2, .int x2)]) hx hb dX3_readsNot_57 hl (by decide) rfl (fun ls hl => ?_)
  obtain ⟨z8, hz8, hf⟩ := bi_s hf
  refine lp_X3_readsNot_2_h59 C hrec hz8 ?_ H locs ls hP hD hS (lv_sub hl [2, 4, 1, 0] rfl)
  intro H locs ls hP hD hS hl
  refine lv_iload_n hx hb dX3_readsNot_83 rfl (lv_at hl 0 rfl) ?_
  obtain ⟨g9, hf⟩ := gd_s hf
  cases hf
  exact bk_zret C hP hD hS (Decidable.not_not.mp g9) rfl dX3_readsNot_84
def f_X3_readsNot_2 (N : Nat) (rec : Int32 → Sg → Option (Int32 × Sg)) (x1 : Int32) (σ : Sg) : Option (Int32 × Sg) :=
(it (fun q => s_X3_readsNot_2_h2 N rec x1 q.1 q.2) N ((0 : Int32), σ)).bind fun z10 =>
if (((z10.2.2) 2 5) < 0 ∨ 27 ≤ ((z10.2.2) 2 5).toNatClampNeg) then none else
if ((z10.2.2) 2 5) = (20 : Int32) then (if (z10.2.1) = (6 : Int32) then ((f_X3_fails_2 N (2 : Int32) (z10.2.2)).bind fun q12 =>
if ¬ (q12.1 = 0 ∨ q12.1 = 1) then none else some (q12.1, (q12.2)))
else (f_X3_readsNot_2_b50 N rec x1 (z10.2.1) (z10.2.2)))
else (f_X3_readsNot_2_b50 N rec x1 (z10.2.1) (z10.2.2))
set_option maxHeartbeats 4000000 in
set_option maxRecDepth 100000 in
theorem b_X3_readsNot_2 {N d : Nat} {rec : Int32 → Sg → Option (Int32 × Sg)} {x1 : Int32} {σ : Sg} {z : Int32 × Sg} (C : Cx p s m args meth c cX3_readsNot 5 (some .boolean) RX3 g A X) (hrec : ∀ (x : Int32) (σ : Sg) (z : Int32 × Sg), rec x σ = some z → MetI l yX3_readsExpression (Cond.code yX3_readsExpression cX3_readsExpression 4 (some .boolean) :: wsA) (rm_X3_readsExpression_2 d) cw g X [.ref (g.2.2 2), .int x] σ z.1 z.2) (hf : f_X3_readsNot_2 N rec x1 σ = some z) : Bk cw p l e (rm_X3_readsNot_2 (d + 1)) s m args below meth c 5 g A (MQ below (qI cw g A z.1 z.2) args s 0 0 A) 0 0 0 [(0, .ref (g.2.2 2)), (1, .int x1)] [] σ := by
  obtain ⟨hx, hb, hr, hml, hown, hts, hK, hlocks, hXX, hA, hXo⟩ := id C
  intro H locs ls hP hD hS hl
  unfold f_X3_readsNot_2 at hf
  refine lv_iconst (v := (0 : Int32)) hx hb dX3_readsNot_0 (by decide) ?_
  refine lv_istore_n (lv' := [(2, .int (0 : Int32)), (0, .ref (g.2.2 2)), (1, .int x1)]) hx hb dX3_readsNot_1 rfl hl (by decide) rfl (fun ls hl => ?_)
  obtain ⟨z10, hz10, hf⟩ := bi_s hf
  refine lp_X3_readsNot_2_h2 C hrec hz10 ?_ H locs ls hP hD hS (lv_sub hl [1, 2, 0] rfl)
  intro H locs ls hP hD hS hl
  refine lv_aload_n hx hb dX3_readsNot_28 rfl (lv_at hl 0 rfl) ?_
  refine bk_get (wf := cw) (q0 := 2) (ci := 3) (k := 5) (v := .ref (g.2.2 (300 + ((z10.2.2) 2 5).toNatClampNeg))) C hP wl_X3 rfl rfl (by decide) wa_56 rfl rfl dX3_readsNot_29 ?_
  refine va_gets (v := .ref (g.2.2 (300 + (20 : Int32).toNatClampNeg))) hx hb (tok_Z (hXo.2.2.2 _ _ _ hXX).2.2.2.2.2.1 20 "NOT" (by decide) (by decide) rfl) hS hown (hts _ wa_402) (fun _ h => h) dX3_readsNot_32 ?_
  obtain ⟨g11, hf⟩ := gd_s hf
  refine bk_acn (tgt := 50) C g11 (vin_l (by decide) (by decide)) dX3_readsNot_35 (by decide) (fun t35 => ?_) (fun t35 => ?_)
  · have hf := (if_neg t35).symm.trans hf
    exact b_X3_readsNot_2_b50 C hrec hf H locs ls hP hD hS (lv_sub hl [0, 1, 2] rfl)
  · have hf := (if_pos t35).symm.trans hf
    refine lv_iload_n hx hb dX3_readsNot_38 rfl (lv_at hl 2 rfl) ?_
    refine lv_bipush (v := (6 : Int32)) hx hb dX3_readsNot_39 (by decide) ?_
    refine lv_icmp_ne (tgt := 50) hx hb dX3_readsNot_41 (by decide) (fun t41 => ?_) (fun t41 => ?_)
    · have hf := (if_neg t41).symm.trans hf
      exact b_X3_readsNot_2_b50 C hrec hf H locs ls hP hD hS (lv_sub hl [0, 1, 2] rfl)
    · have hf := (if_pos t41).symm.trans hf
      refine lv_aload_n hx hb dX3_readsNot_44 rfl (lv_at hl 0 rfl) ?_
      refine lv_iconst (v := (2 : Int32)) hx hb dX3_readsNot_45 (by decide) ?_
      obtain ⟨q12, hq12, hf⟩ := bi_s hf
      refine bk_VI (wf := cw) (q0 := 2) (ci := 3) (rest := []) [.int (2 : Int32)] C hP hD hS hl.1 (c_X3_fails_2 hXo hq12) (cwA_V 1 hts wa_343 wa_340 wa_341 wa_342 wa_18 rfl rfl nd_X3_fails ⟨by dsimp only [rm_X3_fails_2, rm_X3_readsNot_2]; omega, by dsimp only [rm_X3_fails_2, rm_X3_readsNot_2]; omega⟩) rfl rfl rfl rfl (Nat.le_of_ble_eq_true rfl) dX3_readsNot_46 ⟨Nat.zero_le _, Nat.zero_le _⟩ (fun H locs hP hD hS => ?_)
      obtain ⟨g13, hf⟩ := gd_s hf
      cases hf
      exact bk_zret C hP hD hS (Decidable.not_not.mp g13) rfl dX3_readsNot_49
theorem c_X3_readsNot_2 {N d : Nat} {rec : Int32 → Sg → Option (Int32 × Sg)} {x1 : Int32} {σ : Sg} {z : Int32 × Sg} (hX : xOK g X) (hrec : ∀ (x : Int32) (σ : Sg) (z : Int32 × Sg), rec x σ = some z → MetI l yX3_readsExpression (Cond.code yX3_readsExpression cX3_readsExpression 4 (some .boolean) :: wsA) (rm_X3_readsExpression_2 d) cw g X [.ref (g.2.2 2), .int x] σ z.1 z.2) (hf : f_X3_readsNot_2 N rec x1 σ = some z) : MetI l yX3_readsNot (Cond.code yX3_readsNot cX3_readsNot 5 (some .boolean) :: wsA) (rm_X3_readsNot_2 (d + 1)) cw g X [.ref (g.2.2 2), .int x1] σ z.1 z.2 :=
  MetI_of hX (by decide) (Nat.le_of_ble_eq_true rfl) (fun p e s m args below meth c A C => b_X3_readsNot_2 C hrec hf)
-- X3_readsAnd_2: readsAnd(I)Z
def s_X3_readsAnd_2_h8 (N : Nat) (rec : Int32 → Sg → Option (Int32 × Sg)) (x1 : Int32) (x2 : Int32) (x3 : Int32) (σ : Sg) : Option (Nat × Int32 × Int32 × Sg) :=
if (σ 2 4) ≤ x3 then (some (1, x2, 0, σ))
else (if x2 = 0 then (some (1, x2, 0, σ))
else (if ((σ 2 5) < 0 ∨ 27 ≤ (σ 2 5).toNatClampNeg) then none else
if (σ 2 5) = (19 : Int32) then ((f_X3_advance_2 N σ).bind fun q2 =>
(f_X3_readsNot_2 N rec x1 q2).bind fun q3 =>
bd q3.1 fun v4 =>
(f_X4_add_9 N (-9 : Int32) (q3.2)).bind fun q5 =>
bd (x3 + (1 : Int32)) fun v6 =>
some (0, v4, v6, q5))
else (some (1, x2, 0, σ))))
set_option maxHeartbeats 4000000 in
set_option maxRecDepth 100000 in
theorem e_X3_readsAnd_2_h8 {N d : Nat} {rec : Int32 → Sg → Option (Int32 × Sg)} {x1 : Int32} {x2 : Int32} {x3 : Int32} {σ : Sg} {z : Nat × Int32 × Int32 × Sg} (C : Cx p s m args meth c cX3_readsAnd 4 (some .boolean) RX3 g A X) (hrec : ∀ (x : Int32) (σ : Sg) (z : Int32 × Sg), rec x σ = some z → MetI l yX3_readsExpression (Cond.code yX3_readsExpression cX3_readsExpression 4 (some .boolean) :: wsA) (rm_X3_readsExpression_2 d) cw g X [.ref (g.2.2 2), .int x] σ z.1 z.2) (hf : s_X3_readsAnd_2_h8 N rec x1 x2 x3 σ = some z) (k0 : z.1 = 0 → Bk cw p l e (rm_X3_readsAnd_2 (d + 1)) s m args below meth c 4 g A Q 0 0 8 [(0, .ref (g.2.2 2)), (1, .int x1), (2, .int z.2.1), (3, .int z.2.2.1)] [] z.2.2.2) (k : ¬ z.1 = 0 → Bk cw p l e (rm_X3_readsAnd_2 (d + 1)) s m args below meth c 4 g A Q 0 0 58 [(2, .int z.2.1)] [] z.2.2.2) : Bk cw p l e (rm_X3_readsAnd_2 (d + 1)) s m args below meth c 4 g A Q 0 0 8 [(0, .ref (g.2.2 2)), (1, .int x1), (2, .int x2), (3, .int x3)] [] σ := by
  obtain ⟨hx, hb, hr, hml, hown, hts, hK, hlocks, hXX, hA, hXo⟩ := id C
  intro H locs ls hP hD hS hl
  unfold s_X3_readsAnd_2_h8 at hf
  refine lv_iload_n hx hb dX3_readsAnd_8 rfl (lv_at hl 3 rfl) ?_
  refine lv_aload_n hx hb dX3_readsAnd_9 rfl (lv_at hl 0 rfl) ?_
  refine bk_get (wf := cw) (q0 := 2) (ci := 3) (k := 4) (v := .int (σ 2 4)) C hP wl_X3 rfl rfl (by decide) wa_54 rfl rfl dX3_readsAnd_10 ?_
  refine lv_icmp_ge (tgt := 58) hx hb dX3_readsAnd_13 (by decide) (fun t13 => ?_) (fun t13 => ?_)
  · have hf := (if_pos t13).symm.trans hf
    cases hf
    exact (k (show ¬ (1 : Nat) = 0 by decide)) H locs ls hP hD hS (lv_sub hl [2] rfl)
  · have hf := (if_neg t13).symm.trans hf
    refine lv_iload_n hx hb dX3_readsAnd_16 rfl (lv_at hl 2 rfl) ?_
    refine lv_if_eq (tgt := 58) hx hb dX3_readsAnd_17 (by decide) (fun t17 => ?_) (fun t17 => ?_)
    · have hf := (if_pos t17).symm.trans hf
      cases hf
      exact (k (show ¬ (1 : Nat) = 0 by decide)) H locs ls hP hD hS (lv_sub hl [2] rfl)
    · have hf := (if_neg t17).symm.trans hf
      refine lv_aload_n hx hb dX3_readsAnd_20 rfl (lv_at hl 0 rfl) ?_
      refine bk_get (wf := cw) (q0 := 2) (ci := 3) (k := 5) (v := .ref (g.2.2 (300 + (σ 2 5).toNatClampNeg))) C hP wl_X3 rfl rfl (by decide) wa_56 rfl rfl dX3_readsAnd_21 ?_
      refine va_gets (v := .ref (g.2.2 (300 + (19 : Int32).toNatClampNeg))) hx hb (tok_Z (hXo.2.2.2 _ _ _ hXX).2.2.2.2.2.1 19 "AND" (by decide) (by decide) rfl) hS hown (hts _ wa_397) (fun _ h => h) dX3_readsAnd_24 ?_
      obtain ⟨g1, hf⟩ := gd_s hf
      refine bk_acn (tgt := 58) C g1 (vin_l (by decide) (by decide)) dX3_readsAnd_27 (by decide) (fun t27 => ?_) (fun t27 => ?_)
      · have hf := (if_neg t27).symm.trans hf
        cases hf
        exact (k (show ¬ (1 : Nat) = 0 by decide)) H locs ls hP hD hS (lv_sub hl [2] rfl)
      · have hf := (if_pos t27).symm.trans hf
        refine lv_aload_n hx hb dX3_readsAnd_30 rfl (lv_at hl 0 rfl) ?_
        obtain ⟨q2, hq2, hf⟩ := bi_s hf
        refine bk_VV (wf := cw) (q0 := 2) (ci := 3) (rest := []) [] C hP hD hS hl.1 (c_X3_advance_2 hXo hq2) (cwA_V 0 hts wa_241 wa_238 wa_239 wa_240 wa_18 rfl rfl nd_X3_advance ⟨by dsimp only [rm_X3_advance_2, rm_X3_readsAnd_2]; omega, by dsimp only [rm_X3_advance_2, rm_X3_readsAnd_2]; omega⟩) rfl rfl rfl rfl (Nat.le_of_ble_eq_true rfl) dX3_readsAnd_31 ⟨Nat.zero_le _, Nat.zero_le _⟩ (fun H locs hP hD hS => ?_)
        refine lv_aload_n hx hb dX3_readsAnd_34 rfl (lv_at hl 0 rfl) ?_
        refine lv_iload_n hx hb dX3_readsAnd_35 rfl (lv_at hl 1 rfl) ?_
        obtain ⟨q3, hq3, hf⟩ := bi_s hf
        refine bk_VI (wf := cw) (q0 := 2) (ci := 3) (rest := []) [.int x1] C hP hD hS hl.1 (c_X3_readsNot_2 hXo hrec hq3) (cwA_V 1 hts wa_401 wa_398 wa_399 wa_400 wa_18 rfl rfl nd_X3_readsNot ⟨by dsimp only [rm_X3_readsNot_2, rm_X3_readsAnd_2]; omega, by dsimp only [rm_X3_readsNot_2, rm_X3_readsAnd_2]; omega⟩) rfl rfl rfl rfl (Nat.le_of_ble_eq_true rfl) dX3_readsAnd_36 ⟨Nat.zero_le _, Nat.zero_le _⟩ (fun H locs hP hD hS => ?_)
        obtain ⟨v4, ev4, hf⟩ := bd_s hf
        rw [← ev4]
        refine lv_istore_n (lv' := [(2, .int v4), (0, .ref (g.2.2 2)), (1, .int x1), (3, .int x3)]) hx hb dX3_readsAnd_39 rfl hl (by decide) rfl (fun ls hl => ?_)
        refine lv_aload_n hx hb dX3_readsAnd_40 rfl (lv_at hl 1 rfl) ?_
        refine bk_get (wf := cw) (q0 := 2) (ci := 3) (k := 0) (v := .ref (g.2.2 3)) C hP wl_X3 rfl rfl (by decide) wa_51 rfl rfl dX3_readsAnd_41 ?_
        refine bk_get (wf := cw) (q0 := 3) (ci := 8) (k := 10) (v := .ref (g.2.2 9)) C hP wl_X9 rfl rfl (by decide) wa_381 rfl rfl dX3_readsAnd_44 ?_
        refine lv_bipush (v := (-9 : Int32)) hx hb dX3_readsAnd_47 (by decide) ?_
        obtain ⟨q5, hq5, hf⟩ := bi_s hf
        refine bk_VV (wf := cw) (q0 := 9) (ci := 4) (rest := []) [.int (-9 : Int32)] C hP hD hS hl.1 (c_X4_add_9 hXo hq5) (cwA_V 1 hts wa_395 wa_392 wa_393 wa_394 wa_80 rfl rfl nd_X4_add ⟨by dsimp only [rm_X4_add_9, rm_X3_readsAnd_2]; omega, by dsimp only [rm_X4_add_9, rm_X3_readsAnd_2]; omega⟩) rfl rfl rfl rfl (Nat.le_of_ble_eq_true rfl) dX3_readsAnd_49 ⟨Nat.zero_le _, Nat.zero_le _⟩ (fun H locs hP hD hS => ?_)
        obtain ⟨v6, ev6, hf⟩ := bd_s hf
        refine lv_iinc (v := v6) (lv' := [(3, .int v6), (2, .int v4), (0, .ref (g.2.2 2)), (1, .int x1)]) hx hb dX3_readsAnd_52 hl (k := 3) rfl (by rw [ev6]; rfl) (by decide) rfl (fun ls hl => ?_)
        refine lv_goto (tgt := 8) hx hb dX3_readsAnd_55 (by decide) ?_
        cases hf
        exact k0 rfl H locs ls hP hD hS (lv_sub hl [2, 3, 1, 0] rfl)
theorem lp_X3_readsAnd_2_h8 {N d : Nat} {rec : Int32 → Sg → Option (Int32 × Sg)} {n : Nat} {x1 : Int32} {x2 : Int32} {x3 : Int32} {σ : Sg} {z : Nat × Int32 × Int32 × Sg} (C : Cx p s m args meth c cX3_readsAnd 4 (some .boolean) RX3 g A X) (hrec : ∀ (x : Int32) (σ : Sg) (z : Int32 × Sg), rec x σ = some z → MetI l yX3_readsExpression (Cond.code yX3_readsExpression cX3_readsExpression 4 (some .boolean) :: wsA) (rm_X3_readsExpression_2 d) cw g X [.ref (g.2.2 2), .int x] σ z.1 z.2) (hz : it (fun q => s_X3_readsAnd_2_h8 N rec x1 q.1 q.2.1 q.2.2) n (x2, x3, σ) = some z) (k : Bk cw p l e (rm_X3_readsAnd_2 (d + 1)) s m args below meth c 4 g A Q 0 0 58 [(2, .int z.2.1)] [] z.2.2.2) : Bk cw p l e (rm_X3_readsAnd_2 (d + 1)) s m args below meth c 4 g A Q 0 0 8 [(0, .ref (g.2.2 2)), (1, .int x1), (2, .int x2), (3, .int x3)] [] σ :=
  it_W (S := Int32 × Int32 × Sg) (fun q => Bk cw p l e (rm_X3_readsAnd_2 (d + 1)) s m args below meth c 4 g A Q 0 0 8 [(0, .ref (g.2.2 2)), (1, .int x1), (2, .int q.1), (3, .int q.2.1)] [] q.2.2) (fun z => Bk cw p l e (rm_X3_readsAnd_2 (d + 1)) s m args below meth c 4 g A Q 0 0 58 [(2, .int z.2.1)] [] z.2.2.2) (fun q z hq k0 k => e_X3_readsAnd_2_h8 C hrec hq k0 k) n (x2, x3, σ) z hz k
def f_X3_readsAnd_2 (N : Nat) (rec : Int32 → Sg → Option (Int32 × Sg)) (x1 : Int32) (σ : Sg) : Option (Int32 × Sg) :=
(f_X3_readsNot_2 N rec x1 σ).bind fun q7 =>
bd q7.1 fun v8 =>
(it (fun q => s_X3_readsAnd_2_h8 N rec x1 q.1 q.2.1 q.2.2) N (v8, (0 : Int32), (q7.2))).bind fun z9 =>
if ¬ ((z9.2.1) = 0 ∨ (z9.2.1) = 1) then none else some ((z9.2.1), (z9.2.2.2))
set_option maxHeartbeats 4000000 in
set_option maxRecDepth 100000 in
theorem b_X3_readsAnd_2 {N d : Nat} {rec : Int32 → Sg → Option (Int32 × Sg)} {x1 : Int32} {σ : Sg} {z : Int32 × Sg} (C : Cx p s m args meth c cX3_readsAnd 4 (some .boolean) RX3 g A X) (hrec : ∀ (x : Int32) (σ : Sg) (z : Int32 × Sg), rec x σ = some z → MetI l yX3_readsExpression (Cond.code yX3_readsExpression cX3_readsExpression 4 (some .boolean) :: wsA) (rm_X3_readsExpression_2 d) cw g X [.ref (g.2.2 2), .int x] σ z.1 z.2) (hf : f_X3_readsAnd_2 N rec x1 σ = some z) : Bk cw p l e (rm_X3_readsAnd_2 (d + 1)) s m args below meth c 4 g A (MQ below (qI cw g A z.1 z.2) args s 0 0 A) 0 0 0 [(0, .ref (g.2.2 2)), (1, .int x1)] [] σ := by
  obtain ⟨hx, hb, hr, hml, hown, hts, hK, hlocks, hXX, hA, hXo⟩ := id C
  intro H locs ls hP hD hS hl
  unfold f_X3_readsAnd_2 at hf
  refine lv_aload_n hx hb dX3_readsAnd_0 rfl (lv_at hl 0 rfl) ?_
  refine lv_iload_n hx hb dX3_readsAnd_1 rfl (lv_at hl 1 rfl) ?_
  obtain ⟨q7, hq7, hf⟩ := bi_s hf
  refine bk_VI (wf := cw) (q0 := 2) (ci := 3) (rest := []) [.int x1] C hP hD hS hl.1 (c_X3_readsNot_2 hXo hrec hq7) (cwA_V 1 hts wa_401 wa_398 wa_399 wa_400 wa_18 rfl rfl nd_X3_readsNot ⟨by dsimp only [rm_X3_readsNot_2, rm_X3_readsAnd_2]; omega, by dsimp only [rm_X3_readsNot_2, rm_X3_readsAnd_2]; omega⟩) rfl rfl rfl rfl (Nat.le_of_ble_eq_true rfl) dX3_readsAnd_2 ⟨Nat.zero_le _, Nat.zero_le _⟩ (fun H locs hP hD hS => ?_)
  obtain ⟨v8, ev8, hf⟩ := bd_s hf
  rw [← ev8]
  refine lv_istore_n (lv' := [(2, .int v8), (0, .ref (g.2.2 2)), (1, .int x1)]) hx hb dX3_readsAnd_5 rfl hl (by decide) rfl (fun ls hl => ?_)
  refine lv_iconst (v := (0 : Int32)) hx hb dX3_readsAnd_6 (by decide) ?_
  refine lv_istore_n (lv' := [(3, .int (0 : Int32)), (2, .int v8), (0, .ref (g.2.2 2)), (1, .int x1)]) hx hb dX3_readsAnd_7 rfl hl (by decide) rfl (fun ls hl => ?_)
  obtain ⟨z9, hz9, hf⟩ := bi_s hf
  refine lp_X3_readsAnd_2_h8 C hrec hz9 ?_ H locs ls hP hD hS (lv_sub hl [2, 3, 1, 0] rfl)
  intro H locs ls hP hD hS hl
  refine lv_iload_n hx hb dX3_readsAnd_58 rfl (lv_at hl 0 rfl) ?_
  obtain ⟨g10, hf⟩ := gd_s hf
  cases hf
  exact bk_zret C hP hD hS (Decidable.not_not.mp g10) rfl dX3_readsAnd_59
theorem c_X3_readsAnd_2 {N d : Nat} {rec : Int32 → Sg → Option (Int32 × Sg)} {x1 : Int32} {σ : Sg} {z : Int32 × Sg} (hX : xOK g X) (hrec : ∀ (x : Int32) (σ : Sg) (z : Int32 × Sg), rec x σ = some z → MetI l yX3_readsExpression (Cond.code yX3_readsExpression cX3_readsExpression 4 (some .boolean) :: wsA) (rm_X3_readsExpression_2 d) cw g X [.ref (g.2.2 2), .int x] σ z.1 z.2) (hf : f_X3_readsAnd_2 N rec x1 σ = some z) : MetI l yX3_readsAnd (Cond.code yX3_readsAnd cX3_readsAnd 4 (some .boolean) :: wsA) (rm_X3_readsAnd_2 (d + 1)) cw g X [.ref (g.2.2 2), .int x1] σ z.1 z.2 :=
  MetI_of hX (by decide) (Nat.le_of_ble_eq_true rfl) (fun p e s m args below meth c A C => b_X3_readsAnd_2 C hrec hf)
-- X3_readsExpression_2: readsExpression(I)Z
def s_X3_readsExpression_2_h61 (N : Nat) (rec : Int32 → Sg → Option (Int32 × Sg)) (x1 : Int32) (x2 : Int32) (x3 : Int32) (σ : Sg) : Option (Nat × Int32 × Int32 × Sg) :=
if (σ 2 4) ≤ x3 then (some (1, x2, 0, σ))
else (if x2 = 0 then (some (1, x2, 0, σ))
else (if ((σ 2 5) < 0 ∨ 27 ≤ (σ 2 5).toNatClampNeg) then none else
if (σ 2 5) = (18 : Int32) then ((f_X3_advance_2 N σ).bind fun q2 =>
(f_X3_readsAnd_2 N rec x1 q2).bind fun q3 =>
bd q3.1 fun v4 =>
(f_X4_add_9 N (-8 : Int32) (q3.2)).bind fun q5 =>
bd (x3 + (1 : Int32)) fun v6 =>
some (0, v4, v6, q5))
else (some (1, x2, 0, σ))))
set_option maxHeartbeats 4000000 in
set_option maxRecDepth 100000 in
theorem e_X3_readsExpression_2_h61 {N d : Nat} {rec : Int32 → Sg → Option (Int32 × Sg)} {x1 : Int32} {x2 : Int32} {x3 : Int32} {σ : Sg} {z : Nat × Int32 × Int32 × Sg} (C : Cx p s m args meth c cX3_readsExpression 4 (some .boolean) RX3 g A X) (hrec : ∀ (x : Int32) (σ : Sg) (z : Int32 × Sg), rec x σ = some z → MetI l yX3_readsExpression (Cond.code yX3_readsExpression cX3_readsExpression 4 (some .boolean) :: wsA) (rm_X3_readsExpression_2 d) cw g X [.ref (g.2.2 2), .int x] σ z.1 z.2) (hf : s_X3_readsExpression_2_h61 N rec x1 x2 x3 σ = some z) (k0 : z.1 = 0 → Bk cw p l e (rm_X3_readsExpression_2 (d + 1)) s m args below meth c 4 g A Q 0 0 61 [(0, .ref (g.2.2 2)), (1, .int x1), (2, .int z.2.1), (3, .int z.2.2.1)] [] z.2.2.2) (k : ¬ z.1 = 0 → Bk cw p l e (rm_X3_readsExpression_2 (d + 1)) s m args below meth c 4 g A Q 0 0 111 [(2, .int z.2.1)] [] z.2.2.2) : Bk cw p l e (rm_X3_readsExpression_2 (d + 1)) s m args below meth c 4 g A Q 0 0 61 [(0, .ref (g.2.2 2)), (1, .int x1), (2, .int x2), (3, .int x3)] [] σ := by
  obtain ⟨hx, hb, hr, hml, hown, hts, hK, hlocks, hXX, hA, hXo⟩ := id C
  intro H locs ls hP hD hS hl
  unfold s_X3_readsExpression_2_h61 at hf
  refine lv_iload_n hx hb dX3_readsExpression_61 rfl (lv_at hl 3 rfl) ?_
  refine lv_aload_n hx hb dX3_readsExpression_62 rfl (lv_at hl 0 rfl) ?_
  refine bk_get (wf := cw) (q0 := 2) (ci := 3) (k := 4) (v := .int (σ 2 4)) C hP wl_X3 rfl rfl (by decide) wa_54 rfl rfl dX3_readsExpression_63 ?_
  refine lv_icmp_ge (tgt := 111) hx hb dX3_readsExpression_66 (by decide) (fun t66 => ?_) (fun t66 => ?_)
  · have hf := (if_pos t66).symm.trans hf
    cases hf
    exact (k (show ¬ (1 : Nat) = 0 by decide)) H locs ls hP hD hS (lv_sub hl [2] rfl)
  · have hf := (if_neg t66).symm.trans hf
    refine lv_iload_n hx hb dX3_readsExpression_69 rfl (lv_at hl 2 rfl) ?_
    refine lv_if_eq (tgt := 111) hx hb dX3_readsExpression_70 (by decide) (fun t70 => ?_) (fun t70 => ?_)
    · have hf := (if_pos t70).symm.trans hf
      cases hf
      exact (k (show ¬ (1 : Nat) = 0 by decide)) H locs ls hP hD hS (lv_sub hl [2] rfl)
    · have hf := (if_neg t70).symm.trans hf
      refine lv_aload_n hx hb dX3_readsExpression_73 rfl (lv_at hl 0 rfl) ?_
      refine bk_get (wf := cw) (q0 := 2) (ci := 3) (k := 5) (v := .ref (g.2.2 (300 + (σ 2 5).toNatClampNeg))) C hP wl_X3 rfl rfl (by decide) wa_56 rfl rfl dX3_readsExpression_74 ?_
      refine va_gets (v := .ref (g.2.2 (300 + (18 : Int32).toNatClampNeg))) hx hb (tok_Z (hXo.2.2.2 _ _ _ hXX).2.2.2.2.2.1 18 "OR" (by decide) (by decide) rfl) hS hown (hts _ wa_388) (fun _ h => h) dX3_readsExpression_77 ?_
      obtain ⟨g1, hf⟩ := gd_s hf
      refine bk_acn (tgt := 111) C g1 (vin_l (by decide) (by decide)) dX3_readsExpression_80 (by decide) (fun t80 => ?_) (fun t80 => ?_)
      · have hf := (if_neg t80).symm.trans hf
        cases hf
        exact (k (show ¬ (1 : Nat) = 0 by decide)) H locs ls hP hD hS (lv_sub hl [2] rfl)
      · have hf := (if_pos t80).symm.trans hf
        refine lv_aload_n hx hb dX3_readsExpression_83 rfl (lv_at hl 0 rfl) ?_
        obtain ⟨q2, hq2, hf⟩ := bi_s hf
        refine bk_VV (wf := cw) (q0 := 2) (ci := 3) (rest := []) [] C hP hD hS hl.1 (c_X3_advance_2 hXo hq2) (cwA_V 0 hts wa_241 wa_238 wa_239 wa_240 wa_18 rfl rfl nd_X3_advance ⟨by dsimp only [rm_X3_advance_2, rm_X3_readsExpression_2]; omega, by dsimp only [rm_X3_advance_2, rm_X3_readsExpression_2]; omega⟩) rfl rfl rfl rfl (Nat.le_of_ble_eq_true rfl) dX3_readsExpression_84 ⟨Nat.zero_le _, Nat.zero_le _⟩ (fun H locs hP hD hS => ?_)
        refine lv_aload_n hx hb dX3_readsExpression_87 rfl (lv_at hl 0 rfl) ?_
        refine lv_iload_n hx hb dX3_readsExpression_88 rfl (lv_at hl 1 rfl) ?_
        obtain ⟨q3, hq3, hf⟩ := bi_s hf
        refine bk_VI (wf := cw) (q0 := 2) (ci := 3) (rest := []) [.int x1] C hP hD hS hl.1 (c_X3_readsAnd_2 hXo hrec hq3) (cwA_V 1 hts wa_396 wa_389 wa_390 wa_391 wa_18 rfl rfl nd_X3_readsAnd ⟨by dsimp only [rm_X3_readsAnd_2, rm_X3_readsExpression_2]; omega, by dsimp only [rm_X3_readsAnd_2, rm_X3_readsExpression_2]; omega⟩) rfl rfl rfl rfl (Nat.le_of_ble_eq_true rfl) dX3_readsExpression_89 ⟨Nat.zero_le _, Nat.zero_le _⟩ (fun H locs hP hD hS => ?_)
        obtain ⟨v4, ev4, hf⟩ := bd_s hf
        rw [← ev4]
        refine lv_istore_n (lv' := [(2, .int v4), (0, .ref (g.2.2 2)), (1, .int x1), (3, .int x3)]) hx hb dX3_readsExpression_92 rfl hl (by decide) rfl (fun ls hl => ?_)
        refine lv_aload_n hx hb dX3_readsExpression_93 rfl (lv_at hl 1 rfl) ?_
        refine bk_get (wf := cw) (q0 := 2) (ci := 3) (k := 0) (v := .ref (g.2.2 3)) C hP wl_X3 rfl rfl (by decide) wa_51 rfl rfl dX3_readsExpression_94 ?_
        refine bk_get (wf := cw) (q0 := 3) (ci := 8) (k := 10) (v := .ref (g.2.2 9)) C hP wl_X9 rfl rfl (by decide) wa_381 rfl rfl dX3_readsExpression_97 ?_
        refine lv_bipush (v := (-8 : Int32)) hx hb dX3_readsExpression_100 (by decide) ?_
        obtain ⟨q5, hq5, hf⟩ := bi_s hf
        refine bk_VV (wf := cw) (q0 := 9) (ci := 4) (rest := []) [.int (-8 : Int32)] C hP hD hS hl.1 (c_X4_add_9 hXo hq5) (cwA_V 1 hts wa_395 wa_392 wa_393 wa_394 wa_80 rfl rfl nd_X4_add ⟨by dsimp only [rm_X4_add_9, rm_X3_readsExpression_2]; omega, by dsimp only [rm_X4_add_9, rm_X3_readsExpression_2]; omega⟩) rfl rfl rfl rfl (Nat.le_of_ble_eq_true rfl) dX3_readsExpression_102 ⟨Nat.zero_le _, Nat.zero_le _⟩ (fun H locs hP hD hS => ?_)
        obtain ⟨v6, ev6, hf⟩ := bd_s hf
        refine lv_iinc (v := v6) (lv' := [(3, .int v6), (2, .int v4), (0, .ref (g.2.2 2)), (1, .int x1)]) hx hb dX3_readsExpression_105 hl (k := 3) rfl (by rw [ev6]; rfl) (by decide) rfl (fun ls hl => ?_)
        refine lv_goto (tgt := 61) hx hb dX3_readsExpression_108 (by decide) ?_
        cases hf
        exact k0 rfl H locs ls hP hD hS (lv_sub hl [2, 3, 1, 0] rfl)
theorem lp_X3_readsExpression_2_h61 {N d : Nat} {rec : Int32 → Sg → Option (Int32 × Sg)} {n : Nat} {x1 : Int32} {x2 : Int32} {x3 : Int32} {σ : Sg} {z : Nat × Int32 × Int32 × Sg} (C : Cx p s m args meth c cX3_readsExpression 4 (some .boolean) RX3 g A X) (hrec : ∀ (x : Int32) (σ : Sg) (z : Int32 × Sg), rec x σ = some z → MetI l yX3_readsExpression (Cond.code yX3_readsExpression cX3_readsExpression 4 (some .boolean) :: wsA) (rm_X3_readsExpression_2 d) cw g X [.ref (g.2.2 2), .int x] σ z.1 z.2) (hz : it (fun q => s_X3_readsExpression_2_h61 N rec x1 q.1 q.2.1 q.2.2) n (x2, x3, σ) = some z) (k : Bk cw p l e (rm_X3_readsExpression_2 (d + 1)) s m args below meth c 4 g A Q 0 0 111 [(2, .int z.2.1)] [] z.2.2.2) : Bk cw p l e (rm_X3_readsExpression_2 (d + 1)) s m args below meth c 4 g A Q 0 0 61 [(0, .ref (g.2.2 2)), (1, .int x1), (2, .int x2), (3, .int x3)] [] σ :=
  it_W (S := Int32 × Int32 × Sg) (fun q => Bk cw p l e (rm_X3_readsExpression_2 (d + 1)) s m args below meth c 4 g A Q 0 0 61 [(0, .ref (g.2.2 2)), (1, .int x1), (2, .int q.1), (3, .int q.2.1)] [] q.2.2) (fun z => Bk cw p l e (rm_X3_readsExpression_2 (d + 1)) s m args below meth c 4 g A Q 0 0 111 [(2, .int z.2.1)] [] z.2.2.2) (fun q z hq k0 k => e_X3_readsExpression_2_h61 C hrec hq k0 k) n (x2, x3, σ) z hz k
def f_X3_readsExpression_2_b49 (N : Nat) (rec : Int32 → Sg → Option (Int32 × Sg)) (t1 : Int32) (σ : Sg) : Option (Int32 × Sg) :=
(f_X3_fails_2 N t1 σ).bind fun q7 =>
if ¬ (q7.1 = 0 ∨ q7.1 = 1) then none else some (q7.1, (q7.2))
set_option maxHeartbeats 4000000 in
set_option maxRecDepth 100000 in
theorem b_X3_readsExpression_2_b49 {N d : Nat} {rec : Int32 → Sg → Option (Int32 × Sg)} {t1 : Int32} {σ : Sg} {z : Int32 × Sg} (C : Cx p s m args meth c cX3_readsExpression 4 (some .boolean) RX3 g A X) (hrec : ∀ (x : Int32) (σ : Sg) (z : Int32 × Sg), rec x σ = some z → MetI l yX3_readsExpression (Cond.code yX3_readsExpression cX3_readsExpression 4 (some .boolean) :: wsA) (rm_X3_readsExpression_2 d) cw g X [.ref (g.2.2 2), .int x] σ z.1 z.2) (hf : f_X3_readsExpression_2_b49 N rec t1 σ = some z) : Bk cw p l e (rm_X3_readsExpression_2 (d + 1)) s m args below meth c 4 g A (MQ below (qI cw g A z.1 z.2) args s 0 0 A) 0 0 49 [] [.int t1, .ref (g.2.2 2)] σ := by
  obtain ⟨hx, hb, hr, hml, hown, hts, hK, hlocks, hXX, hA, hXo⟩ := id C
  intro H locs ls hP hD hS hl
  unfold f_X3_readsExpression_2_b49 at hf
  obtain ⟨q7, hq7, hf⟩ := bi_s hf
  refine bk_VI (wf := cw) (q0 := 2) (ci := 3) (rest := []) [.int t1] C hP hD hS hl.1 (c_X3_fails_2 hXo hq7) (cwA_V 1 hts wa_343 wa_340 wa_341 wa_342 wa_18 rfl rfl nd_X3_fails ⟨by dsimp only [rm_X3_fails_2, rm_X3_readsExpression_2]; omega, by dsimp only [rm_X3_fails_2, rm_X3_readsExpression_2]; omega⟩) rfl rfl rfl rfl (Nat.le_of_ble_eq_true rfl) dX3_readsExpression_49 ⟨Nat.zero_le _, Nat.zero_le _⟩ (fun H locs hP hD hS => ?_)
  obtain ⟨g8, hf⟩ := gd_s hf
  cases hf
  exact bk_zret C hP hD hS (Decidable.not_not.mp g8) rfl dX3_readsExpression_52
def f_X3_readsExpression_2_b38 (N : Nat) (rec : Int32 → Sg → Option (Int32 × Sg)) (t0 : Int32) (σ : Sg) : Option (Int32 × Sg) :=
if t0 = 0 then (f_X3_readsExpression_2_b49 N rec (1 : Int32) σ)
else (f_X3_readsExpression_2_b49 N rec (2 : Int32) σ)
set_option maxHeartbeats 4000000 in
set_option maxRecDepth 100000 in
theorem b_X3_readsExpression_2_b38 {N d : Nat} {rec : Int32 → Sg → Option (Int32 × Sg)} {t0 : Int32} {σ : Sg} {z : Int32 × Sg} (C : Cx p s m args meth c cX3_readsExpression 4 (some .boolean) RX3 g A X) (hrec : ∀ (x : Int32) (σ : Sg) (z : Int32 × Sg), rec x σ = some z → MetI l yX3_readsExpression (Cond.code yX3_readsExpression cX3_readsExpression 4 (some .boolean) :: wsA) (rm_X3_readsExpression_2 d) cw g X [.ref (g.2.2 2), .int x] σ z.1 z.2) (hf : f_X3_readsExpression_2_b38 N rec t0 σ = some z) : Bk cw p l e (rm_X3_readsExpression_2 (d + 1)) s m args below meth c 4 g A (MQ below (qI cw g A z.1 z.2) args s 0 0 A) 0 0 38 [(0, .ref (g.2.2 2))] [.int t0] σ := by
  obtain ⟨hx, hb, hr, hml, hown, hts, hK, hlocks, hXX, hA, hXo⟩ := id C
  intro H locs ls hP hD hS hl
  unfold f_X3_readsExpression_2_b38 at hf
  refine lv_istore_n (lv' := [(2, .int t0), (0, .ref (g.2.2 2))]) hx hb dX3_readsExpression_38 rfl hl (by decide) rfl (fun ls hl => ?_)
  refine lv_aload_n hx hb dX3_readsExpression_39 rfl (lv_at hl 1 rfl) ?_
  refine lv_iload_n hx hb dX3_readsExpression_40 rfl (lv_at hl 0 rfl) ?_
  refine lv_if_eq (tgt := 48) hx hb dX3_readsExpression_41 (by decide) (fun t41 => ?_) (fun t41 => ?_)
  · have hf := (if_pos t41).symm.trans hf
    refine lv_iconst (v := (1 : Int32)) hx hb dX3_readsExpression_48 (by decide) ?_
    exact b_X3_readsExpression_2_b49 C hrec hf H locs ls hP hD hS (lv_sub hl [] rfl)
  · have hf := (if_neg t41).symm.trans hf
    refine lv_iconst (v := (2 : Int32)) hx hb dX3_readsExpression_44 (by decide) ?_
    refine lv_goto (tgt := 49) hx hb dX3_readsExpression_45 (by decide) ?_
    exact b_X3_readsExpression_2_b49 C hrec hf H locs ls hP hD hS (lv_sub hl [] rfl)
def f_X3_readsExpression_2_b33 (N : Nat) (rec : Int32 → Sg → Option (Int32 × Sg)) (σ : Sg) : Option (Int32 × Sg) :=
f_X3_readsExpression_2_b38 N rec (1 : Int32) σ
set_option maxHeartbeats 4000000 in
set_option maxRecDepth 100000 in
theorem b_X3_readsExpression_2_b33 {N d : Nat} {rec : Int32 → Sg → Option (Int32 × Sg)} {σ : Sg} {z : Int32 × Sg} (C : Cx p s m args meth c cX3_readsExpression 4 (some .boolean) RX3 g A X) (hrec : ∀ (x : Int32) (σ : Sg) (z : Int32 × Sg), rec x σ = some z → MetI l yX3_readsExpression (Cond.code yX3_readsExpression cX3_readsExpression 4 (some .boolean) :: wsA) (rm_X3_readsExpression_2 d) cw g X [.ref (g.2.2 2), .int x] σ z.1 z.2) (hf : f_X3_readsExpression_2_b33 N rec σ = some z) : Bk cw p l e (rm_X3_readsExpression_2 (d + 1)) s m args below meth c 4 g A (MQ below (qI cw g A z.1 z.2) args s 0 0 A) 0 0 33 [(0, .ref (g.2.2 2))] [] σ := by
  obtain ⟨hx, hb, hr, hml, hown, hts, hK, hlocks, hXX, hA, hXo⟩ := id C
  intro H locs ls hP hD hS hl
  unfold f_X3_readsExpression_2_b33 at hf
  refine lv_iconst (v := (1 : Int32)) hx hb dX3_readsExpression_33 (by decide) ?_
  refine lv_goto (tgt := 38) hx hb dX3_readsExpression_34 (by decide) ?_
  exact b_X3_readsExpression_2_b38 C hrec hf H locs ls hP hD hS (lv_sub hl [0] rfl)
def f_X3_readsExpression_2 (N : Nat) (rec : Int32 → Sg → Option (Int32 × Sg)) (x1 : Int32) (σ : Sg) : Option (Int32 × Sg) :=
if x1 < (6 : Int32) then ((f_X3_readsAnd_2 N rec x1 σ).bind fun q9 =>
bd q9.1 fun v10 =>
(it (fun q => s_X3_readsExpression_2_h61 N rec x1 q.1 q.2.1 q.2.2) N (v10, (0 : Int32), (q9.2))).bind fun z11 =>
if ¬ ((z11.2.1) = 0 ∨ (z11.2.1) = 1) then none else some ((z11.2.1), (z11.2.2.2)))
else (if (σ 2 8) = 0 then (if ((σ 2 5) < 0 ∨ 27 ≤ (σ 2 5).toNatClampNeg) then none else
if (σ 2 5) = (2 : Int32) then (f_X3_readsExpression_2_b33 N rec σ)
else (if ((σ 2 5) < 0 ∨ 27 ≤ (σ 2 5).toNatClampNeg) then none else
if (σ 2 5) = (5 : Int32) then (f_X3_readsExpression_2_b33 N rec σ)
else (f_X3_readsExpression_2_b38 N rec (0 : Int32) σ)))
else (f_X3_readsExpression_2_b33 N rec σ))
set_option maxHeartbeats 4000000 in
set_option maxRecDepth 100000 in
theorem b_X3_readsExpression_2 {N d : Nat} {rec : Int32 → Sg → Option (Int32 × Sg)} {x1 : Int32} {σ : Sg} {z : Int32 × Sg} (C : Cx p s m args meth c cX3_readsExpression 4 (some .boolean) RX3 g A X) (hrec : ∀ (x : Int32) (σ : Sg) (z : Int32 × Sg), rec x σ = some z → MetI l yX3_readsExpression (Cond.code yX3_readsExpression cX3_readsExpression 4 (some .boolean) :: wsA) (rm_X3_readsExpression_2 d) cw g X [.ref (g.2.2 2), .int x] σ z.1 z.2) (hf : f_X3_readsExpression_2 N rec x1 σ = some z) : Bk cw p l e (rm_X3_readsExpression_2 (d + 1)) s m args below meth c 4 g A (MQ below (qI cw g A z.1 z.2) args s 0 0 A) 0 0 0 [(0, .ref (g.2.2 2)), (1, .int x1)] [] σ := by
  obtain ⟨hx, hb, hr, hml, hown, hts, hK, hlocks, hXX, hA, hXo⟩ := id C
  intro H locs ls hP hD hS hl
  unfold f_X3_readsExpression_2 at hf
  refine lv_iload_n hx hb dX3_readsExpression_0 rfl (lv_at hl 1 rfl) ?_
  refine lv_bipush (v := (6 : Int32)) hx hb dX3_readsExpression_1 (by decide) ?_
  refine lv_icmp_lt (tgt := 53) hx hb dX3_readsExpression_3 (by decide) (fun t3 => ?_) (fun t3 => ?_)
  · have hf := (if_pos t3).symm.trans hf
    refine lv_aload_n hx hb dX3_readsExpression_53 rfl (lv_at hl 0 rfl) ?_
    refine lv_iload_n hx hb dX3_readsExpression_54 rfl (lv_at hl 1 rfl) ?_
    obtain ⟨q9, hq9, hf⟩ := bi_s hf
    refine bk_VI (wf := cw) (q0 := 2) (ci := 3) (rest := []) [.int x1] C hP hD hS hl.1 (c_X3_readsAnd_2 hXo hrec hq9) (cwA_V 1 hts wa_396 wa_389 wa_390 wa_391 wa_18 rfl rfl nd_X3_readsAnd ⟨by dsimp only [rm_X3_readsAnd_2, rm_X3_readsExpression_2]; omega, by dsimp only [rm_X3_readsAnd_2, rm_X3_readsExpression_2]; omega⟩) rfl rfl rfl rfl (Nat.le_of_ble_eq_true rfl) dX3_readsExpression_55 ⟨Nat.zero_le _, Nat.zero_le _⟩ (fun H locs hP hD hS => ?_)
    obtain ⟨v10, ev10, hf⟩ := bd_s hf
    rw [← ev10]
    refine lv_istore_n (lv' := [(2, .int v10), (0, .ref (g.2.2 2)), (1, .int x1)]) hx hb dX3_readsExpression_58 rfl hl (by decide) rfl (fun ls hl => ?_)
    refine lv_iconst (v := (0 : Int32)) hx hb dX3_readsExpression_59 (by decide) ?_
    refine lv_istore_n (lv' := [(3, .int (0 : Int32)), (2, .int v10), (0, .ref (g.2.2 2)), (1, .int x1)]) hx hb dX3_readsExpression_60 rfl hl (by decide) rfl (fun ls hl => ?_)
    obtain ⟨z11, hz11, hf⟩ := bi_s hf
    refine lp_X3_readsExpression_2_h61 C hrec hz11 ?_ H locs ls hP hD hS (lv_sub hl [2, 3, 1, 0] rfl)
    intro H locs ls hP hD hS hl
    refine lv_iload_n hx hb dX3_readsExpression_111 rfl (lv_at hl 0 rfl) ?_
    obtain ⟨g12, hf⟩ := gd_s hf
    cases hf
    exact bk_zret C hP hD hS (Decidable.not_not.mp g12) rfl dX3_readsExpression_112
  · have hf := (if_neg t3).symm.trans hf
    refine lv_aload_n hx hb dX3_readsExpression_6 rfl (lv_at hl 0 rfl) ?_
    refine bk_get (wf := cw) (q0 := 2) (ci := 3) (k := 8) (v := .int (σ 2 8)) C hP wl_X3 rfl rfl (by decide) wa_59 rfl rfl dX3_readsExpression_7 ?_
    refine lv_if_ne (tgt := 33) hx hb dX3_readsExpression_10 (by decide) (fun t10 => ?_) (fun t10 => ?_)
    · have hf := (if_neg t10).symm.trans hf
      exact b_X3_readsExpression_2_b33 C hrec hf H locs ls hP hD hS (lv_sub hl [0] rfl)
    · have hf := (if_pos t10).symm.trans hf
      refine lv_aload_n hx hb dX3_readsExpression_13 rfl (lv_at hl 0 rfl) ?_
      refine bk_get (wf := cw) (q0 := 2) (ci := 3) (k := 5) (v := .ref (g.2.2 (300 + (σ 2 5).toNatClampNeg))) C hP wl_X3 rfl rfl (by decide) wa_56 rfl rfl dX3_readsExpression_14 ?_
      refine va_gets (v := .ref (g.2.2 (300 + (2 : Int32).toNatClampNeg))) hx hb (tok_Z (hXo.2.2.2 _ _ _ hXX).2.2.2.2.2.1 2 "NUMBER" (by decide) (by decide) rfl) hS hown (hts _ wa_254) (fun _ h => h) dX3_readsExpression_17 ?_
      obtain ⟨g13, hf⟩ := gd_s hf
      refine bk_acq (tgt := 33) C g13 (vin_l (by decide) (by decide)) dX3_readsExpression_20 (by decide) (fun t20 => ?_) (fun t20 => ?_)
      · have hf := (if_pos t20).symm.trans hf
        exact b_X3_readsExpression_2_b33 C hrec hf H locs ls hP hD hS (lv_sub hl [0] rfl)
      · have hf := (if_neg t20).symm.trans hf
        refine lv_aload_n hx hb dX3_readsExpression_23 rfl (lv_at hl 0 rfl) ?_
        refine bk_get (wf := cw) (q0 := 2) (ci := 3) (k := 5) (v := .ref (g.2.2 (300 + (σ 2 5).toNatClampNeg))) C hP wl_X3 rfl rfl (by decide) wa_56 rfl rfl dX3_readsExpression_24 ?_
        refine va_gets (v := .ref (g.2.2 (300 + (5 : Int32).toNatClampNeg))) hx hb (tok_Z (hXo.2.2.2 _ _ _ hXX).2.2.2.2.2.1 5 "OPEN" (by decide) (by decide) rfl) hS hown (hts _ wa_387) (fun _ h => h) dX3_readsExpression_27 ?_
        obtain ⟨g14, hf⟩ := gd_s hf
        refine bk_acn (tgt := 37) C g14 (vin_l (by decide) (by decide)) dX3_readsExpression_30 (by decide) (fun t30 => ?_) (fun t30 => ?_)
        · have hf := (if_neg t30).symm.trans hf
          refine lv_iconst (v := (0 : Int32)) hx hb dX3_readsExpression_37 (by decide) ?_
          exact b_X3_readsExpression_2_b38 C hrec hf H locs ls hP hD hS (lv_sub hl [0] rfl)
        · have hf := (if_pos t30).symm.trans hf
          exact b_X3_readsExpression_2_b33 C hrec hf H locs ls hP hD hS (lv_sub hl [0] rfl)
theorem c_X3_readsExpression_2 {N d : Nat} {rec : Int32 → Sg → Option (Int32 × Sg)} {x1 : Int32} {σ : Sg} {z : Int32 × Sg} (hX : xOK g X) (hrec : ∀ (x : Int32) (σ : Sg) (z : Int32 × Sg), rec x σ = some z → MetI l yX3_readsExpression (Cond.code yX3_readsExpression cX3_readsExpression 4 (some .boolean) :: wsA) (rm_X3_readsExpression_2 d) cw g X [.ref (g.2.2 2), .int x] σ z.1 z.2) (hf : f_X3_readsExpression_2 N rec x1 σ = some z) : MetI l yX3_readsExpression (Cond.code yX3_readsExpression cX3_readsExpression 4 (some .boolean) :: wsA) (rm_X3_readsExpression_2 (d + 1)) cw g X [.ref (g.2.2 2), .int x1] σ z.1 z.2 :=
  MetI_of hX (by decide) (Nat.le_of_ble_eq_true rfl) (fun p e s m args below meth c A C => b_X3_readsExpression_2 C hrec hf)
def fr_X3 (N : Nat) : Nat → Int32 → Sg → Option (Int32 × Sg)
  | 0 => fun _ _ => none
  | d + 1 => fun x σ => f_X3_readsExpression_2 N (fr_X3 N d) x σ
theorem cr_X3 {N : Nat} (hX : xOK g X) : ∀ (d : Nat) (x : Int32) (σ : Sg) (z : Int32 × Sg), fr_X3 N d x σ = some z → MetI l yX3_readsExpression (Cond.code yX3_readsExpression cX3_readsExpression 4 (some .boolean) :: wsA) (rm_X3_readsExpression_2 d) cw g X [.ref (g.2.2 2), .int x] σ z.1 z.2
  | 0, _, _, _, h => by cases h
  | d + 1, _, _, _, h => c_X3_readsExpression_2 hX (cr_X3 hX d) h
-- X3_readsMinds_2: readsMinds()Z
abbrev rm_X3_readsMinds_2 : Room := { frames := 175, cells := 0, slots := 0, locals := 3533 }
theorem nd_X3_readsMinds : yX3_readsMinds.cls ≠ "java/lang/invoke/MethodHandle" ∧ yX3_readsMinds.cls ≠ "java/lang/invoke/VarHandle" ∧ (parseMethodDescriptor yX3_readsMinds.desc).map (fun d => d.parameters.length) = some 0 := by decide +kernel
def f_X3_readsMinds_2_b42 (N : Nat) (σ : Sg) : Option (Int32 × Sg) :=
some ((0 : Int32), σ)
set_option maxHeartbeats 4000000 in
set_option maxRecDepth 100000 in
theorem b_X3_readsMinds_2_b42 {N : Nat} {σ : Sg} {z : Int32 × Sg} (C : Cx p s m args meth c cX3_readsMinds 1 (some .boolean) RX3 g A X) (hf : f_X3_readsMinds_2_b42 N σ = some z) : Bk cw p l e rm_X3_readsMinds_2 s m args below meth c 1 g A (MQ below (qI cw g A z.1 z.2) args s 0 0 A) 0 0 42 [] [] σ := by
  obtain ⟨hx, hb, hr, hml, hown, hts, hK, hlocks, hXX, hA, hXo⟩ := id C
  intro H locs ls hP hD hS hl
  unfold f_X3_readsMinds_2_b42 at hf
  refine lv_iconst (v := (0 : Int32)) hx hb dX3_readsMinds_42 (by decide) ?_
  cases hf
  exact bk_zret C hP hD hS (by decide) rfl dX3_readsMinds_43
def f_X3_readsMinds_2 (N : Nat) (σ : Sg) : Option (Int32 × Sg) :=
if (σ 9 0) ≤ 0 then ((f_X3_advance_2 N σ).bind fun q1 =>
(fr_X3 N 8 (0 : Int32) q1).bind fun q2 =>
if q2.1 = 0 then (f_X3_readsMinds_2_b42 N (q2.2))
else ((f_X3_endsLine_2 N (q2.2)).bind fun q3 =>
if q3.1 = 0 then (f_X3_readsMinds_2_b42 N (q3.2))
else (some ((1 : Int32), (q3.2)))))
else ((f_X3_fails_2 N (5 : Int32) σ).bind fun q4 =>
if ¬ (q4.1 = 0 ∨ q4.1 = 1) then none else some (q4.1, (q4.2)))
set_option maxHeartbeats 4000000 in
set_option maxRecDepth 100000 in
theorem b_X3_readsMinds_2 {N : Nat} {σ : Sg} {z : Int32 × Sg} (C : Cx p s m args meth c cX3_readsMinds 1 (some .boolean) RX3 g A X) (hf : f_X3_readsMinds_2 N σ = some z) : Bk cw p l e rm_X3_readsMinds_2 s m args below meth c 1 g A (MQ below (qI cw g A z.1 z.2) args s 0 0 A) 0 0 0 [(0, .ref (g.2.2 2))] [] σ := by
  obtain ⟨hx, hb, hr, hml, hown, hts, hK, hlocks, hXX, hA, hXo⟩ := id C
  intro H locs ls hP hD hS hl
  unfold f_X3_readsMinds_2 at hf
  refine lv_aload_n hx hb dX3_readsMinds_0 rfl (lv_at hl 0 rfl) ?_
  refine bk_get (wf := cw) (q0 := 2) (ci := 3) (k := 0) (v := .ref (g.2.2 3)) C hP wl_X3 rfl rfl (by decide) wa_51 rfl rfl dX3_readsMinds_1 ?_
  refine bk_get (wf := cw) (q0 := 3) (ci := 8) (k := 10) (v := .ref (g.2.2 9)) C hP wl_X9 rfl rfl (by decide) wa_381 rfl rfl dX3_readsMinds_4 ?_
  refine bk_get (wf := cw) (q0 := 9) (ci := 4) (k := 0) (v := .int (σ 9 0)) C hP wl_X4 rfl rfl (by decide) wa_382 rfl rfl dX3_readsMinds_7 ?_
  refine lv_if_le (tgt := 19) hx hb dX3_readsMinds_10 (by decide) (fun t10 => ?_) (fun t10 => ?_)
  · have hf := (if_pos t10).symm.trans hf
    refine lv_aload_n hx hb dX3_readsMinds_19 rfl (lv_at hl 0 rfl) ?_
    obtain ⟨q1, hq1, hf⟩ := bi_s hf
    refine bk_VV (wf := cw) (q0 := 2) (ci := 3) (rest := []) [] C hP hD hS hl.1 (c_X3_advance_2 hXo hq1) (cwA_V 0 hts wa_241 wa_238 wa_239 wa_240 wa_18 rfl rfl nd_X3_advance ⟨Nat.le_of_ble_eq_true rfl, Nat.le_of_ble_eq_true rfl⟩) rfl rfl rfl rfl (Nat.le_of_ble_eq_true rfl) dX3_readsMinds_20 ⟨Nat.le_of_ble_eq_true rfl, Nat.le_of_ble_eq_true rfl⟩ (fun H locs hP hD hS => ?_)
    refine lv_aload_n hx hb dX3_readsMinds_23 rfl (lv_at hl 0 rfl) ?_
    refine lv_iconst (v := (0 : Int32)) hx hb dX3_readsMinds_24 (by decide) ?_
    obtain ⟨q2, hq2, hf⟩ := bi_s hf
    refine bk_VI (wf := cw) (q0 := 2) (ci := 3) (rest := []) [.int (0 : Int32)] C hP hD hS hl.1 (cr_X3 hXo 8 _ _ _ hq2) (cwA_V 1 hts wa_386 wa_383 wa_384 wa_385 wa_18 rfl rfl nd_X3_readsExpression ⟨Nat.le_of_ble_eq_true rfl, Nat.le_of_ble_eq_true rfl⟩) rfl rfl rfl rfl (Nat.le_of_ble_eq_true rfl) dX3_readsMinds_25 ⟨Nat.le_of_ble_eq_true rfl, Nat.le_of_ble_eq_true rfl⟩ (fun H locs hP hD hS => ?_)
    refine lv_if_eq (tgt := 42) hx hb dX3_readsMinds_28 (by decide) (fun t28 => ?_) (fun t28 => ?_)
    · have hf := (if_pos t28).symm.trans hf
      exact b_X3_readsMinds_2_b42 C hf H locs ls hP hD hS (lv_sub hl [] rfl)
    · have hf := (if_neg t28).symm.trans hf
      refine lv_aload_n hx hb dX3_readsMinds_31 rfl (lv_at hl 0 rfl) ?_
      obtain ⟨q3, hq3, hf⟩ := bi_s hf
      refine bk_VI (wf := cw) (q0 := 2) (ci := 3) (rest := []) [] C hP hD hS hl.1 (c_X3_endsLine_2 hXo hq3) (cwA_V 0 hts wa_359 wa_356 wa_357 wa_358 wa_18 rfl rfl nd_X3_endsLine ⟨Nat.le_of_ble_eq_true rfl, Nat.le_of_ble_eq_true rfl⟩) rfl rfl rfl rfl (Nat.le_of_ble_eq_true rfl) dX3_readsMinds_32 ⟨Nat.le_of_ble_eq_true rfl, Nat.le_of_ble_eq_true rfl⟩ (fun H locs hP hD hS => ?_)
      refine lv_if_eq (tgt := 42) hx hb dX3_readsMinds_35 (by decide) (fun t35 => ?_) (fun t35 => ?_)
      · have hf := (if_pos t35).symm.trans hf
        exact b_X3_readsMinds_2_b42 C hf H locs ls hP hD hS (lv_sub hl [] rfl)
      · have hf := (if_neg t35).symm.trans hf
        refine lv_iconst (v := (1 : Int32)) hx hb dX3_readsMinds_38 (by decide) ?_
        refine lv_goto (tgt := 43) hx hb dX3_readsMinds_39 (by decide) ?_
        cases hf
        exact bk_zret C hP hD hS (by decide) rfl dX3_readsMinds_43
  · have hf := (if_neg t10).symm.trans hf
    refine lv_aload_n hx hb dX3_readsMinds_13 rfl (lv_at hl 0 rfl) ?_
    refine lv_iconst (v := (5 : Int32)) hx hb dX3_readsMinds_14 (by decide) ?_
    obtain ⟨q4, hq4, hf⟩ := bi_s hf
    refine bk_VI (wf := cw) (q0 := 2) (ci := 3) (rest := []) [.int (5 : Int32)] C hP hD hS hl.1 (c_X3_fails_2 hXo hq4) (cwA_V 1 hts wa_343 wa_340 wa_341 wa_342 wa_18 rfl rfl nd_X3_fails ⟨Nat.le_of_ble_eq_true rfl, Nat.le_of_ble_eq_true rfl⟩) rfl rfl rfl rfl (Nat.le_of_ble_eq_true rfl) dX3_readsMinds_15 ⟨Nat.le_of_ble_eq_true rfl, Nat.le_of_ble_eq_true rfl⟩ (fun H locs hP hD hS => ?_)
    obtain ⟨g5, hf⟩ := gd_s hf
    cases hf
    exact bk_zret C hP hD hS (Decidable.not_not.mp g5) rfl dX3_readsMinds_18
theorem c_X3_readsMinds_2 {N : Nat} {σ : Sg} {z : Int32 × Sg} (hX : xOK g X) (hf : f_X3_readsMinds_2 N σ = some z) : MetI l yX3_readsMinds (Cond.code yX3_readsMinds cX3_readsMinds 1 (some .boolean) :: wsA) rm_X3_readsMinds_2 cw g X [.ref (g.2.2 2)] σ z.1 z.2 :=
  MetI_of hX (by decide) (Nat.le_of_ble_eq_true rfl) (fun p e s m args below meth c A C => b_X3_readsMinds_2 C hf)
end GEN
