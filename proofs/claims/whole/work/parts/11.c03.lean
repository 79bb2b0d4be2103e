section GEN
variable {p : Program} {l : Launch} {e : Env} {s : State} {m : MethodId} {args : Array Value} {below : List Frame} {meth : Method} {c : Code} {g : WG} {A : Nat → Prop} {X : Xt} {Q : State → Prop}
-- X2_firstNod_55: firstNod(I)I
abbrev rm_X2_firstNod_55 : Room := { frames := 6, cells := 0, slots := 0, locals := 140 }
theorem nd_X2_firstNod : yX2_firstNod.cls ≠ "java/lang/invoke/MethodHandle" ∧ yX2_firstNod.cls ≠ "java/lang/invoke/VarHandle" ∧ (parseMethodDescriptor yX2_firstNod.desc).map (fun d => d.parameters.length) = some 1 := by decide +kernel
def s_X2_firstNod_55_h2 (N : Nat) (x1 : Int32) (x2 : Int32) (σ : Sg) : Option (Nat × Int32 × Sg) :=
if (60 : Int32) < x2 then (some (2, 0, σ))
else ((f_X2_go_55 N σ).bind fun q1 =>
if ((q1.1 >>> (x1 &&& 31)) &&& (1 : Int32)) = (1 : Int32) then (some (1, x2, (q1.2)))
else (bd (x2 + (1 : Int32)) fun v2 =>
some (0, v2, (q1.2))))
set_option maxHeartbeats 4000000 in
set_option maxRecDepth 100000 in
theorem e_X2_firstNod_55_h2 {N : Nat} {x1 : Int32} {x2 : Int32} {σ : Sg} {z : Nat × Int32 × Sg} (C : Cx p s m args meth c cX2_firstNod 3 (some .int) RX2 g A X) (hf : s_X2_firstNod_55_h2 N x1 x2 σ = some z) (k0 : z.1 = 0 → Bk cw p l e rm_X2_firstNod_55 s m args below meth c 3 g A Q 0 0 2 [(0, .ref (g.2.2 55)), (1, .int x1), (2, .int z.2.1)] [] z.2.2) (k : ¬ z.1 = 0 → ((z.1 = 1 → Bk cw p l e rm_X2_firstNod_55 s m args below meth c 3 g A Q 0 0 20 [(2, .int z.2.1)] [] z.2.2) ∧ (¬ z.1 = 1 → Bk cw p l e rm_X2_firstNod_55 s m args below meth c 3 g A Q 0 0 28 [] [] z.2.2))) : Bk cw p l e rm_X2_firstNod_55 s m args below meth c 3 g A Q 0 0 2 [(0, .ref (g.2.2 55)), (1, .int x1), (2, .int x2)] [] σ := by
  obtain ⟨hx, hb, hr, hml, hown, hts, hK, hlocks, hXX, hA, hXo⟩ := id C
  intro H locs ls hP hD hS hl
  unfold s_X2_firstNod_55_h2 at hf
  refine lv_iload_n hx hb dX2_firstNod_2 rfl (lv_at hl 2 rfl) ?_
  refine lv_bipush (v := (60 : Int32)) hx hb dX2_firstNod_3 (by decide) ?_
  refine lv_icmp_gt (tgt := 28) hx hb dX2_firstNod_5 (by decide) (fun t5 => ?_) (fun t5 => ?_)
  · have hf := (if_pos t5).symm.trans hf
    cases hf
    exact ((k (show ¬ (2 : Nat) = 0 by decide)).2 (show ¬ (2 : Nat) = 1 by decide)) H locs ls hP hD hS (lv_sub hl [] rfl)
  · have hf := (if_neg t5).symm.trans hf
    refine lv_aload_n hx hb dX2_firstNod_8 rfl (lv_at hl 0 rfl) ?_
    obtain ⟨q1, hq1, hf⟩ := bi_s hf
    refine bk_VI (wf := cw) (q0 := 55) (ci := 2) (rest := []) [] C hP hD hS hl.1 (c_X2_go_55 hXo hq1) (cwA_V 0 hts wa_833 wa_1051 wa_831 wa_832 wa_41 rfl rfl nd_X2_go ⟨Nat.le_of_ble_eq_true rfl, Nat.le_of_ble_eq_true rfl⟩) rfl rfl rfl rfl (Nat.le_of_ble_eq_true rfl) dX2_firstNod_9 ⟨Nat.le_of_ble_eq_true rfl, Nat.le_of_ble_eq_true rfl⟩ (fun H locs hP hD hS => ?_)
    refine lv_iload_n hx hb dX2_firstNod_12 rfl (lv_at hl 1 rfl) ?_
    refine lv_ishr hx hb dX2_firstNod_13 ?_
    refine lv_iconst (v := (1 : Int32)) hx hb dX2_firstNod_14 (by decide) ?_
    refine lv_iand hx hb dX2_firstNod_15 ?_
    refine lv_iconst (v := (1 : Int32)) hx hb dX2_firstNod_16 (by decide) ?_
    refine lv_icmp_ne (tgt := 22) hx hb dX2_firstNod_17 (by decide) (fun t17 => ?_) (fun t17 => ?_)
    · have hf := (if_neg t17).symm.trans hf
      obtain ⟨v2, ev2, hf⟩ := bd_s hf
      refine lv_iinc (v := v2) (lv' := [(2, .int v2), (0, .ref (g.2.2 55)), (1, .int x1)]) hx hb dX2_firstNod_22 hl (k := 2) rfl (by rw [ev2]; rfl) (by decide) rfl (fun ls hl => ?_)
      refine lv_goto (tgt := 2) hx hb dX2_firstNod_25 (by decide) ?_
      cases hf
      exact k0 rfl H locs ls hP hD hS (lv_sub hl [1, 2, 0] rfl)
    · have hf := (if_pos t17).symm.trans hf
      cases hf
      exact ((k (show ¬ (1 : Nat) = 0 by decide)).1 rfl) H locs ls hP hD hS (lv_sub hl [2] rfl)
theorem lp_X2_firstNod_55_h2 {N n : Nat} {x1 : Int32} {x2 : Int32} {σ : Sg} {z : Nat × Int32 × Sg} (C : Cx p s m args meth c cX2_firstNod 3 (some .int) RX2 g A X) (hz : it (fun q => s_X2_firstNod_55_h2 N x1 q.1 q.2) n (x2, σ) = some z) (k : ((z.1 = 1 → Bk cw p l e rm_X2_firstNod_55 s m args below meth c 3 g A Q 0 0 20 [(2, .int z.2.1)] [] z.2.2) ∧ (¬ z.1 = 1 → Bk cw p l e rm_X2_firstNod_55 s m args below meth c 3 g A Q 0 0 28 [] [] z.2.2))) : Bk cw p l e rm_X2_firstNod_55 s m args below meth c 3 g A Q 0 0 2 [(0, .ref (g.2.2 55)), (1, .int x1), (2, .int x2)] [] σ :=
  it_W (S := Int32 × Sg) (fun q => Bk cw p l e rm_X2_firstNod_55 s m args below meth c 3 g A Q 0 0 2 [(0, .ref (g.2.2 55)), (1, .int x1), (2, .int q.1)] [] q.2) (fun z => ((z.1 = 1 → Bk cw p l e rm_X2_firstNod_55 s m args below meth c 3 g A Q 0 0 20 [(2, .int z.2.1)] [] z.2.2) ∧ (¬ z.1 = 1 → Bk cw p l e rm_X2_firstNod_55 s m args below meth c 3 g A Q 0 0 28 [] [] z.2.2))) (fun q z hq k0 k => e_X2_firstNod_55_h2 C hq k0 k) n (x2, σ) z hz k
def f_X2_firstNod_55 (N : Nat) (x1 : Int32) (σ : Sg) : Option (Int32 × Sg) :=
(it (fun q => s_X2_firstNod_55_h2 N x1 q.1 q.2) N ((1 : Int32), σ)).bind fun z3 =>
if z3.1 = 1 then (some ((z3.2.1), (z3.2.2)))
else (some ((-1 : Int32), (z3.2.2)))
set_option maxHeartbeats 4000000 in
set_option maxRecDepth 100000 in
theorem b_X2_firstNod_55 {N : Nat} {x1 : Int32} {σ : Sg} {z : Int32 × Sg} (C : Cx p s m args meth c cX2_firstNod 3 (some .int) RX2 g A X) (hf : f_X2_firstNod_55 N x1 σ = some z) : Bk cw p l e rm_X2_firstNod_55 s m args below meth c 3 g A (MQ below (qI cw g A z.1 z.2) args s 0 0 A) 0 0 0 [(0, .ref (g.2.2 55)), (1, .int x1)] [] σ := by
  obtain ⟨hx, hb, hr, hml, hown, hts, hK, hlocks, hXX, hA, hXo⟩ := id C
  intro H locs ls hP hD hS hl
  unfold f_X2_firstNod_55 at hf
  refine lv_iconst (v := (1 : Int32)) hx hb dX2_firstNod_0 (by decide) ?_
  refine lv_istore_n (lv' := [(2, .int (1 : Int32)), (0, .ref (g.2.2 55)), (1, .int x1)]) hx hb dX2_firstNod_1 rfl hl (by decide) rfl (fun ls hl => ?_)
  obtain ⟨z3, hz3, hf⟩ := bi_s hf
  refine lp_X2_firstNod_55_h2 C hz3 ⟨fun t0 => ?_, fun t0 => ?_⟩ H locs ls hP hD hS (lv_sub hl [1, 2, 0] rfl)
  · have hf := (if_pos t0).symm.trans hf
    intro H locs ls hP hD hS hl
    refine lv_iload_n hx hb dX2_firstNod_20 rfl (lv_at hl 0 rfl) ?_
    cases hf
    exact bk_iret C hP hD hS rfl dX2_firstNod_21
  · have hf := (if_neg t0).symm.trans hf
    intro H locs ls hP hD hS hl
    refine lv_iconst (v := (-1 : Int32)) hx hb dX2_firstNod_28 (by decide) ?_
    cases hf
    exact bk_iret C hP hD hS rfl dX2_firstNod_29
theorem c_X2_firstNod_55 {N : Nat} {x1 : Int32} {σ : Sg} {z : Int32 × Sg} (hX : xOK g X) (hf : f_X2_firstNod_55 N x1 σ = some z) : MetI l yX2_firstNod (Cond.code yX2_firstNod cX2_firstNod 3 (some .int) :: wsA) rm_X2_firstNod_55 cw g X [.ref (g.2.2 55), .int x1] σ z.1 z.2 :=
  MetI_of hX (by decide) (Nat.le_of_ble_eq_true rfl) (fun p e s m args below meth c A C => b_X2_firstNod_55 C hf)
-- X11_first_0: first(I)I
abbrev rm_X11_first_0 : Room := { frames := 7, cells := 1, slots := 6, locals := 162 }
theorem nd_X11_first : yX11_first.cls ≠ "java/lang/invoke/MethodHandle" ∧ yX11_first.cls ≠ "java/lang/invoke/VarHandle" ∧ (parseMethodDescriptor yX11_first.desc).map (fun d => d.parameters.length) = some 1 := by decide +kernel
def f_X11_first_0 (N : Nat) (x1 : Int32) (σ : Sg) : Option (Zt) :=
(f_X11_needFarm_0 N x1 σ).bind fun q1 =>
if q1.1 = 0 then ((f_X2_start_55_22 N (q1.2.2)).bind fun q2 =>
(f_X2_firstNod_55 N x1 q2).bind fun q3 =>
some (0, q3.1, (q3.2)))
else some (q1.1, 0, q1.2.2)
set_option maxHeartbeats 4000000 in
set_option maxRecDepth 100000 in
theorem b_X11_first_0 {N : Nat} {x1 : Int32} {σ : Sg} {z : Zt} (C : Cx p s m args meth c cX11_first 2 (some .int) RX11 g A X) (hex : ∀ x ∈ c.exceptionTable.toList, False) (hst : l.stackTraces = false) (hf : f_X11_first_0 N x1 σ = some z) : Bk cw p l e rm_X11_first_0 s m args below meth c 2 g A (vx_MQ below (qTi cw g A z) (xT cw g A z) args s 1 6 A) 0 0 0 [(0, .ref (g.2.2 0)), (1, .int x1)] [] σ := by
  obtain ⟨hx, hb, hr, hml, hown, hts, hK, hlocks, hXX, hA, hXo⟩ := id C
  intro H locs ls hP hD hS hl
  unfold f_X11_first_0 at hf
  refine lv_aload_n hx hb dX11_first_0 rfl (lv_at hl 0 rfl) ?_
  refine lv_iload_n hx hb dX11_first_1 rfl (lv_at hl 1 rfl) ?_
  obtain ⟨q1, hq1, hf⟩ := bi_s hf
  refine bk_TV (wf := cw) (q0 := 0) (ci := 10) (rest := []) [.int x1] C hex hP hD hS hl.1 (c_X11_needFarm_0 hXo hst hq1) (cwA_V 1 hts wa_791 wa_788 wa_789 wa_790 wa_2 rfl rfl nd_X11_needFarm ⟨Nat.le_of_ble_eq_true rfl, Nat.le_of_ble_eq_true rfl⟩) rfl rfl rfl rfl (Nat.le_of_ble_eq_true rfl) dX11_first_2 ⟨Nat.le_of_ble_eq_true rfl, Nat.le_of_ble_eq_true rfl⟩ ⟨Nat.le_of_ble_eq_true rfl, Nat.le_of_ble_eq_true rfl⟩ (fun h0 => by have hf := (if_neg h0).symm.trans hf; cases hf; exact ⟨rfl, rfl⟩) (fun h0 H locs hP hD hS => ?_)
  have hf := (if_pos h0).symm.trans hf
  refine lv_aload_n hx hb dX11_first_5 rfl (lv_at hl 0 rfl) ?_
  refine bk_get (wf := cw) (q0 := 0) (ci := 10) (k := 10) (v := .ref (g.2.2 55)) C hP wl_X11 rfl rfl (by decide) wa_42 rfl rfl dX11_first_6 ?_
  refine lv_aload_n hx hb dX11_first_9 rfl (lv_at hl 0 rfl) ?_
  refine bk_get (wf := cw) (q0 := 0) (ci := 10) (k := 4) (v := .ref (g.2.2 21)) C hP wl_X11 rfl rfl (by decide) wa_27 rfl rfl dX11_first_10 ?_
  refine bk_get (wf := cw) (q0 := 21) (ci := 1) (k := 0) (v := .ref (g.2.2 22)) C hP wl_X1 rfl rfl (by decide) wa_221 rfl rfl dX11_first_13 ?_
  obtain ⟨q2, hq2, hf⟩ := bi_s hf
  refine bk_VV (wf := cw) (q0 := 55) (ci := 2) (rest := []) [.ref (g.2.2 22)] C hP hD hS hl.1 (c_X2_start_55_22 hXo hq2) (cwA_V 1 hts wa_825 wa_822 wa_823 wa_824 wa_41 rfl rfl nd_X2_start ⟨Nat.le_of_ble_eq_true rfl, Nat.le_of_ble_eq_true rfl⟩) rfl rfl rfl rfl (Nat.le_of_ble_eq_true rfl) dX11_first_16 ⟨Nat.le_of_ble_eq_true rfl, Nat.le_of_ble_eq_true rfl⟩ (fun H locs hP hD hS => ?_)
  refine lv_aload_n hx hb dX11_first_19 rfl (lv_at hl 0 rfl) ?_
  refine bk_get (wf := cw) (q0 := 0) (ci := 10) (k := 10) (v := .ref (g.2.2 55)) C hP wl_X11 rfl rfl (by decide) wa_42 rfl rfl dX11_first_20 ?_
  refine lv_iload_n hx hb dX11_first_23 rfl (lv_at hl 1 rfl) ?_
  obtain ⟨q3, hq3, hf⟩ := bi_s hf
  refine bk_VI (wf := cw) (q0 := 55) (ci := 2) (rest := []) [.int x1] C hP hD hS hl.1 (c_X2_firstNod_55 hXo hq3) (cwA_V 1 hts wa_1050 wa_1047 wa_1048 wa_1049 wa_41 rfl rfl nd_X2_firstNod ⟨Nat.le_of_ble_eq_true rfl, Nat.le_of_ble_eq_true rfl⟩) rfl rfl rfl rfl (Nat.le_of_ble_eq_true rfl) dX11_first_24 ⟨Nat.le_of_ble_eq_true rfl, Nat.le_of_ble_eq_true rfl⟩ (fun H locs hP hD hS => ?_)
  exact bk_iretT C hP hD hS hf (Nat.le_of_ble_eq_true rfl) (Nat.le_of_ble_eq_true rfl) dX11_first_27
theorem c_X11_first_0 {N : Nat} {x1 : Int32} {σ : Sg} {z : Zt} (hX : xOK g X) (hst : l.stackTraces = false) (hf : f_X11_first_0 N x1 σ = some z) : MetTi l yX11_first (Cond.code yX11_first cX11_first 2 (some .int) :: wsA) rm_X11_first_0 1 6 cw g X [.ref (g.2.2 0), .int x1] σ z :=
  MetTi_of hX (by decide) (Nat.le_of_ble_eq_true rfl) (fun p e s m args below meth c A C hex => b_X11_first_0 C hex hst hf)
-- X7_whoWaits_56: whoWaits()I
abbrev rm_X7_whoWaits_56 : Room := { frames := 0, cells := 0, slots := 0, locals := 0 }
def f_X7_whoWaits_56_b25 (N : Nat) (x1 : Int32) (x2 : Int32) (σ : Sg) : Option (Nat × Int32 × Int32 × Sg) :=
bd (x2 + (1 : Int32)) fun v1 =>
some (0, x1, v1, σ)
set_option maxHeartbeats 4000000 in
set_option maxRecDepth 100000 in
theorem b_X7_whoWaits_56_b25 {N : Nat} {x1 : Int32} {x2 : Int32} {σ : Sg} {z : Nat × Int32 × Int32 × Sg} (C : Cx p s m args meth c cX7_whoWaits 3 (some .int) RX7 g A X) (hf : f_X7_whoWaits_56_b25 N x1 x2 σ = some z) (k0 : z.1 = 0 → Bk cw p l e rm_X7_whoWaits_56 s m args below meth c 3 g A Q 0 0 4 [(0, .ref (g.2.2 56)), (1, .int z.2.1), (2, .int z.2.2.1)] [] z.2.2.2) (k : ¬ z.1 = 0 → Bk cw p l e rm_X7_whoWaits_56 s m args below meth c 3 g A Q 0 0 31 [(1, .int z.2.1)] [] z.2.2.2) : Bk cw p l e rm_X7_whoWaits_56 s m args below meth c 3 g A Q 0 0 25 [(0, .ref (g.2.2 56)), (1, .int x1), (2, .int x2)] [] σ := by
  obtain ⟨hx, hb, hr, hml, hown, hts, hK, hlocks, hXX, hA, hXo⟩ := id C
  intro H locs ls hP hD hS hl
  unfold f_X7_whoWaits_56_b25 at hf
  obtain ⟨v1, ev1, hf⟩ := bd_s hf
  refine lv_iinc (v := v1) (lv' := [(2, .int v1), (0, .ref (g.2.2 56)), (1, .int x1)]) hx hb dX7_whoWaits_25 hl (k := 2) rfl (by rw [ev1]; rfl) (by decide) rfl (fun ls hl => ?_)
  refine lv_goto (tgt := 4) hx hb dX7_whoWaits_28 (by decide) ?_
  cases hf
  exact k0 rfl H locs ls hP hD hS (lv_sub hl [1, 2, 0] rfl)
def s_X7_whoWaits_56_h4 (N : Nat) (x1 : Int32) (x2 : Int32) (σ : Sg) : Option (Nat × Int32 × Int32 × Sg) :=
if (9 : Int32) ≤ x2 then (some (1, x1, 0, σ))
else (if (x2 < 0 ∨ 9 ≤ x2.toNatClampNeg) then none else
if (σ 57 x2.toNatClampNeg) ≤ 0 then (f_X7_whoWaits_56_b25 N x1 x2 σ)
else (bd (x1 ||| ((1 : Int32) <<< (x2 &&& 31))) fun v3 =>
f_X7_whoWaits_56_b25 N v3 x2 σ))
set_option maxHeartbeats 4000000 in
set_option maxRecDepth 100000 in
theorem e_X7_whoWaits_56_h4 {N : Nat} {x1 : Int32} {x2 : Int32} {σ : Sg} {z : Nat × Int32 × Int32 × Sg} (C : Cx p s m args meth c cX7_whoWaits 3 (some .int) RX7 g A X) (hf : s_X7_whoWaits_56_h4 N x1 x2 σ = some z) (k0 : z.1 = 0 → Bk cw p l e rm_X7_whoWaits_56 s m args below meth c 3 g A Q 0 0 4 [(0, .ref (g.2.2 56)), (1, .int z.2.1), (2, .int z.2.2.1)] [] z.2.2.2) (k : ¬ z.1 = 0 → Bk cw p l e rm_X7_whoWaits_56 s m args below meth c 3 g A Q 0 0 31 [(1, .int z.2.1)] [] z.2.2.2) : Bk cw p l e rm_X7_whoWaits_56 s m args below meth c 3 g A Q 0 0 4 [(0, .ref (g.2.2 56)), (1, .int x1), (2, .int x2)] [] σ := by
  obtain ⟨hx, hb, hr, hml, hown, hts, hK, hlocks, hXX, hA, hXo⟩ := id C
  intro H locs ls hP hD hS hl
  unfold s_X7_whoWaits_56_h4 at hf
  refine lv_iload_n hx hb dX7_whoWaits_4 rfl (lv_at hl 2 rfl) ?_
  refine lv_bipush (v := (9 : Int32)) hx hb dX7_whoWaits_5 (by decide) ?_
  refine lv_icmp_ge (tgt := 31) hx hb dX7_whoWaits_7 (by decide) (fun t7 => ?_) (fun t7 => ?_)
  · have hf := (if_pos t7).symm.trans hf
    cases hf
    exact (k (show ¬ (1 : Nat) = 0 by decide)) H locs ls hP hD hS (lv_sub hl [1] rfl)
  · have hf := (if_neg t7).symm.trans hf
    refine lv_aload_n hx hb dX7_whoWaits_10 rfl (lv_at hl 0 rfl) ?_
    refine bk_get (wf := cw) (q0 := 56) (ci := 7) (k := 2) (v := .ref (g.2.2 57)) C hP wl_X7 rfl rfl (by decide) wa_109 rfl rfl dX7_whoWaits_11 ?_
    refine lv_iload_n hx hb dX7_whoWaits_14 rfl (lv_at hl 2 rfl) ?_
    obtain ⟨g2, hf⟩ := gd_s hf
    refine bk_iald (wf := cw) (q0 := 57) (n := 9) (j := x2.toNatClampNeg) C hP rfl g2 rfl dX7_whoWaits_15 ?_
    refine lv_if_le (tgt := 25) hx hb dX7_whoWaits_16 (by decide) (fun t16 => ?_) (fun t16 => ?_)
    · have hf := (if_pos t16).symm.trans hf
      exact b_X7_whoWaits_56_b25 C hf k0 k H locs ls hP hD hS (lv_sub hl [0, 1, 2] rfl)
    · have hf := (if_neg t16).symm.trans hf
      refine lv_iload_n hx hb dX7_whoWaits_19 rfl (lv_at hl 1 rfl) ?_
      refine lv_iconst (v := (1 : Int32)) hx hb dX7_whoWaits_20 (by decide) ?_
      refine lv_iload_n hx hb dX7_whoWaits_21 rfl (lv_at hl 2 rfl) ?_
      refine lv_ishl hx hb dX7_whoWaits_22 ?_
      refine lv_ior hx hb dX7_whoWaits_23 ?_
      obtain ⟨v3, ev3, hf⟩ := bd_s hf
      rw [← ev3]
      refine lv_istore_n (lv' := [(1, .int v3), (0, .ref (g.2.2 56)), (2, .int x2)]) hx hb dX7_whoWaits_24 rfl hl (by decide) rfl (fun ls hl => ?_)
      exact b_X7_whoWaits_56_b25 C hf k0 k H locs ls hP hD hS (lv_sub hl [1, 0, 2] rfl)
theorem lp_X7_whoWaits_56_h4 {N n : Nat} {x1 : Int32} {x2 : Int32} {σ : Sg} {z : Nat × Int32 × Int32 × Sg} (C : Cx p s m args meth c cX7_whoWaits 3 (some .int) RX7 g A X) (hz : it (fun q => s_X7_whoWaits_56_h4 N q.1 q.2.1 q.2.2) n (x1, x2, σ) = some z) (k : Bk cw p l e rm_X7_whoWaits_56 s m args below meth c 3 g A Q 0 0 31 [(1, .int z.2.1)] [] z.2.2.2) : Bk cw p l e rm_X7_whoWaits_56 s m args below meth c 3 g A Q 0 0 4 [(0, .ref (g.2.2 56)), (1, .int x1), (2, .int x2)] [] σ :=
  it_W (S := Int32 × Int32 × Sg) (fun q => Bk cw p l e rm_X7_whoWaits_56 s m args below meth c 3 g A Q 0 0 4 [(0, .ref (g.2.2 56)), (1, .int q.1), (2, .int q.2.1)] [] q.2.2) (fun z => Bk cw p l e rm_X7_whoWaits_56 s m args below meth c 3 g A Q 0 0 31 [(1, .int z.2.1)] [] z.2.2.2) (fun q z hq k0 k => e_X7_whoWaits_56_h4 C hq k0 k) n (x1, x2, σ) z hz k
def f_X7_whoWaits_56 (N : Nat) (σ : Sg) : Option (Int32 × Sg) :=
(it (fun q => s_X7_whoWaits_56_h4 N q.1 q.2.1 q.2.2) N ((0 : Int32), (0 : Int32), σ)).bind fun z4 =>
some ((z4.2.1), (z4.2.2.2))
set_option maxHeartbeats 4000000 in
set_option maxRecDepth 100000 in
theorem b_X7_whoWaits_56 {N : Nat} {σ : Sg} {z : Int32 × Sg} (C : Cx p s m args meth c cX7_whoWaits 3 (some .int) RX7 g A X) (hf : f_X7_whoWaits_56 N σ = some z) : Bk cw p l e rm_X7_whoWaits_56 s m args below meth c 3 g A (MQ below (qI cw g A z.1 z.2) args s 0 0 A) 0 0 0 [(0, .ref (g.2.2 56))] [] σ := by
  obtain ⟨hx, hb, hr, hml, hown, hts, hK, hlocks, hXX, hA, hXo⟩ := id C
  intro H locs ls hP hD hS hl
  unfold f_X7_whoWaits_56 at hf
  refine lv_iconst (v := (0 : Int32)) hx hb dX7_whoWaits_0 (by decide) ?_
  refine lv_istore_n (lv' := [(1, .int (0 : Int32)), (0, .ref (g.2.2 56))]) hx hb dX7_whoWaits_1 rfl hl (by decide) rfl (fun ls hl => ?_)
  refine lv_iconst (v := (0 : Int32)) hx hb dX7_whoWaits_2 (by decide) ?_
  refine lv_istore_n (lv' := [(2, .int (0 : Int32)), (1, .int (0 : Int32)), (0, .ref (g.2.2 56))]) hx hb dX7_whoWaits_3 rfl hl (by decide) rfl (fun ls hl => ?_)
  obtain ⟨z4, hz4, hf⟩ := bi_s hf
  refine lp_X7_whoWaits_56_h4 C hz4 ?_ H locs ls hP hD hS (lv_sub hl [2, 1, 0] rfl)
  intro H locs ls hP hD hS hl
  refine lv_iload_n hx hb dX7_whoWaits_31 rfl (lv_at hl 0 rfl) ?_
  cases hf
  exact bk_iret C hP hD hS rfl dX7_whoWaits_32
theorem c_X7_whoWaits_56 {N : Nat} {σ : Sg} {z : Int32 × Sg} (hX : xOK g X) (hf : f_X7_whoWaits_56 N σ = some z) : MetI l yX7_whoWaits (Cond.code yX7_whoWaits cX7_whoWaits 3 (some .int) :: wsA) rm_X7_whoWaits_56 cw g X [.ref (g.2.2 56)] σ z.1 z.2 :=
  MetI_of hX (by decide) (Nat.le_of_ble_eq_true rfl) (fun p e s m args below meth c A C => b_X7_whoWaits_56 C hf)
-- X11_still_0: still()I
abbrev rm_X11_still_0 : Room := { frames := 6, cells := 0, slots := 0, locals := 144 }
theorem nd_X11_still : yX11_still.cls ≠ "java/lang/invoke/MethodHandle" ∧ yX11_still.cls ≠ "java/lang/invoke/VarHandle" ∧ (parseMethodDescriptor yX11_still.desc).map (fun d => d.parameters.length) = some 0 := by decide +kernel
def s_X11_still_0_h16 (N : Nat) (x1 : Int32) (σ : Sg) : Option (Nat × Int32 × Sg) :=
if (60 : Int32) < x1 then (some (2, 0, σ))
else ((f_X7_whoWaits_56 N σ).bind fun q1 =>
if q1.1 = 0 then (some (1, x1, (q1.2)))
else ((f_X2_go_55 N (q1.2)).bind fun q2 =>
bd (x1 + (1 : Int32)) fun v3 =>
some (0, v3, (q2.2))))
set_option maxHeartbeats 4000000 in
set_option maxRecDepth 100000 in
theorem e_X11_still_0_h16 {N : Nat} {x1 : Int32} {σ : Sg} {z : Nat × Int32 × Sg} (C : Cx p s m args meth c cX11_still 2 (some .int) RX11 g A X) (hf : s_X11_still_0_h16 N x1 σ = some z) (k0 : z.1 = 0 → Bk cw p l e rm_X11_still_0 s m args below meth c 2 g A Q 0 0 16 [(0, .ref (g.2.2 0)), (1, .int z.2.1)] [] z.2.2) (k : ¬ z.1 = 0 → ((z.1 = 1 → Bk cw p l e rm_X11_still_0 s m args below meth c 2 g A Q 0 0 35 [(1, .int z.2.1)] [] z.2.2) ∧ (¬ z.1 = 1 → Bk cw p l e rm_X11_still_0 s m args below meth c 2 g A Q 0 0 51 [] [] z.2.2))) : Bk cw p l e rm_X11_still_0 s m args below meth c 2 g A Q 0 0 16 [(0, .ref (g.2.2 0)), (1, .int x1)] [] σ := by
  obtain ⟨hx, hb, hr, hml, hown, hts, hK, hlocks, hXX, hA, hXo⟩ := id C
  intro H locs ls hP hD hS hl
  unfold s_X11_still_0_h16 at hf
  refine lv_iload_n hx hb dX11_still_16 rfl (lv_at hl 1 rfl) ?_
  refine lv_bipush (v := (60 : Int32)) hx hb dX11_still_17 (by decide) ?_
  refine lv_icmp_gt (tgt := 51) hx hb dX11_still_19 (by decide) (fun t19 => ?_) (fun t19 => ?_)
  · have hf := (if_pos t19).symm.trans hf
    cases hf
    exact ((k (show ¬ (2 : Nat) = 0 by decide)).2 (show ¬ (2 : Nat) = 1 by decide)) H locs ls hP hD hS (lv_sub hl [] rfl)
  · have hf := (if_neg t19).symm.trans hf
    refine lv_aload_n hx hb dX11_still_22 rfl (lv_at hl 0 rfl) ?_
    refine bk_get (wf := cw) (q0 := 0) (ci := 10) (k := 10) (v := .ref (g.2.2 55)) C hP wl_X11 rfl rfl (by decide) wa_42 rfl rfl dX11_still_23 ?_
    refine bk_get (wf := cw) (q0 := 55) (ci := 2) (k := 0) (v := .ref (g.2.2 56)) C hP wl_X2 rfl rfl (by decide) wa_808 rfl rfl dX11_still_26 ?_
    obtain ⟨q1, hq1, hf⟩ := bi_s hf
    refine bk_VI (wf := cw) (q0 := 56) (ci := 7) (rest := []) [] C hP hD hS hl.1 (c_X7_whoWaits_56 hXo hq1) (cwA_V 0 hts wa_662 wa_659 wa_660 wa_661 wa_93 rfl rfl nd_X7_whoWaits ⟨Nat.le_of_ble_eq_true rfl, Nat.le_of_ble_eq_true rfl⟩) rfl rfl rfl rfl (Nat.le_of_ble_eq_true rfl) dX11_still_29 ⟨Nat.le_of_ble_eq_true rfl, Nat.le_of_ble_eq_true rfl⟩ (fun H locs hP hD hS => ?_)
    refine lv_if_ne (tgt := 37) hx hb dX11_still_32 (by decide) (fun t32 => ?_) (fun t32 => ?_)
    · have hf := (if_neg t32).symm.trans hf
      refine lv_aload_n hx hb dX11_still_37 rfl (lv_at hl 0 rfl) ?_
      refine bk_get (wf := cw) (q0 := 0) (ci := 10) (k := 10) (v := .ref (g.2.2 55)) C hP wl_X11 rfl rfl (by decide) wa_42 rfl rfl dX11_still_38 ?_
      obtain ⟨q2, hq2, hf⟩ := bi_s hf
      refine bk_VI (wf := cw) (q0 := 55) (ci := 2) (rest := []) [] C hP hD hS hl.1 (c_X2_go_55 hXo hq2) (cwA_V 0 hts wa_833 wa_830 wa_831 wa_832 wa_41 rfl rfl nd_X2_go ⟨Nat.le_of_ble_eq_true rfl, Nat.le_of_ble_eq_true rfl⟩) rfl rfl rfl rfl (Nat.le_of_ble_eq_true rfl) dX11_still_41 ⟨Nat.le_of_ble_eq_true rfl, Nat.le_of_ble_eq_true rfl⟩ (fun H locs hP hD hS => ?_)
      refine lv_pop hx hb dX11_still_44 rfl ?_
      obtain ⟨v3, ev3, hf⟩ := bd_s hf
      refine lv_iinc (v := v3) (lv' := [(1, .int v3), (0, .ref (g.2.2 0))]) hx hb dX11_still_45 hl (k := 1) rfl (by rw [ev3]; rfl) (by decide) rfl (fun ls hl => ?_)
      refine lv_goto (tgt := 16) hx hb dX11_still_48 (by decide) ?_
      cases hf
      exact k0 rfl H locs ls hP hD hS (lv_sub hl [1, 0] rfl)
    · have hf := (if_pos t32).symm.trans hf
      cases hf
      exact ((k (show ¬ (1 : Nat) = 0 by decide)).1 rfl) H locs ls hP hD hS (lv_sub hl [1] rfl)
theorem lp_X11_still_0_h16 {N n : Nat} {x1 : Int32} {σ : Sg} {z : Nat × Int32 × Sg} (C : Cx p s m args meth c cX11_still 2 (some .int) RX11 g A X) (hz : it (fun q => s_X11_still_0_h16 N q.1 q.2) n (x1, σ) = some z) (k : ((z.1 = 1 → Bk cw p l e rm_X11_still_0 s m args below meth c 2 g A Q 0 0 35 [(1, .int z.2.1)] [] z.2.2) ∧ (¬ z.1 = 1 → Bk cw p l e rm_X11_still_0 s m args below meth c 2 g A Q 0 0 51 [] [] z.2.2))) : Bk cw p l e rm_X11_still_0 s m args below meth c 2 g A Q 0 0 16 [(0, .ref (g.2.2 0)), (1, .int x1)] [] σ :=
  it_W (S := Int32 × Sg) (fun q => Bk cw p l e rm_X11_still_0 s m args below meth c 2 g A Q 0 0 16 [(0, .ref (g.2.2 0)), (1, .int q.1)] [] q.2) (fun z => ((z.1 = 1 → Bk cw p l e rm_X11_still_0 s m args below meth c 2 g A Q 0 0 35 [(1, .int z.2.1)] [] z.2.2) ∧ (¬ z.1 = 1 → Bk cw p l e rm_X11_still_0 s m args below meth c 2 g A Q 0 0 51 [] [] z.2.2))) (fun q z hq k0 k => e_X11_still_0_h16 C hq k0 k) n (x1, σ) z hz k
def f_X11_still_0 (N : Nat) (σ : Sg) : Option (Int32 × Sg) :=
(f_X2_start_55_22 N σ).bind fun q4 =>
(it (fun q => s_X11_still_0_h16 N q.1 q.2) N ((0 : Int32), q4)).bind fun z5 =>
if z5.1 = 1 then (some ((z5.2.1), (z5.2.2)))
else (some ((-1 : Int32), (z5.2.2)))
set_option maxHeartbeats 4000000 in
set_option maxRecDepth 100000 in
theorem b_X11_still_0 {N : Nat} {σ : Sg} {z : Int32 × Sg} (C : Cx p s m args meth c cX11_still 2 (some .int) RX11 g A X) (hf : f_X11_still_0 N σ = some z) : Bk cw p l e rm_X11_still_0 s m args below meth c 2 g A (MQ below (qI cw g A z.1 z.2) args s 0 0 A) 0 0 0 [(0, .ref (g.2.2 0))] [] σ := by
  obtain ⟨hx, hb, hr, hml, hown, hts, hK, hlocks, hXX, hA, hXo⟩ := id C
  intro H locs ls hP hD hS hl
  unfold f_X11_still_0 at hf
  refine lv_aload_n hx hb dX11_still_0 rfl (lv_at hl 0 rfl) ?_
  refine bk_get (wf := cw) (q0 := 0) (ci := 10) (k := 10) (v := .ref (g.2.2 55)) C hP wl_X11 rfl rfl (by decide) wa_42 rfl rfl dX11_still_1 ?_
  refine lv_aload_n hx hb dX11_still_4 rfl (lv_at hl 0 rfl) ?_
  refine bk_get (wf := cw) (q0 := 0) (ci := 10) (k := 4) (v := .ref (g.2.2 21)) C hP wl_X11 rfl rfl (by decide) wa_27 rfl rfl dX11_still_5 ?_
  refine bk_get (wf := cw) (q0 := 21) (ci := 1) (k := 0) (v := .ref (g.2.2 22)) C hP wl_X1 rfl rfl (by decide) wa_221 rfl rfl dX11_still_8 ?_
  obtain ⟨q4, hq4, hf⟩ := bi_s hf
  refine bk_VV (wf := cw) (q0 := 55) (ci := 2) (rest := []) [.ref (g.2.2 22)] C hP hD hS hl.1 (c_X2_start_55_22 hXo hq4) (cwA_V 1 hts wa_825 wa_822 wa_823 wa_824 wa_41 rfl rfl nd_X2_start ⟨Nat.le_of_ble_eq_true rfl, Nat.le_of_ble_eq_true rfl⟩) rfl rfl rfl rfl (Nat.le_of_ble_eq_true rfl) dX11_still_11 ⟨Nat.le_of_ble_eq_true rfl, Nat.le_of_ble_eq_true rfl⟩ (fun H locs hP hD hS => ?_)
  refine lv_iconst (v := (0 : Int32)) hx hb dX11_still_14 (by decide) ?_
  refine lv_istore_n (lv' := [(1, .int (0 : Int32)), (0, .ref (g.2.2 0))]) hx hb dX11_still_15 rfl hl (by decide) rfl (fun ls hl => ?_)
  obtain ⟨z5, hz5, hf⟩ := bi_s hf
  refine lp_X11_still_0_h16 C hz5 ⟨fun t0 => ?_, fun t0 => ?_⟩ H locs ls hP hD hS (lv_sub hl [1, 0] rfl)
  · have hf := (if_pos t0).symm.trans hf
    intro H locs ls hP hD hS hl
    refine lv_iload_n hx hb dX11_still_35 rfl (lv_at hl 0 rfl) ?_
    cases hf
    exact bk_iret C hP hD hS rfl dX11_still_36
  · have hf := (if_neg t0).symm.trans hf
    intro H locs ls hP hD hS hl
    refine lv_iconst (v := (-1 : Int32)) hx hb dX11_still_51 (by decide) ?_
    cases hf
    exact bk_iret C hP hD hS rfl dX11_still_52
theorem c_X11_still_0 {N : Nat} {σ : Sg} {z : Int32 × Sg} (hX : xOK g X) (hf : f_X11_still_0 N σ = some z) : MetI l yX11_still (Cond.code yX11_still cX11_still 2 (some .int) :: wsA) rm_X11_still_0 cw g X [.ref (g.2.2 0)] σ z.1 z.2 :=
  MetI_of hX (by decide) (Nat.le_of_ble_eq_true rfl) (fun p e s m args below meth c A C => b_X11_still_0 C hf)
-- X11_loudest_0: loudest(I)I
abbrev rm_X11_loudest_0 : Room := { frames := 7, cells := 1, slots := 6, locals := 144 }
theorem nd_X11_loudest : yX11_loudest.cls ≠ "java/lang/invoke/MethodHandle" ∧ yX11_loudest.cls ≠ "java/lang/invoke/VarHandle" ∧ (parseMethodDescriptor yX11_loudest.desc).map (fun d => d.parameters.length) = some 1 := by decide +kernel
def f_X11_loudest_0_b58 (N : Nat) (x1 : Int32) (x2 : Int32) (x3 : Int32) (x4 : Int32) (σ : Sg) : Option (Nat × Int32 × Int32 × Int32 × Sg) :=
bd (x4 + (1 : Int32)) fun v1 =>
some (0, x2, x3, v1, σ)
set_option maxHeartbeats 4000000 in
set_option maxRecDepth 100000 in
theorem b_X11_loudest_0_b58 {N : Nat} {x1 : Int32} {x2 : Int32} {x3 : Int32} {x4 : Int32} {σ : Sg} {z : Nat × Int32 × Int32 × Int32 × Sg} (C : Cx p s m args meth c cX11_loudest 6 (some .int) RX11 g A X) (hex : ∀ x ∈ c.exceptionTable.toList, False) (hst : l.stackTraces = false) (hf : f_X11_loudest_0_b58 N x1 x2 x3 x4 σ = some z) (k0 : z.1 = 0 → Bk cw p l e rm_X11_loudest_0 s m args below meth c 6 g A Q 1 6 28 [(0, .ref (g.2.2 0)), (1, .int x1), (2, .int z.2.1), (3, .int z.2.2.1), (4, .int z.2.2.2.1)] [] z.2.2.2.2) (k : ¬ z.1 = 0 → Bk cw p l e rm_X11_loudest_0 s m args below meth c 6 g A Q 1 6 64 [(3, .int z.2.2.1)] [] z.2.2.2.2) : Bk cw p l e rm_X11_loudest_0 s m args below meth c 6 g A Q 1 6 58 [(0, .ref (g.2.2 0)), (1, .int x1), (2, .int x2), (3, .int x3), (4, .int x4)] [] σ := by
  obtain ⟨hx, hb, hr, hml, hown, hts, hK, hlocks, hXX, hA, hXo⟩ := id C
  intro H locs ls hP hD hS hl
  unfold f_X11_loudest_0_b58 at hf
  obtain ⟨v1, ev1, hf⟩ := bd_s hf
  refine lv_iinc (v := v1) (lv' := [(4, .int v1), (0, .ref (g.2.2 0)), (1, .int x1), (2, .int x2), (3, .int x3)]) hx hb dX11_loudest_58 hl (k := 4) rfl (by rw [ev1]; rfl) (by decide) rfl (fun ls hl => ?_)
  refine lv_goto (tgt := 28) hx hb dX11_loudest_61 (by decide) ?_
  cases hf
  exact k0 rfl H locs ls hP hD hS (lv_sub hl [1, 2, 3, 4, 0] rfl)
def s_X11_loudest_0_h28 (N : Nat) (x1 : Int32) (x2 : Int32) (x3 : Int32) (x4 : Int32) (σ : Sg) : Option (Nat × Int32 × Int32 × Int32 × Sg) :=
if x1 < x4 then (some (1, 0, x3, 0, σ))
else ((f_X2_go_55 N σ).bind fun q2 =>
(f_J6_bitCount_0f7a4 N q2.1 (q2.2)).bind fun q3 =>
bd q3.1 fun v4 =>
if v4 ≤ x2 then (f_X11_loudest_0_b58 N x1 x2 x3 x4 (q3.2))
else (f_X11_loudest_0_b58 N x1 v4 x4 x4 (q3.2)))
set_option maxHeartbeats 4000000 in
set_option maxRecDepth 100000 in
theorem e_X11_loudest_0_h28 {N : Nat} {x1 : Int32} {x2 : Int32} {x3 : Int32} {x4 : Int32} {σ : Sg} {z : Nat × Int32 × Int32 × Int32 × Sg} (C : Cx p s m args meth c cX11_loudest 6 (some .int) RX11 g A X) (hex : ∀ x ∈ c.exceptionTable.toList, False) (hst : l.stackTraces = false) (hf : s_X11_loudest_0_h28 N x1 x2 x3 x4 σ = some z) (k0 : z.1 = 0 → Bk cw p l e rm_X11_loudest_0 s m args below meth c 6 g A Q 1 6 28 [(0, .ref (g.2.2 0)), (1, .int x1), (2, .int z.2.1), (3, .int z.2.2.1), (4, .int z.2.2.2.1)] [] z.2.2.2.2) (k : ¬ z.1 = 0 → Bk cw p l e rm_X11_loudest_0 s m args below meth c 6 g A Q 1 6 64 [(3, .int z.2.2.1)] [] z.2.2.2.2) : Bk cw p l e rm_X11_loudest_0 s m args below meth c 6 g A Q 1 6 28 [(0, .ref (g.2.2 0)), (1, .int x1), (2, .int x2), (3, .int x3), (4, .int x4)] [] σ := by
  obtain ⟨hx, hb, hr, hml, hown, hts, hK, hlocks, hXX, hA, hXo⟩ := id C
  intro H locs ls hP hD hS hl
  unfold s_X11_loudest_0_h28 at hf
  refine lv_iload hx hb dX11_loudest_28 (lv_at hl 4 rfl) ?_
  refine lv_iload_n hx hb dX11_loudest_30 rfl (lv_at hl 1 rfl) ?_
  refine lv_icmp_gt (tgt := 64) hx hb dX11_loudest_31 (by decide) (fun t31 => ?_) (fun t31 => ?_)
  · have hf := (if_pos t31).symm.trans hf
    cases hf
    exact (k (show ¬ (1 : Nat) = 0 by decide)) H locs ls hP hD hS (lv_sub hl [3] rfl)
  · have hf := (if_neg t31).symm.trans hf
    refine lv_aload_n hx hb dX11_loudest_34 rfl (lv_at hl 0 rfl) ?_
    refine bk_get (wf := cw) (q0 := 0) (ci := 10) (k := 10) (v := .ref (g.2.2 55)) C hP wl_X11 rfl rfl (by decide) wa_42 rfl rfl dX11_loudest_35 ?_
    obtain ⟨q2, hq2, hf⟩ := bi_s hf
    refine bk_VI (wf := cw) (q0 := 55) (ci := 2) (rest := []) [] C hP hD hS hl.1 (c_X2_go_55 hXo hq2) (cwA_V 0 hts wa_833 wa_830 wa_831 wa_832 wa_41 rfl rfl nd_X2_go ⟨Nat.le_of_ble_eq_true rfl, Nat.le_of_ble_eq_true rfl⟩) rfl rfl rfl rfl (Nat.le_of_ble_eq_true rfl) dX11_loudest_38 ⟨Nat.le_of_ble_eq_true rfl, Nat.le_of_ble_eq_true rfl⟩ (fun H locs hP hD hS => ?_)
    obtain ⟨q3, hq3, hf⟩ := bi_s hf
    refine bk_SI (wf := cw) (rest := []) [.int q2.1] C hP hD hS hl.1 (c_J6_bitCount_0f7a4 hXo hq3) (cwA_S 1 hts wa_699 wa_1071 wa_697 wa_698 rfl rfl nd_J6_bitCount_0f7a4 ⟨Nat.le_of_ble_eq_true rfl, Nat.le_of_ble_eq_true rfl⟩) rfl rfl (Nat.le_of_ble_eq_true rfl) dX11_loudest_41 ⟨Nat.le_of_ble_eq_true rfl, Nat.le_of_ble_eq_true rfl⟩ (fun H locs hP hD hS => ?_)
    obtain ⟨v4, ev4, hf⟩ := bd_s hf
    rw [← ev4]
    refine lv_istore (lv' := [(5, .int v4), (0, .ref (g.2.2 0)), (1, .int x1), (2, .int x2), (3, .int x3), (4, .int x4)]) hx hb dX11_loudest_44 hl (by decide) rfl (fun ls hl => ?_)
    refine lv_iload hx hb dX11_loudest_46 (lv_at hl 0 rfl) ?_
    refine lv_iload_n hx hb dX11_loudest_48 rfl (lv_at hl 3 rfl) ?_
    refine lv_icmp_le (tgt := 58) hx hb dX11_loudest_49 (by decide) (fun t49 => ?_) (fun t49 => ?_)
    · have hf := (if_pos t49).symm.trans hf
      exact b_X11_loudest_0_b58 C hex hst hf k0 k H locs ls hP hD hS (lv_sub hl [1, 2, 3, 4, 5] rfl)
    · have hf := (if_neg t49).symm.trans hf
      refine lv_iload hx hb dX11_loudest_52 (lv_at hl 0 rfl) ?_
      refine lv_istore_n (lv' := [(2, .int v4), (5, .int v4), (0, .ref (g.2.2 0)), (1, .int x1), (3, .int x3), (4, .int x4)]) hx hb dX11_loudest_54 rfl hl (by decide) rfl (fun ls hl => ?_)
      refine lv_iload hx hb dX11_loudest_55 (lv_at hl 5 rfl) ?_
      refine lv_istore_n (lv' := [(3, .int x4), (2, .int v4), (5, .int v4), (0, .ref (g.2.2 0)), (1, .int x1), (4, .int x4)]) hx hb dX11_loudest_57 rfl hl (by decide) rfl (fun ls hl => ?_)
      exact b_X11_loudest_0_b58 C hex hst hf k0 k H locs ls hP hD hS (lv_sub hl [3, 4, 1, 0, 5] rfl)
theorem lp_X11_loudest_0_h28 {N n : Nat} {x1 : Int32} {x2 : Int32} {x3 : Int32} {x4 : Int32} {σ : Sg} {z : Nat × Int32 × Int32 × Int32 × Sg} (C : Cx p s m args meth c cX11_loudest 6 (some .int) RX11 g A X) (hex : ∀ x ∈ c.exceptionTable.toList, False) (hst : l.stackTraces = false) (hz : it (fun q => s_X11_loudest_0_h28 N x1 q.1 q.2.1 q.2.2.1 q.2.2.2) n (x2, x3, x4, σ) = some z) (k : Bk cw p l e rm_X11_loudest_0 s m args below meth c 6 g A Q 1 6 64 [(3, .int z.2.2.1)] [] z.2.2.2.2) : Bk cw p l e rm_X11_loudest_0 s m args below meth c 6 g A Q 1 6 28 [(0, .ref (g.2.2 0)), (1, .int x1), (2, .int x2), (3, .int x3), (4, .int x4)] [] σ :=
  it_W (S := Int32 × Int32 × Int32 × Sg) (fun q => Bk cw p l e rm_X11_loudest_0 s m args below meth c 6 g A Q 1 6 28 [(0, .ref (g.2.2 0)), (1, .int x1), (2, .int q.1), (3, .int q.2.1), (4, .int q.2.2.1)] [] q.2.2.2) (fun z => Bk cw p l e rm_X11_loudest_0 s m args below meth c 6 g A Q 1 6 64 [(3, .int z.2.2.1)] [] z.2.2.2.2) (fun q z hq k0 k => e_X11_loudest_0_h28 C hex hst hq k0 k) n (x2, x3, x4, σ) z hz k
def f_X11_loudest_0 (N : Nat) (x1 : Int32) (σ : Sg) : Option (Zt) :=
(f_X11_needWithin N x1 (1 : Int32) (60 : Int32) σ).bind fun q5 =>
if q5.1 = 0 then ((f_X2_start_55_22 N (q5.2.2)).bind fun q6 =>
(it (fun q => s_X11_loudest_0_h28 N x1 q.1 q.2.1 q.2.2.1 q.2.2.2) N ((-1 : Int32), (-1 : Int32), (1 : Int32), q6)).bind fun z7 =>
some (0, (z7.2.2.1), (z7.2.2.2.2)))
else some (q5.1, 0, q5.2.2)
set_option maxHeartbeats 4000000 in
set_option maxRecDepth 100000 in
theorem b_X11_loudest_0 {N : Nat} {x1 : Int32} {σ : Sg} {z : Zt} (C : Cx p s m args meth c cX11_loudest 6 (some .int) RX11 g A X) (hex : ∀ x ∈ c.exceptionTable.toList, False) (hst : l.stackTraces = false) (hf : f_X11_loudest_0 N x1 σ = some z) : Bk cw p l e rm_X11_loudest_0 s m args below meth c 6 g A (vx_MQ below (qTi cw g A z) (xT cw g A z) args s 1 6 A) 0 0 0 [(0, .ref (g.2.2 0)), (1, .int x1)] [] σ := by
  obtain ⟨hx, hb, hr, hml, hown, hts, hK, hlocks, hXX, hA, hXo⟩ := id C
  intro H locs ls hP hD hS hl
  unfold f_X11_loudest_0 at hf
  refine lv_iload_n hx hb dX11_loudest_0 rfl (lv_at hl 1 rfl) ?_
  refine lv_iconst (v := (1 : Int32)) hx hb dX11_loudest_1 (by decide) ?_
  refine lv_bipush (v := (60 : Int32)) hx hb dX11_loudest_2 (by decide) ?_
  obtain ⟨q5, hq5, hf⟩ := bi_s hf
  refine bk_TS (wf := cw) (rest := []) [.int x1, .int (1 : Int32), .int (60 : Int32)] C hex hP hD hS hl.1 (c_X11_needWithin hXo hst hq5) (cwA_S 3 hts wa_1020 wa_1018 wa_1019 wa_2 rfl rfl nd_X11_needWithin ⟨Nat.le_of_ble_eq_true rfl, Nat.le_of_ble_eq_true rfl⟩) rfl rfl (Nat.le_of_ble_eq_true rfl) dX11_loudest_4 ⟨Nat.le_of_ble_eq_true rfl, Nat.le_of_ble_eq_true rfl⟩ ⟨Nat.le_of_ble_eq_true rfl, Nat.le_of_ble_eq_true rfl⟩ (fun h0 => by have hf := (if_neg h0).symm.trans hf; cases hf; exact ⟨rfl, rfl⟩) (fun h0 H locs hP hD hS => ?_)
  have hf := (if_pos h0).symm.trans hf
  refine lv_aload_n hx hb dX11_loudest_7 rfl (lv_at hl 0 rfl) ?_
  refine bk_get (wf := cw) (q0 := 0) (ci := 10) (k := 10) (v := .ref (g.2.2 55)) C hP wl_X11 rfl rfl (by decide) wa_42 rfl rfl dX11_loudest_8 ?_
  refine lv_aload_n hx hb dX11_loudest_11 rfl (lv_at hl 0 rfl) ?_
  refine bk_get (wf := cw) (q0 := 0) (ci := 10) (k := 4) (v := .ref (g.2.2 21)) C hP wl_X11 rfl rfl (by decide) wa_27 rfl rfl dX11_loudest_12 ?_
  refine bk_get (wf := cw) (q0 := 21) (ci := 1) (k := 0) (v := .ref (g.2.2 22)) C hP wl_X1 rfl rfl (by decide) wa_221 rfl rfl dX11_loudest_15 ?_
  obtain ⟨q6, hq6, hf⟩ := bi_s hf
  refine bk_VV (wf := cw) (q0 := 55) (ci := 2) (rest := []) [.ref (g.2.2 22)] C hP hD hS hl.1 (c_X2_start_55_22 hXo hq6) (cwA_V 1 hts wa_825 wa_822 wa_823 wa_824 wa_41 rfl rfl nd_X2_start ⟨Nat.le_of_ble_eq_true rfl, Nat.le_of_ble_eq_true rfl⟩) rfl rfl rfl rfl (Nat.le_of_ble_eq_true rfl) dX11_loudest_18 ⟨Nat.le_of_ble_eq_true rfl, Nat.le_of_ble_eq_true rfl⟩ (fun H locs hP hD hS => ?_)
  refine lv_iconst (v := (-1 : Int32)) hx hb dX11_loudest_21 (by decide) ?_
  refine lv_istore_n (lv' := [(2, .int (-1 : Int32)), (0, .ref (g.2.2 0)), (1, .int x1)]) hx hb dX11_loudest_22 rfl hl (by decide) rfl (fun ls hl => ?_)
  refine lv_iconst (v := (-1 : Int32)) hx hb dX11_loudest_23 (by decide) ?_
  refine lv_istore_n (lv' := [(3, .int (-1 : Int32)), (2, .int (-1 : Int32)), (0, .ref (g.2.2 0)), (1, .int x1)]) hx hb dX11_loudest_24 rfl hl (by decide) rfl (fun ls hl => ?_)
  refine lv_iconst (v := (1 : Int32)) hx hb dX11_loudest_25 (by decide) ?_
  refine lv_istore (lv' := [(4, .int (1 : Int32)), (3, .int (-1 : Int32)), (2, .int (-1 : Int32)), (0, .ref (g.2.2 0)), (1, .int x1)]) hx hb dX11_loudest_26 hl (by decide) rfl (fun ls hl => ?_)
  obtain ⟨z7, hz7, hf⟩ := bi_s hf
  refine lp_X11_loudest_0_h28 C hex hst hz7 ?_ H locs ls hP hD hS (lv_sub hl [3, 4, 2, 1, 0] rfl)
  intro H locs ls hP hD hS hl
  refine lv_iload_n hx hb dX11_loudest_64 rfl (lv_at hl 0 rfl) ?_
  exact bk_iretT C hP hD hS hf (Nat.le_of_ble_eq_true rfl) (Nat.le_of_ble_eq_true rfl) dX11_loudest_65
theorem c_X11_loudest_0 {N : Nat} {x1 : Int32} {σ : Sg} {z : Zt} (hX : xOK g X) (hst : l.stackTraces = false) (hf : f_X11_loudest_0 N x1 σ = some z) : MetTi l yX11_loudest (Cond.code yX11_loudest cX11_loudest 6 (some .int) :: wsA) rm_X11_loudest_0 1 6 cw g X [.ref (g.2.2 0), .int x1] σ z :=
  MetTi_of hX (by decide) (Nat.le_of_ble_eq_true rfl) (fun p e s m args below meth c A C hex => b_X11_loudest_0 C hex hst hf)
-- X11_oftenest_0: oftenest(I)I
abbrev rm_X11_oftenest_0 : Room := { frames := 7, cells := 1, slots := 6, locals := 144 }
theorem nd_X11_oftenest : yX11_oftenest.cls ≠ "java/lang/invoke/MethodHandle" ∧ yX11_oftenest.cls ≠ "java/lang/invoke/VarHandle" ∧ (parseMethodDescriptor yX11_oftenest.desc).map (fun d => d.parameters.length) = some 1 := by decide +kernel
def f_X11_oftenest_0_b89 (N : Nat) (x2 : Int32) (x3 : Int32) (x4 : Int32) (σ : Sg) : Option (Nat × Int32 × Int32 × Int32 × Sg) :=
bd (x4 + (1 : Int32)) fun v1 =>
some (0, x2, x3, v1, σ)
set_option maxHeartbeats 4000000 in
set_option maxRecDepth 100000 in
theorem b_X11_oftenest_0_b89 {N : Nat} {x2 : Int32} {x3 : Int32} {x4 : Int32} {σ : Sg} {z : Nat × Int32 × Int32 × Int32 × Sg} (C : Cx p s m args meth c cX11_oftenest 5 (some .int) RX11 g A X) (hex : ∀ x ∈ c.exceptionTable.toList, False) (hst : l.stackTraces = false) (hf : f_X11_oftenest_0_b89 N x2 x3 x4 σ = some z) (k0 : z.1 = 0 → Bk cw p l e rm_X11_oftenest_0 s m args below meth c 5 g A Q 1 6 49 [(0, .ref (g.2.2 0)), (2, .int z.2.1), (3, .int z.2.2.1), (4, .int z.2.2.2.1)] [] z.2.2.2.2) (k : ¬ z.1 = 0 → Bk cw p l e rm_X11_oftenest_0 s m args below meth c 5 g A Q 1 6 95 [(3, .int z.2.2.1)] [] z.2.2.2.2) : Bk cw p l e rm_X11_oftenest_0 s m args below meth c 5 g A Q 1 6 89 [(0, .ref (g.2.2 0)), (2, .int x2), (3, .int x3), (4, .int x4)] [] σ := by
  obtain ⟨hx, hb, hr, hml, hown, hts, hK, hlocks, hXX, hA, hXo⟩ := id C
  intro H locs ls hP hD hS hl
  unfold f_X11_oftenest_0_b89 at hf
  obtain ⟨v1, ev1, hf⟩ := bd_s hf
  refine lv_iinc (v := v1) (lv' := [(4, .int v1), (0, .ref (g.2.2 0)), (2, .int x2), (3, .int x3)]) hx hb dX11_oftenest_89 hl (k := 3) rfl (by rw [ev1]; rfl) (by decide) rfl (fun ls hl => ?_)
  refine lv_goto (tgt := 49) hx hb dX11_oftenest_92 (by decide) ?_
  cases hf
  exact k0 rfl H locs ls hP hD hS (lv_sub hl [1, 2, 3, 0] rfl)
def s_X11_oftenest_0_h49 (N : Nat) (x2 : Int32) (x3 : Int32) (x4 : Int32) (σ : Sg) : Option (Nat × Int32 × Int32 × Int32 × Sg) :=
if (σ 12 0) ≤ x4 then (some (1, 0, x3, 0, σ))
else (if (x4 < 0 ∨ 9 ≤ x4.toNatClampNeg) then none else
if (σ 61 x4.toNatClampNeg) ≤ x2 then (f_X11_oftenest_0_b89 N x2 x3 x4 σ)
else (if (x4 < 0 ∨ 9 ≤ x4.toNatClampNeg) then none else
bd (σ 61 x4.toNatClampNeg) fun v4 =>
f_X11_oftenest_0_b89 N v4 x4 x4 σ))
set_option maxHeartbeats 4000000 in
set_option maxRecDepth 100000 in
theorem e_X11_oftenest_0_h49 {N : Nat} {x2 : Int32} {x3 : Int32} {x4 : Int32} {σ : Sg} {z : Nat × Int32 × Int32 × Int32 × Sg} (C : Cx p s m args meth c cX11_oftenest 5 (some .int) RX11 g A X) (hex : ∀ x ∈ c.exceptionTable.toList, False) (hst : l.stackTraces = false) (hf : s_X11_oftenest_0_h49 N x2 x3 x4 σ = some z) (k0 : z.1 = 0 → Bk cw p l e rm_X11_oftenest_0 s m args below meth c 5 g A Q 1 6 49 [(0, .ref (g.2.2 0)), (2, .int z.2.1), (3, .int z.2.2.1), (4, .int z.2.2.2.1)] [] z.2.2.2.2) (k : ¬ z.1 = 0 → Bk cw p l e rm_X11_oftenest_0 s m args below meth c 5 g A Q 1 6 95 [(3, .int z.2.2.1)] [] z.2.2.2.2) : Bk cw p l e rm_X11_oftenest_0 s m args below meth c 5 g A Q 1 6 49 [(0, .ref (g.2.2 0)), (2, .int x2), (3, .int x3), (4, .int x4)] [] σ := by
  obtain ⟨hx, hb, hr, hml, hown, hts, hK, hlocks, hXX, hA, hXo⟩ := id C
  intro H locs ls hP hD hS hl
  unfold s_X11_oftenest_0_h49 at hf
  refine lv_iload hx hb dX11_oftenest_49 (lv_at hl 3 rfl) ?_
  refine lv_aload_n hx hb dX11_oftenest_51 rfl (lv_at hl 0 rfl) ?_
  refine bk_get (wf := cw) (q0 := 0) (ci := 10) (k := 3) (v := .ref (g.2.2 12)) C hP wl_X11 rfl rfl (by decide) wa_23 rfl rfl dX11_oftenest_52 ?_
  refine bk_get (wf := cw) (q0 := 12) (ci := 8) (k := 0) (v := .int (σ 12 0)) C hP wl_X9 rfl rfl (by decide) wa_644 rfl rfl dX11_oftenest_55 ?_
  refine lv_icmp_ge (tgt := 95) hx hb dX11_oftenest_58 (by decide) (fun t58 => ?_) (fun t58 => ?_)
  · have hf := (if_pos t58).symm.trans hf
    cases hf
    exact (k (show ¬ (1 : Nat) = 0 by decide)) H locs ls hP hD hS (lv_sub hl [2] rfl)
  · have hf := (if_neg t58).symm.trans hf
    refine lv_aload_n hx hb dX11_oftenest_61 rfl (lv_at hl 0 rfl) ?_
    refine bk_get (wf := cw) (q0 := 0) (ci := 10) (k := 10) (v := .ref (g.2.2 55)) C hP wl_X11 rfl rfl (by decide) wa_42 rfl rfl dX11_oftenest_62 ?_
    refine bk_get (wf := cw) (q0 := 55) (ci := 2) (k := 1) (v := .ref (g.2.2 61)) C hP wl_X2 rfl rfl (by decide) wa_1083 rfl rfl dX11_oftenest_65 ?_
    refine lv_iload hx hb dX11_oftenest_68 (lv_at hl 3 rfl) ?_
    obtain ⟨g2, hf⟩ := gd_s hf
    refine bk_iald (wf := cw) (q0 := 61) (n := 9) (j := x4.toNatClampNeg) C hP rfl g2 rfl dX11_oftenest_70 ?_
    refine lv_iload_n hx hb dX11_oftenest_71 rfl (lv_at hl 1 rfl) ?_
    refine lv_icmp_le (tgt := 89) hx hb dX11_oftenest_72 (by decide) (fun t72 => ?_) (fun t72 => ?_)
    · have hf := (if_pos t72).symm.trans hf
      exact b_X11_oftenest_0_b89 C hex hst hf k0 k H locs ls hP hD hS (lv_sub hl [0, 1, 2, 3] rfl)
    · have hf := (if_neg t72).symm.trans hf
      refine lv_aload_n hx hb dX11_oftenest_75 rfl (lv_at hl 0 rfl) ?_
      refine bk_get (wf := cw) (q0 := 0) (ci := 10) (k := 10) (v := .ref (g.2.2 55)) C hP wl_X11 rfl rfl (by decide) wa_42 rfl rfl dX11_oftenest_76 ?_
      refine bk_get (wf := cw) (q0 := 55) (ci := 2) (k := 1) (v := .ref (g.2.2 61)) C hP wl_X2 rfl rfl (by decide) wa_1083 rfl rfl dX11_oftenest_79 ?_
      refine lv_iload hx hb dX11_oftenest_82 (lv_at hl 3 rfl) ?_
      obtain ⟨g3, hf⟩ := gd_s hf
      refine bk_iald (wf := cw) (q0 := 61) (n := 9) (j := x4.toNatClampNeg) C hP rfl g3 rfl dX11_oftenest_84 ?_
      obtain ⟨v4, ev4, hf⟩ := bd_s hf
      rw [← ev4]
      refine lv_istore_n (lv' := [(2, .int v4), (0, .ref (g.2.2 0)), (3, .int x3), (4, .int x4)]) hx hb dX11_oftenest_85 rfl hl (by decide) rfl (fun ls hl => ?_)
      refine lv_iload hx hb dX11_oftenest_86 (lv_at hl 3 rfl) ?_
      refine lv_istore_n (lv' := [(3, .int x4), (2, .int v4), (0, .ref (g.2.2 0)), (4, .int x4)]) hx hb dX11_oftenest_88 rfl hl (by decide) rfl (fun ls hl => ?_)
      exact b_X11_oftenest_0_b89 C hex hst hf k0 k H locs ls hP hD hS (lv_sub hl [2, 1, 0, 3] rfl)
theorem lp_X11_oftenest_0_h49 {N n : Nat} {x2 : Int32} {x3 : Int32} {x4 : Int32} {σ : Sg} {z : Nat × Int32 × Int32 × Int32 × Sg} (C : Cx p s m args meth c cX11_oftenest 5 (some .int) RX11 g A X) (hex : ∀ x ∈ c.exceptionTable.toList, False) (hst : l.stackTraces = false) (hz : it (fun q => s_X11_oftenest_0_h49 N q.1 q.2.1 q.2.2.1 q.2.2.2) n (x2, x3, x4, σ) = some z) (k : Bk cw p l e rm_X11_oftenest_0 s m args below meth c 5 g A Q 1 6 95 [(3, .int z.2.2.1)] [] z.2.2.2.2) : Bk cw p l e rm_X11_oftenest_0 s m args below meth c 5 g A Q 1 6 49 [(0, .ref (g.2.2 0)), (2, .int x2), (3, .int x3), (4, .int x4)] [] σ :=
  it_W (S := Int32 × Int32 × Int32 × Sg) (fun q => Bk cw p l e rm_X11_oftenest_0 s m args below meth c 5 g A Q 1 6 49 [(0, .ref (g.2.2 0)), (2, .int q.1), (3, .int q.2.1), (4, .int q.2.2.1)] [] q.2.2.2) (fun z => Bk cw p l e rm_X11_oftenest_0 s m args below meth c 5 g A Q 1 6 95 [(3, .int z.2.2.1)] [] z.2.2.2.2) (fun q z hq k0 k => e_X11_oftenest_0_h49 C hex hst hq k0 k) n (x2, x3, x4, σ) z hz k
def s_X11_oftenest_0_h23 (N : Nat) (x1 : Int32) (x2 : Int32) (σ : Sg) : Option (Nat × Int32 × Sg) :=
if x1 < x2 then (some (1, 0, σ))
else ((f_X2_go_55 N σ).bind fun q5 =>
bd (x2 + (1 : Int32)) fun v6 =>
some (0, v6, (q5.2)))
set_option maxHeartbeats 4000000 in
set_option maxRecDepth 100000 in
theorem e_X11_oftenest_0_h23 {N : Nat} {x1 : Int32} {x2 : Int32} {σ : Sg} {z : Nat × Int32 × Sg} (C : Cx p s m args meth c cX11_oftenest 5 (some .int) RX11 g A X) (hex : ∀ x ∈ c.exceptionTable.toList, False) (hst : l.stackTraces = false) (hf : s_X11_oftenest_0_h23 N x1 x2 σ = some z) (k0 : z.1 = 0 → Bk cw p l e rm_X11_oftenest_0 s m args below meth c 5 g A Q 1 6 23 [(0, .ref (g.2.2 0)), (1, .int x1), (2, .int z.2.1)] [] z.2.2) (k : ¬ z.1 = 0 → Bk cw p l e rm_X11_oftenest_0 s m args below meth c 5 g A Q 1 6 42 [(0, .ref (g.2.2 0))] [] z.2.2) : Bk cw p l e rm_X11_oftenest_0 s m args below meth c 5 g A Q 1 6 23 [(0, .ref (g.2.2 0)), (1, .int x1), (2, .int x2)] [] σ := by
  obtain ⟨hx, hb, hr, hml, hown, hts, hK, hlocks, hXX, hA, hXo⟩ := id C
  intro H locs ls hP hD hS hl
  unfold s_X11_oftenest_0_h23 at hf
  refine lv_iload_n hx hb dX11_oftenest_23 rfl (lv_at hl 2 rfl) ?_
  refine lv_iload_n hx hb dX11_oftenest_24 rfl (lv_at hl 1 rfl) ?_
  refine lv_icmp_gt (tgt := 42) hx hb dX11_oftenest_25 (by decide) (fun t25 => ?_) (fun t25 => ?_)
  · have hf := (if_pos t25).symm.trans hf
    cases hf
    exact (k (show ¬ (1 : Nat) = 0 by decide)) H locs ls hP hD hS (lv_sub hl [0] rfl)
  · have hf := (if_neg t25).symm.trans hf
    refine lv_aload_n hx hb dX11_oftenest_28 rfl (lv_at hl 0 rfl) ?_
    refine bk_get (wf := cw) (q0 := 0) (ci := 10) (k := 10) (v := .ref (g.2.2 55)) C hP wl_X11 rfl rfl (by decide) wa_42 rfl rfl dX11_oftenest_29 ?_
    obtain ⟨q5, hq5, hf⟩ := bi_s hf
    refine bk_VI (wf := cw) (q0 := 55) (ci := 2) (rest := []) [] C hP hD hS hl.1 (c_X2_go_55 hXo hq5) (cwA_V 0 hts wa_833 wa_830 wa_831 wa_832 wa_41 rfl rfl nd_X2_go ⟨Nat.le_of_ble_eq_true rfl, Nat.le_of_ble_eq_true rfl⟩) rfl rfl rfl rfl (Nat.le_of_ble_eq_true rfl) dX11_oftenest_32 ⟨Nat.le_of_ble_eq_true rfl, Nat.le_of_ble_eq_true rfl⟩ (fun H locs hP hD hS => ?_)
    refine lv_pop hx hb dX11_oftenest_35 rfl ?_
    obtain ⟨v6, ev6, hf⟩ := bd_s hf
    refine lv_iinc (v := v6) (lv' := [(2, .int v6), (0, .ref (g.2.2 0)), (1, .int x1)]) hx hb dX11_oftenest_36 hl (k := 2) rfl (by rw [ev6]; rfl) (by decide) rfl (fun ls hl => ?_)
    refine lv_goto (tgt := 23) hx hb dX11_oftenest_39 (by decide) ?_
    cases hf
    exact k0 rfl H locs ls hP hD hS (lv_sub hl [1, 2, 0] rfl)
theorem lp_X11_oftenest_0_h23 {N n : Nat} {x1 : Int32} {x2 : Int32} {σ : Sg} {z : Nat × Int32 × Sg} (C : Cx p s m args meth c cX11_oftenest 5 (some .int) RX11 g A X) (hex : ∀ x ∈ c.exceptionTable.toList, False) (hst : l.stackTraces = false) (hz : it (fun q => s_X11_oftenest_0_h23 N x1 q.1 q.2) n (x2, σ) = some z) (k : Bk cw p l e rm_X11_oftenest_0 s m args below meth c 5 g A Q 1 6 42 [(0, .ref (g.2.2 0))] [] z.2.2) : Bk cw p l e rm_X11_oftenest_0 s m args below meth c 5 g A Q 1 6 23 [(0, .ref (g.2.2 0)), (1, .int x1), (2, .int x2)] [] σ :=
  it_W (S := Int32 × Sg) (fun q => Bk cw p l e rm_X11_oftenest_0 s m args below meth c 5 g A Q 1 6 23 [(0, .ref (g.2.2 0)), (1, .int x1), (2, .int q.1)] [] q.2) (fun z => Bk cw p l e rm_X11_oftenest_0 s m args below meth c 5 g A Q 1 6 42 [(0, .ref (g.2.2 0))] [] z.2.2) (fun q z hq k0 k => e_X11_oftenest_0_h23 C hex hst hq k0 k) n (x2, σ) z hz k
def f_X11_oftenest_0 (N : Nat) (x1 : Int32) (σ : Sg) : Option (Zt) :=
(f_X11_needWithin N x1 (1 : Int32) (60 : Int32) σ).bind fun q7 =>
if q7.1 = 0 then ((f_X2_start_55_22 N (q7.2.2)).bind fun q8 =>
(it (fun q => s_X11_oftenest_0_h23 N x1 q.1 q.2) N ((1 : Int32), q8)).bind fun z9 =>
(it (fun q => s_X11_oftenest_0_h49 N q.1 q.2.1 q.2.2.1 q.2.2.2) N ((-1 : Int32), (-1 : Int32), (0 : Int32), (z9.2.2))).bind fun z10 =>
some (0, (z10.2.2.1), (z10.2.2.2.2)))
else some (q7.1, 0, q7.2.2)
set_option maxHeartbeats 4000000 in
set_option maxRecDepth 100000 in
theorem b_X11_oftenest_0 {N : Nat} {x1 : Int32} {σ : Sg} {z : Zt} (C : Cx p s m args meth c cX11_oftenest 5 (some .int) RX11 g A X) (hex : ∀ x ∈ c.exceptionTable.toList, False) (hst : l.stackTraces = false) (hf : f_X11_oftenest_0 N x1 σ = some z) : Bk cw p l e rm_X11_oftenest_0 s m args below meth c 5 g A (vx_MQ below (qTi cw g A z) (xT cw g A z) args s 1 6 A) 0 0 0 [(0, .ref (g.2.2 0)), (1, .int x1)] [] σ := by
  obtain ⟨hx, hb, hr, hml, hown, hts, hK, hlocks, hXX, hA, hXo⟩ := id C
  intro H locs ls hP hD hS hl
  unfold f_X11_oftenest_0 at hf
  refine lv_iload_n hx hb dX11_oftenest_0 rfl (lv_at hl 1 rfl) ?_
  refine lv_iconst (v := (1 : Int32)) hx hb dX11_oftenest_1 (by decide) ?_
  refine lv_bipush (v := (60 : Int32)) hx hb dX11_oftenest_2 (by decide) ?_
  obtain ⟨q7, hq7, hf⟩ := bi_s hf
  refine bk_TS (wf := cw) (rest := []) [.int x1, .int (1 : Int32), .int (60 : Int32)] C hex hP hD hS hl.1 (c_X11_needWithin hXo hst hq7) (cwA_S 3 hts wa_1020 wa_1018 wa_1019 wa_2 rfl rfl nd_X11_needWithin ⟨Nat.le_of_ble_eq_true rfl, Nat.le_of_ble_eq_true rfl⟩) rfl rfl (Nat.le_of_ble_eq_true rfl) dX11_oftenest_4 ⟨Nat.le_of_ble_eq_true rfl, Nat.le_of_ble_eq_true rfl⟩ ⟨Nat.le_of_ble_eq_true rfl, Nat.le_of_ble_eq_true rfl⟩ (fun h0 => by have hf := (if_neg h0).symm.trans hf; cases hf; exact ⟨rfl, rfl⟩) (fun h0 H locs hP hD hS => ?_)
  have hf := (if_pos h0).symm.trans hf
  refine lv_aload_n hx hb dX11_oftenest_7 rfl (lv_at hl 0 rfl) ?_
  refine bk_get (wf := cw) (q0 := 0) (ci := 10) (k := 10) (v := .ref (g.2.2 55)) C hP wl_X11 rfl rfl (by decide) wa_42 rfl rfl dX11_oftenest_8 ?_
  refine lv_aload_n hx hb dX11_oftenest_11 rfl (lv_at hl 0 rfl) ?_
  refine bk_get (wf := cw) (q0 := 0) (ci := 10) (k := 4) (v := .ref (g.2.2 21)) C hP wl_X11 rfl rfl (by decide) wa_27 rfl rfl dX11_oftenest_12 ?_
  refine bk_get (wf := cw) (q0 := 21) (ci := 1) (k := 0) (v := .ref (g.2.2 22)) C hP wl_X1 rfl rfl (by decide) wa_221 rfl rfl dX11_oftenest_15 ?_
  obtain ⟨q8, hq8, hf⟩ := bi_s hf
  refine bk_VV (wf := cw) (q0 := 55) (ci := 2) (rest := []) [.ref (g.2.2 22)] C hP hD hS hl.1 (c_X2_start_55_22 hXo hq8) (cwA_V 1 hts wa_825 wa_822 wa_823 wa_824 wa_41 rfl rfl nd_X2_start ⟨Nat.le_of_ble_eq_true rfl, Nat.le_of_ble_eq_true rfl⟩) rfl rfl rfl rfl (Nat.le_of_ble_eq_true rfl) dX11_oftenest_18 ⟨Nat.le_of_ble_eq_true rfl, Nat.le_of_ble_eq_true rfl⟩ (fun H locs hP hD hS => ?_)
  refine lv_iconst (v := (1 : Int32)) hx hb dX11_oftenest_21 (by decide) ?_
  refine lv_istore_n (lv' := [(2, .int (1 : Int32)), (0, .ref (g.2.2 0)), (1, .int x1)]) hx hb dX11_oftenest_22 rfl hl (by decide) rfl (fun ls hl => ?_)
  obtain ⟨z9, hz9, hf⟩ := bi_s hf
  refine lp_X11_oftenest_0_h23 C hex hst hz9 ?_ H locs ls hP hD hS (lv_sub hl [1, 2, 0] rfl)
  intro H locs ls hP hD hS hl
  refine lv_iconst (v := (-1 : Int32)) hx hb dX11_oftenest_42 (by decide) ?_
  refine lv_istore_n (lv' := [(2, .int (-1 : Int32)), (0, .ref (g.2.2 0))]) hx hb dX11_oftenest_43 rfl hl (by decide) rfl (fun ls hl => ?_)
  refine lv_iconst (v := (-1 : Int32)) hx hb dX11_oftenest_44 (by decide) ?_
  refine lv_istore_n (lv' := [(3, .int (-1 : Int32)), (2, .int (-1 : Int32)), (0, .ref (g.2.2 0))]) hx hb dX11_oftenest_45 rfl hl (by decide) rfl (fun ls hl => ?_)
  refine lv_iconst (v := (0 : Int32)) hx hb dX11_oftenest_46 (by decide) ?_
  refine lv_istore (lv' := [(4, .int (0 : Int32)), (3, .int (-1 : Int32)), (2, .int (-1 : Int32)), (0, .ref (g.2.2 0))]) hx hb dX11_oftenest_47 hl (by decide) rfl (fun ls hl => ?_)
  obtain ⟨z10, hz10, hf⟩ := bi_s hf
  refine lp_X11_oftenest_0_h49 C hex hst hz10 ?_ H locs ls hP hD hS (lv_sub hl [3, 2, 1, 0] rfl)
  intro H locs ls hP hD hS hl
  refine lv_iload_n hx hb dX11_oftenest_95 rfl (lv_at hl 0 rfl) ?_
  exact bk_iretT C hP hD hS hf (Nat.le_of_ble_eq_true rfl) (Nat.le_of_ble_eq_true rfl) dX11_oftenest_96
theorem c_X11_oftenest_0 {N : Nat} {x1 : Int32} {σ : Sg} {z : Zt} (hX : xOK g X) (hst : l.stackTraces = false) (hf : f_X11_oftenest_0 N x1 σ = some z) : MetTi l yX11_oftenest (Cond.code yX11_oftenest cX11_oftenest 5 (some .int) :: wsA) rm_X11_oftenest_0 1 6 cw g X [.ref (g.2.2 0), .int x1] σ z :=
  MetTi_of hX (by decide) (Nat.le_of_ble_eq_true rfl) (fun p e s m args below meth c A C hex => b_X11_oftenest_0 C hex hst hf)
-- X11_crowd_0: crowd(II)I
abbrev rm_X11_crowd_0 : Room := { frames := 7, cells := 2, slots := 12, locals := 144 }
theorem nd_X11_crowd : yX11_crowd.cls ≠ "java/lang/invoke/MethodHandle" ∧ yX11_crowd.cls ≠ "java/lang/invoke/VarHandle" ∧ (parseMethodDescriptor yX11_crowd.desc).map (fun d => d.parameters.length) = some 2 := by decide +kernel
def f_X11_crowd_0_b71 (N : Nat) (x1 : Int32) (x2 : Int32) (x3 : Int32) (x5 : Int32) (t0 : Int32) (t1 : Int32) (σ : Sg) : Option (Nat × Int32 × Int32 × Int32 × Sg) :=
bd (t0 + t1) fun v1 =>
bd (x5 + (1 : Int32)) fun v2 =>
some (0, x3, v1, v2, σ)
set_option maxHeartbeats 4000000 in
set_option maxRecDepth 100000 in
theorem b_X11_crowd_0_b71 {N : Nat} {x1 : Int32} {x2 : Int32} {x3 : Int32} {x5 : Int32} {t0 : Int32} {t1 : Int32} {σ : Sg} {z : Nat × Int32 × Int32 × Int32 × Sg} (C : Cx p s m args meth c cX11_crowd 7 (some .int) RX11 g A X) (hex : ∀ x ∈ c.exceptionTable.toList, False) (hst : l.stackTraces = false) (hf : f_X11_crowd_0_b71 N x1 x2 x3 x5 t0 t1 σ = some z) (k0 : z.1 = 0 → Bk cw p l e rm_X11_crowd_0 s m args below meth c 7 g A Q 2 12 34 [(0, .ref (g.2.2 0)), (1, .int x1), (2, .int x2), (3, .int z.2.1), (4, .int z.2.2.1), (5, .int z.2.2.2.1)] [] z.2.2.2.2) (k : ¬ z.1 = 0 → Bk cw p l e rm_X11_crowd_0 s m args below meth c 7 g A Q 2 12 80 [(2, .int x2), (3, .int z.2.1), (4, .int z.2.2.1)] [] z.2.2.2.2) : Bk cw p l e rm_X11_crowd_0 s m args below meth c 7 g A Q 2 12 71 [(0, .ref (g.2.2 0)), (1, .int x1), (2, .int x2), (3, .int x3), (5, .int x5)] [.int t1, .int t0] σ := by
  obtain ⟨hx, hb, hr, hml, hown, hts, hK, hlocks, hXX, hA, hXo⟩ := id C
  intro H locs ls hP hD hS hl
  unfold f_X11_crowd_0_b71 at hf
  refine lv_iadd hx hb dX11_crowd_71 ?_
  obtain ⟨v1, ev1, hf⟩ := bd_s hf
  rw [← ev1]
  refine lv_istore (lv' := [(4, .int v1), (0, .ref (g.2.2 0)), (1, .int x1), (2, .int x2), (3, .int x3), (5, .int x5)]) hx hb dX11_crowd_72 hl (by decide) rfl (fun ls hl => ?_)
  obtain ⟨v2, ev2, hf⟩ := bd_s hf
  refine lv_iinc (v := v2) (lv' := [(5, .int v2), (4, .int v1), (0, .ref (g.2.2 0)), (1, .int x1), (2, .int x2), (3, .int x3)]) hx hb dX11_crowd_74 hl (k := 5) rfl (by rw [ev2]; rfl) (by decide) rfl (fun ls hl => ?_)
  refine lv_goto (tgt := 34) hx hb dX11_crowd_77 (by decide) ?_
  cases hf
  exact k0 rfl H locs ls hP hD hS (lv_sub hl [2, 3, 4, 5, 1, 0] rfl)
def s_X11_crowd_0_h34 (N : Nat) (x1 : Int32) (x2 : Int32) (x3 : Int32) (x4 : Int32) (x5 : Int32) (σ : Sg) : Option (Nat × Int32 × Int32 × Int32 × Sg) :=
if x1 < x5 then (some (1, x3, x4, 0, σ))
else ((f_X2_go_55 N σ).bind fun q3 =>
(f_J6_bitCount_0f7a4 N q3.1 (q3.2)).bind fun q4 =>
bd q4.1 fun v5 =>
bd (if x3 < v5 then v5 else x3) fun v6 =>
if v5 = 0 then (f_X11_crowd_0_b71 N x1 x2 v6 x5 x4 (1 : Int32) (q4.2))
else (f_X11_crowd_0_b71 N x1 x2 v6 x5 x4 (0 : Int32) (q4.2)))
set_option maxHeartbeats 4000000 in
set_option maxRecDepth 100000 in
theorem e_X11_crowd_0_h34 {N : Nat} {x1 : Int32} {x2 : Int32} {x3 : Int32} {x4 : Int32} {x5 : Int32} {σ : Sg} {z : Nat × Int32 × Int32 × Int32 × Sg} (C : Cx p s m args meth c cX11_crowd 7 (some .int) RX11 g A X) (hex : ∀ x ∈ c.exceptionTable.toList, False) (hst : l.stackTraces = false) (hf : s_X11_crowd_0_h34 N x1 x2 x3 x4 x5 σ = some z) (k0 : z.1 = 0 → Bk cw p l e rm_X11_crowd_0 s m args below meth c 7 g A Q 2 12 34 [(0, .ref (g.2.2 0)), (1, .int x1), (2, .int x2), (3, .int z.2.1), (4, .int z.2.2.1), (5, .int z.2.2.2.1)] [] z.2.2.2.2) (k : ¬ z.1 = 0 → Bk cw p l e rm_X11_crowd_0 s m args below meth c 7 g A Q 2 12 80 [(2, .int x2), (3, .int z.2.1), (4, .int z.2.2.1)] [] z.2.2.2.2) : Bk cw p l e rm_X11_crowd_0 s m args below meth c 7 g A Q 2 12 34 [(0, .ref (g.2.2 0)), (1, .int x1), (2, .int x2), (3, .int x3), (4, .int x4), (5, .int x5)] [] σ := by
  obtain ⟨hx, hb, hr, hml, hown, hts, hK, hlocks, hXX, hA, hXo⟩ := id C
  intro H locs ls hP hD hS hl
  unfold s_X11_crowd_0_h34 at hf
  refine lv_iload hx hb dX11_crowd_34 (lv_at hl 5 rfl) ?_
  refine lv_iload_n hx hb dX11_crowd_36 rfl (lv_at hl 1 rfl) ?_
  refine lv_icmp_gt (tgt := 80) hx hb dX11_crowd_37 (by decide) (fun t37 => ?_) (fun t37 => ?_)
  · have hf := (if_pos t37).symm.trans hf
    cases hf
    exact (k (show ¬ (1 : Nat) = 0 by decide)) H locs ls hP hD hS (lv_sub hl [2, 3, 4] rfl)
  · have hf := (if_neg t37).symm.trans hf
    refine lv_aload_n hx hb dX11_crowd_40 rfl (lv_at hl 0 rfl) ?_
    refine bk_get (wf := cw) (q0 := 0) (ci := 10) (k := 10) (v := .ref (g.2.2 55)) C hP wl_X11 rfl rfl (by decide) wa_42 rfl rfl dX11_crowd_41 ?_
    obtain ⟨q3, hq3, hf⟩ := bi_s hf
    refine bk_VI (wf := cw) (q0 := 55) (ci := 2) (rest := []) [] C hP hD hS hl.1 (c_X2_go_55 hXo hq3) (cwA_V 0 hts wa_833 wa_830 wa_831 wa_832 wa_41 rfl rfl nd_X2_go ⟨Nat.le_of_ble_eq_true rfl, Nat.le_of_ble_eq_true rfl⟩) rfl rfl rfl rfl (Nat.le_of_ble_eq_true rfl) dX11_crowd_44 ⟨Nat.le_of_ble_eq_true rfl, Nat.le_of_ble_eq_true rfl⟩ (fun H locs hP hD hS => ?_)
    obtain ⟨q4, hq4, hf⟩ := bi_s hf
    refine bk_SI (wf := cw) (rest := []) [.int q3.1] C hP hD hS hl.1 (c_J6_bitCount_0f7a4 hXo hq4) (cwA_S 1 hts wa_699 wa_1071 wa_697 wa_698 rfl rfl nd_J6_bitCount_0f7a4 ⟨Nat.le_of_ble_eq_true rfl, Nat.le_of_ble_eq_true rfl⟩) rfl rfl (Nat.le_of_ble_eq_true rfl) dX11_crowd_47 ⟨Nat.le_of_ble_eq_true rfl, Nat.le_of_ble_eq_true rfl⟩ (fun H locs hP hD hS => ?_)
    obtain ⟨v5, ev5, hf⟩ := bd_s hf
    rw [← ev5]
    refine lv_istore (lv' := [(6, .int v5), (0, .ref (g.2.2 0)), (1, .int x1), (2, .int x2), (3, .int x3), (4, .int x4), (5, .int x5)]) hx hb dX11_crowd_50 hl (by decide) rfl (fun ls hl => ?_)
    refine lv_iload_n hx hb dX11_crowd_52 rfl (lv_at hl 4 rfl) ?_
    refine lv_iload hx hb dX11_crowd_53 (lv_at hl 0 rfl) ?_
    refine va_mmax hx hb (hml.trans hl.1.symm) hown (hts _ wa_1258) (hts _ wa_749) (hts _ wa_231) (hts _ wa_750) (Nat.le_of_ble_eq_true rfl) (Nat.le_of_ble_eq_true rfl) (Nat.le_of_ble_eq_true rfl) (Nat.le_of_ble_eq_true rfl) dX11_crowd_55 ?_
    obtain ⟨v6, ev6, hf⟩ := bd_s hf
    rw [← ev6]
    refine lv_istore_n (lv' := [(3, .int v6), (6, .int v5), (0, .ref (g.2.2 0)), (1, .int x1), (2, .int x2), (4, .int x4), (5, .int x5)]) hx hb dX11_crowd_58 rfl hl (by decide) rfl (fun ls hl => ?_)
    refine lv_iload hx hb dX11_crowd_59 (lv_at hl 5 rfl) ?_
    refine lv_iload hx hb dX11_crowd_61 (lv_at hl 1 rfl) ?_
    refine lv_if_ne (tgt := 70) hx hb dX11_crowd_63 (by decide) (fun t63 => ?_) (fun t63 => ?_)
    · have hf := (if_neg t63).symm.trans hf
      refine lv_iconst (v := (0 : Int32)) hx hb dX11_crowd_70 (by decide) ?_
      exact b_X11_crowd_0_b71 C hex hst hf k0 k H locs ls hP hD hS (lv_sub hl [2, 3, 4, 0, 6] rfl)
    · have hf := (if_pos t63).symm.trans hf
      refine lv_iconst (v := (1 : Int32)) hx hb dX11_crowd_66 (by decide) ?_
      refine lv_goto (tgt := 71) hx hb dX11_crowd_67 (by decide) ?_
      exact b_X11_crowd_0_b71 C hex hst hf k0 k H locs ls hP hD hS (lv_sub hl [2, 3, 4, 0, 6] rfl)
theorem lp_X11_crowd_0_h34 {N n : Nat} {x1 : Int32} {x2 : Int32} {x3 : Int32} {x4 : Int32} {x5 : Int32} {σ : Sg} {z : Nat × Int32 × Int32 × Int32 × Sg} (C : Cx p s m args meth c cX11_crowd 7 (some .int) RX11 g A X) (hex : ∀ x ∈ c.exceptionTable.toList, False) (hst : l.stackTraces = false) (hz : it (fun q => s_X11_crowd_0_h34 N x1 x2 q.1 q.2.1 q.2.2.1 q.2.2.2) n (x3, x4, x5, σ) = some z) (k : Bk cw p l e rm_X11_crowd_0 s m args below meth c 7 g A Q 2 12 80 [(2, .int x2), (3, .int z.2.1), (4, .int z.2.2.1)] [] z.2.2.2.2) : Bk cw p l e rm_X11_crowd_0 s m args below meth c 7 g A Q 2 12 34 [(0, .ref (g.2.2 0)), (1, .int x1), (2, .int x2), (3, .int x3), (4, .int x4), (5, .int x5)] [] σ :=
  it_W (S := Int32 × Int32 × Int32 × Sg) (fun q => Bk cw p l e rm_X11_crowd_0 s m args below meth c 7 g A Q 2 12 34 [(0, .ref (g.2.2 0)), (1, .int x1), (2, .int x2), (3, .int q.1), (4, .int q.2.1), (5, .int q.2.2.1)] [] q.2.2.2) (fun z => Bk cw p l e rm_X11_crowd_0 s m args below meth c 7 g A Q 2 12 80 [(2, .int x2), (3, .int z.2.1), (4, .int z.2.2.1)] [] z.2.2.2.2) (fun q z hq k0 k => e_X11_crowd_0_h34 C hex hst hq k0 k) n (x3, x4, x5, σ) z hz k
def f_X11_crowd_0 (N : Nat) (x1 : Int32) (x2 : Int32) (σ : Sg) : Option (Zt) :=
(f_X11_needWhat N x2 (1 : Int32) σ).bind fun q7 =>
if q7.1 = 0 then ((f_X11_needWithin N x1 (1 : Int32) (60 : Int32) (q7.2.2)).bind fun q8 =>
if q8.1 = 0 then ((f_X2_start_55_22 N (q8.2.2)).bind fun q9 =>
(it (fun q => s_X11_crowd_0_h34 N x1 x2 q.1 q.2.1 q.2.2.1 q.2.2.2) N ((0 : Int32), (0 : Int32), (1 : Int32), q9)).bind fun z10 =>
if x2 = 0 then (some (0, (z10.2.1), (z10.2.2.2.2)))
else (some (0, (z10.2.2.1), (z10.2.2.2.2))))
else some (q8.1, 0, q8.2.2))
else some (q7.1, 0, q7.2.2)
set_option maxHeartbeats 4000000 in
set_option maxRecDepth 100000 in
theorem b_X11_crowd_0 {N : Nat} {x1 : Int32} {x2 : Int32} {σ : Sg} {z : Zt} (C : Cx p s m args meth c cX11_crowd 7 (some .int) RX11 g A X) (hex : ∀ x ∈ c.exceptionTable.toList, False) (hst : l.stackTraces = false) (hf : f_X11_crowd_0 N x1 x2 σ = some z) : Bk cw p l e rm_X11_crowd_0 s m args below meth c 7 g A (vx_MQ below (qTi cw g A z) (xT cw g A z) args s 2 12 A) 0 0 0 [(0, .ref (g.2.2 0)), (1, .int x1), (2, .int x2)] [] σ := by
  obtain ⟨hx, hb, hr, hml, hown, hts, hK, hlocks, hXX, hA, hXo⟩ := id C
  intro H locs ls hP hD hS hl
  unfold f_X11_crowd_0 at hf
  refine lv_iload_n hx hb dX11_crowd_0 rfl (lv_at hl 2 rfl) ?_
  refine lv_iconst (v := (1 : Int32)) hx hb dX11_crowd_1 (by decide) ?_
  obtain ⟨q7, hq7, hf⟩ := bi_s hf
  refine bk_TS (wf := cw) (rest := []) [.int x2, .int (1 : Int32)] C hex hP hD hS hl.1 (c_X11_needWhat hXo hst hq7) (cwA_S 2 hts wa_1035 wa_1033 wa_1034 wa_2 rfl rfl nd_X11_needWhat ⟨Nat.le_of_ble_eq_true rfl, Nat.le_of_ble_eq_true rfl⟩) rfl rfl (Nat.le_of_ble_eq_true rfl) dX11_crowd_2 ⟨Nat.le_of_ble_eq_true rfl, Nat.le_of_ble_eq_true rfl⟩ ⟨Nat.le_of_ble_eq_true rfl, Nat.le_of_ble_eq_true rfl⟩ (fun h0 => by have hf := (if_neg h0).symm.trans hf; cases hf; exact ⟨rfl, rfl⟩) (fun h0 H locs hP hD hS => ?_)
  have hf := (if_pos h0).symm.trans hf
  refine lv_iload_n hx hb dX11_crowd_5 rfl (lv_at hl 1 rfl) ?_
  refine lv_iconst (v := (1 : Int32)) hx hb dX11_crowd_6 (by decide) ?_
  refine lv_bipush (v := (60 : Int32)) hx hb dX11_crowd_7 (by decide) ?_
  obtain ⟨q8, hq8, hf⟩ := bi_s hf
  refine bk_TS (wf := cw) (rest := []) [.int x1, .int (1 : Int32), .int (60 : Int32)] C hex hP hD hS hl.1 (c_X11_needWithin hXo hst hq8) (cwA_S 3 hts wa_1020 wa_1018 wa_1019 wa_2 rfl rfl nd_X11_needWithin ⟨Nat.le_of_ble_eq_true rfl, Nat.le_of_ble_eq_true rfl⟩) rfl rfl (Nat.le_of_ble_eq_true rfl) dX11_crowd_9 ⟨Nat.le_of_ble_eq_true rfl, Nat.le_of_ble_eq_true rfl⟩ ⟨Nat.le_of_ble_eq_true rfl, Nat.le_of_ble_eq_true rfl⟩ (fun h0 => by have hf := (if_neg h0).symm.trans hf; cases hf; exact ⟨rfl, rfl⟩) (fun h0 H locs hP hD hS => ?_)
  have hf := (if_pos h0).symm.trans hf
  refine lv_aload_n hx hb dX11_crowd_12 rfl (lv_at hl 0 rfl) ?_
  refine bk_get (wf := cw) (q0 := 0) (ci := 10) (k := 10) (v := .ref (g.2.2 55)) C hP wl_X11 rfl rfl (by decide) wa_42 rfl rfl dX11_crowd_13 ?_
  refine lv_aload_n hx hb dX11_crowd_16 rfl (lv_at hl 0 rfl) ?_
  refine bk_get (wf := cw) (q0 := 0) (ci := 10) (k := 4) (v := .ref (g.2.2 21)) C hP wl_X11 rfl rfl (by decide) wa_27 rfl rfl dX11_crowd_17 ?_
  refine bk_get (wf := cw) (q0 := 21) (ci := 1) (k := 0) (v := .ref (g.2.2 22)) C hP wl_X1 rfl rfl (by decide) wa_221 rfl rfl dX11_crowd_20 ?_
  obtain ⟨q9, hq9, hf⟩ := bi_s hf
  refine bk_VV (wf := cw) (q0 := 55) (ci := 2) (rest := []) [.ref (g.2.2 22)] C hP hD hS hl.1 (c_X2_start_55_22 hXo hq9) (cwA_V 1 hts wa_825 wa_822 wa_823 wa_824 wa_41 rfl rfl nd_X2_start ⟨Nat.le_of_ble_eq_true rfl, Nat.le_of_ble_eq_true rfl⟩) rfl rfl rfl rfl (Nat.le_of_ble_eq_true rfl) dX11_crowd_23 ⟨Nat.le_of_ble_eq_true rfl, Nat.le_of_ble_eq_true rfl⟩ (fun H locs hP hD hS => ?_)
  refine lv_iconst (v := (0 : Int32)) hx hb dX11_crowd_26 (by decide) ?_
  refine lv_istore_n (lv' := [(3, .int (0 : Int32)), (0, .ref (g.2.2 0)), (1, .int x1), (2, .int x2)]) hx hb dX11_crowd_27 rfl hl (by decide) rfl (fun ls hl => ?_)
  refine lv_iconst (v := (0 : Int32)) hx hb dX11_crowd_28 (by decide) ?_
  refine lv_istore (lv' := [(4, .int (0 : Int32)), (3, .int (0 : Int32)), (0, .ref (g.2.2 0)), (1, .int x1), (2, .int x2)]) hx hb dX11_crowd_29 hl (by decide) rfl (fun ls hl => ?_)
  refine lv_iconst (v := (1 : Int32)) hx hb dX11_crowd_31 (by decide) ?_
  refine lv_istore (lv' := [(5, .int (1 : Int32)), (4, .int (0 : Int32)), (3, .int (0 : Int32)), (0, .ref (g.2.2 0)), (1, .int x1), (2, .int x2)]) hx hb dX11_crowd_32 hl (by decide) rfl (fun ls hl => ?_)
  obtain ⟨z10, hz10, hf⟩ := bi_s hf
  refine lp_X11_crowd_0_h34 C hex hst hz10 ?_ H locs ls hP hD hS (lv_sub hl [3, 4, 5, 2, 1, 0] rfl)
  intro H locs ls hP hD hS hl
  refine lv_iload_n hx hb dX11_crowd_80 rfl (lv_at hl 0 rfl) ?_
  refine lv_if_ne (tgt := 88) hx hb dX11_crowd_81 (by decide) (fun t81 => ?_) (fun t81 => ?_)
  · have hf := (if_neg t81).symm.trans hf
    refine lv_iload hx hb dX11_crowd_88 (lv_at hl 2 rfl) ?_
    exact bk_iretT C hP hD hS hf (Nat.le_of_ble_eq_true rfl) (Nat.le_of_ble_eq_true rfl) dX11_crowd_90
  · have hf := (if_pos t81).symm.trans hf
    refine lv_iload_n hx hb dX11_crowd_84 rfl (lv_at hl 1 rfl) ?_
    refine lv_goto (tgt := 90) hx hb dX11_crowd_85 (by decide) ?_
    exact bk_iretT C hP hD hS hf (Nat.le_of_ble_eq_true rfl) (Nat.le_of_ble_eq_true rfl) dX11_crowd_90
theorem c_X11_crowd_0 {N : Nat} {x1 : Int32} {x2 : Int32} {σ : Sg} {z : Zt} (hX : xOK g X) (hst : l.stackTraces = false) (hf : f_X11_crowd_0 N x1 x2 σ = some z) : MetTi l yX11_crowd (Cond.code yX11_crowd cX11_crowd 7 (some .int) :: wsA) rm_X11_crowd_0 2 12 cw g X [.ref (g.2.2 0), .int x1, .int x2] σ z :=
  MetTi_of hX (by decide) (Nat.le_of_ble_eq_true rfl) (fun p e s m args below meth c A C hex => b_X11_crowd_0 C hex hst hf)
-- X7_sleeps_56: sleeps(I)Z
abbrev rm_X7_sleeps_56 : Room := { frames := 0, cells := 0, slots := 0, locals := 0 }
def f_X7_sleeps_56 (N : Nat) (x1 : Int32) (σ : Sg) : Option (Int32 × Sg) :=
if (((σ 56 1) >>> (x1 &&& 31)) &&& (1 : Int32)) = (1 : Int32) then (some ((1 : Int32), σ))
else (some ((0 : Int32), σ))
set_option maxHeartbeats 4000000 in
set_option maxRecDepth 100000 in
theorem b_X7_sleeps_56 {N : Nat} {x1 : Int32} {σ : Sg} {z : Int32 × Sg} (C : Cx p s m args meth c cX7_sleeps 2 (some .boolean) RX7 g A X) (hf : f_X7_sleeps_56 N x1 σ = some z) : Bk cw p l e rm_X7_sleeps_56 s m args below meth c 2 g A (MQ below (qI cw g A z.1 z.2) args s 0 0 A) 0 0 0 [(0, .ref (g.2.2 56)), (1, .int x1)] [] σ := by
  obtain ⟨hx, hb, hr, hml, hown, hts, hK, hlocks, hXX, hA, hXo⟩ := id C
  intro H locs ls hP hD hS hl
  unfold f_X7_sleeps_56 at hf
  refine lv_aload_n hx hb dX7_sleeps_0 rfl (lv_at hl 0 rfl) ?_
  refine bk_get (wf := cw) (q0 := 56) (ci := 7) (k := 1) (v := .int (σ 56 1)) C hP wl_X7 rfl rfl (by decide) wa_108 rfl rfl dX7_sleeps_1 ?_
  refine lv_iload_n hx hb dX7_sleeps_4 rfl (lv_at hl 1 rfl) ?_
  refine lv_ishr hx hb dX7_sleeps_5 ?_
  refine lv_iconst (v := (1 : Int32)) hx hb dX7_sleeps_6 (by decide) ?_
  refine lv_iand hx hb dX7_sleeps_7 ?_
  refine lv_iconst (v := (1 : Int32)) hx hb dX7_sleeps_8 (by decide) ?_
  refine lv_icmp_ne (tgt := 16) hx hb dX7_sleeps_9 (by decide) (fun t9 => ?_) (fun t9 => ?_)
  · have hf := (if_neg t9).symm.trans hf
    refine lv_iconst (v := (0 : Int32)) hx hb dX7_sleeps_16 (by decide) ?_
    cases hf
    exact bk_zret C hP hD hS (by decide) rfl dX7_sleeps_17
  · have hf := (if_pos t9).symm.trans hf
    refine lv_iconst (v := (1 : Int32)) hx hb dX7_sleeps_12 (by decide) ?_
    refine lv_goto (tgt := 17) hx hb dX7_sleeps_13 (by decide) ?_
    cases hf
    exact bk_zret C hP hD hS (by decide) rfl dX7_sleeps_17
theorem c_X7_sleeps_56 {N : Nat} {x1 : Int32} {σ : Sg} {z : Int32 × Sg} (hX : xOK g X) (hf : f_X7_sleeps_56 N x1 σ = some z) : MetI l yX7_sleeps (Cond.code yX7_sleeps cX7_sleeps 2 (some .boolean) :: wsA) rm_X7_sleeps_56 cw g X [.ref (g.2.2 56), .int x1] σ z.1 z.2 :=
  MetI_of hX (by decide) (Nat.le_of_ble_eq_true rfl) (fun p e s m args below meth c A C => b_X7_sleeps_56 C hf)
-- X7_startNod_56: startNod(I)V
abbrev rm_X7_startNod_56 : Room := { frames := 1, cells := 0, slots := 0, locals := 21 }
def f_X7_startNod_56 (N : Nat) (x1 : Int32) (σ : Sg) : Option (Sg) :=
(f_X7_sleeps_56 N x1 σ).bind fun q1 =>
if q1.1 = 0 then (if (x1 < 0 ∨ 9 ≤ x1.toNatClampNeg) then none else
bd (wr (q1.2) 57 (x1.toNatClampNeg) (1 : Int32)) fun σ3 =>
some σ3)
else (some (q1.2))
set_option maxHeartbeats 4000000 in
set_option maxRecDepth 100000 in
theorem b_X7_startNod_56 {N : Nat} {x1 : Int32} {σ : Sg} {z : Sg} (C : Cx p s m args meth c cX7_startNod 2 none RX7 g A X) (hf : f_X7_startNod_56 N x1 σ = some z) : Bk cw p l e rm_X7_startNod_56 s m args below meth c 2 g A (MQ below (qV cw g A z) args s 0 0 A) 0 0 0 [(0, .ref (g.2.2 56)), (1, .int x1)] [] σ := by
  obtain ⟨hx, hb, hr, hml, hown, hts, hK, hlocks, hXX, hA, hXo⟩ := id C
  intro H locs ls hP hD hS hl
  unfold f_X7_startNod_56 at hf
  refine lv_aload_n hx hb dX7_startNod_0 rfl (lv_at hl 0 rfl) ?_
  refine lv_iload_n hx hb dX7_startNod_1 rfl (lv_at hl 1 rfl) ?_
  obtain ⟨q1, hq1, hf⟩ := bi_s hf
  refine bk_VI (wf := cw) (q0 := 56) (ci := 7) (rest := []) [.int x1] C hP hD hS hl.1 (c_X7_sleeps_56 hXo hq1) (cwA_V 1 hts wa_926 wa_931 wa_924 wa_925 wa_93 rfl rfl nd_X7_sleeps ⟨Nat.le_of_ble_eq_true rfl, Nat.le_of_ble_eq_true rfl⟩) rfl rfl rfl rfl (Nat.le_of_ble_eq_true rfl) dX7_startNod_2 ⟨Nat.le_of_ble_eq_true rfl, Nat.le_of_ble_eq_true rfl⟩ (fun H locs hP hD hS => ?_)
  refine lv_if_ne (tgt := 15) hx hb dX7_startNod_5 (by decide) (fun t5 => ?_) (fun t5 => ?_)
  · have hf := (if_neg t5).symm.trans hf
    cases hf
    exact bk_vret C hP hD hS rfl dX7_startNod_15
  · have hf := (if_pos t5).symm.trans hf
    refine lv_aload_n hx hb dX7_startNod_8 rfl (lv_at hl 0 rfl) ?_
    refine bk_get (wf := cw) (q0 := 56) (ci := 7) (k := 2) (v := .ref (g.2.2 57)) C hP wl_X7 rfl rfl (by decide) wa_109 rfl rfl dX7_startNod_9 ?_
    refine lv_iload_n hx hb dX7_startNod_12 rfl (lv_at hl 1 rfl) ?_
    refine lv_iconst (v := (1 : Int32)) hx hb dX7_startNod_13 (by decide) ?_
    obtain ⟨g2, hf⟩ := gd_s hf
    obtain ⟨σ3, eσ3, hf⟩ := bd_s hf
    refine bk_iast (wf := cw) (σ1 := σ3) (q0 := 57) (n := 9) (j := x1.toNatClampNeg) C hP hD hS rfl g2 rfl (by rw [eσ3]; exact cw_a57 g _ _ _) dX7_startNod_14 (fun H locs hP hD hS => ?_)
    cases hf
    exact bk_vret C hP hD hS rfl dX7_startNod_15
theorem c_X7_startNod_56 {N : Nat} {x1 : Int32} {σ : Sg} {z : Sg} (hX : xOK g X) (hf : f_X7_startNod_56 N x1 σ = some z) : MetV l yX7_startNod (Cond.code yX7_startNod cX7_startNod 2 none :: wsA) rm_X7_startNod_56 cw g X [.ref (g.2.2 56), .int x1] σ z :=
  MetV_of hX (by decide) (Nat.le_of_ble_eq_true rfl) (fun p e s m args below meth c A C => b_X7_startNod_56 C hf)
-- X7_quiet_56: quiet()V
abbrev rm_X7_quiet_56 : Room := { frames := 0, cells := 0, slots := 0, locals := 0 }
def s_X7_quiet_56_h2 (N : Nat) (x1 : Int32) (σ : Sg) : Option (Nat × Int32 × Sg) :=
if (9 : Int32) ≤ x1 then (some (1, 0, σ))
else (if (x1 < 0 ∨ 9 ≤ x1.toNatClampNeg) then none else
bd (wr σ 57 (x1.toNatClampNeg) (0 : Int32)) fun σ2 =>
bd (x1 + (1 : Int32)) fun v3 =>
some (0, v3, σ2))
set_option maxHeartbeats 4000000 in
set_option maxRecDepth 100000 in
theorem e_X7_quiet_56_h2 {N : Nat} {x1 : Int32} {σ : Sg} {z : Nat × Int32 × Sg} (C : Cx p s m args meth c cX7_quiet 2 none RX7 g A X) (hf : s_X7_quiet_56_h2 N x1 σ = some z) (k0 : z.1 = 0 → Bk cw p l e rm_X7_quiet_56 s m args below meth c 2 g A Q 0 0 2 [(0, .ref (g.2.2 56)), (1, .int z.2.1)] [] z.2.2) (k : ¬ z.1 = 0 → Bk cw p l e rm_X7_quiet_56 s m args below meth c 2 g A Q 0 0 21 [] [] z.2.2) : Bk cw p l e rm_X7_quiet_56 s m args below meth c 2 g A Q 0 0 2 [(0, .ref (g.2.2 56)), (1, .int x1)] [] σ := by
  obtain ⟨hx, hb, hr, hml, hown, hts, hK, hlocks, hXX, hA, hXo⟩ := id C
  intro H locs ls hP hD hS hl
  unfold s_X7_quiet_56_h2 at hf
  refine lv_iload_n hx hb dX7_quiet_2 rfl (lv_at hl 1 rfl) ?_
  refine lv_bipush (v := (9 : Int32)) hx hb dX7_quiet_3 (by decide) ?_
  refine lv_icmp_ge (tgt := 21) hx hb dX7_quiet_5 (by decide) (fun t5 => ?_) (fun t5 => ?_)
  · have hf := (if_pos t5).symm.trans hf
    cases hf
    exact (k (show ¬ (1 : Nat) = 0 by decide)) H locs ls hP hD hS (lv_sub hl [] rfl)
  · have hf := (if_neg t5).symm.trans hf
    refine lv_aload_n hx hb dX7_quiet_8 rfl (lv_at hl 0 rfl) ?_
    refine bk_get (wf := cw) (q0 := 56) (ci := 7) (k := 2) (v := .ref (g.2.2 57)) C hP wl_X7 rfl rfl (by decide) wa_109 rfl rfl dX7_quiet_9 ?_
    refine lv_iload_n hx hb dX7_quiet_12 rfl (lv_at hl 1 rfl) ?_
    refine lv_iconst (v := (0 : Int32)) hx hb dX7_quiet_13 (by decide) ?_
    obtain ⟨g1, hf⟩ := gd_s hf
    obtain ⟨σ2, eσ2, hf⟩ := bd_s hf
    refine bk_iast (wf := cw) (σ1 := σ2) (q0 := 57) (n := 9) (j := x1.toNatClampNeg) C hP hD hS rfl g1 rfl (by rw [eσ2]; exact cw_a57 g _ _ _) dX7_quiet_14 (fun H locs hP hD hS => ?_)
    obtain ⟨v3, ev3, hf⟩ := bd_s hf
    refine lv_iinc (v := v3) (lv' := [(1, .int v3), (0, .ref (g.2.2 56))]) hx hb dX7_quiet_15 hl (k := 1) rfl (by rw [ev3]; rfl) (by decide) rfl (fun ls hl => ?_)
    refine lv_goto (tgt := 2) hx hb dX7_quiet_18 (by decide) ?_
    cases hf
    exact k0 rfl H locs ls hP hD hS (lv_sub hl [1, 0] rfl)
theorem lp_X7_quiet_56_h2 {N n : Nat} {x1 : Int32} {σ : Sg} {z : Nat × Int32 × Sg} (C : Cx p s m args meth c cX7_quiet 2 none RX7 g A X) (hz : it (fun q => s_X7_quiet_56_h2 N q.1 q.2) n (x1, σ) = some z) (k : Bk cw p l e rm_X7_quiet_56 s m args below meth c 2 g A Q 0 0 21 [] [] z.2.2) : Bk cw p l e rm_X7_quiet_56 s m args below meth c 2 g A Q 0 0 2 [(0, .ref (g.2.2 56)), (1, .int x1)] [] σ :=
  it_W (S := Int32 × Sg) (fun q => Bk cw p l e rm_X7_quiet_56 s m args below meth c 2 g A Q 0 0 2 [(0, .ref (g.2.2 56)), (1, .int q.1)] [] q.2) (fun z => Bk cw p l e rm_X7_quiet_56 s m args below meth c 2 g A Q 0 0 21 [] [] z.2.2) (fun q z hq k0 k => e_X7_quiet_56_h2 C hq k0 k) n (x1, σ) z hz k
def f_X7_quiet_56 (N : Nat) (σ : Sg) : Option (Sg) :=
(it (fun q => s_X7_quiet_56_h2 N q.1 q.2) N ((0 : Int32), σ)).bind fun z4 =>
some (z4.2.2)
set_option maxHeartbeats 4000000 in
set_option maxRecDepth 100000 in
theorem b_X7_quiet_56 {N : Nat} {σ : Sg} {z : Sg} (C : Cx p s m args meth c cX7_quiet 2 none RX7 g A X) (hf : f_X7_quiet_56 N σ = some z) : Bk cw p l e rm_X7_quiet_56 s m args below meth c 2 g A (MQ below (qV cw g A z) args s 0 0 A) 0 0 0 [(0, .ref (g.2.2 56))] [] σ := by
  obtain ⟨hx, hb, hr, hml, hown, hts, hK, hlocks, hXX, hA, hXo⟩ := id C
  intro H locs ls hP hD hS hl
  unfold f_X7_quiet_56 at hf
  refine lv_iconst (v := (0 : Int32)) hx hb dX7_quiet_0 (by decide) ?_
  refine lv_istore_n (lv' := [(1, .int (0 : Int32)), (0, .ref (g.2.2 56))]) hx hb dX7_quiet_1 rfl hl (by decide) rfl (fun ls hl => ?_)
  obtain ⟨z4, hz4, hf⟩ := bi_s hf
  refine lp_X7_quiet_56_h2 C hz4 ?_ H locs ls hP hD hS (lv_sub hl [1, 0] rfl)
  intro H locs ls hP hD hS hl
  cases hf
  exact bk_vret C hP hD hS rfl dX7_quiet_21
theorem c_X7_quiet_56 {N : Nat} {σ : Sg} {z : Sg} (hX : xOK g X) (hf : f_X7_quiet_56 N σ = some z) : MetV l yX7_quiet (Cond.code yX7_quiet cX7_quiet 2 none :: wsA) rm_X7_quiet_56 cw g X [.ref (g.2.2 56)] σ z :=
  MetV_of hX (by decide) (Nat.le_of_ble_eq_true rfl) (fun p e s m args below meth c A C => b_X7_quiet_56 C hf)
-- X2_startAnew_55_22: startAnew(LNodPost$State;I)V
abbrev rm_X2_startAnew_55_22 : Room := { frames := 4, cells := 0, slots := 0, locals := 144 }
theorem nd_X2_startAnew : yX2_startAnew.cls ≠ "java/lang/invoke/MethodHandle" ∧ yX2_startAnew.cls ≠ "java/lang/invoke/VarHandle" ∧ (parseMethodDescriptor yX2_startAnew.desc).map (fun d => d.parameters.length) = some 2 := by decide +kernel
def f_X2_startAnew_55_22_b52 (N : Nat) (x2 : Int32) (x3 : Int32) (σ : Sg) : Option (Nat × Int32 × Sg) :=
bd (x3 + (1 : Int32)) fun v1 =>
some (0, v1, σ)
set_option maxHeartbeats 4000000 in
set_option maxRecDepth 100000 in
theorem b_X2_startAnew_55_22_b52 {N : Nat} {x2 : Int32} {x3 : Int32} {σ : Sg} {z : Nat × Int32 × Sg} (C : Cx p s m args meth c cX2_startAnew 4 none RX2 g A X) (hf : f_X2_startAnew_55_22_b52 N x2 x3 σ = some z) (k0 : z.1 = 0 → Bk cw p l e rm_X2_startAnew_55_22 s m args below meth c 4 g A Q 0 0 14 [(0, .ref (g.2.2 55)), (2, .int x2), (3, .int z.2.1)] [] z.2.2) (k : ¬ z.1 = 0 → Bk cw p l e rm_X2_startAnew_55_22 s m args below meth c 4 g A Q 0 0 58 [] [] z.2.2) : Bk cw p l e rm_X2_startAnew_55_22 s m args below meth c 4 g A Q 0 0 52 [(0, .ref (g.2.2 55)), (2, .int x2), (3, .int x3)] [] σ := by
  obtain ⟨hx, hb, hr, hml, hown, hts, hK, hlocks, hXX, hA, hXo⟩ := id C
  intro H locs ls hP hD hS hl
  unfold f_X2_startAnew_55_22_b52 at hf
  obtain ⟨v1, ev1, hf⟩ := bd_s hf
  refine lv_iinc (v := v1) (lv' := [(3, .int v1), (0, .ref (g.2.2 55)), (2, .int x2)]) hx hb dX2_startAnew_52 hl (k := 2) rfl (by rw [ev1]; rfl) (by decide) rfl (fun ls hl => ?_)
  refine lv_goto (tgt := 14) hx hb dX2_startAnew_55 (by decide) ?_
  cases hf
  exact k0 rfl H locs ls hP hD hS (lv_sub hl [1, 2, 0] rfl)
def s_X2_startAnew_55_22_h14 (N : Nat) (x2 : Int32) (x3 : Int32) (σ : Sg) : Option (Nat × Int32 × Sg) :=
if (σ 12 0) ≤ x3 then (some (1, 0, σ))
else (if (x3 < 0 ∨ 9 ≤ x3.toNatClampNeg) then none else
bd (wr σ 58 (x3.toNatClampNeg) (0 : Int32)) fun σ3 =>
if ((x2 >>> (x3 &&& 31)) &&& (1 : Int32)) = (1 : Int32) then ((f_X7_startNod_56 N x3 σ3).bind fun q4 =>
f_X2_startAnew_55_22_b52 N x2 x3 q4)
else (f_X2_startAnew_55_22_b52 N x2 x3 σ3))
set_option maxHeartbeats 4000000 in
set_option maxRecDepth 100000 in
theorem e_X2_startAnew_55_22_h14 {N : Nat} {x2 : Int32} {x3 : Int32} {σ : Sg} {z : Nat × Int32 × Sg} (C : Cx p s m args meth c cX2_startAnew 4 none RX2 g A X) (hf : s_X2_startAnew_55_22_h14 N x2 x3 σ = some z) (k0 : z.1 = 0 → Bk cw p l e rm_X2_startAnew_55_22 s m args below meth c 4 g A Q 0 0 14 [(0, .ref (g.2.2 55)), (2, .int x2), (3, .int z.2.1)] [] z.2.2) (k : ¬ z.1 = 0 → Bk cw p l e rm_X2_startAnew_55_22 s m args below meth c 4 g A Q 0 0 58 [] [] z.2.2) : Bk cw p l e rm_X2_startAnew_55_22 s m args below meth c 4 g A Q 0 0 14 [(0, .ref (g.2.2 55)), (2, .int x2), (3, .int x3)] [] σ := by
  obtain ⟨hx, hb, hr, hml, hown, hts, hK, hlocks, hXX, hA, hXo⟩ := id C
  intro H locs ls hP hD hS hl
  unfold s_X2_startAnew_55_22_h14 at hf
  refine lv_iload_n hx hb dX2_startAnew_14 rfl (lv_at hl 2 rfl) ?_
  refine lv_aload_n hx hb dX2_startAnew_15 rfl (lv_at hl 0 rfl) ?_
  refine bk_get (wf := cw) (q0 := 55) (ci := 2) (k := 3) (v := .ref (g.2.2 12)) C hP wl_X2 rfl rfl (by decide) wa_148 rfl rfl dX2_startAnew_16 ?_
  refine bk_get (wf := cw) (q0 := 12) (ci := 8) (k := 0) (v := .int (σ 12 0)) C hP wl_X9 rfl rfl (by decide) wa_840 rfl rfl dX2_startAnew_19 ?_
  refine lv_icmp_ge (tgt := 58) hx hb dX2_startAnew_22 (by decide) (fun t22 => ?_) (fun t22 => ?_)
  · have hf := (if_pos t22).symm.trans hf
    cases hf
    exact (k (show ¬ (1 : Nat) = 0 by decide)) H locs ls hP hD hS (lv_sub hl [] rfl)
  · have hf := (if_neg t22).symm.trans hf
    refine lv_aload_n hx hb dX2_startAnew_25 rfl (lv_at hl 0 rfl) ?_
    refine bk_get (wf := cw) (q0 := 55) (ci := 2) (k := 0) (v := .ref (g.2.2 56)) C hP wl_X2 rfl rfl (by decide) wa_144 rfl rfl dX2_startAnew_26 ?_
    refine bk_get (wf := cw) (q0 := 56) (ci := 7) (k := 3) (v := .ref (g.2.2 58)) C hP wl_X7 rfl rfl (by decide) wa_847 rfl rfl dX2_startAnew_29 ?_
    refine lv_iload_n hx hb dX2_startAnew_32 rfl (lv_at hl 2 rfl) ?_
    refine lv_iconst (v := (0 : Int32)) hx hb dX2_startAnew_33 (by decide) ?_
    obtain ⟨g2, hf⟩ := gd_s hf
    obtain ⟨σ3, eσ3, hf⟩ := bd_s hf
    refine bk_iast (wf := cw) (σ1 := σ3) (q0 := 58) (n := 9) (j := x3.toNatClampNeg) C hP hD hS rfl g2 rfl (by rw [eσ3]; exact cw_a58 g _ _ _) dX2_startAnew_34 (fun H locs hP hD hS => ?_)
    refine lv_iload_n hx hb dX2_startAnew_35 rfl (lv_at hl 1 rfl) ?_
    refine lv_iload_n hx hb dX2_startAnew_36 rfl (lv_at hl 2 rfl) ?_
    refine lv_ishr hx hb dX2_startAnew_37 ?_
    refine lv_iconst (v := (1 : Int32)) hx hb dX2_startAnew_38 (by decide) ?_
    refine lv_iand hx hb dX2_startAnew_39 ?_
    refine lv_iconst (v := (1 : Int32)) hx hb dX2_startAnew_40 (by decide) ?_
    refine lv_icmp_ne (tgt := 52) hx hb dX2_startAnew_41 (by decide) (fun t41 => ?_) (fun t41 => ?_)
    · have hf := (if_neg t41).symm.trans hf
      exact b_X2_startAnew_55_22_b52 C hf k0 k H locs ls hP hD hS (lv_sub hl [0, 1, 2] rfl)
    · have hf := (if_pos t41).symm.trans hf
      refine lv_aload_n hx hb dX2_startAnew_44 rfl (lv_at hl 0 rfl) ?_
      refine bk_get (wf := cw) (q0 := 55) (ci := 2) (k := 0) (v := .ref (g.2.2 56)) C hP wl_X2 rfl rfl (by decide) wa_144 rfl rfl dX2_startAnew_45 ?_
      refine lv_iload_n hx hb dX2_startAnew_48 rfl (lv_at hl 2 rfl) ?_
      obtain ⟨q4, hq4, hf⟩ := bi_s hf
      refine bk_VV (wf := cw) (q0 := 56) (ci := 7) (rest := []) [.int x3] C hP hD hS hl.1 (c_X7_startNod_56 hXo hq4) (cwA_V 1 hts wa_930 wa_1105 wa_928 wa_929 wa_93 rfl rfl nd_X7_startNod ⟨Nat.le_of_ble_eq_true rfl, Nat.le_of_ble_eq_true rfl⟩) rfl rfl rfl rfl (Nat.le_of_ble_eq_true rfl) dX2_startAnew_49 ⟨Nat.le_of_ble_eq_true rfl, Nat.le_of_ble_eq_true rfl⟩ (fun H locs hP hD hS => ?_)
      exact b_X2_startAnew_55_22_b52 C hf k0 k H locs ls hP hD hS (lv_sub hl [0, 1, 2] rfl)
theorem lp_X2_startAnew_55_22_h14 {N n : Nat} {x2 : Int32} {x3 : Int32} {σ : Sg} {z : Nat × Int32 × Sg} (C : Cx p s m args meth c cX2_startAnew 4 none RX2 g A X) (hz : it (fun q => s_X2_startAnew_55_22_h14 N x2 q.1 q.2) n (x3, σ) = some z) (k : Bk cw p l e rm_X2_startAnew_55_22 s m args below meth c 4 g A Q 0 0 58 [] [] z.2.2) : Bk cw p l e rm_X2_startAnew_55_22 s m args below meth c 4 g A Q 0 0 14 [(0, .ref (g.2.2 55)), (2, .int x2), (3, .int x3)] [] σ :=
  it_W (S := Int32 × Sg) (fun q => Bk cw p l e rm_X2_startAnew_55_22 s m args below meth c 4 g A Q 0 0 14 [(0, .ref (g.2.2 55)), (2, .int x2), (3, .int q.1)] [] q.2) (fun z => Bk cw p l e rm_X2_startAnew_55_22 s m args below meth c 4 g A Q 0 0 58 [] [] z.2.2) (fun q z hq k0 k => e_X2_startAnew_55_22_h14 C hq k0 k) n (x3, σ) z hz k
def f_X2_startAnew_55_22 (N : Nat) (x2 : Int32) (σ : Sg) : Option (Sg) :=
(f_X2_start_55_22 N σ).bind fun q5 =>
(f_X7_quiet_56 N q5).bind fun q6 =>
(it (fun q => s_X2_startAnew_55_22_h14 N x2 q.1 q.2) N ((0 : Int32), q6)).bind fun z7 =>
some (z7.2.2)
set_option maxHeartbeats 4000000 in
set_option maxRecDepth 100000 in
theorem b_X2_startAnew_55_22 {N : Nat} {x2 : Int32} {σ : Sg} {z : Sg} (C : Cx p s m args meth c cX2_startAnew 4 none RX2 g A X) (hf : f_X2_startAnew_55_22 N x2 σ = some z) : Bk cw p l e rm_X2_startAnew_55_22 s m args below meth c 4 g A (MQ below (qV cw g A z) args s 0 0 A) 0 0 0 [(0, .ref (g.2.2 55)), (1, .ref (g.2.2 22)), (2, .int x2)] [] σ := by
  obtain ⟨hx, hb, hr, hml, hown, hts, hK, hlocks, hXX, hA, hXo⟩ := id C
  intro H locs ls hP hD hS hl
  unfold f_X2_startAnew_55_22 at hf
  refine lv_aload_n hx hb dX2_startAnew_0 rfl (lv_at hl 0 rfl) ?_
  refine lv_aload_n hx hb dX2_startAnew_1 rfl (lv_at hl 1 rfl) ?_
  obtain ⟨q5, hq5, hf⟩ := bi_s hf
  refine bk_VV (wf := cw) (q0 := 55) (ci := 2) (rest := []) [.ref (g.2.2 22)] C hP hD hS hl.1 (c_X2_start_55_22 hXo hq5) (cwA_V 1 hts wa_825 wa_1103 wa_823 wa_824 wa_41 rfl rfl nd_X2_start ⟨Nat.le_of_ble_eq_true rfl, Nat.le_of_ble_eq_true rfl⟩) rfl rfl rfl rfl (Nat.le_of_ble_eq_true rfl) dX2_startAnew_2 ⟨Nat.le_of_ble_eq_true rfl, Nat.le_of_ble_eq_true rfl⟩ (fun H locs hP hD hS => ?_)
  refine lv_aload_n hx hb dX2_startAnew_5 rfl (lv_at hl 0 rfl) ?_
  refine bk_get (wf := cw) (q0 := 55) (ci := 2) (k := 0) (v := .ref (g.2.2 56)) C hP wl_X2 rfl rfl (by decide) wa_144 rfl rfl dX2_startAnew_6 ?_
  obtain ⟨q6, hq6, hf⟩ := bi_s hf
  refine bk_VV (wf := cw) (q0 := 56) (ci := 7) (rest := []) [] C hP hD hS hl.1 (c_X7_quiet_56 hXo hq6) (cwA_V 0 hts wa_460 wa_1104 wa_458 wa_459 wa_93 rfl rfl nd_X7_quiet ⟨Nat.le_of_ble_eq_true rfl, Nat.le_of_ble_eq_true rfl⟩) rfl rfl rfl rfl (Nat.le_of_ble_eq_true rfl) dX2_startAnew_9 ⟨Nat.le_of_ble_eq_true rfl, Nat.le_of_ble_eq_true rfl⟩ (fun H locs hP hD hS => ?_)
  refine lv_iconst (v := (0 : Int32)) hx hb dX2_startAnew_12 (by decide) ?_
  refine lv_istore_n (lv' := [(3, .int (0 : Int32)), (0, .ref (g.2.2 55)), (1, .ref (g.2.2 22)), (2, .int x2)]) hx hb dX2_startAnew_13 rfl hl (by decide) rfl (fun ls hl => ?_)
  obtain ⟨z7, hz7, hf⟩ := bi_s hf
  refine lp_X2_startAnew_55_22_h14 C hz7 ?_ H locs ls hP hD hS (lv_sub hl [1, 3, 0] rfl)
  intro H locs ls hP hD hS hl
  cases hf
  exact bk_vret C hP hD hS rfl dX2_startAnew_58
theorem c_X2_startAnew_55_22 {N : Nat} {x2 : Int32} {σ : Sg} {z : Sg} (hX : xOK g X) (hf : f_X2_startAnew_55_22 N x2 σ = some z) : MetV l yX2_startAnew (Cond.code yX2_startAnew cX2_startAnew 4 none :: wsA) rm_X2_startAnew_55_22 cw g X [.ref (g.2.2 55), .ref (g.2.2 22), .int x2] σ z :=
  MetV_of hX (by decide) (Nat.le_of_ble_eq_true rfl) (fun p e s m args below meth c A C => b_X2_startAnew_55_22 C hf)
-- X11_reaches_0: reaches(II)I
abbrev rm_X11_reaches_0 : Room := { frames := 8, cells := 2, slots := 12, locals := 167 }
theorem nd_X11_reaches : yX11_reaches.cls ≠ "java/lang/invoke/MethodHandle" ∧ yX11_reaches.cls ≠ "java/lang/invoke/VarHandle" ∧ (parseMethodDescriptor yX11_reaches.desc).map (fun d => d.parameters.length) = some 2 := by decide +kernel
def f_X11_reaches_0 (N : Nat) (x1 : Int32) (x2 : Int32) (σ : Sg) : Option (Zt) :=
(f_X11_needFarms_0 N x1 x2 σ).bind fun q1 =>
if q1.1 = 0 then ((f_X2_startAnew_55_22 N ((1 : Int32) <<< (x1 &&& 31)) (q1.2.2)).bind fun q2 =>
(f_X2_firstNod_55 N x2 q2).bind fun q3 =>
some (0, q3.1, (q3.2)))
else some (q1.1, 0, q1.2.2)
set_option maxHeartbeats 4000000 in
set_option maxRecDepth 100000 in
theorem b_X11_reaches_0 {N : Nat} {x1 : Int32} {x2 : Int32} {σ : Sg} {z : Zt} (C : Cx p s m args meth c cX11_reaches 3 (some .int) RX11 g A X) (hex : ∀ x ∈ c.exceptionTable.toList, False) (hst : l.stackTraces = false) (hf : f_X11_reaches_0 N x1 x2 σ = some z) : Bk cw p l e rm_X11_reaches_0 s m args below meth c 3 g A (vx_MQ below (qTi cw g A z) (xT cw g A z) args s 2 12 A) 0 0 0 [(0, .ref (g.2.2 0)), (1, .int x1), (2, .int x2)] [] σ := by
  obtain ⟨hx, hb, hr, hml, hown, hts, hK, hlocks, hXX, hA, hXo⟩ := id C
  intro H locs ls hP hD hS hl
  unfold f_X11_reaches_0 at hf
  refine lv_aload_n hx hb dX11_reaches_0 rfl (lv_at hl 0 rfl) ?_
  refine lv_iload_n hx hb dX11_reaches_1 rfl (lv_at hl 1 rfl) ?_
  refine lv_iload_n hx hb dX11_reaches_2 rfl (lv_at hl 2 rfl) ?_
  obtain ⟨q1, hq1, hf⟩ := bi_s hf
  refine bk_TV (wf := cw) (q0 := 0) (ci := 10) (rest := []) [.int x1, .int x2] C hex hP hD hS hl.1 (c_X11_needFarms_0 hXo hst hq1) (cwA_V 2 hts wa_1098 wa_1095 wa_1096 wa_1097 wa_2 rfl rfl nd_X11_needFarms ⟨Nat.le_of_ble_eq_true rfl, Nat.le_of_ble_eq_true rfl⟩) rfl rfl rfl rfl (Nat.le_of_ble_eq_true rfl) dX11_reaches_3 ⟨Nat.le_of_ble_eq_true rfl, Nat.le_of_ble_eq_true rfl⟩ ⟨Nat.le_of_ble_eq_true rfl, Nat.le_of_ble_eq_true rfl⟩ (fun h0 => by have hf := (if_neg h0).symm.trans hf; cases hf; exact ⟨rfl, rfl⟩) (fun h0 H locs hP hD hS => ?_)
  have hf := (if_pos h0).symm.trans hf
  refine lv_aload_n hx hb dX11_reaches_6 rfl (lv_at hl 0 rfl) ?_
  refine bk_get (wf := cw) (q0 := 0) (ci := 10) (k := 10) (v := .ref (g.2.2 55)) C hP wl_X11 rfl rfl (by decide) wa_42 rfl rfl dX11_reaches_7 ?_
  refine lv_aload_n hx hb dX11_reaches_10 rfl (lv_at hl 0 rfl) ?_
  refine bk_get (wf := cw) (q0 := 0) (ci := 10) (k := 4) (v := .ref (g.2.2 21)) C hP wl_X11 rfl rfl (by decide) wa_27 rfl rfl dX11_reaches_11 ?_
  refine bk_get (wf := cw) (q0 := 21) (ci := 1) (k := 0) (v := .ref (g.2.2 22)) C hP wl_X1 rfl rfl (by decide) wa_221 rfl rfl dX11_reaches_14 ?_
  refine lv_iconst (v := (1 : Int32)) hx hb dX11_reaches_17 (by decide) ?_
  refine lv_iload_n hx hb dX11_reaches_18 rfl (lv_at hl 1 rfl) ?_
  refine lv_ishl hx hb dX11_reaches_19 ?_
  obtain ⟨q2, hq2, hf⟩ := bi_s hf
  refine bk_VV (wf := cw) (q0 := 55) (ci := 2) (rest := []) [.ref (g.2.2 22), .int ((1 : Int32) <<< (x1 &&& 31))] C hP hD hS hl.1 (c_X2_startAnew_55_22 hXo hq2) (cwA_V 2 hts wa_1102 wa_1099 wa_1100 wa_1101 wa_41 rfl rfl nd_X2_startAnew ⟨Nat.le_of_ble_eq_true rfl, Nat.le_of_ble_eq_true rfl⟩) rfl rfl rfl rfl (Nat.le_of_ble_eq_true rfl) dX11_reaches_20 ⟨Nat.le_of_ble_eq_true rfl, Nat.le_of_ble_eq_true rfl⟩ (fun H locs hP hD hS => ?_)
  refine lv_aload_n hx hb dX11_reaches_23 rfl (lv_at hl 0 rfl) ?_
  refine bk_get (wf := cw) (q0 := 0) (ci := 10) (k := 10) (v := .ref (g.2.2 55)) C hP wl_X11 rfl rfl (by decide) wa_42 rfl rfl dX11_reaches_24 ?_
  refine lv_iload_n hx hb dX11_reaches_27 rfl (lv_at hl 2 rfl) ?_
  obtain ⟨q3, hq3, hf⟩ := bi_s hf
  refine bk_VI (wf := cw) (q0 := 55) (ci := 2) (rest := []) [.int x2] C hP hD hS hl.1 (c_X2_firstNod_55 hXo hq3) (cwA_V 1 hts wa_1050 wa_1047 wa_1048 wa_1049 wa_41 rfl rfl nd_X2_firstNod ⟨Nat.le_of_ble_eq_true rfl, Nat.le_of_ble_eq_true rfl⟩) rfl rfl rfl rfl (Nat.le_of_ble_eq_true rfl) dX11_reaches_28 ⟨Nat.le_of_ble_eq_true rfl, Nat.le_of_ble_eq_true rfl⟩ (fun H locs hP hD hS => ?_)
  exact bk_iretT C hP hD hS hf (Nat.le_of_ble_eq_true rfl) (Nat.le_of_ble_eq_true rfl) dX11_reaches_31
theorem c_X11_reaches_0 {N : Nat} {x1 : Int32} {x2 : Int32} {σ : Sg} {z : Zt} (hX : xOK g X) (hst : l.stackTraces = false) (hf : f_X11_reaches_0 N x1 x2 σ = some z) : MetTi l yX11_reaches (Cond.code yX11_reaches cX11_reaches 3 (some .int) :: wsA) rm_X11_reaches_0 2 12 cw g X [.ref (g.2.2 0), .int x1, .int x2] σ z :=
  MetTi_of hX (by decide) (Nat.le_of_ble_eq_true rfl) (fun p e s m args below meth c A C hex => b_X11_reaches_0 C hex hst hf)
-- X2_gather_55: gather(I)I
abbrev rm_X2_gather_55 : Room := { frames := 6, cells := 0, slots := 0, locals := 140 }
theorem nd_X2_gather : yX2_gather.cls ≠ "java/lang/invoke/MethodHandle" ∧ yX2_gather.cls ≠ "java/lang/invoke/VarHandle" ∧ (parseMethodDescriptor yX2_gather.desc).map (fun d => d.parameters.length) = some 1 := by decide +kernel
def s_X2_gather_55_h23 (N : Nat) (x1 : Int32) (x3 : Int32) (x2 : Int32) (x4 : Int32) (σ : Sg) : Option (Nat × Int32 × Int32 × Sg) :=
if x1 ≤ x4 then (some (1, x2, 0, σ))
else (if x2 = x3 then (some (1, x2, 0, σ))
else ((f_X7_whoWaits_56 N σ).bind fun q1 =>
if q1.1 = 0 then (some (1, x2, 0, (q1.2)))
else ((f_X2_go_55 N (q1.2)).bind fun q2 =>
bd (x2 ||| q2.1) fun v3 =>
bd (x4 + (1 : Int32)) fun v4 =>
some (0, v3, v4, (q2.2)))))
set_option maxHeartbeats 4000000 in
set_option maxRecDepth 100000 in
theorem e_X2_gather_55_h23 {N : Nat} {x1 : Int32} {x3 : Int32} {x2 : Int32} {x4 : Int32} {σ : Sg} {z : Nat × Int32 × Int32 × Sg} (C : Cx p s m args meth c cX2_gather 5 (some .int) RX2 g A X) (hf : s_X2_gather_55_h23 N x1 x3 x2 x4 σ = some z) (k0 : z.1 = 0 → Bk cw p l e rm_X2_gather_55 s m args below meth c 5 g A Q 0 0 23 [(0, .ref (g.2.2 55)), (1, .int x1), (2, .int z.2.1), (3, .int x3), (4, .int z.2.2.1)] [] z.2.2.2) (k : ¬ z.1 = 0 → Bk cw p l e rm_X2_gather_55 s m args below meth c 5 g A Q 0 0 57 [(2, .int z.2.1)] [] z.2.2.2) : Bk cw p l e rm_X2_gather_55 s m args below meth c 5 g A Q 0 0 23 [(0, .ref (g.2.2 55)), (1, .int x1), (2, .int x2), (3, .int x3), (4, .int x4)] [] σ := by
  obtain ⟨hx, hb, hr, hml, hown, hts, hK, hlocks, hXX, hA, hXo⟩ := id C
  intro H locs ls hP hD hS hl
  unfold s_X2_gather_55_h23 at hf
  refine lv_iload hx hb dX2_gather_23 (lv_at hl 4 rfl) ?_
  refine lv_iload_n hx hb dX2_gather_25 rfl (lv_at hl 1 rfl) ?_
  refine lv_icmp_ge (tgt := 57) hx hb dX2_gather_26 (by decide) (fun t26 => ?_) (fun t26 => ?_)
  · have hf := (if_pos t26).symm.trans hf
    cases hf
    exact (k (show ¬ (1 : Nat) = 0 by decide)) H locs ls hP hD hS (lv_sub hl [2] rfl)
  · have hf := (if_neg t26).symm.trans hf
    refine lv_iload_n hx hb dX2_gather_29 rfl (lv_at hl 2 rfl) ?_
    refine lv_iload_n hx hb dX2_gather_30 rfl (lv_at hl 3 rfl) ?_
    refine lv_icmp_eq (tgt := 57) hx hb dX2_gather_31 (by decide) (fun t31 => ?_) (fun t31 => ?_)
    · have hf := (if_pos t31).symm.trans hf
      cases hf
      exact (k (show ¬ (1 : Nat) = 0 by decide)) H locs ls hP hD hS (lv_sub hl [2] rfl)
    · have hf := (if_neg t31).symm.trans hf
      refine lv_aload_n hx hb dX2_gather_34 rfl (lv_at hl 0 rfl) ?_
      refine bk_get (wf := cw) (q0 := 55) (ci := 2) (k := 0) (v := .ref (g.2.2 56)) C hP wl_X2 rfl rfl (by decide) wa_144 rfl rfl dX2_gather_35 ?_
      obtain ⟨q1, hq1, hf⟩ := bi_s hf
      refine bk_VI (wf := cw) (q0 := 56) (ci := 7) (rest := []) [] C hP hD hS hl.1 (c_X7_whoWaits_56 hXo hq1) (cwA_V 0 hts wa_662 wa_1134 wa_660 wa_661 wa_93 rfl rfl nd_X7_whoWaits ⟨Nat.le_of_ble_eq_true rfl, Nat.le_of_ble_eq_true rfl⟩) rfl rfl rfl rfl (Nat.le_of_ble_eq_true rfl) dX2_gather_38 ⟨Nat.le_of_ble_eq_true rfl, Nat.le_of_ble_eq_true rfl⟩ (fun H locs hP hD hS => ?_)
      refine lv_if_eq (tgt := 57) hx hb dX2_gather_41 (by decide) (fun t41 => ?_) (fun t41 => ?_)
      · have hf := (if_pos t41).symm.trans hf
        cases hf
        exact (k (show ¬ (1 : Nat) = 0 by decide)) H locs ls hP hD hS (lv_sub hl [2] rfl)
      · have hf := (if_neg t41).symm.trans hf
        refine lv_iload_n hx hb dX2_gather_44 rfl (lv_at hl 2 rfl) ?_
        refine lv_aload_n hx hb dX2_gather_45 rfl (lv_at hl 0 rfl) ?_
        obtain ⟨q2, hq2, hf⟩ := bi_s hf
        refine bk_VI (wf := cw) (q0 := 55) (ci := 2) (rest := [.int x2]) [] C hP hD hS hl.1 (c_X2_go_55 hXo hq2) (cwA_V 0 hts wa_833 wa_1051 wa_831 wa_832 wa_41 rfl rfl nd_X2_go ⟨Nat.le_of_ble_eq_true rfl, Nat.le_of_ble_eq_true rfl⟩) rfl rfl rfl rfl (Nat.le_of_ble_eq_true rfl) dX2_gather_46 ⟨Nat.le_of_ble_eq_true rfl, Nat.le_of_ble_eq_true rfl⟩ (fun H locs hP hD hS => ?_)
        refine lv_ior hx hb dX2_gather_49 ?_
        obtain ⟨v3, ev3, hf⟩ := bd_s hf
        rw [← ev3]
        refine lv_istore_n (lv' := [(2, .int v3), (0, .ref (g.2.2 55)), (1, .int x1), (3, .int x3), (4, .int x4)]) hx hb dX2_gather_50 rfl hl (by decide) rfl (fun ls hl => ?_)
        obtain ⟨v4, ev4, hf⟩ := bd_s hf
        refine lv_iinc (v := v4) (lv' := [(4, .int v4), (2, .int v3), (0, .ref (g.2.2 55)), (1, .int x1), (3, .int x3)]) hx hb dX2_gather_51 hl (k := 4) rfl (by rw [ev4]; rfl) (by decide) rfl (fun ls hl => ?_)
        refine lv_goto (tgt := 23) hx hb dX2_gather_54 (by decide) ?_
        cases hf
        exact k0 rfl H locs ls hP hD hS (lv_sub hl [2, 3, 1, 4, 0] rfl)
theorem lp_X2_gather_55_h23 {N n : Nat} {x1 : Int32} {x3 : Int32} {x2 : Int32} {x4 : Int32} {σ : Sg} {z : Nat × Int32 × Int32 × Sg} (C : Cx p s m args meth c cX2_gather 5 (some .int) RX2 g A X) (hz : it (fun q => s_X2_gather_55_h23 N x1 x3 q.1 q.2.1 q.2.2) n (x2, x4, σ) = some z) (k : Bk cw p l e rm_X2_gather_55 s m args below meth c 5 g A Q 0 0 57 [(2, .int z.2.1)] [] z.2.2.2) : Bk cw p l e rm_X2_gather_55 s m args below meth c 5 g A Q 0 0 23 [(0, .ref (g.2.2 55)), (1, .int x1), (2, .int x2), (3, .int x3), (4, .int x4)] [] σ :=
  it_W (S := Int32 × Int32 × Sg) (fun q => Bk cw p l e rm_X2_gather_55 s m args below meth c 5 g A Q 0 0 23 [(0, .ref (g.2.2 55)), (1, .int x1), (2, .int q.1), (3, .int x3), (4, .int q.2.1)] [] q.2.2) (fun z => Bk cw p l e rm_X2_gather_55 s m args below meth c 5 g A Q 0 0 57 [(2, .int z.2.1)] [] z.2.2.2) (fun q z hq k0 k => e_X2_gather_55_h23 C hq k0 k) n (x2, x4, σ) z hz k
def f_X2_gather_55 (N : Nat) (x1 : Int32) (σ : Sg) : Option (Int32 × Sg) :=
(f_X9_all_12 N σ).bind fun q5 =>
bd (q5.1 &&& (((q5.2) 56 1) ^^^ (-1 : Int32))) fun v6 =>
(it (fun q => s_X2_gather_55_h23 N x1 v6 q.1 q.2.1 q.2.2) N ((0 : Int32), (0 : Int32), (q5.2))).bind fun z7 =>
some ((z7.2.1), (z7.2.2.2))
set_option maxHeartbeats 4000000 in
set_option maxRecDepth 100000 in
theorem b_X2_gather_55 {N : Nat} {x1 : Int32} {σ : Sg} {z : Int32 × Sg} (C : Cx p s m args meth c cX2_gather 5 (some .int) RX2 g A X) (hf : f_X2_gather_55 N x1 σ = some z) : Bk cw p l e rm_X2_gather_55 s m args below meth c 5 g A (MQ below (qI cw g A z.1 z.2) args s 0 0 A) 0 0 0 [(0, .ref (g.2.2 55)), (1, .int x1)] [] σ := by
  obtain ⟨hx, hb, hr, hml, hown, hts, hK, hlocks, hXX, hA, hXo⟩ := id C
  intro H locs ls hP hD hS hl
  unfold f_X2_gather_55 at hf
  refine lv_iconst (v := (0 : Int32)) hx hb dX2_gather_0 (by decide) ?_
  refine lv_istore_n (lv' := [(2, .int (0 : Int32)), (0, .ref (g.2.2 55)), (1, .int x1)]) hx hb dX2_gather_1 rfl hl (by decide) rfl (fun ls hl => ?_)
  refine lv_aload_n hx hb dX2_gather_2 rfl (lv_at hl 1 rfl) ?_
  refine bk_get (wf := cw) (q0 := 55) (ci := 2) (k := 3) (v := .ref (g.2.2 12)) C hP wl_X2 rfl rfl (by decide) wa_148 rfl rfl dX2_gather_3 ?_
  obtain ⟨q5, hq5, hf⟩ := bi_s hf
  refine bk_VI (wf := cw) (q0 := 12) (ci := 8) (rest := []) [] C hP hD hS hl.1 (c_X9_all_12 hXo hq5) (cwA_V 0 hts wa_695 wa_1133 wa_693 wa_694 wa_22 rfl rfl nd_X9_all ⟨Nat.le_of_ble_eq_true rfl, Nat.le_of_ble_eq_true rfl⟩) rfl rfl rfl rfl (Nat.le_of_ble_eq_true rfl) dX2_gather_6 ⟨Nat.le_of_ble_eq_true rfl, Nat.le_of_ble_eq_true rfl⟩ (fun H locs hP hD hS => ?_)
  refine lv_aload_n hx hb dX2_gather_9 rfl (lv_at hl 1 rfl) ?_
  refine bk_get (wf := cw) (q0 := 55) (ci := 2) (k := 0) (v := .ref (g.2.2 56)) C hP wl_X2 rfl rfl (by decide) wa_144 rfl rfl dX2_gather_10 ?_
  refine bk_get (wf := cw) (q0 := 56) (ci := 7) (k := 1) (v := .int ((q5.2) 56 1)) C hP wl_X7 rfl rfl (by decide) wa_856 rfl rfl dX2_gather_13 ?_
  refine lv_iconst (v := (-1 : Int32)) hx hb dX2_gather_16 (by decide) ?_
  refine lv_ixor hx hb dX2_gather_17 ?_
  refine lv_iand hx hb dX2_gather_18 ?_
  obtain ⟨v6, ev6, hf⟩ := bd_s hf
  rw [← ev6]
  refine lv_istore_n (lv' := [(3, .int v6), (2, .int (0 : Int32)), (0, .ref (g.2.2 55)), (1, .int x1)]) hx hb dX2_gather_19 rfl hl (by decide) rfl (fun ls hl => ?_)
  refine lv_iconst (v := (0 : Int32)) hx hb dX2_gather_20 (by decide) ?_
  refine lv_istore (lv' := [(4, .int (0 : Int32)), (3, .int v6), (2, .int (0 : Int32)), (0, .ref (g.2.2 55)), (1, .int x1)]) hx hb dX2_gather_21 hl (by decide) rfl (fun ls hl => ?_)
  obtain ⟨z7, hz7, hf⟩ := bi_s hf
  refine lp_X2_gather_55_h23 C hz7 ?_ H locs ls hP hD hS (lv_sub hl [3, 4, 2, 1, 0] rfl)
  intro H locs ls hP hD hS hl
  refine lv_iload_n hx hb dX2_gather_57 rfl (lv_at hl 0 rfl) ?_
  cases hf
  exact bk_iret C hP hD hS rfl dX2_gather_58
theorem c_X2_gather_55 {N : Nat} {x1 : Int32} {σ : Sg} {z : Int32 × Sg} (hX : xOK g X) (hf : f_X2_gather_55 N x1 σ = some z) : MetI l yX2_gather (Cond.code yX2_gather cX2_gather 5 (some .int) :: wsA) rm_X2_gather_55 cw g X [.ref (g.2.2 55), .int x1] σ z.1 z.2 :=
  MetI_of hX (by decide) (Nat.le_of_ble_eq_true rfl) (fun p e s m args below meth c A C => b_X2_gather_55 C hf)
-- X11_reachedBy_0: reachedBy(II)I
abbrev rm_X11_reachedBy_0 : Room := { frames := 7, cells := 0, slots := 0, locals := 167 }
theorem nd_X11_reachedBy : yX11_reachedBy.cls ≠ "java/lang/invoke/MethodHandle" ∧ yX11_reachedBy.cls ≠ "java/lang/invoke/VarHandle" ∧ (parseMethodDescriptor yX11_reachedBy.desc).map (fun d => d.parameters.length) = some 2 := by decide +kernel
def f_X11_reachedBy_0 (N : Nat) (x1 : Int32) (x2 : Int32) (σ : Sg) : Option (Int32 × Sg) :=
(f_X2_startAnew_55_22 N x1 σ).bind fun q1 =>
(f_X2_gather_55 N x2 q1).bind fun q2 =>
some (q2.1, (q2.2))
set_option maxHeartbeats 4000000 in
set_option maxRecDepth 100000 in
theorem b_X11_reachedBy_0 {N : Nat} {x1 : Int32} {x2 : Int32} {σ : Sg} {z : Int32 × Sg} (C : Cx p s m args meth c cX11_reachedBy 3 (some .int) RX11 g A X) (hf : f_X11_reachedBy_0 N x1 x2 σ = some z) : Bk cw p l e rm_X11_reachedBy_0 s m args below meth c 3 g A (MQ below (qI cw g A z.1 z.2) args s 0 0 A) 0 0 0 [(0, .ref (g.2.2 0)), (1, .int x1), (2, .int x2)] [] σ := by
  obtain ⟨hx, hb, hr, hml, hown, hts, hK, hlocks, hXX, hA, hXo⟩ := id C
  intro H locs ls hP hD hS hl
  unfold f_X11_reachedBy_0 at hf
  refine lv_aload_n hx hb dX11_reachedBy_0 rfl (lv_at hl 0 rfl) ?_
  refine bk_get (wf := cw) (q0 := 0) (ci := 10) (k := 10) (v := .ref (g.2.2 55)) C hP wl_X11 rfl rfl (by decide) wa_42 rfl rfl dX11_reachedBy_1 ?_
  refine lv_aload_n hx hb dX11_reachedBy_4 rfl (lv_at hl 0 rfl) ?_
  refine bk_get (wf := cw) (q0 := 0) (ci := 10) (k := 4) (v := .ref (g.2.2 21)) C hP wl_X11 rfl rfl (by decide) wa_27 rfl rfl dX11_reachedBy_5 ?_
  refine bk_get (wf := cw) (q0 := 21) (ci := 1) (k := 0) (v := .ref (g.2.2 22)) C hP wl_X1 rfl rfl (by decide) wa_221 rfl rfl dX11_reachedBy_8 ?_
  refine lv_iload_n hx hb dX11_reachedBy_11 rfl (lv_at hl 1 rfl) ?_
  obtain ⟨q1, hq1, hf⟩ := bi_s hf
  refine bk_VV (wf := cw) (q0 := 55) (ci := 2) (rest := []) [.ref (g.2.2 22), .int x1] C hP hD hS hl.1 (c_X2_startAnew_55_22 hXo hq1) (cwA_V 2 hts wa_1102 wa_1099 wa_1100 wa_1101 wa_41 rfl rfl nd_X2_startAnew ⟨Nat.le_of_ble_eq_true rfl, Nat.le_of_ble_eq_true rfl⟩) rfl rfl rfl rfl (Nat.le_of_ble_eq_true rfl) dX11_reachedBy_12 ⟨Nat.le_of_ble_eq_true rfl, Nat.le_of_ble_eq_true rfl⟩ (fun H locs hP hD hS => ?_)
  refine lv_aload_n hx hb dX11_reachedBy_15 rfl (lv_at hl 0 rfl) ?_
  refine bk_get (wf := cw) (q0 := 0) (ci := 10) (k := 10) (v := .ref (g.2.2 55)) C hP wl_X11 rfl rfl (by decide) wa_42 rfl rfl dX11_reachedBy_16 ?_
  refine lv_iload_n hx hb dX11_reachedBy_19 rfl (lv_at hl 2 rfl) ?_
  obtain ⟨q2, hq2, hf⟩ := bi_s hf
  refine bk_VI (wf := cw) (q0 := 55) (ci := 2) (rest := []) [.int x2] C hP hD hS hl.1 (c_X2_gather_55 hXo hq2) (cwA_V 1 hts wa_1132 wa_1129 wa_1130 wa_1131 wa_41 rfl rfl nd_X2_gather ⟨Nat.le_of_ble_eq_true rfl, Nat.le_of_ble_eq_true rfl⟩) rfl rfl rfl rfl (Nat.le_of_ble_eq_true rfl) dX11_reachedBy_20 ⟨Nat.le_of_ble_eq_true rfl, Nat.le_of_ble_eq_true rfl⟩ (fun H locs hP hD hS => ?_)
  cases hf
  exact bk_iret C hP hD hS rfl dX11_reachedBy_23
theorem c_X11_reachedBy_0 {N : Nat} {x1 : Int32} {x2 : Int32} {σ : Sg} {z : Int32 × Sg} (hX : xOK g X) (hf : f_X11_reachedBy_0 N x1 x2 σ = some z) : MetI l yX11_reachedBy (Cond.code yX11_reachedBy cX11_reachedBy 3 (some .int) :: wsA) rm_X11_reachedBy_0 cw g X [.ref (g.2.2 0), .int x1, .int x2] σ z.1 z.2 :=
  MetI_of hX (by decide) (Nat.le_of_ble_eq_true rfl) (fun p e s m args below meth c A C => b_X11_reachedBy_0 C hf)
-- X11_reached_0: reached(II)I
abbrev rm_X11_reached_0 : Room := { frames := 8, cells := 2, slots := 12, locals := 189 }
theorem nd_X11_reached : yX11_reached.cls ≠ "java/lang/invoke/MethodHandle" ∧ yX11_reached.cls ≠ "java/lang/invoke/VarHandle" ∧ (parseMethodDescriptor yX11_reached.desc).map (fun d => d.parameters.length) = some 2 := by decide +kernel
def f_X11_reached_0 (N : Nat) (x1 : Int32) (x2 : Int32) (σ : Sg) : Option (Zt) :=
(f_X11_needFarm_0 N x1 σ).bind fun q1 =>
if q1.1 = 0 then ((f_X11_needWithin N x2 (0 : Int32) (60 : Int32) (q1.2.2)).bind fun q2 =>
if q2.1 = 0 then ((f_X11_reachedBy_0 N ((1 : Int32) <<< (x1 &&& 31)) x2 (q2.2.2)).bind fun q3 =>
some (0, q3.1, (q3.2)))
else some (q2.1, 0, q2.2.2))
else some (q1.1, 0, q1.2.2)
set_option maxHeartbeats 4000000 in
set_option maxRecDepth 100000 in
theorem b_X11_reached_0 {N : Nat} {x1 : Int32} {x2 : Int32} {σ : Sg} {z : Zt} (C : Cx p s m args meth c cX11_reached 3 (some .int) RX11 g A X) (hex : ∀ x ∈ c.exceptionTable.toList, False) (hst : l.stackTraces = false) (hf : f_X11_reached_0 N x1 x2 σ = some z) : Bk cw p l e rm_X11_reached_0 s m args below meth c 3 g A (vx_MQ below (qTi cw g A z) (xT cw g A z) args s 2 12 A) 0 0 0 [(0, .ref (g.2.2 0)), (1, .int x1), (2, .int x2)] [] σ := by
  obtain ⟨hx, hb, hr, hml, hown, hts, hK, hlocks, hXX, hA, hXo⟩ := id C
  intro H locs ls hP hD hS hl
  unfold f_X11_reached_0 at hf
  refine lv_aload_n hx hb dX11_reached_0 rfl (lv_at hl 0 rfl) ?_
  refine lv_iload_n hx hb dX11_reached_1 rfl (lv_at hl 1 rfl) ?_
  obtain ⟨q1, hq1, hf⟩ := bi_s hf
  refine bk_TV (wf := cw) (q0 := 0) (ci := 10) (rest := []) [.int x1] C hex hP hD hS hl.1 (c_X11_needFarm_0 hXo hst hq1) (cwA_V 1 hts wa_791 wa_788 wa_789 wa_790 wa_2 rfl rfl nd_X11_needFarm ⟨Nat.le_of_ble_eq_true rfl, Nat.le_of_ble_eq_true rfl⟩) rfl rfl rfl rfl (Nat.le_of_ble_eq_true rfl) dX11_reached_2 ⟨Nat.le_of_ble_eq_true rfl, Nat.le_of_ble_eq_true rfl⟩ ⟨Nat.le_of_ble_eq_true rfl, Nat.le_of_ble_eq_true rfl⟩ (fun h0 => by have hf := (if_neg h0).symm.trans hf; cases hf; exact ⟨rfl, rfl⟩) (fun h0 H locs hP hD hS => ?_)
  have hf := (if_pos h0).symm.trans hf
  refine lv_iload_n hx hb dX11_reached_5 rfl (lv_at hl 2 rfl) ?_
  refine lv_iconst (v := (0 : Int32)) hx hb dX11_reached_6 (by decide) ?_
  refine lv_bipush (v := (60 : Int32)) hx hb dX11_reached_7 (by decide) ?_
  obtain ⟨q2, hq2, hf⟩ := bi_s hf
  refine bk_TS (wf := cw) (rest := []) [.int x2, .int (0 : Int32), .int (60 : Int32)] C hex hP hD hS hl.1 (c_X11_needWithin hXo hst hq2) (cwA_S 3 hts wa_1020 wa_1018 wa_1019 wa_2 rfl rfl nd_X11_needWithin ⟨Nat.le_of_ble_eq_true rfl, Nat.le_of_ble_eq_true rfl⟩) rfl rfl (Nat.le_of_ble_eq_true rfl) dX11_reached_9 ⟨Nat.le_of_ble_eq_true rfl, Nat.le_of_ble_eq_true rfl⟩ ⟨Nat.le_of_ble_eq_true rfl, Nat.le_of_ble_eq_true rfl⟩ (fun h0 => by have hf := (if_neg h0).symm.trans hf; cases hf; exact ⟨rfl, rfl⟩) (fun h0 H locs hP hD hS => ?_)
  have hf := (if_pos h0).symm.trans hf
  refine lv_aload_n hx hb dX11_reached_12 rfl (lv_at hl 0 rfl) ?_
  refine lv_iconst (v := (1 : Int32)) hx hb dX11_reached_13 (by decide) ?_
  refine lv_iload_n hx hb dX11_reached_14 rfl (lv_at hl 1 rfl) ?_
  refine lv_ishl hx hb dX11_reached_15 ?_
  refine lv_iload_n hx hb dX11_reached_16 rfl (lv_at hl 2 rfl) ?_
  obtain ⟨q3, hq3, hf⟩ := bi_s hf
  refine bk_VI (wf := cw) (q0 := 0) (ci := 10) (rest := []) [.int ((1 : Int32) <<< (x1 &&& 31)), .int x2] C hP hD hS hl.1 (c_X11_reachedBy_0 hXo hq3) (cwA_V 2 hts wa_1128 wa_1125 wa_1126 wa_1127 wa_2 rfl rfl nd_X11_reachedBy ⟨Nat.le_of_ble_eq_true rfl, Nat.le_of_ble_eq_true rfl⟩) rfl rfl rfl rfl (Nat.le_of_ble_eq_true rfl) dX11_reached_17 ⟨Nat.le_of_ble_eq_true rfl, Nat.le_of_ble_eq_true rfl⟩ (fun H locs hP hD hS => ?_)
  exact bk_iretT C hP hD hS hf (Nat.le_of_ble_eq_true rfl) (Nat.le_of_ble_eq_true rfl) dX11_reached_20
theorem c_X11_reached_0 {N : Nat} {x1 : Int32} {x2 : Int32} {σ : Sg} {z : Zt} (hX : xOK g X) (hst : l.stackTraces = false) (hf : f_X11_reached_0 N x1 x2 σ = some z) : MetTi l yX11_reached (Cond.code yX11_reached cX11_reached 3 (some .int) :: wsA) rm_X11_reached_0 2 12 cw g X [.ref (g.2.2 0), .int x1, .int x2] σ z :=
  MetTi_of hX (by decide) (Nat.le_of_ble_eq_true rfl) (fun p e s m args below meth c A C hex => b_X11_reached_0 C hex hst hf)
-- X11_reachesWithout_0: reachesWithout(III)Z
abbrev rm_X11_reachesWithout_0 : Room := { frames := 7, cells := 0, slots := 0, locals := 167 }
theorem nd_X11_reachesWithout : yX11_reachesWithout.cls ≠ "java/lang/invoke/MethodHandle" ∧ yX11_reachesWithout.cls ≠ "java/lang/invoke/VarHandle" ∧ (parseMethodDescriptor yX11_reachesWithout.desc).map (fun d => d.parameters.length) = some 3 := by decide +kernel
def f_X11_reachesWithout_0 (N : Nat) (x1 : Int32) (x2 : Int32) (x3 : Int32) (σ : Sg) : Option (Int32 × Sg) :=
(f_X2_startAnew_55_22 N ((1 : Int32) <<< (x1 &&& 31)) σ).bind fun q1 =>
bd (wr q1 56 1 ((q1 56 1) ||| ((1 : Int32) <<< (x3 &&& 31)))) fun σ2 =>
(f_X2_firstNod_55 N x2 σ2).bind fun q3 =>
if q3.1 = (-1 : Int32) then (some ((0 : Int32), (q3.2)))
else (some ((1 : Int32), (q3.2)))
set_option maxHeartbeats 4000000 in
set_option maxRecDepth 100000 in
theorem b_X11_reachesWithout_0 {N : Nat} {x1 : Int32} {x2 : Int32} {x3 : Int32} {σ : Sg} {z : Int32 × Sg} (C : Cx p s m args meth c cX11_reachesWithout 4 (some .boolean) RX11 g A X) (hf : f_X11_reachesWithout_0 N x1 x2 x3 σ = some z) : Bk cw p l e rm_X11_reachesWithout_0 s m args below meth c 4 g A (MQ below (qI cw g A z.1 z.2) args s 0 0 A) 0 0 0 [(0, .ref (g.2.2 0)), (1, .int x1), (2, .int x2), (3, .int x3)] [] σ := by
  obtain ⟨hx, hb, hr, hml, hown, hts, hK, hlocks, hXX, hA, hXo⟩ := id C
  intro H locs ls hP hD hS hl
  unfold f_X11_reachesWithout_0 at hf
  refine lv_aload_n hx hb dX11_reachesWithout_0 rfl (lv_at hl 0 rfl) ?_
  refine bk_get (wf := cw) (q0 := 0) (ci := 10) (k := 10) (v := .ref (g.2.2 55)) C hP wl_X11 rfl rfl (by decide) wa_42 rfl rfl dX11_reachesWithout_1 ?_
  refine lv_aload_n hx hb dX11_reachesWithout_4 rfl (lv_at hl 0 rfl) ?_
  refine bk_get (wf := cw) (q0 := 0) (ci := 10) (k := 4) (v := .ref (g.2.2 21)) C hP wl_X11 rfl rfl (by decide) wa_27 rfl rfl dX11_reachesWithout_5 ?_
  refine bk_get (wf := cw) (q0 := 21) (ci := 1) (k := 0) (v := .ref (g.2.2 22)) C hP wl_X1 rfl rfl (by decide) wa_221 rfl rfl dX11_reachesWithout_8 ?_
  refine lv_iconst (v := (1 : Int32)) hx hb dX11_reachesWithout_11 (by decide) ?_
  refine lv_iload_n hx hb dX11_reachesWithout_12 rfl (lv_at hl 1 rfl) ?_
  refine lv_ishl hx hb dX11_reachesWithout_13 ?_
  obtain ⟨q1, hq1, hf⟩ := bi_s hf
  refine bk_VV (wf := cw) (q0 := 55) (ci := 2) (rest := []) [.ref (g.2.2 22), .int ((1 : Int32) <<< (x1 &&& 31))] C hP hD hS hl.1 (c_X2_startAnew_55_22 hXo hq1) (cwA_V 2 hts wa_1102 wa_1099 wa_1100 wa_1101 wa_41 rfl rfl nd_X2_startAnew ⟨Nat.le_of_ble_eq_true rfl, Nat.le_of_ble_eq_true rfl⟩) rfl rfl rfl rfl (Nat.le_of_ble_eq_true rfl) dX11_reachesWithout_14 ⟨Nat.le_of_ble_eq_true rfl, Nat.le_of_ble_eq_true rfl⟩ (fun H locs hP hD hS => ?_)
  refine lv_aload_n hx hb dX11_reachesWithout_17 rfl (lv_at hl 0 rfl) ?_
  refine bk_get (wf := cw) (q0 := 0) (ci := 10) (k := 10) (v := .ref (g.2.2 55)) C hP wl_X11 rfl rfl (by decide) wa_42 rfl rfl dX11_reachesWithout_18 ?_
  refine bk_get (wf := cw) (q0 := 55) (ci := 2) (k := 0) (v := .ref (g.2.2 56)) C hP wl_X2 rfl rfl (by decide) wa_808 rfl rfl dX11_reachesWithout_21 ?_
  refine lv_dup hx hb dX11_reachesWithout_24 rfl ?_
  refine bk_get (wf := cw) (q0 := 56) (ci := 7) (k := 1) (v := .int (q1 56 1)) C hP wl_X7 rfl rfl (by decide) wa_648 rfl rfl dX11_reachesWithout_25 ?_
  refine lv_iconst (v := (1 : Int32)) hx hb dX11_reachesWithout_28 (by decide) ?_
  refine lv_iload_n hx hb dX11_reachesWithout_29 rfl (lv_at hl 3 rfl) ?_
  refine lv_ishl hx hb dX11_reachesWithout_30 ?_
  refine lv_ior hx hb dX11_reachesWithout_31 ?_
  obtain ⟨σ2, eσ2, hf⟩ := bd_s hf
  refine bk_put (wf := cw) (σ1 := σ2) (q0 := 56) (ci := 7) (k := 1) (v := .int ((q1 56 1) ||| ((1 : Int32) <<< (x3 &&& 31)))) C hP hD hS wl_X7 tyX7_ok nmX7 rfl rfl (by decide) wa_648 rfl rfl rfl rfl rfl (Nat.le_of_ble_eq_true rfl) (by rw [eσ2]; exact cw_p56_1 g _ _) dX11_reachesWithout_32 (fun H locs hP hD hS => ?_)
  refine lv_aload_n hx hb dX11_reachesWithout_35 rfl (lv_at hl 0 rfl) ?_
  refine bk_get (wf := cw) (q0 := 0) (ci := 10) (k := 10) (v := .ref (g.2.2 55)) C hP wl_X11 rfl rfl (by decide) wa_42 rfl rfl dX11_reachesWithout_36 ?_
  refine lv_iload_n hx hb dX11_reachesWithout_39 rfl (lv_at hl 2 rfl) ?_
  obtain ⟨q3, hq3, hf⟩ := bi_s hf
  refine bk_VI (wf := cw) (q0 := 55) (ci := 2) (rest := []) [.int x2] C hP hD hS hl.1 (c_X2_firstNod_55 hXo hq3) (cwA_V 1 hts wa_1050 wa_1047 wa_1048 wa_1049 wa_41 rfl rfl nd_X2_firstNod ⟨Nat.le_of_ble_eq_true rfl, Nat.le_of_ble_eq_true rfl⟩) rfl rfl rfl rfl (Nat.le_of_ble_eq_true rfl) dX11_reachesWithout_40 ⟨Nat.le_of_ble_eq_true rfl, Nat.le_of_ble_eq_true rfl⟩ (fun H locs hP hD hS => ?_)
  refine lv_iconst (v := (-1 : Int32)) hx hb dX11_reachesWithout_43 (by decide) ?_
  refine lv_icmp_eq (tgt := 51) hx hb dX11_reachesWithout_44 (by decide) (fun t44 => ?_) (fun t44 => ?_)
  · have hf := (if_pos t44).symm.trans hf
    refine lv_iconst (v := (0 : Int32)) hx hb dX11_reachesWithout_51 (by decide) ?_
    cases hf
    exact bk_zret C hP hD hS (by decide) rfl dX11_reachesWithout_52
  · have hf := (if_neg t44).symm.trans hf
    refine lv_iconst (v := (1 : Int32)) hx hb dX11_reachesWithout_47 (by decide) ?_
    refine lv_goto (tgt := 52) hx hb dX11_reachesWithout_48 (by decide) ?_
    cases hf
    exact bk_zret C hP hD hS (by decide) rfl dX11_reachesWithout_52
theorem c_X11_reachesWithout_0 {N : Nat} {x1 : Int32} {x2 : Int32} {x3 : Int32} {σ : Sg} {z : Int32 × Sg} (hX : xOK g X) (hf : f_X11_reachesWithout_0 N x1 x2 x3 σ = some z) : MetI l yX11_reachesWithout (Cond.code yX11_reachesWithout cX11_reachesWithout 4 (some .boolean) :: wsA) rm_X11_reachesWithout_0 cw g X [.ref (g.2.2 0), .int x1, .int x2, .int x3] σ z.1 z.2 :=
  MetI_of hX (by decide) (Nat.le_of_ble_eq_true rfl) (fun p e s m args below meth c A C => b_X11_reachesWithout_0 C hf)
-- X11_through_0: through(II)I
abbrev rm_X11_through_0 : Room := { frames := 8, cells := 2, slots := 12, locals := 190 }
theorem nd_X11_through : yX11_through.cls ≠ "java/lang/invoke/MethodHandle" ∧ yX11_through.cls ≠ "java/lang/invoke/VarHandle" ∧ (parseMethodDescriptor yX11_through.desc).map (fun d => d.parameters.length) = some 2 := by decide +kernel
def f_X11_through_0_b84 (N : Nat) (x1 : Int32) (x2 : Int32) (x3 : Int32) (x4 : Int32) (σ : Sg) : Option (Nat × Int32 × Int32 × Sg) :=
bd (x4 + (1 : Int32)) fun v1 =>
some (0, x3, v1, σ)
set_option maxHeartbeats 4000000 in
set_option maxRecDepth 100000 in
theorem b_X11_through_0_b84 {N : Nat} {x1 : Int32} {x2 : Int32} {x3 : Int32} {x4 : Int32} {σ : Sg} {z : Nat × Int32 × Int32 × Sg} (C : Cx p s m args meth c cX11_through 5 (some .int) RX11 g A X) (hex : ∀ x ∈ c.exceptionTable.toList, False) (hst : l.stackTraces = false) (hf : f_X11_through_0_b84 N x1 x2 x3 x4 σ = some z) (k0 : z.1 = 0 → Bk cw p l e rm_X11_through_0 s m args below meth c 5 g A Q 2 12 42 [(0, .ref (g.2.2 0)), (1, .int x1), (2, .int x2), (3, .int z.2.1), (4, .int z.2.2.1)] [] z.2.2.2) (k : ¬ z.1 = 0 → Bk cw p l e rm_X11_through_0 s m args below meth c 5 g A Q 2 12 90 [(3, .int z.2.1)] [] z.2.2.2) : Bk cw p l e rm_X11_through_0 s m args below meth c 5 g A Q 2 12 84 [(0, .ref (g.2.2 0)), (1, .int x1), (2, .int x2), (3, .int x3), (4, .int x4)] [] σ := by
  obtain ⟨hx, hb, hr, hml, hown, hts, hK, hlocks, hXX, hA, hXo⟩ := id C
  intro H locs ls hP hD hS hl
  unfold f_X11_through_0_b84 at hf
  obtain ⟨v1, ev1, hf⟩ := bd_s hf
  refine lv_iinc (v := v1) (lv' := [(4, .int v1), (0, .ref (g.2.2 0)), (1, .int x1), (2, .int x2), (3, .int x3)]) hx hb dX11_through_84 hl (k := 4) rfl (by rw [ev1]; rfl) (by decide) rfl (fun ls hl => ?_)
  refine lv_goto (tgt := 42) hx hb dX11_through_87 (by decide) ?_
  cases hf
  exact k0 rfl H locs ls hP hD hS (lv_sub hl [1, 2, 3, 4, 0] rfl)
def s_X11_through_0_h42 (N : Nat) (x1 : Int32) (x2 : Int32) (x3 : Int32) (x4 : Int32) (σ : Sg) : Option (Nat × Int32 × Int32 × Sg) :=
if (σ 12 0) ≤ x4 then (some (1, x3, 0, σ))
else (if x4 = x1 then (f_X11_through_0_b84 N x1 x2 x3 x4 σ)
else (if x4 = x2 then (f_X11_through_0_b84 N x1 x2 x3 x4 σ)
else ((f_X11_reachesWithout_0 N x1 x2 x4 σ).bind fun q2 =>
if q2.1 = 0 then (bd (x3 ||| ((1 : Int32) <<< (x4 &&& 31))) fun v3 =>
f_X11_through_0_b84 N x1 x2 v3 x4 (q2.2))
else (f_X11_through_0_b84 N x1 x2 x3 x4 (q2.2)))))
set_option maxHeartbeats 4000000 in
set_option maxRecDepth 100000 in
theorem e_X11_through_0_h42 {N : Nat} {x1 : Int32} {x2 : Int32} {x3 : Int32} {x4 : Int32} {σ : Sg} {z : Nat × Int32 × Int32 × Sg} (C : Cx p s m args meth c cX11_through 5 (some .int) RX11 g A X) (hex : ∀ x ∈ c.exceptionTable.toList, False) (hst : l.stackTraces = false) (hf : s_X11_through_0_h42 N x1 x2 x3 x4 σ = some z) (k0 : z.1 = 0 → Bk cw p l e rm_X11_through_0 s m args below meth c 5 g A Q 2 12 42 [(0, .ref (g.2.2 0)), (1, .int x1), (2, .int x2), (3, .int z.2.1), (4, .int z.2.2.1)] [] z.2.2.2) (k : ¬ z.1 = 0 → Bk cw p l e rm_X11_through_0 s m args below meth c 5 g A Q 2 12 90 [(3, .int z.2.1)] [] z.2.2.2) : Bk cw p l e rm_X11_through_0 s m args below meth c 5 g A Q 2 12 42 [(0, .ref (g.2.2 0)), (1, .int x1), (2, .int x2), (3, .int x3), (4, .int x4)] [] σ := by
  obtain ⟨hx, hb, hr, hml, hown, hts, hK, hlocks, hXX, hA, hXo⟩ := id C
  intro H locs ls hP hD hS hl
  unfold s_X11_through_0_h42 at hf
  refine lv_iload hx hb dX11_through_42 (lv_at hl 4 rfl) ?_
  refine lv_aload_n hx hb dX11_through_44 rfl (lv_at hl 0 rfl) ?_
  refine bk_get (wf := cw) (q0 := 0) (ci := 10) (k := 3) (v := .ref (g.2.2 12)) C hP wl_X11 rfl rfl (by decide) wa_23 rfl rfl dX11_through_45 ?_
  refine bk_get (wf := cw) (q0 := 12) (ci := 8) (k := 0) (v := .int (σ 12 0)) C hP wl_X9 rfl rfl (by decide) wa_644 rfl rfl dX11_through_48 ?_
  refine lv_icmp_ge (tgt := 90) hx hb dX11_through_51 (by decide) (fun t51 => ?_) (fun t51 => ?_)
  · have hf := (if_pos t51).symm.trans hf
    cases hf
    exact (k (show ¬ (1 : Nat) = 0 by decide)) H locs ls hP hD hS (lv_sub hl [3] rfl)
  · have hf := (if_neg t51).symm.trans hf
    refine lv_iload hx hb dX11_through_54 (lv_at hl 4 rfl) ?_
    refine lv_iload_n hx hb dX11_through_56 rfl (lv_at hl 1 rfl) ?_
    refine lv_icmp_eq (tgt := 84) hx hb dX11_through_57 (by decide) (fun t57 => ?_) (fun t57 => ?_)
    · have hf := (if_pos t57).symm.trans hf
      exact b_X11_through_0_b84 C hex hst hf k0 k H locs ls hP hD hS (lv_sub hl [0, 1, 2, 3, 4] rfl)
    · have hf := (if_neg t57).symm.trans hf
      refine lv_iload hx hb dX11_through_60 (lv_at hl 4 rfl) ?_
      refine lv_iload_n hx hb dX11_through_62 rfl (lv_at hl 2 rfl) ?_
      refine lv_icmp_eq (tgt := 84) hx hb dX11_through_63 (by decide) (fun t63 => ?_) (fun t63 => ?_)
      · have hf := (if_pos t63).symm.trans hf
        exact b_X11_through_0_b84 C hex hst hf k0 k H locs ls hP hD hS (lv_sub hl [0, 1, 2, 3, 4] rfl)
      · have hf := (if_neg t63).symm.trans hf
        refine lv_aload_n hx hb dX11_through_66 rfl (lv_at hl 0 rfl) ?_
        refine lv_iload_n hx hb dX11_through_67 rfl (lv_at hl 1 rfl) ?_
        refine lv_iload_n hx hb dX11_through_68 rfl (lv_at hl 2 rfl) ?_
        refine lv_iload hx hb dX11_through_69 (lv_at hl 4 rfl) ?_
        obtain ⟨q2, hq2, hf⟩ := bi_s hf
        refine bk_VI (wf := cw) (q0 := 0) (ci := 10) (rest := []) [.int x1, .int x2, .int x4] C hP hD hS hl.1 (c_X11_reachesWithout_0 hXo hq2) (cwA_V 3 hts wa_1149 wa_1146 wa_1147 wa_1148 wa_2 rfl rfl nd_X11_reachesWithout ⟨Nat.le_of_ble_eq_true rfl, Nat.le_of_ble_eq_true rfl⟩) rfl rfl rfl rfl (Nat.le_of_ble_eq_true rfl) dX11_through_71 ⟨Nat.le_of_ble_eq_true rfl, Nat.le_of_ble_eq_true rfl⟩ (fun H locs hP hD hS => ?_)
        refine lv_if_ne (tgt := 84) hx hb dX11_through_74 (by decide) (fun t74 => ?_) (fun t74 => ?_)
        · have hf := (if_neg t74).symm.trans hf
          exact b_X11_through_0_b84 C hex hst hf k0 k H locs ls hP hD hS (lv_sub hl [0, 1, 2, 3, 4] rfl)
        · have hf := (if_pos t74).symm.trans hf
          refine lv_iload_n hx hb dX11_through_77 rfl (lv_at hl 3 rfl) ?_
          refine lv_iconst (v := (1 : Int32)) hx hb dX11_through_78 (by decide) ?_
          refine lv_iload hx hb dX11_through_79 (lv_at hl 4 rfl) ?_
          refine lv_ishl hx hb dX11_through_81 ?_
          refine lv_ior hx hb dX11_through_82 ?_
          obtain ⟨v3, ev3, hf⟩ := bd_s hf
          rw [← ev3]
          refine lv_istore_n (lv' := [(3, .int v3), (0, .ref (g.2.2 0)), (1, .int x1), (2, .int x2), (4, .int x4)]) hx hb dX11_through_83 rfl hl (by decide) rfl (fun ls hl => ?_)
          exact b_X11_through_0_b84 C hex hst hf k0 k H locs ls hP hD hS (lv_sub hl [1, 2, 3, 0, 4] rfl)
theorem lp_X11_through_0_h42 {N n : Nat} {x1 : Int32} {x2 : Int32} {x3 : Int32} {x4 : Int32} {σ : Sg} {z : Nat × Int32 × Int32 × Sg} (C : Cx p s m args meth c cX11_through 5 (some .int) RX11 g A X) (hex : ∀ x ∈ c.exceptionTable.toList, False) (hst : l.stackTraces = false) (hz : it (fun q => s_X11_through_0_h42 N x1 x2 q.1 q.2.1 q.2.2) n (x3, x4, σ) = some z) (k : Bk cw p l e rm_X11_through_0 s m args below meth c 5 g A Q 2 12 90 [(3, .int z.2.1)] [] z.2.2.2) : Bk cw p l e rm_X11_through_0 s m args below meth c 5 g A Q 2 12 42 [(0, .ref (g.2.2 0)), (1, .int x1), (2, .int x2), (3, .int x3), (4, .int x4)] [] σ :=
  it_W (S := Int32 × Int32 × Sg) (fun q => Bk cw p l e rm_X11_through_0 s m args below meth c 5 g A Q 2 12 42 [(0, .ref (g.2.2 0)), (1, .int x1), (2, .int x2), (3, .int q.1), (4, .int q.2.1)] [] q.2.2) (fun z => Bk cw p l e rm_X11_through_0 s m args below meth c 5 g A Q 2 12 90 [(3, .int z.2.1)] [] z.2.2.2) (fun q z hq k0 k => e_X11_through_0_h42 C hex hst hq k0 k) n (x3, x4, σ) z hz k
def f_X11_through_0 (N : Nat) (x1 : Int32) (x2 : Int32) (σ : Sg) : Option (Zt) :=
(f_X11_needFarms_0 N x1 x2 σ).bind fun q4 =>
if q4.1 = 0 then ((f_X2_startAnew_55_22 N ((1 : Int32) <<< (x1 &&& 31)) (q4.2.2)).bind fun q5 =>
(f_X2_firstNod_55 N x2 q5).bind fun q6 =>
if q6.1 = (-1 : Int32) then (some (0, (0 : Int32), (q6.2)))
else ((it (fun q => s_X11_through_0_h42 N x1 x2 q.1 q.2.1 q.2.2) N ((0 : Int32), (0 : Int32), (q6.2))).bind fun z7 =>
some (0, (z7.2.1), (z7.2.2.2))))
else some (q4.1, 0, q4.2.2)
set_option maxHeartbeats 4000000 in
set_option maxRecDepth 100000 in
theorem b_X11_through_0 {N : Nat} {x1 : Int32} {x2 : Int32} {σ : Sg} {z : Zt} (C : Cx p s m args meth c cX11_through 5 (some .int) RX11 g A X) (hex : ∀ x ∈ c.exceptionTable.toList, False) (hst : l.stackTraces = false) (hf : f_X11_through_0 N x1 x2 σ = some z) : Bk cw p l e rm_X11_through_0 s m args below meth c 5 g A (vx_MQ below (qTi cw g A z) (xT cw g A z) args s 2 12 A) 0 0 0 [(0, .ref (g.2.2 0)), (1, .int x1), (2, .int x2)] [] σ := by
  obtain ⟨hx, hb, hr, hml, hown, hts, hK, hlocks, hXX, hA, hXo⟩ := id C
  intro H locs ls hP hD hS hl
  unfold f_X11_through_0 at hf
  refine lv_aload_n hx hb dX11_through_0 rfl (lv_at hl 0 rfl) ?_
  refine lv_iload_n hx hb dX11_through_1 rfl (lv_at hl 1 rfl) ?_
  refine lv_iload_n hx hb dX11_through_2 rfl (lv_at hl 2 rfl) ?_
  obtain ⟨q4, hq4, hf⟩ := bi_s hf
  refine bk_TV (wf := cw) (q0 := 0) (ci := 10) (rest := []) [.int x1, .int x2] C hex hP hD hS hl.1 (c_X11_needFarms_0 hXo hst hq4) (cwA_V 2 hts wa_1098 wa_1095 wa_1096 wa_1097 wa_2 rfl rfl nd_X11_needFarms ⟨Nat.le_of_ble_eq_true rfl, Nat.le_of_ble_eq_true rfl⟩) rfl rfl rfl rfl (Nat.le_of_ble_eq_true rfl) dX11_through_3 ⟨Nat.le_of_ble_eq_true rfl, Nat.le_of_ble_eq_true rfl⟩ ⟨Nat.le_of_ble_eq_true rfl, Nat.le_of_ble_eq_true rfl⟩ (fun h0 => by have hf := (if_neg h0).symm.trans hf; cases hf; exact ⟨rfl, rfl⟩) (fun h0 H locs hP hD hS => ?_)
  have hf := (if_pos h0).symm.trans hf
  refine lv_aload_n hx hb dX11_through_6 rfl (lv_at hl 0 rfl) ?_
  refine bk_get (wf := cw) (q0 := 0) (ci := 10) (k := 10) (v := .ref (g.2.2 55)) C hP wl_X11 rfl rfl (by decide) wa_42 rfl rfl dX11_through_7 ?_
  refine lv_aload_n hx hb dX11_through_10 rfl (lv_at hl 0 rfl) ?_
  refine bk_get (wf := cw) (q0 := 0) (ci := 10) (k := 4) (v := .ref (g.2.2 21)) C hP wl_X11 rfl rfl (by decide) wa_27 rfl rfl dX11_through_11 ?_
  refine bk_get (wf := cw) (q0 := 21) (ci := 1) (k := 0) (v := .ref (g.2.2 22)) C hP wl_X1 rfl rfl (by decide) wa_221 rfl rfl dX11_through_14 ?_
  refine lv_iconst (v := (1 : Int32)) hx hb dX11_through_17 (by decide) ?_
  refine lv_iload_n hx hb dX11_through_18 rfl (lv_at hl 1 rfl) ?_
  refine lv_ishl hx hb dX11_through_19 ?_
  obtain ⟨q5, hq5, hf⟩ := bi_s hf
  refine bk_VV (wf := cw) (q0 := 55) (ci := 2) (rest := []) [.ref (g.2.2 22), .int ((1 : Int32) <<< (x1 &&& 31))] C hP hD hS hl.1 (c_X2_startAnew_55_22 hXo hq5) (cwA_V 2 hts wa_1102 wa_1099 wa_1100 wa_1101 wa_41 rfl rfl nd_X2_startAnew ⟨Nat.le_of_ble_eq_true rfl, Nat.le_of_ble_eq_true rfl⟩) rfl rfl rfl rfl (Nat.le_of_ble_eq_true rfl) dX11_through_20 ⟨Nat.le_of_ble_eq_true rfl, Nat.le_of_ble_eq_true rfl⟩ (fun H locs hP hD hS => ?_)
  refine lv_aload_n hx hb dX11_through_23 rfl (lv_at hl 0 rfl) ?_
  refine bk_get (wf := cw) (q0 := 0) (ci := 10) (k := 10) (v := .ref (g.2.2 55)) C hP wl_X11 rfl rfl (by decide) wa_42 rfl rfl dX11_through_24 ?_
  refine lv_iload_n hx hb dX11_through_27 rfl (lv_at hl 2 rfl) ?_
  obtain ⟨q6, hq6, hf⟩ := bi_s hf
  refine bk_VI (wf := cw) (q0 := 55) (ci := 2) (rest := []) [.int x2] C hP hD hS hl.1 (c_X2_firstNod_55 hXo hq6) (cwA_V 1 hts wa_1050 wa_1047 wa_1048 wa_1049 wa_41 rfl rfl nd_X2_firstNod ⟨Nat.le_of_ble_eq_true rfl, Nat.le_of_ble_eq_true rfl⟩) rfl rfl rfl rfl (Nat.le_of_ble_eq_true rfl) dX11_through_28 ⟨Nat.le_of_ble_eq_true rfl, Nat.le_of_ble_eq_true rfl⟩ (fun H locs hP hD hS => ?_)
  refine lv_iconst (v := (-1 : Int32)) hx hb dX11_through_31 (by decide) ?_
  refine lv_icmp_ne (tgt := 37) hx hb dX11_through_32 (by decide) (fun t32 => ?_) (fun t32 => ?_)
  · have hf := (if_neg t32).symm.trans hf
    refine lv_iconst (v := (0 : Int32)) hx hb dX11_through_37 (by decide) ?_
    refine lv_istore_n (lv' := [(3, .int (0 : Int32)), (0, .ref (g.2.2 0)), (1, .int x1), (2, .int x2)]) hx hb dX11_through_38 rfl hl (by decide) rfl (fun ls hl => ?_)
    refine lv_iconst (v := (0 : Int32)) hx hb dX11_through_39 (by decide) ?_
    refine lv_istore (lv' := [(4, .int (0 : Int32)), (3, .int (0 : Int32)), (0, .ref (g.2.2 0)), (1, .int x1), (2, .int x2)]) hx hb dX11_through_40 hl (by decide) rfl (fun ls hl => ?_)
    obtain ⟨z7, hz7, hf⟩ := bi_s hf
    refine lp_X11_through_0_h42 C hex hst hz7 ?_ H locs ls hP hD hS (lv_sub hl [2, 3, 4, 1, 0] rfl)
    intro H locs ls hP hD hS hl
    refine lv_iload_n hx hb dX11_through_90 rfl (lv_at hl 0 rfl) ?_
    exact bk_iretT C hP hD hS hf (Nat.le_of_ble_eq_true rfl) (Nat.le_of_ble_eq_true rfl) dX11_through_91
  · have hf := (if_pos t32).symm.trans hf
    refine lv_iconst (v := (0 : Int32)) hx hb dX11_through_35 (by decide) ?_
    exact bk_iretT C hP hD hS hf (Nat.le_of_ble_eq_true rfl) (Nat.le_of_ble_eq_true rfl) dX11_through_36
theorem c_X11_through_0 {N : Nat} {x1 : Int32} {x2 : Int32} {σ : Sg} {z : Zt} (hX : xOK g X) (hst : l.stackTraces = false) (hf : f_X11_through_0 N x1 x2 σ = some z) : MetTi l yX11_through (Cond.code yX11_through cX11_through 5 (some .int) :: wsA) rm_X11_through_0 2 12 cw g X [.ref (g.2.2 0), .int x1, .int x2] σ z :=
  MetTi_of hX (by decide) (Nat.le_of_ble_eq_true rfl) (fun p e s m args below meth c A C hex => b_X11_through_0 C hex hst hf)
-- X11_best_0: best(I)I
abbrev rm_X11_best_0 : Room := { frames := 8, cells := 1, slots := 6, locals := 189 }
theorem nd_X11_best : yX11_best.cls ≠ "java/lang/invoke/MethodHandle" ∧ yX11_best.cls ≠ "java/lang/invoke/VarHandle" ∧ (parseMethodDescriptor yX11_best.desc).map (fun d => d.parameters.length) = some 1 := by decide +kernel
def f_X11_best_0_b52 (N : Nat) (x1 : Int32) (x2 : Int32) (x3 : Int32) (x4 : Int32) (σ : Sg) : Option (Nat × Int32 × Int32 × Int32 × Sg) :=
bd (x4 + (1 : Int32)) fun v1 =>
some (0, x2, x3, v1, σ)
set_option maxHeartbeats 4000000 in
set_option maxRecDepth 100000 in
theorem b_X11_best_0_b52 {N : Nat} {x1 : Int32} {x2 : Int32} {x3 : Int32} {x4 : Int32} {σ : Sg} {z : Nat × Int32 × Int32 × Int32 × Sg} (C : Cx p s m args meth c cX11_best 6 (some .int) RX11 g A X) (hex : ∀ x ∈ c.exceptionTable.toList, False) (hst : l.stackTraces = false) (hf : f_X11_best_0_b52 N x1 x2 x3 x4 σ = some z) (k0 : z.1 = 0 → Bk cw p l e rm_X11_best_0 s m args below meth c 6 g A Q 1 6 14 [(0, .ref (g.2.2 0)), (1, .int x1), (2, .int z.2.1), (3, .int z.2.2.1), (4, .int z.2.2.2.1)] [] z.2.2.2.2) (k : ¬ z.1 = 0 → Bk cw p l e rm_X11_best_0 s m args below meth c 6 g A Q 1 6 58 [(3, .int z.2.2.1)] [] z.2.2.2.2) : Bk cw p l e rm_X11_best_0 s m args below meth c 6 g A Q 1 6 52 [(0, .ref (g.2.2 0)), (1, .int x1), (2, .int x2), (3, .int x3), (4, .int x4)] [] σ := by
  obtain ⟨hx, hb, hr, hml, hown, hts, hK, hlocks, hXX, hA, hXo⟩ := id C
  intro H locs ls hP hD hS hl
  unfold f_X11_best_0_b52 at hf
  obtain ⟨v1, ev1, hf⟩ := bd_s hf
  refine lv_iinc (v := v1) (lv' := [(4, .int v1), (0, .ref (g.2.2 0)), (1, .int x1), (2, .int x2), (3, .int x3)]) hx hb dX11_best_52 hl (k := 4) rfl (by rw [ev1]; rfl) (by decide) rfl (fun ls hl => ?_)
  refine lv_goto (tgt := 14) hx hb dX11_best_55 (by decide) ?_
  cases hf
  exact k0 rfl H locs ls hP hD hS (lv_sub hl [1, 2, 3, 4, 0] rfl)
def s_X11_best_0_h14 (N : Nat) (x1 : Int32) (x2 : Int32) (x3 : Int32) (x4 : Int32) (σ : Sg) : Option (Nat × Int32 × Int32 × Int32 × Sg) :=
if (σ 12 0) ≤ x4 then (some (1, 0, x3, 0, σ))
else ((f_X11_reachedBy_0 N ((1 : Int32) <<< (x4 &&& 31)) x1 σ).bind fun q2 =>
(f_J6_bitCount_0f7a4 N q2.1 (q2.2)).bind fun q3 =>
bd q3.1 fun v4 =>
if v4 ≤ x2 then (f_X11_best_0_b52 N x1 x2 x3 x4 (q3.2))
else (f_X11_best_0_b52 N x1 v4 x4 x4 (q3.2)))
set_option maxHeartbeats 4000000 in
set_option maxRecDepth 100000 in
theorem e_X11_best_0_h14 {N : Nat} {x1 : Int32} {x2 : Int32} {x3 : Int32} {x4 : Int32} {σ : Sg} {z : Nat × Int32 × Int32 × Int32 × Sg} (C : Cx p s m args meth c cX11_best 6 (some .int) RX11 g A X) (hex : ∀ x ∈ c.exceptionTable.toList, False) (hst : l.stackTraces = false) (hf : s_X11_best_0_h14 N x1 x2 x3 x4 σ = some z) (k0 : z.1 = 0 → Bk cw p l e rm_X11_best_0 s m args below meth c 6 g A Q 1 6 14 [(0, .ref (g.2.2 0)), (1, .int x1), (2, .int z.2.1), (3, .int z.2.2.1), (4, .int z.2.2.2.1)] [] z.2.2.2.2) (k : ¬ z.1 = 0 → Bk cw p l e rm_X11_best_0 s m args below meth c 6 g A Q 1 6 58 [(3, .int z.2.2.1)] [] z.2.2.2.2) : Bk cw p l e rm_X11_best_0 s m args below meth c 6 g A Q 1 6 14 [(0, .ref (g.2.2 0)), (1, .int x1), (2, .int x2), (3, .int x3), (4, .int x4)] [] σ := by
  obtain ⟨hx, hb, hr, hml, hown, hts, hK, hlocks, hXX, hA, hXo⟩ := id C
  intro H locs ls hP hD hS hl
  unfold s_X11_best_0_h14 at hf
  refine lv_iload hx hb dX11_best_14 (lv_at hl 4 rfl) ?_
  refine lv_aload_n hx hb dX11_best_16 rfl (lv_at hl 0 rfl) ?_
  refine bk_get (wf := cw) (q0 := 0) (ci := 10) (k := 3) (v := .ref (g.2.2 12)) C hP wl_X11 rfl rfl (by decide) wa_23 rfl rfl dX11_best_17 ?_
  refine bk_get (wf := cw) (q0 := 12) (ci := 8) (k := 0) (v := .int (σ 12 0)) C hP wl_X9 rfl rfl (by decide) wa_644 rfl rfl dX11_best_20 ?_
  refine lv_icmp_ge (tgt := 58) hx hb dX11_best_23 (by decide) (fun t23 => ?_) (fun t23 => ?_)
  · have hf := (if_pos t23).symm.trans hf
    cases hf
    exact (k (show ¬ (1 : Nat) = 0 by decide)) H locs ls hP hD hS (lv_sub hl [3] rfl)
  · have hf := (if_neg t23).symm.trans hf
    refine lv_aload_n hx hb dX11_best_26 rfl (lv_at hl 0 rfl) ?_
    refine lv_iconst (v := (1 : Int32)) hx hb dX11_best_27 (by decide) ?_
    refine lv_iload hx hb dX11_best_28 (lv_at hl 4 rfl) ?_
    refine lv_ishl hx hb dX11_best_30 ?_
    refine lv_iload_n hx hb dX11_best_31 rfl (lv_at hl 1 rfl) ?_
    obtain ⟨q2, hq2, hf⟩ := bi_s hf
    refine bk_VI (wf := cw) (q0 := 0) (ci := 10) (rest := []) [.int ((1 : Int32) <<< (x4 &&& 31)), .int x1] C hP hD hS hl.1 (c_X11_reachedBy_0 hXo hq2) (cwA_V 2 hts wa_1128 wa_1125 wa_1126 wa_1127 wa_2 rfl rfl nd_X11_reachedBy ⟨Nat.le_of_ble_eq_true rfl, Nat.le_of_ble_eq_true rfl⟩) rfl rfl rfl rfl (Nat.le_of_ble_eq_true rfl) dX11_best_32 ⟨Nat.le_of_ble_eq_true rfl, Nat.le_of_ble_eq_true rfl⟩ (fun H locs hP hD hS => ?_)
    obtain ⟨q3, hq3, hf⟩ := bi_s hf
    refine bk_SI (wf := cw) (rest := []) [.int q2.1] C hP hD hS hl.1 (c_J6_bitCount_0f7a4 hXo hq3) (cwA_S 1 hts wa_699 wa_1071 wa_697 wa_698 rfl rfl nd_J6_bitCount_0f7a4 ⟨Nat.le_of_ble_eq_true rfl, Nat.le_of_ble_eq_true rfl⟩) rfl rfl (Nat.le_of_ble_eq_true rfl) dX11_best_35 ⟨Nat.le_of_ble_eq_true rfl, Nat.le_of_ble_eq_true rfl⟩ (fun H locs hP hD hS => ?_)
    obtain ⟨v4, ev4, hf⟩ := bd_s hf
    rw [← ev4]
    refine lv_istore (lv' := [(5, .int v4), (0, .ref (g.2.2 0)), (1, .int x1), (2, .int x2), (3, .int x3), (4, .int x4)]) hx hb dX11_best_38 hl (by decide) rfl (fun ls hl => ?_)
    refine lv_iload hx hb dX11_best_40 (lv_at hl 0 rfl) ?_
    refine lv_iload_n hx hb dX11_best_42 rfl (lv_at hl 3 rfl) ?_
    refine lv_icmp_le (tgt := 52) hx hb dX11_best_43 (by decide) (fun t43 => ?_) (fun t43 => ?_)
    · have hf := (if_pos t43).symm.trans hf
      exact b_X11_best_0_b52 C hex hst hf k0 k H locs ls hP hD hS (lv_sub hl [1, 2, 3, 4, 5] rfl)
    · have hf := (if_neg t43).symm.trans hf
      refine lv_iload hx hb dX11_best_46 (lv_at hl 0 rfl) ?_
      refine lv_istore_n (lv' := [(2, .int v4), (5, .int v4), (0, .ref (g.2.2 0)), (1, .int x1), (3, .int x3), (4, .int x4)]) hx hb dX11_best_48 rfl hl (by decide) rfl (fun ls hl => ?_)
      refine lv_iload hx hb dX11_best_49 (lv_at hl 5 rfl) ?_
      refine lv_istore_n (lv' := [(3, .int x4), (2, .int v4), (5, .int v4), (0, .ref (g.2.2 0)), (1, .int x1), (4, .int x4)]) hx hb dX11_best_51 rfl hl (by decide) rfl (fun ls hl => ?_)
      exact b_X11_best_0_b52 C hex hst hf k0 k H locs ls hP hD hS (lv_sub hl [3, 4, 1, 0, 5] rfl)
theorem lp_X11_best_0_h14 {N n : Nat} {x1 : Int32} {x2 : Int32} {x3 : Int32} {x4 : Int32} {σ : Sg} {z : Nat × Int32 × Int32 × Int32 × Sg} (C : Cx p s m args meth c cX11_best 6 (some .int) RX11 g A X) (hex : ∀ x ∈ c.exceptionTable.toList, False) (hst : l.stackTraces = false) (hz : it (fun q => s_X11_best_0_h14 N x1 q.1 q.2.1 q.2.2.1 q.2.2.2) n (x2, x3, x4, σ) = some z) (k : Bk cw p l e rm_X11_best_0 s m args below meth c 6 g A Q 1 6 58 [(3, .int z.2.2.1)] [] z.2.2.2.2) : Bk cw p l e rm_X11_best_0 s m args below meth c 6 g A Q 1 6 14 [(0, .ref (g.2.2 0)), (1, .int x1), (2, .int x2), (3, .int x3), (4, .int x4)] [] σ :=
  it_W (S := Int32 × Int32 × Int32 × Sg) (fun q => Bk cw p l e rm_X11_best_0 s m args below meth c 6 g A Q 1 6 14 [(0, .ref (g.2.2 0)), (1, .int x1), (2, .int q.1), (3, .int q.2.1), (4, .int q.2.2.1)] [] q.2.2.2) (fun z => Bk cw p l e rm_X11_best_0 s m args below meth c 6 g A Q 1 6 58 [(3, .int z.2.2.1)] [] z.2.2.2.2) (fun q z hq k0 k => e_X11_best_0_h14 C hex hst hq k0 k) n (x2, x3, x4, σ) z hz k
def f_X11_best_0 (N : Nat) (x1 : Int32) (σ : Sg) : Option (Zt) :=
(f_X11_needWithin N x1 (1 : Int32) (60 : Int32) σ).bind fun q5 =>
if q5.1 = 0 then ((it (fun q => s_X11_best_0_h14 N x1 q.1 q.2.1 q.2.2.1 q.2.2.2) N ((-1 : Int32), (-1 : Int32), (0 : Int32), (q5.2.2))).bind fun z6 =>
some (0, (z6.2.2.1), (z6.2.2.2.2)))
else some (q5.1, 0, q5.2.2)
set_option maxHeartbeats 4000000 in
set_option maxRecDepth 100000 in
theorem b_X11_best_0 {N : Nat} {x1 : Int32} {σ : Sg} {z : Zt} (C : Cx p s m args meth c cX11_best 6 (some .int) RX11 g A X) (hex : ∀ x ∈ c.exceptionTable.toList, False) (hst : l.stackTraces = false) (hf : f_X11_best_0 N x1 σ = some z) : Bk cw p l e rm_X11_best_0 s m args below meth c 6 g A (vx_MQ below (qTi cw g A z) (xT cw g A z) args s 1 6 A) 0 0 0 [(0, .ref (g.2.2 0)), (1, .int x1)] [] σ := by
  obtain ⟨hx, hb, hr, hml, hown, hts, hK, hlocks, hXX, hA, hXo⟩ := id C
  intro H locs ls hP hD hS hl
  unfold f_X11_best_0 at hf
  refine lv_iload_n hx hb dX11_best_0 rfl (lv_at hl 1 rfl) ?_
  refine lv_iconst (v := (1 : Int32)) hx hb dX11_best_1 (by decide) ?_
  refine lv_bipush (v := (60 : Int32)) hx hb dX11_best_2 (by decide) ?_
  obtain ⟨q5, hq5, hf⟩ := bi_s hf
  refine bk_TS (wf := cw) (rest := []) [.int x1, .int (1 : Int32), .int (60 : Int32)] C hex hP hD hS hl.1 (c_X11_needWithin hXo hst hq5) (cwA_S 3 hts wa_1020 wa_1018 wa_1019 wa_2 rfl rfl nd_X11_needWithin ⟨Nat.le_of_ble_eq_true rfl, Nat.le_of_ble_eq_true rfl⟩) rfl rfl (Nat.le_of_ble_eq_true rfl) dX11_best_4 ⟨Nat.le_of_ble_eq_true rfl, Nat.le_of_ble_eq_true rfl⟩ ⟨Nat.le_of_ble_eq_true rfl, Nat.le_of_ble_eq_true rfl⟩ (fun h0 => by have hf := (if_neg h0).symm.trans hf; cases hf; exact ⟨rfl, rfl⟩) (fun h0 H locs hP hD hS => ?_)
  have hf := (if_pos h0).symm.trans hf
  refine lv_iconst (v := (-1 : Int32)) hx hb dX11_best_7 (by decide) ?_
  refine lv_istore_n (lv' := [(2, .int (-1 : Int32)), (0, .ref (g.2.2 0)), (1, .int x1)]) hx hb dX11_best_8 rfl hl (by decide) rfl (fun ls hl => ?_)
  refine lv_iconst (v := (-1 : Int32)) hx hb dX11_best_9 (by decide) ?_
  refine lv_istore_n (lv' := [(3, .int (-1 : Int32)), (2, .int (-1 : Int32)), (0, .ref (g.2.2 0)), (1, .int x1)]) hx hb dX11_best_10 rfl hl (by decide) rfl (fun ls hl => ?_)
  refine lv_iconst (v := (0 : Int32)) hx hb dX11_best_11 (by decide) ?_
  refine lv_istore (lv' := [(4, .int (0 : Int32)), (3, .int (-1 : Int32)), (2, .int (-1 : Int32)), (0, .ref (g.2.2 0)), (1, .int x1)]) hx hb dX11_best_12 hl (by decide) rfl (fun ls hl => ?_)
  obtain ⟨z6, hz6, hf⟩ := bi_s hf
  refine lp_X11_best_0_h14 C hex hst hz6 ?_ H locs ls hP hD hS (lv_sub hl [3, 4, 2, 1, 0] rfl)
  intro H locs ls hP hD hS hl
  refine lv_iload_n hx hb dX11_best_58 rfl (lv_at hl 0 rfl) ?_
  exact bk_iretT C hP hD hS hf (Nat.le_of_ble_eq_true rfl) (Nat.le_of_ble_eq_true rfl) dX11_best_59
theorem c_X11_best_0 {N : Nat} {x1 : Int32} {σ : Sg} {z : Zt} (hX : xOK g X) (hst : l.stackTraces = false) (hf : f_X11_best_0 N x1 σ = some z) : MetTi l yX11_best (Cond.code yX11_best cX11_best 6 (some .int) :: wsA) rm_X11_best_0 1 6 cw g X [.ref (g.2.2 0), .int x1] σ z :=
  MetTi_of hX (by decide) (Nat.le_of_ble_eq_true rfl) (fun p e s m args below meth c A C hex => b_X11_best_0 C hex hst hf)
-- X11_toBegin_0: toBegin(I)I
abbrev rm_X11_toBegin_0 : Room := { frames := 8, cells := 1, slots := 6, locals := 189 }
theorem nd_X11_toBegin : yX11_toBegin.cls ≠ "java/lang/invoke/MethodHandle" ∧ yX11_toBegin.cls ≠ "java/lang/invoke/VarHandle" ∧ (parseMethodDescriptor yX11_toBegin.desc).map (fun d => d.parameters.length) = some 1 := by decide +kernel
def f_X11_toBegin_0_b82 (N : Nat) (x1 : Int32) (x2 : Int32) (x3 : Int32) (x4 : Int32) (σ : Sg) : Option (Nat × Int32 × Sg) :=
bd (x4 + (1 : Int32)) fun v1 =>
some (0, v1, σ)
set_option maxHeartbeats 4000000 in
set_option maxRecDepth 100000 in
theorem b_X11_toBegin_0_b82 {N : Nat} {x1 : Int32} {x2 : Int32} {x3 : Int32} {x4 : Int32} {σ : Sg} {z : Nat × Int32 × Sg} (C : Cx p s m args meth c cX11_toBegin 5 (some .int) RX11 g A X) (hex : ∀ x ∈ c.exceptionTable.toList, False) (hst : l.stackTraces = false) (hf : f_X11_toBegin_0_b82 N x1 x2 x3 x4 σ = some z) (k0 : z.1 = 0 → Bk cw p l e rm_X11_toBegin_0 s m args below meth c 5 g A Q 1 6 44 [(0, .ref (g.2.2 0)), (1, .int x1), (2, .int x2), (3, .int x3), (4, .int z.2.1)] [] z.2.2) (k : ¬ z.1 = 0 → ((z.1 = 1 → Bk cw p l e rm_X11_toBegin_0 s m args below meth c 5 g A Q 1 6 79 [(4, .int z.2.1)] [] z.2.2) ∧ (¬ z.1 = 1 → Bk cw p l e rm_X11_toBegin_0 s m args below meth c 5 g A Q 1 6 88 [(0, .ref (g.2.2 0)), (1, .int x1), (2, .int x2), (3, .int x3)] [] z.2.2))) : Bk cw p l e rm_X11_toBegin_0 s m args below meth c 5 g A Q 1 6 82 [(0, .ref (g.2.2 0)), (1, .int x1), (2, .int x2), (3, .int x3), (4, .int x4)] [] σ := by
  obtain ⟨hx, hb, hr, hml, hown, hts, hK, hlocks, hXX, hA, hXo⟩ := id C
  intro H locs ls hP hD hS hl
  unfold f_X11_toBegin_0_b82 at hf
  obtain ⟨v1, ev1, hf⟩ := bd_s hf
  refine lv_iinc (v := v1) (lv' := [(4, .int v1), (0, .ref (g.2.2 0)), (1, .int x1), (2, .int x2), (3, .int x3)]) hx hb dX11_toBegin_82 hl (k := 4) rfl (by rw [ev1]; rfl) (by decide) rfl (fun ls hl => ?_)
  refine lv_goto (tgt := 44) hx hb dX11_toBegin_85 (by decide) ?_
  cases hf
  exact k0 rfl H locs ls hP hD hS (lv_sub hl [1, 2, 3, 4, 0] rfl)
def s_X11_toBegin_0_h44 (N : Nat) (x1 : Int32) (x2 : Int32) (x3 : Int32) (x4 : Int32) (σ : Sg) : Option (Nat × Int32 × Sg) :=
if x2 < x4 then (some (2, 0, σ))
else (if (x4 &&& (x2 ^^^ (-1 : Int32))) = 0 then ((f_J6_bitCount_0f7a4 N x4 σ).bind fun q2 =>
if q2.1 = x3 then ((f_X11_reachedBy_0 N x4 x1 (q2.2)).bind fun q3 =>
if q3.1 = x2 then (some (1, x4, (q3.2)))
else (f_X11_toBegin_0_b82 N x1 x2 x3 x4 (q3.2)))
else (f_X11_toBegin_0_b82 N x1 x2 x3 x4 (q2.2)))
else (f_X11_toBegin_0_b82 N x1 x2 x3 x4 σ))
set_option maxHeartbeats 4000000 in
set_option maxRecDepth 100000 in
theorem e_X11_toBegin_0_h44 {N : Nat} {x1 : Int32} {x2 : Int32} {x3 : Int32} {x4 : Int32} {σ : Sg} {z : Nat × Int32 × Sg} (C : Cx p s m args meth c cX11_toBegin 5 (some .int) RX11 g A X) (hex : ∀ x ∈ c.exceptionTable.toList, False) (hst : l.stackTraces = false) (hf : s_X11_toBegin_0_h44 N x1 x2 x3 x4 σ = some z) (k0 : z.1 = 0 → Bk cw p l e rm_X11_toBegin_0 s m args below meth c 5 g A Q 1 6 44 [(0, .ref (g.2.2 0)), (1, .int x1), (2, .int x2), (3, .int x3), (4, .int z.2.1)] [] z.2.2) (k : ¬ z.1 = 0 → ((z.1 = 1 → Bk cw p l e rm_X11_toBegin_0 s m args below meth c 5 g A Q 1 6 79 [(4, .int z.2.1)] [] z.2.2) ∧ (¬ z.1 = 1 → Bk cw p l e rm_X11_toBegin_0 s m args below meth c 5 g A Q 1 6 88 [(0, .ref (g.2.2 0)), (1, .int x1), (2, .int x2), (3, .int x3)] [] z.2.2))) : Bk cw p l e rm_X11_toBegin_0 s m args below meth c 5 g A Q 1 6 44 [(0, .ref (g.2.2 0)), (1, .int x1), (2, .int x2), (3, .int x3), (4, .int x4)] [] σ := by
  obtain ⟨hx, hb, hr, hml, hown, hts, hK, hlocks, hXX, hA, hXo⟩ := id C
  intro H locs ls hP hD hS hl
  unfold s_X11_toBegin_0_h44 at hf
  refine lv_iload hx hb dX11_toBegin_44 (lv_at hl 4 rfl) ?_
  refine lv_iload_n hx hb dX11_toBegin_46 rfl (lv_at hl 2 rfl) ?_
  refine lv_icmp_gt (tgt := 88) hx hb dX11_toBegin_47 (by decide) (fun t47 => ?_) (fun t47 => ?_)
  · have hf := (if_pos t47).symm.trans hf
    cases hf
    exact ((k (show ¬ (2 : Nat) = 0 by decide)).2 (show ¬ (2 : Nat) = 1 by decide)) H locs ls hP hD hS (lv_sub hl [0, 1, 2, 3] rfl)
  · have hf := (if_neg t47).symm.trans hf
    refine lv_iload hx hb dX11_toBegin_50 (lv_at hl 4 rfl) ?_
    refine lv_iload_n hx hb dX11_toBegin_52 rfl (lv_at hl 2 rfl) ?_
    refine lv_iconst (v := (-1 : Int32)) hx hb dX11_toBegin_53 (by decide) ?_
    refine lv_ixor hx hb dX11_toBegin_54 ?_
    refine lv_iand hx hb dX11_toBegin_55 ?_
    refine lv_if_ne (tgt := 82) hx hb dX11_toBegin_56 (by decide) (fun t56 => ?_) (fun t56 => ?_)
    · have hf := (if_neg t56).symm.trans hf
      exact b_X11_toBegin_0_b82 C hex hst hf k0 k H locs ls hP hD hS (lv_sub hl [0, 1, 2, 3, 4] rfl)
    · have hf := (if_pos t56).symm.trans hf
      refine lv_iload hx hb dX11_toBegin_59 (lv_at hl 4 rfl) ?_
      obtain ⟨q2, hq2, hf⟩ := bi_s hf
      refine bk_SI (wf := cw) (rest := []) [.int x4] C hP hD hS hl.1 (c_J6_bitCount_0f7a4 hXo hq2) (cwA_S 1 hts wa_699 wa_1071 wa_697 wa_698 rfl rfl nd_J6_bitCount_0f7a4 ⟨Nat.le_of_ble_eq_true rfl, Nat.le_of_ble_eq_true rfl⟩) rfl rfl (Nat.le_of_ble_eq_true rfl) dX11_toBegin_61 ⟨Nat.le_of_ble_eq_true rfl, Nat.le_of_ble_eq_true rfl⟩ (fun H locs hP hD hS => ?_)
      refine lv_iload_n hx hb dX11_toBegin_64 rfl (lv_at hl 3 rfl) ?_
      refine lv_icmp_ne (tgt := 82) hx hb dX11_toBegin_65 (by decide) (fun t65 => ?_) (fun t65 => ?_)
      · have hf := (if_neg t65).symm.trans hf
        exact b_X11_toBegin_0_b82 C hex hst hf k0 k H locs ls hP hD hS (lv_sub hl [0, 1, 2, 3, 4] rfl)
      · have hf := (if_pos t65).symm.trans hf
        refine lv_aload_n hx hb dX11_toBegin_68 rfl (lv_at hl 0 rfl) ?_
        refine lv_iload hx hb dX11_toBegin_69 (lv_at hl 4 rfl) ?_
        refine lv_iload_n hx hb dX11_toBegin_71 rfl (lv_at hl 1 rfl) ?_
        obtain ⟨q3, hq3, hf⟩ := bi_s hf
        refine bk_VI (wf := cw) (q0 := 0) (ci := 10) (rest := []) [.int x4, .int x1] C hP hD hS hl.1 (c_X11_reachedBy_0 hXo hq3) (cwA_V 2 hts wa_1128 wa_1125 wa_1126 wa_1127 wa_2 rfl rfl nd_X11_reachedBy ⟨Nat.le_of_ble_eq_true rfl, Nat.le_of_ble_eq_true rfl⟩) rfl rfl rfl rfl (Nat.le_of_ble_eq_true rfl) dX11_toBegin_72 ⟨Nat.le_of_ble_eq_true rfl, Nat.le_of_ble_eq_true rfl⟩ (fun H locs hP hD hS => ?_)
        refine lv_iload_n hx hb dX11_toBegin_75 rfl (lv_at hl 2 rfl) ?_
        refine lv_icmp_ne (tgt := 82) hx hb dX11_toBegin_76 (by decide) (fun t76 => ?_) (fun t76 => ?_)
        · have hf := (if_neg t76).symm.trans hf
          exact b_X11_toBegin_0_b82 C hex hst hf k0 k H locs ls hP hD hS (lv_sub hl [0, 1, 2, 3, 4] rfl)
        · have hf := (if_pos t76).symm.trans hf
          cases hf
          exact ((k (show ¬ (1 : Nat) = 0 by decide)).1 rfl) H locs ls hP hD hS (lv_sub hl [4] rfl)
theorem lp_X11_toBegin_0_h44 {N n : Nat} {x1 : Int32} {x2 : Int32} {x3 : Int32} {x4 : Int32} {σ : Sg} {z : Nat × Int32 × Sg} (C : Cx p s m args meth c cX11_toBegin 5 (some .int) RX11 g A X) (hex : ∀ x ∈ c.exceptionTable.toList, False) (hst : l.stackTraces = false) (hz : it (fun q => s_X11_toBegin_0_h44 N x1 x2 x3 q.1 q.2) n (x4, σ) = some z) (k : ((z.1 = 1 → Bk cw p l e rm_X11_toBegin_0 s m args below meth c 5 g A Q 1 6 79 [(4, .int z.2.1)] [] z.2.2) ∧ (¬ z.1 = 1 → Bk cw p l e rm_X11_toBegin_0 s m args below meth c 5 g A Q 1 6 88 [(0, .ref (g.2.2 0)), (1, .int x1), (2, .int x2), (3, .int x3)] [] z.2.2))) : Bk cw p l e rm_X11_toBegin_0 s m args below meth c 5 g A Q 1 6 44 [(0, .ref (g.2.2 0)), (1, .int x1), (2, .int x2), (3, .int x3), (4, .int x4)] [] σ :=
  it_W (S := Int32 × Sg) (fun q => Bk cw p l e rm_X11_toBegin_0 s m args below meth c 5 g A Q 1 6 44 [(0, .ref (g.2.2 0)), (1, .int x1), (2, .int x2), (3, .int x3), (4, .int q.1)] [] q.2) (fun z => ((z.1 = 1 → Bk cw p l e rm_X11_toBegin_0 s m args below meth c 5 g A Q 1 6 79 [(4, .int z.2.1)] [] z.2.2) ∧ (¬ z.1 = 1 → Bk cw p l e rm_X11_toBegin_0 s m args below meth c 5 g A Q 1 6 88 [(0, .ref (g.2.2 0)), (1, .int x1), (2, .int x2), (3, .int x3)] [] z.2.2))) (fun q z hq k0 k => e_X11_toBegin_0_h44 C hex hst hq k0 k) n (x4, σ) z hz k
def s_X11_toBegin_0_h30 (N : Nat) (x1 : Int32) (x2 : Int32) (x3 : Int32) (x4 : Int32) (σ : Sg) : Option (Nat × Int32 × Int32 × Sg) :=
if (σ 12 0) < x3 then (some (2, 0, 0, σ))
else ((it (fun q => s_X11_toBegin_0_h44 N x1 x2 x3 q.1 q.2) N ((0 : Int32), σ)).bind fun z4 =>
if z4.1 = 1 then (some (1, 0, (z4.2.1), (z4.2.2)))
else (bd (x3 + (1 : Int32)) fun v5 =>
some (0, v5, 0, (z4.2.2))))
set_option maxHeartbeats 4000000 in
set_option maxRecDepth 100000 in
theorem e_X11_toBegin_0_h30 {N : Nat} {x1 : Int32} {x2 : Int32} {x3 : Int32} {x4 : Int32} {σ : Sg} {z : Nat × Int32 × Int32 × Sg} (C : Cx p s m args meth c cX11_toBegin 5 (some .int) RX11 g A X) (hex : ∀ x ∈ c.exceptionTable.toList, False) (hst : l.stackTraces = false) (hf : s_X11_toBegin_0_h30 N x1 x2 x3 x4 σ = some z) (k0 : z.1 = 0 → Bk cw p l e rm_X11_toBegin_0 s m args below meth c 5 g A Q 1 6 30 [(0, .ref (g.2.2 0)), (1, .int x1), (2, .int x2), (3, .int z.2.1)] [] z.2.2.2) (k : ¬ z.1 = 0 → ((z.1 = 1 → Bk cw p l e rm_X11_toBegin_0 s m args below meth c 5 g A Q 1 6 79 [(4, .int z.2.2.1)] [] z.2.2.2) ∧ (¬ z.1 = 1 → Bk cw p l e rm_X11_toBegin_0 s m args below meth c 5 g A Q 1 6 94 [] [] z.2.2.2))) : Bk cw p l e rm_X11_toBegin_0 s m args below meth c 5 g A Q 1 6 30 [(0, .ref (g.2.2 0)), (1, .int x1), (2, .int x2), (3, .int x3)] [] σ := by
  obtain ⟨hx, hb, hr, hml, hown, hts, hK, hlocks, hXX, hA, hXo⟩ := id C
  intro H locs ls hP hD hS hl
  unfold s_X11_toBegin_0_h30 at hf
  refine lv_iload_n hx hb dX11_toBegin_30 rfl (lv_at hl 3 rfl) ?_
  refine lv_aload_n hx hb dX11_toBegin_31 rfl (lv_at hl 0 rfl) ?_
  refine bk_get (wf := cw) (q0 := 0) (ci := 10) (k := 3) (v := .ref (g.2.2 12)) C hP wl_X11 rfl rfl (by decide) wa_23 rfl rfl dX11_toBegin_32 ?_
  refine bk_get (wf := cw) (q0 := 12) (ci := 8) (k := 0) (v := .int (σ 12 0)) C hP wl_X9 rfl rfl (by decide) wa_644 rfl rfl dX11_toBegin_35 ?_
  refine lv_icmp_gt (tgt := 94) hx hb dX11_toBegin_38 (by decide) (fun t38 => ?_) (fun t38 => ?_)
  · have hf := (if_pos t38).symm.trans hf
    cases hf
    exact ((k (show ¬ (2 : Nat) = 0 by decide)).2 (show ¬ (2 : Nat) = 1 by decide)) H locs ls hP hD hS (lv_sub hl [] rfl)
  · have hf := (if_neg t38).symm.trans hf
    refine lv_iconst (v := (0 : Int32)) hx hb dX11_toBegin_41 (by decide) ?_
    refine lv_istore (lv' := [(4, .int (0 : Int32)), (0, .ref (g.2.2 0)), (1, .int x1), (2, .int x2), (3, .int x3)]) hx hb dX11_toBegin_42 hl (by decide) rfl (fun ls hl => ?_)
    obtain ⟨z4, hz4, hf⟩ := bi_s hf
    refine lp_X11_toBegin_0_h44 C hex hst hz4 ⟨fun t0 => ?_, fun t0 => ?_⟩ H locs ls hP hD hS (lv_sub hl [1, 2, 3, 4, 0] rfl)
    · have hf := (if_pos t0).symm.trans hf
      intro H locs ls hP hD hS hl
      cases hf
      exact ((k (show ¬ (1 : Nat) = 0 by decide)).1 rfl) H locs ls hP hD hS (lv_sub hl [0] rfl)
    · have hf := (if_neg t0).symm.trans hf
      intro H locs ls hP hD hS hl
      obtain ⟨v5, ev5, hf⟩ := bd_s hf
      refine lv_iinc (v := v5) (lv' := [(3, .int v5), (0, .ref (g.2.2 0)), (1, .int x1), (2, .int x2)]) hx hb dX11_toBegin_88 hl (k := 3) rfl (by rw [ev5]; rfl) (by decide) rfl (fun ls hl => ?_)
      refine lv_goto (tgt := 30) hx hb dX11_toBegin_91 (by decide) ?_
      cases hf
      exact k0 rfl H locs ls hP hD hS (lv_sub hl [1, 2, 3, 0] rfl)
theorem lp_X11_toBegin_0_h30 {N n : Nat} {x1 : Int32} {x2 : Int32} {x3 : Int32} {x4 : Int32} {σ : Sg} {z : Nat × Int32 × Int32 × Sg} (C : Cx p s m args meth c cX11_toBegin 5 (some .int) RX11 g A X) (hex : ∀ x ∈ c.exceptionTable.toList, False) (hst : l.stackTraces = false) (hz : it (fun q => s_X11_toBegin_0_h30 N x1 x2 q.1 q.2.1 q.2.2) n (x3, x4, σ) = some z) (k : ((z.1 = 1 → Bk cw p l e rm_X11_toBegin_0 s m args below meth c 5 g A Q 1 6 79 [(4, .int z.2.2.1)] [] z.2.2.2) ∧ (¬ z.1 = 1 → Bk cw p l e rm_X11_toBegin_0 s m args below meth c 5 g A Q 1 6 94 [] [] z.2.2.2))) : Bk cw p l e rm_X11_toBegin_0 s m args below meth c 5 g A Q 1 6 30 [(0, .ref (g.2.2 0)), (1, .int x1), (2, .int x2), (3, .int x3)] [] σ :=
  it_W (S := Int32 × Int32 × Sg) (fun q => Bk cw p l e rm_X11_toBegin_0 s m args below meth c 5 g A Q 1 6 30 [(0, .ref (g.2.2 0)), (1, .int x1), (2, .int x2), (3, .int q.1)] [] q.2.2) (fun z => ((z.1 = 1 → Bk cw p l e rm_X11_toBegin_0 s m args below meth c 5 g A Q 1 6 79 [(4, .int z.2.2.1)] [] z.2.2.2) ∧ (¬ z.1 = 1 → Bk cw p l e rm_X11_toBegin_0 s m args below meth c 5 g A Q 1 6 94 [] [] z.2.2.2))) (fun q z hq k0 k => e_X11_toBegin_0_h30 C hex hst hq k0 k) n (x3, x4, σ) z hz k
def f_X11_toBegin_0 (N : Nat) (x1 : Int32) (σ : Sg) : Option (Zt) :=
(f_X11_needWithin N x1 (1 : Int32) (60 : Int32) σ).bind fun q6 =>
if q6.1 = 0 then ((f_X9_all_12 N (q6.2.2)).bind fun q7 =>
bd (q7.1 &&& (((q7.2) 22 1) ^^^ (-1 : Int32))) fun v8 =>
(it (fun q => s_X11_toBegin_0_h30 N x1 v8 q.1 q.2.1 q.2.2) N ((0 : Int32), (0 : Int32), (q7.2))).bind fun z9 =>
if z9.1 = 1 then (some (0, (z9.2.2.1), (z9.2.2.2)))
else (some (0, (-1 : Int32), (z9.2.2.2))))
else some (q6.1, 0, q6.2.2)
set_option maxHeartbeats 4000000 in
set_option maxRecDepth 100000 in
theorem b_X11_toBegin_0 {N : Nat} {x1 : Int32} {σ : Sg} {z : Zt} (C : Cx p s m args meth c cX11_toBegin 5 (some .int) RX11 g A X) (hex : ∀ x ∈ c.exceptionTable.toList, False) (hst : l.stackTraces = false) (hf : f_X11_toBegin_0 N x1 σ = some z) : Bk cw p l e rm_X11_toBegin_0 s m args below meth c 5 g A (vx_MQ below (qTi cw g A z) (xT cw g A z) args s 1 6 A) 0 0 0 [(0, .ref (g.2.2 0)), (1, .int x1)] [] σ := by
  obtain ⟨hx, hb, hr, hml, hown, hts, hK, hlocks, hXX, hA, hXo⟩ := id C
  intro H locs ls hP hD hS hl
  unfold f_X11_toBegin_0 at hf
  refine lv_iload_n hx hb dX11_toBegin_0 rfl (lv_at hl 1 rfl) ?_
  refine lv_iconst (v := (1 : Int32)) hx hb dX11_toBegin_1 (by decide) ?_
  refine lv_bipush (v := (60 : Int32)) hx hb dX11_toBegin_2 (by decide) ?_
  obtain ⟨q6, hq6, hf⟩ := bi_s hf
  refine bk_TS (wf := cw) (rest := []) [.int x1, .int (1 : Int32), .int (60 : Int32)] C hex hP hD hS hl.1 (c_X11_needWithin hXo hst hq6) (cwA_S 3 hts wa_1020 wa_1018 wa_1019 wa_2 rfl rfl nd_X11_needWithin ⟨Nat.le_of_ble_eq_true rfl, Nat.le_of_ble_eq_true rfl⟩) rfl rfl (Nat.le_of_ble_eq_true rfl) dX11_toBegin_4 ⟨Nat.le_of_ble_eq_true rfl, Nat.le_of_ble_eq_true rfl⟩ ⟨Nat.le_of_ble_eq_true rfl, Nat.le_of_ble_eq_true rfl⟩ (fun h0 => by have hf := (if_neg h0).symm.trans hf; cases hf; exact ⟨rfl, rfl⟩) (fun h0 H locs hP hD hS => ?_)
  have hf := (if_pos h0).symm.trans hf
  refine lv_aload_n hx hb dX11_toBegin_7 rfl (lv_at hl 0 rfl) ?_
  refine bk_get (wf := cw) (q0 := 0) (ci := 10) (k := 3) (v := .ref (g.2.2 12)) C hP wl_X11 rfl rfl (by decide) wa_23 rfl rfl dX11_toBegin_8 ?_
  obtain ⟨q7, hq7, hf⟩ := bi_s hf
  refine bk_VI (wf := cw) (q0 := 12) (ci := 8) (rest := []) [] C hP hD hS hl.1 (c_X9_all_12 hXo hq7) (cwA_V 0 hts wa_695 wa_1172 wa_693 wa_694 wa_22 rfl rfl nd_X9_all ⟨Nat.le_of_ble_eq_true rfl, Nat.le_of_ble_eq_true rfl⟩) rfl rfl rfl rfl (Nat.le_of_ble_eq_true rfl) dX11_toBegin_11 ⟨Nat.le_of_ble_eq_true rfl, Nat.le_of_ble_eq_true rfl⟩ (fun H locs hP hD hS => ?_)
  refine lv_aload_n hx hb dX11_toBegin_14 rfl (lv_at hl 0 rfl) ?_
  refine bk_get (wf := cw) (q0 := 0) (ci := 10) (k := 4) (v := .ref (g.2.2 21)) C hP wl_X11 rfl rfl (by decide) wa_27 rfl rfl dX11_toBegin_15 ?_
  refine bk_get (wf := cw) (q0 := 21) (ci := 1) (k := 0) (v := .ref (g.2.2 22)) C hP wl_X1 rfl rfl (by decide) wa_221 rfl rfl dX11_toBegin_18 ?_
  refine bk_get (wf := cw) (q0 := 22) (ci := 7) (k := 1) (v := .int ((q7.2) 22 1)) C hP wl_X7 rfl rfl (by decide) wa_648 rfl rfl dX11_toBegin_21 ?_
  refine lv_iconst (v := (-1 : Int32)) hx hb dX11_toBegin_24 (by decide) ?_
  refine lv_ixor hx hb dX11_toBegin_25 ?_
  refine lv_iand hx hb dX11_toBegin_26 ?_
  obtain ⟨v8, ev8, hf⟩ := bd_s hf
  rw [← ev8]
  refine lv_istore_n (lv' := [(2, .int v8), (0, .ref (g.2.2 0)), (1, .int x1)]) hx hb dX11_toBegin_27 rfl hl (by decide) rfl (fun ls hl => ?_)
  refine lv_iconst (v := (0 : Int32)) hx hb dX11_toBegin_28 (by decide) ?_
  refine lv_istore_n (lv' := [(3, .int (0 : Int32)), (2, .int v8), (0, .ref (g.2.2 0)), (1, .int x1)]) hx hb dX11_toBegin_29 rfl hl (by decide) rfl (fun ls hl => ?_)
  obtain ⟨z9, hz9, hf⟩ := bi_s hf
  refine lp_X11_toBegin_0_h30 C hex hst hz9 ⟨fun t0 => ?_, fun t0 => ?_⟩ H locs ls hP hD hS (lv_sub hl [2, 3, 1, 0] rfl)
  · have hf := (if_pos t0).symm.trans hf
    intro H locs ls hP hD hS hl
    refine lv_iload hx hb dX11_toBegin_79 (lv_at hl 0 rfl) ?_
    exact bk_iretT C hP hD hS hf (Nat.le_of_ble_eq_true rfl) (Nat.le_of_ble_eq_true rfl) dX11_toBegin_81
  · have hf := (if_neg t0).symm.trans hf
    intro H locs ls hP hD hS hl
    refine lv_iconst (v := (-1 : Int32)) hx hb dX11_toBegin_94 (by decide) ?_
    exact bk_iretT C hP hD hS hf (Nat.le_of_ble_eq_true rfl) (Nat.le_of_ble_eq_true rfl) dX11_toBegin_95
theorem c_X11_toBegin_0 {N : Nat} {x1 : Int32} {σ : Sg} {z : Zt} (hX : xOK g X) (hst : l.stackTraces = false) (hf : f_X11_toBegin_0 N x1 σ = some z) : MetTi l yX11_toBegin (Cond.code yX11_toBegin cX11_toBegin 5 (some .int) :: wsA) rm_X11_toBegin_0 1 6 cw g X [.ref (g.2.2 0), .int x1] σ z :=
  MetTi_of hX (by decide) (Nat.le_of_ble_eq_true rfl) (fun p e s m args below meth c A C hex => b_X11_toBegin_0 C hex hst hf)
-- X10_steps_53: steps(II)I
abbrev rm_X10_steps_53 : Room := { frames := 1, cells := 0, slots := 0, locals := 23 }
theorem nd_X10_steps : yX10_steps.cls ≠ "java/lang/invoke/MethodHandle" ∧ yX10_steps.cls ≠ "java/lang/invoke/VarHandle" ∧ (parseMethodDescriptor yX10_steps.desc).map (fun d => d.parameters.length) = some 2 := by decide +kernel
def s_X10_steps_53_h7 (N : Nat) (x2 : Int32) (x3 : Int32) (x4 : Int32) (σ : Sg) : Option (Nat × Int32 × Int32 × Sg) :=
if (9 : Int32) ≤ x4 then (some (2, 0, 0, σ))
else (if ((x3 >>> (x2 &&& 31)) &&& (1 : Int32)) = (1 : Int32) then (some (1, 0, x4, σ))
else ((f_X10_withNext_53 N x3 σ).bind fun q1 =>
bd q1.1 fun v2 =>
bd (x4 + (1 : Int32)) fun v3 =>
some (0, v2, v3, (q1.2))))
set_option maxHeartbeats 4000000 in
set_option maxRecDepth 100000 in
theorem e_X10_steps_53_h7 {N : Nat} {x2 : Int32} {x3 : Int32} {x4 : Int32} {σ : Sg} {z : Nat × Int32 × Int32 × Sg} (C : Cx p s m args meth c cX10_steps 5 (some .int) RX10 g A X) (hf : s_X10_steps_53_h7 N x2 x3 x4 σ = some z) (k0 : z.1 = 0 → Bk cw p l e rm_X10_steps_53 s m args below meth c 5 g A Q 0 0 7 [(0, .ref (g.2.2 53)), (2, .int x2), (3, .int z.2.1), (4, .int z.2.2.1)] [] z.2.2.2) (k : ¬ z.1 = 0 → ((z.1 = 1 → Bk cw p l e rm_X10_steps_53 s m args below meth c 5 g A Q 0 0 23 [(4, .int z.2.2.1)] [] z.2.2.2) ∧ (¬ z.1 = 1 → Bk cw p l e rm_X10_steps_53 s m args below meth c 5 g A Q 0 0 38 [] [] z.2.2.2))) : Bk cw p l e rm_X10_steps_53 s m args below meth c 5 g A Q 0 0 7 [(0, .ref (g.2.2 53)), (2, .int x2), (3, .int x3), (4, .int x4)] [] σ := by
  obtain ⟨hx, hb, hr, hml, hown, hts, hK, hlocks, hXX, hA, hXo⟩ := id C
  intro H locs ls hP hD hS hl
  unfold s_X10_steps_53_h7 at hf
  refine lv_iload hx hb dX10_steps_7 (lv_at hl 3 rfl) ?_
  refine lv_bipush (v := (9 : Int32)) hx hb dX10_steps_9 (by decide) ?_
  refine lv_icmp_ge (tgt := 38) hx hb dX10_steps_11 (by decide) (fun t11 => ?_) (fun t11 => ?_)
  · have hf := (if_pos t11).symm.trans hf
    cases hf
    exact ((k (show ¬ (2 : Nat) = 0 by decide)).2 (show ¬ (2 : Nat) = 1 by decide)) H locs ls hP hD hS (lv_sub hl [] rfl)
  · have hf := (if_neg t11).symm.trans hf
    refine lv_iload_n hx hb dX10_steps_14 rfl (lv_at hl 2 rfl) ?_
    refine lv_iload_n hx hb dX10_steps_15 rfl (lv_at hl 1 rfl) ?_
    refine lv_ishr hx hb dX10_steps_16 ?_
    refine lv_iconst (v := (1 : Int32)) hx hb dX10_steps_17 (by decide) ?_
    refine lv_iand hx hb dX10_steps_18 ?_
    refine lv_iconst (v := (1 : Int32)) hx hb dX10_steps_19 (by decide) ?_
    refine lv_icmp_ne (tgt := 26) hx hb dX10_steps_20 (by decide) (fun t20 => ?_) (fun t20 => ?_)
    · have hf := (if_neg t20).symm.trans hf
      refine lv_aload_n hx hb dX10_steps_26 rfl (lv_at hl 0 rfl) ?_
      refine lv_iload_n hx hb dX10_steps_27 rfl (lv_at hl 2 rfl) ?_
      obtain ⟨q1, hq1, hf⟩ := bi_s hf
      refine bk_VI (wf := cw) (q0 := 53) (ci := 9) (rest := []) [.int x3] C hP hD hS hl.1 (c_X10_withNext_53 hXo hq1) (cwA_V 1 hts wa_687 wa_684 wa_685 wa_686 wa_37 rfl rfl nd_X10_withNext ⟨Nat.le_of_ble_eq_true rfl, Nat.le_of_ble_eq_true rfl⟩) rfl rfl rfl rfl (Nat.le_of_ble_eq_true rfl) dX10_steps_28 ⟨Nat.le_of_ble_eq_true rfl, Nat.le_of_ble_eq_true rfl⟩ (fun H locs hP hD hS => ?_)
      obtain ⟨v2, ev2, hf⟩ := bd_s hf
      rw [← ev2]
      refine lv_istore_n (lv' := [(3, .int v2), (0, .ref (g.2.2 53)), (2, .int x2), (4, .int x4)]) hx hb dX10_steps_31 rfl hl (by decide) rfl (fun ls hl => ?_)
      obtain ⟨v3, ev3, hf⟩ := bd_s hf
      refine lv_iinc (v := v3) (lv' := [(4, .int v3), (3, .int v2), (0, .ref (g.2.2 53)), (2, .int x2)]) hx hb dX10_steps_32 hl (k := 3) rfl (by rw [ev3]; rfl) (by decide) rfl (fun ls hl => ?_)
      refine lv_goto (tgt := 7) hx hb dX10_steps_35 (by decide) ?_
      cases hf
      exact k0 rfl H locs ls hP hD hS (lv_sub hl [2, 3, 1, 0] rfl)
    · have hf := (if_pos t20).symm.trans hf
      cases hf
      exact ((k (show ¬ (1 : Nat) = 0 by decide)).1 rfl) H locs ls hP hD hS (lv_sub hl [3] rfl)
theorem lp_X10_steps_53_h7 {N n : Nat} {x2 : Int32} {x3 : Int32} {x4 : Int32} {σ : Sg} {z : Nat × Int32 × Int32 × Sg} (C : Cx p s m args meth c cX10_steps 5 (some .int) RX10 g A X) (hz : it (fun q => s_X10_steps_53_h7 N x2 q.1 q.2.1 q.2.2) n (x3, x4, σ) = some z) (k : ((z.1 = 1 → Bk cw p l e rm_X10_steps_53 s m args below meth c 5 g A Q 0 0 23 [(4, .int z.2.2.1)] [] z.2.2.2) ∧ (¬ z.1 = 1 → Bk cw p l e rm_X10_steps_53 s m args below meth c 5 g A Q 0 0 38 [] [] z.2.2.2))) : Bk cw p l e rm_X10_steps_53 s m args below meth c 5 g A Q 0 0 7 [(0, .ref (g.2.2 53)), (2, .int x2), (3, .int x3), (4, .int x4)] [] σ :=
  it_W (S := Int32 × Int32 × Sg) (fun q => Bk cw p l e rm_X10_steps_53 s m args below meth c 5 g A Q 0 0 7 [(0, .ref (g.2.2 53)), (2, .int x2), (3, .int q.1), (4, .int q.2.1)] [] q.2.2) (fun z => ((z.1 = 1 → Bk cw p l e rm_X10_steps_53 s m args below meth c 5 g A Q 0 0 23 [(4, .int z.2.2.1)] [] z.2.2.2) ∧ (¬ z.1 = 1 → Bk cw p l e rm_X10_steps_53 s m args below meth c 5 g A Q 0 0 38 [] [] z.2.2.2))) (fun q z hq k0 k => e_X10_steps_53_h7 C hq k0 k) n (x3, x4, σ) z hz k
def f_X10_steps_53 (N : Nat) (x1 : Int32) (x2 : Int32) (σ : Sg) : Option (Int32 × Sg) :=
bd ((1 : Int32) <<< (x1 &&& 31)) fun v4 =>
(it (fun q => s_X10_steps_53_h7 N x2 q.1 q.2.1 q.2.2) N (v4, (0 : Int32), σ)).bind fun z5 =>
if z5.1 = 1 then (some ((z5.2.2.1), (z5.2.2.2)))
else (some ((-1 : Int32), (z5.2.2.2)))
set_option maxHeartbeats 4000000 in
set_option maxRecDepth 100000 in
theorem b_X10_steps_53 {N : Nat} {x1 : Int32} {x2 : Int32} {σ : Sg} {z : Int32 × Sg} (C : Cx p s m args meth c cX10_steps 5 (some .int) RX10 g A X) (hf : f_X10_steps_53 N x1 x2 σ = some z) : Bk cw p l e rm_X10_steps_53 s m args below meth c 5 g A (MQ below (qI cw g A z.1 z.2) args s 0 0 A) 0 0 0 [(0, .ref (g.2.2 53)), (1, .int x1), (2, .int x2)] [] σ := by
  obtain ⟨hx, hb, hr, hml, hown, hts, hK, hlocks, hXX, hA, hXo⟩ := id C
  intro H locs ls hP hD hS hl
  unfold f_X10_steps_53 at hf
  refine lv_iconst (v := (1 : Int32)) hx hb dX10_steps_0 (by decide) ?_
  refine lv_iload_n hx hb dX10_steps_1 rfl (lv_at hl 1 rfl) ?_
  refine lv_ishl hx hb dX10_steps_2 ?_
  obtain ⟨v4, ev4, hf⟩ := bd_s hf
  rw [← ev4]
  refine lv_istore_n (lv' := [(3, .int v4), (0, .ref (g.2.2 53)), (1, .int x1), (2, .int x2)]) hx hb dX10_steps_3 rfl hl (by decide) rfl (fun ls hl => ?_)
  refine lv_iconst (v := (0 : Int32)) hx hb dX10_steps_4 (by decide) ?_
  refine lv_istore (lv' := [(4, .int (0 : Int32)), (3, .int v4), (0, .ref (g.2.2 53)), (1, .int x1), (2, .int x2)]) hx hb dX10_steps_5 hl (by decide) rfl (fun ls hl => ?_)
  obtain ⟨z5, hz5, hf⟩ := bi_s hf
  refine lp_X10_steps_53_h7 C hz5 ⟨fun t0 => ?_, fun t0 => ?_⟩ H locs ls hP hD hS (lv_sub hl [2, 4, 1, 0] rfl)
  · have hf := (if_pos t0).symm.trans hf
    intro H locs ls hP hD hS hl
    refine lv_iload hx hb dX10_steps_23 (lv_at hl 0 rfl) ?_
    cases hf
    exact bk_iret C hP hD hS rfl dX10_steps_25
  · have hf := (if_neg t0).symm.trans hf
    intro H locs ls hP hD hS hl
    refine lv_iconst (v := (-1 : Int32)) hx hb dX10_steps_38 (by decide) ?_
    cases hf
    exact bk_iret C hP hD hS rfl dX10_steps_39
theorem c_X10_steps_53 {N : Nat} {x1 : Int32} {x2 : Int32} {σ : Sg} {z : Int32 × Sg} (hX : xOK g X) (hf : f_X10_steps_53 N x1 x2 σ = some z) : MetI l yX10_steps (Cond.code yX10_steps cX10_steps 5 (some .int) :: wsA) rm_X10_steps_53 cw g X [.ref (g.2.2 53), .int x1, .int x2] σ z.1 z.2 :=
  MetI_of hX (by decide) (Nat.le_of_ble_eq_true rfl) (fun p e s m args below meth c A C => b_X10_steps_53 C hf)
-- X11_way_0: way(II)I
abbrev rm_X11_way_0 : Room := { frames := 8, cells := 2, slots := 12, locals := 133 }
theorem nd_X11_way : yX11_way.cls ≠ "java/lang/invoke/MethodHandle" ∧ yX11_way.cls ≠ "java/lang/invoke/VarHandle" ∧ (parseMethodDescriptor yX11_way.desc).map (fun d => d.parameters.length) = some 2 := by decide +kernel
def f_X11_way_0 (N : Nat) (x1 : Int32) (x2 : Int32) (σ : Sg) : Option (Zt) :=
(f_X11_needFarms_0 N x1 x2 σ).bind fun q1 =>
if q1.1 = 0 then ((f_X11_viewsNow_0 N (q1.2.2)).bind fun q2 =>
(f_X10_steps_53 N x1 x2 q2).bind fun q3 =>
some (0, q3.1, (q3.2)))
else some (q1.1, 0, q1.2.2)
set_option maxHeartbeats 4000000 in
set_option maxRecDepth 100000 in
theorem b_X11_way_0 {N : Nat} {x1 : Int32} {x2 : Int32} {σ : Sg} {z : Zt} (C : Cx p s m args meth c cX11_way 3 (some .int) RX11 g A X) (hex : ∀ x ∈ c.exceptionTable.toList, False) (hst : l.stackTraces = false) (hf : f_X11_way_0 N x1 x2 σ = some z) : Bk cw p l e rm_X11_way_0 s m args below meth c 3 g A (vx_MQ below (qTi cw g A z) (xT cw g A z) args s 2 12 A) 0 0 0 [(0, .ref (g.2.2 0)), (1, .int x1), (2, .int x2)] [] σ := by
  obtain ⟨hx, hb, hr, hml, hown, hts, hK, hlocks, hXX, hA, hXo⟩ := id C
  intro H locs ls hP hD hS hl
  unfold f_X11_way_0 at hf
  refine lv_aload_n hx hb dX11_way_0 rfl (lv_at hl 0 rfl) ?_
  refine lv_iload_n hx hb dX11_way_1 rfl (lv_at hl 1 rfl) ?_
  refine lv_iload_n hx hb dX11_way_2 rfl (lv_at hl 2 rfl) ?_
  obtain ⟨q1, hq1, hf⟩ := bi_s hf
  refine bk_TV (wf := cw) (q0 := 0) (ci := 10) (rest := []) [.int x1, .int x2] C hex hP hD hS hl.1 (c_X11_needFarms_0 hXo hst hq1) (cwA_V 2 hts wa_1098 wa_1095 wa_1096 wa_1097 wa_2 rfl rfl nd_X11_needFarms ⟨Nat.le_of_ble_eq_true rfl, Nat.le_of_ble_eq_true rfl⟩) rfl rfl rfl rfl (Nat.le_of_ble_eq_true rfl) dX11_way_3 ⟨Nat.le_of_ble_eq_true rfl, Nat.le_of_ble_eq_true rfl⟩ ⟨Nat.le_of_ble_eq_true rfl, Nat.le_of_ble_eq_true rfl⟩ (fun h0 => by have hf := (if_neg h0).symm.trans hf; cases hf; exact ⟨rfl, rfl⟩) (fun h0 H locs hP hD hS => ?_)
  have hf := (if_pos h0).symm.trans hf
  refine lv_aload_n hx hb dX11_way_6 rfl (lv_at hl 0 rfl) ?_
  obtain ⟨q2, hq2, hf⟩ := bi_s hf
  refine bk_VR (wf := cw) (q0 := 0) (ci := 10) (rest := []) [] C hP hD hS hl.1 (c_X11_viewsNow_0 hXo hq2) (cwA_V 0 hts wa_666 wa_663 wa_664 wa_665 wa_2 rfl rfl nd_X11_viewsNow ⟨Nat.le_of_ble_eq_true rfl, Nat.le_of_ble_eq_true rfl⟩) rfl rfl rfl rfl (Nat.le_of_ble_eq_true rfl) dX11_way_7 ⟨Nat.le_of_ble_eq_true rfl, Nat.le_of_ble_eq_true rfl⟩ (fun H locs hP hD hS => ?_)
  refine lv_iload_n hx hb dX11_way_10 rfl (lv_at hl 1 rfl) ?_
  refine lv_iload_n hx hb dX11_way_11 rfl (lv_at hl 2 rfl) ?_
  obtain ⟨q3, hq3, hf⟩ := bi_s hf
  refine bk_VI (wf := cw) (q0 := 53) (ci := 9) (rest := []) [.int x1, .int x2] C hP hD hS hl.1 (c_X10_steps_53 hXo hq3) (cwA_V 2 hts wa_1187 wa_1184 wa_1185 wa_1186 wa_37 rfl rfl nd_X10_steps ⟨Nat.le_of_ble_eq_true rfl, Nat.le_of_ble_eq_true rfl⟩) rfl rfl rfl rfl (Nat.le_of_ble_eq_true rfl) dX11_way_12 ⟨Nat.le_of_ble_eq_true rfl, Nat.le_of_ble_eq_true rfl⟩ (fun H locs hP hD hS => ?_)
  exact bk_iretT C hP hD hS hf (Nat.le_of_ble_eq_true rfl) (Nat.le_of_ble_eq_true rfl) dX11_way_15
theorem c_X11_way_0 {N : Nat} {x1 : Int32} {x2 : Int32} {σ : Sg} {z : Zt} (hX : xOK g X) (hst : l.stackTraces = false) (hf : f_X11_way_0 N x1 x2 σ = some z) : MetTi l yX11_way (Cond.code yX11_way cX11_way 3 (some .int) :: wsA) rm_X11_way_0 2 12 cw g X [.ref (g.2.2 0), .int x1, .int x2] σ z :=
  MetTi_of hX (by decide) (Nat.le_of_ble_eq_true rfl) (fun p e s m args below meth c A C hex => b_X11_way_0 C hex hst hf)
-- X6_inTheWay_50: inTheWay(II)I
abbrev rm_X6_inTheWay_50 : Room := { frames := 0, cells := 0, slots := 0, locals := 0 }
def f_X6_inTheWay_50_b157 (N : Nat) (x3 : Int32) (x4 : Int32) (x5 : Int32) (x6 : Int32) (σ : Sg) : Option (Nat × Int32 × Int32 × Sg) :=
bd (x6 + (1 : Int32)) fun v1 =>
some (0, x5, v1, σ)
set_option maxHeartbeats 4000000 in
set_option maxRecDepth 100000 in
theorem b_X6_inTheWay_50_b157 {N : Nat} {x3 : Int32} {x4 : Int32} {x5 : Int32} {x6 : Int32} {σ : Sg} {z : Nat × Int32 × Int32 × Sg} (C : Cx p s m args meth c cX6_inTheWay 9 (some .int) RX6 g A X) (hf : f_X6_inTheWay_50_b157 N x3 x4 x5 x6 σ = some z) (k0 : z.1 = 0 → Bk cw p l e rm_X6_inTheWay_50 s m args below meth c 9 g A Q 0 0 45 [(0, .ref (g.2.2 50)), (3, .int x3), (4, .int x4), (5, .int z.2.1), (6, .int z.2.2.1)] [] z.2.2.2) (k : ¬ z.1 = 0 → Bk cw p l e rm_X6_inTheWay_50 s m args below meth c 9 g A Q 0 0 163 [(5, .int z.2.1)] [] z.2.2.2) : Bk cw p l e rm_X6_inTheWay_50 s m args below meth c 9 g A Q 0 0 157 [(0, .ref (g.2.2 50)), (3, .int x3), (4, .int x4), (5, .int x5), (6, .int x6)] [] σ := by
  obtain ⟨hx, hb, hr, hml, hown, hts, hK, hlocks, hXX, hA, hXo⟩ := id C
  intro H locs ls hP hD hS hl
  unfold f_X6_inTheWay_50_b157 at hf
  obtain ⟨v1, ev1, hf⟩ := bd_s hf
  refine lv_iinc (v := v1) (lv' := [(6, .int v1), (0, .ref (g.2.2 50)), (3, .int x3), (4, .int x4), (5, .int x5)]) hx hb dX6_inTheWay_157 hl (k := 4) rfl (by rw [ev1]; rfl) (by decide) rfl (fun ls hl => ?_)
  refine lv_goto (tgt := 45) hx hb dX6_inTheWay_160 (by decide) ?_
  cases hf
  exact k0 rfl H locs ls hP hD hS (lv_sub hl [1, 2, 3, 4, 0] rfl)
def s_X6_inTheWay_50_h45 (N : Nat) (x3 : Int32) (x4 : Int32) (x5 : Int32) (x6 : Int32) (σ : Sg) : Option (Nat × Int32 × Int32 × Sg) :=
if (σ 12 0) ≤ x6 then (some (1, x5, 0, σ))
else (if (x6 < 0 ∨ 9 ≤ x6.toNatClampNeg) then none else
if (x3 < 0 ∨ 9 ≤ x3.toNatClampNeg) then none else
bd ((σ 13 x6.toNatClampNeg) - (σ 13 x3.toNatClampNeg)) fun v4 =>
if (x4 < 0 ∨ 9 ≤ x4.toNatClampNeg) then none else
if (x6 < 0 ∨ 9 ≤ x6.toNatClampNeg) then none else
bd ((σ 13 x4.toNatClampNeg) - (σ 13 x6.toNatClampNeg)) fun v7 =>
if v4 ≤ 0 then (f_X6_inTheWay_50_b157 N x3 x4 x5 x6 σ)
else (if v7 ≤ 0 then (f_X6_inTheWay_50_b157 N x3 x4 x5 x6 σ)
else (if (x6 < 0 ∨ 9 ≤ x6.toNatClampNeg) then none else
if (x3 < 0 ∨ 9 ≤ x3.toNatClampNeg) then none else
if (x4 < 0 ∨ 9 ≤ x4.toNatClampNeg) then none else
if ((σ 51 x6.toNatClampNeg) * (v4 + v7)) < (((σ 51 x3.toNatClampNeg) * v7) + ((σ 51 x4.toNatClampNeg) * v4)) then (f_X6_inTheWay_50_b157 N x3 x4 x5 x6 σ)
else (bd (x5 ||| ((1 : Int32) <<< (x6 &&& 31))) fun v11 =>
f_X6_inTheWay_50_b157 N x3 x4 v11 x6 σ))))
set_option maxHeartbeats 4000000 in
set_option maxRecDepth 100000 in
theorem e_X6_inTheWay_50_h45 {N : Nat} {x3 : Int32} {x4 : Int32} {x5 : Int32} {x6 : Int32} {σ : Sg} {z : Nat × Int32 × Int32 × Sg} (C : Cx p s m args meth c cX6_inTheWay 9 (some .int) RX6 g A X) (hf : s_X6_inTheWay_50_h45 N x3 x4 x5 x6 σ = some z) (k0 : z.1 = 0 → Bk cw p l e rm_X6_inTheWay_50 s m args below meth c 9 g A Q 0 0 45 [(0, .ref (g.2.2 50)), (3, .int x3), (4, .int x4), (5, .int z.2.1), (6, .int z.2.2.1)] [] z.2.2.2) (k : ¬ z.1 = 0 → Bk cw p l e rm_X6_inTheWay_50 s m args below meth c 9 g A Q 0 0 163 [(5, .int z.2.1)] [] z.2.2.2) : Bk cw p l e rm_X6_inTheWay_50 s m args below meth c 9 g A Q 0 0 45 [(0, .ref (g.2.2 50)), (3, .int x3), (4, .int x4), (5, .int x5), (6, .int x6)] [] σ := by
  obtain ⟨hx, hb, hr, hml, hown, hts, hK, hlocks, hXX, hA, hXo⟩ := id C
  intro H locs ls hP hD hS hl
  unfold s_X6_inTheWay_50_h45 at hf
  refine lv_iload hx hb dX6_inTheWay_45 (lv_at hl 4 rfl) ?_
  refine lv_aload_n hx hb dX6_inTheWay_47 rfl (lv_at hl 0 rfl) ?_
  refine bk_get (wf := cw) (q0 := 50) (ci := 6) (k := 1) (v := .ref (g.2.2 12)) C hP wl_X6 rfl rfl (by decide) wa_132 rfl rfl dX6_inTheWay_48 ?_
  refine bk_get (wf := cw) (q0 := 12) (ci := 8) (k := 0) (v := .int (σ 12 0)) C hP wl_X9 rfl rfl (by decide) wa_473 rfl rfl dX6_inTheWay_51 ?_
  refine lv_icmp_ge (tgt := 163) hx hb dX6_inTheWay_54 (by decide) (fun t54 => ?_) (fun t54 => ?_)
  · have hf := (if_pos t54).symm.trans hf
    cases hf
    exact (k (show ¬ (1 : Nat) = 0 by decide)) H locs ls hP hD hS (lv_sub hl [3] rfl)
  · have hf := (if_neg t54).symm.trans hf
    refine lv_aload_n hx hb dX6_inTheWay_57 rfl (lv_at hl 0 rfl) ?_
    refine bk_get (wf := cw) (q0 := 50) (ci := 6) (k := 1) (v := .ref (g.2.2 12)) C hP wl_X6 rfl rfl (by decide) wa_132 rfl rfl dX6_inTheWay_58 ?_
    refine bk_get (wf := cw) (q0 := 12) (ci := 8) (k := 1) (v := .ref (g.2.2 13)) C hP wl_X9 rfl rfl (by decide) wa_483 rfl rfl dX6_inTheWay_61 ?_
    refine lv_iload hx hb dX6_inTheWay_64 (lv_at hl 4 rfl) ?_
    obtain ⟨g2, hf⟩ := gd_s hf
    refine bk_iald (wf := cw) (q0 := 13) (n := 9) (j := x6.toNatClampNeg) C hP rfl g2 rfl dX6_inTheWay_66 ?_
    refine lv_aload_n hx hb dX6_inTheWay_67 rfl (lv_at hl 0 rfl) ?_
    refine bk_get (wf := cw) (q0 := 50) (ci := 6) (k := 1) (v := .ref (g.2.2 12)) C hP wl_X6 rfl rfl (by decide) wa_132 rfl rfl dX6_inTheWay_68 ?_
    refine bk_get (wf := cw) (q0 := 12) (ci := 8) (k := 1) (v := .ref (g.2.2 13)) C hP wl_X9 rfl rfl (by decide) wa_483 rfl rfl dX6_inTheWay_71 ?_
    refine lv_iload_n hx hb dX6_inTheWay_74 rfl (lv_at hl 1 rfl) ?_
    obtain ⟨g3, hf⟩ := gd_s hf
    refine bk_iald (wf := cw) (q0 := 13) (n := 9) (j := x3.toNatClampNeg) C hP rfl g3 rfl dX6_inTheWay_75 ?_
    refine lv_isub hx hb dX6_inTheWay_76 ?_
    obtain ⟨v4, ev4, hf⟩ := bd_s hf
    rw [← ev4]
    refine lv_istore (lv' := [(7, .int v4), (0, .ref (g.2.2 50)), (3, .int x3), (4, .int x4), (5, .int x5), (6, .int x6)]) hx hb dX6_inTheWay_77 hl (by decide) rfl (fun ls hl => ?_)
    refine lv_aload_n hx hb dX6_inTheWay_79 rfl (lv_at hl 1 rfl) ?_
    refine bk_get (wf := cw) (q0 := 50) (ci := 6) (k := 1) (v := .ref (g.2.2 12)) C hP wl_X6 rfl rfl (by decide) wa_132 rfl rfl dX6_inTheWay_80 ?_
    refine bk_get (wf := cw) (q0 := 12) (ci := 8) (k := 1) (v := .ref (g.2.2 13)) C hP wl_X9 rfl rfl (by decide) wa_483 rfl rfl dX6_inTheWay_83 ?_
    refine lv_iload hx hb dX6_inTheWay_86 (lv_at hl 3 rfl) ?_
    obtain ⟨g5, hf⟩ := gd_s hf
    refine bk_iald (wf := cw) (q0 := 13) (n := 9) (j := x4.toNatClampNeg) C hP rfl g5 rfl dX6_inTheWay_88 ?_
    refine lv_aload_n hx hb dX6_inTheWay_89 rfl (lv_at hl 1 rfl) ?_
    refine bk_get (wf := cw) (q0 := 50) (ci := 6) (k := 1) (v := .ref (g.2.2 12)) C hP wl_X6 rfl rfl (by decide) wa_132 rfl rfl dX6_inTheWay_90 ?_
    refine bk_get (wf := cw) (q0 := 12) (ci := 8) (k := 1) (v := .ref (g.2.2 13)) C hP wl_X9 rfl rfl (by decide) wa_483 rfl rfl dX6_inTheWay_93 ?_
    refine lv_iload hx hb dX6_inTheWay_96 (lv_at hl 5 rfl) ?_
    obtain ⟨g6, hf⟩ := gd_s hf
    refine bk_iald (wf := cw) (q0 := 13) (n := 9) (j := x6.toNatClampNeg) C hP rfl g6 rfl dX6_inTheWay_98 ?_
    refine lv_isub hx hb dX6_inTheWay_99 ?_
    obtain ⟨v7, ev7, hf⟩ := bd_s hf
    rw [← ev7]
    refine lv_istore (lv' := [(8, .int v7), (7, .int v4), (0, .ref (g.2.2 50)), (3, .int x3), (4, .int x4), (5, .int x5), (6, .int x6)]) hx hb dX6_inTheWay_100 hl (by decide) rfl (fun ls hl => ?_)
    refine lv_iload hx hb dX6_inTheWay_102 (lv_at hl 1 rfl) ?_
    refine lv_if_le (tgt := 157) hx hb dX6_inTheWay_104 (by decide) (fun t104 => ?_) (fun t104 => ?_)
    · have hf := (if_pos t104).symm.trans hf
      exact b_X6_inTheWay_50_b157 C hf k0 k H locs ls hP hD hS (lv_sub hl [2, 3, 4, 5, 6] rfl)
    · have hf := (if_neg t104).symm.trans hf
      refine lv_iload hx hb dX6_inTheWay_107 (lv_at hl 0 rfl) ?_
      refine lv_if_le (tgt := 157) hx hb dX6_inTheWay_109 (by decide) (fun t109 => ?_) (fun t109 => ?_)
      · have hf := (if_pos t109).symm.trans hf
        exact b_X6_inTheWay_50_b157 C hf k0 k H locs ls hP hD hS (lv_sub hl [2, 3, 4, 5, 6] rfl)
      · have hf := (if_neg t109).symm.trans hf
        refine lv_aload_n hx hb dX6_inTheWay_112 rfl (lv_at hl 2 rfl) ?_
        refine bk_get (wf := cw) (q0 := 50) (ci := 6) (k := 0) (v := .ref (g.2.2 51)) C hP wl_X6 rfl rfl (by decide) wa_130 rfl rfl dX6_inTheWay_113 ?_
        refine lv_iload hx hb dX6_inTheWay_116 (lv_at hl 6 rfl) ?_
        obtain ⟨g8, hf⟩ := gd_s hf
        refine bk_iald (wf := cw) (q0 := 51) (n := 9) (j := x6.toNatClampNeg) C hP rfl g8 rfl dX6_inTheWay_118 ?_
        refine lv_iload hx hb dX6_inTheWay_119 (lv_at hl 1 rfl) ?_
        refine lv_iload hx hb dX6_inTheWay_121 (lv_at hl 0 rfl) ?_
        refine lv_iadd hx hb dX6_inTheWay_123 ?_
        refine lv_imul hx hb dX6_inTheWay_124 ?_
        refine lv_aload_n hx hb dX6_inTheWay_125 rfl (lv_at hl 2 rfl) ?_
        refine bk_get (wf := cw) (q0 := 50) (ci := 6) (k := 0) (v := .ref (g.2.2 51)) C hP wl_X6 rfl rfl (by decide) wa_130 rfl rfl dX6_inTheWay_126 ?_
        refine lv_iload_n hx hb dX6_inTheWay_129 rfl (lv_at hl 3 rfl) ?_
        obtain ⟨g9, hf⟩ := gd_s hf
        refine bk_iald (wf := cw) (q0 := 51) (n := 9) (j := x3.toNatClampNeg) C hP rfl g9 rfl dX6_inTheWay_130 ?_
        refine lv_iload hx hb dX6_inTheWay_131 (lv_at hl 0 rfl) ?_
        refine lv_imul hx hb dX6_inTheWay_133 ?_
        refine lv_aload_n hx hb dX6_inTheWay_134 rfl (lv_at hl 2 rfl) ?_
        refine bk_get (wf := cw) (q0 := 50) (ci := 6) (k := 0) (v := .ref (g.2.2 51)) C hP wl_X6 rfl rfl (by decide) wa_130 rfl rfl dX6_inTheWay_135 ?_
        refine lv_iload hx hb dX6_inTheWay_138 (lv_at hl 4 rfl) ?_
        obtain ⟨g10, hf⟩ := gd_s hf
        refine bk_iald (wf := cw) (q0 := 51) (n := 9) (j := x4.toNatClampNeg) C hP rfl g10 rfl dX6_inTheWay_140 ?_
        refine lv_iload hx hb dX6_inTheWay_141 (lv_at hl 1 rfl) ?_
        refine lv_imul hx hb dX6_inTheWay_143 ?_
        refine lv_iadd hx hb dX6_inTheWay_144 ?_
        refine lv_icmp_lt (tgt := 157) hx hb dX6_inTheWay_145 (by decide) (fun t145 => ?_) (fun t145 => ?_)
        · have hf := (if_pos t145).symm.trans hf
          exact b_X6_inTheWay_50_b157 C hf k0 k H locs ls hP hD hS (lv_sub hl [2, 3, 4, 5, 6] rfl)
        · have hf := (if_neg t145).symm.trans hf
          refine lv_iload hx hb dX6_inTheWay_148 (lv_at hl 5 rfl) ?_
          refine lv_iconst (v := (1 : Int32)) hx hb dX6_inTheWay_150 (by decide) ?_
          refine lv_iload hx hb dX6_inTheWay_151 (lv_at hl 6 rfl) ?_
          refine lv_ishl hx hb dX6_inTheWay_153 ?_
          refine lv_ior hx hb dX6_inTheWay_154 ?_
          obtain ⟨v11, ev11, hf⟩ := bd_s hf
          rw [← ev11]
          refine lv_istore (lv' := [(5, .int v11), (8, .int v7), (7, .int v4), (0, .ref (g.2.2 50)), (3, .int x3), (4, .int x4), (6, .int x6)]) hx hb dX6_inTheWay_155 hl (by decide) rfl (fun ls hl => ?_)
          exact b_X6_inTheWay_50_b157 C hf k0 k H locs ls hP hD hS (lv_sub hl [3, 4, 5, 0, 6] rfl)
theorem lp_X6_inTheWay_50_h45 {N n : Nat} {x3 : Int32} {x4 : Int32} {x5 : Int32} {x6 : Int32} {σ : Sg} {z : Nat × Int32 × Int32 × Sg} (C : Cx p s m args meth c cX6_inTheWay 9 (some .int) RX6 g A X) (hz : it (fun q => s_X6_inTheWay_50_h45 N x3 x4 q.1 q.2.1 q.2.2) n (x5, x6, σ) = some z) (k : Bk cw p l e rm_X6_inTheWay_50 s m args below meth c 9 g A Q 0 0 163 [(5, .int z.2.1)] [] z.2.2.2) : Bk cw p l e rm_X6_inTheWay_50 s m args below meth c 9 g A Q 0 0 45 [(0, .ref (g.2.2 50)), (3, .int x3), (4, .int x4), (5, .int x5), (6, .int x6)] [] σ :=
  it_W (S := Int32 × Int32 × Sg) (fun q => Bk cw p l e rm_X6_inTheWay_50 s m args below meth c 9 g A Q 0 0 45 [(0, .ref (g.2.2 50)), (3, .int x3), (4, .int x4), (5, .int q.1), (6, .int q.2.1)] [] q.2.2) (fun z => Bk cw p l e rm_X6_inTheWay_50 s m args below meth c 9 g A Q 0 0 163 [(5, .int z.2.1)] [] z.2.2.2) (fun q z hq k0 k => e_X6_inTheWay_50_h45 C hq k0 k) n (x5, x6, σ) z hz k
def f_X6_inTheWay_50_b37 (N : Nat) (x3 : Int32) (t0 : Int32) (σ : Sg) : Option (Int32 × Sg) :=
(it (fun q => s_X6_inTheWay_50_h45 N x3 t0 q.1 q.2.1 q.2.2) N ((0 : Int32), (0 : Int32), σ)).bind fun z12 =>
some ((z12.2.1), (z12.2.2.2))
set_option maxHeartbeats 4000000 in
set_option maxRecDepth 100000 in
theorem b_X6_inTheWay_50_b37 {N : Nat} {x3 : Int32} {t0 : Int32} {σ : Sg} {z : Int32 × Sg} (C : Cx p s m args meth c cX6_inTheWay 9 (some .int) RX6 g A X) (hf : f_X6_inTheWay_50_b37 N x3 t0 σ = some z) : Bk cw p l e rm_X6_inTheWay_50 s m args below meth c 9 g A (MQ below (qI cw g A z.1 z.2) args s 0 0 A) 0 0 37 [(0, .ref (g.2.2 50)), (3, .int x3)] [.int t0] σ := by
  obtain ⟨hx, hb, hr, hml, hown, hts, hK, hlocks, hXX, hA, hXo⟩ := id C
  intro H locs ls hP hD hS hl
  unfold f_X6_inTheWay_50_b37 at hf
  refine lv_istore (lv' := [(4, .int t0), (0, .ref (g.2.2 50)), (3, .int x3)]) hx hb dX6_inTheWay_37 hl (by decide) rfl (fun ls hl => ?_)
  refine lv_iconst (v := (0 : Int32)) hx hb dX6_inTheWay_39 (by decide) ?_
  refine lv_istore (lv' := [(5, .int (0 : Int32)), (4, .int t0), (0, .ref (g.2.2 50)), (3, .int x3)]) hx hb dX6_inTheWay_40 hl (by decide) rfl (fun ls hl => ?_)
  refine lv_iconst (v := (0 : Int32)) hx hb dX6_inTheWay_42 (by decide) ?_
  refine lv_istore (lv' := [(6, .int (0 : Int32)), (5, .int (0 : Int32)), (4, .int t0), (0, .ref (g.2.2 50)), (3, .int x3)]) hx hb dX6_inTheWay_43 hl (by decide) rfl (fun ls hl => ?_)
  obtain ⟨z12, hz12, hf⟩ := bi_s hf
  refine lp_X6_inTheWay_50_h45 C hz12 ?_ H locs ls hP hD hS (lv_sub hl [3, 4, 2, 1, 0] rfl)
  intro H locs ls hP hD hS hl
  refine lv_iload hx hb dX6_inTheWay_163 (lv_at hl 0 rfl) ?_
  cases hf
  exact bk_iret C hP hD hS rfl dX6_inTheWay_165
def f_X6_inTheWay_50_b26 (N : Nat) (x1 : Int32) (x2 : Int32) (t0 : Int32) (σ : Sg) : Option (Int32 × Sg) :=
if t0 = x1 then (f_X6_inTheWay_50_b37 N t0 x2 σ)
else (f_X6_inTheWay_50_b37 N t0 x1 σ)
set_option maxHeartbeats 4000000 in
set_option maxRecDepth 100000 in
theorem b_X6_inTheWay_50_b26 {N : Nat} {x1 : Int32} {x2 : Int32} {t0 : Int32} {σ : Sg} {z : Int32 × Sg} (C : Cx p s m args meth c cX6_inTheWay 9 (some .int) RX6 g A X) (hf : f_X6_inTheWay_50_b26 N x1 x2 t0 σ = some z) : Bk cw p l e rm_X6_inTheWay_50 s m args below meth c 9 g A (MQ below (qI cw g A z.1 z.2) args s 0 0 A) 0 0 26 [(0, .ref (g.2.2 50)), (1, .int x1), (2, .int x2)] [.int t0] σ := by
  obtain ⟨hx, hb, hr, hml, hown, hts, hK, hlocks, hXX, hA, hXo⟩ := id C
  intro H locs ls hP hD hS hl
  unfold f_X6_inTheWay_50_b26 at hf
  refine lv_istore_n (lv' := [(3, .int t0), (0, .ref (g.2.2 50)), (1, .int x1), (2, .int x2)]) hx hb dX6_inTheWay_26 rfl hl (by decide) rfl (fun ls hl => ?_)
  refine lv_iload_n hx hb dX6_inTheWay_27 rfl (lv_at hl 0 rfl) ?_
  refine lv_iload_n hx hb dX6_inTheWay_28 rfl (lv_at hl 2 rfl) ?_
  refine lv_icmp_ne (tgt := 36) hx hb dX6_inTheWay_29 (by decide) (fun t29 => ?_) (fun t29 => ?_)
  · have hf := (if_neg t29).symm.trans hf
    refine lv_iload_n hx hb dX6_inTheWay_36 rfl (lv_at hl 2 rfl) ?_
    exact b_X6_inTheWay_50_b37 C hf H locs ls hP hD hS (lv_sub hl [1, 0] rfl)
  · have hf := (if_pos t29).symm.trans hf
    refine lv_iload_n hx hb dX6_inTheWay_32 rfl (lv_at hl 3 rfl) ?_
    refine lv_goto (tgt := 37) hx hb dX6_inTheWay_33 (by decide) ?_
    exact b_X6_inTheWay_50_b37 C hf H locs ls hP hD hS (lv_sub hl [1, 0] rfl)
def f_X6_inTheWay_50 (N : Nat) (x1 : Int32) (x2 : Int32) (σ : Sg) : Option (Int32 × Sg) :=
if (x1 < 0 ∨ 9 ≤ x1.toNatClampNeg) then none else
if (x2 < 0 ∨ 9 ≤ x2.toNatClampNeg) then none else
if (σ 13 x2.toNatClampNeg) ≤ (σ 13 x1.toNatClampNeg) then (f_X6_inTheWay_50_b26 N x1 x2 x2 σ)
else (f_X6_inTheWay_50_b26 N x1 x2 x1 σ)
set_option maxHeartbeats 4000000 in
set_option maxRecDepth 100000 in
theorem b_X6_inTheWay_50 {N : Nat} {x1 : Int32} {x2 : Int32} {σ : Sg} {z : Int32 × Sg} (C : Cx p s m args meth c cX6_inTheWay 9 (some .int) RX6 g A X) (hf : f_X6_inTheWay_50 N x1 x2 σ = some z) : Bk cw p l e rm_X6_inTheWay_50 s m args below meth c 9 g A (MQ below (qI cw g A z.1 z.2) args s 0 0 A) 0 0 0 [(0, .ref (g.2.2 50)), (1, .int x1), (2, .int x2)] [] σ := by
  obtain ⟨hx, hb, hr, hml, hown, hts, hK, hlocks, hXX, hA, hXo⟩ := id C
  intro H locs ls hP hD hS hl
  unfold f_X6_inTheWay_50 at hf
  refine lv_aload_n hx hb dX6_inTheWay_0 rfl (lv_at hl 0 rfl) ?_
  refine bk_get (wf := cw) (q0 := 50) (ci := 6) (k := 1) (v := .ref (g.2.2 12)) C hP wl_X6 rfl rfl (by decide) wa_132 rfl rfl dX6_inTheWay_1 ?_
  refine bk_get (wf := cw) (q0 := 12) (ci := 8) (k := 1) (v := .ref (g.2.2 13)) C hP wl_X9 rfl rfl (by decide) wa_483 rfl rfl dX6_inTheWay_4 ?_
  refine lv_iload_n hx hb dX6_inTheWay_7 rfl (lv_at hl 1 rfl) ?_
  obtain ⟨g13, hf⟩ := gd_s hf
  refine bk_iald (wf := cw) (q0 := 13) (n := 9) (j := x1.toNatClampNeg) C hP rfl g13 rfl dX6_inTheWay_8 ?_
  refine lv_aload_n hx hb dX6_inTheWay_9 rfl (lv_at hl 0 rfl) ?_
  refine bk_get (wf := cw) (q0 := 50) (ci := 6) (k := 1) (v := .ref (g.2.2 12)) C hP wl_X6 rfl rfl (by decide) wa_132 rfl rfl dX6_inTheWay_10 ?_
  refine bk_get (wf := cw) (q0 := 12) (ci := 8) (k := 1) (v := .ref (g.2.2 13)) C hP wl_X9 rfl rfl (by decide) wa_483 rfl rfl dX6_inTheWay_13 ?_
  refine lv_iload_n hx hb dX6_inTheWay_16 rfl (lv_at hl 2 rfl) ?_
  obtain ⟨g14, hf⟩ := gd_s hf
  refine bk_iald (wf := cw) (q0 := 13) (n := 9) (j := x2.toNatClampNeg) C hP rfl g14 rfl dX6_inTheWay_17 ?_
  refine lv_icmp_ge (tgt := 25) hx hb dX6_inTheWay_18 (by decide) (fun t18 => ?_) (fun t18 => ?_)
  · have hf := (if_pos t18).symm.trans hf
    refine lv_iload_n hx hb dX6_inTheWay_25 rfl (lv_at hl 2 rfl) ?_
    exact b_X6_inTheWay_50_b26 C hf H locs ls hP hD hS (lv_sub hl [0, 1, 2] rfl)
  · have hf := (if_neg t18).symm.trans hf
    refine lv_iload_n hx hb dX6_inTheWay_21 rfl (lv_at hl 1 rfl) ?_
    refine lv_goto (tgt := 26) hx hb dX6_inTheWay_22 (by decide) ?_
    exact b_X6_inTheWay_50_b26 C hf H locs ls hP hD hS (lv_sub hl [0, 1, 2] rfl)
theorem c_X6_inTheWay_50 {N : Nat} {x1 : Int32} {x2 : Int32} {σ : Sg} {z : Int32 × Sg} (hX : xOK g X) (hf : f_X6_inTheWay_50 N x1 x2 σ = some z) : MetI l yX6_inTheWay (Cond.code yX6_inTheWay cX6_inTheWay 9 (some .int) :: wsA) rm_X6_inTheWay_50 cw g X [.ref (g.2.2 50), .int x1, .int x2] σ z.1 z.2 :=
  MetI_of hX (by decide) (Nat.le_of_ble_eq_true rfl) (fun p e s m args below meth c A C => b_X6_inTheWay_50 C hf)
-- X6_isNear_50: isNear(III)Z
abbrev rm_X6_isNear_50 : Room := { frames := 2, cells := 0, slots := 0, locals := 46 }
def f_X6_isNear_50 (N : Nat) (x1 : Int32) (x2 : Int32) (x3 : Int32) (σ : Sg) : Option (Int32 × Sg) :=
(f_X9_away_12 N x1 x2 σ).bind fun q1 =>
if (((q1.2) 12 6) - ((9 : Int32) * x3)) < q1.1 then (some ((0 : Int32), (q1.2)))
else (some ((1 : Int32), (q1.2)))
set_option maxHeartbeats 4000000 in
set_option maxRecDepth 100000 in
theorem b_X6_isNear_50 {N : Nat} {x1 : Int32} {x2 : Int32} {x3 : Int32} {σ : Sg} {z : Int32 × Sg} (C : Cx p s m args meth c cX6_isNear 4 (some .boolean) RX6 g A X) (hf : f_X6_isNear_50 N x1 x2 x3 σ = some z) : Bk cw p l e rm_X6_isNear_50 s m args below meth c 4 g A (MQ below (qI cw g A z.1 z.2) args s 0 0 A) 0 0 0 [(0, .ref (g.2.2 50)), (1, .int x1), (2, .int x2), (3, .int x3)] [] σ := by
  obtain ⟨hx, hb, hr, hml, hown, hts, hK, hlocks, hXX, hA, hXo⟩ := id C
  intro H locs ls hP hD hS hl
  unfold f_X6_isNear_50 at hf
  refine lv_aload_n hx hb dX6_isNear_0 rfl (lv_at hl 0 rfl) ?_
  refine bk_get (wf := cw) (q0 := 50) (ci := 6) (k := 1) (v := .ref (g.2.2 12)) C hP wl_X6 rfl rfl (by decide) wa_132 rfl rfl dX6_isNear_1 ?_
  refine lv_iload_n hx hb dX6_isNear_4 rfl (lv_at hl 1 rfl) ?_
  refine lv_iload_n hx hb dX6_isNear_5 rfl (lv_at hl 2 rfl) ?_
  obtain ⟨q1, hq1, hf⟩ := bi_s hf
  refine bk_VI (wf := cw) (q0 := 12) (ci := 8) (rest := []) [.int x1, .int x2] C hP hD hS hl.1 (c_X9_away_12 hXo hq1) (cwA_V 2 hts wa_496 wa_493 wa_494 wa_495 wa_22 rfl rfl nd_X9_away ⟨Nat.le_of_ble_eq_true rfl, Nat.le_of_ble_eq_true rfl⟩) rfl rfl rfl rfl (Nat.le_of_ble_eq_true rfl) dX6_isNear_6 ⟨Nat.le_of_ble_eq_true rfl, Nat.le_of_ble_eq_true rfl⟩ (fun H locs hP hD hS => ?_)
  refine lv_aload_n hx hb dX6_isNear_9 rfl (lv_at hl 0 rfl) ?_
  refine bk_get (wf := cw) (q0 := 50) (ci := 6) (k := 1) (v := .ref (g.2.2 12)) C hP wl_X6 rfl rfl (by decide) wa_132 rfl rfl dX6_isNear_10 ?_
  refine bk_get (wf := cw) (q0 := 12) (ci := 8) (k := 6) (v := .int ((q1.2) 12 6)) C hP wl_X9 rfl rfl (by decide) wa_492 rfl rfl dX6_isNear_13 ?_
  refine lv_bipush (v := (9 : Int32)) hx hb dX6_isNear_16 (by decide) ?_
  refine lv_iload_n hx hb dX6_isNear_18 rfl (lv_at hl 3 rfl) ?_
  refine lv_imul hx hb dX6_isNear_19 ?_
  refine lv_isub hx hb dX6_isNear_20 ?_
  refine lv_icmp_gt (tgt := 28) hx hb dX6_isNear_21 (by decide) (fun t21 => ?_) (fun t21 => ?_)
  · have hf := (if_pos t21).symm.trans hf
    refine lv_iconst (v := (0 : Int32)) hx hb dX6_isNear_28 (by decide) ?_
    cases hf
    exact bk_zret C hP hD hS (by decide) rfl dX6_isNear_29
  · have hf := (if_neg t21).symm.trans hf
    refine lv_iconst (v := (1 : Int32)) hx hb dX6_isNear_24 (by decide) ?_
    refine lv_goto (tgt := 29) hx hb dX6_isNear_25 (by decide) ?_
    cases hf
    exact bk_zret C hP hD hS (by decide) rfl dX6_isNear_29
theorem c_X6_isNear_50 {N : Nat} {x1 : Int32} {x2 : Int32} {x3 : Int32} {σ : Sg} {z : Int32 × Sg} (hX : xOK g X) (hf : f_X6_isNear_50 N x1 x2 x3 σ = some z) : MetI l yX6_isNear (Cond.code yX6_isNear cX6_isNear 4 (some .boolean) :: wsA) rm_X6_isNear_50 cw g X [.ref (g.2.2 50), .int x1, .int x2, .int x3] σ z.1 z.2 :=
  MetI_of hX (by decide) (Nat.le_of_ble_eq_true rfl) (fun p e s m args below meth c A C => b_X6_isNear_50 C hf)
-- X6_takeTops_50_26: takeTops([I)V
abbrev rm_X6_takeTops_50_26 : Room := { frames := 0, cells := 0, slots := 0, locals := 0 }
def s_X6_takeTops_50_26_h2 (N : Nat) (x2 : Int32) (σ : Sg) : Option (Nat × Int32 × Sg) :=
if (9 : Int32) ≤ x2 then (some (1, 0, σ))
else (if (9 : Int32) ≤ x2 then (some (1, 0, σ))
else (if (x2 < 0 ∨ 9 ≤ x2.toNatClampNeg) then none else
if (x2 < 0 ∨ 9 ≤ x2.toNatClampNeg) then none else
if (x2 < 0 ∨ 9 ≤ x2.toNatClampNeg) then none else
bd (wr σ 51 (x2.toNatClampNeg) ((σ 14 x2.toNatClampNeg) + (σ 26 x2.toNatClampNeg))) fun σ4 =>
bd (x2 + (1 : Int32)) fun v5 =>
some (0, v5, σ4)))
set_option maxHeartbeats 4000000 in
set_option maxRecDepth 100000 in
theorem e_X6_takeTops_50_26_h2 {N : Nat} {x2 : Int32} {σ : Sg} {z : Nat × Int32 × Sg} (C : Cx p s m args meth c cX6_takeTops 3 none RX6 g A X) (hf : s_X6_takeTops_50_26_h2 N x2 σ = some z) (k0 : z.1 = 0 → Bk cw p l e rm_X6_takeTops_50_26 s m args below meth c 3 g A Q 0 0 2 [(0, .ref (g.2.2 50)), (1, .ref (g.2.2 26)), (2, .int z.2.1)] [] z.2.2) (k : ¬ z.1 = 0 → Bk cw p l e rm_X6_takeTops_50_26 s m args below meth c 3 g A Q 0 0 39 [] [] z.2.2) : Bk cw p l e rm_X6_takeTops_50_26 s m args below meth c 3 g A Q 0 0 2 [(0, .ref (g.2.2 50)), (1, .ref (g.2.2 26)), (2, .int x2)] [] σ := by
  obtain ⟨hx, hb, hr, hml, hown, hts, hK, hlocks, hXX, hA, hXo⟩ := id C
  intro H locs ls hP hD hS hl
  unfold s_X6_takeTops_50_26_h2 at hf
  refine lv_iload_n hx hb dX6_takeTops_2 rfl (lv_at hl 2 rfl) ?_
  refine lv_bipush (v := (9 : Int32)) hx hb dX6_takeTops_3 (by decide) ?_
  refine lv_icmp_ge (tgt := 39) hx hb dX6_takeTops_5 (by decide) (fun t5 => ?_) (fun t5 => ?_)
  · have hf := (if_pos t5).symm.trans hf
    cases hf
    exact (k (show ¬ (1 : Nat) = 0 by decide)) H locs ls hP hD hS (lv_sub hl [] rfl)
  · have hf := (if_neg t5).symm.trans hf
    refine lv_iload_n hx hb dX6_takeTops_8 rfl (lv_at hl 2 rfl) ?_
    refine lv_aload_n hx hb dX6_takeTops_9 rfl (lv_at hl 1 rfl) ?_
    refine bk_alen (wf := cw) (q0 := 26) (t0 := 0) (v := (9 : Int32)) C hP rfl rfl (show Int32.ofNat 9 = (9 : Int32) by decide) dX6_takeTops_10 ?_
    refine lv_icmp_ge (tgt := 39) hx hb dX6_takeTops_11 (by decide) (fun t11 => ?_) (fun t11 => ?_)
    · have hf := (if_pos t11).symm.trans hf
      cases hf
      exact (k (show ¬ (1 : Nat) = 0 by decide)) H locs ls hP hD hS (lv_sub hl [] rfl)
    · have hf := (if_neg t11).symm.trans hf
      refine lv_aload_n hx hb dX6_takeTops_14 rfl (lv_at hl 0 rfl) ?_
      refine bk_get (wf := cw) (q0 := 50) (ci := 6) (k := 0) (v := .ref (g.2.2 51)) C hP wl_X6 rfl rfl (by decide) wa_130 rfl rfl dX6_takeTops_15 ?_
      refine lv_iload_n hx hb dX6_takeTops_18 rfl (lv_at hl 2 rfl) ?_
      refine lv_aload_n hx hb dX6_takeTops_19 rfl (lv_at hl 0 rfl) ?_
      refine bk_get (wf := cw) (q0 := 50) (ci := 6) (k := 1) (v := .ref (g.2.2 12)) C hP wl_X6 rfl rfl (by decide) wa_132 rfl rfl dX6_takeTops_20 ?_
      refine bk_get (wf := cw) (q0 := 12) (ci := 8) (k := 2) (v := .ref (g.2.2 14)) C hP wl_X9 rfl rfl (by decide) wa_478 rfl rfl dX6_takeTops_23 ?_
      refine lv_iload_n hx hb dX6_takeTops_26 rfl (lv_at hl 2 rfl) ?_
      obtain ⟨g1, hf⟩ := gd_s hf
      refine bk_iald (wf := cw) (q0 := 14) (n := 9) (j := x2.toNatClampNeg) C hP rfl g1 rfl dX6_takeTops_27 ?_
      refine lv_aload_n hx hb dX6_takeTops_28 rfl (lv_at hl 1 rfl) ?_
      refine lv_iload_n hx hb dX6_takeTops_29 rfl (lv_at hl 2 rfl) ?_
      obtain ⟨g2, hf⟩ := gd_s hf
      refine bk_iald (wf := cw) (q0 := 26) (n := 9) (j := x2.toNatClampNeg) C hP rfl g2 rfl dX6_takeTops_30 ?_
      refine lv_iadd hx hb dX6_takeTops_31 ?_
      obtain ⟨g3, hf⟩ := gd_s hf
      obtain ⟨σ4, eσ4, hf⟩ := bd_s hf
      refine bk_iast (wf := cw) (σ1 := σ4) (q0 := 51) (n := 9) (j := x2.toNatClampNeg) C hP hD hS rfl g3 rfl (by rw [eσ4]; exact cw_a51 g _ _ _) dX6_takeTops_32 (fun H locs hP hD hS => ?_)
      obtain ⟨v5, ev5, hf⟩ := bd_s hf
      refine lv_iinc (v := v5) (lv' := [(2, .int v5), (0, .ref (g.2.2 50)), (1, .ref (g.2.2 26))]) hx hb dX6_takeTops_33 hl (k := 2) rfl (by rw [ev5]; rfl) (by decide) rfl (fun ls hl => ?_)
      refine lv_goto (tgt := 2) hx hb dX6_takeTops_36 (by decide) ?_
      cases hf
      exact k0 rfl H locs ls hP hD hS (lv_sub hl [1, 2, 0] rfl)
theorem lp_X6_takeTops_50_26_h2 {N n : Nat} {x2 : Int32} {σ : Sg} {z : Nat × Int32 × Sg} (C : Cx p s m args meth c cX6_takeTops 3 none RX6 g A X) (hz : it (fun q => s_X6_takeTops_50_26_h2 N q.1 q.2) n (x2, σ) = some z) (k : Bk cw p l e rm_X6_takeTops_50_26 s m args below meth c 3 g A Q 0 0 39 [] [] z.2.2) : Bk cw p l e rm_X6_takeTops_50_26 s m args below meth c 3 g A Q 0 0 2 [(0, .ref (g.2.2 50)), (1, .ref (g.2.2 26)), (2, .int x2)] [] σ :=
  it_W (S := Int32 × Sg) (fun q => Bk cw p l e rm_X6_takeTops_50_26 s m args below meth c 3 g A Q 0 0 2 [(0, .ref (g.2.2 50)), (1, .ref (g.2.2 26)), (2, .int q.1)] [] q.2) (fun z => Bk cw p l e rm_X6_takeTops_50_26 s m args below meth c 3 g A Q 0 0 39 [] [] z.2.2) (fun q z hq k0 k => e_X6_takeTops_50_26_h2 C hq k0 k) n (x2, σ) z hz k
def f_X6_takeTops_50_26 (N : Nat) (σ : Sg) : Option (Sg) :=
(it (fun q => s_X6_takeTops_50_26_h2 N q.1 q.2) N ((0 : Int32), σ)).bind fun z6 =>
some (z6.2.2)
set_option maxHeartbeats 4000000 in
set_option maxRecDepth 100000 in
theorem b_X6_takeTops_50_26 {N : Nat} {σ : Sg} {z : Sg} (C : Cx p s m args meth c cX6_takeTops 3 none RX6 g A X) (hf : f_X6_takeTops_50_26 N σ = some z) : Bk cw p l e rm_X6_takeTops_50_26 s m args below meth c 3 g A (MQ below (qV cw g A z) args s 0 0 A) 0 0 0 [(0, .ref (g.2.2 50)), (1, .ref (g.2.2 26))] [] σ := by
  obtain ⟨hx, hb, hr, hml, hown, hts, hK, hlocks, hXX, hA, hXo⟩ := id C
  intro H locs ls hP hD hS hl
  unfold f_X6_takeTops_50_26 at hf
  refine lv_iconst (v := (0 : Int32)) hx hb dX6_takeTops_0 (by decide) ?_
  refine lv_istore_n (lv' := [(2, .int (0 : Int32)), (0, .ref (g.2.2 50)), (1, .ref (g.2.2 26))]) hx hb dX6_takeTops_1 rfl hl (by decide) rfl (fun ls hl => ?_)
  obtain ⟨z6, hz6, hf⟩ := bi_s hf
  refine lp_X6_takeTops_50_26_h2 C hz6 ?_ H locs ls hP hD hS (lv_sub hl [1, 2, 0] rfl)
  intro H locs ls hP hD hS hl
  cases hf
  exact bk_vret C hP hD hS rfl dX6_takeTops_39
theorem c_X6_takeTops_50_26 {N : Nat} {σ : Sg} {z : Sg} (hX : xOK g X) (hf : f_X6_takeTops_50_26 N σ = some z) : MetV l yX6_takeTops (Cond.code yX6_takeTops cX6_takeTops 3 none :: wsA) rm_X6_takeTops_50_26 cw g X [.ref (g.2.2 50), .ref (g.2.2 26)] σ z :=
  MetV_of hX (by decide) (Nat.le_of_ble_eq_true rfl) (fun p e s m args below meth c A C => b_X6_takeTops_50_26 C hf)
-- X11_toHat_0: toHat(II)I
abbrev rm_X11_toHat_0 : Room := { frames := 8, cells := 2, slots := 12, locals := 133 }
theorem nd_X11_toHat : yX11_toHat.cls ≠ "java/lang/invoke/MethodHandle" ∧ yX11_toHat.cls ≠ "java/lang/invoke/VarHandle" ∧ (parseMethodDescriptor yX11_toHat.desc).map (fun d => d.parameters.length) = some 2 := by decide +kernel
def s_X11_toHat_0_h48 (N : Nat) (x1 : Int32) (x2 : Int32) (x3 : Int32) (σ : Sg) : Option (Nat × Int32 × Sg) :=
if (20 : Int32) < x3 then (some (2, 0, σ))
else (if (x1 < 0 ∨ 9 ≤ x1.toNatClampNeg) then none else
if (x1 < 0 ∨ 9 ≤ x1.toNatClampNeg) then none else
bd (wr σ 51 (x1.toNatClampNeg) ((σ 14 x1.toNatClampNeg) + x3)) fun σ3 =>
(f_X6_inTheWay_50 N x1 x2 σ3).bind fun q4 =>
if q4.1 = 0 then (some (1, x3, (q4.2)))
else (bd (x3 + (1 : Int32)) fun v5 =>
some (0, v5, (q4.2))))
set_option maxHeartbeats 4000000 in
set_option maxRecDepth 100000 in
theorem e_X11_toHat_0_h48 {N : Nat} {x1 : Int32} {x2 : Int32} {x3 : Int32} {σ : Sg} {z : Nat × Int32 × Sg} (C : Cx p s m args meth c cX11_toHat 4 (some .int) RX11 g A X) (hex : ∀ x ∈ c.exceptionTable.toList, False) (hst : l.stackTraces = false) (hf : s_X11_toHat_0_h48 N x1 x2 x3 σ = some z) (k0 : z.1 = 0 → Bk cw p l e rm_X11_toHat_0 s m args below meth c 4 g A Q 2 12 48 [(0, .ref (g.2.2 0)), (1, .int x1), (2, .int x2), (3, .int z.2.1)] [] z.2.2) (k : ¬ z.1 = 0 → ((z.1 = 1 → Bk cw p l e rm_X11_toHat_0 s m args below meth c 4 g A Q 2 12 86 [(3, .int z.2.1)] [] z.2.2) ∧ (¬ z.1 = 1 → Bk cw p l e rm_X11_toHat_0 s m args below meth c 4 g A Q 2 12 94 [] [] z.2.2))) : Bk cw p l e rm_X11_toHat_0 s m args below meth c 4 g A Q 2 12 48 [(0, .ref (g.2.2 0)), (1, .int x1), (2, .int x2), (3, .int x3)] [] σ := by
  obtain ⟨hx, hb, hr, hml, hown, hts, hK, hlocks, hXX, hA, hXo⟩ := id C
  intro H locs ls hP hD hS hl
  unfold s_X11_toHat_0_h48 at hf
  refine lv_iload_n hx hb dX11_toHat_48 rfl (lv_at hl 3 rfl) ?_
  refine lv_bipush (v := (20 : Int32)) hx hb dX11_toHat_49 (by decide) ?_
  refine lv_icmp_gt (tgt := 94) hx hb dX11_toHat_51 (by decide) (fun t51 => ?_) (fun t51 => ?_)
  · have hf := (if_pos t51).symm.trans hf
    cases hf
    exact ((k (show ¬ (2 : Nat) = 0 by decide)).2 (show ¬ (2 : Nat) = 1 by decide)) H locs ls hP hD hS (lv_sub hl [] rfl)
  · have hf := (if_neg t51).symm.trans hf
    refine lv_aload_n hx hb dX11_toHat_54 rfl (lv_at hl 0 rfl) ?_
    refine bk_get (wf := cw) (q0 := 0) (ci := 10) (k := 8) (v := .ref (g.2.2 50)) C hP wl_X11 rfl rfl (by decide) wa_34 rfl rfl dX11_toHat_55 ?_
    refine bk_get (wf := cw) (q0 := 50) (ci := 6) (k := 0) (v := .ref (g.2.2 51)) C hP wl_X6 rfl rfl (by decide) wa_1199 rfl rfl dX11_toHat_58 ?_
    refine lv_iload_n hx hb dX11_toHat_61 rfl (lv_at hl 1 rfl) ?_
    refine lv_aload_n hx hb dX11_toHat_62 rfl (lv_at hl 0 rfl) ?_
    refine bk_get (wf := cw) (q0 := 0) (ci := 10) (k := 3) (v := .ref (g.2.2 12)) C hP wl_X11 rfl rfl (by decide) wa_23 rfl rfl dX11_toHat_63 ?_
    refine bk_get (wf := cw) (q0 := 12) (ci := 8) (k := 2) (v := .ref (g.2.2 14)) C hP wl_X9 rfl rfl (by decide) wa_782 rfl rfl dX11_toHat_66 ?_
    refine lv_iload_n hx hb dX11_toHat_69 rfl (lv_at hl 1 rfl) ?_
    obtain ⟨g1, hf⟩ := gd_s hf
    refine bk_iald (wf := cw) (q0 := 14) (n := 9) (j := x1.toNatClampNeg) C hP rfl g1 rfl dX11_toHat_70 ?_
    refine lv_iload_n hx hb dX11_toHat_71 rfl (lv_at hl 3 rfl) ?_
    refine lv_iadd hx hb dX11_toHat_72 ?_
    obtain ⟨g2, hf⟩ := gd_s hf
    obtain ⟨σ3, eσ3, hf⟩ := bd_s hf
    refine bk_iast (wf := cw) (σ1 := σ3) (q0 := 51) (n := 9) (j := x1.toNatClampNeg) C hP hD hS rfl g2 rfl (by rw [eσ3]; exact cw_a51 g _ _ _) dX11_toHat_73 (fun H locs hP hD hS => ?_)
    refine lv_aload_n hx hb dX11_toHat_74 rfl (lv_at hl 0 rfl) ?_
    refine bk_get (wf := cw) (q0 := 0) (ci := 10) (k := 8) (v := .ref (g.2.2 50)) C hP wl_X11 rfl rfl (by decide) wa_34 rfl rfl dX11_toHat_75 ?_
    refine lv_iload_n hx hb dX11_toHat_78 rfl (lv_at hl 1 rfl) ?_
    refine lv_iload_n hx hb dX11_toHat_79 rfl (lv_at hl 2 rfl) ?_
    obtain ⟨q4, hq4, hf⟩ := bi_s hf
    refine bk_VI (wf := cw) (q0 := 50) (ci := 6) (rest := []) [.int x1, .int x2] C hP hD hS hl.1 (c_X6_inTheWay_50 hXo hq4) (cwA_V 2 hts wa_482 wa_1202 wa_480 wa_481 wa_32 rfl rfl nd_X6_inTheWay ⟨Nat.le_of_ble_eq_true rfl, Nat.le_of_ble_eq_true rfl⟩) rfl rfl rfl rfl (Nat.le_of_ble_eq_true rfl) dX11_toHat_80 ⟨Nat.le_of_ble_eq_true rfl, Nat.le_of_ble_eq_true rfl⟩ (fun H locs hP hD hS => ?_)
    refine lv_if_ne (tgt := 88) hx hb dX11_toHat_83 (by decide) (fun t83 => ?_) (fun t83 => ?_)
    · have hf := (if_neg t83).symm.trans hf
      obtain ⟨v5, ev5, hf⟩ := bd_s hf
      refine lv_iinc (v := v5) (lv' := [(3, .int v5), (0, .ref (g.2.2 0)), (1, .int x1), (2, .int x2)]) hx hb dX11_toHat_88 hl (k := 3) rfl (by rw [ev5]; rfl) (by decide) rfl (fun ls hl => ?_)
      refine lv_goto (tgt := 48) hx hb dX11_toHat_91 (by decide) ?_
      cases hf
      exact k0 rfl H locs ls hP hD hS (lv_sub hl [1, 2, 3, 0] rfl)
    · have hf := (if_pos t83).symm.trans hf
      cases hf
      exact ((k (show ¬ (1 : Nat) = 0 by decide)).1 rfl) H locs ls hP hD hS (lv_sub hl [3] rfl)
theorem lp_X11_toHat_0_h48 {N n : Nat} {x1 : Int32} {x2 : Int32} {x3 : Int32} {σ : Sg} {z : Nat × Int32 × Sg} (C : Cx p s m args meth c cX11_toHat 4 (some .int) RX11 g A X) (hex : ∀ x ∈ c.exceptionTable.toList, False) (hst : l.stackTraces = false) (hz : it (fun q => s_X11_toHat_0_h48 N x1 x2 q.1 q.2) n (x3, σ) = some z) (k : ((z.1 = 1 → Bk cw p l e rm_X11_toHat_0 s m args below meth c 4 g A Q 2 12 86 [(3, .int z.2.1)] [] z.2.2) ∧ (¬ z.1 = 1 → Bk cw p l e rm_X11_toHat_0 s m args below meth c 4 g A Q 2 12 94 [] [] z.2.2))) : Bk cw p l e rm_X11_toHat_0 s m args below meth c 4 g A Q 2 12 48 [(0, .ref (g.2.2 0)), (1, .int x1), (2, .int x2), (3, .int x3)] [] σ :=
  it_W (S := Int32 × Sg) (fun q => Bk cw p l e rm_X11_toHat_0 s m args below meth c 4 g A Q 2 12 48 [(0, .ref (g.2.2 0)), (1, .int x1), (2, .int x2), (3, .int q.1)] [] q.2) (fun z => ((z.1 = 1 → Bk cw p l e rm_X11_toHat_0 s m args below meth c 4 g A Q 2 12 86 [(3, .int z.2.1)] [] z.2.2) ∧ (¬ z.1 = 1 → Bk cw p l e rm_X11_toHat_0 s m args below meth c 4 g A Q 2 12 94 [] [] z.2.2))) (fun q z hq k0 k => e_X11_toHat_0_h48 C hex hst hq k0 k) n (x3, σ) z hz k
def f_X11_toHat_0_b27 (N : Nat) (σ : Sg) : Option (Zt) :=
some (0, (-1 : Int32), σ)
set_option maxHeartbeats 4000000 in
set_option maxRecDepth 100000 in
theorem b_X11_toHat_0_b27 {N : Nat} {σ : Sg} {z : Zt} (C : Cx p s m args meth c cX11_toHat 4 (some .int) RX11 g A X) (hex : ∀ x ∈ c.exceptionTable.toList, False) (hst : l.stackTraces = false) (hf : f_X11_toHat_0_b27 N σ = some z) : Bk cw p l e rm_X11_toHat_0 s m args below meth c 4 g A (vx_MQ below (qTi cw g A z) (xT cw g A z) args s 2 12 A) 2 12 27 [] [] σ := by
  obtain ⟨hx, hb, hr, hml, hown, hts, hK, hlocks, hXX, hA, hXo⟩ := id C
  intro H locs ls hP hD hS hl
  unfold f_X11_toHat_0_b27 at hf
  refine lv_iconst (v := (-1 : Int32)) hx hb dX11_toHat_27 (by decide) ?_
  exact bk_iretT C hP hD hS hf (Nat.le_of_ble_eq_true rfl) (Nat.le_of_ble_eq_true rfl) dX11_toHat_28
def f_X11_toHat_0 (N : Nat) (x1 : Int32) (x2 : Int32) (σ : Sg) : Option (Zt) :=
(f_X11_needFarms_0 N x1 x2 σ).bind fun q6 =>
if q6.1 = 0 then (if x1 = x2 then (f_X11_toHat_0_b27 N (q6.2.2))
else ((f_X11_mistNow_0 N (q6.2.2)).bind fun q7 =>
(f_X6_isNear_50 N x1 x2 q7.1 (q7.2)).bind fun q8 =>
if q8.1 = 0 then (f_X11_toHat_0_b27 N (q8.2))
else ((f_X6_takeTops_50_26 N (q8.2)).bind fun q9 =>
(it (fun q => s_X11_toHat_0_h48 N x1 x2 q.1 q.2) N ((0 : Int32), q9)).bind fun z10 =>
if z10.1 = 1 then (some (0, (z10.2.1), (z10.2.2)))
else (some (0, (-1 : Int32), (z10.2.2))))))
else some (q6.1, 0, q6.2.2)
set_option maxHeartbeats 4000000 in
set_option maxRecDepth 100000 in
theorem b_X11_toHat_0 {N : Nat} {x1 : Int32} {x2 : Int32} {σ : Sg} {z : Zt} (C : Cx p s m args meth c cX11_toHat 4 (some .int) RX11 g A X) (hex : ∀ x ∈ c.exceptionTable.toList, False) (hst : l.stackTraces = false) (hf : f_X11_toHat_0 N x1 x2 σ = some z) : Bk cw p l e rm_X11_toHat_0 s m args below meth c 4 g A (vx_MQ below (qTi cw g A z) (xT cw g A z) args s 2 12 A) 0 0 0 [(0, .ref (g.2.2 0)), (1, .int x1), (2, .int x2)] [] σ := by
  obtain ⟨hx, hb, hr, hml, hown, hts, hK, hlocks, hXX, hA, hXo⟩ := id C
  intro H locs ls hP hD hS hl
  unfold f_X11_toHat_0 at hf
  refine lv_aload_n hx hb dX11_toHat_0 rfl (lv_at hl 0 rfl) ?_
  refine lv_iload_n hx hb dX11_toHat_1 rfl (lv_at hl 1 rfl) ?_
  refine lv_iload_n hx hb dX11_toHat_2 rfl (lv_at hl 2 rfl) ?_
  obtain ⟨q6, hq6, hf⟩ := bi_s hf
  refine bk_TV (wf := cw) (q0 := 0) (ci := 10) (rest := []) [.int x1, .int x2] C hex hP hD hS hl.1 (c_X11_needFarms_0 hXo hst hq6) (cwA_V 2 hts wa_1098 wa_1095 wa_1096 wa_1097 wa_2 rfl rfl nd_X11_needFarms ⟨Nat.le_of_ble_eq_true rfl, Nat.le_of_ble_eq_true rfl⟩) rfl rfl rfl rfl (Nat.le_of_ble_eq_true rfl) dX11_toHat_3 ⟨Nat.le_of_ble_eq_true rfl, Nat.le_of_ble_eq_true rfl⟩ ⟨Nat.le_of_ble_eq_true rfl, Nat.le_of_ble_eq_true rfl⟩ (fun h0 => by have hf := (if_neg h0).symm.trans hf; cases hf; exact ⟨rfl, rfl⟩) (fun h0 H locs hP hD hS => ?_)
  have hf := (if_pos h0).symm.trans hf
  refine lv_iload_n hx hb dX11_toHat_6 rfl (lv_at hl 1 rfl) ?_
  refine lv_iload_n hx hb dX11_toHat_7 rfl (lv_at hl 2 rfl) ?_
  refine lv_icmp_eq (tgt := 27) hx hb dX11_toHat_8 (by decide) (fun t8 => ?_) (fun t8 => ?_)
  · have hf := (if_pos t8).symm.trans hf
    exact b_X11_toHat_0_b27 C hex hst hf H locs ls hP hD hS (lv_sub hl [] rfl)
  · have hf := (if_neg t8).symm.trans hf
    refine lv_aload_n hx hb dX11_toHat_11 rfl (lv_at hl 0 rfl) ?_
    refine bk_get (wf := cw) (q0 := 0) (ci := 10) (k := 8) (v := .ref (g.2.2 50)) C hP wl_X11 rfl rfl (by decide) wa_34 rfl rfl dX11_toHat_12 ?_
    refine lv_iload_n hx hb dX11_toHat_15 rfl (lv_at hl 1 rfl) ?_
    refine lv_iload_n hx hb dX11_toHat_16 rfl (lv_at hl 2 rfl) ?_
    refine lv_aload_n hx hb dX11_toHat_17 rfl (lv_at hl 0 rfl) ?_
    obtain ⟨q7, hq7, hf⟩ := bi_s hf
    refine bk_VI (wf := cw) (q0 := 0) (ci := 10) (rest := [.int x2, .int x1, .ref (g.2.2 50)]) [] C hP hD hS hl.1 (c_X11_mistNow_0 hXo hq7) (cwA_V 0 hts wa_654 wa_651 wa_652 wa_653 wa_2 rfl rfl nd_X11_mistNow ⟨Nat.le_of_ble_eq_true rfl, Nat.le_of_ble_eq_true rfl⟩) rfl rfl rfl rfl (Nat.le_of_ble_eq_true rfl) dX11_toHat_18 ⟨Nat.le_of_ble_eq_true rfl, Nat.le_of_ble_eq_true rfl⟩ (fun H locs hP hD hS => ?_)
    obtain ⟨q8, hq8, hf⟩ := bi_s hf
    refine bk_VI (wf := cw) (q0 := 50) (ci := 6) (rest := []) [.int x1, .int x2, .int q7.1] C hP hD hS hl.1 (c_X6_isNear_50 hXo hq8) (cwA_V 3 hts wa_491 wa_1200 wa_489 wa_490 wa_32 rfl rfl nd_X6_isNear ⟨Nat.le_of_ble_eq_true rfl, Nat.le_of_ble_eq_true rfl⟩) rfl rfl rfl rfl (Nat.le_of_ble_eq_true rfl) dX11_toHat_21 ⟨Nat.le_of_ble_eq_true rfl, Nat.le_of_ble_eq_true rfl⟩ (fun H locs hP hD hS => ?_)
    refine lv_if_ne (tgt := 29) hx hb dX11_toHat_24 (by decide) (fun t24 => ?_) (fun t24 => ?_)
    · have hf := (if_neg t24).symm.trans hf
      refine lv_aload_n hx hb dX11_toHat_29 rfl (lv_at hl 0 rfl) ?_
      refine bk_get (wf := cw) (q0 := 0) (ci := 10) (k := 8) (v := .ref (g.2.2 50)) C hP wl_X11 rfl rfl (by decide) wa_34 rfl rfl dX11_toHat_30 ?_
      refine lv_aload_n hx hb dX11_toHat_33 rfl (lv_at hl 0 rfl) ?_
      refine bk_get (wf := cw) (q0 := 0) (ci := 10) (k := 4) (v := .ref (g.2.2 21)) C hP wl_X11 rfl rfl (by decide) wa_27 rfl rfl dX11_toHat_34 ?_
      refine bk_get (wf := cw) (q0 := 21) (ci := 1) (k := 0) (v := .ref (g.2.2 22)) C hP wl_X1 rfl rfl (by decide) wa_221 rfl rfl dX11_toHat_37 ?_
      refine bk_get (wf := cw) (q0 := 22) (ci := 7) (k := 5) (v := .ref (g.2.2 26)) C hP wl_X7 rfl rfl (by decide) wa_224 rfl rfl dX11_toHat_40 ?_
      obtain ⟨q9, hq9, hf⟩ := bi_s hf
      refine bk_VV (wf := cw) (q0 := 50) (ci := 6) (rest := []) [.ref (g.2.2 26)] C hP hD hS hl.1 (c_X6_takeTops_50_26 hXo hq9) (cwA_V 1 hts wa_477 wa_1201 wa_475 wa_476 wa_32 rfl rfl nd_X6_takeTops ⟨Nat.le_of_ble_eq_true rfl, Nat.le_of_ble_eq_true rfl⟩) rfl rfl rfl rfl (Nat.le_of_ble_eq_true rfl) dX11_toHat_43 ⟨Nat.le_of_ble_eq_true rfl, Nat.le_of_ble_eq_true rfl⟩ (fun H locs hP hD hS => ?_)
      refine lv_iconst (v := (0 : Int32)) hx hb dX11_toHat_46 (by decide) ?_
      refine lv_istore_n (lv' := [(3, .int (0 : Int32)), (0, .ref (g.2.2 0)), (1, .int x1), (2, .int x2)]) hx hb dX11_toHat_47 rfl hl (by decide) rfl (fun ls hl => ?_)
      obtain ⟨z10, hz10, hf⟩ := bi_s hf
      refine lp_X11_toHat_0_h48 C hex hst hz10 ⟨fun t0 => ?_, fun t0 => ?_⟩ H locs ls hP hD hS (lv_sub hl [1, 2, 3, 0] rfl)
      · have hf := (if_pos t0).symm.trans hf
        intro H locs ls hP hD hS hl
        refine lv_iload_n hx hb dX11_toHat_86 rfl (lv_at hl 0 rfl) ?_
        exact bk_iretT C hP hD hS hf (Nat.le_of_ble_eq_true rfl) (Nat.le_of_ble_eq_true rfl) dX11_toHat_87
      · have hf := (if_neg t0).symm.trans hf
        intro H locs ls hP hD hS hl
        refine lv_iconst (v := (-1 : Int32)) hx hb dX11_toHat_94 (by decide) ?_
        exact bk_iretT C hP hD hS hf (Nat.le_of_ble_eq_true rfl) (Nat.le_of_ble_eq_true rfl) dX11_toHat_95
    · have hf := (if_pos t24).symm.trans hf
      exact b_X11_toHat_0_b27 C hex hst hf H locs ls hP hD hS (lv_sub hl [] rfl)
theorem c_X11_toHat_0 {N : Nat} {x1 : Int32} {x2 : Int32} {σ : Sg} {z : Zt} (hX : xOK g X) (hst : l.stackTraces = false) (hf : f_X11_toHat_0 N x1 x2 σ = some z) : MetTi l yX11_toHat (Cond.code yX11_toHat cX11_toHat 4 (some .int) :: wsA) rm_X11_toHat_0 2 12 cw g X [.ref (g.2.2 0), .int x1, .int x2] σ z :=
  MetTi_of hX (by decide) (Nat.le_of_ble_eq_true rfl) (fun p e s m args below meth c A C hex => b_X11_toHat_0 C hex hst hf)
-- X11_between_0: between(II)I
abbrev rm_X11_between_0 : Room := { frames := 8, cells := 2, slots := 12, locals := 133 }
theorem nd_X11_between : yX11_between.cls ≠ "java/lang/invoke/MethodHandle" ∧ yX11_between.cls ≠ "java/lang/invoke/VarHandle" ∧ (parseMethodDescriptor yX11_between.desc).map (fun d => d.parameters.length) = some 2 := by decide +kernel
def f_X11_between_0 (N : Nat) (x1 : Int32) (x2 : Int32) (σ : Sg) : Option (Zt) :=
(f_X11_needFarms_0 N x1 x2 σ).bind fun q1 =>
if q1.1 = 0 then ((f_X6_inTheWay_47 N x1 x2 (q1.2.2)).bind fun q2 =>
some (0, q2.1, (q2.2)))
else some (q1.1, 0, q1.2.2)
set_option maxHeartbeats 4000000 in
set_option maxRecDepth 100000 in
theorem b_X11_between_0 {N : Nat} {x1 : Int32} {x2 : Int32} {σ : Sg} {z : Zt} (C : Cx p s m args meth c cX11_between 3 (some .int) RX11 g A X) (hex : ∀ x ∈ c.exceptionTable.toList, False) (hst : l.stackTraces = false) (hf : f_X11_between_0 N x1 x2 σ = some z) : Bk cw p l e rm_X11_between_0 s m args below meth c 3 g A (vx_MQ below (qTi cw g A z) (xT cw g A z) args s 2 12 A) 0 0 0 [(0, .ref (g.2.2 0)), (1, .int x1), (2, .int x2)] [] σ := by
  obtain ⟨hx, hb, hr, hml, hown, hts, hK, hlocks, hXX, hA, hXo⟩ := id C
  intro H locs ls hP hD hS hl
  unfold f_X11_between_0 at hf
  refine lv_aload_n hx hb dX11_between_0 rfl (lv_at hl 0 rfl) ?_
  refine lv_iload_n hx hb dX11_between_1 rfl (lv_at hl 1 rfl) ?_
  refine lv_iload_n hx hb dX11_between_2 rfl (lv_at hl 2 rfl) ?_
  obtain ⟨q1, hq1, hf⟩ := bi_s hf
  refine bk_TV (wf := cw) (q0 := 0) (ci := 10) (rest := []) [.int x1, .int x2] C hex hP hD hS hl.1 (c_X11_needFarms_0 hXo hst hq1) (cwA_V 2 hts wa_1098 wa_1095 wa_1096 wa_1097 wa_2 rfl rfl nd_X11_needFarms ⟨Nat.le_of_ble_eq_true rfl, Nat.le_of_ble_eq_true rfl⟩) rfl rfl rfl rfl (Nat.le_of_ble_eq_true rfl) dX11_between_3 ⟨Nat.le_of_ble_eq_true rfl, Nat.le_of_ble_eq_true rfl⟩ ⟨Nat.le_of_ble_eq_true rfl, Nat.le_of_ble_eq_true rfl⟩ (fun h0 => by have hf := (if_neg h0).symm.trans hf; cases hf; exact ⟨rfl, rfl⟩) (fun h0 H locs hP hD hS => ?_)
  have hf := (if_pos h0).symm.trans hf
  refine lv_aload_n hx hb dX11_between_6 rfl (lv_at hl 0 rfl) ?_
  refine bk_get (wf := cw) (q0 := 0) (ci := 10) (k := 7) (v := .ref (g.2.2 47)) C hP wl_X11 rfl rfl (by decide) wa_33 rfl rfl dX11_between_7 ?_
  refine lv_iload_n hx hb dX11_between_10 rfl (lv_at hl 1 rfl) ?_
  refine lv_iload_n hx hb dX11_between_11 rfl (lv_at hl 2 rfl) ?_
  obtain ⟨q2, hq2, hf⟩ := bi_s hf
  refine bk_VI (wf := cw) (q0 := 47) (ci := 6) (rest := []) [.int x1, .int x2] C hP hD hS hl.1 (c_X6_inTheWay_47 hXo hq2) (cwA_V 2 hts wa_482 wa_1202 wa_480 wa_481 wa_32 rfl rfl nd_X6_inTheWay ⟨Nat.le_of_ble_eq_true rfl, Nat.le_of_ble_eq_true rfl⟩) rfl rfl rfl rfl (Nat.le_of_ble_eq_true rfl) dX11_between_12 ⟨Nat.le_of_ble_eq_true rfl, Nat.le_of_ble_eq_true rfl⟩ (fun H locs hP hD hS => ?_)
  exact bk_iretT C hP hD hS hf (Nat.le_of_ble_eq_true rfl) (Nat.le_of_ble_eq_true rfl) dX11_between_15
theorem c_X11_between_0 {N : Nat} {x1 : Int32} {x2 : Int32} {σ : Sg} {z : Zt} (hX : xOK g X) (hst : l.stackTraces = false) (hf : f_X11_between_0 N x1 x2 σ = some z) : MetTi l yX11_between (Cond.code yX11_between cX11_between 3 (some .int) :: wsA) rm_X11_between_0 2 12 cw g X [.ref (g.2.2 0), .int x1, .int x2] σ z :=
  MetTi_of hX (by decide) (Nat.le_of_ble_eq_true rfl) (fun p e s m args below meth c A C hex => b_X11_between_0 C hex hst hf)
-- X10_rightOf_53: rightOf(I)I
abbrev rm_X10_rightOf_53 : Room := { frames := 0, cells := 0, slots := 0, locals := 0 }
theorem nd_X10_rightOf : yX10_rightOf.cls ≠ "java/lang/invoke/MethodHandle" ∧ yX10_rightOf.cls ≠ "java/lang/invoke/VarHandle" ∧ (parseMethodDescriptor yX10_rightOf.desc).map (fun d => d.parameters.length) = some 1 := by decide +kernel
def f_X10_rightOf_53_b80 (N : Nat) (x2 : Int32) (x3 : Int32) (x4 : Int32) (σ : Sg) : Option (Nat × Int32 × Int32 × Sg) :=
bd (x4 + (1 : Int32)) fun v1 =>
some (0, x3, v1, σ)
set_option maxHeartbeats 4000000 in
set_option maxRecDepth 100000 in
theorem b_X10_rightOf_53_b80 {N : Nat} {x2 : Int32} {x3 : Int32} {x4 : Int32} {σ : Sg} {z : Nat × Int32 × Int32 × Sg} (C : Cx p s m args meth c cX10_rightOf 5 (some .int) RX10 g A X) (hf : f_X10_rightOf_53_b80 N x2 x3 x4 σ = some z) (k0 : z.1 = 0 → Bk cw p l e rm_X10_rightOf_53 s m args below meth c 5 g A Q 0 0 24 [(0, .ref (g.2.2 53)), (2, .int x2), (3, .int z.2.1), (4, .int z.2.2.1)] [] z.2.2.2) (k : ¬ z.1 = 0 → Bk cw p l e rm_X10_rightOf_53 s m args below meth c 5 g A Q 0 0 86 [(3, .int z.2.1)] [] z.2.2.2) : Bk cw p l e rm_X10_rightOf_53 s m args below meth c 5 g A Q 0 0 80 [(0, .ref (g.2.2 53)), (2, .int x2), (3, .int x3), (4, .int x4)] [] σ := by
  obtain ⟨hx, hb, hr, hml, hown, hts, hK, hlocks, hXX, hA, hXo⟩ := id C
  intro H locs ls hP hD hS hl
  unfold f_X10_rightOf_53_b80 at hf
  obtain ⟨v1, ev1, hf⟩ := bd_s hf
  refine lv_iinc (v := v1) (lv' := [(4, .int v1), (0, .ref (g.2.2 53)), (2, .int x2), (3, .int x3)]) hx hb dX10_rightOf_80 hl (k := 3) rfl (by rw [ev1]; rfl) (by decide) rfl (fun ls hl => ?_)
  refine lv_goto (tgt := 24) hx hb dX10_rightOf_83 (by decide) ?_
  cases hf
  exact k0 rfl H locs ls hP hD hS (lv_sub hl [1, 2, 3, 0] rfl)
def f_X10_rightOf_53_b77 (N : Nat) (x2 : Int32) (x4 : Int32) (σ : Sg) : Option (Nat × Int32 × Int32 × Sg) :=
f_X10_rightOf_53_b80 N x2 x4 x4 σ
set_option maxHeartbeats 4000000 in
set_option maxRecDepth 100000 in
theorem b_X10_rightOf_53_b77 {N : Nat} {x2 : Int32} {x4 : Int32} {σ : Sg} {z : Nat × Int32 × Int32 × Sg} (C : Cx p s m args meth c cX10_rightOf 5 (some .int) RX10 g A X) (hf : f_X10_rightOf_53_b77 N x2 x4 σ = some z) (k0 : z.1 = 0 → Bk cw p l e rm_X10_rightOf_53 s m args below meth c 5 g A Q 0 0 24 [(0, .ref (g.2.2 53)), (2, .int x2), (3, .int z.2.1), (4, .int z.2.2.1)] [] z.2.2.2) (k : ¬ z.1 = 0 → Bk cw p l e rm_X10_rightOf_53 s m args below meth c 5 g A Q 0 0 86 [(3, .int z.2.1)] [] z.2.2.2) : Bk cw p l e rm_X10_rightOf_53 s m args below meth c 5 g A Q 0 0 77 [(0, .ref (g.2.2 53)), (2, .int x2), (4, .int x4)] [] σ := by
  obtain ⟨hx, hb, hr, hml, hown, hts, hK, hlocks, hXX, hA, hXo⟩ := id C
  intro H locs ls hP hD hS hl
  unfold f_X10_rightOf_53_b77 at hf
  refine lv_iload hx hb dX10_rightOf_77 (lv_at hl 2 rfl) ?_
  refine lv_istore_n (lv' := [(3, .int x4), (0, .ref (g.2.2 53)), (2, .int x2), (4, .int x4)]) hx hb dX10_rightOf_79 rfl hl (by decide) rfl (fun ls hl => ?_)
  exact b_X10_rightOf_53_b80 C hf k0 k H locs ls hP hD hS (lv_sub hl [1, 2, 0, 3] rfl)
def s_X10_rightOf_53_h24 (N : Nat) (x2 : Int32) (x3 : Int32) (x4 : Int32) (σ : Sg) : Option (Nat × Int32 × Int32 × Sg) :=
if (σ 12 0) ≤ x4 then (some (1, x3, 0, σ))
else (if (x4 < 0 ∨ 9 ≤ x4.toNatClampNeg) then none else
if (σ 13 x4.toNatClampNeg) ≤ x2 then (f_X10_rightOf_53_b80 N x2 x3 x4 σ)
else (if x3 = (-1 : Int32) then (f_X10_rightOf_53_b77 N x2 x4 σ)
else (if (x4 < 0 ∨ 9 ≤ x4.toNatClampNeg) then none else
if (x3 < 0 ∨ 9 ≤ x3.toNatClampNeg) then none else
if (σ 13 x3.toNatClampNeg) ≤ (σ 13 x4.toNatClampNeg) then (f_X10_rightOf_53_b80 N x2 x3 x4 σ)
else (f_X10_rightOf_53_b77 N x2 x4 σ))))
set_option maxHeartbeats 4000000 in
set_option maxRecDepth 100000 in
theorem e_X10_rightOf_53_h24 {N : Nat} {x2 : Int32} {x3 : Int32} {x4 : Int32} {σ : Sg} {z : Nat × Int32 × Int32 × Sg} (C : Cx p s m args meth c cX10_rightOf 5 (some .int) RX10 g A X) (hf : s_X10_rightOf_53_h24 N x2 x3 x4 σ = some z) (k0 : z.1 = 0 → Bk cw p l e rm_X10_rightOf_53 s m args below meth c 5 g A Q 0 0 24 [(0, .ref (g.2.2 53)), (2, .int x2), (3, .int z.2.1), (4, .int z.2.2.1)] [] z.2.2.2) (k : ¬ z.1 = 0 → Bk cw p l e rm_X10_rightOf_53 s m args below meth c 5 g A Q 0 0 86 [(3, .int z.2.1)] [] z.2.2.2) : Bk cw p l e rm_X10_rightOf_53 s m args below meth c 5 g A Q 0 0 24 [(0, .ref (g.2.2 53)), (2, .int x2), (3, .int x3), (4, .int x4)] [] σ := by
  obtain ⟨hx, hb, hr, hml, hown, hts, hK, hlocks, hXX, hA, hXo⟩ := id C
  intro H locs ls hP hD hS hl
  unfold s_X10_rightOf_53_h24 at hf
  refine lv_iload hx hb dX10_rightOf_24 (lv_at hl 3 rfl) ?_
  refine lv_aload_n hx hb dX10_rightOf_26 rfl (lv_at hl 0 rfl) ?_
  refine bk_get (wf := cw) (q0 := 53) (ci := 9) (k := 0) (v := .ref (g.2.2 12)) C hP wl_X10 rfl rfl (by decide) wa_138 rfl rfl dX10_rightOf_27 ?_
  refine bk_get (wf := cw) (q0 := 12) (ci := 8) (k := 0) (v := .int (σ 12 0)) C hP wl_X9 rfl rfl (by decide) wa_671 rfl rfl dX10_rightOf_30 ?_
  refine lv_icmp_ge (tgt := 86) hx hb dX10_rightOf_33 (by decide) (fun t33 => ?_) (fun t33 => ?_)
  · have hf := (if_pos t33).symm.trans hf
    cases hf
    exact (k (show ¬ (1 : Nat) = 0 by decide)) H locs ls hP hD hS (lv_sub hl [2] rfl)
  · have hf := (if_neg t33).symm.trans hf
    refine lv_aload_n hx hb dX10_rightOf_36 rfl (lv_at hl 0 rfl) ?_
    refine bk_get (wf := cw) (q0 := 53) (ci := 9) (k := 0) (v := .ref (g.2.2 12)) C hP wl_X10 rfl rfl (by decide) wa_138 rfl rfl dX10_rightOf_37 ?_
    refine bk_get (wf := cw) (q0 := 12) (ci := 8) (k := 1) (v := .ref (g.2.2 13)) C hP wl_X9 rfl rfl (by decide) wa_1231 rfl rfl dX10_rightOf_40 ?_
    refine lv_iload hx hb dX10_rightOf_43 (lv_at hl 3 rfl) ?_
    obtain ⟨g2, hf⟩ := gd_s hf
    refine bk_iald (wf := cw) (q0 := 13) (n := 9) (j := x4.toNatClampNeg) C hP rfl g2 rfl dX10_rightOf_45 ?_
    refine lv_iload_n hx hb dX10_rightOf_46 rfl (lv_at hl 1 rfl) ?_
    refine lv_icmp_le (tgt := 80) hx hb dX10_rightOf_47 (by decide) (fun t47 => ?_) (fun t47 => ?_)
    · have hf := (if_pos t47).symm.trans hf
      exact b_X10_rightOf_53_b80 C hf k0 k H locs ls hP hD hS (lv_sub hl [0, 1, 2, 3] rfl)
    · have hf := (if_neg t47).symm.trans hf
      refine lv_iload_n hx hb dX10_rightOf_50 rfl (lv_at hl 2 rfl) ?_
      refine lv_iconst (v := (-1 : Int32)) hx hb dX10_rightOf_51 (by decide) ?_
      refine lv_icmp_eq (tgt := 77) hx hb dX10_rightOf_52 (by decide) (fun t52 => ?_) (fun t52 => ?_)
      · have hf := (if_pos t52).symm.trans hf
        exact b_X10_rightOf_53_b77 C hf k0 k H locs ls hP hD hS (lv_sub hl [0, 1, 3] rfl)
      · have hf := (if_neg t52).symm.trans hf
        refine lv_aload_n hx hb dX10_rightOf_55 rfl (lv_at hl 0 rfl) ?_
        refine bk_get (wf := cw) (q0 := 53) (ci := 9) (k := 0) (v := .ref (g.2.2 12)) C hP wl_X10 rfl rfl (by decide) wa_138 rfl rfl dX10_rightOf_56 ?_
        refine bk_get (wf := cw) (q0 := 12) (ci := 8) (k := 1) (v := .ref (g.2.2 13)) C hP wl_X9 rfl rfl (by decide) wa_1231 rfl rfl dX10_rightOf_59 ?_
        refine lv_iload hx hb dX10_rightOf_62 (lv_at hl 3 rfl) ?_
        obtain ⟨g3, hf⟩ := gd_s hf
        refine bk_iald (wf := cw) (q0 := 13) (n := 9) (j := x4.toNatClampNeg) C hP rfl g3 rfl dX10_rightOf_64 ?_
        refine lv_aload_n hx hb dX10_rightOf_65 rfl (lv_at hl 0 rfl) ?_
        refine bk_get (wf := cw) (q0 := 53) (ci := 9) (k := 0) (v := .ref (g.2.2 12)) C hP wl_X10 rfl rfl (by decide) wa_138 rfl rfl dX10_rightOf_66 ?_
        refine bk_get (wf := cw) (q0 := 12) (ci := 8) (k := 1) (v := .ref (g.2.2 13)) C hP wl_X9 rfl rfl (by decide) wa_1231 rfl rfl dX10_rightOf_69 ?_
        refine lv_iload_n hx hb dX10_rightOf_72 rfl (lv_at hl 2 rfl) ?_
        obtain ⟨g4, hf⟩ := gd_s hf
        refine bk_iald (wf := cw) (q0 := 13) (n := 9) (j := x3.toNatClampNeg) C hP rfl g4 rfl dX10_rightOf_73 ?_
        refine lv_icmp_ge (tgt := 80) hx hb dX10_rightOf_74 (by decide) (fun t74 => ?_) (fun t74 => ?_)
        · have hf := (if_pos t74).symm.trans hf
          exact b_X10_rightOf_53_b80 C hf k0 k H locs ls hP hD hS (lv_sub hl [0, 1, 2, 3] rfl)
        · have hf := (if_neg t74).symm.trans hf
          exact b_X10_rightOf_53_b77 C hf k0 k H locs ls hP hD hS (lv_sub hl [0, 1, 3] rfl)
theorem lp_X10_rightOf_53_h24 {N n : Nat} {x2 : Int32} {x3 : Int32} {x4 : Int32} {σ : Sg} {z : Nat × Int32 × Int32 × Sg} (C : Cx p s m args meth c cX10_rightOf 5 (some .int) RX10 g A X) (hz : it (fun q => s_X10_rightOf_53_h24 N x2 q.1 q.2.1 q.2.2) n (x3, x4, σ) = some z) (k : Bk cw p l e rm_X10_rightOf_53 s m args below meth c 5 g A Q 0 0 86 [(3, .int z.2.1)] [] z.2.2.2) : Bk cw p l e rm_X10_rightOf_53 s m args below meth c 5 g A Q 0 0 24 [(0, .ref (g.2.2 53)), (2, .int x2), (3, .int x3), (4, .int x4)] [] σ :=
  it_W (S := Int32 × Int32 × Sg) (fun q => Bk cw p l e rm_X10_rightOf_53 s m args below meth c 5 g A Q 0 0 24 [(0, .ref (g.2.2 53)), (2, .int x2), (3, .int q.1), (4, .int q.2.1)] [] q.2.2) (fun z => Bk cw p l e rm_X10_rightOf_53 s m args below meth c 5 g A Q 0 0 86 [(3, .int z.2.1)] [] z.2.2.2) (fun q z hq k0 k => e_X10_rightOf_53_h24 C hq k0 k) n (x3, x4, σ) z hz k
def f_X10_rightOf_53_b18 (N : Nat) (t0 : Int32) (σ : Sg) : Option (Int32 × Sg) :=
(it (fun q => s_X10_rightOf_53_h24 N t0 q.1 q.2.1 q.2.2) N ((-1 : Int32), (0 : Int32), σ)).bind fun z5 =>
some ((z5.2.1), (z5.2.2.2))
set_option maxHeartbeats 4000000 in
set_option maxRecDepth 100000 in
theorem b_X10_rightOf_53_b18 {N : Nat} {t0 : Int32} {σ : Sg} {z : Int32 × Sg} (C : Cx p s m args meth c cX10_rightOf 5 (some .int) RX10 g A X) (hf : f_X10_rightOf_53_b18 N t0 σ = some z) : Bk cw p l e rm_X10_rightOf_53 s m args below meth c 5 g A (MQ below (qI cw g A z.1 z.2) args s 0 0 A) 0 0 18 [(0, .ref (g.2.2 53))] [.int t0] σ := by
  obtain ⟨hx, hb, hr, hml, hown, hts, hK, hlocks, hXX, hA, hXo⟩ := id C
  intro H locs ls hP hD hS hl
  unfold f_X10_rightOf_53_b18 at hf
  refine lv_istore_n (lv' := [(2, .int t0), (0, .ref (g.2.2 53))]) hx hb dX10_rightOf_18 rfl hl (by decide) rfl (fun ls hl => ?_)
  refine lv_iconst (v := (-1 : Int32)) hx hb dX10_rightOf_19 (by decide) ?_
  refine lv_istore_n (lv' := [(3, .int (-1 : Int32)), (2, .int t0), (0, .ref (g.2.2 53))]) hx hb dX10_rightOf_20 rfl hl (by decide) rfl (fun ls hl => ?_)
  refine lv_iconst (v := (0 : Int32)) hx hb dX10_rightOf_21 (by decide) ?_
  refine lv_istore (lv' := [(4, .int (0 : Int32)), (3, .int (-1 : Int32)), (2, .int t0), (0, .ref (g.2.2 53))]) hx hb dX10_rightOf_22 hl (by decide) rfl (fun ls hl => ?_)
  obtain ⟨z5, hz5, hf⟩ := bi_s hf
  refine lp_X10_rightOf_53_h24 C hz5 ?_ H locs ls hP hD hS (lv_sub hl [3, 2, 1, 0] rfl)
  intro H locs ls hP hD hS hl
  refine lv_iload_n hx hb dX10_rightOf_86 rfl (lv_at hl 0 rfl) ?_
  cases hf
  exact bk_iret C hP hD hS rfl dX10_rightOf_87
def f_X10_rightOf_53 (N : Nat) (x1 : Int32) (σ : Sg) : Option (Int32 × Sg) :=
if x1 = (-1 : Int32) then (f_X10_rightOf_53_b18 N (-1 : Int32) σ)
else (if (x1 < 0 ∨ 9 ≤ x1.toNatClampNeg) then none else
f_X10_rightOf_53_b18 N (σ 13 x1.toNatClampNeg) σ)
set_option maxHeartbeats 4000000 in
set_option maxRecDepth 100000 in
theorem b_X10_rightOf_53 {N : Nat} {x1 : Int32} {σ : Sg} {z : Int32 × Sg} (C : Cx p s m args meth c cX10_rightOf 5 (some .int) RX10 g A X) (hf : f_X10_rightOf_53 N x1 σ = some z) : Bk cw p l e rm_X10_rightOf_53 s m args below meth c 5 g A (MQ below (qI cw g A z.1 z.2) args s 0 0 A) 0 0 0 [(0, .ref (g.2.2 53)), (1, .int x1)] [] σ := by
  obtain ⟨hx, hb, hr, hml, hown, hts, hK, hlocks, hXX, hA, hXo⟩ := id C
  intro H locs ls hP hD hS hl
  unfold f_X10_rightOf_53 at hf
  refine lv_iload_n hx hb dX10_rightOf_0 rfl (lv_at hl 1 rfl) ?_
  refine lv_iconst (v := (-1 : Int32)) hx hb dX10_rightOf_1 (by decide) ?_
  refine lv_icmp_ne (tgt := 9) hx hb dX10_rightOf_2 (by decide) (fun t2 => ?_) (fun t2 => ?_)
  · have hf := (if_neg t2).symm.trans hf
    refine lv_aload_n hx hb dX10_rightOf_9 rfl (lv_at hl 0 rfl) ?_
    refine bk_get (wf := cw) (q0 := 53) (ci := 9) (k := 0) (v := .ref (g.2.2 12)) C hP wl_X10 rfl rfl (by decide) wa_138 rfl rfl dX10_rightOf_10 ?_
    refine bk_get (wf := cw) (q0 := 12) (ci := 8) (k := 1) (v := .ref (g.2.2 13)) C hP wl_X9 rfl rfl (by decide) wa_1231 rfl rfl dX10_rightOf_13 ?_
    refine lv_iload_n hx hb dX10_rightOf_16 rfl (lv_at hl 1 rfl) ?_
    obtain ⟨g6, hf⟩ := gd_s hf
    refine bk_iald (wf := cw) (q0 := 13) (n := 9) (j := x1.toNatClampNeg) C hP rfl g6 rfl dX10_rightOf_17 ?_
    exact b_X10_rightOf_53_b18 C hf H locs ls hP hD hS (lv_sub hl [0] rfl)
  · have hf := (if_pos t2).symm.trans hf
    refine lv_iconst (v := (-1 : Int32)) hx hb dX10_rightOf_5 (by decide) ?_
    refine lv_goto (tgt := 18) hx hb dX10_rightOf_6 (by decide) ?_
    exact b_X10_rightOf_53_b18 C hf H locs ls hP hD hS (lv_sub hl [0] rfl)
theorem c_X10_rightOf_53 {N : Nat} {x1 : Int32} {σ : Sg} {z : Int32 × Sg} (hX : xOK g X) (hf : f_X10_rightOf_53 N x1 σ = some z) : MetI l yX10_rightOf (Cond.code yX10_rightOf cX10_rightOf 5 (some .int) :: wsA) rm_X10_rightOf_53 cw g X [.ref (g.2.2 53), .int x1] σ z.1 z.2 :=
  MetI_of hX (by decide) (Nat.le_of_ble_eq_true rfl) (fun p e s m args below meth c A C => b_X10_rightOf_53 C hf)
-- X10_longestLine_53: longestLine()I
abbrev rm_X10_longestLine_53 : Room := { frames := 1, cells := 0, slots := 0, locals := 24 }
theorem nd_X10_longestLine : yX10_longestLine.cls ≠ "java/lang/invoke/MethodHandle" ∧ yX10_longestLine.cls ≠ "java/lang/invoke/VarHandle" ∧ (parseMethodDescriptor yX10_longestLine.desc).map (fun d => d.parameters.length) = some 0 := by decide +kernel
def f_X10_longestLine_53_b63 (N : Nat) (x1 : Int32) (x4 : Int32) (x5 : Int32) (t0 : Int32) (σ : Sg) : Option (Nat × Int32 × Int32 × Int32 × Int32 × Sg) :=
bd (if x1 < t0 then t0 else x1) fun v1 =>
bd (x4 + (1 : Int32)) fun v2 =>
some (0, v1, t0, x5, v2, σ)
set_option maxHeartbeats 4000000 in
set_option maxRecDepth 100000 in
theorem b_X10_longestLine_53_b63 {N : Nat} {x1 : Int32} {x4 : Int32} {x5 : Int32} {t0 : Int32} {σ : Sg} {z : Nat × Int32 × Int32 × Int32 × Int32 × Sg} (C : Cx p s m args meth c cX10_longestLine 6 (some .int) RX10 g A X) (hf : f_X10_longestLine_53_b63 N x1 x4 x5 t0 σ = some z) (k0 : z.1 = 0 → Bk cw p l e rm_X10_longestLine_53 s m args below meth c 6 g A Q 0 0 9 [(0, .ref (g.2.2 53)), (1, .int z.2.1), (2, .int z.2.2.1), (3, .int z.2.2.2.1), (4, .int z.2.2.2.2.1)] [] z.2.2.2.2.2) (k : ¬ z.1 = 0 → ((z.1 = 1 → Bk cw p l e rm_X10_longestLine_53 s m args below meth c 6 g A Q 0 0 34 [(1, .int z.2.1)] [] z.2.2.2.2.2) ∧ (¬ z.1 = 1 → Bk cw p l e rm_X10_longestLine_53 s m args below meth c 6 g A Q 0 0 79 [(1, .int z.2.1)] [] z.2.2.2.2.2))) : Bk cw p l e rm_X10_longestLine_53 s m args below meth c 6 g A Q 0 0 63 [(0, .ref (g.2.2 53)), (1, .int x1), (4, .int x4), (5, .int x5)] [.int t0] σ := by
  obtain ⟨hx, hb, hr, hml, hown, hts, hK, hlocks, hXX, hA, hXo⟩ := id C
  intro H locs ls hP hD hS hl
  unfold f_X10_longestLine_53_b63 at hf
  refine lv_istore_n (lv' := [(2, .int t0), (0, .ref (g.2.2 53)), (1, .int x1), (4, .int x4), (5, .int x5)]) hx hb dX10_longestLine_63 rfl hl (by decide) rfl (fun ls hl => ?_)
  refine lv_iload_n hx hb dX10_longestLine_64 rfl (lv_at hl 2 rfl) ?_
  refine lv_iload_n hx hb dX10_longestLine_65 rfl (lv_at hl 0 rfl) ?_
  refine va_mmax hx hb (hml.trans hl.1.symm) hown (hts _ wa_1226) (hts _ wa_749) (hts _ wa_231) (hts _ wa_750) (Nat.le_of_ble_eq_true rfl) (Nat.le_of_ble_eq_true rfl) (Nat.le_of_ble_eq_true rfl) (Nat.le_of_ble_eq_true rfl) dX10_longestLine_66 ?_
  obtain ⟨v1, ev1, hf⟩ := bd_s hf
  rw [← ev1]
  refine lv_istore_n (lv' := [(1, .int v1), (2, .int t0), (0, .ref (g.2.2 53)), (4, .int x4), (5, .int x5)]) hx hb dX10_longestLine_69 rfl hl (by decide) rfl (fun ls hl => ?_)
  refine lv_iload hx hb dX10_longestLine_70 (lv_at hl 4 rfl) ?_
  refine lv_istore_n (lv' := [(3, .int x5), (1, .int v1), (2, .int t0), (0, .ref (g.2.2 53)), (4, .int x4), (5, .int x5)]) hx hb dX10_longestLine_72 rfl hl (by decide) rfl (fun ls hl => ?_)
  obtain ⟨v2, ev2, hf⟩ := bd_s hf
  refine lv_iinc (v := v2) (lv' := [(4, .int v2), (3, .int x5), (1, .int v1), (2, .int t0), (0, .ref (g.2.2 53)), (5, .int x5)]) hx hb dX10_longestLine_73 hl (k := 4) rfl (by rw [ev2]; rfl) (by decide) rfl (fun ls hl => ?_)
  refine lv_goto (tgt := 9) hx hb dX10_longestLine_76 (by decide) ?_
  cases hf
  exact k0 rfl H locs ls hP hD hS (lv_sub hl [4, 2, 3, 1, 0] rfl)
def f_X10_longestLine_53_b62 (N : Nat) (x1 : Int32) (x4 : Int32) (x5 : Int32) (σ : Sg) : Option (Nat × Int32 × Int32 × Int32 × Int32 × Sg) :=
f_X10_longestLine_53_b63 N x1 x4 x5 (1 : Int32) σ
set_option maxHeartbeats 4000000 in
set_option maxRecDepth 100000 in
theorem b_X10_longestLine_53_b62 {N : Nat} {x1 : Int32} {x4 : Int32} {x5 : Int32} {σ : Sg} {z : Nat × Int32 × Int32 × Int32 × Int32 × Sg} (C : Cx p s m args meth c cX10_longestLine 6 (some .int) RX10 g A X) (hf : f_X10_longestLine_53_b62 N x1 x4 x5 σ = some z) (k0 : z.1 = 0 → Bk cw p l e rm_X10_longestLine_53 s m args below meth c 6 g A Q 0 0 9 [(0, .ref (g.2.2 53)), (1, .int z.2.1), (2, .int z.2.2.1), (3, .int z.2.2.2.1), (4, .int z.2.2.2.2.1)] [] z.2.2.2.2.2) (k : ¬ z.1 = 0 → ((z.1 = 1 → Bk cw p l e rm_X10_longestLine_53 s m args below meth c 6 g A Q 0 0 34 [(1, .int z.2.1)] [] z.2.2.2.2.2) ∧ (¬ z.1 = 1 → Bk cw p l e rm_X10_longestLine_53 s m args below meth c 6 g A Q 0 0 79 [(1, .int z.2.1)] [] z.2.2.2.2.2))) : Bk cw p l e rm_X10_longestLine_53 s m args below meth c 6 g A Q 0 0 62 [(0, .ref (g.2.2 53)), (1, .int x1), (4, .int x4), (5, .int x5)] [] σ := by
  obtain ⟨hx, hb, hr, hml, hown, hts, hK, hlocks, hXX, hA, hXo⟩ := id C
  intro H locs ls hP hD hS hl
  unfold f_X10_longestLine_53_b62 at hf
  refine lv_iconst (v := (1 : Int32)) hx hb dX10_longestLine_62 (by decide) ?_
  exact b_X10_longestLine_53_b63 C hf k0 k H locs ls hP hD hS (lv_sub hl [0, 1, 2, 3] rfl)
def s_X10_longestLine_53_h9 (N : Nat) (x1 : Int32) (x2 : Int32) (x3 : Int32) (x4 : Int32) (σ : Sg) : Option (Nat × Int32 × Int32 × Int32 × Int32 × Sg) :=
if (σ 12 0) ≤ x4 then (some (2, x1, 0, 0, 0, σ))
else ((f_X10_rightOf_53 N x3 σ).bind fun q3 =>
bd q3.1 fun v4 =>
if v4 = (-1 : Int32) then (some (1, x1, 0, 0, 0, (q3.2)))
else (if x3 = (-1 : Int32) then (f_X10_longestLine_53_b62 N x1 x4 v4 (q3.2))
else (if (x3 < 0 ∨ 9 ≤ x3.toNatClampNeg) then none else
if ((((q3.2) 54 x3.toNatClampNeg) >>> (v4 &&& 31)) &&& (1 : Int32)) = (1 : Int32) then (f_X10_longestLine_53_b63 N x1 x4 v4 (x2 + (1 : Int32)) (q3.2))
else (f_X10_longestLine_53_b62 N x1 x4 v4 (q3.2)))))
set_option maxHeartbeats 4000000 in
set_option maxRecDepth 100000 in
theorem e_X10_longestLine_53_h9 {N : Nat} {x1 : Int32} {x2 : Int32} {x3 : Int32} {x4 : Int32} {σ : Sg} {z : Nat × Int32 × Int32 × Int32 × Int32 × Sg} (C : Cx p s m args meth c cX10_longestLine 6 (some .int) RX10 g A X) (hf : s_X10_longestLine_53_h9 N x1 x2 x3 x4 σ = some z) (k0 : z.1 = 0 → Bk cw p l e rm_X10_longestLine_53 s m args below meth c 6 g A Q 0 0 9 [(0, .ref (g.2.2 53)), (1, .int z.2.1), (2, .int z.2.2.1), (3, .int z.2.2.2.1), (4, .int z.2.2.2.2.1)] [] z.2.2.2.2.2) (k : ¬ z.1 = 0 → ((z.1 = 1 → Bk cw p l e rm_X10_longestLine_53 s m args below meth c 6 g A Q 0 0 34 [(1, .int z.2.1)] [] z.2.2.2.2.2) ∧ (¬ z.1 = 1 → Bk cw p l e rm_X10_longestLine_53 s m args below meth c 6 g A Q 0 0 79 [(1, .int z.2.1)] [] z.2.2.2.2.2))) : Bk cw p l e rm_X10_longestLine_53 s m args below meth c 6 g A Q 0 0 9 [(0, .ref (g.2.2 53)), (1, .int x1), (2, .int x2), (3, .int x3), (4, .int x4)] [] σ := by
  obtain ⟨hx, hb, hr, hml, hown, hts, hK, hlocks, hXX, hA, hXo⟩ := id C
  intro H locs ls hP hD hS hl
  unfold s_X10_longestLine_53_h9 at hf
  refine lv_iload hx hb dX10_longestLine_9 (lv_at hl 4 rfl) ?_
  refine lv_aload_n hx hb dX10_longestLine_11 rfl (lv_at hl 0 rfl) ?_
  refine bk_get (wf := cw) (q0 := 53) (ci := 9) (k := 0) (v := .ref (g.2.2 12)) C hP wl_X10 rfl rfl (by decide) wa_138 rfl rfl dX10_longestLine_12 ?_
  refine bk_get (wf := cw) (q0 := 12) (ci := 8) (k := 0) (v := .int (σ 12 0)) C hP wl_X9 rfl rfl (by decide) wa_671 rfl rfl dX10_longestLine_15 ?_
  refine lv_icmp_ge (tgt := 79) hx hb dX10_longestLine_18 (by decide) (fun t18 => ?_) (fun t18 => ?_)
  · have hf := (if_pos t18).symm.trans hf
    cases hf
    exact ((k (show ¬ (2 : Nat) = 0 by decide)).2 (show ¬ (2 : Nat) = 1 by decide)) H locs ls hP hD hS (lv_sub hl [1] rfl)
  · have hf := (if_neg t18).symm.trans hf
    refine lv_aload_n hx hb dX10_longestLine_21 rfl (lv_at hl 0 rfl) ?_
    refine lv_iload_n hx hb dX10_longestLine_22 rfl (lv_at hl 3 rfl) ?_
    obtain ⟨q3, hq3, hf⟩ := bi_s hf
    refine bk_VI (wf := cw) (q0 := 53) (ci := 9) (rest := []) [.int x3] C hP hD hS hl.1 (c_X10_rightOf_53 hXo hq3) (cwA_V 1 hts wa_1230 wa_1227 wa_1228 wa_1229 wa_37 rfl rfl nd_X10_rightOf ⟨Nat.le_of_ble_eq_true rfl, Nat.le_of_ble_eq_true rfl⟩) rfl rfl rfl rfl (Nat.le_of_ble_eq_true rfl) dX10_longestLine_23 ⟨Nat.le_of_ble_eq_true rfl, Nat.le_of_ble_eq_true rfl⟩ (fun H locs hP hD hS => ?_)
    obtain ⟨v4, ev4, hf⟩ := bd_s hf
    rw [← ev4]
    refine lv_istore (lv' := [(5, .int v4), (0, .ref (g.2.2 53)), (1, .int x1), (2, .int x2), (3, .int x3), (4, .int x4)]) hx hb dX10_longestLine_26 hl (by decide) rfl (fun ls hl => ?_)
    refine lv_iload hx hb dX10_longestLine_28 (lv_at hl 0 rfl) ?_
    refine lv_iconst (v := (-1 : Int32)) hx hb dX10_longestLine_30 (by decide) ?_
    refine lv_icmp_ne (tgt := 36) hx hb dX10_longestLine_31 (by decide) (fun t31 => ?_) (fun t31 => ?_)
    · have hf := (if_neg t31).symm.trans hf
      refine lv_iload_n hx hb dX10_longestLine_36 rfl (lv_at hl 4 rfl) ?_
      refine lv_iconst (v := (-1 : Int32)) hx hb dX10_longestLine_37 (by decide) ?_
      refine lv_icmp_eq (tgt := 62) hx hb dX10_longestLine_38 (by decide) (fun t38 => ?_) (fun t38 => ?_)
      · have hf := (if_pos t38).symm.trans hf
        exact b_X10_longestLine_53_b62 C hf k0 k H locs ls hP hD hS (lv_sub hl [1, 2, 5, 0] rfl)
      · have hf := (if_neg t38).symm.trans hf
        refine lv_aload_n hx hb dX10_longestLine_41 rfl (lv_at hl 1 rfl) ?_
        refine bk_get (wf := cw) (q0 := 53) (ci := 9) (k := 1) (v := .ref (g.2.2 54)) C hP wl_X10 rfl rfl (by decide) wa_137 rfl rfl dX10_longestLine_42 ?_
        refine lv_iload_n hx hb dX10_longestLine_45 rfl (lv_at hl 4 rfl) ?_
        obtain ⟨g5, hf⟩ := gd_s hf
        refine bk_iald (wf := cw) (q0 := 54) (n := 9) (j := x3.toNatClampNeg) C hP rfl g5 rfl dX10_longestLine_46 ?_
        refine lv_iload hx hb dX10_longestLine_47 (lv_at hl 0 rfl) ?_
        refine lv_ishr hx hb dX10_longestLine_49 ?_
        refine lv_iconst (v := (1 : Int32)) hx hb dX10_longestLine_50 (by decide) ?_
        refine lv_iand hx hb dX10_longestLine_51 ?_
        refine lv_iconst (v := (1 : Int32)) hx hb dX10_longestLine_52 (by decide) ?_
        refine lv_icmp_ne (tgt := 62) hx hb dX10_longestLine_53 (by decide) (fun t53 => ?_) (fun t53 => ?_)
        · have hf := (if_neg t53).symm.trans hf
          exact b_X10_longestLine_53_b62 C hf k0 k H locs ls hP hD hS (lv_sub hl [1, 2, 5, 0] rfl)
        · have hf := (if_pos t53).symm.trans hf
          refine lv_iload_n hx hb dX10_longestLine_56 rfl (lv_at hl 3 rfl) ?_
          refine lv_iconst (v := (1 : Int32)) hx hb dX10_longestLine_57 (by decide) ?_
          refine lv_iadd hx hb dX10_longestLine_58 ?_
          refine lv_goto (tgt := 63) hx hb dX10_longestLine_59 (by decide) ?_
          exact b_X10_longestLine_53_b63 C hf k0 k H locs ls hP hD hS (lv_sub hl [1, 2, 5, 0] rfl)
    · have hf := (if_pos t31).symm.trans hf
      cases hf
      exact ((k (show ¬ (1 : Nat) = 0 by decide)).1 rfl) H locs ls hP hD hS (lv_sub hl [2] rfl)
theorem lp_X10_longestLine_53_h9 {N n : Nat} {x1 : Int32} {x2 : Int32} {x3 : Int32} {x4 : Int32} {σ : Sg} {z : Nat × Int32 × Int32 × Int32 × Int32 × Sg} (C : Cx p s m args meth c cX10_longestLine 6 (some .int) RX10 g A X) (hz : it (fun q => s_X10_longestLine_53_h9 N q.1 q.2.1 q.2.2.1 q.2.2.2.1 q.2.2.2.2) n (x1, x2, x3, x4, σ) = some z) (k : ((z.1 = 1 → Bk cw p l e rm_X10_longestLine_53 s m args below meth c 6 g A Q 0 0 34 [(1, .int z.2.1)] [] z.2.2.2.2.2) ∧ (¬ z.1 = 1 → Bk cw p l e rm_X10_longestLine_53 s m args below meth c 6 g A Q 0 0 79 [(1, .int z.2.1)] [] z.2.2.2.2.2))) : Bk cw p l e rm_X10_longestLine_53 s m args below meth c 6 g A Q 0 0 9 [(0, .ref (g.2.2 53)), (1, .int x1), (2, .int x2), (3, .int x3), (4, .int x4)] [] σ :=
  it_W (S := Int32 × Int32 × Int32 × Int32 × Sg) (fun q => Bk cw p l e rm_X10_longestLine_53 s m args below meth c 6 g A Q 0 0 9 [(0, .ref (g.2.2 53)), (1, .int q.1), (2, .int q.2.1), (3, .int q.2.2.1), (4, .int q.2.2.2.1)] [] q.2.2.2.2) (fun z => ((z.1 = 1 → Bk cw p l e rm_X10_longestLine_53 s m args below meth c 6 g A Q 0 0 34 [(1, .int z.2.1)] [] z.2.2.2.2.2) ∧ (¬ z.1 = 1 → Bk cw p l e rm_X10_longestLine_53 s m args below meth c 6 g A Q 0 0 79 [(1, .int z.2.1)] [] z.2.2.2.2.2))) (fun q z hq k0 k => e_X10_longestLine_53_h9 C hq k0 k) n (x1, x2, x3, x4, σ) z hz k
def f_X10_longestLine_53 (N : Nat) (σ : Sg) : Option (Int32 × Sg) :=
(it (fun q => s_X10_longestLine_53_h9 N q.1 q.2.1 q.2.2.1 q.2.2.2.1 q.2.2.2.2) N ((0 : Int32), (0 : Int32), (-1 : Int32), (0 : Int32), σ)).bind fun z6 =>
if z6.1 = 1 then (some ((z6.2.1), (z6.2.2.2.2.2)))
else (some ((z6.2.1), (z6.2.2.2.2.2)))
set_option maxHeartbeats 4000000 in
set_option maxRecDepth 100000 in
theorem b_X10_longestLine_53 {N : Nat} {σ : Sg} {z : Int32 × Sg} (C : Cx p s m args meth c cX10_longestLine 6 (some .int) RX10 g A X) (hf : f_X10_longestLine_53 N σ = some z) : Bk cw p l e rm_X10_longestLine_53 s m args below meth c 6 g A (MQ below (qI cw g A z.1 z.2) args s 0 0 A) 0 0 0 [(0, .ref (g.2.2 53))] [] σ := by
  obtain ⟨hx, hb, hr, hml, hown, hts, hK, hlocks, hXX, hA, hXo⟩ := id C
  intro H locs ls hP hD hS hl
  unfold f_X10_longestLine_53 at hf
  refine lv_iconst (v := (0 : Int32)) hx hb dX10_longestLine_0 (by decide) ?_
  refine lv_istore_n (lv' := [(1, .int (0 : Int32)), (0, .ref (g.2.2 53))]) hx hb dX10_longestLine_1 rfl hl (by decide) rfl (fun ls hl => ?_)
  refine lv_iconst (v := (0 : Int32)) hx hb dX10_longestLine_2 (by decide) ?_
  refine lv_istore_n (lv' := [(2, .int (0 : Int32)), (1, .int (0 : Int32)), (0, .ref (g.2.2 53))]) hx hb dX10_longestLine_3 rfl hl (by decide) rfl (fun ls hl => ?_)
  refine lv_iconst (v := (-1 : Int32)) hx hb dX10_longestLine_4 (by decide) ?_
  refine lv_istore_n (lv' := [(3, .int (-1 : Int32)), (2, .int (0 : Int32)), (1, .int (0 : Int32)), (0, .ref (g.2.2 53))]) hx hb dX10_longestLine_5 rfl hl (by decide) rfl (fun ls hl => ?_)
  refine lv_iconst (v := (0 : Int32)) hx hb dX10_longestLine_6 (by decide) ?_
  refine lv_istore (lv' := [(4, .int (0 : Int32)), (3, .int (-1 : Int32)), (2, .int (0 : Int32)), (1, .int (0 : Int32)), (0, .ref (g.2.2 53))]) hx hb dX10_longestLine_7 hl (by decide) rfl (fun ls hl => ?_)
  obtain ⟨z6, hz6, hf⟩ := bi_s hf
  refine lp_X10_longestLine_53_h9 C hz6 ⟨fun t0 => ?_, fun t0 => ?_⟩ H locs ls hP hD hS (lv_sub hl [4, 3, 2, 1, 0] rfl)
  · have hf := (if_pos t0).symm.trans hf
    intro H locs ls hP hD hS hl
    refine lv_iload_n hx hb dX10_longestLine_34 rfl (lv_at hl 0 rfl) ?_
    cases hf
    exact bk_iret C hP hD hS rfl dX10_longestLine_35
  · have hf := (if_neg t0).symm.trans hf
    intro H locs ls hP hD hS hl
    refine lv_iload_n hx hb dX10_longestLine_79 rfl (lv_at hl 0 rfl) ?_
    cases hf
    exact bk_iret C hP hD hS rfl dX10_longestLine_80
theorem c_X10_longestLine_53 {N : Nat} {σ : Sg} {z : Int32 × Sg} (hX : xOK g X) (hf : f_X10_longestLine_53 N σ = some z) : MetI l yX10_longestLine (Cond.code yX10_longestLine cX10_longestLine 6 (some .int) :: wsA) rm_X10_longestLine_53 cw g X [.ref (g.2.2 53)] σ z.1 z.2 :=
  MetI_of hX (by decide) (Nat.le_of_ble_eq_true rfl) (fun p e s m args below meth c A C => b_X10_longestLine_53 C hf)
-- X11_line_0: line()I
abbrev rm_X11_line_0 : Room := { frames := 3, cells := 0, slots := 0, locals := 66 }
theorem nd_X11_line : yX11_line.cls ≠ "java/lang/invoke/MethodHandle" ∧ yX11_line.cls ≠ "java/lang/invoke/VarHandle" ∧ (parseMethodDescriptor yX11_line.desc).map (fun d => d.parameters.length) = some 0 := by decide +kernel
def f_X11_line_0 (N : Nat) (σ : Sg) : Option (Int32 × Sg) :=
(f_X11_viewsNow_0 N σ).bind fun q1 =>
(f_X10_longestLine_53 N q1).bind fun q2 =>
some (q2.1, (q2.2))
set_option maxHeartbeats 4000000 in
set_option maxRecDepth 100000 in
theorem b_X11_line_0 {N : Nat} {σ : Sg} {z : Int32 × Sg} (C : Cx p s m args meth c cX11_line 1 (some .int) RX11 g A X) (hf : f_X11_line_0 N σ = some z) : Bk cw p l e rm_X11_line_0 s m args below meth c 1 g A (MQ below (qI cw g A z.1 z.2) args s 0 0 A) 0 0 0 [(0, .ref (g.2.2 0))] [] σ := by
  obtain ⟨hx, hb, hr, hml, hown, hts, hK, hlocks, hXX, hA, hXo⟩ := id C
  intro H locs ls hP hD hS hl
  unfold f_X11_line_0 at hf
  refine lv_aload_n hx hb dX11_line_0 rfl (lv_at hl 0 rfl) ?_
  obtain ⟨q1, hq1, hf⟩ := bi_s hf
  refine bk_VR (wf := cw) (q0 := 0) (ci := 10) (rest := []) [] C hP hD hS hl.1 (c_X11_viewsNow_0 hXo hq1) (cwA_V 0 hts wa_666 wa_663 wa_664 wa_665 wa_2 rfl rfl nd_X11_viewsNow ⟨Nat.le_of_ble_eq_true rfl, Nat.le_of_ble_eq_true rfl⟩) rfl rfl rfl rfl (Nat.le_of_ble_eq_true rfl) dX11_line_1 ⟨Nat.le_of_ble_eq_true rfl, Nat.le_of_ble_eq_true rfl⟩ (fun H locs hP hD hS => ?_)
  obtain ⟨q2, hq2, hf⟩ := bi_s hf
  refine bk_VI (wf := cw) (q0 := 53) (ci := 9) (rest := []) [] C hP hD hS hl.1 (c_X10_longestLine_53 hXo hq2) (cwA_V 0 hts wa_1225 wa_1222 wa_1223 wa_1224 wa_37 rfl rfl nd_X10_longestLine ⟨Nat.le_of_ble_eq_true rfl, Nat.le_of_ble_eq_true rfl⟩) rfl rfl rfl rfl (Nat.le_of_ble_eq_true rfl) dX11_line_4 ⟨Nat.le_of_ble_eq_true rfl, Nat.le_of_ble_eq_true rfl⟩ (fun H locs hP hD hS => ?_)
  cases hf
  exact bk_iret C hP hD hS rfl dX11_line_7
theorem c_X11_line_0 {N : Nat} {σ : Sg} {z : Int32 × Sg} (hX : xOK g X) (hf : f_X11_line_0 N σ = some z) : MetI l yX11_line (Cond.code yX11_line cX11_line 1 (some .int) :: wsA) rm_X11_line_0 cw g X [.ref (g.2.2 0)] σ z.1 z.2 :=
  MetI_of hX (by decide) (Nat.le_of_ble_eq_true rfl) (fun p e s m args below meth c A C => b_X11_line_0 C hf)
-- X11_hidden_0: hidden(I)I
abbrev rm_X11_hidden_0 : Room := { frames := 7, cells := 1, slots := 6, locals := 111 }
theorem nd_X11_hidden : yX11_hidden.cls ≠ "java/lang/invoke/MethodHandle" ∧ yX11_hidden.cls ≠ "java/lang/invoke/VarHandle" ∧ (parseMethodDescriptor yX11_hidden.desc).map (fun d => d.parameters.length) = some 1 := by decide +kernel
def f_X11_hidden_0 (N : Nat) (x1 : Int32) (σ : Sg) : Option (Zt) :=
(f_X11_needFarm_0 N x1 σ).bind fun q1 =>
if q1.1 = 0 then ((f_X9_all_12 N (q1.2.2)).bind fun q2 =>
(f_X11_mistNow_0 N (q2.2)).bind fun q3 =>
(f_X6_of_47 N x1 q3.1 (q3.2)).bind fun q4 =>
some (0, ((q2.1 &&& (((1 : Int32) <<< (x1 &&& 31)) ^^^ (-1 : Int32))) &&& (q4.1 ^^^ (-1 : Int32))), (q4.2)))
else some (q1.1, 0, q1.2.2)
set_option maxHeartbeats 4000000 in
set_option maxRecDepth 100000 in
theorem b_X11_hidden_0 {N : Nat} {x1 : Int32} {σ : Sg} {z : Zt} (C : Cx p s m args meth c cX11_hidden 2 (some .int) RX11 g A X) (hex : ∀ x ∈ c.exceptionTable.toList, False) (hst : l.stackTraces = false) (hf : f_X11_hidden_0 N x1 σ = some z) : Bk cw p l e rm_X11_hidden_0 s m args below meth c 2 g A (vx_MQ below (qTi cw g A z) (xT cw g A z) args s 1 6 A) 0 0 0 [(0, .ref (g.2.2 0)), (1, .int x1)] [] σ := by
  obtain ⟨hx, hb, hr, hml, hown, hts, hK, hlocks, hXX, hA, hXo⟩ := id C
  intro H locs ls hP hD hS hl
  unfold f_X11_hidden_0 at hf
  refine lv_aload_n hx hb dX11_hidden_0 rfl (lv_at hl 0 rfl) ?_
  refine lv_iload_n hx hb dX11_hidden_1 rfl (lv_at hl 1 rfl) ?_
  obtain ⟨q1, hq1, hf⟩ := bi_s hf
  refine bk_TV (wf := cw) (q0 := 0) (ci := 10) (rest := []) [.int x1] C hex hP hD hS hl.1 (c_X11_needFarm_0 hXo hst hq1) (cwA_V 1 hts wa_791 wa_788 wa_789 wa_790 wa_2 rfl rfl nd_X11_needFarm ⟨Nat.le_of_ble_eq_true rfl, Nat.le_of_ble_eq_true rfl⟩) rfl rfl rfl rfl (Nat.le_of_ble_eq_true rfl) dX11_hidden_2 ⟨Nat.le_of_ble_eq_true rfl, Nat.le_of_ble_eq_true rfl⟩ ⟨Nat.le_of_ble_eq_true rfl, Nat.le_of_ble_eq_true rfl⟩ (fun h0 => by have hf := (if_neg h0).symm.trans hf; cases hf; exact ⟨rfl, rfl⟩) (fun h0 H locs hP hD hS => ?_)
  have hf := (if_pos h0).symm.trans hf
  refine lv_aload_n hx hb dX11_hidden_5 rfl (lv_at hl 0 rfl) ?_
  refine bk_get (wf := cw) (q0 := 0) (ci := 10) (k := 3) (v := .ref (g.2.2 12)) C hP wl_X11 rfl rfl (by decide) wa_23 rfl rfl dX11_hidden_6 ?_
  obtain ⟨q2, hq2, hf⟩ := bi_s hf
  refine bk_VI (wf := cw) (q0 := 12) (ci := 8) (rest := []) [] C hP hD hS hl.1 (c_X9_all_12 hXo hq2) (cwA_V 0 hts wa_695 wa_1172 wa_693 wa_694 wa_22 rfl rfl nd_X9_all ⟨Nat.le_of_ble_eq_true rfl, Nat.le_of_ble_eq_true rfl⟩) rfl rfl rfl rfl (Nat.le_of_ble_eq_true rfl) dX11_hidden_9 ⟨Nat.le_of_ble_eq_true rfl, Nat.le_of_ble_eq_true rfl⟩ (fun H locs hP hD hS => ?_)
  refine lv_iconst (v := (1 : Int32)) hx hb dX11_hidden_12 (by decide) ?_
  refine lv_iload_n hx hb dX11_hidden_13 rfl (lv_at hl 1 rfl) ?_
  refine lv_ishl hx hb dX11_hidden_14 ?_
  refine lv_iconst (v := (-1 : Int32)) hx hb dX11_hidden_15 (by decide) ?_
  refine lv_ixor hx hb dX11_hidden_16 ?_
  refine lv_iand hx hb dX11_hidden_17 ?_
  refine lv_aload_n hx hb dX11_hidden_18 rfl (lv_at hl 0 rfl) ?_
  refine bk_get (wf := cw) (q0 := 0) (ci := 10) (k := 7) (v := .ref (g.2.2 47)) C hP wl_X11 rfl rfl (by decide) wa_33 rfl rfl dX11_hidden_19 ?_
  refine lv_iload_n hx hb dX11_hidden_22 rfl (lv_at hl 1 rfl) ?_
  refine lv_aload_n hx hb dX11_hidden_23 rfl (lv_at hl 0 rfl) ?_
  obtain ⟨q3, hq3, hf⟩ := bi_s hf
  refine bk_VI (wf := cw) (q0 := 0) (ci := 10) (rest := [.int x1, .ref (g.2.2 47), .int (q2.1 &&& (((1 : Int32) <<< (x1 &&& 31)) ^^^ (-1 : Int32)))]) [] C hP hD hS hl.1 (c_X11_mistNow_0 hXo hq3) (cwA_V 0 hts wa_654 wa_651 wa_652 wa_653 wa_2 rfl rfl nd_X11_mistNow ⟨Nat.le_of_ble_eq_true rfl, Nat.le_of_ble_eq_true rfl⟩) rfl rfl rfl rfl (Nat.le_of_ble_eq_true rfl) dX11_hidden_24 ⟨Nat.le_of_ble_eq_true rfl, Nat.le_of_ble_eq_true rfl⟩ (fun H locs hP hD hS => ?_)
  obtain ⟨q4, hq4, hf⟩ := bi_s hf
  refine bk_VI (wf := cw) (q0 := 47) (ci := 6) (rest := [.int (q2.1 &&& (((1 : Int32) <<< (x1 &&& 31)) ^^^ (-1 : Int32)))]) [.int x1, .int q3.1] C hP hD hS hl.1 (c_X6_of_47 hXo hq4) (cwA_V 2 hts wa_675 wa_792 wa_673 wa_674 wa_32 rfl rfl nd_X6_of ⟨Nat.le_of_ble_eq_true rfl, Nat.le_of_ble_eq_true rfl⟩) rfl rfl rfl rfl (Nat.le_of_ble_eq_true rfl) dX11_hidden_27 ⟨Nat.le_of_ble_eq_true rfl, Nat.le_of_ble_eq_true rfl⟩ (fun H locs hP hD hS => ?_)
  refine lv_iconst (v := (-1 : Int32)) hx hb dX11_hidden_30 (by decide) ?_
  refine lv_ixor hx hb dX11_hidden_31 ?_
  refine lv_iand hx hb dX11_hidden_32 ?_
  exact bk_iretT C hP hD hS hf (Nat.le_of_ble_eq_true rfl) (Nat.le_of_ble_eq_true rfl) dX11_hidden_33
theorem c_X11_hidden_0 {N : Nat} {x1 : Int32} {σ : Sg} {z : Zt} (hX : xOK g X) (hst : l.stackTraces = false) (hf : f_X11_hidden_0 N x1 σ = some z) : MetTi l yX11_hidden (Cond.code yX11_hidden cX11_hidden 2 (some .int) :: wsA) rm_X11_hidden_0 1 6 cw g X [.ref (g.2.2 0), .int x1] σ z :=
  MetTi_of hX (by decide) (Nat.le_of_ble_eq_true rfl) (fun p e s m args below meth c A C hex => b_X11_hidden_0 C hex hst hf)
-- X5_add_29: add(IIZ)V
abbrev rm_X5_add_29 : Room := { frames := 0, cells := 0, slots := 0, locals := 0 }
theorem nd_X5_add : yX5_add.cls ≠ "java/lang/invoke/MethodHandle" ∧ yX5_add.cls ≠ "java/lang/invoke/VarHandle" ∧ (parseMethodDescriptor yX5_add.desc).map (fun d => d.parameters.length) = some 3 := by decide +kernel
def f_X5_add_29_b46 (N : Nat) (t1 : Int32) (t2 : Int32) (σ : Sg) : Option (Sg) :=
if (t1 < 0 ∨ 8 ≤ t1.toNatClampNeg) then none else
bd (wr σ 32 (t1.toNatClampNeg) t2) fun σ2 =>
bd (wr σ2 29 0 ((σ2 29 0) + (1 : Int32))) fun σ3 =>
some σ3
set_option maxHeartbeats 4000000 in
set_option maxRecDepth 100000 in
theorem b_X5_add_29_b46 {N : Nat} {t1 : Int32} {t2 : Int32} {σ : Sg} {z : Sg} (C : Cx p s m args meth c cX5_add 4 none RX5 g A X) (hf : f_X5_add_29_b46 N t1 t2 σ = some z) : Bk cw p l e rm_X5_add_29 s m args below meth c 4 g A (MQ below (qV cw g A z) args s 0 0 A) 0 0 46 [(0, .ref (g.2.2 29))] [.int t2, .int t1, .ref (g.2.2 32)] σ := by
  obtain ⟨hx, hb, hr, hml, hown, hts, hK, hlocks, hXX, hA, hXo⟩ := id C
  intro H locs ls hP hD hS hl
  unfold f_X5_add_29_b46 at hf
  obtain ⟨g1, hf⟩ := gd_s hf
  obtain ⟨σ2, eσ2, hf⟩ := bd_s hf
  refine bk_iast (wf := cw) (σ1 := σ2) (q0 := 32) (n := 8) (j := t1.toNatClampNeg) C hP hD hS rfl g1 rfl (by rw [eσ2]; exact cw_a32 g _ _ _) dX5_add_46 (fun H locs hP hD hS => ?_)
  refine lv_aload_n hx hb dX5_add_47 rfl (lv_at hl 0 rfl) ?_
  refine lv_dup hx hb dX5_add_48 rfl ?_
  refine bk_get (wf := cw) (q0 := 29) (ci := 5) (k := 0) (v := .int (σ2 29 0)) C hP wl_X5 rfl rfl (by decide) wa_122 rfl rfl dX5_add_49 ?_
  refine lv_iconst (v := (1 : Int32)) hx hb dX5_add_52 (by decide) ?_
  refine lv_iadd hx hb dX5_add_53 ?_
  obtain ⟨σ3, eσ3, hf⟩ := bd_s hf
  refine bk_put (wf := cw) (σ1 := σ3) (q0 := 29) (ci := 5) (k := 0) (v := .int ((σ2 29 0) + (1 : Int32))) C hP hD hS wl_X5 tyX5_ok nmX5 rfl rfl (by decide) wa_122 rfl rfl rfl rfl rfl (Nat.le_of_ble_eq_true rfl) (by rw [eσ3]; exact cw_p29_0 g _ _) dX5_add_54 (fun H locs hP hD hS => ?_)
  cases hf
  exact bk_vret C hP hD hS rfl dX5_add_57
def f_X5_add_29 (N : Nat) (x1 : Int32) (x2 : Int32) (x3 : Int32) (σ : Sg) : Option (Sg) :=
if (8 : Int32) ≤ (σ 29 0) then (some σ)
else (if ((σ 29 0) < 0 ∨ 8 ≤ (σ 29 0).toNatClampNeg) then none else
bd (wr σ 30 ((σ 29 0).toNatClampNeg) x1) fun σ5 =>
if ((σ5 29 0) < 0 ∨ 8 ≤ (σ5 29 0).toNatClampNeg) then none else
bd (wr σ5 31 ((σ5 29 0).toNatClampNeg) x2) fun σ7 =>
if x3 = 0 then (f_X5_add_29_b46 N (σ7 29 0) (0 : Int32) σ7)
else (f_X5_add_29_b46 N (σ7 29 0) (1 : Int32) σ7))
set_option maxHeartbeats 4000000 in
set_option maxRecDepth 100000 in
theorem b_X5_add_29 {N : Nat} {x1 : Int32} {x2 : Int32} {x3 : Int32} {σ : Sg} {z : Sg} (C : Cx p s m args meth c cX5_add 4 none RX5 g A X) (hf : f_X5_add_29 N x1 x2 x3 σ = some z) : Bk cw p l e rm_X5_add_29 s m args below meth c 4 g A (MQ below (qV cw g A z) args s 0 0 A) 0 0 0 [(0, .ref (g.2.2 29)), (1, .int x1), (2, .int x2), (3, .int x3)] [] σ := by
  obtain ⟨hx, hb, hr, hml, hown, hts, hK, hlocks, hXX, hA, hXo⟩ := id C
  intro H locs ls hP hD hS hl
  unfold f_X5_add_29 at hf
  refine lv_aload_n hx hb dX5_add_0 rfl (lv_at hl 0 rfl) ?_
  refine bk_get (wf := cw) (q0 := 29) (ci := 5) (k := 0) (v := .int (σ 29 0)) C hP wl_X5 rfl rfl (by decide) wa_122 rfl rfl dX5_add_1 ?_
  refine lv_bipush (v := (8 : Int32)) hx hb dX5_add_4 (by decide) ?_
  refine lv_icmp_ge (tgt := 57) hx hb dX5_add_6 (by decide) (fun t6 => ?_) (fun t6 => ?_)
  · have hf := (if_pos t6).symm.trans hf
    cases hf
    exact bk_vret C hP hD hS rfl dX5_add_57
  · have hf := (if_neg t6).symm.trans hf
    refine lv_aload_n hx hb dX5_add_9 rfl (lv_at hl 0 rfl) ?_
    refine bk_get (wf := cw) (q0 := 29) (ci := 5) (k := 1) (v := .ref (g.2.2 30)) C hP wl_X5 rfl rfl (by decide) wa_123 rfl rfl dX5_add_10 ?_
    refine lv_aload_n hx hb dX5_add_13 rfl (lv_at hl 0 rfl) ?_
    refine bk_get (wf := cw) (q0 := 29) (ci := 5) (k := 0) (v := .int (σ 29 0)) C hP wl_X5 rfl rfl (by decide) wa_122 rfl rfl dX5_add_14 ?_
    refine lv_iload_n hx hb dX5_add_17 rfl (lv_at hl 1 rfl) ?_
    obtain ⟨g4, hf⟩ := gd_s hf
    obtain ⟨σ5, eσ5, hf⟩ := bd_s hf
    refine bk_iast (wf := cw) (σ1 := σ5) (q0 := 30) (n := 8) (j := (σ 29 0).toNatClampNeg) C hP hD hS rfl g4 rfl (by rw [eσ5]; exact cw_a30 g _ _ _) dX5_add_18 (fun H locs hP hD hS => ?_)
    refine lv_aload_n hx hb dX5_add_19 rfl (lv_at hl 0 rfl) ?_
    refine bk_get (wf := cw) (q0 := 29) (ci := 5) (k := 2) (v := .ref (g.2.2 31)) C hP wl_X5 rfl rfl (by decide) wa_124 rfl rfl dX5_add_20 ?_
    refine lv_aload_n hx hb dX5_add_23 rfl (lv_at hl 0 rfl) ?_
    refine bk_get (wf := cw) (q0 := 29) (ci := 5) (k := 0) (v := .int (σ5 29 0)) C hP wl_X5 rfl rfl (by decide) wa_122 rfl rfl dX5_add_24 ?_
    refine lv_iload_n hx hb dX5_add_27 rfl (lv_at hl 2 rfl) ?_
    obtain ⟨g6, hf⟩ := gd_s hf
    obtain ⟨σ7, eσ7, hf⟩ := bd_s hf
    refine bk_iast (wf := cw) (σ1 := σ7) (q0 := 31) (n := 8) (j := (σ5 29 0).toNatClampNeg) C hP hD hS rfl g6 rfl (by rw [eσ7]; exact cw_a31 g _ _ _) dX5_add_28 (fun H locs hP hD hS => ?_)
    refine lv_aload_n hx hb dX5_add_29 rfl (lv_at hl 0 rfl) ?_
    refine bk_get (wf := cw) (q0 := 29) (ci := 5) (k := 3) (v := .ref (g.2.2 32)) C hP wl_X5 rfl rfl (by decide) wa_125 rfl rfl dX5_add_30 ?_
    refine lv_aload_n hx hb dX5_add_33 rfl (lv_at hl 0 rfl) ?_
    refine bk_get (wf := cw) (q0 := 29) (ci := 5) (k := 0) (v := .int (σ7 29 0)) C hP wl_X5 rfl rfl (by decide) wa_122 rfl rfl dX5_add_34 ?_
    refine lv_iload_n hx hb dX5_add_37 rfl (lv_at hl 3 rfl) ?_
    refine lv_if_eq (tgt := 45) hx hb dX5_add_38 (by decide) (fun t38 => ?_) (fun t38 => ?_)
    · have hf := (if_pos t38).symm.trans hf
      refine lv_iconst (v := (0 : Int32)) hx hb dX5_add_45 (by decide) ?_
      exact b_X5_add_29_b46 C hf H locs ls hP hD hS (lv_sub hl [0] rfl)
    · have hf := (if_neg t38).symm.trans hf
      refine lv_iconst (v := (1 : Int32)) hx hb dX5_add_41 (by decide) ?_
      refine lv_goto (tgt := 46) hx hb dX5_add_42 (by decide) ?_
      exact b_X5_add_29_b46 C hf H locs ls hP hD hS (lv_sub hl [0] rfl)
theorem c_X5_add_29 {N : Nat} {x1 : Int32} {x2 : Int32} {x3 : Int32} {σ : Sg} {z : Sg} (hX : xOK g X) (hf : f_X5_add_29 N x1 x2 x3 σ = some z) : MetV l yX5_add (Cond.code yX5_add cX5_add 4 none :: wsA) rm_X5_add_29 cw g X [.ref (g.2.2 29), .int x1, .int x2, .int x3] σ z :=
  MetV_of hX (by decide) (Nat.le_of_ble_eq_true rfl) (fun p e s m args below meth c A C => b_X5_add_29 C hf)
end GEN
