section GEN
variable {p : Program} {l : Launch} {e : Env} {s : State} {m : MethodId} {args : Array Value} {below : List Frame} {meth : Method} {c : Code} {g : WG} {A : Nat → Prop} {X : Xt} {Q : State → Prop}
-- X9_all_12: all()I
abbrev rm_X9_all_12 : Room := { frames := 0, cells := 0, slots := 0, locals := 0 }
theorem nd_X9_all : yX9_all.cls ≠ "java/lang/invoke/MethodHandle" ∧ yX9_all.cls ≠ "java/lang/invoke/VarHandle" ∧ (parseMethodDescriptor yX9_all.desc).map (fun d => d.parameters.length) = some 0 := by decide +kernel
def f_X9_all_12 (N : Nat) (σ : Sg) : Option (Int32 × Sg) :=
some ((((1 : Int32) <<< ((σ 12 0) &&& 31)) - (1 : Int32)), σ)
set_option maxHeartbeats 4000000 in
set_option maxRecDepth 100000 in
theorem b_X9_all_12 {N : Nat} {σ : Sg} {z : Int32 × Sg} (C : Cx p s m args meth c cX9_all 1 (some .int) RX9 g A X) (hf : f_X9_all_12 N σ = some z) : Bk cw p l e rm_X9_all_12 s m args below meth c 1 g A (MQ below (qI cw g A z.1 z.2) args s 0 0 A) 0 0 0 [(0, .ref (g.2.2 12))] [] σ := by
  obtain ⟨hx, hb, hr, hml, hown, hts, hK, hlocks, hXX, hA, hXo⟩ := id C
  intro H locs ls hP hD hS hl
  unfold f_X9_all_12 at hf
  refine lv_iconst (v := (1 : Int32)) hx hb dX9_all_0 (by decide) ?_
  refine lv_aload_n hx hb dX9_all_1 rfl (lv_at hl 0 rfl) ?_
  refine bk_get (wf := cw) (q0 := 12) (ci := 8) (k := 0) (v := .int (σ 12 0)) C hP wl_X9 rfl rfl (by decide) wa_68 rfl rfl dX9_all_2 ?_
  refine lv_ishl hx hb dX9_all_5 ?_
  refine lv_iconst (v := (1 : Int32)) hx hb dX9_all_6 (by decide) ?_
  refine lv_isub hx hb dX9_all_7 ?_
  cases hf
  exact bk_iret C hP hD hS rfl dX9_all_8
theorem c_X9_all_12 {N : Nat} {σ : Sg} {z : Int32 × Sg} (hX : xOK g X) (hf : f_X9_all_12 N σ = some z) : MetI l yX9_all (Cond.code yX9_all cX9_all 1 (some .int) :: wsA) rm_X9_all_12 cw g X [.ref (g.2.2 12)] σ z.1 z.2 :=
  MetI_of hX (by decide) (Nat.le_of_ble_eq_true rfl) (fun p e s m args below meth c A C => b_X9_all_12 C hf)
-- X10_watch_53: watch()I
abbrev rm_X10_watch_53 : Room := { frames := 1, cells := 0, slots := 0, locals := 23 }
theorem nd_X10_watch : yX10_watch.cls ≠ "java/lang/invoke/MethodHandle" ∧ yX10_watch.cls ≠ "java/lang/invoke/VarHandle" ∧ (parseMethodDescriptor yX10_watch.desc).map (fun d => d.parameters.length) = some 0 := by decide +kernel
def f_X10_watch_53_b47 (N : Nat) (x1 : Int32) (x2 : Int32) (x3 : Int32) (σ : Sg) : Option (Nat × Int32 × Sg) :=
bd (x3 + (1 : Int32)) fun v1 =>
some (0, v1, σ)
set_option maxHeartbeats 4000000 in
set_option maxRecDepth 100000 in
theorem b_X10_watch_53_b47 {N : Nat} {x1 : Int32} {x2 : Int32} {x3 : Int32} {σ : Sg} {z : Nat × Int32 × Sg} (C : Cx p s m args meth c cX10_watch 4 (some .int) RX10 g A X) (hf : f_X10_watch_53_b47 N x1 x2 x3 σ = some z) (k0 : z.1 = 0 → Bk cw p l e rm_X10_watch_53 s m args below meth c 4 g A Q 0 0 23 [(0, .ref (g.2.2 53)), (1, .int x1), (2, .int x2), (3, .int z.2.1)] [] z.2.2) (k : ¬ z.1 = 0 → ((z.1 = 1 → Bk cw p l e rm_X10_watch_53 s m args below meth c 4 g A Q 0 0 45 [(3, .int z.2.1)] [] z.2.2) ∧ (¬ z.1 = 1 → Bk cw p l e rm_X10_watch_53 s m args below meth c 4 g A Q 0 0 53 [(0, .ref (g.2.2 53)), (1, .int x1), (2, .int x2)] [] z.2.2))) : Bk cw p l e rm_X10_watch_53 s m args below meth c 4 g A Q 0 0 47 [(0, .ref (g.2.2 53)), (1, .int x1), (2, .int x2), (3, .int x3)] [] σ := by
  obtain ⟨hx, hb, hr, hml, hown, hts, hK, hlocks, hXX, hA, hXo⟩ := id C
  intro H locs ls hP hD hS hl
  unfold f_X10_watch_53_b47 at hf
  obtain ⟨v1, ev1, hf⟩ := bd_s hf
  refine lv_iinc (v := v1) (lv' := [(3, .int v1), (0, .ref (g.2.2 53)), (1, .int x1), (2, .int x2)]) hx hb dX10_watch_47 hl (k := 3) rfl (by rw [ev1]; rfl) (by decide) rfl (fun ls hl => ?_)
  refine lv_goto (tgt := 23) hx hb dX10_watch_50 (by decide) ?_
  cases hf
  exact k0 rfl H locs ls hP hD hS (lv_sub hl [1, 2, 3, 0] rfl)
def s_X10_watch_53_h23 (N : Nat) (x1 : Int32) (x2 : Int32) (x3 : Int32) (σ : Sg) : Option (Nat × Int32 × Sg) :=
if x1 < x3 then (some (2, 0, σ))
else ((f_J6_bitCount_0f7a4 N x3 σ).bind fun q2 =>
if q2.1 = x2 then ((f_X10_withNext_53 N x3 (q2.2)).bind fun q3 =>
if q3.1 = x1 then (some (1, x3, (q3.2)))
else (f_X10_watch_53_b47 N x1 x2 x3 (q3.2)))
else (f_X10_watch_53_b47 N x1 x2 x3 (q2.2)))
set_option maxHeartbeats 4000000 in
set_option maxRecDepth 100000 in
theorem e_X10_watch_53_h23 {N : Nat} {x1 : Int32} {x2 : Int32} {x3 : Int32} {σ : Sg} {z : Nat × Int32 × Sg} (C : Cx p s m args meth c cX10_watch 4 (some .int) RX10 g A X) (hf : s_X10_watch_53_h23 N x1 x2 x3 σ = some z) (k0 : z.1 = 0 → Bk cw p l e rm_X10_watch_53 s m args below meth c 4 g A Q 0 0 23 [(0, .ref (g.2.2 53)), (1, .int x1), (2, .int x2), (3, .int z.2.1)] [] z.2.2) (k : ¬ z.1 = 0 → ((z.1 = 1 → Bk cw p l e rm_X10_watch_53 s m args below meth c 4 g A Q 0 0 45 [(3, .int z.2.1)] [] z.2.2) ∧ (¬ z.1 = 1 → Bk cw p l e rm_X10_watch_53 s m args below meth c 4 g A Q 0 0 53 [(0, .ref (g.2.2 53)), (1, .int x1), (2, .int x2)] [] z.2.2))) : Bk cw p l e rm_X10_watch_53 s m args below meth c 4 g A Q 0 0 23 [(0, .ref (g.2.2 53)), (1, .int x1), (2, .int x2), (3, .int x3)] [] σ := by
  obtain ⟨hx, hb, hr, hml, hown, hts, hK, hlocks, hXX, hA, hXo⟩ := id C
  intro H locs ls hP hD hS hl
  unfold s_X10_watch_53_h23 at hf
  refine lv_iload_n hx hb dX10_watch_23 rfl (lv_at hl 3 rfl) ?_
  refine lv_iload_n hx hb dX10_watch_24 rfl (lv_at hl 1 rfl) ?_
  refine lv_icmp_gt (tgt := 53) hx hb dX10_watch_25 (by decide) (fun t25 => ?_) (fun t25 => ?_)
  · have hf := (if_pos t25).symm.trans hf
    cases hf
    exact ((k (show ¬ (2 : Nat) = 0 by decide)).2 (show ¬ (2 : Nat) = 1 by decide)) H locs ls hP hD hS (lv_sub hl [0, 1, 2] rfl)
  · have hf := (if_neg t25).symm.trans hf
    refine lv_iload_n hx hb dX10_watch_28 rfl (lv_at hl 3 rfl) ?_
    obtain ⟨q2, hq2, hf⟩ := bi_s hf
    refine bk_SI (wf := cw) (rest := []) [.int x3] C hP hD hS hl.1 (c_J6_bitCount_0f7a4 hXo hq2) (cwA_S 1 hts wa_699 wa_696 wa_697 wa_698 rfl rfl nd_J6_bitCount_0f7a4 ⟨Nat.le_of_ble_eq_true rfl, Nat.le_of_ble_eq_true rfl⟩) rfl rfl (Nat.le_of_ble_eq_true rfl) dX10_watch_29 ⟨Nat.le_of_ble_eq_true rfl, Nat.le_of_ble_eq_true rfl⟩ (fun H locs hP hD hS => ?_)
    refine lv_iload_n hx hb dX10_watch_32 rfl (lv_at hl 2 rfl) ?_
    refine lv_icmp_ne (tgt := 47) hx hb dX10_watch_33 (by decide) (fun t33 => ?_) (fun t33 => ?_)
    · have hf := (if_neg t33).symm.trans hf
      exact b_X10_watch_53_b47 C hf k0 k H locs ls hP hD hS (lv_sub hl [0, 1, 2, 3] rfl)
    · have hf := (if_pos t33).symm.trans hf
      refine lv_aload_n hx hb dX10_watch_36 rfl (lv_at hl 0 rfl) ?_
      refine lv_iload_n hx hb dX10_watch_37 rfl (lv_at hl 3 rfl) ?_
      obtain ⟨q3, hq3, hf⟩ := bi_s hf
      refine bk_VI (wf := cw) (q0 := 53) (ci := 9) (rest := []) [.int x3] C hP hD hS hl.1 (c_X10_withNext_53 hXo hq3) (cwA_V 1 hts wa_687 wa_684 wa_685 wa_686 wa_37 rfl rfl nd_X10_withNext ⟨Nat.le_of_ble_eq_true rfl, Nat.le_of_ble_eq_true rfl⟩) rfl rfl rfl rfl (Nat.le_of_ble_eq_true rfl) dX10_watch_38 ⟨Nat.le_of_ble_eq_true rfl, Nat.le_of_ble_eq_true rfl⟩ (fun H locs hP hD hS => ?_)
      refine lv_iload_n hx hb dX10_watch_41 rfl (lv_at hl 1 rfl) ?_
      refine lv_icmp_ne (tgt := 47) hx hb dX10_watch_42 (by decide) (fun t42 => ?_) (fun t42 => ?_)
      · have hf := (if_neg t42).symm.trans hf
        exact b_X10_watch_53_b47 C hf k0 k H locs ls hP hD hS (lv_sub hl [0, 1, 2, 3] rfl)
      · have hf := (if_pos t42).symm.trans hf
        cases hf
        exact ((k (show ¬ (1 : Nat) = 0 by decide)).1 rfl) H locs ls hP hD hS (lv_sub hl [3] rfl)
theorem lp_X10_watch_53_h23 {N : Nat} {n : Nat} {x1 : Int32} {x2 : Int32} {x3 : Int32} {σ : Sg} {z : Nat × Int32 × Sg} (C : Cx p s m args meth c cX10_watch 4 (some .int) RX10 g A X) (hz : it (fun q => s_X10_watch_53_h23 N x1 x2 q.1 q.2) n (x3, σ) = some z) (k : ((z.1 = 1 → Bk cw p l e rm_X10_watch_53 s m args below meth c 4 g A Q 0 0 45 [(3, .int z.2.1)] [] z.2.2) ∧ (¬ z.1 = 1 → Bk cw p l e rm_X10_watch_53 s m args below meth c 4 g A Q 0 0 53 [(0, .ref (g.2.2 53)), (1, .int x1), (2, .int x2)] [] z.2.2))) : Bk cw p l e rm_X10_watch_53 s m args below meth c 4 g A Q 0 0 23 [(0, .ref (g.2.2 53)), (1, .int x1), (2, .int x2), (3, .int x3)] [] σ :=
  it_W (S := Int32 × Sg) (fun q => Bk cw p l e rm_X10_watch_53 s m args below meth c 4 g A Q 0 0 23 [(0, .ref (g.2.2 53)), (1, .int x1), (2, .int x2), (3, .int q.1)] [] q.2) (fun z => ((z.1 = 1 → Bk cw p l e rm_X10_watch_53 s m args below meth c 4 g A Q 0 0 45 [(3, .int z.2.1)] [] z.2.2) ∧ (¬ z.1 = 1 → Bk cw p l e rm_X10_watch_53 s m args below meth c 4 g A Q 0 0 53 [(0, .ref (g.2.2 53)), (1, .int x1), (2, .int x2)] [] z.2.2))) (fun q z hq k0 k => e_X10_watch_53_h23 C hq k0 k) n (x3, σ) z hz k
def s_X10_watch_53_h10 (N : Nat) (x1 : Int32) (x2 : Int32) (x3 : Int32) (σ : Sg) : Option (Nat × Int32 × Int32 × Sg) :=
if (σ 12 0) < x2 then (some (2, 0, 0, σ))
else ((it (fun q => s_X10_watch_53_h23 N x1 x2 q.1 q.2) N ((0 : Int32), σ)).bind fun z4 =>
if z4.1 = 1 then (some (1, 0, (z4.2.1), (z4.2.2)))
else (bd (x2 + (1 : Int32)) fun v5 =>
some (0, v5, 0, (z4.2.2))))
set_option maxHeartbeats 4000000 in
set_option maxRecDepth 100000 in
theorem e_X10_watch_53_h10 {N : Nat} {x1 : Int32} {x2 : Int32} {x3 : Int32} {σ : Sg} {z : Nat × Int32 × Int32 × Sg} (C : Cx p s m args meth c cX10_watch 4 (some .int) RX10 g A X) (hf : s_X10_watch_53_h10 N x1 x2 x3 σ = some z) (k0 : z.1 = 0 → Bk cw p l e rm_X10_watch_53 s m args below meth c 4 g A Q 0 0 10 [(0, .ref (g.2.2 53)), (1, .int x1), (2, .int z.2.1)] [] z.2.2.2) (k : ¬ z.1 = 0 → ((z.1 = 1 → Bk cw p l e rm_X10_watch_53 s m args below meth c 4 g A Q 0 0 45 [(3, .int z.2.2.1)] [] z.2.2.2) ∧ (¬ z.1 = 1 → Bk cw p l e rm_X10_watch_53 s m args below meth c 4 g A Q 0 0 59 [(1, .int x1)] [] z.2.2.2))) : Bk cw p l e rm_X10_watch_53 s m args below meth c 4 g A Q 0 0 10 [(0, .ref (g.2.2 53)), (1, .int x1), (2, .int x2)] [] σ := by
  obtain ⟨hx, hb, hr, hml, hown, hts, hK, hlocks, hXX, hA, hXo⟩ := id C
  intro H locs ls hP hD hS hl
  unfold s_X10_watch_53_h10 at hf
  refine lv_iload_n hx hb dX10_watch_10 rfl (lv_at hl 2 rfl) ?_
  refine lv_aload_n hx hb dX10_watch_11 rfl (lv_at hl 0 rfl) ?_
  refine bk_get (wf := cw) (q0 := 53) (ci := 9) (k := 0) (v := .ref (g.2.2 12)) C hP wl_X10 rfl rfl (by decide) wa_138 rfl rfl dX10_watch_12 ?_
  refine bk_get (wf := cw) (q0 := 12) (ci := 8) (k := 0) (v := .int (σ 12 0)) C hP wl_X9 rfl rfl (by decide) wa_671 rfl rfl dX10_watch_15 ?_
  refine lv_icmp_gt (tgt := 59) hx hb dX10_watch_18 (by decide) (fun t18 => ?_) (fun t18 => ?_)
  · have hf := (if_pos t18).symm.trans hf
    cases hf
    exact ((k (show ¬ (2 : Nat) = 0 by decide)).2 (show ¬ (2 : Nat) = 1 by decide)) H locs ls hP hD hS (lv_sub hl [1] rfl)
  · have hf := (if_neg t18).symm.trans hf
    refine lv_iconst (v := (0 : Int32)) hx hb dX10_watch_21 (by decide) ?_
    refine lv_istore_n (lv' := [(3, .int (0 : Int32)), (0, .ref (g.2.2 53)), (1, .int x1), (2, .int x2)]) hx hb dX10_watch_22 rfl hl (by decide) rfl (fun ls hl => ?_)
    obtain ⟨z4, hz4, hf⟩ := bi_s hf
    refine lp_X10_watch_53_h23 C hz4 ⟨fun t0 => ?_, fun t0 => ?_⟩ H locs ls hP hD hS (lv_sub hl [1, 2, 3, 0] rfl)
    · have hf := (if_pos t0).symm.trans hf
      intro H locs ls hP hD hS hl
      cases hf
      exact ((k (show ¬ (1 : Nat) = 0 by decide)).1 rfl) H locs ls hP hD hS (lv_sub hl [0] rfl)
    · have hf := (if_neg t0).symm.trans hf
      intro H locs ls hP hD hS hl
      obtain ⟨v5, ev5, hf⟩ := bd_s hf
      refine lv_iinc (v := v5) (lv' := [(2, .int v5), (0, .ref (g.2.2 53)), (1, .int x1)]) hx hb dX10_watch_53 hl (k := 2) rfl (by rw [ev5]; rfl) (by decide) rfl (fun ls hl => ?_)
      refine lv_goto (tgt := 10) hx hb dX10_watch_56 (by decide) ?_
      cases hf
      exact k0 rfl H locs ls hP hD hS (lv_sub hl [1, 2, 0] rfl)
theorem lp_X10_watch_53_h10 {N : Nat} {n : Nat} {x1 : Int32} {x2 : Int32} {x3 : Int32} {σ : Sg} {z : Nat × Int32 × Int32 × Sg} (C : Cx p s m args meth c cX10_watch 4 (some .int) RX10 g A X) (hz : it (fun q => s_X10_watch_53_h10 N x1 q.1 q.2.1 q.2.2) n (x2, x3, σ) = some z) (k : ((z.1 = 1 → Bk cw p l e rm_X10_watch_53 s m args below meth c 4 g A Q 0 0 45 [(3, .int z.2.2.1)] [] z.2.2.2) ∧ (¬ z.1 = 1 → Bk cw p l e rm_X10_watch_53 s m args below meth c 4 g A Q 0 0 59 [(1, .int x1)] [] z.2.2.2))) : Bk cw p l e rm_X10_watch_53 s m args below meth c 4 g A Q 0 0 10 [(0, .ref (g.2.2 53)), (1, .int x1), (2, .int x2)] [] σ :=
  it_W (S := Int32 × Int32 × Sg) (fun q => Bk cw p l e rm_X10_watch_53 s m args below meth c 4 g A Q 0 0 10 [(0, .ref (g.2.2 53)), (1, .int x1), (2, .int q.1)] [] q.2.2) (fun z => ((z.1 = 1 → Bk cw p l e rm_X10_watch_53 s m args below meth c 4 g A Q 0 0 45 [(3, .int z.2.2.1)] [] z.2.2.2) ∧ (¬ z.1 = 1 → Bk cw p l e rm_X10_watch_53 s m args below meth c 4 g A Q 0 0 59 [(1, .int x1)] [] z.2.2.2))) (fun q z hq k0 k => e_X10_watch_53_h10 C hq k0 k) n (x2, x3, σ) z hz k
def f_X10_watch_53 (N : Nat) (σ : Sg) : Option (Int32 × Sg) :=
(f_X9_all_12 N σ).bind fun q6 =>
bd q6.1 fun v7 =>
(it (fun q => s_X10_watch_53_h10 N v7 q.1 q.2.1 q.2.2) N ((0 : Int32), (0 : Int32), (q6.2))).bind fun z8 =>
if z8.1 = 1 then (some ((z8.2.2.1), (z8.2.2.2)))
else (some (v7, (z8.2.2.2)))
set_option maxHeartbeats 4000000 in
set_option maxRecDepth 100000 in
theorem b_X10_watch_53 {N : Nat} {σ : Sg} {z : Int32 × Sg} (C : Cx p s m args meth c cX10_watch 4 (some .int) RX10 g A X) (hf : f_X10_watch_53 N σ = some z) : Bk cw p l e rm_X10_watch_53 s m args below meth c 4 g A (MQ below (qI cw g A z.1 z.2) args s 0 0 A) 0 0 0 [(0, .ref (g.2.2 53))] [] σ := by
  obtain ⟨hx, hb, hr, hml, hown, hts, hK, hlocks, hXX, hA, hXo⟩ := id C
  intro H locs ls hP hD hS hl
  unfold f_X10_watch_53 at hf
  refine lv_aload_n hx hb dX10_watch_0 rfl (lv_at hl 0 rfl) ?_
  refine bk_get (wf := cw) (q0 := 53) (ci := 9) (k := 0) (v := .ref (g.2.2 12)) C hP wl_X10 rfl rfl (by decide) wa_138 rfl rfl dX10_watch_1 ?_
  obtain ⟨q6, hq6, hf⟩ := bi_s hf
  refine bk_VI (wf := cw) (q0 := 12) (ci := 8) (rest := []) [] C hP hD hS hl.1 (c_X9_all_12 hXo hq6) (cwA_V 0 hts wa_695 wa_692 wa_693 wa_694 wa_22 rfl rfl nd_X9_all ⟨Nat.le_of_ble_eq_true rfl, Nat.le_of_ble_eq_true rfl⟩) rfl rfl rfl rfl (Nat.le_of_ble_eq_true rfl) dX10_watch_4 ⟨Nat.le_of_ble_eq_true rfl, Nat.le_of_ble_eq_true rfl⟩ (fun H locs hP hD hS => ?_)
  obtain ⟨v7, ev7, hf⟩ := bd_s hf
  rw [← ev7]
  refine lv_istore_n (lv' := [(1, .int v7), (0, .ref (g.2.2 53))]) hx hb dX10_watch_7 rfl hl (by decide) rfl (fun ls hl => ?_)
  refine lv_iconst (v := (0 : Int32)) hx hb dX10_watch_8 (by decide) ?_
  refine lv_istore_n (lv' := [(2, .int (0 : Int32)), (1, .int v7), (0, .ref (g.2.2 53))]) hx hb dX10_watch_9 rfl hl (by decide) rfl (fun ls hl => ?_)
  obtain ⟨z8, hz8, hf⟩ := bi_s hf
  refine lp_X10_watch_53_h10 C hz8 ⟨fun t0 => ?_, fun t0 => ?_⟩ H locs ls hP hD hS (lv_sub hl [2, 1, 0] rfl)
  · have hf := (if_pos t0).symm.trans hf
    intro H locs ls hP hD hS hl
    refine lv_iload_n hx hb dX10_watch_45 rfl (lv_at hl 0 rfl) ?_
    cases hf
    exact bk_iret C hP hD hS rfl dX10_watch_46
  · have hf := (if_neg t0).symm.trans hf
    intro H locs ls hP hD hS hl
    refine lv_iload_n hx hb dX10_watch_59 rfl (lv_at hl 0 rfl) ?_
    cases hf
    exact bk_iret C hP hD hS rfl dX10_watch_60
theorem c_X10_watch_53 {N : Nat} {σ : Sg} {z : Int32 × Sg} (hX : xOK g X) (hf : f_X10_watch_53 N σ = some z) : MetI l yX10_watch (Cond.code yX10_watch cX10_watch 4 (some .int) :: wsA) rm_X10_watch_53 cw g X [.ref (g.2.2 53)] σ z.1 z.2 :=
  MetI_of hX (by decide) (Nat.le_of_ble_eq_true rfl) (fun p e s m args below meth c A C => b_X10_watch_53 C hf)
-- X10_stare_53: stare()I
abbrev rm_X10_stare_53 : Room := { frames := 2, cells := 0, slots := 0, locals := 46 }
theorem nd_X10_stare : yX10_stare.cls ≠ "java/lang/invoke/MethodHandle" ∧ yX10_stare.cls ≠ "java/lang/invoke/VarHandle" ∧ (parseMethodDescriptor yX10_stare.desc).map (fun d => d.parameters.length) = some 0 := by decide +kernel
def f_X10_stare_53_b82 (N : Nat) (x1 : Int32) (x2 : Int32) (x3 : Int32) (x4 : Int32) (σ : Sg) : Option (Nat × Int32 × Int32 × Int32 × Sg) :=
bd (x4 + (1 : Int32)) fun v1 =>
some (0, x1, x2, v1, σ)
set_option maxHeartbeats 4000000 in
set_option maxRecDepth 100000 in
theorem b_X10_stare_53_b82 {N : Nat} {x1 : Int32} {x2 : Int32} {x3 : Int32} {x4 : Int32} {σ : Sg} {z : Nat × Int32 × Int32 × Int32 × Sg} (C : Cx p s m args meth c cX10_stare 5 (some .int) RX10 g A X) (hf : f_X10_stare_53_b82 N x1 x2 x3 x4 σ = some z) (k0 : z.1 = 0 → Bk cw p l e rm_X10_stare_53 s m args below meth c 5 g A Q 0 0 22 [(0, .ref (g.2.2 53)), (1, .int z.2.1), (2, .int z.2.2.1), (3, .int x3), (4, .int z.2.2.2.1)] [] z.2.2.2.2) (k : ¬ z.1 = 0 → Bk cw p l e rm_X10_stare_53 s m args below meth c 5 g A Q 0 0 88 [(0, .ref (g.2.2 53)), (1, .int z.2.1), (2, .int z.2.2.1), (3, .int x3)] [] z.2.2.2.2) : Bk cw p l e rm_X10_stare_53 s m args below meth c 5 g A Q 0 0 82 [(0, .ref (g.2.2 53)), (1, .int x1), (2, .int x2), (3, .int x3), (4, .int x4)] [] σ := by
  obtain ⟨hx, hb, hr, hml, hown, hts, hK, hlocks, hXX, hA, hXo⟩ := id C
  intro H locs ls hP hD hS hl
  unfold f_X10_stare_53_b82 at hf
  obtain ⟨v1, ev1, hf⟩ := bd_s hf
  refine lv_iinc (v := v1) (lv' := [(4, .int v1), (0, .ref (g.2.2 53)), (1, .int x1), (2, .int x2), (3, .int x3)]) hx hb dX10_stare_82 hl (k := 4) rfl (by rw [ev1]; rfl) (by decide) rfl (fun ls hl => ?_)
  refine lv_goto (tgt := 22) hx hb dX10_stare_85 (by decide) ?_
  cases hf
  exact k0 rfl H locs ls hP hD hS (lv_sub hl [1, 2, 3, 4, 0] rfl)
def s_X10_stare_53_h22 (N : Nat) (x3 : Int32) (x1 : Int32) (x2 : Int32) (x4 : Int32) (σ : Sg) : Option (Nat × Int32 × Int32 × Int32 × Sg) :=
if (σ 12 0) ≤ x4 then (some (1, x1, x2, 0, σ))
else (if (x3 < 0 ∨ 9 ≤ x3.toNatClampNeg) then none else
if (((σ 54 x3.toNatClampNeg) >>> (x4 &&& 31)) &&& (1 : Int32)) = (1 : Int32) then ((f_X9_away_12 N x3 x4 σ).bind fun q3 =>
if q3.1 ≤ x1 then (f_X10_stare_53_b82 N x1 x2 x3 x4 (q3.2))
else ((f_X9_away_12 N x3 x4 (q3.2)).bind fun q4 =>
bd q4.1 fun v5 =>
bd (((10 : Int32) * x3) + x4) fun v6 =>
f_X10_stare_53_b82 N v5 v6 x3 x4 (q4.2)))
else (f_X10_stare_53_b82 N x1 x2 x3 x4 σ))
set_option maxHeartbeats 4000000 in
set_option maxRecDepth 100000 in
theorem e_X10_stare_53_h22 {N : Nat} {x3 : Int32} {x1 : Int32} {x2 : Int32} {x4 : Int32} {σ : Sg} {z : Nat × Int32 × Int32 × Int32 × Sg} (C : Cx p s m args meth c cX10_stare 5 (some .int) RX10 g A X) (hf : s_X10_stare_53_h22 N x3 x1 x2 x4 σ = some z) (k0 : z.1 = 0 → Bk cw p l e rm_X10_stare_53 s m args below meth c 5 g A Q 0 0 22 [(0, .ref (g.2.2 53)), (1, .int z.2.1), (2, .int z.2.2.1), (3, .int x3), (4, .int z.2.2.2.1)] [] z.2.2.2.2) (k : ¬ z.1 = 0 → Bk cw p l e rm_X10_stare_53 s m args below meth c 5 g A Q 0 0 88 [(0, .ref (g.2.2 53)), (1, .int z.2.1), (2, .int z.2.2.1), (3, .int x3)] [] z.2.2.2.2) : Bk cw p l e rm_X10_stare_53 s m args below meth c 5 g A Q 0 0 22 [(0, .ref (g.2.2 53)), (1, .int x1), (2, .int x2), (3, .int x3), (4, .int x4)] [] σ := by
  obtain ⟨hx, hb, hr, hml, hown, hts, hK, hlocks, hXX, hA, hXo⟩ := id C
  intro H locs ls hP hD hS hl
  unfold s_X10_stare_53_h22 at hf
  refine lv_iload hx hb dX10_stare_22 (lv_at hl 4 rfl) ?_
  refine lv_aload_n hx hb dX10_stare_24 rfl (lv_at hl 0 rfl) ?_
  refine bk_get (wf := cw) (q0 := 53) (ci := 9) (k := 0) (v := .ref (g.2.2 12)) C hP wl_X10 rfl rfl (by decide) wa_138 rfl rfl dX10_stare_25 ?_
  refine bk_get (wf := cw) (q0 := 12) (ci := 8) (k := 0) (v := .int (σ 12 0)) C hP wl_X9 rfl rfl (by decide) wa_671 rfl rfl dX10_stare_28 ?_
  refine lv_icmp_ge (tgt := 88) hx hb dX10_stare_31 (by decide) (fun t31 => ?_) (fun t31 => ?_)
  · have hf := (if_pos t31).symm.trans hf
    cases hf
    exact (k (show ¬ (1 : Nat) = 0 by decide)) H locs ls hP hD hS (lv_sub hl [0, 1, 2, 3] rfl)
  · have hf := (if_neg t31).symm.trans hf
    refine lv_aload_n hx hb dX10_stare_34 rfl (lv_at hl 0 rfl) ?_
    refine bk_get (wf := cw) (q0 := 53) (ci := 9) (k := 1) (v := .ref (g.2.2 54)) C hP wl_X10 rfl rfl (by decide) wa_137 rfl rfl dX10_stare_35 ?_
    refine lv_iload_n hx hb dX10_stare_38 rfl (lv_at hl 3 rfl) ?_
    obtain ⟨g2, hf⟩ := gd_s hf
    refine bk_iald (wf := cw) (q0 := 54) (n := 9) (j := x3.toNatClampNeg) C hP rfl g2 rfl dX10_stare_39 ?_
    refine lv_iload hx hb dX10_stare_40 (lv_at hl 4 rfl) ?_
    refine lv_ishr hx hb dX10_stare_42 ?_
    refine lv_iconst (v := (1 : Int32)) hx hb dX10_stare_43 (by decide) ?_
    refine lv_iand hx hb dX10_stare_44 ?_
    refine lv_iconst (v := (1 : Int32)) hx hb dX10_stare_45 (by decide) ?_
    refine lv_icmp_ne (tgt := 82) hx hb dX10_stare_46 (by decide) (fun t46 => ?_) (fun t46 => ?_)
    · have hf := (if_neg t46).symm.trans hf
      exact b_X10_stare_53_b82 C hf k0 k H locs ls hP hD hS (lv_sub hl [0, 1, 2, 3, 4] rfl)
    · have hf := (if_pos t46).symm.trans hf
      refine lv_aload_n hx hb dX10_stare_49 rfl (lv_at hl 0 rfl) ?_
      refine bk_get (wf := cw) (q0 := 53) (ci := 9) (k := 0) (v := .ref (g.2.2 12)) C hP wl_X10 rfl rfl (by decide) wa_138 rfl rfl dX10_stare_50 ?_
      refine lv_iload_n hx hb dX10_stare_53 rfl (lv_at hl 3 rfl) ?_
      refine lv_iload hx hb dX10_stare_54 (lv_at hl 4 rfl) ?_
      obtain ⟨q3, hq3, hf⟩ := bi_s hf
      refine bk_VI (wf := cw) (q0 := 12) (ci := 8) (rest := []) [.int x3, .int x4] C hP hD hS hl.1 (c_X9_away_12 hXo hq3) (cwA_V 2 hts wa_496 wa_707 wa_494 wa_495 wa_22 rfl rfl nd_X9_away ⟨Nat.le_of_ble_eq_true rfl, Nat.le_of_ble_eq_true rfl⟩) rfl rfl rfl rfl (Nat.le_of_ble_eq_true rfl) dX10_stare_56 ⟨Nat.le_of_ble_eq_true rfl, Nat.le_of_ble_eq_true rfl⟩ (fun H locs hP hD hS => ?_)
      refine lv_iload_n hx hb dX10_stare_59 rfl (lv_at hl 1 rfl) ?_
      refine lv_icmp_le (tgt := 82) hx hb dX10_stare_60 (by decide) (fun t60 => ?_) (fun t60 => ?_)
      · have hf := (if_pos t60).symm.trans hf
        exact b_X10_stare_53_b82 C hf k0 k H locs ls hP hD hS (lv_sub hl [0, 1, 2, 3, 4] rfl)
      · have hf := (if_neg t60).symm.trans hf
        refine lv_aload_n hx hb dX10_stare_63 rfl (lv_at hl 0 rfl) ?_
        refine bk_get (wf := cw) (q0 := 53) (ci := 9) (k := 0) (v := .ref (g.2.2 12)) C hP wl_X10 rfl rfl (by decide) wa_138 rfl rfl dX10_stare_64 ?_
        refine lv_iload_n hx hb dX10_stare_67 rfl (lv_at hl 3 rfl) ?_
        refine lv_iload hx hb dX10_stare_68 (lv_at hl 4 rfl) ?_
        obtain ⟨q4, hq4, hf⟩ := bi_s hf
        refine bk_VI (wf := cw) (q0 := 12) (ci := 8) (rest := []) [.int x3, .int x4] C hP hD hS hl.1 (c_X9_away_12 hXo hq4) (cwA_V 2 hts wa_496 wa_707 wa_494 wa_495 wa_22 rfl rfl nd_X9_away ⟨Nat.le_of_ble_eq_true rfl, Nat.le_of_ble_eq_true rfl⟩) rfl rfl rfl rfl (Nat.le_of_ble_eq_true rfl) dX10_stare_70 ⟨Nat.le_of_ble_eq_true rfl, Nat.le_of_ble_eq_true rfl⟩ (fun H locs hP hD hS => ?_)
        obtain ⟨v5, ev5, hf⟩ := bd_s hf
        rw [← ev5]
        refine lv_istore_n (lv' := [(1, .int v5), (0, .ref (g.2.2 53)), (2, .int x2), (3, .int x3), (4, .int x4)]) hx hb dX10_stare_73 rfl hl (by decide) rfl (fun ls hl => ?_)
        refine lv_bipush (v := (10 : Int32)) hx hb dX10_stare_74 (by decide) ?_
        refine lv_iload_n hx hb dX10_stare_76 rfl (lv_at hl 3 rfl) ?_
        refine lv_imul hx hb dX10_stare_77 ?_
        refine lv_iload hx hb dX10_stare_78 (lv_at hl 4 rfl) ?_
        refine lv_iadd hx hb dX10_stare_80 ?_
        obtain ⟨v6, ev6, hf⟩ := bd_s hf
        rw [← ev6]
        refine lv_istore_n (lv' := [(2, .int v6), (1, .int v5), (0, .ref (g.2.2 53)), (3, .int x3), (4, .int x4)]) hx hb dX10_stare_81 rfl hl (by decide) rfl (fun ls hl => ?_)
        exact b_X10_stare_53_b82 C hf k0 k H locs ls hP hD hS (lv_sub hl [2, 1, 0, 3, 4] rfl)
theorem lp_X10_stare_53_h22 {N : Nat} {n : Nat} {x3 : Int32} {x1 : Int32} {x2 : Int32} {x4 : Int32} {σ : Sg} {z : Nat × Int32 × Int32 × Int32 × Sg} (C : Cx p s m args meth c cX10_stare 5 (some .int) RX10 g A X) (hz : it (fun q => s_X10_stare_53_h22 N x3 q.1 q.2.1 q.2.2.1 q.2.2.2) n (x1, x2, x4, σ) = some z) (k : Bk cw p l e rm_X10_stare_53 s m args below meth c 5 g A Q 0 0 88 [(0, .ref (g.2.2 53)), (1, .int z.2.1), (2, .int z.2.2.1), (3, .int x3)] [] z.2.2.2.2) : Bk cw p l e rm_X10_stare_53 s m args below meth c 5 g A Q 0 0 22 [(0, .ref (g.2.2 53)), (1, .int x1), (2, .int x2), (3, .int x3), (4, .int x4)] [] σ :=
  it_W (S := Int32 × Int32 × Int32 × Sg) (fun q => Bk cw p l e rm_X10_stare_53 s m args below meth c 5 g A Q 0 0 22 [(0, .ref (g.2.2 53)), (1, .int q.1), (2, .int q.2.1), (3, .int x3), (4, .int q.2.2.1)] [] q.2.2.2) (fun z => Bk cw p l e rm_X10_stare_53 s m args below meth c 5 g A Q 0 0 88 [(0, .ref (g.2.2 53)), (1, .int z.2.1), (2, .int z.2.2.1), (3, .int x3)] [] z.2.2.2.2) (fun q z hq k0 k => e_X10_stare_53_h22 C hq k0 k) n (x1, x2, x4, σ) z hz k
def s_X10_stare_53_h6 (N : Nat) (x1 : Int32) (x2 : Int32) (x3 : Int32) (σ : Sg) : Option (Nat × Int32 × Int32 × Int32 × Sg) :=
if (σ 12 0) ≤ x3 then (some (1, 0, x2, 0, σ))
else (bd (x3 + (1 : Int32)) fun v7 =>
(it (fun q => s_X10_stare_53_h22 N x3 q.1 q.2.1 q.2.2.1 q.2.2.2) N (x1, x2, v7, σ)).bind fun z8 =>
bd (x3 + (1 : Int32)) fun v9 =>
some (0, (z8.2.1), (z8.2.2.1), v9, (z8.2.2.2.2)))
set_option maxHeartbeats 4000000 in
set_option maxRecDepth 100000 in
theorem e_X10_stare_53_h6 {N : Nat} {x1 : Int32} {x2 : Int32} {x3 : Int32} {σ : Sg} {z : Nat × Int32 × Int32 × Int32 × Sg} (C : Cx p s m args meth c cX10_stare 5 (some .int) RX10 g A X) (hf : s_X10_stare_53_h6 N x1 x2 x3 σ = some z) (k0 : z.1 = 0 → Bk cw p l e rm_X10_stare_53 s m args below meth c 5 g A Q 0 0 6 [(0, .ref (g.2.2 53)), (1, .int z.2.1), (2, .int z.2.2.1), (3, .int z.2.2.2.1)] [] z.2.2.2.2) (k : ¬ z.1 = 0 → Bk cw p l e rm_X10_stare_53 s m args below meth c 5 g A Q 0 0 94 [(2, .int z.2.2.1)] [] z.2.2.2.2) : Bk cw p l e rm_X10_stare_53 s m args below meth c 5 g A Q 0 0 6 [(0, .ref (g.2.2 53)), (1, .int x1), (2, .int x2), (3, .int x3)] [] σ := by
  obtain ⟨hx, hb, hr, hml, hown, hts, hK, hlocks, hXX, hA, hXo⟩ := id C
  intro H locs ls hP hD hS hl
  unfold s_X10_stare_53_h6 at hf
  refine lv_iload_n hx hb dX10_stare_6 rfl (lv_at hl 3 rfl) ?_
  refine lv_aload_n hx hb dX10_stare_7 rfl (lv_at hl 0 rfl) ?_
  refine bk_get (wf := cw) (q0 := 53) (ci := 9) (k := 0) (v := .ref (g.2.2 12)) C hP wl_X10 rfl rfl (by decide) wa_138 rfl rfl dX10_stare_8 ?_
  refine bk_get (wf := cw) (q0 := 12) (ci := 8) (k := 0) (v := .int (σ 12 0)) C hP wl_X9 rfl rfl (by decide) wa_671 rfl rfl dX10_stare_11 ?_
  refine lv_icmp_ge (tgt := 94) hx hb dX10_stare_14 (by decide) (fun t14 => ?_) (fun t14 => ?_)
  · have hf := (if_pos t14).symm.trans hf
    cases hf
    exact (k (show ¬ (1 : Nat) = 0 by decide)) H locs ls hP hD hS (lv_sub hl [2] rfl)
  · have hf := (if_neg t14).symm.trans hf
    refine lv_iload_n hx hb dX10_stare_17 rfl (lv_at hl 3 rfl) ?_
    refine lv_iconst (v := (1 : Int32)) hx hb dX10_stare_18 (by decide) ?_
    refine lv_iadd hx hb dX10_stare_19 ?_
    obtain ⟨v7, ev7, hf⟩ := bd_s hf
    rw [← ev7]
    refine lv_istore (lv' := [(4, .int v7), (0, .ref (g.2.2 53)), (1, .int x1), (2, .int x2), (3, .int x3)]) hx hb dX10_stare_20 hl (by decide) rfl (fun ls hl => ?_)
    obtain ⟨z8, hz8, hf⟩ := bi_s hf
    refine lp_X10_stare_53_h22 C hz8 ?_ H locs ls hP hD hS (lv_sub hl [1, 2, 3, 4, 0] rfl)
    intro H locs ls hP hD hS hl
    obtain ⟨v9, ev9, hf⟩ := bd_s hf
    refine lv_iinc (v := v9) (lv' := [(3, .int v9), (0, .ref (g.2.2 53)), (1, .int (z8.2.1)), (2, .int (z8.2.2.1))]) hx hb dX10_stare_88 hl (k := 3) rfl (by rw [ev9]; rfl) (by decide) rfl (fun ls hl => ?_)
    refine lv_goto (tgt := 6) hx hb dX10_stare_91 (by decide) ?_
    cases hf
    exact k0 rfl H locs ls hP hD hS (lv_sub hl [1, 2, 3, 0] rfl)
theorem lp_X10_stare_53_h6 {N : Nat} {n : Nat} {x1 : Int32} {x2 : Int32} {x3 : Int32} {σ : Sg} {z : Nat × Int32 × Int32 × Int32 × Sg} (C : Cx p s m args meth c cX10_stare 5 (some .int) RX10 g A X) (hz : it (fun q => s_X10_stare_53_h6 N q.1 q.2.1 q.2.2.1 q.2.2.2) n (x1, x2, x3, σ) = some z) (k : Bk cw p l e rm_X10_stare_53 s m args below meth c 5 g A Q 0 0 94 [(2, .int z.2.2.1)] [] z.2.2.2.2) : Bk cw p l e rm_X10_stare_53 s m args below meth c 5 g A Q 0 0 6 [(0, .ref (g.2.2 53)), (1, .int x1), (2, .int x2), (3, .int x3)] [] σ :=
  it_W (S := Int32 × Int32 × Int32 × Sg) (fun q => Bk cw p l e rm_X10_stare_53 s m args below meth c 5 g A Q 0 0 6 [(0, .ref (g.2.2 53)), (1, .int q.1), (2, .int q.2.1), (3, .int q.2.2.1)] [] q.2.2.2) (fun z => Bk cw p l e rm_X10_stare_53 s m args below meth c 5 g A Q 0 0 94 [(2, .int z.2.2.1)] [] z.2.2.2.2) (fun q z hq k0 k => e_X10_stare_53_h6 C hq k0 k) n (x1, x2, x3, σ) z hz k
def f_X10_stare_53 (N : Nat) (σ : Sg) : Option (Int32 × Sg) :=
(it (fun q => s_X10_stare_53_h6 N q.1 q.2.1 q.2.2.1 q.2.2.2) N ((0 : Int32), (-1 : Int32), (0 : Int32), σ)).bind fun z10 =>
some ((z10.2.2.1), (z10.2.2.2.2))
set_option maxHeartbeats 4000000 in
set_option maxRecDepth 100000 in
theorem b_X10_stare_53 {N : Nat} {σ : Sg} {z : Int32 × Sg} (C : Cx p s m args meth c cX10_stare 5 (some .int) RX10 g A X) (hf : f_X10_stare_53 N σ = some z) : Bk cw p l e rm_X10_stare_53 s m args below meth c 5 g A (MQ below (qI cw g A z.1 z.2) args s 0 0 A) 0 0 0 [(0, .ref (g.2.2 53))] [] σ := by
  obtain ⟨hx, hb, hr, hml, hown, hts, hK, hlocks, hXX, hA, hXo⟩ := id C
  intro H locs ls hP hD hS hl
  unfold f_X10_stare_53 at hf
  refine lv_iconst (v := (0 : Int32)) hx hb dX10_stare_0 (by decide) ?_
  refine lv_istore_n (lv' := [(1, .int (0 : Int32)), (0, .ref (g.2.2 53))]) hx hb dX10_stare_1 rfl hl (by decide) rfl (fun ls hl => ?_)
  refine lv_iconst (v := (-1 : Int32)) hx hb dX10_stare_2 (by decide) ?_
  refine lv_istore_n (lv' := [(2, .int (-1 : Int32)), (1, .int (0 : Int32)), (0, .ref (g.2.2 53))]) hx hb dX10_stare_3 rfl hl (by decide) rfl (fun ls hl => ?_)
  refine lv_iconst (v := (0 : Int32)) hx hb dX10_stare_4 (by decide) ?_
  refine lv_istore_n (lv' := [(3, .int (0 : Int32)), (2, .int (-1 : Int32)), (1, .int (0 : Int32)), (0, .ref (g.2.2 53))]) hx hb dX10_stare_5 rfl hl (by decide) rfl (fun ls hl => ?_)
  obtain ⟨z10, hz10, hf⟩ := bi_s hf
  refine lp_X10_stare_53_h6 C hz10 ?_ H locs ls hP hD hS (lv_sub hl [3, 2, 1, 0] rfl)
  intro H locs ls hP hD hS hl
  refine lv_iload_n hx hb dX10_stare_94 rfl (lv_at hl 0 rfl) ?_
  cases hf
  exact bk_iret C hP hD hS rfl dX10_stare_95
theorem c_X10_stare_53 {N : Nat} {σ : Sg} {z : Int32 × Sg} (hX : xOK g X) (hf : f_X10_stare_53 N σ = some z) : MetI l yX10_stare (Cond.code yX10_stare cX10_stare 5 (some .int) :: wsA) rm_X10_stare_53 cw g X [.ref (g.2.2 53)] σ z.1 z.2 :=
  MetI_of hX (by decide) (Nat.le_of_ble_eq_true rfl) (fun p e s m args below meth c A C => b_X10_stare_53 C hf)
-- X11_count_0: count(I)I
abbrev rm_X11_count_0 : Room := { frames := 6, cells := 1, slots := 6, locals := 90 }
theorem nd_X11_count : yX11_count.cls ≠ "java/lang/invoke/MethodHandle" ∧ yX11_count.cls ≠ "java/lang/invoke/VarHandle" ∧ (parseMethodDescriptor yX11_count.desc).map (fun d => d.parameters.length) = some 1 := by decide +kernel
def f_X11_count_0 (N : Nat) (x1 : Int32) (σ : Sg) : Option (Zt) :=
if ((x1).toInt < 0 ∨ 15 < (x1).toInt) then (some (1, 0, σ))
else if x1 = (0 : Int32) then (some (0, (σ 12 0), σ))
else if x1 = (1 : Int32) then (some (0, (σ 22 0), σ))
else if x1 = (2 : Int32) then ((f_X11_mistNow_0 N σ).bind fun q1 =>
some (0, q1.1, (q1.2)))
else if x1 = (3 : Int32) then (some (0, (σ 12 6), σ))
else if x1 = (4 : Int32) then (some (0, (σ 12 7), σ))
else if x1 = (5 : Int32) then (some (0, (σ 22 1), σ))
else if x1 = (6 : Int32) then ((f_X7_whoWaits_22 N σ).bind fun q2 =>
some (0, q2.1, (q2.2)))
else if x1 = (7 : Int32) then ((f_X11_viewsNow_0 N σ).bind fun q3 =>
(f_X10_parts_53 N q3).bind fun q4 =>
some (0, q4.1, (q4.2)))
else if x1 = (8 : Int32) then ((f_X11_viewsNow_0 N σ).bind fun q5 =>
(f_X10_watch_53 N q5).bind fun q6 =>
some (0, q6.1, (q6.2)))
else if x1 = (9 : Int32) then ((f_X11_viewsNow_0 N σ).bind fun q7 =>
(f_X10_stare_53 N q7).bind fun q8 =>
some (0, q8.1, (q8.2)))
else if x1 = (10 : Int32) then (some (0, (σ 27 0), σ))
else if x1 = (11 : Int32) then (some (0, (σ 29 0), σ))
else if x1 = (12 : Int32) then (some (0, (σ 0 1), σ))
else if x1 = (13 : Int32) then (some (0, (σ 33 0), σ))
else if x1 = (14 : Int32) then (some (0, (σ 33 1), σ))
else if x1 = (15 : Int32) then (some (0, (σ 33 2), σ))
else none
set_option maxHeartbeats 4000000 in
set_option maxRecDepth 100000 in
theorem b_X11_count_0 {N : Nat} {x1 : Int32} {σ : Sg} {z : Zt} (C : Cx p s m args meth c cX11_count 2 (some .int) RX11 g A X) (hex : ∀ x ∈ c.exceptionTable.toList, False) (hst : l.stackTraces = false) (hf : f_X11_count_0 N x1 σ = some z) : Bk cw p l e rm_X11_count_0 s m args below meth c 2 g A (vx_MQ below (qTi cw g A z) (xT cw g A z) args s 1 6 A) 0 0 0 [(0, .ref (g.2.2 0)), (1, .int x1)] [] σ := by
  obtain ⟨hx, hb, hr, hml, hown, hts, hK, hlocks, hXX, hA, hXo⟩ := id C
  intro H locs ls hP hD hS hl
  unfold f_X11_count_0 at hf
  refine lv_iload_n hx hb dX11_count_0 rfl (lv_at hl 1 rfl) ?_
  by_cases t1 : ((x1).toInt < 0 ∨ 15 < (x1).toInt)
  · have hf := (if_pos t1).symm.trans hf
    refine lv_tableOut (tgt := 223) hx hb dX11_count_1 t1 (by decide) ?_
    exact bk_thN (text := "no such count") C hex hst hP hD hS hl.1 (by decide) dX11_count_223 dX11_count_226 dX11_count_227 dX11_count_229 dX11_count_232 (Nat.le_of_ble_eq_true rfl) (Nat.le_of_ble_eq_true rfl) (Nat.le_of_ble_eq_true rfl) (Nat.le_of_ble_eq_true rfl) hf (Nat.le_of_ble_eq_true rfl) (Nat.le_of_ble_eq_true rfl)
  · have hf := (if_neg t1).symm.trans hf
    have t1l := fun q => t1 (Or.inl q)
    have t1h := fun q => t1 (Or.inr q)
    by_cases u1_0 : x1 = (0 : Int32)
    · have hf := (if_pos u1_0).symm.trans hf
      refine lv_tableIn (off := 79) (tgt := 80) hx hb dX11_count_1 t1l t1h (by rw [u1_0]; rfl) (by decide) ?_
      refine lv_aload_n hx hb dX11_count_80 rfl (lv_at hl 0 rfl) ?_
      refine bk_get (wf := cw) (q0 := 0) (ci := 10) (k := 3) (v := .ref (g.2.2 12)) C hP wl_X11 rfl rfl (by decide) wa_23 rfl rfl dX11_count_81 ?_
      refine bk_get (wf := cw) (q0 := 12) (ci := 8) (k := 0) (v := .int (σ 12 0)) C hP wl_X9 rfl rfl (by decide) wa_644 rfl rfl dX11_count_84 ?_
      exact bk_iretT C hP hD hS hf (Nat.le_of_ble_eq_true rfl) (Nat.le_of_ble_eq_true rfl) dX11_count_87
    · have hf := (if_neg u1_0).symm.trans hf
      by_cases u1_1 : x1 = (1 : Int32)
      · have hf := (if_pos u1_1).symm.trans hf
        refine lv_tableIn (off := 87) (tgt := 88) hx hb dX11_count_1 t1l t1h (by rw [u1_1]; rfl) (by decide) ?_
        refine lv_aload_n hx hb dX11_count_88 rfl (lv_at hl 0 rfl) ?_
        refine bk_get (wf := cw) (q0 := 0) (ci := 10) (k := 4) (v := .ref (g.2.2 21)) C hP wl_X11 rfl rfl (by decide) wa_27 rfl rfl dX11_count_89 ?_
        refine bk_get (wf := cw) (q0 := 21) (ci := 1) (k := 0) (v := .ref (g.2.2 22)) C hP wl_X1 rfl rfl (by decide) wa_221 rfl rfl dX11_count_92 ?_
        refine bk_get (wf := cw) (q0 := 22) (ci := 7) (k := 0) (v := .int (σ 22 0)) C hP wl_X7 rfl rfl (by decide) wa_645 rfl rfl dX11_count_95 ?_
        exact bk_iretT C hP hD hS hf (Nat.le_of_ble_eq_true rfl) (Nat.le_of_ble_eq_true rfl) dX11_count_98
      · have hf := (if_neg u1_1).symm.trans hf
        by_cases u1_2 : x1 = (2 : Int32)
        · have hf := (if_pos u1_2).symm.trans hf
          refine lv_tableIn (off := 98) (tgt := 99) hx hb dX11_count_1 t1l t1h (by rw [u1_2]; rfl) (by decide) ?_
          refine lv_aload_n hx hb dX11_count_99 rfl (lv_at hl 0 rfl) ?_
          obtain ⟨q1, hq1, hf⟩ := bi_s hf
          refine bk_VI (wf := cw) (q0 := 0) (ci := 10) (rest := []) [] C hP hD hS hl.1 (c_X11_mistNow_0 hXo hq1) (cwA_V 0 hts wa_654 wa_651 wa_652 wa_653 wa_2 rfl rfl nd_X11_mistNow ⟨Nat.le_of_ble_eq_true rfl, Nat.le_of_ble_eq_true rfl⟩) rfl rfl rfl rfl (Nat.le_of_ble_eq_true rfl) dX11_count_100 ⟨Nat.le_of_ble_eq_true rfl, Nat.le_of_ble_eq_true rfl⟩ (fun H locs hP hD hS => ?_)
          exact bk_iretT C hP hD hS hf (Nat.le_of_ble_eq_true rfl) (Nat.le_of_ble_eq_true rfl) dX11_count_103
        · have hf := (if_neg u1_2).symm.trans hf
          by_cases u1_3 : x1 = (3 : Int32)
          · have hf := (if_pos u1_3).symm.trans hf
            refine lv_tableIn (off := 103) (tgt := 104) hx hb dX11_count_1 t1l t1h (by rw [u1_3]; rfl) (by decide) ?_
            refine lv_aload_n hx hb dX11_count_104 rfl (lv_at hl 0 rfl) ?_
            refine bk_get (wf := cw) (q0 := 0) (ci := 10) (k := 3) (v := .ref (g.2.2 12)) C hP wl_X11 rfl rfl (by decide) wa_23 rfl rfl dX11_count_105 ?_
            refine bk_get (wf := cw) (q0 := 12) (ci := 8) (k := 6) (v := .int (σ 12 6)) C hP wl_X9 rfl rfl (by decide) wa_646 rfl rfl dX11_count_108 ?_
            exact bk_iretT C hP hD hS hf (Nat.le_of_ble_eq_true rfl) (Nat.le_of_ble_eq_true rfl) dX11_count_111
          · have hf := (if_neg u1_3).symm.trans hf
            by_cases u1_4 : x1 = (4 : Int32)
            · have hf := (if_pos u1_4).symm.trans hf
              refine lv_tableIn (off := 111) (tgt := 112) hx hb dX11_count_1 t1l t1h (by rw [u1_4]; rfl) (by decide) ?_
              refine lv_aload_n hx hb dX11_count_112 rfl (lv_at hl 0 rfl) ?_
              refine bk_get (wf := cw) (q0 := 0) (ci := 10) (k := 3) (v := .ref (g.2.2 12)) C hP wl_X11 rfl rfl (by decide) wa_23 rfl rfl dX11_count_113 ?_
              refine bk_get (wf := cw) (q0 := 12) (ci := 8) (k := 7) (v := .int (σ 12 7)) C hP wl_X9 rfl rfl (by decide) wa_647 rfl rfl dX11_count_116 ?_
              exact bk_iretT C hP hD hS hf (Nat.le_of_ble_eq_true rfl) (Nat.le_of_ble_eq_true rfl) dX11_count_119
            · have hf := (if_neg u1_4).symm.trans hf
              by_cases u1_5 : x1 = (5 : Int32)
              · have hf := (if_pos u1_5).symm.trans hf
                refine lv_tableIn (off := 119) (tgt := 120) hx hb dX11_count_1 t1l t1h (by rw [u1_5]; rfl) (by decide) ?_
                refine lv_aload_n hx hb dX11_count_120 rfl (lv_at hl 0 rfl) ?_
                refine bk_get (wf := cw) (q0 := 0) (ci := 10) (k := 4) (v := .ref (g.2.2 21)) C hP wl_X11 rfl rfl (by decide) wa_27 rfl rfl dX11_count_121 ?_
                refine bk_get (wf := cw) (q0 := 21) (ci := 1) (k := 0) (v := .ref (g.2.2 22)) C hP wl_X1 rfl rfl (by decide) wa_221 rfl rfl dX11_count_124 ?_
                refine bk_get (wf := cw) (q0 := 22) (ci := 7) (k := 1) (v := .int (σ 22 1)) C hP wl_X7 rfl rfl (by decide) wa_648 rfl rfl dX11_count_127 ?_
                exact bk_iretT C hP hD hS hf (Nat.le_of_ble_eq_true rfl) (Nat.le_of_ble_eq_true rfl) dX11_count_130
              · have hf := (if_neg u1_5).symm.trans hf
                by_cases u1_6 : x1 = (6 : Int32)
                · have hf := (if_pos u1_6).symm.trans hf
                  refine lv_tableIn (off := 130) (tgt := 131) hx hb dX11_count_1 t1l t1h (by rw [u1_6]; rfl) (by decide) ?_
                  refine lv_aload_n hx hb dX11_count_131 rfl (lv_at hl 0 rfl) ?_
                  refine bk_get (wf := cw) (q0 := 0) (ci := 10) (k := 4) (v := .ref (g.2.2 21)) C hP wl_X11 rfl rfl (by decide) wa_27 rfl rfl dX11_count_132 ?_
                  refine bk_get (wf := cw) (q0 := 21) (ci := 1) (k := 0) (v := .ref (g.2.2 22)) C hP wl_X1 rfl rfl (by decide) wa_221 rfl rfl dX11_count_135 ?_
                  obtain ⟨q2, hq2, hf⟩ := bi_s hf
                  refine bk_VI (wf := cw) (q0 := 22) (ci := 7) (rest := []) [] C hP hD hS hl.1 (c_X7_whoWaits_22 hXo hq2) (cwA_V 0 hts wa_662 wa_659 wa_660 wa_661 wa_93 rfl rfl nd_X7_whoWaits ⟨Nat.le_of_ble_eq_true rfl, Nat.le_of_ble_eq_true rfl⟩) rfl rfl rfl rfl (Nat.le_of_ble_eq_true rfl) dX11_count_138 ⟨Nat.le_of_ble_eq_true rfl, Nat.le_of_ble_eq_true rfl⟩ (fun H locs hP hD hS => ?_)
                  exact bk_iretT C hP hD hS hf (Nat.le_of_ble_eq_true rfl) (Nat.le_of_ble_eq_true rfl) dX11_count_141
                · have hf := (if_neg u1_6).symm.trans hf
                  by_cases u1_7 : x1 = (7 : Int32)
                  · have hf := (if_pos u1_7).symm.trans hf
                    refine lv_tableIn (off := 141) (tgt := 142) hx hb dX11_count_1 t1l t1h (by rw [u1_7]; rfl) (by decide) ?_
                    refine lv_aload_n hx hb dX11_count_142 rfl (lv_at hl 0 rfl) ?_
                    obtain ⟨q3, hq3, hf⟩ := bi_s hf
                    refine bk_VR (wf := cw) (q0 := 0) (ci := 10) (rest := []) [] C hP hD hS hl.1 (c_X11_viewsNow_0 hXo hq3) (cwA_V 0 hts wa_666 wa_663 wa_664 wa_665 wa_2 rfl rfl nd_X11_viewsNow ⟨Nat.le_of_ble_eq_true rfl, Nat.le_of_ble_eq_true rfl⟩) rfl rfl rfl rfl (Nat.le_of_ble_eq_true rfl) dX11_count_143 ⟨Nat.le_of_ble_eq_true rfl, Nat.le_of_ble_eq_true rfl⟩ (fun H locs hP hD hS => ?_)
                    obtain ⟨q4, hq4, hf⟩ := bi_s hf
                    refine bk_VI (wf := cw) (q0 := 53) (ci := 9) (rest := []) [] C hP hD hS hl.1 (c_X10_parts_53 hXo hq4) (cwA_V 0 hts wa_679 wa_676 wa_677 wa_678 wa_37 rfl rfl nd_X10_parts ⟨Nat.le_of_ble_eq_true rfl, Nat.le_of_ble_eq_true rfl⟩) rfl rfl rfl rfl (Nat.le_of_ble_eq_true rfl) dX11_count_146 ⟨Nat.le_of_ble_eq_true rfl, Nat.le_of_ble_eq_true rfl⟩ (fun H locs hP hD hS => ?_)
                    exact bk_iretT C hP hD hS hf (Nat.le_of_ble_eq_true rfl) (Nat.le_of_ble_eq_true rfl) dX11_count_149
                  · have hf := (if_neg u1_7).symm.trans hf
                    by_cases u1_8 : x1 = (8 : Int32)
                    · have hf := (if_pos u1_8).symm.trans hf
                      refine lv_tableIn (off := 149) (tgt := 150) hx hb dX11_count_1 t1l t1h (by rw [u1_8]; rfl) (by decide) ?_
                      refine lv_aload_n hx hb dX11_count_150 rfl (lv_at hl 0 rfl) ?_
                      obtain ⟨q5, hq5, hf⟩ := bi_s hf
                      refine bk_VR (wf := cw) (q0 := 0) (ci := 10) (rest := []) [] C hP hD hS hl.1 (c_X11_viewsNow_0 hXo hq5) (cwA_V 0 hts wa_666 wa_663 wa_664 wa_665 wa_2 rfl rfl nd_X11_viewsNow ⟨Nat.le_of_ble_eq_true rfl, Nat.le_of_ble_eq_true rfl⟩) rfl rfl rfl rfl (Nat.le_of_ble_eq_true rfl) dX11_count_151 ⟨Nat.le_of_ble_eq_true rfl, Nat.le_of_ble_eq_true rfl⟩ (fun H locs hP hD hS => ?_)
                      obtain ⟨q6, hq6, hf⟩ := bi_s hf
                      refine bk_VI (wf := cw) (q0 := 53) (ci := 9) (rest := []) [] C hP hD hS hl.1 (c_X10_watch_53 hXo hq6) (cwA_V 0 hts wa_691 wa_688 wa_689 wa_690 wa_37 rfl rfl nd_X10_watch ⟨Nat.le_of_ble_eq_true rfl, Nat.le_of_ble_eq_true rfl⟩) rfl rfl rfl rfl (Nat.le_of_ble_eq_true rfl) dX11_count_154 ⟨Nat.le_of_ble_eq_true rfl, Nat.le_of_ble_eq_true rfl⟩ (fun H locs hP hD hS => ?_)
                      exact bk_iretT C hP hD hS hf (Nat.le_of_ble_eq_true rfl) (Nat.le_of_ble_eq_true rfl) dX11_count_157
                    · have hf := (if_neg u1_8).symm.trans hf
                      by_cases u1_9 : x1 = (9 : Int32)
                      · have hf := (if_pos u1_9).symm.trans hf
                        refine lv_tableIn (off := 157) (tgt := 158) hx hb dX11_count_1 t1l t1h (by rw [u1_9]; rfl) (by decide) ?_
                        refine lv_aload_n hx hb dX11_count_158 rfl (lv_at hl 0 rfl) ?_
                        obtain ⟨q7, hq7, hf⟩ := bi_s hf
                        refine bk_VR (wf := cw) (q0 := 0) (ci := 10) (rest := []) [] C hP hD hS hl.1 (c_X11_viewsNow_0 hXo hq7) (cwA_V 0 hts wa_666 wa_663 wa_664 wa_665 wa_2 rfl rfl nd_X11_viewsNow ⟨Nat.le_of_ble_eq_true rfl, Nat.le_of_ble_eq_true rfl⟩) rfl rfl rfl rfl (Nat.le_of_ble_eq_true rfl) dX11_count_159 ⟨Nat.le_of_ble_eq_true rfl, Nat.le_of_ble_eq_true rfl⟩ (fun H locs hP hD hS => ?_)
                        obtain ⟨q8, hq8, hf⟩ := bi_s hf
                        refine bk_VI (wf := cw) (q0 := 53) (ci := 9) (rest := []) [] C hP hD hS hl.1 (c_X10_stare_53 hXo hq8) (cwA_V 0 hts wa_706 wa_703 wa_704 wa_705 wa_37 rfl rfl nd_X10_stare ⟨Nat.le_of_ble_eq_true rfl, Nat.le_of_ble_eq_true rfl⟩) rfl rfl rfl rfl (Nat.le_of_ble_eq_true rfl) dX11_count_162 ⟨Nat.le_of_ble_eq_true rfl, Nat.le_of_ble_eq_true rfl⟩ (fun H locs hP hD hS => ?_)
                        exact bk_iretT C hP hD hS hf (Nat.le_of_ble_eq_true rfl) (Nat.le_of_ble_eq_true rfl) dX11_count_165
                      · have hf := (if_neg u1_9).symm.trans hf
                        by_cases u1_10 : x1 = (10 : Int32)
                        · have hf := (if_pos u1_10).symm.trans hf
                          refine lv_tableIn (off := 165) (tgt := 166) hx hb dX11_count_1 t1l t1h (by rw [u1_10]; rfl) (by decide) ?_
                          refine lv_aload_n hx hb dX11_count_166 rfl (lv_at hl 0 rfl) ?_
                          refine bk_get (wf := cw) (q0 := 0) (ci := 10) (k := 4) (v := .ref (g.2.2 21)) C hP wl_X11 rfl rfl (by decide) wa_27 rfl rfl dX11_count_167 ?_
                          refine bk_get (wf := cw) (q0 := 21) (ci := 1) (k := 1) (v := .ref (g.2.2 27)) C hP wl_X1 rfl rfl (by decide) wa_222 rfl rfl dX11_count_170 ?_
                          refine bk_get (wf := cw) (q0 := 27) (ci := 0) (k := 0) (v := .int (σ 27 0)) C hP wl_X0 rfl rfl (by decide) wa_649 rfl rfl dX11_count_173 ?_
                          exact bk_iretT C hP hD hS hf (Nat.le_of_ble_eq_true rfl) (Nat.le_of_ble_eq_true rfl) dX11_count_176
                        · have hf := (if_neg u1_10).symm.trans hf
                          by_cases u1_11 : x1 = (11 : Int32)
                          · have hf := (if_pos u1_11).symm.trans hf
                            refine lv_tableIn (off := 176) (tgt := 177) hx hb dX11_count_1 t1l t1h (by rw [u1_11]; rfl) (by decide) ?_
                            refine lv_aload_n hx hb dX11_count_177 rfl (lv_at hl 0 rfl) ?_
                            refine bk_get (wf := cw) (q0 := 0) (ci := 10) (k := 4) (v := .ref (g.2.2 21)) C hP wl_X11 rfl rfl (by decide) wa_27 rfl rfl dX11_count_178 ?_
                            refine bk_get (wf := cw) (q0 := 21) (ci := 1) (k := 2) (v := .ref (g.2.2 29)) C hP wl_X1 rfl rfl (by decide) wa_223 rfl rfl dX11_count_181 ?_
                            refine bk_get (wf := cw) (q0 := 29) (ci := 5) (k := 0) (v := .int (σ 29 0)) C hP wl_X5 rfl rfl (by decide) wa_650 rfl rfl dX11_count_184 ?_
                            exact bk_iretT C hP hD hS hf (Nat.le_of_ble_eq_true rfl) (Nat.le_of_ble_eq_true rfl) dX11_count_187
                          · have hf := (if_neg u1_11).symm.trans hf
                            by_cases u1_12 : x1 = (12 : Int32)
                            · have hf := (if_pos u1_12).symm.trans hf
                              refine lv_tableIn (off := 187) (tgt := 188) hx hb dX11_count_1 t1l t1h (by rw [u1_12]; rfl) (by decide) ?_
                              refine lv_aload_n hx hb dX11_count_188 rfl (lv_at hl 0 rfl) ?_
                              refine bk_get (wf := cw) (q0 := 0) (ci := 10) (k := 1) (v := .int (σ 0 1)) C hP wl_X11 rfl rfl (by decide) wa_15 rfl rfl dX11_count_189 ?_
                              exact bk_iretT C hP hD hS hf (Nat.le_of_ble_eq_true rfl) (Nat.le_of_ble_eq_true rfl) dX11_count_192
                            · have hf := (if_neg u1_12).symm.trans hf
                              by_cases u1_13 : x1 = (13 : Int32)
                              · have hf := (if_pos u1_13).symm.trans hf
                                refine lv_tableIn (off := 192) (tgt := 193) hx hb dX11_count_1 t1l t1h (by rw [u1_13]; rfl) (by decide) ?_
                                refine lv_aload_n hx hb dX11_count_193 rfl (lv_at hl 0 rfl) ?_
                                refine bk_get (wf := cw) (q0 := 0) (ci := 10) (k := 4) (v := .ref (g.2.2 21)) C hP wl_X11 rfl rfl (by decide) wa_27 rfl rfl dX11_count_194 ?_
                                refine bk_get (wf := cw) (q0 := 21) (ci := 1) (k := 3) (v := .ref (g.2.2 33)) C hP wl_X1 rfl rfl (by decide) wa_218 rfl rfl dX11_count_197 ?_
                                refine lv_iconst (v := (0 : Int32)) hx hb dX11_count_200 (by decide) ?_
                                refine bk_iald (wf := cw) (q0 := 33) (n := 3) (j := 0) C hP rfl (vin_l (by decide) (by decide)) (by decide) dX11_count_201 ?_
                                exact bk_iretT C hP hD hS hf (Nat.le_of_ble_eq_true rfl) (Nat.le_of_ble_eq_true rfl) dX11_count_202
                              · have hf := (if_neg u1_13).symm.trans hf
                                by_cases u1_14 : x1 = (14 : Int32)
                                · have hf := (if_pos u1_14).symm.trans hf
                                  refine lv_tableIn (off := 202) (tgt := 203) hx hb dX11_count_1 t1l t1h (by rw [u1_14]; rfl) (by decide) ?_
                                  refine lv_aload_n hx hb dX11_count_203 rfl (lv_at hl 0 rfl) ?_
                                  refine bk_get (wf := cw) (q0 := 0) (ci := 10) (k := 4) (v := .ref (g.2.2 21)) C hP wl_X11 rfl rfl (by decide) wa_27 rfl rfl dX11_count_204 ?_
                                  refine bk_get (wf := cw) (q0 := 21) (ci := 1) (k := 3) (v := .ref (g.2.2 33)) C hP wl_X1 rfl rfl (by decide) wa_218 rfl rfl dX11_count_207 ?_
                                  refine lv_iconst (v := (1 : Int32)) hx hb dX11_count_210 (by decide) ?_
                                  refine bk_iald (wf := cw) (q0 := 33) (n := 3) (j := 1) C hP rfl (vin_l (by decide) (by decide)) (by decide) dX11_count_211 ?_
                                  exact bk_iretT C hP hD hS hf (Nat.le_of_ble_eq_true rfl) (Nat.le_of_ble_eq_true rfl) dX11_count_212
                                · have hf := (if_neg u1_14).symm.trans hf
                                  by_cases u1_15 : x1 = (15 : Int32)
                                  · have hf := (if_pos u1_15).symm.trans hf
                                    refine lv_tableIn (off := 212) (tgt := 213) hx hb dX11_count_1 t1l t1h (by rw [u1_15]; rfl) (by decide) ?_
                                    refine lv_aload_n hx hb dX11_count_213 rfl (lv_at hl 0 rfl) ?_
                                    refine bk_get (wf := cw) (q0 := 0) (ci := 10) (k := 4) (v := .ref (g.2.2 21)) C hP wl_X11 rfl rfl (by decide) wa_27 rfl rfl dX11_count_214 ?_
                                    refine bk_get (wf := cw) (q0 := 21) (ci := 1) (k := 3) (v := .ref (g.2.2 33)) C hP wl_X1 rfl rfl (by decide) wa_218 rfl rfl dX11_count_217 ?_
                                    refine lv_iconst (v := (2 : Int32)) hx hb dX11_count_220 (by decide) ?_
                                    refine bk_iald (wf := cw) (q0 := 33) (n := 3) (j := 2) C hP rfl (vin_l (by decide) (by decide)) (by decide) dX11_count_221 ?_
                                    exact bk_iretT C hP hD hS hf (Nat.le_of_ble_eq_true rfl) (Nat.le_of_ble_eq_true rfl) dX11_count_222
                                  · have hf := (if_neg u1_15).symm.trans hf
                                    cases hf
theorem c_X11_count_0 {N : Nat} {x1 : Int32} {σ : Sg} {z : Zt} (hX : xOK g X) (hst : l.stackTraces = false) (hf : f_X11_count_0 N x1 σ = some z) : MetTi l yX11_count (Cond.code yX11_count cX11_count 2 (some .int) :: wsA) rm_X11_count_0 1 6 cw g X [.ref (g.2.2 0), .int x1] σ z :=
  MetTi_of hX (by decide) (Nat.le_of_ble_eq_true rfl) (fun p e s m args below meth c A C hex => b_X11_count_0 C hex hst hf)
-- X11_needFarm_0: needFarm(I)V
abbrev rm_X11_needFarm_0 : Room := { frames := 6, cells := 1, slots := 6, locals := 90 }
theorem nd_X11_needFarm : yX11_needFarm.cls ≠ "java/lang/invoke/MethodHandle" ∧ yX11_needFarm.cls ≠ "java/lang/invoke/VarHandle" ∧ (parseMethodDescriptor yX11_needFarm.desc).map (fun d => d.parameters.length) = some 1 := by decide +kernel
def f_X11_needFarm_0_b21 (N : Nat) (σ : Sg) : Option (Zt) :=
some (1, 0, σ)
set_option maxHeartbeats 4000000 in
set_option maxRecDepth 100000 in
theorem b_X11_needFarm_0_b21 {N : Nat} {σ : Sg} {z : Zt} (C : Cx p s m args meth c cX11_needFarm 2 none RX11 g A X) (hex : ∀ x ∈ c.exceptionTable.toList, False) (hst : l.stackTraces = false) (hf : f_X11_needFarm_0_b21 N σ = some z) : Bk cw p l e rm_X11_needFarm_0 s m args below meth c 2 g A (vx_MQ below (qTv cw g A z) (xT cw g A z) args s 1 6 A) 0 0 21 [] [] σ := by
  obtain ⟨hx, hb, hr, hml, hown, hts, hK, hlocks, hXX, hA, hXo⟩ := id C
  intro H locs ls hP hD hS hl
  unfold f_X11_needFarm_0_b21 at hf
  exact bk_thN (text := "no such farm") C hex hst hP hD hS hl.1 (by decide) dX11_needFarm_21 dX11_needFarm_24 dX11_needFarm_25 dX11_needFarm_27 dX11_needFarm_30 (Nat.le_of_ble_eq_true rfl) (Nat.le_of_ble_eq_true rfl) (Nat.le_of_ble_eq_true rfl) (Nat.le_of_ble_eq_true rfl) hf (Nat.le_of_ble_eq_true rfl) (Nat.le_of_ble_eq_true rfl)
def f_X11_needFarm_0 (N : Nat) (x1 : Int32) (σ : Sg) : Option (Zt) :=
if x1 < 0 then (f_X11_needFarm_0_b21 N σ)
else (if (σ 12 0) ≤ x1 then (f_X11_needFarm_0_b21 N σ)
else (if x1 < (9 : Int32) then (some (0, 0, σ))
else (f_X11_needFarm_0_b21 N σ)))
set_option maxHeartbeats 4000000 in
set_option maxRecDepth 100000 in
theorem b_X11_needFarm_0 {N : Nat} {x1 : Int32} {σ : Sg} {z : Zt} (C : Cx p s m args meth c cX11_needFarm 2 none RX11 g A X) (hex : ∀ x ∈ c.exceptionTable.toList, False) (hst : l.stackTraces = false) (hf : f_X11_needFarm_0 N x1 σ = some z) : Bk cw p l e rm_X11_needFarm_0 s m args below meth c 2 g A (vx_MQ below (qTv cw g A z) (xT cw g A z) args s 1 6 A) 0 0 0 [(0, .ref (g.2.2 0)), (1, .int x1)] [] σ := by
  obtain ⟨hx, hb, hr, hml, hown, hts, hK, hlocks, hXX, hA, hXo⟩ := id C
  intro H locs ls hP hD hS hl
  unfold f_X11_needFarm_0 at hf
  refine lv_iload_n hx hb dX11_needFarm_0 rfl (lv_at hl 1 rfl) ?_
  refine lv_if_lt (tgt := 21) hx hb dX11_needFarm_1 (by decide) (fun t1 => ?_) (fun t1 => ?_)
  · have hf := (if_pos t1).symm.trans hf
    exact b_X11_needFarm_0_b21 C hex hst hf H locs ls hP hD hS (lv_sub hl [] rfl)
  · have hf := (if_neg t1).symm.trans hf
    refine lv_iload_n hx hb dX11_needFarm_4 rfl (lv_at hl 1 rfl) ?_
    refine lv_aload_n hx hb dX11_needFarm_5 rfl (lv_at hl 0 rfl) ?_
    refine bk_get (wf := cw) (q0 := 0) (ci := 10) (k := 3) (v := .ref (g.2.2 12)) C hP wl_X11 rfl rfl (by decide) wa_23 rfl rfl dX11_needFarm_6 ?_
    refine bk_get (wf := cw) (q0 := 12) (ci := 8) (k := 0) (v := .int (σ 12 0)) C hP wl_X9 rfl rfl (by decide) wa_644 rfl rfl dX11_needFarm_9 ?_
    refine lv_icmp_ge (tgt := 21) hx hb dX11_needFarm_12 (by decide) (fun t12 => ?_) (fun t12 => ?_)
    · have hf := (if_pos t12).symm.trans hf
      exact b_X11_needFarm_0_b21 C hex hst hf H locs ls hP hD hS (lv_sub hl [] rfl)
    · have hf := (if_neg t12).symm.trans hf
      refine lv_iload_n hx hb dX11_needFarm_15 rfl (lv_at hl 1 rfl) ?_
      refine lv_bipush (v := (9 : Int32)) hx hb dX11_needFarm_16 (by decide) ?_
      refine lv_icmp_lt (tgt := 31) hx hb dX11_needFarm_18 (by decide) (fun t18 => ?_) (fun t18 => ?_)
      · have hf := (if_pos t18).symm.trans hf
        exact bk_vretT C hP hD hS hf (Nat.le_of_ble_eq_true rfl) (Nat.le_of_ble_eq_true rfl) dX11_needFarm_31
      · have hf := (if_neg t18).symm.trans hf
        exact b_X11_needFarm_0_b21 C hex hst hf H locs ls hP hD hS (lv_sub hl [] rfl)
theorem c_X11_needFarm_0 {N : Nat} {x1 : Int32} {σ : Sg} {z : Zt} (hX : xOK g X) (hst : l.stackTraces = false) (hf : f_X11_needFarm_0 N x1 σ = some z) : MetTv l yX11_needFarm (Cond.code yX11_needFarm cX11_needFarm 2 none :: wsA) rm_X11_needFarm_0 1 6 cw g X [.ref (g.2.2 0), .int x1] σ z :=
  MetTv_of hX (by decide) (Nat.le_of_ble_eq_true rfl) (fun p e s m args below meth c A C hex => b_X11_needFarm_0 C hex hst hf)
-- X11_farm_0: farm(II)I
abbrev rm_X11_farm_0 : Room := { frames := 7, cells := 2, slots := 12, locals := 111 }
theorem nd_X11_farm : yX11_farm.cls ≠ "java/lang/invoke/MethodHandle" ∧ yX11_farm.cls ≠ "java/lang/invoke/VarHandle" ∧ (parseMethodDescriptor yX11_farm.desc).map (fun d => d.parameters.length) = some 2 := by decide +kernel
def f_X11_farm_0 (N : Nat) (x1 : Int32) (x2 : Int32) (σ : Sg) : Option (Zt) :=
(f_X11_needFarm_0 N x1 σ).bind fun q1 =>
if q1.1 = 0 then (if ((x2).toInt < 0 ∨ 9 < (x2).toInt) then (some (1, 0, (q1.2.2)))
else if x2 = (0 : Int32) then (if (x1 < 0 ∨ 9 ≤ x1.toNatClampNeg) then none else
some (0, ((q1.2.2) 13 x1.toNatClampNeg), (q1.2.2)))
else if x2 = (1 : Int32) then (if (x1 < 0 ∨ 9 ≤ x1.toNatClampNeg) then none else
some (0, ((q1.2.2) 14 x1.toNatClampNeg), (q1.2.2)))
else if x2 = (2 : Int32) then (if (x1 < 0 ∨ 9 ≤ x1.toNatClampNeg) then none else
some (0, ((q1.2.2) 26 x1.toNatClampNeg), (q1.2.2)))
else if x2 = (3 : Int32) then (if (x1 < 0 ∨ 9 ≤ x1.toNatClampNeg) then none else
some (0, ((q1.2.2) 16 x1.toNatClampNeg), (q1.2.2)))
else if x2 = (4 : Int32) then (if (x1 < 0 ∨ 9 ≤ x1.toNatClampNeg) then none else
some (0, ((q1.2.2) 23 x1.toNatClampNeg), (q1.2.2)))
else if x2 = (5 : Int32) then (if (x1 < 0 ∨ 9 ≤ x1.toNatClampNeg) then none else
some (0, ((q1.2.2) 24 x1.toNatClampNeg), (q1.2.2)))
else if x2 = (6 : Int32) then (if (x1 < 0 ∨ 9 ≤ x1.toNatClampNeg) then none else
some (0, ((q1.2.2) 25 x1.toNatClampNeg), (q1.2.2)))
else if x2 = (7 : Int32) then (some (0, ((((q1.2.2) 22 1) >>> (x1 &&& 31)) &&& (1 : Int32)), (q1.2.2)))
else if x2 = (8 : Int32) then (some (0, ((((q1.2.2) 12 5) >>> (x1 &&& 31)) &&& (1 : Int32)), (q1.2.2)))
else if x2 = (9 : Int32) then ((f_X11_mistNow_0 N (q1.2.2)).bind fun q9 =>
(f_X6_of_47 N x1 q9.1 (q9.2)).bind fun q10 =>
some (0, q10.1, (q10.2)))
else none)
else some (q1.1, 0, q1.2.2)
set_option maxHeartbeats 4000000 in
set_option maxRecDepth 100000 in
theorem b_X11_farm_0 {N : Nat} {x1 : Int32} {x2 : Int32} {σ : Sg} {z : Zt} (C : Cx p s m args meth c cX11_farm 4 (some .int) RX11 g A X) (hex : ∀ x ∈ c.exceptionTable.toList, False) (hst : l.stackTraces = false) (hf : f_X11_farm_0 N x1 x2 σ = some z) : Bk cw p l e rm_X11_farm_0 s m args below meth c 4 g A (vx_MQ below (qTi cw g A z) (xT cw g A z) args s 2 12 A) 0 0 0 [(0, .ref (g.2.2 0)), (1, .int x1), (2, .int x2)] [] σ := by
  obtain ⟨hx, hb, hr, hml, hown, hts, hK, hlocks, hXX, hA, hXo⟩ := id C
  intro H locs ls hP hD hS hl
  unfold f_X11_farm_0 at hf
  refine lv_aload_n hx hb dX11_farm_0 rfl (lv_at hl 0 rfl) ?_
  refine lv_iload_n hx hb dX11_farm_1 rfl (lv_at hl 1 rfl) ?_
  obtain ⟨q1, hq1, hf⟩ := bi_s hf
  refine bk_TV (wf := cw) (q0 := 0) (ci := 10) (rest := []) [.int x1] C hex hP hD hS hl.1 (c_X11_needFarm_0 hXo hst hq1) (cwA_V 1 hts wa_791 wa_788 wa_789 wa_790 wa_2 rfl rfl nd_X11_needFarm ⟨Nat.le_of_ble_eq_true rfl, Nat.le_of_ble_eq_true rfl⟩) rfl rfl rfl rfl (Nat.le_of_ble_eq_true rfl) dX11_farm_2 ⟨Nat.le_of_ble_eq_true rfl, Nat.le_of_ble_eq_true rfl⟩ ⟨Nat.le_of_ble_eq_true rfl, Nat.le_of_ble_eq_true rfl⟩ (fun h0 => by have hf := (if_neg h0).symm.trans hf; cases hf; exact ⟨rfl, rfl⟩) (fun h0 H locs hP hD hS => ?_)
  have hf := (if_pos h0).symm.trans hf
  refine lv_aload_n hx hb dX11_farm_5 rfl (lv_at hl 0 rfl) ?_
  refine bk_get (wf := cw) (q0 := 0) (ci := 10) (k := 4) (v := .ref (g.2.2 21)) C hP wl_X11 rfl rfl (by decide) wa_27 rfl rfl dX11_farm_6 ?_
  refine bk_get (wf := cw) (q0 := 21) (ci := 1) (k := 0) (v := .ref (g.2.2 22)) C hP wl_X1 rfl rfl (by decide) wa_221 rfl rfl dX11_farm_9 ?_
  refine lv_astore_n (lv' := [(3, .ref (g.2.2 22)), (0, .ref (g.2.2 0)), (1, .int x1), (2, .int x2)]) hx hb dX11_farm_12 rfl hl (by decide) rfl (fun ls hl => ?_)
  refine lv_iload_n hx hb dX11_farm_13 rfl (lv_at hl 3 rfl) ?_
  by_cases t14 : ((x2).toInt < 0 ∨ 9 < (x2).toInt)
  · have hf := (if_pos t14).symm.trans hf
    refine lv_tableOut (tgt := 160) hx hb dX11_farm_14 t14 (by decide) ?_
    exact bk_thN (text := "no such value of a farm") C hex hst hP hD hS hl.1 (by decide) dX11_farm_160 dX11_farm_163 dX11_farm_164 dX11_farm_166 dX11_farm_169 (Nat.le_of_ble_eq_true rfl) (Nat.le_of_ble_eq_true rfl) (Nat.le_of_ble_eq_true rfl) (Nat.le_of_ble_eq_true rfl) hf (Nat.le_of_ble_eq_true rfl) (Nat.le_of_ble_eq_true rfl)
  · have hf := (if_neg t14).symm.trans hf
    have t14l := fun q => t14 (Or.inl q)
    have t14h := fun q => t14 (Or.inr q)
    by_cases u14_0 : x2 = (0 : Int32)
    · have hf := (if_pos u14_0).symm.trans hf
      refine lv_tableIn (off := 54) (tgt := 68) hx hb dX11_farm_14 t14l t14h (by rw [u14_0]; rfl) (by decide) ?_
      refine lv_aload_n hx hb dX11_farm_68 rfl (lv_at hl 1 rfl) ?_
      refine bk_get (wf := cw) (q0 := 0) (ci := 10) (k := 3) (v := .ref (g.2.2 12)) C hP wl_X11 rfl rfl (by decide) wa_23 rfl rfl dX11_farm_69 ?_
      refine bk_get (wf := cw) (q0 := 12) (ci := 8) (k := 1) (v := .ref (g.2.2 13)) C hP wl_X9 rfl rfl (by decide) wa_781 rfl rfl dX11_farm_72 ?_
      refine lv_iload_n hx hb dX11_farm_75 rfl (lv_at hl 2 rfl) ?_
      obtain ⟨g2, hf⟩ := gd_s hf
      refine bk_iald (wf := cw) (q0 := 13) (n := 9) (j := x1.toNatClampNeg) C hP rfl g2 rfl dX11_farm_76 ?_
      exact bk_iretT C hP hD hS hf (Nat.le_of_ble_eq_true rfl) (Nat.le_of_ble_eq_true rfl) dX11_farm_77
    · have hf := (if_neg u14_0).symm.trans hf
      by_cases u14_1 : x2 = (1 : Int32)
      · have hf := (if_pos u14_1).symm.trans hf
        refine lv_tableIn (off := 64) (tgt := 78) hx hb dX11_farm_14 t14l t14h (by rw [u14_1]; rfl) (by decide) ?_
        refine lv_aload_n hx hb dX11_farm_78 rfl (lv_at hl 1 rfl) ?_
        refine bk_get (wf := cw) (q0 := 0) (ci := 10) (k := 3) (v := .ref (g.2.2 12)) C hP wl_X11 rfl rfl (by decide) wa_23 rfl rfl dX11_farm_79 ?_
        refine bk_get (wf := cw) (q0 := 12) (ci := 8) (k := 2) (v := .ref (g.2.2 14)) C hP wl_X9 rfl rfl (by decide) wa_782 rfl rfl dX11_farm_82 ?_
        refine lv_iload_n hx hb dX11_farm_85 rfl (lv_at hl 2 rfl) ?_
        obtain ⟨g3, hf⟩ := gd_s hf
        refine bk_iald (wf := cw) (q0 := 14) (n := 9) (j := x1.toNatClampNeg) C hP rfl g3 rfl dX11_farm_86 ?_
        exact bk_iretT C hP hD hS hf (Nat.le_of_ble_eq_true rfl) (Nat.le_of_ble_eq_true rfl) dX11_farm_87
      · have hf := (if_neg u14_1).symm.trans hf
        by_cases u14_2 : x2 = (2 : Int32)
        · have hf := (if_pos u14_2).symm.trans hf
          refine lv_tableIn (off := 74) (tgt := 88) hx hb dX11_farm_14 t14l t14h (by rw [u14_2]; rfl) (by decide) ?_
          refine lv_aload_n hx hb dX11_farm_88 rfl (lv_at hl 0 rfl) ?_
          refine bk_get (wf := cw) (q0 := 22) (ci := 7) (k := 5) (v := .ref (g.2.2 26)) C hP wl_X7 rfl rfl (by decide) wa_224 rfl rfl dX11_farm_89 ?_
          refine lv_iload_n hx hb dX11_farm_92 rfl (lv_at hl 2 rfl) ?_
          obtain ⟨g4, hf⟩ := gd_s hf
          refine bk_iald (wf := cw) (q0 := 26) (n := 9) (j := x1.toNatClampNeg) C hP rfl g4 rfl dX11_farm_93 ?_
          exact bk_iretT C hP hD hS hf (Nat.le_of_ble_eq_true rfl) (Nat.le_of_ble_eq_true rfl) dX11_farm_94
        · have hf := (if_neg u14_2).symm.trans hf
          by_cases u14_3 : x2 = (3 : Int32)
          · have hf := (if_pos u14_3).symm.trans hf
            refine lv_tableIn (off := 81) (tgt := 95) hx hb dX11_farm_14 t14l t14h (by rw [u14_3]; rfl) (by decide) ?_
            refine lv_aload_n hx hb dX11_farm_95 rfl (lv_at hl 1 rfl) ?_
            refine bk_get (wf := cw) (q0 := 0) (ci := 10) (k := 3) (v := .ref (g.2.2 12)) C hP wl_X11 rfl rfl (by decide) wa_23 rfl rfl dX11_farm_96 ?_
            refine bk_get (wf := cw) (q0 := 12) (ci := 8) (k := 4) (v := .ref (g.2.2 16)) C hP wl_X9 rfl rfl (by decide) wa_783 rfl rfl dX11_farm_99 ?_
            refine lv_iload_n hx hb dX11_farm_102 rfl (lv_at hl 2 rfl) ?_
            obtain ⟨g5, hf⟩ := gd_s hf
            refine bk_iald (wf := cw) (q0 := 16) (n := 9) (j := x1.toNatClampNeg) C hP rfl g5 rfl dX11_farm_103 ?_
            exact bk_iretT C hP hD hS hf (Nat.le_of_ble_eq_true rfl) (Nat.le_of_ble_eq_true rfl) dX11_farm_104
          · have hf := (if_neg u14_3).symm.trans hf
            by_cases u14_4 : x2 = (4 : Int32)
            · have hf := (if_pos u14_4).symm.trans hf
              refine lv_tableIn (off := 91) (tgt := 105) hx hb dX11_farm_14 t14l t14h (by rw [u14_4]; rfl) (by decide) ?_
              refine lv_aload_n hx hb dX11_farm_105 rfl (lv_at hl 0 rfl) ?_
              refine bk_get (wf := cw) (q0 := 22) (ci := 7) (k := 2) (v := .ref (g.2.2 23)) C hP wl_X7 rfl rfl (by decide) wa_784 rfl rfl dX11_farm_106 ?_
              refine lv_iload_n hx hb dX11_farm_109 rfl (lv_at hl 2 rfl) ?_
              obtain ⟨g6, hf⟩ := gd_s hf
              refine bk_iald (wf := cw) (q0 := 23) (n := 9) (j := x1.toNatClampNeg) C hP rfl g6 rfl dX11_farm_110 ?_
              exact bk_iretT C hP hD hS hf (Nat.le_of_ble_eq_true rfl) (Nat.le_of_ble_eq_true rfl) dX11_farm_111
            · have hf := (if_neg u14_4).symm.trans hf
              by_cases u14_5 : x2 = (5 : Int32)
              · have hf := (if_pos u14_5).symm.trans hf
                refine lv_tableIn (off := 98) (tgt := 112) hx hb dX11_farm_14 t14l t14h (by rw [u14_5]; rfl) (by decide) ?_
                refine lv_aload_n hx hb dX11_farm_112 rfl (lv_at hl 0 rfl) ?_
                refine bk_get (wf := cw) (q0 := 22) (ci := 7) (k := 3) (v := .ref (g.2.2 24)) C hP wl_X7 rfl rfl (by decide) wa_785 rfl rfl dX11_farm_113 ?_
                refine lv_iload_n hx hb dX11_farm_116 rfl (lv_at hl 2 rfl) ?_
                obtain ⟨g7, hf⟩ := gd_s hf
                refine bk_iald (wf := cw) (q0 := 24) (n := 9) (j := x1.toNatClampNeg) C hP rfl g7 rfl dX11_farm_117 ?_
                exact bk_iretT C hP hD hS hf (Nat.le_of_ble_eq_true rfl) (Nat.le_of_ble_eq_true rfl) dX11_farm_118
              · have hf := (if_neg u14_5).symm.trans hf
                by_cases u14_6 : x2 = (6 : Int32)
                · have hf := (if_pos u14_6).symm.trans hf
                  refine lv_tableIn (off := 105) (tgt := 119) hx hb dX11_farm_14 t14l t14h (by rw [u14_6]; rfl) (by decide) ?_
                  refine lv_aload_n hx hb dX11_farm_119 rfl (lv_at hl 0 rfl) ?_
                  refine bk_get (wf := cw) (q0 := 22) (ci := 7) (k := 4) (v := .ref (g.2.2 25)) C hP wl_X7 rfl rfl (by decide) wa_786 rfl rfl dX11_farm_120 ?_
                  refine lv_iload_n hx hb dX11_farm_123 rfl (lv_at hl 2 rfl) ?_
                  obtain ⟨g8, hf⟩ := gd_s hf
                  refine bk_iald (wf := cw) (q0 := 25) (n := 9) (j := x1.toNatClampNeg) C hP rfl g8 rfl dX11_farm_124 ?_
                  exact bk_iretT C hP hD hS hf (Nat.le_of_ble_eq_true rfl) (Nat.le_of_ble_eq_true rfl) dX11_farm_125
                · have hf := (if_neg u14_6).symm.trans hf
                  by_cases u14_7 : x2 = (7 : Int32)
                  · have hf := (if_pos u14_7).symm.trans hf
                    refine lv_tableIn (off := 112) (tgt := 126) hx hb dX11_farm_14 t14l t14h (by rw [u14_7]; rfl) (by decide) ?_
                    refine lv_aload_n hx hb dX11_farm_126 rfl (lv_at hl 0 rfl) ?_
                    refine bk_get (wf := cw) (q0 := 22) (ci := 7) (k := 1) (v := .int ((q1.2.2) 22 1)) C hP wl_X7 rfl rfl (by decide) wa_648 rfl rfl dX11_farm_127 ?_
                    refine lv_iload_n hx hb dX11_farm_130 rfl (lv_at hl 2 rfl) ?_
                    refine lv_ishr hx hb dX11_farm_131 ?_
                    refine lv_iconst (v := (1 : Int32)) hx hb dX11_farm_132 (by decide) ?_
                    refine lv_iand hx hb dX11_farm_133 ?_
                    exact bk_iretT C hP hD hS hf (Nat.le_of_ble_eq_true rfl) (Nat.le_of_ble_eq_true rfl) dX11_farm_134
                  · have hf := (if_neg u14_7).symm.trans hf
                    by_cases u14_8 : x2 = (8 : Int32)
                    · have hf := (if_pos u14_8).symm.trans hf
                      refine lv_tableIn (off := 121) (tgt := 135) hx hb dX11_farm_14 t14l t14h (by rw [u14_8]; rfl) (by decide) ?_
                      refine lv_aload_n hx hb dX11_farm_135 rfl (lv_at hl 1 rfl) ?_
                      refine bk_get (wf := cw) (q0 := 0) (ci := 10) (k := 3) (v := .ref (g.2.2 12)) C hP wl_X11 rfl rfl (by decide) wa_23 rfl rfl dX11_farm_136 ?_
                      refine bk_get (wf := cw) (q0 := 12) (ci := 8) (k := 5) (v := .int ((q1.2.2) 12 5)) C hP wl_X9 rfl rfl (by decide) wa_787 rfl rfl dX11_farm_139 ?_
                      refine lv_iload_n hx hb dX11_farm_142 rfl (lv_at hl 2 rfl) ?_
                      refine lv_ishr hx hb dX11_farm_143 ?_
                      refine lv_iconst (v := (1 : Int32)) hx hb dX11_farm_144 (by decide) ?_
                      refine lv_iand hx hb dX11_farm_145 ?_
                      exact bk_iretT C hP hD hS hf (Nat.le_of_ble_eq_true rfl) (Nat.le_of_ble_eq_true rfl) dX11_farm_146
                    · have hf := (if_neg u14_8).symm.trans hf
                      by_cases u14_9 : x2 = (9 : Int32)
                      · have hf := (if_pos u14_9).symm.trans hf
                        refine lv_tableIn (off := 133) (tgt := 147) hx hb dX11_farm_14 t14l t14h (by rw [u14_9]; rfl) (by decide) ?_
                        refine lv_aload_n hx hb dX11_farm_147 rfl (lv_at hl 1 rfl) ?_
                        refine bk_get (wf := cw) (q0 := 0) (ci := 10) (k := 7) (v := .ref (g.2.2 47)) C hP wl_X11 rfl rfl (by decide) wa_33 rfl rfl dX11_farm_148 ?_
                        refine lv_iload_n hx hb dX11_farm_151 rfl (lv_at hl 2 rfl) ?_
                        refine lv_aload_n hx hb dX11_farm_152 rfl (lv_at hl 1 rfl) ?_
                        obtain ⟨q9, hq9, hf⟩ := bi_s hf
                        refine bk_VI (wf := cw) (q0 := 0) (ci := 10) (rest := [.int x1, .ref (g.2.2 47)]) [] C hP hD hS hl.1 (c_X11_mistNow_0 hXo hq9) (cwA_V 0 hts wa_654 wa_651 wa_652 wa_653 wa_2 rfl rfl nd_X11_mistNow ⟨Nat.le_of_ble_eq_true rfl, Nat.le_of_ble_eq_true rfl⟩) rfl rfl rfl rfl (Nat.le_of_ble_eq_true rfl) dX11_farm_153 ⟨Nat.le_of_ble_eq_true rfl, Nat.le_of_ble_eq_true rfl⟩ (fun H locs hP hD hS => ?_)
                        obtain ⟨q10, hq10, hf⟩ := bi_s hf
                        refine bk_VI (wf := cw) (q0 := 47) (ci := 6) (rest := []) [.int x1, .int q9.1] C hP hD hS hl.1 (c_X6_of_47 hXo hq10) (cwA_V 2 hts wa_675 wa_792 wa_673 wa_674 wa_32 rfl rfl nd_X6_of ⟨Nat.le_of_ble_eq_true rfl, Nat.le_of_ble_eq_true rfl⟩) rfl rfl rfl rfl (Nat.le_of_ble_eq_true rfl) dX11_farm_156 ⟨Nat.le_of_ble_eq_true rfl, Nat.le_of_ble_eq_true rfl⟩ (fun H locs hP hD hS => ?_)
                        exact bk_iretT C hP hD hS hf (Nat.le_of_ble_eq_true rfl) (Nat.le_of_ble_eq_true rfl) dX11_farm_159
                      · have hf := (if_neg u14_9).symm.trans hf
                        cases hf
theorem c_X11_farm_0 {N : Nat} {x1 : Int32} {x2 : Int32} {σ : Sg} {z : Zt} (hX : xOK g X) (hst : l.stackTraces = false) (hf : f_X11_farm_0 N x1 x2 σ = some z) : MetTi l yX11_farm (Cond.code yX11_farm cX11_farm 4 (some .int) :: wsA) rm_X11_farm_0 2 12 cw g X [.ref (g.2.2 0), .int x1, .int x2] σ z :=
  MetTi_of hX (by decide) (Nat.le_of_ble_eq_true rfl) (fun p e s m args below meth c A C hex => b_X11_farm_0 C hex hst hf)
-- X11_needFarms_0: needFarms(II)V
abbrev rm_X11_needFarms_0 : Room := { frames := 7, cells := 2, slots := 12, locals := 111 }
theorem nd_X11_needFarms : yX11_needFarms.cls ≠ "java/lang/invoke/MethodHandle" ∧ yX11_needFarms.cls ≠ "java/lang/invoke/VarHandle" ∧ (parseMethodDescriptor yX11_needFarms.desc).map (fun d => d.parameters.length) = some 2 := by decide +kernel
def f_X11_needFarms_0 (N : Nat) (x1 : Int32) (x2 : Int32) (σ : Sg) : Option (Zt) :=
(f_X11_needFarm_0 N x1 σ).bind fun q1 =>
if q1.1 = 0 then ((f_X11_needFarm_0 N x2 (q1.2.2)).bind fun q2 =>
if q2.1 = 0 then (some (0, 0, (q2.2.2)))
else some (q2.1, 0, q2.2.2))
else some (q1.1, 0, q1.2.2)
set_option maxHeartbeats 4000000 in
set_option maxRecDepth 100000 in
theorem b_X11_needFarms_0 {N : Nat} {x1 : Int32} {x2 : Int32} {σ : Sg} {z : Zt} (C : Cx p s m args meth c cX11_needFarms 3 none RX11 g A X) (hex : ∀ x ∈ c.exceptionTable.toList, False) (hst : l.stackTraces = false) (hf : f_X11_needFarms_0 N x1 x2 σ = some z) : Bk cw p l e rm_X11_needFarms_0 s m args below meth c 3 g A (vx_MQ below (qTv cw g A z) (xT cw g A z) args s 2 12 A) 0 0 0 [(0, .ref (g.2.2 0)), (1, .int x1), (2, .int x2)] [] σ := by
  obtain ⟨hx, hb, hr, hml, hown, hts, hK, hlocks, hXX, hA, hXo⟩ := id C
  intro H locs ls hP hD hS hl
  unfold f_X11_needFarms_0 at hf
  refine lv_aload_n hx hb dX11_needFarms_0 rfl (lv_at hl 0 rfl) ?_
  refine lv_iload_n hx hb dX11_needFarms_1 rfl (lv_at hl 1 rfl) ?_
  obtain ⟨q1, hq1, hf⟩ := bi_s hf
  refine bk_TV (wf := cw) (q0 := 0) (ci := 10) (rest := []) [.int x1] C hex hP hD hS hl.1 (c_X11_needFarm_0 hXo hst hq1) (cwA_V 1 hts wa_791 wa_788 wa_789 wa_790 wa_2 rfl rfl nd_X11_needFarm ⟨Nat.le_of_ble_eq_true rfl, Nat.le_of_ble_eq_true rfl⟩) rfl rfl rfl rfl (Nat.le_of_ble_eq_true rfl) dX11_needFarms_2 ⟨Nat.le_of_ble_eq_true rfl, Nat.le_of_ble_eq_true rfl⟩ ⟨Nat.le_of_ble_eq_true rfl, Nat.le_of_ble_eq_true rfl⟩ (fun h0 => by have hf := (if_neg h0).symm.trans hf; cases hf; exact ⟨rfl, rfl⟩) (fun h0 H locs hP hD hS => ?_)
  have hf := (if_pos h0).symm.trans hf
  refine lv_aload_n hx hb dX11_needFarms_5 rfl (lv_at hl 0 rfl) ?_
  refine lv_iload_n hx hb dX11_needFarms_6 rfl (lv_at hl 2 rfl) ?_
  obtain ⟨q2, hq2, hf⟩ := bi_s hf
  refine bk_TV (wf := cw) (q0 := 0) (ci := 10) (rest := []) [.int x2] C hex hP hD hS hl.1 (c_X11_needFarm_0 hXo hst hq2) (cwA_V 1 hts wa_791 wa_788 wa_789 wa_790 wa_2 rfl rfl nd_X11_needFarm ⟨Nat.le_of_ble_eq_true rfl, Nat.le_of_ble_eq_true rfl⟩) rfl rfl rfl rfl (Nat.le_of_ble_eq_true rfl) dX11_needFarms_7 ⟨Nat.le_of_ble_eq_true rfl, Nat.le_of_ble_eq_true rfl⟩ ⟨Nat.le_of_ble_eq_true rfl, Nat.le_of_ble_eq_true rfl⟩ (fun h0 => by have hf := (if_neg h0).symm.trans hf; cases hf; exact ⟨rfl, rfl⟩) (fun h0 H locs hP hD hS => ?_)
  have hf := (if_pos h0).symm.trans hf
  exact bk_vretT C hP hD hS hf (Nat.le_of_ble_eq_true rfl) (Nat.le_of_ble_eq_true rfl) dX11_needFarms_10
theorem c_X11_needFarms_0 {N : Nat} {x1 : Int32} {x2 : Int32} {σ : Sg} {z : Zt} (hX : xOK g X) (hst : l.stackTraces = false) (hf : f_X11_needFarms_0 N x1 x2 σ = some z) : MetTv l yX11_needFarms (Cond.code yX11_needFarms cX11_needFarms 3 none :: wsA) rm_X11_needFarms_0 2 12 cw g X [.ref (g.2.2 0), .int x1, .int x2] σ z :=
  MetTv_of hX (by decide) (Nat.le_of_ble_eq_true rfl) (fun p e s m args below meth c A C hex => b_X11_needFarms_0 C hex hst hf)
-- X11_needWhat: needWhat(II)V
abbrev rm_X11_needWhat : Room := { frames := 6, cells := 1, slots := 6, locals := 90 }
theorem nd_X11_needWhat : yX11_needWhat.cls ≠ "java/lang/invoke/MethodHandle" ∧ yX11_needWhat.cls ≠ "java/lang/invoke/VarHandle" ∧ (parseMethodDescriptor yX11_needWhat.desc).map (fun d => d.parameters.length) = some 2 := by decide +kernel
def f_X11_needWhat_b9 (N : Nat) (σ : Sg) : Option (Zt) :=
some (1, 0, σ)
set_option maxHeartbeats 4000000 in
set_option maxRecDepth 100000 in
theorem b_X11_needWhat_b9 {N : Nat} {σ : Sg} {z : Zt} (C : Cx p s m args meth c cX11_needWhat 2 none RX11 g A X) (hex : ∀ x ∈ c.exceptionTable.toList, False) (hst : l.stackTraces = false) (hf : f_X11_needWhat_b9 N σ = some z) : Bk cw p l e rm_X11_needWhat s m args below meth c 2 g A (vx_MQ below (qTv cw g A z) (xT cw g A z) args s 1 6 A) 0 0 9 [] [] σ := by
  obtain ⟨hx, hb, hr, hml, hown, hts, hK, hlocks, hXX, hA, hXo⟩ := id C
  intro H locs ls hP hD hS hl
  unfold f_X11_needWhat_b9 at hf
  exact bk_thN (text := "no such question") C hex hst hP hD hS hl.1 (by decide) dX11_needWhat_9 dX11_needWhat_12 dX11_needWhat_13 dX11_needWhat_15 dX11_needWhat_18 (Nat.le_of_ble_eq_true rfl) (Nat.le_of_ble_eq_true rfl) (Nat.le_of_ble_eq_true rfl) (Nat.le_of_ble_eq_true rfl) hf (Nat.le_of_ble_eq_true rfl) (Nat.le_of_ble_eq_true rfl)
def f_X11_needWhat (N : Nat) (x0 : Int32) (x1 : Int32) (σ : Sg) : Option (Zt) :=
if x0 < 0 then (f_X11_needWhat_b9 N σ)
else (if x0 ≤ x1 then (some (0, 0, σ))
else (f_X11_needWhat_b9 N σ))
set_option maxHeartbeats 4000000 in
set_option maxRecDepth 100000 in
theorem b_X11_needWhat {N : Nat} {x0 : Int32} {x1 : Int32} {σ : Sg} {z : Zt} (C : Cx p s m args meth c cX11_needWhat 2 none RX11 g A X) (hex : ∀ x ∈ c.exceptionTable.toList, False) (hst : l.stackTraces = false) (hf : f_X11_needWhat N x0 x1 σ = some z) : Bk cw p l e rm_X11_needWhat s m args below meth c 2 g A (vx_MQ below (qTv cw g A z) (xT cw g A z) args s 1 6 A) 0 0 0 [(0, .int x0), (1, .int x1)] [] σ := by
  obtain ⟨hx, hb, hr, hml, hown, hts, hK, hlocks, hXX, hA, hXo⟩ := id C
  intro H locs ls hP hD hS hl
  unfold f_X11_needWhat at hf
  refine lv_iload_n hx hb dX11_needWhat_0 rfl (lv_at hl 0 rfl) ?_
  refine lv_if_lt (tgt := 9) hx hb dX11_needWhat_1 (by decide) (fun t1 => ?_) (fun t1 => ?_)
  · have hf := (if_pos t1).symm.trans hf
    exact b_X11_needWhat_b9 C hex hst hf H locs ls hP hD hS (lv_sub hl [] rfl)
  · have hf := (if_neg t1).symm.trans hf
    refine lv_iload_n hx hb dX11_needWhat_4 rfl (lv_at hl 0 rfl) ?_
    refine lv_iload_n hx hb dX11_needWhat_5 rfl (lv_at hl 1 rfl) ?_
    refine lv_icmp_le (tgt := 19) hx hb dX11_needWhat_6 (by decide) (fun t6 => ?_) (fun t6 => ?_)
    · have hf := (if_pos t6).symm.trans hf
      exact bk_vretT C hP hD hS hf (Nat.le_of_ble_eq_true rfl) (Nat.le_of_ble_eq_true rfl) dX11_needWhat_19
    · have hf := (if_neg t6).symm.trans hf
      exact b_X11_needWhat_b9 C hex hst hf H locs ls hP hD hS (lv_sub hl [] rfl)
theorem c_X11_needWhat {N : Nat} {x0 : Int32} {x1 : Int32} {σ : Sg} {z : Zt} (hX : xOK g X) (hst : l.stackTraces = false) (hf : f_X11_needWhat N x0 x1 σ = some z) : MetTv l yX11_needWhat (Cond.code yX11_needWhat cX11_needWhat 2 none :: wsA) rm_X11_needWhat 1 6 cw g X [.int x0, .int x1] σ z :=
  MetTv_of hX (by decide) (Nat.le_of_ble_eq_true rfl) (fun p e s m args below meth c A C hex => b_X11_needWhat C hex hst hf)
-- X11_needWithin: needWithin(III)V
abbrev rm_X11_needWithin : Room := { frames := 6, cells := 1, slots := 6, locals := 90 }
theorem nd_X11_needWithin : yX11_needWithin.cls ≠ "java/lang/invoke/MethodHandle" ∧ yX11_needWithin.cls ≠ "java/lang/invoke/VarHandle" ∧ (parseMethodDescriptor yX11_needWithin.desc).map (fun d => d.parameters.length) = some 3 := by decide +kernel
def f_X11_needWithin_b10 (N : Nat) (σ : Sg) : Option (Zt) :=
some (2, 0, σ)
set_option maxHeartbeats 4000000 in
set_option maxRecDepth 100000 in
theorem b_X11_needWithin_b10 {N : Nat} {σ : Sg} {z : Zt} (C : Cx p s m args meth c cX11_needWithin 3 none RX11 g A X) (hex : ∀ x ∈ c.exceptionTable.toList, False) (hst : l.stackTraces = false) (hf : f_X11_needWithin_b10 N σ = some z) : Bk cw p l e rm_X11_needWithin s m args below meth c 3 g A (vx_MQ below (qTv cw g A z) (xT cw g A z) args s 1 6 A) 0 0 10 [] [] σ := by
  obtain ⟨hx, hb, hr, hml, hown, hts, hK, hlocks, hXX, hA, hXo⟩ := id C
  intro H locs ls hP hD hS hl
  unfold f_X11_needWithin_b10 at hf
  exact bk_thI (text := "out of bounds") C hex hst hP hD hS hl.1 (by decide) dX11_needWithin_10 dX11_needWithin_13 dX11_needWithin_14 dX11_needWithin_16 dX11_needWithin_19 (Nat.le_of_ble_eq_true rfl) (Nat.le_of_ble_eq_true rfl) (Nat.le_of_ble_eq_true rfl) (Nat.le_of_ble_eq_true rfl) hf (Nat.le_of_ble_eq_true rfl) (Nat.le_of_ble_eq_true rfl)
def f_X11_needWithin (N : Nat) (x0 : Int32) (x1 : Int32) (x2 : Int32) (σ : Sg) : Option (Zt) :=
if x0 < x1 then (f_X11_needWithin_b10 N σ)
else (if x0 ≤ x2 then (some (0, 0, σ))
else (f_X11_needWithin_b10 N σ))
set_option maxHeartbeats 4000000 in
set_option maxRecDepth 100000 in
theorem b_X11_needWithin {N : Nat} {x0 : Int32} {x1 : Int32} {x2 : Int32} {σ : Sg} {z : Zt} (C : Cx p s m args meth c cX11_needWithin 3 none RX11 g A X) (hex : ∀ x ∈ c.exceptionTable.toList, False) (hst : l.stackTraces = false) (hf : f_X11_needWithin N x0 x1 x2 σ = some z) : Bk cw p l e rm_X11_needWithin s m args below meth c 3 g A (vx_MQ below (qTv cw g A z) (xT cw g A z) args s 1 6 A) 0 0 0 [(0, .int x0), (1, .int x1), (2, .int x2)] [] σ := by
  obtain ⟨hx, hb, hr, hml, hown, hts, hK, hlocks, hXX, hA, hXo⟩ := id C
  intro H locs ls hP hD hS hl
  unfold f_X11_needWithin at hf
  refine lv_iload_n hx hb dX11_needWithin_0 rfl (lv_at hl 0 rfl) ?_
  refine lv_iload_n hx hb dX11_needWithin_1 rfl (lv_at hl 1 rfl) ?_
  refine lv_icmp_lt (tgt := 10) hx hb dX11_needWithin_2 (by decide) (fun t2 => ?_) (fun t2 => ?_)
  · have hf := (if_pos t2).symm.trans hf
    exact b_X11_needWithin_b10 C hex hst hf H locs ls hP hD hS (lv_sub hl [] rfl)
  · have hf := (if_neg t2).symm.trans hf
    refine lv_iload_n hx hb dX11_needWithin_5 rfl (lv_at hl 0 rfl) ?_
    refine lv_iload_n hx hb dX11_needWithin_6 rfl (lv_at hl 2 rfl) ?_
    refine lv_icmp_le (tgt := 20) hx hb dX11_needWithin_7 (by decide) (fun t7 => ?_) (fun t7 => ?_)
    · have hf := (if_pos t7).symm.trans hf
      exact bk_vretT C hP hD hS hf (Nat.le_of_ble_eq_true rfl) (Nat.le_of_ble_eq_true rfl) dX11_needWithin_20
    · have hf := (if_neg t7).symm.trans hf
      exact b_X11_needWithin_b10 C hex hst hf H locs ls hP hD hS (lv_sub hl [] rfl)
theorem c_X11_needWithin {N : Nat} {x0 : Int32} {x1 : Int32} {x2 : Int32} {σ : Sg} {z : Zt} (hX : xOK g X) (hst : l.stackTraces = false) (hf : f_X11_needWithin N x0 x1 x2 σ = some z) : MetTv l yX11_needWithin (Cond.code yX11_needWithin cX11_needWithin 3 none :: wsA) rm_X11_needWithin 1 6 cw g X [.int x0, .int x1, .int x2] σ z :=
  MetTv_of hX (by decide) (Nat.le_of_ble_eq_true rfl) (fun p e s m args below meth c A C hex => b_X11_needWithin C hex hst hf)
-- X2_isFree_55: isFree(II)Z
abbrev rm_X2_isFree_55 : Room := { frames := 0, cells := 0, slots := 0, locals := 0 }
theorem nd_X2_isFree : yX2_isFree.cls ≠ "java/lang/invoke/MethodHandle" ∧ yX2_isFree.cls ≠ "java/lang/invoke/VarHandle" ∧ (parseMethodDescriptor yX2_isFree.desc).map (fun d => d.parameters.length) = some 2 := by decide +kernel
def f_X2_isFree_55_b44 (N : Nat) (σ : Sg) : Option (Int32 × Sg) :=
some ((0 : Int32), σ)
set_option maxHeartbeats 4000000 in
set_option maxRecDepth 100000 in
theorem b_X2_isFree_55_b44 {N : Nat} {σ : Sg} {z : Int32 × Sg} (C : Cx p s m args meth c cX2_isFree 3 (some .boolean) RX2 g A X) (hf : f_X2_isFree_55_b44 N σ = some z) : Bk cw p l e rm_X2_isFree_55 s m args below meth c 3 g A (MQ below (qI cw g A z.1 z.2) args s 0 0 A) 0 0 44 [] [] σ := by
  obtain ⟨hx, hb, hr, hml, hown, hts, hK, hlocks, hXX, hA, hXo⟩ := id C
  intro H locs ls hP hD hS hl
  unfold f_X2_isFree_55_b44 at hf
  refine lv_iconst (v := (0 : Int32)) hx hb dX2_isFree_44 (by decide) ?_
  cases hf
  exact bk_zret C hP hD hS (by decide) rfl dX2_isFree_45
def f_X2_isFree_55 (N : Nat) (x1 : Int32) (x2 : Int32) (σ : Sg) : Option (Int32 × Sg) :=
if (x1 < 0 ∨ 9 ≤ x1.toNatClampNeg) then none else
if (σ 57 x1.toNatClampNeg) = 0 then (if (x1 < 0 ∨ 9 ≤ x1.toNatClampNeg) then none else
if (σ 58 x1.toNatClampNeg) = 0 then (if ((((σ 56 1) ||| x2) >>> (x1 &&& 31)) &&& (1 : Int32)) = 0 then (some ((1 : Int32), σ))
else (f_X2_isFree_55_b44 N σ))
else (f_X2_isFree_55_b44 N σ))
else (f_X2_isFree_55_b44 N σ)
set_option maxHeartbeats 4000000 in
set_option maxRecDepth 100000 in
theorem b_X2_isFree_55 {N : Nat} {x1 : Int32} {x2 : Int32} {σ : Sg} {z : Int32 × Sg} (C : Cx p s m args meth c cX2_isFree 3 (some .boolean) RX2 g A X) (hf : f_X2_isFree_55 N x1 x2 σ = some z) : Bk cw p l e rm_X2_isFree_55 s m args below meth c 3 g A (MQ below (qI cw g A z.1 z.2) args s 0 0 A) 0 0 0 [(0, .ref (g.2.2 55)), (1, .int x1), (2, .int x2)] [] σ := by
  obtain ⟨hx, hb, hr, hml, hown, hts, hK, hlocks, hXX, hA, hXo⟩ := id C
  intro H locs ls hP hD hS hl
  unfold f_X2_isFree_55 at hf
  refine lv_aload_n hx hb dX2_isFree_0 rfl (lv_at hl 0 rfl) ?_
  refine bk_get (wf := cw) (q0 := 55) (ci := 2) (k := 0) (v := .ref (g.2.2 56)) C hP wl_X2 rfl rfl (by decide) wa_144 rfl rfl dX2_isFree_1 ?_
  refine bk_get (wf := cw) (q0 := 56) (ci := 7) (k := 2) (v := .ref (g.2.2 57)) C hP wl_X7 rfl rfl (by decide) wa_841 rfl rfl dX2_isFree_4 ?_
  refine lv_iload_n hx hb dX2_isFree_7 rfl (lv_at hl 1 rfl) ?_
  obtain ⟨g1, hf⟩ := gd_s hf
  refine bk_iald (wf := cw) (q0 := 57) (n := 9) (j := x1.toNatClampNeg) C hP rfl g1 rfl dX2_isFree_8 ?_
  refine lv_if_ne (tgt := 44) hx hb dX2_isFree_9 (by decide) (fun t9 => ?_) (fun t9 => ?_)
  · have hf := (if_neg t9).symm.trans hf
    exact b_X2_isFree_55_b44 C hf H locs ls hP hD hS (lv_sub hl [] rfl)
  · have hf := (if_pos t9).symm.trans hf
    refine lv_aload_n hx hb dX2_isFree_12 rfl (lv_at hl 0 rfl) ?_
    refine bk_get (wf := cw) (q0 := 55) (ci := 2) (k := 0) (v := .ref (g.2.2 56)) C hP wl_X2 rfl rfl (by decide) wa_144 rfl rfl dX2_isFree_13 ?_
    refine bk_get (wf := cw) (q0 := 56) (ci := 7) (k := 3) (v := .ref (g.2.2 58)) C hP wl_X7 rfl rfl (by decide) wa_847 rfl rfl dX2_isFree_16 ?_
    refine lv_iload_n hx hb dX2_isFree_19 rfl (lv_at hl 1 rfl) ?_
    obtain ⟨g2, hf⟩ := gd_s hf
    refine bk_iald (wf := cw) (q0 := 58) (n := 9) (j := x1.toNatClampNeg) C hP rfl g2 rfl dX2_isFree_20 ?_
    refine lv_if_ne (tgt := 44) hx hb dX2_isFree_21 (by decide) (fun t21 => ?_) (fun t21 => ?_)
    · have hf := (if_neg t21).symm.trans hf
      exact b_X2_isFree_55_b44 C hf H locs ls hP hD hS (lv_sub hl [] rfl)
    · have hf := (if_pos t21).symm.trans hf
      refine lv_aload_n hx hb dX2_isFree_24 rfl (lv_at hl 0 rfl) ?_
      refine bk_get (wf := cw) (q0 := 55) (ci := 2) (k := 0) (v := .ref (g.2.2 56)) C hP wl_X2 rfl rfl (by decide) wa_144 rfl rfl dX2_isFree_25 ?_
      refine bk_get (wf := cw) (q0 := 56) (ci := 7) (k := 1) (v := .int (σ 56 1)) C hP wl_X7 rfl rfl (by decide) wa_856 rfl rfl dX2_isFree_28 ?_
      refine lv_iload_n hx hb dX2_isFree_31 rfl (lv_at hl 2 rfl) ?_
      refine lv_ior hx hb dX2_isFree_32 ?_
      refine lv_iload_n hx hb dX2_isFree_33 rfl (lv_at hl 1 rfl) ?_
      refine lv_ishr hx hb dX2_isFree_34 ?_
      refine lv_iconst (v := (1 : Int32)) hx hb dX2_isFree_35 (by decide) ?_
      refine lv_iand hx hb dX2_isFree_36 ?_
      refine lv_if_ne (tgt := 44) hx hb dX2_isFree_37 (by decide) (fun t37 => ?_) (fun t37 => ?_)
      · have hf := (if_neg t37).symm.trans hf
        exact b_X2_isFree_55_b44 C hf H locs ls hP hD hS (lv_sub hl [] rfl)
      · have hf := (if_pos t37).symm.trans hf
        refine lv_iconst (v := (1 : Int32)) hx hb dX2_isFree_40 (by decide) ?_
        refine lv_goto (tgt := 45) hx hb dX2_isFree_41 (by decide) ?_
        cases hf
        exact bk_zret C hP hD hS (by decide) rfl dX2_isFree_45
theorem c_X2_isFree_55 {N : Nat} {x1 : Int32} {x2 : Int32} {σ : Sg} {z : Int32 × Sg} (hX : xOK g X) (hf : f_X2_isFree_55 N x1 x2 σ = some z) : MetI l yX2_isFree (Cond.code yX2_isFree cX2_isFree 3 (some .boolean) :: wsA) rm_X2_isFree_55 cw g X [.ref (g.2.2 55), .int x1, .int x2] σ z.1 z.2 :=
  MetI_of hX (by decide) (Nat.le_of_ble_eq_true rfl) (fun p e s m args below meth c A C => b_X2_isFree_55 C hf)
-- X2_nearestOf_55: nearestOf(II)I
abbrev rm_X2_nearestOf_55 : Room := { frames := 2, cells := 0, slots := 0, locals := 46 }
theorem nd_X2_nearestOf : yX2_nearestOf.cls ≠ "java/lang/invoke/MethodHandle" ∧ yX2_nearestOf.cls ≠ "java/lang/invoke/VarHandle" ∧ (parseMethodDescriptor yX2_nearestOf.desc).map (fun d => d.parameters.length) = some 2 := by decide +kernel
def f_X2_nearestOf_55_b69 (N : Nat) (x1 : Int32) (x2 : Int32) (x3 : Int32) (x4 : Int32) (σ : Sg) : Option (Nat × Int32 × Int32 × Sg) :=
bd (x4 + (1 : Int32)) fun v1 =>
some (0, x3, v1, σ)
set_option maxHeartbeats 4000000 in
set_option maxRecDepth 100000 in
theorem b_X2_nearestOf_55_b69 {N : Nat} {x1 : Int32} {x2 : Int32} {x3 : Int32} {x4 : Int32} {σ : Sg} {z : Nat × Int32 × Int32 × Sg} (C : Cx p s m args meth c cX2_nearestOf 6 (some .int) RX2 g A X) (hf : f_X2_nearestOf_55_b69 N x1 x2 x3 x4 σ = some z) (k0 : z.1 = 0 → Bk cw p l e rm_X2_nearestOf_55 s m args below meth c 6 g A Q 0 0 5 [(0, .ref (g.2.2 55)), (1, .int x1), (2, .int x2), (3, .int z.2.1), (4, .int z.2.2.1)] [] z.2.2.2) (k : ¬ z.1 = 0 → Bk cw p l e rm_X2_nearestOf_55 s m args below meth c 6 g A Q 0 0 75 [(3, .int z.2.1)] [] z.2.2.2) : Bk cw p l e rm_X2_nearestOf_55 s m args below meth c 6 g A Q 0 0 69 [(0, .ref (g.2.2 55)), (1, .int x1), (2, .int x2), (3, .int x3), (4, .int x4)] [] σ := by
  obtain ⟨hx, hb, hr, hml, hown, hts, hK, hlocks, hXX, hA, hXo⟩ := id C
  intro H locs ls hP hD hS hl
  unfold f_X2_nearestOf_55_b69 at hf
  obtain ⟨v1, ev1, hf⟩ := bd_s hf
  refine lv_iinc (v := v1) (lv' := [(4, .int v1), (0, .ref (g.2.2 55)), (1, .int x1), (2, .int x2), (3, .int x3)]) hx hb dX2_nearestOf_69 hl (k := 4) rfl (by rw [ev1]; rfl) (by decide) rfl (fun ls hl => ?_)
  refine lv_goto (tgt := 5) hx hb dX2_nearestOf_72 (by decide) ?_
  cases hf
  exact k0 rfl H locs ls hP hD hS (lv_sub hl [1, 2, 3, 4, 0] rfl)
def f_X2_nearestOf_55_b66 (N : Nat) (x1 : Int32) (x2 : Int32) (x4 : Int32) (σ : Sg) : Option (Nat × Int32 × Int32 × Sg) :=
f_X2_nearestOf_55_b69 N x1 x2 x4 x4 σ
set_option maxHeartbeats 4000000 in
set_option maxRecDepth 100000 in
theorem b_X2_nearestOf_55_b66 {N : Nat} {x1 : Int32} {x2 : Int32} {x4 : Int32} {σ : Sg} {z : Nat × Int32 × Int32 × Sg} (C : Cx p s m args meth c cX2_nearestOf 6 (some .int) RX2 g A X) (hf : f_X2_nearestOf_55_b66 N x1 x2 x4 σ = some z) (k0 : z.1 = 0 → Bk cw p l e rm_X2_nearestOf_55 s m args below meth c 6 g A Q 0 0 5 [(0, .ref (g.2.2 55)), (1, .int x1), (2, .int x2), (3, .int z.2.1), (4, .int z.2.2.1)] [] z.2.2.2) (k : ¬ z.1 = 0 → Bk cw p l e rm_X2_nearestOf_55 s m args below meth c 6 g A Q 0 0 75 [(3, .int z.2.1)] [] z.2.2.2) : Bk cw p l e rm_X2_nearestOf_55 s m args below meth c 6 g A Q 0 0 66 [(0, .ref (g.2.2 55)), (1, .int x1), (2, .int x2), (4, .int x4)] [] σ := by
  obtain ⟨hx, hb, hr, hml, hown, hts, hK, hlocks, hXX, hA, hXo⟩ := id C
  intro H locs ls hP hD hS hl
  unfold f_X2_nearestOf_55_b66 at hf
  refine lv_iload hx hb dX2_nearestOf_66 (lv_at hl 3 rfl) ?_
  refine lv_istore_n (lv' := [(3, .int x4), (0, .ref (g.2.2 55)), (1, .int x1), (2, .int x2), (4, .int x4)]) hx hb dX2_nearestOf_68 rfl hl (by decide) rfl (fun ls hl => ?_)
  exact b_X2_nearestOf_55_b69 C hf k0 k H locs ls hP hD hS (lv_sub hl [1, 2, 3, 0, 4] rfl)
def f_X2_nearestOf_55_b32 (N : Nat) (x1 : Int32) (x2 : Int32) (x3 : Int32) (x4 : Int32) (t0 : Int32) (σ : Sg) : Option (Nat × Int32 × Int32 × Sg) :=
if t0 = 0 then (f_X2_nearestOf_55_b69 N x1 x2 x3 x4 σ)
else (if x3 = x1 then (f_X2_nearestOf_55_b66 N x1 x2 x4 σ)
else ((f_X9_away_12 N x1 x4 σ).bind fun q2 =>
(f_X9_away_12 N x1 x3 (q2.2)).bind fun q3 =>
if q3.1 ≤ q2.1 then (f_X2_nearestOf_55_b69 N x1 x2 x3 x4 (q3.2))
else (f_X2_nearestOf_55_b66 N x1 x2 x4 (q3.2))))
set_option maxHeartbeats 4000000 in
set_option maxRecDepth 100000 in
theorem b_X2_nearestOf_55_b32 {N : Nat} {x1 : Int32} {x2 : Int32} {x3 : Int32} {x4 : Int32} {t0 : Int32} {σ : Sg} {z : Nat × Int32 × Int32 × Sg} (C : Cx p s m args meth c cX2_nearestOf 6 (some .int) RX2 g A X) (hf : f_X2_nearestOf_55_b32 N x1 x2 x3 x4 t0 σ = some z) (k0 : z.1 = 0 → Bk cw p l e rm_X2_nearestOf_55 s m args below meth c 6 g A Q 0 0 5 [(0, .ref (g.2.2 55)), (1, .int x1), (2, .int x2), (3, .int z.2.1), (4, .int z.2.2.1)] [] z.2.2.2) (k : ¬ z.1 = 0 → Bk cw p l e rm_X2_nearestOf_55 s m args below meth c 6 g A Q 0 0 75 [(3, .int z.2.1)] [] z.2.2.2) : Bk cw p l e rm_X2_nearestOf_55 s m args below meth c 6 g A Q 0 0 32 [(0, .ref (g.2.2 55)), (1, .int x1), (2, .int x2), (3, .int x3), (4, .int x4)] [.int t0] σ := by
  obtain ⟨hx, hb, hr, hml, hown, hts, hK, hlocks, hXX, hA, hXo⟩ := id C
  intro H locs ls hP hD hS hl
  unfold f_X2_nearestOf_55_b32 at hf
  refine lv_istore (lv' := [(5, .int t0), (0, .ref (g.2.2 55)), (1, .int x1), (2, .int x2), (3, .int x3), (4, .int x4)]) hx hb dX2_nearestOf_32 hl (by decide) rfl (fun ls hl => ?_)
  refine lv_iload hx hb dX2_nearestOf_34 (lv_at hl 0 rfl) ?_
  refine lv_if_eq (tgt := 69) hx hb dX2_nearestOf_36 (by decide) (fun t36 => ?_) (fun t36 => ?_)
  · have hf := (if_pos t36).symm.trans hf
    exact b_X2_nearestOf_55_b69 C hf k0 k H locs ls hP hD hS (lv_sub hl [1, 2, 3, 4, 5] rfl)
  · have hf := (if_neg t36).symm.trans hf
    refine lv_iload_n hx hb dX2_nearestOf_39 rfl (lv_at hl 4 rfl) ?_
    refine lv_iload_n hx hb dX2_nearestOf_40 rfl (lv_at hl 2 rfl) ?_
    refine lv_icmp_eq (tgt := 66) hx hb dX2_nearestOf_41 (by decide) (fun t41 => ?_) (fun t41 => ?_)
    · have hf := (if_pos t41).symm.trans hf
      exact b_X2_nearestOf_55_b66 C hf k0 k H locs ls hP hD hS (lv_sub hl [1, 2, 3, 5] rfl)
    · have hf := (if_neg t41).symm.trans hf
      refine lv_aload_n hx hb dX2_nearestOf_44 rfl (lv_at hl 1 rfl) ?_
      refine bk_get (wf := cw) (q0 := 55) (ci := 2) (k := 3) (v := .ref (g.2.2 12)) C hP wl_X2 rfl rfl (by decide) wa_148 rfl rfl dX2_nearestOf_45 ?_
      refine lv_iload_n hx hb dX2_nearestOf_48 rfl (lv_at hl 2 rfl) ?_
      refine lv_iload hx hb dX2_nearestOf_49 (lv_at hl 5 rfl) ?_
      obtain ⟨q2, hq2, hf⟩ := bi_s hf
      refine bk_VI (wf := cw) (q0 := 12) (ci := 8) (rest := []) [.int x1, .int x4] C hP hD hS hl.1 (c_X9_away_12 hXo hq2) (cwA_V 2 hts wa_496 wa_869 wa_494 wa_495 wa_22 rfl rfl nd_X9_away ⟨Nat.le_of_ble_eq_true rfl, Nat.le_of_ble_eq_true rfl⟩) rfl rfl rfl rfl (Nat.le_of_ble_eq_true rfl) dX2_nearestOf_51 ⟨Nat.le_of_ble_eq_true rfl, Nat.le_of_ble_eq_true rfl⟩ (fun H locs hP hD hS => ?_)
      refine lv_aload_n hx hb dX2_nearestOf_54 rfl (lv_at hl 1 rfl) ?_
      refine bk_get (wf := cw) (q0 := 55) (ci := 2) (k := 3) (v := .ref (g.2.2 12)) C hP wl_X2 rfl rfl (by decide) wa_148 rfl rfl dX2_nearestOf_55 ?_
      refine lv_iload_n hx hb dX2_nearestOf_58 rfl (lv_at hl 2 rfl) ?_
      refine lv_iload_n hx hb dX2_nearestOf_59 rfl (lv_at hl 4 rfl) ?_
      obtain ⟨q3, hq3, hf⟩ := bi_s hf
      refine bk_VI (wf := cw) (q0 := 12) (ci := 8) (rest := [.int q2.1]) [.int x1, .int x3] C hP hD hS hl.1 (c_X9_away_12 hXo hq3) (cwA_V 2 hts wa_496 wa_869 wa_494 wa_495 wa_22 rfl rfl nd_X9_away ⟨Nat.le_of_ble_eq_true rfl, Nat.le_of_ble_eq_true rfl⟩) rfl rfl rfl rfl (Nat.le_of_ble_eq_true rfl) dX2_nearestOf_60 ⟨Nat.le_of_ble_eq_true rfl, Nat.le_of_ble_eq_true rfl⟩ (fun H locs hP hD hS => ?_)
      refine lv_icmp_ge (tgt := 69) hx hb dX2_nearestOf_63 (by decide) (fun t63 => ?_) (fun t63 => ?_)
      · have hf := (if_pos t63).symm.trans hf
        exact b_X2_nearestOf_55_b69 C hf k0 k H locs ls hP hD hS (lv_sub hl [1, 2, 3, 4, 5] rfl)
      · have hf := (if_neg t63).symm.trans hf
        exact b_X2_nearestOf_55_b66 C hf k0 k H locs ls hP hD hS (lv_sub hl [1, 2, 3, 5] rfl)
def s_X2_nearestOf_55_h5 (N : Nat) (x1 : Int32) (x2 : Int32) (x3 : Int32) (x4 : Int32) (σ : Sg) : Option (Nat × Int32 × Int32 × Sg) :=
if (σ 12 0) ≤ x4 then (some (1, x3, 0, σ))
else (if ((x2 >>> (x4 &&& 31)) &&& (1 : Int32)) = (1 : Int32) then (f_X2_nearestOf_55_b32 N x1 x2 x3 x4 (1 : Int32) σ)
else (f_X2_nearestOf_55_b32 N x1 x2 x3 x4 (0 : Int32) σ))
set_option maxHeartbeats 4000000 in
set_option maxRecDepth 100000 in
theorem e_X2_nearestOf_55_h5 {N : Nat} {x1 : Int32} {x2 : Int32} {x3 : Int32} {x4 : Int32} {σ : Sg} {z : Nat × Int32 × Int32 × Sg} (C : Cx p s m args meth c cX2_nearestOf 6 (some .int) RX2 g A X) (hf : s_X2_nearestOf_55_h5 N x1 x2 x3 x4 σ = some z) (k0 : z.1 = 0 → Bk cw p l e rm_X2_nearestOf_55 s m args below meth c 6 g A Q 0 0 5 [(0, .ref (g.2.2 55)), (1, .int x1), (2, .int x2), (3, .int z.2.1), (4, .int z.2.2.1)] [] z.2.2.2) (k : ¬ z.1 = 0 → Bk cw p l e rm_X2_nearestOf_55 s m args below meth c 6 g A Q 0 0 75 [(3, .int z.2.1)] [] z.2.2.2) : Bk cw p l e rm_X2_nearestOf_55 s m args below meth c 6 g A Q 0 0 5 [(0, .ref (g.2.2 55)), (1, .int x1), (2, .int x2), (3, .int x3), (4, .int x4)] [] σ := by
  obtain ⟨hx, hb, hr, hml, hown, hts, hK, hlocks, hXX, hA, hXo⟩ := id C
  intro H locs ls hP hD hS hl
  unfold s_X2_nearestOf_55_h5 at hf
  refine lv_iload hx hb dX2_nearestOf_5 (lv_at hl 4 rfl) ?_
  refine lv_aload_n hx hb dX2_nearestOf_7 rfl (lv_at hl 0 rfl) ?_
  refine bk_get (wf := cw) (q0 := 55) (ci := 2) (k := 3) (v := .ref (g.2.2 12)) C hP wl_X2 rfl rfl (by decide) wa_148 rfl rfl dX2_nearestOf_8 ?_
  refine bk_get (wf := cw) (q0 := 12) (ci := 8) (k := 0) (v := .int (σ 12 0)) C hP wl_X9 rfl rfl (by decide) wa_840 rfl rfl dX2_nearestOf_11 ?_
  refine lv_icmp_ge (tgt := 75) hx hb dX2_nearestOf_14 (by decide) (fun t14 => ?_) (fun t14 => ?_)
  · have hf := (if_pos t14).symm.trans hf
    cases hf
    exact (k (show ¬ (1 : Nat) = 0 by decide)) H locs ls hP hD hS (lv_sub hl [3] rfl)
  · have hf := (if_neg t14).symm.trans hf
    refine lv_iload_n hx hb dX2_nearestOf_17 rfl (lv_at hl 2 rfl) ?_
    refine lv_iload hx hb dX2_nearestOf_18 (lv_at hl 4 rfl) ?_
    refine lv_ishr hx hb dX2_nearestOf_20 ?_
    refine lv_iconst (v := (1 : Int32)) hx hb dX2_nearestOf_21 (by decide) ?_
    refine lv_iand hx hb dX2_nearestOf_22 ?_
    refine lv_iconst (v := (1 : Int32)) hx hb dX2_nearestOf_23 (by decide) ?_
    refine lv_icmp_ne (tgt := 31) hx hb dX2_nearestOf_24 (by decide) (fun t24 => ?_) (fun t24 => ?_)
    · have hf := (if_neg t24).symm.trans hf
      refine lv_iconst (v := (0 : Int32)) hx hb dX2_nearestOf_31 (by decide) ?_
      exact b_X2_nearestOf_55_b32 C hf k0 k H locs ls hP hD hS (lv_sub hl [0, 1, 2, 3, 4] rfl)
    · have hf := (if_pos t24).symm.trans hf
      refine lv_iconst (v := (1 : Int32)) hx hb dX2_nearestOf_27 (by decide) ?_
      refine lv_goto (tgt := 32) hx hb dX2_nearestOf_28 (by decide) ?_
      exact b_X2_nearestOf_55_b32 C hf k0 k H locs ls hP hD hS (lv_sub hl [0, 1, 2, 3, 4] rfl)
theorem lp_X2_nearestOf_55_h5 {N : Nat} {n : Nat} {x1 : Int32} {x2 : Int32} {x3 : Int32} {x4 : Int32} {σ : Sg} {z : Nat × Int32 × Int32 × Sg} (C : Cx p s m args meth c cX2_nearestOf 6 (some .int) RX2 g A X) (hz : it (fun q => s_X2_nearestOf_55_h5 N x1 x2 q.1 q.2.1 q.2.2) n (x3, x4, σ) = some z) (k : Bk cw p l e rm_X2_nearestOf_55 s m args below meth c 6 g A Q 0 0 75 [(3, .int z.2.1)] [] z.2.2.2) : Bk cw p l e rm_X2_nearestOf_55 s m args below meth c 6 g A Q 0 0 5 [(0, .ref (g.2.2 55)), (1, .int x1), (2, .int x2), (3, .int x3), (4, .int x4)] [] σ :=
  it_W (S := Int32 × Int32 × Sg) (fun q => Bk cw p l e rm_X2_nearestOf_55 s m args below meth c 6 g A Q 0 0 5 [(0, .ref (g.2.2 55)), (1, .int x1), (2, .int x2), (3, .int q.1), (4, .int q.2.1)] [] q.2.2) (fun z => Bk cw p l e rm_X2_nearestOf_55 s m args below meth c 6 g A Q 0 0 75 [(3, .int z.2.1)] [] z.2.2.2) (fun q z hq k0 k => e_X2_nearestOf_55_h5 C hq k0 k) n (x3, x4, σ) z hz k
def f_X2_nearestOf_55 (N : Nat) (x1 : Int32) (x2 : Int32) (σ : Sg) : Option (Int32 × Sg) :=
(it (fun q => s_X2_nearestOf_55_h5 N x1 x2 q.1 q.2.1 q.2.2) N (x1, (0 : Int32), σ)).bind fun z4 =>
some ((z4.2.1), (z4.2.2.2))
set_option maxHeartbeats 4000000 in
set_option maxRecDepth 100000 in
theorem b_X2_nearestOf_55 {N : Nat} {x1 : Int32} {x2 : Int32} {σ : Sg} {z : Int32 × Sg} (C : Cx p s m args meth c cX2_nearestOf 6 (some .int) RX2 g A X) (hf : f_X2_nearestOf_55 N x1 x2 σ = some z) : Bk cw p l e rm_X2_nearestOf_55 s m args below meth c 6 g A (MQ below (qI cw g A z.1 z.2) args s 0 0 A) 0 0 0 [(0, .ref (g.2.2 55)), (1, .int x1), (2, .int x2)] [] σ := by
  obtain ⟨hx, hb, hr, hml, hown, hts, hK, hlocks, hXX, hA, hXo⟩ := id C
  intro H locs ls hP hD hS hl
  unfold f_X2_nearestOf_55 at hf
  refine lv_iload_n hx hb dX2_nearestOf_0 rfl (lv_at hl 1 rfl) ?_
  refine lv_istore_n (lv' := [(3, .int x1), (0, .ref (g.2.2 55)), (1, .int x1), (2, .int x2)]) hx hb dX2_nearestOf_1 rfl hl (by decide) rfl (fun ls hl => ?_)
  refine lv_iconst (v := (0 : Int32)) hx hb dX2_nearestOf_2 (by decide) ?_
  refine lv_istore (lv' := [(4, .int (0 : Int32)), (3, .int x1), (0, .ref (g.2.2 55)), (1, .int x1), (2, .int x2)]) hx hb dX2_nearestOf_3 hl (by decide) rfl (fun ls hl => ?_)
  obtain ⟨z4, hz4, hf⟩ := bi_s hf
  refine lp_X2_nearestOf_55_h5 C hz4 ?_ H locs ls hP hD hS (lv_sub hl [2, 3, 4, 1, 0] rfl)
  intro H locs ls hP hD hS hl
  refine lv_iload_n hx hb dX2_nearestOf_75 rfl (lv_at hl 0 rfl) ?_
  cases hf
  exact bk_iret C hP hD hS rfl dX2_nearestOf_76
theorem c_X2_nearestOf_55 {N : Nat} {x1 : Int32} {x2 : Int32} {σ : Sg} {z : Int32 × Sg} (hX : xOK g X) (hf : f_X2_nearestOf_55 N x1 x2 σ = some z) : MetI l yX2_nearestOf (Cond.code yX2_nearestOf cX2_nearestOf 6 (some .int) :: wsA) rm_X2_nearestOf_55 cw g X [.ref (g.2.2 55), .int x1, .int x2] σ z.1 z.2 :=
  MetI_of hX (by decide) (Nat.le_of_ble_eq_true rfl) (fun p e s m args below meth c A C => b_X2_nearestOf_55 C hf)
-- X4_joined: joined(III)I
abbrev rm_X4_joined : Room := { frames := 0, cells := 0, slots := 0, locals := 0 }
theorem nd_X4_joined : yX4_joined.cls ≠ "java/lang/invoke/MethodHandle" ∧ yX4_joined.cls ≠ "java/lang/invoke/VarHandle" ∧ (parseMethodDescriptor yX4_joined.desc).map (fun d => d.parameters.length) = some 3 := by decide +kernel
def f_X4_joined_b70 (N : Nat) (σ : Sg) : Option (Int32 × Sg) :=
some ((0 : Int32), σ)
set_option maxHeartbeats 4000000 in
set_option maxRecDepth 100000 in
theorem b_X4_joined_b70 {N : Nat} {σ : Sg} {z : Int32 × Sg} (C : Cx p s m args meth c cX4_joined 3 (some .int) RX4 g A X) (hf : f_X4_joined_b70 N σ = some z) : Bk cw p l e rm_X4_joined s m args below meth c 3 g A (MQ below (qI cw g A z.1 z.2) args s 0 0 A) 0 0 70 [] [] σ := by
  obtain ⟨hx, hb, hr, hml, hown, hts, hK, hlocks, hXX, hA, hXo⟩ := id C
  intro H locs ls hP hD hS hl
  unfold f_X4_joined_b70 at hf
  refine lv_iconst (v := (0 : Int32)) hx hb dX4_joined_70 (by decide) ?_
  cases hf
  exact bk_iret C hP hD hS rfl dX4_joined_71
def f_X4_joined_b52 (N : Nat) (σ : Sg) : Option (Int32 × Sg) :=
some ((1 : Int32), σ)
set_option maxHeartbeats 4000000 in
set_option maxRecDepth 100000 in
theorem b_X4_joined_b52 {N : Nat} {σ : Sg} {z : Int32 × Sg} (C : Cx p s m args meth c cX4_joined 3 (some .int) RX4 g A X) (hf : f_X4_joined_b52 N σ = some z) : Bk cw p l e rm_X4_joined s m args below meth c 3 g A (MQ below (qI cw g A z.1 z.2) args s 0 0 A) 0 0 52 [] [] σ := by
  obtain ⟨hx, hb, hr, hml, hown, hts, hK, hlocks, hXX, hA, hXo⟩ := id C
  intro H locs ls hP hD hS hl
  unfold f_X4_joined_b52 at hf
  refine lv_iconst (v := (1 : Int32)) hx hb dX4_joined_52 (by decide) ?_
  refine lv_goto (tgt := 57) hx hb dX4_joined_53 (by decide) ?_
  cases hf
  exact bk_iret C hP hD hS rfl dX4_joined_57
def f_X4_joined (N : Nat) (x0 : Int32) (x1 : Int32) (x2 : Int32) (σ : Sg) : Option (Int32 × Sg) :=
if ((x0).toInt < -14 ∨ -8 < (x0).toInt) then (if x2 = 0 then (some ((0 : Int32), σ))
else (if x2 = 0 then none else
some ((x1 / x2), σ)))
else if x0 = (-14 : Int32) then (some ((x1 * x2), σ))
else if x0 = (-13 : Int32) then (some ((x1 - x2), σ))
else if x0 = (-12 : Int32) then (some ((x1 + x2), σ))
else if x0 = (-11 : Int32) then (if x1 = x2 then (some ((1 : Int32), σ))
else (some ((0 : Int32), σ)))
else if x0 = (-10 : Int32) then (if x2 ≤ x1 then (some ((0 : Int32), σ))
else (some ((1 : Int32), σ)))
else if x0 = (-9 : Int32) then (if x1 = 0 then (f_X4_joined_b70 N σ)
else (if x2 = 0 then (f_X4_joined_b70 N σ)
else (some ((1 : Int32), σ))))
else if x0 = (-8 : Int32) then (if x1 = 0 then (if x2 = 0 then (some ((0 : Int32), σ))
else (f_X4_joined_b52 N σ))
else (f_X4_joined_b52 N σ))
else none
set_option maxHeartbeats 4000000 in
set_option maxRecDepth 100000 in
theorem b_X4_joined {N : Nat} {x0 : Int32} {x1 : Int32} {x2 : Int32} {σ : Sg} {z : Int32 × Sg} (C : Cx p s m args meth c cX4_joined 3 (some .int) RX4 g A X) (hf : f_X4_joined N x0 x1 x2 σ = some z) : Bk cw p l e rm_X4_joined s m args below meth c 3 g A (MQ below (qI cw g A z.1 z.2) args s 0 0 A) 0 0 0 [(0, .int x0), (1, .int x1), (2, .int x2)] [] σ := by
  obtain ⟨hx, hb, hr, hml, hown, hts, hK, hlocks, hXX, hA, hXo⟩ := id C
  intro H locs ls hP hD hS hl
  unfold f_X4_joined at hf
  refine lv_iload_n hx hb dX4_joined_0 rfl (lv_at hl 0 rfl) ?_
  by_cases t1 : ((x0).toInt < -14 ∨ -8 < (x0).toInt)
  · have hf := (if_pos t1).symm.trans hf
    refine lv_tableOut (tgt := 106) hx hb dX4_joined_1 t1 (by decide) ?_
    refine lv_iload_n hx hb dX4_joined_106 rfl (lv_at hl 2 rfl) ?_
    refine lv_if_ne (tgt := 114) hx hb dX4_joined_107 (by decide) (fun t107 => ?_) (fun t107 => ?_)
    · have hf := (if_neg t107).symm.trans hf
      refine lv_iload_n hx hb dX4_joined_114 rfl (lv_at hl 1 rfl) ?_
      refine lv_iload_n hx hb dX4_joined_115 rfl (lv_at hl 2 rfl) ?_
      obtain ⟨g1, hf⟩ := gd_s hf
      refine lv_idiv hx hb dX4_joined_116 g1 ?_
      cases hf
      exact bk_iret C hP hD hS rfl dX4_joined_117
    · have hf := (if_pos t107).symm.trans hf
      refine lv_iconst (v := (0 : Int32)) hx hb dX4_joined_110 (by decide) ?_
      refine lv_goto (tgt := 117) hx hb dX4_joined_111 (by decide) ?_
      cases hf
      exact bk_iret C hP hD hS rfl dX4_joined_117
  · have hf := (if_neg t1).symm.trans hf
    have t1l := fun q => t1 (Or.inl q)
    have t1h := fun q => t1 (Or.inr q)
    by_cases u1_0 : x0 = (-14 : Int32)
    · have hf := (if_pos u1_0).symm.trans hf
      refine lv_tableIn (off := 101) (tgt := 102) hx hb dX4_joined_1 t1l t1h (by rw [u1_0]; rfl) (by decide) ?_
      refine lv_iload_n hx hb dX4_joined_102 rfl (lv_at hl 1 rfl) ?_
      refine lv_iload_n hx hb dX4_joined_103 rfl (lv_at hl 2 rfl) ?_
      refine lv_imul hx hb dX4_joined_104 ?_
      cases hf
      exact bk_iret C hP hD hS rfl dX4_joined_105
    · have hf := (if_neg u1_0).symm.trans hf
      by_cases u1_1 : x0 = (-13 : Int32)
      · have hf := (if_pos u1_1).symm.trans hf
        refine lv_tableIn (off := 97) (tgt := 98) hx hb dX4_joined_1 t1l t1h (by rw [u1_1]; rfl) (by decide) ?_
        refine lv_iload_n hx hb dX4_joined_98 rfl (lv_at hl 1 rfl) ?_
        refine lv_iload_n hx hb dX4_joined_99 rfl (lv_at hl 2 rfl) ?_
        refine lv_isub hx hb dX4_joined_100 ?_
        cases hf
        exact bk_iret C hP hD hS rfl dX4_joined_101
      · have hf := (if_neg u1_1).symm.trans hf
        by_cases u1_2 : x0 = (-12 : Int32)
        · have hf := (if_pos u1_2).symm.trans hf
          refine lv_tableIn (off := 93) (tgt := 94) hx hb dX4_joined_1 t1l t1h (by rw [u1_2]; rfl) (by decide) ?_
          refine lv_iload_n hx hb dX4_joined_94 rfl (lv_at hl 1 rfl) ?_
          refine lv_iload_n hx hb dX4_joined_95 rfl (lv_at hl 2 rfl) ?_
          refine lv_iadd hx hb dX4_joined_96 ?_
          cases hf
          exact bk_iret C hP hD hS rfl dX4_joined_97
        · have hf := (if_neg u1_2).symm.trans hf
          by_cases u1_3 : x0 = (-11 : Int32)
          · have hf := (if_pos u1_3).symm.trans hf
            refine lv_tableIn (off := 82) (tgt := 83) hx hb dX4_joined_1 t1l t1h (by rw [u1_3]; rfl) (by decide) ?_
            refine lv_iload_n hx hb dX4_joined_83 rfl (lv_at hl 1 rfl) ?_
            refine lv_iload_n hx hb dX4_joined_84 rfl (lv_at hl 2 rfl) ?_
            refine lv_icmp_ne (tgt := 92) hx hb dX4_joined_85 (by decide) (fun t85 => ?_) (fun t85 => ?_)
            · have hf := (if_neg t85).symm.trans hf
              refine lv_iconst (v := (0 : Int32)) hx hb dX4_joined_92 (by decide) ?_
              cases hf
              exact bk_iret C hP hD hS rfl dX4_joined_93
            · have hf := (if_pos t85).symm.trans hf
              refine lv_iconst (v := (1 : Int32)) hx hb dX4_joined_88 (by decide) ?_
              refine lv_goto (tgt := 93) hx hb dX4_joined_89 (by decide) ?_
              cases hf
              exact bk_iret C hP hD hS rfl dX4_joined_93
          · have hf := (if_neg u1_3).symm.trans hf
            by_cases u1_4 : x0 = (-10 : Int32)
            · have hf := (if_pos u1_4).symm.trans hf
              refine lv_tableIn (off := 71) (tgt := 72) hx hb dX4_joined_1 t1l t1h (by rw [u1_4]; rfl) (by decide) ?_
              refine lv_iload_n hx hb dX4_joined_72 rfl (lv_at hl 1 rfl) ?_
              refine lv_iload_n hx hb dX4_joined_73 rfl (lv_at hl 2 rfl) ?_
              refine lv_icmp_ge (tgt := 81) hx hb dX4_joined_74 (by decide) (fun t74 => ?_) (fun t74 => ?_)
              · have hf := (if_pos t74).symm.trans hf
                refine lv_iconst (v := (0 : Int32)) hx hb dX4_joined_81 (by decide) ?_
                cases hf
                exact bk_iret C hP hD hS rfl dX4_joined_82
              · have hf := (if_neg t74).symm.trans hf
                refine lv_iconst (v := (1 : Int32)) hx hb dX4_joined_77 (by decide) ?_
                refine lv_goto (tgt := 82) hx hb dX4_joined_78 (by decide) ?_
                cases hf
                exact bk_iret C hP hD hS rfl dX4_joined_82
            · have hf := (if_neg u1_4).symm.trans hf
              by_cases u1_5 : x0 = (-9 : Int32)
              · have hf := (if_pos u1_5).symm.trans hf
                refine lv_tableIn (off := 57) (tgt := 58) hx hb dX4_joined_1 t1l t1h (by rw [u1_5]; rfl) (by decide) ?_
                refine lv_iload_n hx hb dX4_joined_58 rfl (lv_at hl 1 rfl) ?_
                refine lv_if_eq (tgt := 70) hx hb dX4_joined_59 (by decide) (fun t59 => ?_) (fun t59 => ?_)
                · have hf := (if_pos t59).symm.trans hf
                  exact b_X4_joined_b70 C hf H locs ls hP hD hS (lv_sub hl [] rfl)
                · have hf := (if_neg t59).symm.trans hf
                  refine lv_iload_n hx hb dX4_joined_62 rfl (lv_at hl 2 rfl) ?_
                  refine lv_if_eq (tgt := 70) hx hb dX4_joined_63 (by decide) (fun t63 => ?_) (fun t63 => ?_)
                  · have hf := (if_pos t63).symm.trans hf
                    exact b_X4_joined_b70 C hf H locs ls hP hD hS (lv_sub hl [] rfl)
                  · have hf := (if_neg t63).symm.trans hf
                    refine lv_iconst (v := (1 : Int32)) hx hb dX4_joined_66 (by decide) ?_
                    refine lv_goto (tgt := 71) hx hb dX4_joined_67 (by decide) ?_
                    cases hf
                    exact bk_iret C hP hD hS rfl dX4_joined_71
              · have hf := (if_neg u1_5).symm.trans hf
                by_cases u1_6 : x0 = (-8 : Int32)
                · have hf := (if_pos u1_6).symm.trans hf
                  refine lv_tableIn (off := 43) (tgt := 44) hx hb dX4_joined_1 t1l t1h (by rw [u1_6]; rfl) (by decide) ?_
                  refine lv_iload_n hx hb dX4_joined_44 rfl (lv_at hl 1 rfl) ?_
                  refine lv_if_ne (tgt := 52) hx hb dX4_joined_45 (by decide) (fun t45 => ?_) (fun t45 => ?_)
                  · have hf := (if_neg t45).symm.trans hf
                    exact b_X4_joined_b52 C hf H locs ls hP hD hS (lv_sub hl [] rfl)
                  · have hf := (if_pos t45).symm.trans hf
                    refine lv_iload_n hx hb dX4_joined_48 rfl (lv_at hl 2 rfl) ?_
                    refine lv_if_eq (tgt := 56) hx hb dX4_joined_49 (by decide) (fun t49 => ?_) (fun t49 => ?_)
                    · have hf := (if_pos t49).symm.trans hf
                      refine lv_iconst (v := (0 : Int32)) hx hb dX4_joined_56 (by decide) ?_
                      cases hf
                      exact bk_iret C hP hD hS rfl dX4_joined_57
                    · have hf := (if_neg t49).symm.trans hf
                      exact b_X4_joined_b52 C hf H locs ls hP hD hS (lv_sub hl [] rfl)
                · have hf := (if_neg u1_6).symm.trans hf
                  cases hf
theorem c_X4_joined {N : Nat} {x0 : Int32} {x1 : Int32} {x2 : Int32} {σ : Sg} {z : Int32 × Sg} (hX : xOK g X) (hf : f_X4_joined N x0 x1 x2 σ = some z) : MetI l yX4_joined (Cond.code yX4_joined cX4_joined 3 (some .int) :: wsA) rm_X4_joined cw g X [.int x0, .int x1, .int x2] σ z.1 z.2 :=
  MetI_of hX (by decide) (Nat.le_of_ble_eq_true rfl) (fun p e s m args below meth c A C => b_X4_joined C hf)
-- X4_answer_18_62: answer([I)I
abbrev rm_X4_answer_18_62 : Room := { frames := 1, cells := 0, slots := 0, locals := 22 }
theorem nd_X4_answer : yX4_answer.cls ≠ "java/lang/invoke/MethodHandle" ∧ yX4_answer.cls ≠ "java/lang/invoke/VarHandle" ∧ (parseMethodDescriptor yX4_answer.desc).map (fun d => d.parameters.length) = some 1 := by decide +kernel
def f_X4_answer_18_62_b134 (N : Nat) (x2 : Int32) (x3 : Int32) (σ : Sg) : Option (Nat × Int32 × Int32 × Sg) :=
bd (x3 + (1 : Int32)) fun v1 =>
some (0, x2, v1, σ)
set_option maxHeartbeats 4000000 in
set_option maxRecDepth 100000 in
theorem b_X4_answer_18_62_b134 {N : Nat} {x2 : Int32} {x3 : Int32} {σ : Sg} {z : Nat × Int32 × Int32 × Sg} (C : Cx p s m args meth c cX4_answer 5 (some .int) RX4 g A X) (hf : f_X4_answer_18_62_b134 N x2 x3 σ = some z) (k0 : z.1 = 0 → Bk cw p l e rm_X4_answer_18_62 s m args below meth c 5 g A Q 0 0 4 [(0, .ref (g.2.2 18)), (1, .ref (g.2.2 62)), (2, .int z.2.1), (3, .int z.2.2.1)] [] z.2.2.2) (k : ¬ z.1 = 0 → Bk cw p l e rm_X4_answer_18_62 s m args below meth c 5 g A Q 0 0 140 [(0, .ref (g.2.2 18))] [] z.2.2.2) : Bk cw p l e rm_X4_answer_18_62 s m args below meth c 5 g A Q 0 0 134 [(0, .ref (g.2.2 18)), (1, .ref (g.2.2 62)), (2, .int x2), (3, .int x3)] [] σ := by
  obtain ⟨hx, hb, hr, hml, hown, hts, hK, hlocks, hXX, hA, hXo⟩ := id C
  intro H locs ls hP hD hS hl
  unfold f_X4_answer_18_62_b134 at hf
  obtain ⟨v1, ev1, hf⟩ := bd_s hf
  refine lv_iinc (v := v1) (lv' := [(3, .int v1), (0, .ref (g.2.2 18)), (1, .ref (g.2.2 62)), (2, .int x2)]) hx hb dX4_answer_134 hl (k := 3) rfl (by rw [ev1]; rfl) (by decide) rfl (fun ls hl => ?_)
  refine lv_goto (tgt := 4) hx hb dX4_answer_137 (by decide) ?_
  cases hf
  exact k0 rfl H locs ls hP hD hS (lv_sub hl [1, 2, 3, 0] rfl)
def f_X4_answer_18_62_b95 (N : Nat) (x2 : Int32) (x3 : Int32) (t1 : Int32) (t2 : Int32) (σ : Sg) : Option (Nat × Int32 × Int32 × Sg) :=
if (t1 < 0 ∨ 31 ≤ t1.toNatClampNeg) then none else
bd (wr σ 20 (t1.toNatClampNeg) t2) fun σ3 =>
f_X4_answer_18_62_b134 N x2 x3 σ3
set_option maxHeartbeats 4000000 in
set_option maxRecDepth 100000 in
theorem b_X4_answer_18_62_b95 {N : Nat} {x2 : Int32} {x3 : Int32} {t1 : Int32} {t2 : Int32} {σ : Sg} {z : Nat × Int32 × Int32 × Sg} (C : Cx p s m args meth c cX4_answer 5 (some .int) RX4 g A X) (hf : f_X4_answer_18_62_b95 N x2 x3 t1 t2 σ = some z) (k0 : z.1 = 0 → Bk cw p l e rm_X4_answer_18_62 s m args below meth c 5 g A Q 0 0 4 [(0, .ref (g.2.2 18)), (1, .ref (g.2.2 62)), (2, .int z.2.1), (3, .int z.2.2.1)] [] z.2.2.2) (k : ¬ z.1 = 0 → Bk cw p l e rm_X4_answer_18_62 s m args below meth c 5 g A Q 0 0 140 [(0, .ref (g.2.2 18))] [] z.2.2.2) : Bk cw p l e rm_X4_answer_18_62 s m args below meth c 5 g A Q 0 0 95 [(0, .ref (g.2.2 18)), (1, .ref (g.2.2 62)), (2, .int x2), (3, .int x3)] [.int t2, .int t1, .ref (g.2.2 20)] σ := by
  obtain ⟨hx, hb, hr, hml, hown, hts, hK, hlocks, hXX, hA, hXo⟩ := id C
  intro H locs ls hP hD hS hl
  unfold f_X4_answer_18_62_b95 at hf
  obtain ⟨g2, hf⟩ := gd_s hf
  obtain ⟨σ3, eσ3, hf⟩ := bd_s hf
  refine bk_iast (wf := cw) (σ1 := σ3) (q0 := 20) (n := 31) (j := t1.toNatClampNeg) C hP hD hS rfl g2 rfl (by rw [eσ3]; exact cw_a20 g _ _ _) dX4_answer_95 (fun H locs hP hD hS => ?_)
  refine lv_goto (tgt := 134) hx hb dX4_answer_96 (by decide) ?_
  exact b_X4_answer_18_62_b134 C hf k0 k H locs ls hP hD hS (lv_sub hl [0, 1, 2, 3] rfl)
def f_X4_answer_18_62_b54 (N : Nat) (x2 : Int32) (x3 : Int32) (t1 : Int32) (t2 : Int32) (σ : Sg) : Option (Nat × Int32 × Int32 × Sg) :=
if (t1 < 0 ∨ 31 ≤ t1.toNatClampNeg) then none else
bd (wr σ 20 (t1.toNatClampNeg) t2) fun σ5 =>
bd (x2 + (1 : Int32)) fun v6 =>
f_X4_answer_18_62_b134 N v6 x3 σ5
set_option maxHeartbeats 4000000 in
set_option maxRecDepth 100000 in
theorem b_X4_answer_18_62_b54 {N : Nat} {x2 : Int32} {x3 : Int32} {t1 : Int32} {t2 : Int32} {σ : Sg} {z : Nat × Int32 × Int32 × Sg} (C : Cx p s m args meth c cX4_answer 5 (some .int) RX4 g A X) (hf : f_X4_answer_18_62_b54 N x2 x3 t1 t2 σ = some z) (k0 : z.1 = 0 → Bk cw p l e rm_X4_answer_18_62 s m args below meth c 5 g A Q 0 0 4 [(0, .ref (g.2.2 18)), (1, .ref (g.2.2 62)), (2, .int z.2.1), (3, .int z.2.2.1)] [] z.2.2.2) (k : ¬ z.1 = 0 → Bk cw p l e rm_X4_answer_18_62 s m args below meth c 5 g A Q 0 0 140 [(0, .ref (g.2.2 18))] [] z.2.2.2) : Bk cw p l e rm_X4_answer_18_62 s m args below meth c 5 g A Q 0 0 54 [(0, .ref (g.2.2 18)), (1, .ref (g.2.2 62)), (2, .int x2), (3, .int x3)] [.int t2, .int t1, .ref (g.2.2 20)] σ := by
  obtain ⟨hx, hb, hr, hml, hown, hts, hK, hlocks, hXX, hA, hXo⟩ := id C
  intro H locs ls hP hD hS hl
  unfold f_X4_answer_18_62_b54 at hf
  obtain ⟨g4, hf⟩ := gd_s hf
  obtain ⟨σ5, eσ5, hf⟩ := bd_s hf
  refine bk_iast (wf := cw) (σ1 := σ5) (q0 := 20) (n := 31) (j := t1.toNatClampNeg) C hP hD hS rfl g4 rfl (by rw [eσ5]; exact cw_a20 g _ _ _) dX4_answer_54 (fun H locs hP hD hS => ?_)
  obtain ⟨v6, ev6, hf⟩ := bd_s hf
  refine lv_iinc (v := v6) (lv' := [(2, .int v6), (0, .ref (g.2.2 18)), (1, .ref (g.2.2 62)), (3, .int x3)]) hx hb dX4_answer_55 hl (k := 2) rfl (by rw [ev6]; rfl) (by decide) rfl (fun ls hl => ?_)
  refine lv_goto (tgt := 134) hx hb dX4_answer_58 (by decide) ?_
  exact b_X4_answer_18_62_b134 C hf k0 k H locs ls hP hD hS (lv_sub hl [1, 2, 0, 3] rfl)
def s_X4_answer_18_62_h4 (N : Nat) (x2 : Int32) (x3 : Int32) (σ : Sg) : Option (Nat × Int32 × Int32 × Sg) :=
if (σ 18 0) ≤ x3 then (some (1, 0, 0, σ))
else (if (x3 < 0 ∨ 700 ≤ x3.toNatClampNeg) then none else
bd (σ 19 x3.toNatClampNeg) fun v8 =>
if v8 < (-6 : Int32) then (if v8 = (-7 : Int32) then (if x2 ≤ 0 then (f_X4_answer_18_62_b134 N x2 x3 σ)
else (if ((x2 - (1 : Int32)) < 0 ∨ 31 ≤ (x2 - (1 : Int32)).toNatClampNeg) then none else
if (σ 20 (x2 - (1 : Int32)).toNatClampNeg) = 0 then (f_X4_answer_18_62_b95 N x2 x3 (x2 - (1 : Int32)) (1 : Int32) σ)
else (f_X4_answer_18_62_b95 N x2 x3 (x2 - (1 : Int32)) (0 : Int32) σ)))
else (if x2 ≤ (1 : Int32) then (f_X4_answer_18_62_b134 N x2 x3 σ)
else (bd (x2 + (-1 : Int32)) fun v9 =>
if ((v9 - (1 : Int32)) < 0 ∨ 31 ≤ (v9 - (1 : Int32)).toNatClampNeg) then none else
if (v9 < 0 ∨ 31 ≤ v9.toNatClampNeg) then none else
(f_X4_joined N v8 (σ 20 (v9 - (1 : Int32)).toNatClampNeg) (σ 20 v9.toNatClampNeg) σ).bind fun q12 =>
if ((v9 - (1 : Int32)) < 0 ∨ 31 ≤ (v9 - (1 : Int32)).toNatClampNeg) then none else
bd (wr (q12.2) 20 ((v9 - (1 : Int32)).toNatClampNeg) q12.1) fun σ14 =>
f_X4_answer_18_62_b134 N v9 x3 σ14)))
else (if (31 : Int32) ≤ x2 then (f_X4_answer_18_62_b134 N x2 x3 σ)
else (if v8 < 0 then (if (((-1 : Int32) - v8) < 0 ∨ 6 ≤ ((-1 : Int32) - v8).toNatClampNeg) then none else
f_X4_answer_18_62_b54 N x2 x3 x2 (σ 62 ((-1 : Int32) - v8).toNatClampNeg) σ)
else (f_X4_answer_18_62_b54 N x2 x3 x2 v8 σ))))
set_option maxHeartbeats 4000000 in
set_option maxRecDepth 100000 in
theorem e_X4_answer_18_62_h4 {N : Nat} {x2 : Int32} {x3 : Int32} {σ : Sg} {z : Nat × Int32 × Int32 × Sg} (C : Cx p s m args meth c cX4_answer 5 (some .int) RX4 g A X) (hf : s_X4_answer_18_62_h4 N x2 x3 σ = some z) (k0 : z.1 = 0 → Bk cw p l e rm_X4_answer_18_62 s m args below meth c 5 g A Q 0 0 4 [(0, .ref (g.2.2 18)), (1, .ref (g.2.2 62)), (2, .int z.2.1), (3, .int z.2.2.1)] [] z.2.2.2) (k : ¬ z.1 = 0 → Bk cw p l e rm_X4_answer_18_62 s m args below meth c 5 g A Q 0 0 140 [(0, .ref (g.2.2 18))] [] z.2.2.2) : Bk cw p l e rm_X4_answer_18_62 s m args below meth c 5 g A Q 0 0 4 [(0, .ref (g.2.2 18)), (1, .ref (g.2.2 62)), (2, .int x2), (3, .int x3)] [] σ := by
  obtain ⟨hx, hb, hr, hml, hown, hts, hK, hlocks, hXX, hA, hXo⟩ := id C
  intro H locs ls hP hD hS hl
  unfold s_X4_answer_18_62_h4 at hf
  refine lv_iload_n hx hb dX4_answer_4 rfl (lv_at hl 3 rfl) ?_
  refine lv_aload_n hx hb dX4_answer_5 rfl (lv_at hl 0 rfl) ?_
  refine bk_get (wf := cw) (q0 := 18) (ci := 4) (k := 0) (v := .int (σ 18 0)) C hP wl_X4 rfl rfl (by decide) wa_85 rfl rfl dX4_answer_6 ?_
  refine lv_icmp_ge (tgt := 140) hx hb dX4_answer_9 (by decide) (fun t9 => ?_) (fun t9 => ?_)
  · have hf := (if_pos t9).symm.trans hf
    cases hf
    exact (k (show ¬ (1 : Nat) = 0 by decide)) H locs ls hP hD hS (lv_sub hl [0] rfl)
  · have hf := (if_neg t9).symm.trans hf
    refine lv_aload_n hx hb dX4_answer_12 rfl (lv_at hl 0 rfl) ?_
    refine bk_get (wf := cw) (q0 := 18) (ci := 4) (k := 1) (v := .ref (g.2.2 19)) C hP wl_X4 rfl rfl (by decide) wa_86 rfl rfl dX4_answer_13 ?_
    refine lv_iload_n hx hb dX4_answer_16 rfl (lv_at hl 3 rfl) ?_
    obtain ⟨g7, hf⟩ := gd_s hf
    refine bk_iald (wf := cw) (q0 := 19) (n := 700) (j := x3.toNatClampNeg) C hP rfl g7 rfl dX4_answer_17 ?_
    obtain ⟨v8, ev8, hf⟩ := bd_s hf
    rw [← ev8]
    refine lv_istore (lv' := [(4, .int v8), (0, .ref (g.2.2 18)), (1, .ref (g.2.2 62)), (2, .int x2), (3, .int x3)]) hx hb dX4_answer_18 hl (by decide) rfl (fun ls hl => ?_)
    refine lv_iload hx hb dX4_answer_20 (lv_at hl 0 rfl) ?_
    refine lv_bipush (v := (-6 : Int32)) hx hb dX4_answer_22 (by decide) ?_
    refine lv_icmp_lt (tgt := 61) hx hb dX4_answer_24 (by decide) (fun t24 => ?_) (fun t24 => ?_)
    · have hf := (if_pos t24).symm.trans hf
      refine lv_iload hx hb dX4_answer_61 (lv_at hl 0 rfl) ?_
      refine lv_bipush (v := (-7 : Int32)) hx hb dX4_answer_63 (by decide) ?_
      refine lv_icmp_ne (tgt := 99) hx hb dX4_answer_65 (by decide) (fun t65 => ?_) (fun t65 => ?_)
      · have hf := (if_neg t65).symm.trans hf
        refine lv_iload_n hx hb dX4_answer_99 rfl (lv_at hl 3 rfl) ?_
        refine lv_iconst (v := (1 : Int32)) hx hb dX4_answer_100 (by decide) ?_
        refine lv_icmp_le (tgt := 134) hx hb dX4_answer_101 (by decide) (fun t101 => ?_) (fun t101 => ?_)
        · have hf := (if_pos t101).symm.trans hf
          exact b_X4_answer_18_62_b134 C hf k0 k H locs ls hP hD hS (lv_sub hl [1, 2, 3, 4] rfl)
        · have hf := (if_neg t101).symm.trans hf
          obtain ⟨v9, ev9, hf⟩ := bd_s hf
          refine lv_iinc (v := v9) (lv' := [(2, .int v9), (4, .int v8), (0, .ref (g.2.2 18)), (1, .ref (g.2.2 62)), (3, .int x3)]) hx hb dX4_answer_104 hl (k := 3) rfl (by rw [ev9]; rfl) (by decide) rfl (fun ls hl => ?_)
          refine lv_aload_n hx hb dX4_answer_107 rfl (lv_at hl 2 rfl) ?_
          refine bk_get (wf := cw) (q0 := 18) (ci := 4) (k := 2) (v := .ref (g.2.2 20)) C hP wl_X4 rfl rfl (by decide) wa_87 rfl rfl dX4_answer_108 ?_
          refine lv_iload_n hx hb dX4_answer_111 rfl (lv_at hl 0 rfl) ?_
          refine lv_iconst (v := (1 : Int32)) hx hb dX4_answer_112 (by decide) ?_
          refine lv_isub hx hb dX4_answer_113 ?_
          refine lv_iload hx hb dX4_answer_114 (lv_at hl 1 rfl) ?_
          refine lv_aload_n hx hb dX4_answer_116 rfl (lv_at hl 2 rfl) ?_
          refine bk_get (wf := cw) (q0 := 18) (ci := 4) (k := 2) (v := .ref (g.2.2 20)) C hP wl_X4 rfl rfl (by decide) wa_87 rfl rfl dX4_answer_117 ?_
          refine lv_iload_n hx hb dX4_answer_120 rfl (lv_at hl 0 rfl) ?_
          refine lv_iconst (v := (1 : Int32)) hx hb dX4_answer_121 (by decide) ?_
          refine lv_isub hx hb dX4_answer_122 ?_
          obtain ⟨g10, hf⟩ := gd_s hf
          refine bk_iald (wf := cw) (q0 := 20) (n := 31) (j := (v9 - (1 : Int32)).toNatClampNeg) C hP rfl g10 rfl dX4_answer_123 ?_
          refine lv_aload_n hx hb dX4_answer_124 rfl (lv_at hl 2 rfl) ?_
          refine bk_get (wf := cw) (q0 := 18) (ci := 4) (k := 2) (v := .ref (g.2.2 20)) C hP wl_X4 rfl rfl (by decide) wa_87 rfl rfl dX4_answer_125 ?_
          refine lv_iload_n hx hb dX4_answer_128 rfl (lv_at hl 0 rfl) ?_
          obtain ⟨g11, hf⟩ := gd_s hf
          refine bk_iald (wf := cw) (q0 := 20) (n := 31) (j := v9.toNatClampNeg) C hP rfl g11 rfl dX4_answer_129 ?_
          obtain ⟨q12, hq12, hf⟩ := bi_s hf
          refine bk_SI (wf := cw) (rest := [.int (v9 - (1 : Int32)), .ref (g.2.2 20)]) [.int v8, .int (σ 20 (v9 - (1 : Int32)).toNatClampNeg), .int (σ 20 v9.toNatClampNeg)] C hP hD hS hl.1 (c_X4_joined hXo hq12) (cwA_S 3 hts wa_877 wa_875 wa_876 wa_80 rfl rfl nd_X4_joined ⟨Nat.le_of_ble_eq_true rfl, Nat.le_of_ble_eq_true rfl⟩) rfl rfl (Nat.le_of_ble_eq_true rfl) dX4_answer_130 ⟨Nat.le_of_ble_eq_true rfl, Nat.le_of_ble_eq_true rfl⟩ (fun H locs hP hD hS => ?_)
          obtain ⟨g13, hf⟩ := gd_s hf
          obtain ⟨σ14, eσ14, hf⟩ := bd_s hf
          refine bk_iast (wf := cw) (σ1 := σ14) (q0 := 20) (n := 31) (j := (v9 - (1 : Int32)).toNatClampNeg) C hP hD hS rfl g13 rfl (by rw [eσ14]; exact cw_a20 g _ _ _) dX4_answer_133 (fun H locs hP hD hS => ?_)
          exact b_X4_answer_18_62_b134 C hf k0 k H locs ls hP hD hS (lv_sub hl [2, 3, 0, 4] rfl)
      · have hf := (if_pos t65).symm.trans hf
        refine lv_iload_n hx hb dX4_answer_68 rfl (lv_at hl 3 rfl) ?_
        refine lv_if_le (tgt := 134) hx hb dX4_answer_69 (by decide) (fun t69 => ?_) (fun t69 => ?_)
        · have hf := (if_pos t69).symm.trans hf
          exact b_X4_answer_18_62_b134 C hf k0 k H locs ls hP hD hS (lv_sub hl [1, 2, 3, 4] rfl)
        · have hf := (if_neg t69).symm.trans hf
          refine lv_aload_n hx hb dX4_answer_72 rfl (lv_at hl 1 rfl) ?_
          refine bk_get (wf := cw) (q0 := 18) (ci := 4) (k := 2) (v := .ref (g.2.2 20)) C hP wl_X4 rfl rfl (by decide) wa_87 rfl rfl dX4_answer_73 ?_
          refine lv_iload_n hx hb dX4_answer_76 rfl (lv_at hl 3 rfl) ?_
          refine lv_iconst (v := (1 : Int32)) hx hb dX4_answer_77 (by decide) ?_
          refine lv_isub hx hb dX4_answer_78 ?_
          refine lv_aload_n hx hb dX4_answer_79 rfl (lv_at hl 1 rfl) ?_
          refine bk_get (wf := cw) (q0 := 18) (ci := 4) (k := 2) (v := .ref (g.2.2 20)) C hP wl_X4 rfl rfl (by decide) wa_87 rfl rfl dX4_answer_80 ?_
          refine lv_iload_n hx hb dX4_answer_83 rfl (lv_at hl 3 rfl) ?_
          refine lv_iconst (v := (1 : Int32)) hx hb dX4_answer_84 (by decide) ?_
          refine lv_isub hx hb dX4_answer_85 ?_
          obtain ⟨g15, hf⟩ := gd_s hf
          refine bk_iald (wf := cw) (q0 := 20) (n := 31) (j := (x2 - (1 : Int32)).toNatClampNeg) C hP rfl g15 rfl dX4_answer_86 ?_
          refine lv_if_ne (tgt := 94) hx hb dX4_answer_87 (by decide) (fun t87 => ?_) (fun t87 => ?_)
          · have hf := (if_neg t87).symm.trans hf
            refine lv_iconst (v := (0 : Int32)) hx hb dX4_answer_94 (by decide) ?_
            exact b_X4_answer_18_62_b95 C hf k0 k H locs ls hP hD hS (lv_sub hl [1, 2, 3, 4] rfl)
          · have hf := (if_pos t87).symm.trans hf
            refine lv_iconst (v := (1 : Int32)) hx hb dX4_answer_90 (by decide) ?_
            refine lv_goto (tgt := 95) hx hb dX4_answer_91 (by decide) ?_
            exact b_X4_answer_18_62_b95 C hf k0 k H locs ls hP hD hS (lv_sub hl [1, 2, 3, 4] rfl)
    · have hf := (if_neg t24).symm.trans hf
      refine lv_iload_n hx hb dX4_answer_27 rfl (lv_at hl 3 rfl) ?_
      refine lv_bipush (v := (31 : Int32)) hx hb dX4_answer_28 (by decide) ?_
      refine lv_icmp_ge (tgt := 134) hx hb dX4_answer_30 (by decide) (fun t30 => ?_) (fun t30 => ?_)
      · have hf := (if_pos t30).symm.trans hf
        exact b_X4_answer_18_62_b134 C hf k0 k H locs ls hP hD hS (lv_sub hl [1, 2, 3, 4] rfl)
      · have hf := (if_neg t30).symm.trans hf
        refine lv_aload_n hx hb dX4_answer_33 rfl (lv_at hl 1 rfl) ?_
        refine bk_get (wf := cw) (q0 := 18) (ci := 4) (k := 2) (v := .ref (g.2.2 20)) C hP wl_X4 rfl rfl (by decide) wa_87 rfl rfl dX4_answer_34 ?_
        refine lv_iload_n hx hb dX4_answer_37 rfl (lv_at hl 3 rfl) ?_
        refine lv_iload hx hb dX4_answer_38 (lv_at hl 0 rfl) ?_
        refine lv_if_lt (tgt := 48) hx hb dX4_answer_40 (by decide) (fun t40 => ?_) (fun t40 => ?_)
        · have hf := (if_pos t40).symm.trans hf
          refine lv_aload_n hx hb dX4_answer_48 rfl (lv_at hl 2 rfl) ?_
          refine lv_iconst (v := (-1 : Int32)) hx hb dX4_answer_49 (by decide) ?_
          refine lv_iload hx hb dX4_answer_50 (lv_at hl 0 rfl) ?_
          refine lv_isub hx hb dX4_answer_52 ?_
          obtain ⟨g16, hf⟩ := gd_s hf
          refine bk_iald (wf := cw) (q0 := 62) (n := 6) (j := ((-1 : Int32) - v8).toNatClampNeg) C hP rfl g16 rfl dX4_answer_53 ?_
          exact b_X4_answer_18_62_b54 C hf k0 k H locs ls hP hD hS (lv_sub hl [1, 2, 3, 4] rfl)
        · have hf := (if_neg t40).symm.trans hf
          refine lv_iload hx hb dX4_answer_43 (lv_at hl 0 rfl) ?_
          refine lv_goto (tgt := 54) hx hb dX4_answer_45 (by decide) ?_
          exact b_X4_answer_18_62_b54 C hf k0 k H locs ls hP hD hS (lv_sub hl [1, 2, 3, 4] rfl)
theorem lp_X4_answer_18_62_h4 {N : Nat} {n : Nat} {x2 : Int32} {x3 : Int32} {σ : Sg} {z : Nat × Int32 × Int32 × Sg} (C : Cx p s m args meth c cX4_answer 5 (some .int) RX4 g A X) (hz : it (fun q => s_X4_answer_18_62_h4 N q.1 q.2.1 q.2.2) n (x2, x3, σ) = some z) (k : Bk cw p l e rm_X4_answer_18_62 s m args below meth c 5 g A Q 0 0 140 [(0, .ref (g.2.2 18))] [] z.2.2.2) : Bk cw p l e rm_X4_answer_18_62 s m args below meth c 5 g A Q 0 0 4 [(0, .ref (g.2.2 18)), (1, .ref (g.2.2 62)), (2, .int x2), (3, .int x3)] [] σ :=
  it_W (S := Int32 × Int32 × Sg) (fun q => Bk cw p l e rm_X4_answer_18_62 s m args below meth c 5 g A Q 0 0 4 [(0, .ref (g.2.2 18)), (1, .ref (g.2.2 62)), (2, .int q.1), (3, .int q.2.1)] [] q.2.2) (fun z => Bk cw p l e rm_X4_answer_18_62 s m args below meth c 5 g A Q 0 0 140 [(0, .ref (g.2.2 18))] [] z.2.2.2) (fun q z hq k0 k => e_X4_answer_18_62_h4 C hq k0 k) n (x2, x3, σ) z hz k
def f_X4_answer_18_62 (N : Nat) (σ : Sg) : Option (Int32 × Sg) :=
(it (fun q => s_X4_answer_18_62_h4 N q.1 q.2.1 q.2.2) N ((0 : Int32), (0 : Int32), σ)).bind fun z17 =>
some (((z17.2.2.2) 20 0), (z17.2.2.2))
set_option maxHeartbeats 4000000 in
set_option maxRecDepth 100000 in
theorem b_X4_answer_18_62 {N : Nat} {σ : Sg} {z : Int32 × Sg} (C : Cx p s m args meth c cX4_answer 5 (some .int) RX4 g A X) (hf : f_X4_answer_18_62 N σ = some z) : Bk cw p l e rm_X4_answer_18_62 s m args below meth c 5 g A (MQ below (qI cw g A z.1 z.2) args s 0 0 A) 0 0 0 [(0, .ref (g.2.2 18)), (1, .ref (g.2.2 62))] [] σ := by
  obtain ⟨hx, hb, hr, hml, hown, hts, hK, hlocks, hXX, hA, hXo⟩ := id C
  intro H locs ls hP hD hS hl
  unfold f_X4_answer_18_62 at hf
  refine lv_iconst (v := (0 : Int32)) hx hb dX4_answer_0 (by decide) ?_
  refine lv_istore_n (lv' := [(2, .int (0 : Int32)), (0, .ref (g.2.2 18)), (1, .ref (g.2.2 62))]) hx hb dX4_answer_1 rfl hl (by decide) rfl (fun ls hl => ?_)
  refine lv_iconst (v := (0 : Int32)) hx hb dX4_answer_2 (by decide) ?_
  refine lv_istore_n (lv' := [(3, .int (0 : Int32)), (2, .int (0 : Int32)), (0, .ref (g.2.2 18)), (1, .ref (g.2.2 62))]) hx hb dX4_answer_3 rfl hl (by decide) rfl (fun ls hl => ?_)
  obtain ⟨z17, hz17, hf⟩ := bi_s hf
  refine lp_X4_answer_18_62_h4 C hz17 ?_ H locs ls hP hD hS (lv_sub hl [2, 3, 1, 0] rfl)
  intro H locs ls hP hD hS hl
  refine lv_aload_n hx hb dX4_answer_140 rfl (lv_at hl 0 rfl) ?_
  refine bk_get (wf := cw) (q0 := 18) (ci := 4) (k := 2) (v := .ref (g.2.2 20)) C hP wl_X4 rfl rfl (by decide) wa_87 rfl rfl dX4_answer_141 ?_
  refine lv_iconst (v := (0 : Int32)) hx hb dX4_answer_144 (by decide) ?_
  refine bk_iald (wf := cw) (q0 := 20) (n := 31) (j := 0) C hP rfl (vin_l (by decide) (by decide)) (by decide) dX4_answer_145 ?_
  cases hf
  exact bk_iret C hP hD hS rfl dX4_answer_146
theorem c_X4_answer_18_62 {N : Nat} {σ : Sg} {z : Int32 × Sg} (hX : xOK g X) (hf : f_X4_answer_18_62 N σ = some z) : MetI l yX4_answer (Cond.code yX4_answer cX4_answer 5 (some .int) :: wsA) rm_X4_answer_18_62 cw g X [.ref (g.2.2 18), .ref (g.2.2 62)] σ z.1 z.2 :=
  MetI_of hX (by decide) (Nat.le_of_ble_eq_true rfl) (fun p e s m args below meth c A C => b_X4_answer_18_62 C hf)
-- X2_minds_55: minds(III)Z
abbrev rm_X2_minds_55 : Room := { frames := 3, cells := 0, slots := 0, locals := 71 }
theorem nd_X2_minds : yX2_minds.cls ≠ "java/lang/invoke/MethodHandle" ∧ yX2_minds.cls ≠ "java/lang/invoke/VarHandle" ∧ (parseMethodDescriptor yX2_minds.desc).map (fun d => d.parameters.length) = some 3 := by decide +kernel
def f_X2_minds_55_b28 (N : Nat) (σ : Sg) : Option (Int32 × Sg) :=
some ((1 : Int32), σ)
set_option maxHeartbeats 4000000 in
set_option maxRecDepth 100000 in
theorem b_X2_minds_55_b28 {N : Nat} {σ : Sg} {z : Int32 × Sg} (C : Cx p s m args meth c cX2_minds 5 (some .boolean) RX2 g A X) (hf : f_X2_minds_55_b28 N σ = some z) : Bk cw p l e rm_X2_minds_55 s m args below meth c 5 g A (MQ below (qI cw g A z.1 z.2) args s 0 0 A) 0 0 28 [] [] σ := by
  obtain ⟨hx, hb, hr, hml, hown, hts, hK, hlocks, hXX, hA, hXo⟩ := id C
  intro H locs ls hP hD hS hl
  unfold f_X2_minds_55_b28 at hf
  refine lv_iconst (v := (1 : Int32)) hx hb dX2_minds_28 (by decide) ?_
  cases hf
  exact bk_zret C hP hD hS (by decide) rfl dX2_minds_29
def f_X2_minds_55 (N : Nat) (x1 : Int32) (x2 : Int32) (x3 : Int32) (σ : Sg) : Option (Int32 × Sg) :=
if (σ 18 0) = 0 then (f_X2_minds_55_b28 N σ)
else (if (((σ 12 5) >>> (x1 &&& 31)) &&& (1 : Int32)) = (1 : Int32) then (f_X2_minds_55_b28 N σ)
else ((f_X2_nearestOf_55 N x1 x2 σ).bind fun q1 =>
bd q1.1 fun v2 =>
(f_J6_bitCount_0f7a4 N x2 (q1.2)).bind fun q3 =>
bd (wr (q3.2) 62 0 q3.1) fun σ4 =>
(f_X9_away_12 N x1 v2 σ4).bind fun q5 =>
bd (wr (q5.2) 62 1 q5.1) fun σ6 =>
if (v2 < 0 ∨ 9 ≤ v2.toNatClampNeg) then none else
if (x1 < 0 ∨ 9 ≤ x1.toNatClampNeg) then none else
bd (wr σ6 62 2 ((σ6 14 v2.toNatClampNeg) - (σ6 14 x1.toNatClampNeg))) fun σ9 =>
if (x1 < 0 ∨ 9 ≤ x1.toNatClampNeg) then none else
bd (wr σ9 62 3 (σ9 59 x1.toNatClampNeg)) fun σ11 =>
bd (wr σ11 62 4 x3) fun σ12 =>
bd (wr σ12 62 5 (σ12 56 0)) fun σ13 =>
(f_X4_answer_18_62 N σ13).bind fun q14 =>
if q14.1 ≤ 0 then (some ((0 : Int32), (q14.2)))
else (some ((1 : Int32), (q14.2)))))
set_option maxHeartbeats 4000000 in
set_option maxRecDepth 100000 in
theorem b_X2_minds_55 {N : Nat} {x1 : Int32} {x2 : Int32} {x3 : Int32} {σ : Sg} {z : Int32 × Sg} (C : Cx p s m args meth c cX2_minds 5 (some .boolean) RX2 g A X) (hf : f_X2_minds_55 N x1 x2 x3 σ = some z) : Bk cw p l e rm_X2_minds_55 s m args below meth c 5 g A (MQ below (qI cw g A z.1 z.2) args s 0 0 A) 0 0 0 [(0, .ref (g.2.2 55)), (1, .int x1), (2, .int x2), (3, .int x3)] [] σ := by
  obtain ⟨hx, hb, hr, hml, hown, hts, hK, hlocks, hXX, hA, hXo⟩ := id C
  intro H locs ls hP hD hS hl
  unfold f_X2_minds_55 at hf
  refine lv_aload_n hx hb dX2_minds_0 rfl (lv_at hl 0 rfl) ?_
  refine bk_get (wf := cw) (q0 := 55) (ci := 2) (k := 3) (v := .ref (g.2.2 12)) C hP wl_X2 rfl rfl (by decide) wa_148 rfl rfl dX2_minds_1 ?_
  refine bk_get (wf := cw) (q0 := 12) (ci := 8) (k := 10) (v := .ref (g.2.2 18)) C hP wl_X9 rfl rfl (by decide) wa_861 rfl rfl dX2_minds_4 ?_
  refine bk_get (wf := cw) (q0 := 18) (ci := 4) (k := 0) (v := .int (σ 18 0)) C hP wl_X4 rfl rfl (by decide) wa_862 rfl rfl dX2_minds_7 ?_
  refine lv_if_eq (tgt := 28) hx hb dX2_minds_10 (by decide) (fun t10 => ?_) (fun t10 => ?_)
  · have hf := (if_pos t10).symm.trans hf
    exact b_X2_minds_55_b28 C hf H locs ls hP hD hS (lv_sub hl [] rfl)
  · have hf := (if_neg t10).symm.trans hf
    refine lv_aload_n hx hb dX2_minds_13 rfl (lv_at hl 0 rfl) ?_
    refine bk_get (wf := cw) (q0 := 55) (ci := 2) (k := 3) (v := .ref (g.2.2 12)) C hP wl_X2 rfl rfl (by decide) wa_148 rfl rfl dX2_minds_14 ?_
    refine bk_get (wf := cw) (q0 := 12) (ci := 8) (k := 5) (v := .int (σ 12 5)) C hP wl_X9 rfl rfl (by decide) wa_863 rfl rfl dX2_minds_17 ?_
    refine lv_iload_n hx hb dX2_minds_20 rfl (lv_at hl 1 rfl) ?_
    refine lv_ishr hx hb dX2_minds_21 ?_
    refine lv_iconst (v := (1 : Int32)) hx hb dX2_minds_22 (by decide) ?_
    refine lv_iand hx hb dX2_minds_23 ?_
    refine lv_iconst (v := (1 : Int32)) hx hb dX2_minds_24 (by decide) ?_
    refine lv_icmp_ne (tgt := 30) hx hb dX2_minds_25 (by decide) (fun t25 => ?_) (fun t25 => ?_)
    · have hf := (if_neg t25).symm.trans hf
      refine lv_aload_n hx hb dX2_minds_30 rfl (lv_at hl 0 rfl) ?_
      refine lv_iload_n hx hb dX2_minds_31 rfl (lv_at hl 1 rfl) ?_
      refine lv_iload_n hx hb dX2_minds_32 rfl (lv_at hl 2 rfl) ?_
      obtain ⟨q1, hq1, hf⟩ := bi_s hf
      refine bk_VI (wf := cw) (q0 := 55) (ci := 2) (rest := []) [.int x1, .int x2] C hP hD hS hl.1 (c_X2_nearestOf_55 hXo hq1) (cwA_V 2 hts wa_868 wa_865 wa_866 wa_867 wa_41 rfl rfl nd_X2_nearestOf ⟨Nat.le_of_ble_eq_true rfl, Nat.le_of_ble_eq_true rfl⟩) rfl rfl rfl rfl (Nat.le_of_ble_eq_true rfl) dX2_minds_33 ⟨Nat.le_of_ble_eq_true rfl, Nat.le_of_ble_eq_true rfl⟩ (fun H locs hP hD hS => ?_)
      obtain ⟨v2, ev2, hf⟩ := bd_s hf
      rw [← ev2]
      refine lv_istore (lv' := [(4, .int v2), (0, .ref (g.2.2 55)), (1, .int x1), (2, .int x2), (3, .int x3)]) hx hb dX2_minds_36 hl (by decide) rfl (fun ls hl => ?_)
      refine lv_aload_n hx hb dX2_minds_38 rfl (lv_at hl 1 rfl) ?_
      refine bk_get (wf := cw) (q0 := 55) (ci := 2) (k := 5) (v := .ref (g.2.2 62)) C hP wl_X2 rfl rfl (by decide) wa_147 rfl rfl dX2_minds_39 ?_
      refine lv_iconst (v := (0 : Int32)) hx hb dX2_minds_42 (by decide) ?_
      refine lv_iload_n hx hb dX2_minds_43 rfl (lv_at hl 3 rfl) ?_
      obtain ⟨q3, hq3, hf⟩ := bi_s hf
      refine bk_SI (wf := cw) (rest := [.int (0 : Int32), .ref (g.2.2 62)]) [.int x2] C hP hD hS hl.1 (c_J6_bitCount_0f7a4 hXo hq3) (cwA_S 1 hts wa_699 wa_870 wa_697 wa_698 rfl rfl nd_J6_bitCount_0f7a4 ⟨Nat.le_of_ble_eq_true rfl, Nat.le_of_ble_eq_true rfl⟩) rfl rfl (Nat.le_of_ble_eq_true rfl) dX2_minds_44 ⟨Nat.le_of_ble_eq_true rfl, Nat.le_of_ble_eq_true rfl⟩ (fun H locs hP hD hS => ?_)
      obtain ⟨σ4, eσ4, hf⟩ := bd_s hf
      refine bk_iast (wf := cw) (σ1 := σ4) (q0 := 62) (n := 6) (j := 0) C hP hD hS rfl (vin_l (by decide) (by decide)) (by decide) (by rw [eσ4]; exact cw_a62 g _ _ _) dX2_minds_47 (fun H locs hP hD hS => ?_)
      refine lv_aload_n hx hb dX2_minds_48 rfl (lv_at hl 1 rfl) ?_
      refine bk_get (wf := cw) (q0 := 55) (ci := 2) (k := 5) (v := .ref (g.2.2 62)) C hP wl_X2 rfl rfl (by decide) wa_147 rfl rfl dX2_minds_49 ?_
      refine lv_iconst (v := (1 : Int32)) hx hb dX2_minds_52 (by decide) ?_
      refine lv_aload_n hx hb dX2_minds_53 rfl (lv_at hl 1 rfl) ?_
      refine bk_get (wf := cw) (q0 := 55) (ci := 2) (k := 3) (v := .ref (g.2.2 12)) C hP wl_X2 rfl rfl (by decide) wa_148 rfl rfl dX2_minds_54 ?_
      refine lv_iload_n hx hb dX2_minds_57 rfl (lv_at hl 2 rfl) ?_
      refine lv_iload hx hb dX2_minds_58 (lv_at hl 0 rfl) ?_
      obtain ⟨q5, hq5, hf⟩ := bi_s hf
      refine bk_VI (wf := cw) (q0 := 12) (ci := 8) (rest := [.int (1 : Int32), .ref (g.2.2 62)]) [.int x1, .int v2] C hP hD hS hl.1 (c_X9_away_12 hXo hq5) (cwA_V 2 hts wa_496 wa_869 wa_494 wa_495 wa_22 rfl rfl nd_X9_away ⟨Nat.le_of_ble_eq_true rfl, Nat.le_of_ble_eq_true rfl⟩) rfl rfl rfl rfl (Nat.le_of_ble_eq_true rfl) dX2_minds_60 ⟨Nat.le_of_ble_eq_true rfl, Nat.le_of_ble_eq_true rfl⟩ (fun H locs hP hD hS => ?_)
      obtain ⟨σ6, eσ6, hf⟩ := bd_s hf
      refine bk_iast (wf := cw) (σ1 := σ6) (q0 := 62) (n := 6) (j := 1) C hP hD hS rfl (vin_l (by decide) (by decide)) (by decide) (by rw [eσ6]; exact cw_a62 g _ _ _) dX2_minds_63 (fun H locs hP hD hS => ?_)
      refine lv_aload_n hx hb dX2_minds_64 rfl (lv_at hl 1 rfl) ?_
      refine bk_get (wf := cw) (q0 := 55) (ci := 2) (k := 5) (v := .ref (g.2.2 62)) C hP wl_X2 rfl rfl (by decide) wa_147 rfl rfl dX2_minds_65 ?_
      refine lv_iconst (v := (2 : Int32)) hx hb dX2_minds_68 (by decide) ?_
      refine lv_aload_n hx hb dX2_minds_69 rfl (lv_at hl 1 rfl) ?_
      refine bk_get (wf := cw) (q0 := 55) (ci := 2) (k := 3) (v := .ref (g.2.2 12)) C hP wl_X2 rfl rfl (by decide) wa_148 rfl rfl dX2_minds_70 ?_
      refine bk_get (wf := cw) (q0 := 12) (ci := 8) (k := 2) (v := .ref (g.2.2 14)) C hP wl_X9 rfl rfl (by decide) wa_864 rfl rfl dX2_minds_73 ?_
      refine lv_iload hx hb dX2_minds_76 (lv_at hl 0 rfl) ?_
      obtain ⟨g7, hf⟩ := gd_s hf
      refine bk_iald (wf := cw) (q0 := 14) (n := 9) (j := v2.toNatClampNeg) C hP rfl g7 rfl dX2_minds_78 ?_
      refine lv_aload_n hx hb dX2_minds_79 rfl (lv_at hl 1 rfl) ?_
      refine bk_get (wf := cw) (q0 := 55) (ci := 2) (k := 3) (v := .ref (g.2.2 12)) C hP wl_X2 rfl rfl (by decide) wa_148 rfl rfl dX2_minds_80 ?_
      refine bk_get (wf := cw) (q0 := 12) (ci := 8) (k := 2) (v := .ref (g.2.2 14)) C hP wl_X9 rfl rfl (by decide) wa_864 rfl rfl dX2_minds_83 ?_
      refine lv_iload_n hx hb dX2_minds_86 rfl (lv_at hl 2 rfl) ?_
      obtain ⟨g8, hf⟩ := gd_s hf
      refine bk_iald (wf := cw) (q0 := 14) (n := 9) (j := x1.toNatClampNeg) C hP rfl g8 rfl dX2_minds_87 ?_
      refine lv_isub hx hb dX2_minds_88 ?_
      obtain ⟨σ9, eσ9, hf⟩ := bd_s hf
      refine bk_iast (wf := cw) (σ1 := σ9) (q0 := 62) (n := 6) (j := 2) C hP hD hS rfl (vin_l (by decide) (by decide)) (by decide) (by rw [eσ9]; exact cw_a62 g _ _ _) dX2_minds_89 (fun H locs hP hD hS => ?_)
      refine lv_aload_n hx hb dX2_minds_90 rfl (lv_at hl 1 rfl) ?_
      refine bk_get (wf := cw) (q0 := 55) (ci := 2) (k := 5) (v := .ref (g.2.2 62)) C hP wl_X2 rfl rfl (by decide) wa_147 rfl rfl dX2_minds_91 ?_
      refine lv_iconst (v := (3 : Int32)) hx hb dX2_minds_94 (by decide) ?_
      refine lv_aload_n hx hb dX2_minds_95 rfl (lv_at hl 1 rfl) ?_
      refine bk_get (wf := cw) (q0 := 55) (ci := 2) (k := 0) (v := .ref (g.2.2 56)) C hP wl_X2 rfl rfl (by decide) wa_144 rfl rfl dX2_minds_96 ?_
      refine bk_get (wf := cw) (q0 := 56) (ci := 7) (k := 4) (v := .ref (g.2.2 59)) C hP wl_X7 rfl rfl (by decide) wa_849 rfl rfl dX2_minds_99 ?_
      refine lv_iload_n hx hb dX2_minds_102 rfl (lv_at hl 2 rfl) ?_
      obtain ⟨g10, hf⟩ := gd_s hf
      refine bk_iald (wf := cw) (q0 := 59) (n := 9) (j := x1.toNatClampNeg) C hP rfl g10 rfl dX2_minds_103 ?_
      obtain ⟨σ11, eσ11, hf⟩ := bd_s hf
      refine bk_iast (wf := cw) (σ1 := σ11) (q0 := 62) (n := 6) (j := 3) C hP hD hS rfl (vin_l (by decide) (by decide)) (by decide) (by rw [eσ11]; exact cw_a62 g _ _ _) dX2_minds_104 (fun H locs hP hD hS => ?_)
      refine lv_aload_n hx hb dX2_minds_105 rfl (lv_at hl 1 rfl) ?_
      refine bk_get (wf := cw) (q0 := 55) (ci := 2) (k := 5) (v := .ref (g.2.2 62)) C hP wl_X2 rfl rfl (by decide) wa_147 rfl rfl dX2_minds_106 ?_
      refine lv_iconst (v := (4 : Int32)) hx hb dX2_minds_109 (by decide) ?_
      refine lv_iload_n hx hb dX2_minds_110 rfl (lv_at hl 4 rfl) ?_
      obtain ⟨σ12, eσ12, hf⟩ := bd_s hf
      refine bk_iast (wf := cw) (σ1 := σ12) (q0 := 62) (n := 6) (j := 4) C hP hD hS rfl (vin_l (by decide) (by decide)) (by decide) (by rw [eσ12]; exact cw_a62 g _ _ _) dX2_minds_111 (fun H locs hP hD hS => ?_)
      refine lv_aload_n hx hb dX2_minds_112 rfl (lv_at hl 1 rfl) ?_
      refine bk_get (wf := cw) (q0 := 55) (ci := 2) (k := 5) (v := .ref (g.2.2 62)) C hP wl_X2 rfl rfl (by decide) wa_147 rfl rfl dX2_minds_113 ?_
      refine lv_iconst (v := (5 : Int32)) hx hb dX2_minds_116 (by decide) ?_
      refine lv_aload_n hx hb dX2_minds_117 rfl (lv_at hl 1 rfl) ?_
      refine bk_get (wf := cw) (q0 := 55) (ci := 2) (k := 0) (v := .ref (g.2.2 56)) C hP wl_X2 rfl rfl (by decide) wa_144 rfl rfl dX2_minds_118 ?_
      refine bk_get (wf := cw) (q0 := 56) (ci := 7) (k := 0) (v := .int (σ12 56 0)) C hP wl_X7 rfl rfl (by decide) wa_834 rfl rfl dX2_minds_121 ?_
      obtain ⟨σ13, eσ13, hf⟩ := bd_s hf
      refine bk_iast (wf := cw) (σ1 := σ13) (q0 := 62) (n := 6) (j := 5) C hP hD hS rfl (vin_l (by decide) (by decide)) (by decide) (by rw [eσ13]; exact cw_a62 g _ _ _) dX2_minds_124 (fun H locs hP hD hS => ?_)
      refine lv_aload_n hx hb dX2_minds_125 rfl (lv_at hl 1 rfl) ?_
      refine bk_get (wf := cw) (q0 := 55) (ci := 2) (k := 3) (v := .ref (g.2.2 12)) C hP wl_X2 rfl rfl (by decide) wa_148 rfl rfl dX2_minds_126 ?_
      refine bk_get (wf := cw) (q0 := 12) (ci := 8) (k := 10) (v := .ref (g.2.2 18)) C hP wl_X9 rfl rfl (by decide) wa_861 rfl rfl dX2_minds_129 ?_
      refine lv_aload_n hx hb dX2_minds_132 rfl (lv_at hl 1 rfl) ?_
      refine bk_get (wf := cw) (q0 := 55) (ci := 2) (k := 5) (v := .ref (g.2.2 62)) C hP wl_X2 rfl rfl (by decide) wa_147 rfl rfl dX2_minds_133 ?_
      obtain ⟨q14, hq14, hf⟩ := bi_s hf
      refine bk_VI (wf := cw) (q0 := 18) (ci := 4) (rest := []) [.ref (g.2.2 62)] C hP hD hS hl.1 (c_X4_answer_18_62 hXo hq14) (cwA_V 1 hts wa_874 wa_871 wa_872 wa_873 wa_80 rfl rfl nd_X4_answer ⟨Nat.le_of_ble_eq_true rfl, Nat.le_of_ble_eq_true rfl⟩) rfl rfl rfl rfl (Nat.le_of_ble_eq_true rfl) dX2_minds_136 ⟨Nat.le_of_ble_eq_true rfl, Nat.le_of_ble_eq_true rfl⟩ (fun H locs hP hD hS => ?_)
      refine lv_if_le (tgt := 146) hx hb dX2_minds_139 (by decide) (fun t139 => ?_) (fun t139 => ?_)
      · have hf := (if_pos t139).symm.trans hf
        refine lv_iconst (v := (0 : Int32)) hx hb dX2_minds_146 (by decide) ?_
        cases hf
        exact bk_zret C hP hD hS (by decide) rfl dX2_minds_147
      · have hf := (if_neg t139).symm.trans hf
        refine lv_iconst (v := (1 : Int32)) hx hb dX2_minds_142 (by decide) ?_
        refine lv_goto (tgt := 147) hx hb dX2_minds_143 (by decide) ?_
        cases hf
        exact bk_zret C hP hD hS (by decide) rfl dX2_minds_147
    · have hf := (if_pos t25).symm.trans hf
      exact b_X2_minds_55_b28 C hf H locs ls hP hD hS (lv_sub hl [] rfl)
theorem c_X2_minds_55 {N : Nat} {x1 : Int32} {x2 : Int32} {x3 : Int32} {σ : Sg} {z : Int32 × Sg} (hX : xOK g X) (hf : f_X2_minds_55 N x1 x2 x3 σ = some z) : MetI l yX2_minds (Cond.code yX2_minds cX2_minds 5 (some .boolean) :: wsA) rm_X2_minds_55 cw g X [.ref (g.2.2 55), .int x1, .int x2, .int x3] σ z.1 z.2 :=
  MetI_of hX (by decide) (Nat.le_of_ble_eq_true rfl) (fun p e s m args below meth c A C => b_X2_minds_55 C hf)
-- X2_nodAll_55: nodAll()I
abbrev rm_X2_nodAll_55 : Room := { frames := 1, cells := 0, slots := 0, locals := 24 }
theorem nd_X2_nodAll : yX2_nodAll.cls ≠ "java/lang/invoke/MethodHandle" ∧ yX2_nodAll.cls ≠ "java/lang/invoke/VarHandle" ∧ (parseMethodDescriptor yX2_nodAll.desc).map (fun d => d.parameters.length) = some 0 := by decide +kernel
def f_X2_nodAll_55_b132 (N : Nat) (x1 : Int32) (x2 : Int32) (σ : Sg) : Option (Nat × Int32 × Int32 × Sg) :=
bd (x2 + (1 : Int32)) fun v1 =>
some (0, x1, v1, σ)
set_option maxHeartbeats 4000000 in
set_option maxRecDepth 100000 in
theorem b_X2_nodAll_55_b132 {N : Nat} {x1 : Int32} {x2 : Int32} {σ : Sg} {z : Nat × Int32 × Int32 × Sg} (C : Cx p s m args meth c cX2_nodAll 4 (some .int) RX2 g A X) (hf : f_X2_nodAll_55_b132 N x1 x2 σ = some z) (k0 : z.1 = 0 → Bk cw p l e rm_X2_nodAll_55 s m args below meth c 4 g A Q 0 0 4 [(0, .ref (g.2.2 55)), (1, .int z.2.1), (2, .int z.2.2.1)] [] z.2.2.2) (k : ¬ z.1 = 0 → Bk cw p l e rm_X2_nodAll_55 s m args below meth c 4 g A Q 0 0 138 [(1, .int z.2.1)] [] z.2.2.2) : Bk cw p l e rm_X2_nodAll_55 s m args below meth c 4 g A Q 0 0 132 [(0, .ref (g.2.2 55)), (1, .int x1), (2, .int x2)] [] σ := by
  obtain ⟨hx, hb, hr, hml, hown, hts, hK, hlocks, hXX, hA, hXo⟩ := id C
  intro H locs ls hP hD hS hl
  unfold f_X2_nodAll_55_b132 at hf
  obtain ⟨v1, ev1, hf⟩ := bd_s hf
  refine lv_iinc (v := v1) (lv' := [(2, .int v1), (0, .ref (g.2.2 55)), (1, .int x1)]) hx hb dX2_nodAll_132 hl (k := 2) rfl (by rw [ev1]; rfl) (by decide) rfl (fun ls hl => ?_)
  refine lv_goto (tgt := 4) hx hb dX2_nodAll_135 (by decide) ?_
  cases hf
  exact k0 rfl H locs ls hP hD hS (lv_sub hl [1, 2, 0] rfl)
def f_X2_nodAll_55_b88 (N : Nat) (x1 : Int32) (x2 : Int32) (x3 : Int32) (σ : Sg) : Option (Nat × Int32 × Int32 × Sg) :=
if x3 ≤ 0 then (if (x2 < 0 ∨ 9 ≤ x2.toNatClampNeg) then none else
if (σ 58 x2.toNatClampNeg) ≤ 0 then (f_X2_nodAll_55_b132 N x1 x2 σ)
else (if (x2 < 0 ∨ 9 ≤ x2.toNatClampNeg) then none else
if (x2 < 0 ∨ 9 ≤ x2.toNatClampNeg) then none else
bd (wr σ 58 (x2.toNatClampNeg) ((σ 58 x2.toNatClampNeg) - (1 : Int32))) fun σ5 =>
f_X2_nodAll_55_b132 N x1 x2 σ5))
else (if (x2 < 0 ∨ 9 ≤ x2.toNatClampNeg) then none else
bd (wr σ 57 (x2.toNatClampNeg) (x3 - (1 : Int32))) fun σ7 =>
f_X2_nodAll_55_b132 N x1 x2 σ7)
set_option maxHeartbeats 4000000 in
set_option maxRecDepth 100000 in
theorem b_X2_nodAll_55_b88 {N : Nat} {x1 : Int32} {x2 : Int32} {x3 : Int32} {σ : Sg} {z : Nat × Int32 × Int32 × Sg} (C : Cx p s m args meth c cX2_nodAll 4 (some .int) RX2 g A X) (hf : f_X2_nodAll_55_b88 N x1 x2 x3 σ = some z) (k0 : z.1 = 0 → Bk cw p l e rm_X2_nodAll_55 s m args below meth c 4 g A Q 0 0 4 [(0, .ref (g.2.2 55)), (1, .int z.2.1), (2, .int z.2.2.1)] [] z.2.2.2) (k : ¬ z.1 = 0 → Bk cw p l e rm_X2_nodAll_55 s m args below meth c 4 g A Q 0 0 138 [(1, .int z.2.1)] [] z.2.2.2) : Bk cw p l e rm_X2_nodAll_55 s m args below meth c 4 g A Q 0 0 88 [(0, .ref (g.2.2 55)), (1, .int x1), (2, .int x2), (3, .int x3)] [] σ := by
  obtain ⟨hx, hb, hr, hml, hown, hts, hK, hlocks, hXX, hA, hXo⟩ := id C
  intro H locs ls hP hD hS hl
  unfold f_X2_nodAll_55_b88 at hf
  refine lv_iload_n hx hb dX2_nodAll_88 rfl (lv_at hl 3 rfl) ?_
  refine lv_if_le (tgt := 107) hx hb dX2_nodAll_89 (by decide) (fun t89 => ?_) (fun t89 => ?_)
  · have hf := (if_pos t89).symm.trans hf
    refine lv_aload_n hx hb dX2_nodAll_107 rfl (lv_at hl 0 rfl) ?_
    refine bk_get (wf := cw) (q0 := 55) (ci := 2) (k := 0) (v := .ref (g.2.2 56)) C hP wl_X2 rfl rfl (by decide) wa_144 rfl rfl dX2_nodAll_108 ?_
    refine bk_get (wf := cw) (q0 := 56) (ci := 7) (k := 3) (v := .ref (g.2.2 58)) C hP wl_X7 rfl rfl (by decide) wa_847 rfl rfl dX2_nodAll_111 ?_
    refine lv_iload_n hx hb dX2_nodAll_114 rfl (lv_at hl 2 rfl) ?_
    obtain ⟨g2, hf⟩ := gd_s hf
    refine bk_iald (wf := cw) (q0 := 58) (n := 9) (j := x2.toNatClampNeg) C hP rfl g2 rfl dX2_nodAll_115 ?_
    refine lv_if_le (tgt := 132) hx hb dX2_nodAll_116 (by decide) (fun t116 => ?_) (fun t116 => ?_)
    · have hf := (if_pos t116).symm.trans hf
      exact b_X2_nodAll_55_b132 C hf k0 k H locs ls hP hD hS (lv_sub hl [0, 1, 2] rfl)
    · have hf := (if_neg t116).symm.trans hf
      refine lv_aload_n hx hb dX2_nodAll_119 rfl (lv_at hl 0 rfl) ?_
      refine bk_get (wf := cw) (q0 := 55) (ci := 2) (k := 0) (v := .ref (g.2.2 56)) C hP wl_X2 rfl rfl (by decide) wa_144 rfl rfl dX2_nodAll_120 ?_
      refine bk_get (wf := cw) (q0 := 56) (ci := 7) (k := 3) (v := .ref (g.2.2 58)) C hP wl_X7 rfl rfl (by decide) wa_847 rfl rfl dX2_nodAll_123 ?_
      refine lv_iload_n hx hb dX2_nodAll_126 rfl (lv_at hl 2 rfl) ?_
      refine lv_dup2_11 hx hb dX2_nodAll_127 rfl rfl ?_
      obtain ⟨g3, hf⟩ := gd_s hf
      refine bk_iald (wf := cw) (q0 := 58) (n := 9) (j := x2.toNatClampNeg) C hP rfl g3 rfl dX2_nodAll_128 ?_
      refine lv_iconst (v := (1 : Int32)) hx hb dX2_nodAll_129 (by decide) ?_
      refine lv_isub hx hb dX2_nodAll_130 ?_
      obtain ⟨g4, hf⟩ := gd_s hf
      obtain ⟨σ5, eσ5, hf⟩ := bd_s hf
      refine bk_iast (wf := cw) (σ1 := σ5) (q0 := 58) (n := 9) (j := x2.toNatClampNeg) C hP hD hS rfl g4 rfl (by rw [eσ5]; exact cw_a58 g _ _ _) dX2_nodAll_131 (fun H locs hP hD hS => ?_)
      exact b_X2_nodAll_55_b132 C hf k0 k H locs ls hP hD hS (lv_sub hl [0, 1, 2] rfl)
  · have hf := (if_neg t89).symm.trans hf
    refine lv_aload_n hx hb dX2_nodAll_92 rfl (lv_at hl 0 rfl) ?_
    refine bk_get (wf := cw) (q0 := 55) (ci := 2) (k := 0) (v := .ref (g.2.2 56)) C hP wl_X2 rfl rfl (by decide) wa_144 rfl rfl dX2_nodAll_93 ?_
    refine bk_get (wf := cw) (q0 := 56) (ci := 7) (k := 2) (v := .ref (g.2.2 57)) C hP wl_X7 rfl rfl (by decide) wa_841 rfl rfl dX2_nodAll_96 ?_
    refine lv_iload_n hx hb dX2_nodAll_99 rfl (lv_at hl 2 rfl) ?_
    refine lv_iload_n hx hb dX2_nodAll_100 rfl (lv_at hl 3 rfl) ?_
    refine lv_iconst (v := (1 : Int32)) hx hb dX2_nodAll_101 (by decide) ?_
    refine lv_isub hx hb dX2_nodAll_102 ?_
    obtain ⟨g6, hf⟩ := gd_s hf
    obtain ⟨σ7, eσ7, hf⟩ := bd_s hf
    refine bk_iast (wf := cw) (σ1 := σ7) (q0 := 57) (n := 9) (j := x2.toNatClampNeg) C hP hD hS rfl g6 rfl (by rw [eσ7]; exact cw_a57 g _ _ _) dX2_nodAll_103 (fun H locs hP hD hS => ?_)
    refine lv_goto (tgt := 132) hx hb dX2_nodAll_104 (by decide) ?_
    exact b_X2_nodAll_55_b132 C hf k0 k H locs ls hP hD hS (lv_sub hl [0, 1, 2] rfl)
def s_X2_nodAll_55_h4 (N : Nat) (x1 : Int32) (x2 : Int32) (σ : Sg) : Option (Nat × Int32 × Int32 × Sg) :=
if (σ 12 0) ≤ x2 then (some (1, x1, 0, σ))
else (if (x2 < 0 ∨ 9 ≤ x2.toNatClampNeg) then none else
bd (σ 57 x2.toNatClampNeg) fun v9 =>
if v9 = (1 : Int32) then (if (x2 < 0 ∨ 9 ≤ x2.toNatClampNeg) then none else
bd (wr σ 58 (x2.toNatClampNeg) (σ 12 7)) fun σ11 =>
if (x2 < 0 ∨ 9 ≤ x2.toNatClampNeg) then none else
if (x2 < 0 ∨ 9 ≤ x2.toNatClampNeg) then none else
bd (wr σ11 59 (x2.toNatClampNeg) (if (999 : Int32) < ((σ11 59 x2.toNatClampNeg) + (1 : Int32)) then (999 : Int32) else ((σ11 59 x2.toNatClampNeg) + (1 : Int32)))) fun σ14 =>
if (x2 < 0 ∨ 9 ≤ x2.toNatClampNeg) then none else
if (x2 < 0 ∨ 9 ≤ x2.toNatClampNeg) then none else
bd (wr σ14 61 (x2.toNatClampNeg) ((σ14 61 x2.toNatClampNeg) + (1 : Int32))) fun σ17 =>
bd (x1 ||| ((1 : Int32) <<< (x2 &&& 31))) fun v18 =>
f_X2_nodAll_55_b88 N v18 x2 v9 σ17)
else (f_X2_nodAll_55_b88 N x1 x2 v9 σ))
set_option maxHeartbeats 4000000 in
set_option maxRecDepth 100000 in
theorem e_X2_nodAll_55_h4 {N : Nat} {x1 : Int32} {x2 : Int32} {σ : Sg} {z : Nat × Int32 × Int32 × Sg} (C : Cx p s m args meth c cX2_nodAll 4 (some .int) RX2 g A X) (hf : s_X2_nodAll_55_h4 N x1 x2 σ = some z) (k0 : z.1 = 0 → Bk cw p l e rm_X2_nodAll_55 s m args below meth c 4 g A Q 0 0 4 [(0, .ref (g.2.2 55)), (1, .int z.2.1), (2, .int z.2.2.1)] [] z.2.2.2) (k : ¬ z.1 = 0 → Bk cw p l e rm_X2_nodAll_55 s m args below meth c 4 g A Q 0 0 138 [(1, .int z.2.1)] [] z.2.2.2) : Bk cw p l e rm_X2_nodAll_55 s m args below meth c 4 g A Q 0 0 4 [(0, .ref (g.2.2 55)), (1, .int x1), (2, .int x2)] [] σ := by
  obtain ⟨hx, hb, hr, hml, hown, hts, hK, hlocks, hXX, hA, hXo⟩ := id C
  intro H locs ls hP hD hS hl
  unfold s_X2_nodAll_55_h4 at hf
  refine lv_iload_n hx hb dX2_nodAll_4 rfl (lv_at hl 2 rfl) ?_
  refine lv_aload_n hx hb dX2_nodAll_5 rfl (lv_at hl 0 rfl) ?_
  refine bk_get (wf := cw) (q0 := 55) (ci := 2) (k := 3) (v := .ref (g.2.2 12)) C hP wl_X2 rfl rfl (by decide) wa_148 rfl rfl dX2_nodAll_6 ?_
  refine bk_get (wf := cw) (q0 := 12) (ci := 8) (k := 0) (v := .int (σ 12 0)) C hP wl_X9 rfl rfl (by decide) wa_840 rfl rfl dX2_nodAll_9 ?_
  refine lv_icmp_ge (tgt := 138) hx hb dX2_nodAll_12 (by decide) (fun t12 => ?_) (fun t12 => ?_)
  · have hf := (if_pos t12).symm.trans hf
    cases hf
    exact (k (show ¬ (1 : Nat) = 0 by decide)) H locs ls hP hD hS (lv_sub hl [1] rfl)
  · have hf := (if_neg t12).symm.trans hf
    refine lv_aload_n hx hb dX2_nodAll_15 rfl (lv_at hl 0 rfl) ?_
    refine bk_get (wf := cw) (q0 := 55) (ci := 2) (k := 0) (v := .ref (g.2.2 56)) C hP wl_X2 rfl rfl (by decide) wa_144 rfl rfl dX2_nodAll_16 ?_
    refine bk_get (wf := cw) (q0 := 56) (ci := 7) (k := 2) (v := .ref (g.2.2 57)) C hP wl_X7 rfl rfl (by decide) wa_841 rfl rfl dX2_nodAll_19 ?_
    refine lv_iload_n hx hb dX2_nodAll_22 rfl (lv_at hl 2 rfl) ?_
    obtain ⟨g8, hf⟩ := gd_s hf
    refine bk_iald (wf := cw) (q0 := 57) (n := 9) (j := x2.toNatClampNeg) C hP rfl g8 rfl dX2_nodAll_23 ?_
    obtain ⟨v9, ev9, hf⟩ := bd_s hf
    rw [← ev9]
    refine lv_istore_n (lv' := [(3, .int v9), (0, .ref (g.2.2 55)), (1, .int x1), (2, .int x2)]) hx hb dX2_nodAll_24 rfl hl (by decide) rfl (fun ls hl => ?_)
    refine lv_iload_n hx hb dX2_nodAll_25 rfl (lv_at hl 0 rfl) ?_
    refine lv_iconst (v := (1 : Int32)) hx hb dX2_nodAll_26 (by decide) ?_
    refine lv_icmp_ne (tgt := 88) hx hb dX2_nodAll_27 (by decide) (fun t27 => ?_) (fun t27 => ?_)
    · have hf := (if_neg t27).symm.trans hf
      exact b_X2_nodAll_55_b88 C hf k0 k H locs ls hP hD hS (lv_sub hl [1, 2, 3, 0] rfl)
    · have hf := (if_pos t27).symm.trans hf
      refine lv_aload_n hx hb dX2_nodAll_30 rfl (lv_at hl 1 rfl) ?_
      refine bk_get (wf := cw) (q0 := 55) (ci := 2) (k := 0) (v := .ref (g.2.2 56)) C hP wl_X2 rfl rfl (by decide) wa_144 rfl rfl dX2_nodAll_31 ?_
      refine bk_get (wf := cw) (q0 := 56) (ci := 7) (k := 3) (v := .ref (g.2.2 58)) C hP wl_X7 rfl rfl (by decide) wa_847 rfl rfl dX2_nodAll_34 ?_
      refine lv_iload_n hx hb dX2_nodAll_37 rfl (lv_at hl 3 rfl) ?_
      refine lv_aload_n hx hb dX2_nodAll_38 rfl (lv_at hl 1 rfl) ?_
      refine bk_get (wf := cw) (q0 := 55) (ci := 2) (k := 3) (v := .ref (g.2.2 12)) C hP wl_X2 rfl rfl (by decide) wa_148 rfl rfl dX2_nodAll_39 ?_
      refine bk_get (wf := cw) (q0 := 12) (ci := 8) (k := 7) (v := .int (σ 12 7)) C hP wl_X9 rfl rfl (by decide) wa_848 rfl rfl dX2_nodAll_42 ?_
      obtain ⟨g10, hf⟩ := gd_s hf
      obtain ⟨σ11, eσ11, hf⟩ := bd_s hf
      refine bk_iast (wf := cw) (σ1 := σ11) (q0 := 58) (n := 9) (j := x2.toNatClampNeg) C hP hD hS rfl g10 rfl (by rw [eσ11]; exact cw_a58 g _ _ _) dX2_nodAll_45 (fun H locs hP hD hS => ?_)
      refine lv_aload_n hx hb dX2_nodAll_46 rfl (lv_at hl 1 rfl) ?_
      refine bk_get (wf := cw) (q0 := 55) (ci := 2) (k := 0) (v := .ref (g.2.2 56)) C hP wl_X2 rfl rfl (by decide) wa_144 rfl rfl dX2_nodAll_47 ?_
      refine bk_get (wf := cw) (q0 := 56) (ci := 7) (k := 4) (v := .ref (g.2.2 59)) C hP wl_X7 rfl rfl (by decide) wa_849 rfl rfl dX2_nodAll_50 ?_
      refine lv_iload_n hx hb dX2_nodAll_53 rfl (lv_at hl 3 rfl) ?_
      refine lv_aload_n hx hb dX2_nodAll_54 rfl (lv_at hl 1 rfl) ?_
      refine bk_get (wf := cw) (q0 := 55) (ci := 2) (k := 0) (v := .ref (g.2.2 56)) C hP wl_X2 rfl rfl (by decide) wa_144 rfl rfl dX2_nodAll_55 ?_
      refine bk_get (wf := cw) (q0 := 56) (ci := 7) (k := 4) (v := .ref (g.2.2 59)) C hP wl_X7 rfl rfl (by decide) wa_849 rfl rfl dX2_nodAll_58 ?_
      refine lv_iload_n hx hb dX2_nodAll_61 rfl (lv_at hl 3 rfl) ?_
      obtain ⟨g12, hf⟩ := gd_s hf
      refine bk_iald (wf := cw) (q0 := 59) (n := 9) (j := x2.toNatClampNeg) C hP rfl g12 rfl dX2_nodAll_62 ?_
      refine lv_iconst (v := (1 : Int32)) hx hb dX2_nodAll_63 (by decide) ?_
      refine lv_iadd hx hb dX2_nodAll_64 ?_
      refine lv_sipush (v := (999 : Int32)) hx hb dX2_nodAll_65 (by decide) ?_
      refine va_mmin hx hb (hml.trans hl.1.symm) hown (hts _ wa_850) (hts _ wa_230) (hts _ wa_231) (hts _ wa_232) (Nat.le_of_ble_eq_true rfl) (Nat.le_of_ble_eq_true rfl) (Nat.le_of_ble_eq_true rfl) (Nat.le_of_ble_eq_true rfl) dX2_nodAll_68 ?_
      obtain ⟨g13, hf⟩ := gd_s hf
      obtain ⟨σ14, eσ14, hf⟩ := bd_s hf
      refine bk_iast (wf := cw) (σ1 := σ14) (q0 := 59) (n := 9) (j := x2.toNatClampNeg) C hP hD hS rfl g13 rfl (by rw [eσ14]; exact cw_a59 g _ _ _) dX2_nodAll_71 (fun H locs hP hD hS => ?_)
      refine lv_aload_n hx hb dX2_nodAll_72 rfl (lv_at hl 1 rfl) ?_
      refine bk_get (wf := cw) (q0 := 55) (ci := 2) (k := 1) (v := .ref (g.2.2 61)) C hP wl_X2 rfl rfl (by decide) wa_145 rfl rfl dX2_nodAll_73 ?_
      refine lv_iload_n hx hb dX2_nodAll_76 rfl (lv_at hl 3 rfl) ?_
      refine lv_dup2_11 hx hb dX2_nodAll_77 rfl rfl ?_
      obtain ⟨g15, hf⟩ := gd_s hf
      refine bk_iald (wf := cw) (q0 := 61) (n := 9) (j := x2.toNatClampNeg) C hP rfl g15 rfl dX2_nodAll_78 ?_
      refine lv_iconst (v := (1 : Int32)) hx hb dX2_nodAll_79 (by decide) ?_
      refine lv_iadd hx hb dX2_nodAll_80 ?_
      obtain ⟨g16, hf⟩ := gd_s hf
      obtain ⟨σ17, eσ17, hf⟩ := bd_s hf
      refine bk_iast (wf := cw) (σ1 := σ17) (q0 := 61) (n := 9) (j := x2.toNatClampNeg) C hP hD hS rfl g16 rfl (by rw [eσ17]; exact cw_a61 g _ _ _) dX2_nodAll_81 (fun H locs hP hD hS => ?_)
      refine lv_iload_n hx hb dX2_nodAll_82 rfl (lv_at hl 2 rfl) ?_
      refine lv_iconst (v := (1 : Int32)) hx hb dX2_nodAll_83 (by decide) ?_
      refine lv_iload_n hx hb dX2_nodAll_84 rfl (lv_at hl 3 rfl) ?_
      refine lv_ishl hx hb dX2_nodAll_85 ?_
      refine lv_ior hx hb dX2_nodAll_86 ?_
      obtain ⟨v18, ev18, hf⟩ := bd_s hf
      rw [← ev18]
      refine lv_istore_n (lv' := [(1, .int v18), (3, .int v9), (0, .ref (g.2.2 55)), (2, .int x2)]) hx hb dX2_nodAll_87 rfl hl (by decide) rfl (fun ls hl => ?_)
      exact b_X2_nodAll_55_b88 C hf k0 k H locs ls hP hD hS (lv_sub hl [2, 0, 3, 1] rfl)
theorem lp_X2_nodAll_55_h4 {N : Nat} {n : Nat} {x1 : Int32} {x2 : Int32} {σ : Sg} {z : Nat × Int32 × Int32 × Sg} (C : Cx p s m args meth c cX2_nodAll 4 (some .int) RX2 g A X) (hz : it (fun q => s_X2_nodAll_55_h4 N q.1 q.2.1 q.2.2) n (x1, x2, σ) = some z) (k : Bk cw p l e rm_X2_nodAll_55 s m args below meth c 4 g A Q 0 0 138 [(1, .int z.2.1)] [] z.2.2.2) : Bk cw p l e rm_X2_nodAll_55 s m args below meth c 4 g A Q 0 0 4 [(0, .ref (g.2.2 55)), (1, .int x1), (2, .int x2)] [] σ :=
  it_W (S := Int32 × Int32 × Sg) (fun q => Bk cw p l e rm_X2_nodAll_55 s m args below meth c 4 g A Q 0 0 4 [(0, .ref (g.2.2 55)), (1, .int q.1), (2, .int q.2.1)] [] q.2.2) (fun z => Bk cw p l e rm_X2_nodAll_55 s m args below meth c 4 g A Q 0 0 138 [(1, .int z.2.1)] [] z.2.2.2) (fun q z hq k0 k => e_X2_nodAll_55_h4 C hq k0 k) n (x1, x2, σ) z hz k
def f_X2_nodAll_55 (N : Nat) (σ : Sg) : Option (Int32 × Sg) :=
(it (fun q => s_X2_nodAll_55_h4 N q.1 q.2.1 q.2.2) N ((0 : Int32), (0 : Int32), σ)).bind fun z19 =>
some ((z19.2.1), (z19.2.2.2))
set_option maxHeartbeats 4000000 in
set_option maxRecDepth 100000 in
theorem b_X2_nodAll_55 {N : Nat} {σ : Sg} {z : Int32 × Sg} (C : Cx p s m args meth c cX2_nodAll 4 (some .int) RX2 g A X) (hf : f_X2_nodAll_55 N σ = some z) : Bk cw p l e rm_X2_nodAll_55 s m args below meth c 4 g A (MQ below (qI cw g A z.1 z.2) args s 0 0 A) 0 0 0 [(0, .ref (g.2.2 55))] [] σ := by
  obtain ⟨hx, hb, hr, hml, hown, hts, hK, hlocks, hXX, hA, hXo⟩ := id C
  intro H locs ls hP hD hS hl
  unfold f_X2_nodAll_55 at hf
  refine lv_iconst (v := (0 : Int32)) hx hb dX2_nodAll_0 (by decide) ?_
  refine lv_istore_n (lv' := [(1, .int (0 : Int32)), (0, .ref (g.2.2 55))]) hx hb dX2_nodAll_1 rfl hl (by decide) rfl (fun ls hl => ?_)
  refine lv_iconst (v := (0 : Int32)) hx hb dX2_nodAll_2 (by decide) ?_
  refine lv_istore_n (lv' := [(2, .int (0 : Int32)), (1, .int (0 : Int32)), (0, .ref (g.2.2 55))]) hx hb dX2_nodAll_3 rfl hl (by decide) rfl (fun ls hl => ?_)
  obtain ⟨z19, hz19, hf⟩ := bi_s hf
  refine lp_X2_nodAll_55_h4 C hz19 ?_ H locs ls hP hD hS (lv_sub hl [2, 1, 0] rfl)
  intro H locs ls hP hD hS hl
  refine lv_iload_n hx hb dX2_nodAll_138 rfl (lv_at hl 0 rfl) ?_
  cases hf
  exact bk_iret C hP hD hS rfl dX2_nodAll_139
theorem c_X2_nodAll_55 {N : Nat} {σ : Sg} {z : Int32 × Sg} (hX : xOK g X) (hf : f_X2_nodAll_55 N σ = some z) : MetI l yX2_nodAll (Cond.code yX2_nodAll cX2_nodAll 4 (some .int) :: wsA) rm_X2_nodAll_55 cw g X [.ref (g.2.2 55)] σ z.1 z.2 :=
  MetI_of hX (by decide) (Nat.le_of_ble_eq_true rfl) (fun p e s m args below meth c A C => b_X2_nodAll_55 C hf)
-- X2_step_55_47: step(LNodPost$Sight;I)I
abbrev rm_X2_step_55_47 : Room := { frames := 4, cells := 0, slots := 0, locals := 95 }
theorem nd_X2_step : yX2_step.cls ≠ "java/lang/invoke/MethodHandle" ∧ yX2_step.cls ≠ "java/lang/invoke/VarHandle" ∧ (parseMethodDescriptor yX2_step.desc).map (fun d => d.parameters.length) = some 2 := by decide +kernel
def f_X2_step_55_47_b82 (N : Nat) (x2 : Int32) (x3 : Int32) (x4 : Int32) (σ : Sg) : Option (Nat × Int32 × Sg) :=
bd (x4 + (1 : Int32)) fun v1 =>
some (0, v1, σ)
set_option maxHeartbeats 4000000 in
set_option maxRecDepth 100000 in
theorem b_X2_step_55_47_b82 {N : Nat} {x2 : Int32} {x3 : Int32} {x4 : Int32} {σ : Sg} {z : Nat × Int32 × Sg} (C : Cx p s m args meth c cX2_step 6 (some .int) RX2 g A X) (hf : f_X2_step_55_47_b82 N x2 x3 x4 σ = some z) (k0 : z.1 = 0 → Bk cw p l e rm_X2_step_55_47 s m args below meth c 6 g A Q 0 0 8 [(0, .ref (g.2.2 55)), (1, .ref (g.2.2 47)), (2, .int x2), (3, .int x3), (4, .int z.2.1)] [] z.2.2) (k : ¬ z.1 = 0 → Bk cw p l e rm_X2_step_55_47 s m args below meth c 6 g A Q 0 0 88 [(0, .ref (g.2.2 55)), (3, .int x3)] [] z.2.2) : Bk cw p l e rm_X2_step_55_47 s m args below meth c 6 g A Q 0 0 82 [(0, .ref (g.2.2 55)), (1, .ref (g.2.2 47)), (2, .int x2), (3, .int x3), (4, .int x4)] [] σ := by
  obtain ⟨hx, hb, hr, hml, hown, hts, hK, hlocks, hXX, hA, hXo⟩ := id C
  intro H locs ls hP hD hS hl
  unfold f_X2_step_55_47_b82 at hf
  obtain ⟨v1, ev1, hf⟩ := bd_s hf
  refine lv_iinc (v := v1) (lv' := [(4, .int v1), (0, .ref (g.2.2 55)), (1, .ref (g.2.2 47)), (2, .int x2), (3, .int x3)]) hx hb dX2_step_82 hl (k := 4) rfl (by rw [ev1]; rfl) (by decide) rfl (fun ls hl => ?_)
  refine lv_goto (tgt := 8) hx hb dX2_step_85 (by decide) ?_
  cases hf
  exact k0 rfl H locs ls hP hD hS (lv_sub hl [1, 2, 3, 4, 0] rfl)
def s_X2_step_55_47_h8 (N : Nat) (x2 : Int32) (x3 : Int32) (x4 : Int32) (σ : Sg) : Option (Nat × Int32 × Sg) :=
if (σ 12 0) ≤ x4 then (some (1, 0, σ))
else (if x3 = 0 then (some (1, 0, σ))
else ((f_X6_of_47 N x4 x2 σ).bind fun q2 =>
bd (q2.1 &&& x3) fun v3 =>
if v3 = 0 then (f_X2_step_55_47_b82 N x2 x3 x4 (q2.2))
else ((f_X2_isFree_55 N x4 x3 (q2.2)).bind fun q4 =>
if q4.1 = 0 then (f_X2_step_55_47_b82 N x2 x3 x4 (q4.2))
else ((f_X2_minds_55 N x4 v3 x2 (q4.2)).bind fun q5 =>
if q5.1 = 0 then (f_X2_step_55_47_b82 N x2 x3 x4 (q5.2))
else (if (x4 < 0 ∨ 9 ≤ x4.toNatClampNeg) then none else
if (x4 < 0 ∨ 9 ≤ x4.toNatClampNeg) then none else
bd (wr (q5.2) 57 (x4.toNatClampNeg) ((q5.2) 16 x4.toNatClampNeg)) fun σ8 =>
f_X2_step_55_47_b82 N x2 x3 x4 σ8)))))
set_option maxHeartbeats 4000000 in
set_option maxRecDepth 100000 in
theorem e_X2_step_55_47_h8 {N : Nat} {x2 : Int32} {x3 : Int32} {x4 : Int32} {σ : Sg} {z : Nat × Int32 × Sg} (C : Cx p s m args meth c cX2_step 6 (some .int) RX2 g A X) (hf : s_X2_step_55_47_h8 N x2 x3 x4 σ = some z) (k0 : z.1 = 0 → Bk cw p l e rm_X2_step_55_47 s m args below meth c 6 g A Q 0 0 8 [(0, .ref (g.2.2 55)), (1, .ref (g.2.2 47)), (2, .int x2), (3, .int x3), (4, .int z.2.1)] [] z.2.2) (k : ¬ z.1 = 0 → Bk cw p l e rm_X2_step_55_47 s m args below meth c 6 g A Q 0 0 88 [(0, .ref (g.2.2 55)), (3, .int x3)] [] z.2.2) : Bk cw p l e rm_X2_step_55_47 s m args below meth c 6 g A Q 0 0 8 [(0, .ref (g.2.2 55)), (1, .ref (g.2.2 47)), (2, .int x2), (3, .int x3), (4, .int x4)] [] σ := by
  obtain ⟨hx, hb, hr, hml, hown, hts, hK, hlocks, hXX, hA, hXo⟩ := id C
  intro H locs ls hP hD hS hl
  unfold s_X2_step_55_47_h8 at hf
  refine lv_iload hx hb dX2_step_8 (lv_at hl 4 rfl) ?_
  refine lv_aload_n hx hb dX2_step_10 rfl (lv_at hl 0 rfl) ?_
  refine bk_get (wf := cw) (q0 := 55) (ci := 2) (k := 3) (v := .ref (g.2.2 12)) C hP wl_X2 rfl rfl (by decide) wa_148 rfl rfl dX2_step_11 ?_
  refine bk_get (wf := cw) (q0 := 12) (ci := 8) (k := 0) (v := .int (σ 12 0)) C hP wl_X9 rfl rfl (by decide) wa_840 rfl rfl dX2_step_14 ?_
  refine lv_icmp_ge (tgt := 88) hx hb dX2_step_17 (by decide) (fun t17 => ?_) (fun t17 => ?_)
  · have hf := (if_pos t17).symm.trans hf
    cases hf
    exact (k (show ¬ (1 : Nat) = 0 by decide)) H locs ls hP hD hS (lv_sub hl [0, 3] rfl)
  · have hf := (if_neg t17).symm.trans hf
    refine lv_iload_n hx hb dX2_step_20 rfl (lv_at hl 3 rfl) ?_
    refine lv_if_eq (tgt := 88) hx hb dX2_step_21 (by decide) (fun t21 => ?_) (fun t21 => ?_)
    · have hf := (if_pos t21).symm.trans hf
      cases hf
      exact (k (show ¬ (1 : Nat) = 0 by decide)) H locs ls hP hD hS (lv_sub hl [0, 3] rfl)
    · have hf := (if_neg t21).symm.trans hf
      refine lv_aload_n hx hb dX2_step_24 rfl (lv_at hl 1 rfl) ?_
      refine lv_iload hx hb dX2_step_25 (lv_at hl 4 rfl) ?_
      refine lv_iload_n hx hb dX2_step_27 rfl (lv_at hl 2 rfl) ?_
      obtain ⟨q2, hq2, hf⟩ := bi_s hf
      refine bk_VI (wf := cw) (q0 := 47) (ci := 6) (rest := []) [.int x4, .int x2] C hP hD hS hl.1 (c_X6_of_47 hXo hq2) (cwA_V 2 hts wa_675 wa_851 wa_673 wa_674 wa_32 rfl rfl nd_X6_of ⟨Nat.le_of_ble_eq_true rfl, Nat.le_of_ble_eq_true rfl⟩) rfl rfl rfl rfl (Nat.le_of_ble_eq_true rfl) dX2_step_28 ⟨Nat.le_of_ble_eq_true rfl, Nat.le_of_ble_eq_true rfl⟩ (fun H locs hP hD hS => ?_)
      refine lv_iload_n hx hb dX2_step_31 rfl (lv_at hl 3 rfl) ?_
      refine lv_iand hx hb dX2_step_32 ?_
      obtain ⟨v3, ev3, hf⟩ := bd_s hf
      rw [← ev3]
      refine lv_istore (lv' := [(5, .int v3), (0, .ref (g.2.2 55)), (1, .ref (g.2.2 47)), (2, .int x2), (3, .int x3), (4, .int x4)]) hx hb dX2_step_33 hl (by decide) rfl (fun ls hl => ?_)
      refine lv_iload hx hb dX2_step_35 (lv_at hl 0 rfl) ?_
      refine lv_if_eq (tgt := 82) hx hb dX2_step_37 (by decide) (fun t37 => ?_) (fun t37 => ?_)
      · have hf := (if_pos t37).symm.trans hf
        exact b_X2_step_55_47_b82 C hf k0 k H locs ls hP hD hS (lv_sub hl [1, 2, 3, 4, 5] rfl)
      · have hf := (if_neg t37).symm.trans hf
        refine lv_aload_n hx hb dX2_step_40 rfl (lv_at hl 1 rfl) ?_
        refine lv_iload hx hb dX2_step_41 (lv_at hl 5 rfl) ?_
        refine lv_iload_n hx hb dX2_step_43 rfl (lv_at hl 4 rfl) ?_
        obtain ⟨q4, hq4, hf⟩ := bi_s hf
        refine bk_VI (wf := cw) (q0 := 55) (ci := 2) (rest := []) [.int x4, .int x3] C hP hD hS hl.1 (c_X2_isFree_55 hXo hq4) (cwA_V 2 hts wa_855 wa_852 wa_853 wa_854 wa_41 rfl rfl nd_X2_isFree ⟨Nat.le_of_ble_eq_true rfl, Nat.le_of_ble_eq_true rfl⟩) rfl rfl rfl rfl (Nat.le_of_ble_eq_true rfl) dX2_step_44 ⟨Nat.le_of_ble_eq_true rfl, Nat.le_of_ble_eq_true rfl⟩ (fun H locs hP hD hS => ?_)
        refine lv_if_eq (tgt := 82) hx hb dX2_step_47 (by decide) (fun t47 => ?_) (fun t47 => ?_)
        · have hf := (if_pos t47).symm.trans hf
          exact b_X2_step_55_47_b82 C hf k0 k H locs ls hP hD hS (lv_sub hl [1, 2, 3, 4, 5] rfl)
        · have hf := (if_neg t47).symm.trans hf
          refine lv_aload_n hx hb dX2_step_50 rfl (lv_at hl 1 rfl) ?_
          refine lv_iload hx hb dX2_step_51 (lv_at hl 5 rfl) ?_
          refine lv_iload hx hb dX2_step_53 (lv_at hl 0 rfl) ?_
          refine lv_iload_n hx hb dX2_step_55 rfl (lv_at hl 3 rfl) ?_
          obtain ⟨q5, hq5, hf⟩ := bi_s hf
          refine bk_VI (wf := cw) (q0 := 55) (ci := 2) (rest := []) [.int x4, .int v3, .int x2] C hP hD hS hl.1 (c_X2_minds_55 hXo hq5) (cwA_V 3 hts wa_860 wa_857 wa_858 wa_859 wa_41 rfl rfl nd_X2_minds ⟨Nat.le_of_ble_eq_true rfl, Nat.le_of_ble_eq_true rfl⟩) rfl rfl rfl rfl (Nat.le_of_ble_eq_true rfl) dX2_step_56 ⟨Nat.le_of_ble_eq_true rfl, Nat.le_of_ble_eq_true rfl⟩ (fun H locs hP hD hS => ?_)
          refine lv_if_eq (tgt := 82) hx hb dX2_step_59 (by decide) (fun t59 => ?_) (fun t59 => ?_)
          · have hf := (if_pos t59).symm.trans hf
            exact b_X2_step_55_47_b82 C hf k0 k H locs ls hP hD hS (lv_sub hl [1, 2, 3, 4, 5] rfl)
          · have hf := (if_neg t59).symm.trans hf
            refine lv_aload_n hx hb dX2_step_62 rfl (lv_at hl 1 rfl) ?_
            refine bk_get (wf := cw) (q0 := 55) (ci := 2) (k := 0) (v := .ref (g.2.2 56)) C hP wl_X2 rfl rfl (by decide) wa_144 rfl rfl dX2_step_63 ?_
            refine bk_get (wf := cw) (q0 := 56) (ci := 7) (k := 2) (v := .ref (g.2.2 57)) C hP wl_X7 rfl rfl (by decide) wa_841 rfl rfl dX2_step_66 ?_
            refine lv_iload hx hb dX2_step_69 (lv_at hl 5 rfl) ?_
            refine lv_aload_n hx hb dX2_step_71 rfl (lv_at hl 1 rfl) ?_
            refine bk_get (wf := cw) (q0 := 55) (ci := 2) (k := 3) (v := .ref (g.2.2 12)) C hP wl_X2 rfl rfl (by decide) wa_148 rfl rfl dX2_step_72 ?_
            refine bk_get (wf := cw) (q0 := 12) (ci := 8) (k := 4) (v := .ref (g.2.2 16)) C hP wl_X9 rfl rfl (by decide) wa_842 rfl rfl dX2_step_75 ?_
            refine lv_iload hx hb dX2_step_78 (lv_at hl 5 rfl) ?_
            obtain ⟨g6, hf⟩ := gd_s hf
            refine bk_iald (wf := cw) (q0 := 16) (n := 9) (j := x4.toNatClampNeg) C hP rfl g6 rfl dX2_step_80 ?_
            obtain ⟨g7, hf⟩ := gd_s hf
            obtain ⟨σ8, eσ8, hf⟩ := bd_s hf
            refine bk_iast (wf := cw) (σ1 := σ8) (q0 := 57) (n := 9) (j := x4.toNatClampNeg) C hP hD hS rfl g7 rfl (by rw [eσ8]; exact cw_a57 g _ _ _) dX2_step_81 (fun H locs hP hD hS => ?_)
            exact b_X2_step_55_47_b82 C hf k0 k H locs ls hP hD hS (lv_sub hl [1, 2, 3, 4, 5] rfl)
theorem lp_X2_step_55_47_h8 {N : Nat} {n : Nat} {x2 : Int32} {x3 : Int32} {x4 : Int32} {σ : Sg} {z : Nat × Int32 × Sg} (C : Cx p s m args meth c cX2_step 6 (some .int) RX2 g A X) (hz : it (fun q => s_X2_step_55_47_h8 N x2 x3 q.1 q.2) n (x4, σ) = some z) (k : Bk cw p l e rm_X2_step_55_47 s m args below meth c 6 g A Q 0 0 88 [(0, .ref (g.2.2 55)), (3, .int x3)] [] z.2.2) : Bk cw p l e rm_X2_step_55_47 s m args below meth c 6 g A Q 0 0 8 [(0, .ref (g.2.2 55)), (1, .ref (g.2.2 47)), (2, .int x2), (3, .int x3), (4, .int x4)] [] σ :=
  it_W (S := Int32 × Sg) (fun q => Bk cw p l e rm_X2_step_55_47 s m args below meth c 6 g A Q 0 0 8 [(0, .ref (g.2.2 55)), (1, .ref (g.2.2 47)), (2, .int x2), (3, .int x3), (4, .int q.1)] [] q.2) (fun z => Bk cw p l e rm_X2_step_55_47 s m args below meth c 6 g A Q 0 0 88 [(0, .ref (g.2.2 55)), (3, .int x3)] [] z.2.2) (fun q z hq k0 k => e_X2_step_55_47_h8 C hq k0 k) n (x4, σ) z hz k
def f_X2_step_55_47 (N : Nat) (x2 : Int32) (σ : Sg) : Option (Int32 × Sg) :=
(f_X2_nodAll_55 N σ).bind fun q9 =>
bd q9.1 fun v10 =>
(it (fun q => s_X2_step_55_47_h8 N x2 v10 q.1 q.2) N ((0 : Int32), (q9.2))).bind fun z11 =>
bd (wr (z11.2.2) 56 0 (((z11.2.2) 56 0) + (1 : Int32))) fun σ12 =>
some (v10, σ12)
set_option maxHeartbeats 4000000 in
set_option maxRecDepth 100000 in
theorem b_X2_step_55_47 {N : Nat} {x2 : Int32} {σ : Sg} {z : Int32 × Sg} (C : Cx p s m args meth c cX2_step 6 (some .int) RX2 g A X) (hf : f_X2_step_55_47 N x2 σ = some z) : Bk cw p l e rm_X2_step_55_47 s m args below meth c 6 g A (MQ below (qI cw g A z.1 z.2) args s 0 0 A) 0 0 0 [(0, .ref (g.2.2 55)), (1, .ref (g.2.2 47)), (2, .int x2)] [] σ := by
  obtain ⟨hx, hb, hr, hml, hown, hts, hK, hlocks, hXX, hA, hXo⟩ := id C
  intro H locs ls hP hD hS hl
  unfold f_X2_step_55_47 at hf
  refine lv_aload_n hx hb dX2_step_0 rfl (lv_at hl 0 rfl) ?_
  obtain ⟨q9, hq9, hf⟩ := bi_s hf
  refine bk_VI (wf := cw) (q0 := 55) (ci := 2) (rest := []) [] C hP hD hS hl.1 (c_X2_nodAll_55 hXo hq9) (cwA_V 0 hts wa_846 wa_843 wa_844 wa_845 wa_41 rfl rfl nd_X2_nodAll ⟨Nat.le_of_ble_eq_true rfl, Nat.le_of_ble_eq_true rfl⟩) rfl rfl rfl rfl (Nat.le_of_ble_eq_true rfl) dX2_step_1 ⟨Nat.le_of_ble_eq_true rfl, Nat.le_of_ble_eq_true rfl⟩ (fun H locs hP hD hS => ?_)
  obtain ⟨v10, ev10, hf⟩ := bd_s hf
  rw [← ev10]
  refine lv_istore_n (lv' := [(3, .int v10), (0, .ref (g.2.2 55)), (1, .ref (g.2.2 47)), (2, .int x2)]) hx hb dX2_step_4 rfl hl (by decide) rfl (fun ls hl => ?_)
  refine lv_iconst (v := (0 : Int32)) hx hb dX2_step_5 (by decide) ?_
  refine lv_istore (lv' := [(4, .int (0 : Int32)), (3, .int v10), (0, .ref (g.2.2 55)), (1, .ref (g.2.2 47)), (2, .int x2)]) hx hb dX2_step_6 hl (by decide) rfl (fun ls hl => ?_)
  obtain ⟨z11, hz11, hf⟩ := bi_s hf
  refine lp_X2_step_55_47_h8 C hz11 ?_ H locs ls hP hD hS (lv_sub hl [2, 3, 4, 1, 0] rfl)
  intro H locs ls hP hD hS hl
  refine lv_aload_n hx hb dX2_step_88 rfl (lv_at hl 0 rfl) ?_
  refine bk_get (wf := cw) (q0 := 55) (ci := 2) (k := 0) (v := .ref (g.2.2 56)) C hP wl_X2 rfl rfl (by decide) wa_144 rfl rfl dX2_step_89 ?_
  refine lv_dup hx hb dX2_step_92 rfl ?_
  refine bk_get (wf := cw) (q0 := 56) (ci := 7) (k := 0) (v := .int ((z11.2.2) 56 0)) C hP wl_X7 rfl rfl (by decide) wa_834 rfl rfl dX2_step_93 ?_
  refine lv_iconst (v := (1 : Int32)) hx hb dX2_step_96 (by decide) ?_
  refine lv_iadd hx hb dX2_step_97 ?_
  obtain ⟨σ12, eσ12, hf⟩ := bd_s hf
  refine bk_put (wf := cw) (σ1 := σ12) (q0 := 56) (ci := 7) (k := 0) (v := .int (((z11.2.2) 56 0) + (1 : Int32))) C hP hD hS wl_X7 tyX7_ok nmX7 rfl rfl (by decide) wa_834 rfl rfl rfl rfl rfl (Nat.le_of_ble_eq_true rfl) (by rw [eσ12]; exact cw_p56_0 g _ _) dX2_step_98 (fun H locs hP hD hS => ?_)
  refine lv_iload_n hx hb dX2_step_101 rfl (lv_at hl 1 rfl) ?_
  cases hf
  exact bk_iret C hP hD hS rfl dX2_step_102
theorem c_X2_step_55_47 {N : Nat} {x2 : Int32} {σ : Sg} {z : Int32 × Sg} (hX : xOK g X) (hf : f_X2_step_55_47 N x2 σ = some z) : MetI l yX2_step (Cond.code yX2_step cX2_step 6 (some .int) :: wsA) rm_X2_step_55_47 cw g X [.ref (g.2.2 55), .ref (g.2.2 47), .int x2] σ z.1 z.2 :=
  MetI_of hX (by decide) (Nat.le_of_ble_eq_true rfl) (fun p e s m args below meth c A C => b_X2_step_55_47 C hf)
-- X2_go_55: go()I
abbrev rm_X2_go_55 : Room := { frames := 5, cells := 0, slots := 0, locals := 120 }
theorem nd_X2_go : yX2_go.cls ≠ "java/lang/invoke/MethodHandle" ∧ yX2_go.cls ≠ "java/lang/invoke/VarHandle" ∧ (parseMethodDescriptor yX2_go.desc).map (fun d => d.parameters.length) = some 0 := by decide +kernel
def f_X2_go_55 (N : Nat) (σ : Sg) : Option (Int32 × Sg) :=
(f_X9_mistOf_12 N (σ 56 0) σ).bind fun q1 =>
(f_X2_step_55_47 N q1.1 (q1.2)).bind fun q2 =>
some (q2.1, (q2.2))
set_option maxHeartbeats 4000000 in
set_option maxRecDepth 100000 in
theorem b_X2_go_55 {N : Nat} {σ : Sg} {z : Int32 × Sg} (C : Cx p s m args meth c cX2_go 1 (some .int) RX2 g A X) (hf : f_X2_go_55 N σ = some z) : Bk cw p l e rm_X2_go_55 s m args below meth c 1 g A (MQ below (qI cw g A z.1 z.2) args s 0 0 A) 0 0 0 [(0, .ref (g.2.2 55))] [] σ := by
  obtain ⟨hx, hb, hr, hml, hown, hts, hK, hlocks, hXX, hA, hXo⟩ := id C
  intro H locs ls hP hD hS hl
  unfold f_X2_go_55 at hf
  refine lv_aload_n hx hb dX2_go_0 rfl (lv_at hl 0 rfl) ?_
  refine lv_aload_n hx hb dX2_go_1 rfl (lv_at hl 0 rfl) ?_
  refine bk_get (wf := cw) (q0 := 55) (ci := 2) (k := 4) (v := .ref (g.2.2 47)) C hP wl_X2 rfl rfl (by decide) wa_149 rfl rfl dX2_go_2 ?_
  refine lv_aload_n hx hb dX2_go_5 rfl (lv_at hl 0 rfl) ?_
  refine bk_get (wf := cw) (q0 := 55) (ci := 2) (k := 3) (v := .ref (g.2.2 12)) C hP wl_X2 rfl rfl (by decide) wa_148 rfl rfl dX2_go_6 ?_
  refine lv_aload_n hx hb dX2_go_9 rfl (lv_at hl 0 rfl) ?_
  refine bk_get (wf := cw) (q0 := 55) (ci := 2) (k := 0) (v := .ref (g.2.2 56)) C hP wl_X2 rfl rfl (by decide) wa_144 rfl rfl dX2_go_10 ?_
  refine bk_get (wf := cw) (q0 := 56) (ci := 7) (k := 0) (v := .int (σ 56 0)) C hP wl_X7 rfl rfl (by decide) wa_834 rfl rfl dX2_go_13 ?_
  obtain ⟨q1, hq1, hf⟩ := bi_s hf
  refine bk_VI (wf := cw) (q0 := 12) (ci := 8) (rest := [.ref (g.2.2 47), .ref (g.2.2 55)]) [.int (σ 56 0)] C hP hD hS hl.1 (c_X9_mistOf_12 hXo hq1) (cwA_V 1 hts wa_658 wa_835 wa_656 wa_657 wa_22 rfl rfl nd_X9_mistOf ⟨Nat.le_of_ble_eq_true rfl, Nat.le_of_ble_eq_true rfl⟩) rfl rfl rfl rfl (Nat.le_of_ble_eq_true rfl) dX2_go_16 ⟨Nat.le_of_ble_eq_true rfl, Nat.le_of_ble_eq_true rfl⟩ (fun H locs hP hD hS => ?_)
  obtain ⟨q2, hq2, hf⟩ := bi_s hf
  refine bk_VI (wf := cw) (q0 := 55) (ci := 2) (rest := []) [.ref (g.2.2 47), .int q1.1] C hP hD hS hl.1 (c_X2_step_55_47 hXo hq2) (cwA_V 2 hts wa_839 wa_836 wa_837 wa_838 wa_41 rfl rfl nd_X2_step ⟨Nat.le_of_ble_eq_true rfl, Nat.le_of_ble_eq_true rfl⟩) rfl rfl rfl rfl (Nat.le_of_ble_eq_true rfl) dX2_go_19 ⟨Nat.le_of_ble_eq_true rfl, Nat.le_of_ble_eq_true rfl⟩ (fun H locs hP hD hS => ?_)
  cases hf
  exact bk_iret C hP hD hS rfl dX2_go_22
theorem c_X2_go_55 {N : Nat} {σ : Sg} {z : Int32 × Sg} (hX : xOK g X) (hf : f_X2_go_55 N σ = some z) : MetI l yX2_go (Cond.code yX2_go cX2_go 1 (some .int) :: wsA) rm_X2_go_55 cw g X [.ref (g.2.2 55)] σ z.1 z.2 :=
  MetI_of hX (by decide) (Nat.le_of_ble_eq_true rfl) (fun p e s m args below meth c A C => b_X2_go_55 C hf)
-- X11_refuseAct_0: refuseAct()I
abbrev rm_X11_refuseAct_0 : Room := { frames := 0, cells := 0, slots := 0, locals := 0 }
theorem nd_X11_refuseAct : yX11_refuseAct.cls ≠ "java/lang/invoke/MethodHandle" ∧ yX11_refuseAct.cls ≠ "java/lang/invoke/VarHandle" ∧ (parseMethodDescriptor yX11_refuseAct.desc).map (fun d => d.parameters.length) = some 0 := by decide +kernel
def f_X11_refuseAct_0 (N : Nat) (σ : Sg) : Option (Int32 × Sg) :=
bd (wr σ 33 1 ((σ 33 1) + (1 : Int32))) fun σ1 =>
some ((-1 : Int32), σ1)
set_option maxHeartbeats 4000000 in
set_option maxRecDepth 100000 in
theorem b_X11_refuseAct_0 {N : Nat} {σ : Sg} {z : Int32 × Sg} (C : Cx p s m args meth c cX11_refuseAct 1 (some .int) RX11 g A X) (hf : f_X11_refuseAct_0 N σ = some z) : Bk cw p l e rm_X11_refuseAct_0 s m args below meth c 1 g A (MQ below (qI cw g A z.1 z.2) args s 0 0 A) 0 0 0 [(0, .ref (g.2.2 0))] [] σ := by
  obtain ⟨hx, hb, hr, hml, hown, hts, hK, hlocks, hXX, hA, hXo⟩ := id C
  intro H locs ls hP hD hS hl
  unfold f_X11_refuseAct_0 at hf
  refine lv_aload_n hx hb dX11_refuseAct_0 rfl (lv_at hl 0 rfl) ?_
  refine bk_get (wf := cw) (q0 := 0) (ci := 10) (k := 4) (v := .ref (g.2.2 21)) C hP wl_X11 rfl rfl (by decide) wa_27 rfl rfl dX11_refuseAct_1 ?_
  refine bk_get (wf := cw) (q0 := 21) (ci := 1) (k := 3) (v := .ref (g.2.2 33)) C hP wl_X1 rfl rfl (by decide) wa_218 rfl rfl dX11_refuseAct_4 ?_
  refine lv_iconst (v := (1 : Int32)) hx hb dX11_refuseAct_7 (by decide) ?_
  refine lv_dup2_11 hx hb dX11_refuseAct_8 rfl rfl ?_
  refine bk_iald (wf := cw) (q0 := 33) (n := 3) (j := 1) C hP rfl (vin_l (by decide) (by decide)) (by decide) dX11_refuseAct_9 ?_
  refine lv_iconst (v := (1 : Int32)) hx hb dX11_refuseAct_10 (by decide) ?_
  refine lv_iadd hx hb dX11_refuseAct_11 ?_
  obtain ⟨σ1, eσ1, hf⟩ := bd_s hf
  refine bk_iast (wf := cw) (σ1 := σ1) (q0 := 33) (n := 3) (j := 1) C hP hD hS rfl (vin_l (by decide) (by decide)) (by decide) (by rw [eσ1]; exact cw_a33 g _ _ _) dX11_refuseAct_12 (fun H locs hP hD hS => ?_)
  refine lv_iconst (v := (-1 : Int32)) hx hb dX11_refuseAct_13 (by decide) ?_
  cases hf
  exact bk_iret C hP hD hS rfl dX11_refuseAct_14
theorem c_X11_refuseAct_0 {N : Nat} {σ : Sg} {z : Int32 × Sg} (hX : xOK g X) (hf : f_X11_refuseAct_0 N σ = some z) : MetI l yX11_refuseAct (Cond.code yX11_refuseAct cX11_refuseAct 1 (some .int) :: wsA) rm_X11_refuseAct_0 cw g X [.ref (g.2.2 0)] σ z.1 z.2 :=
  MetI_of hX (by decide) (Nat.le_of_ble_eq_true rfl) (fun p e s m args below meth c A C => b_X11_refuseAct_0 C hf)
-- X7_store_22_28: store([II)V
abbrev rm_X7_store_22_28 : Room := { frames := 0, cells := 0, slots := 0, locals := 0 }
theorem nd_X7_store : yX7_store.cls ≠ "java/lang/invoke/MethodHandle" ∧ yX7_store.cls ≠ "java/lang/invoke/VarHandle" ∧ (parseMethodDescriptor yX7_store.desc).map (fun d => d.parameters.length) = some 2 := by decide +kernel
def s_X7_store_22_28_h32 (N : Nat) (x2 : Int32) (x3 : Int32) (σ : Sg) : Option (Nat × Int32 × Sg) :=
if (9 : Int32) ≤ x3 then (some (1, 0, σ))
else (bd ((x2 + (2 : Int32)) + ((4 : Int32) * x3)) fun v1 =>
if (x3 < 0 ∨ 9 ≤ x3.toNatClampNeg) then none else
if (v1 < 0 ∨ 1520 ≤ v1.toNatClampNeg) then none else
bd (wr σ 28 (v1.toNatClampNeg) (σ 23 x3.toNatClampNeg)) fun σ4 =>
if (x3 < 0 ∨ 9 ≤ x3.toNatClampNeg) then none else
if ((v1 + (1 : Int32)) < 0 ∨ 1520 ≤ (v1 + (1 : Int32)).toNatClampNeg) then none else
bd (wr σ4 28 ((v1 + (1 : Int32)).toNatClampNeg) (σ4 24 x3.toNatClampNeg)) fun σ7 =>
if (x3 < 0 ∨ 9 ≤ x3.toNatClampNeg) then none else
if ((v1 + (2 : Int32)) < 0 ∨ 1520 ≤ (v1 + (2 : Int32)).toNatClampNeg) then none else
bd (wr σ7 28 ((v1 + (2 : Int32)).toNatClampNeg) (σ7 25 x3.toNatClampNeg)) fun σ10 =>
if (x3 < 0 ∨ 9 ≤ x3.toNatClampNeg) then none else
if ((v1 + (3 : Int32)) < 0 ∨ 1520 ≤ (v1 + (3 : Int32)).toNatClampNeg) then none else
bd (wr σ10 28 ((v1 + (3 : Int32)).toNatClampNeg) (σ10 26 x3.toNatClampNeg)) fun σ13 =>
bd (x3 + (1 : Int32)) fun v14 =>
some (0, v14, σ13))
set_option maxHeartbeats 4000000 in
set_option maxRecDepth 100000 in
theorem e_X7_store_22_28_h32 {N : Nat} {x2 : Int32} {x3 : Int32} {σ : Sg} {z : Nat × Int32 × Sg} (C : Cx p s m args meth c cX7_store 5 none RX7 g A X) (hf : s_X7_store_22_28_h32 N x2 x3 σ = some z) (k0 : z.1 = 0 → Bk cw p l e rm_X7_store_22_28 s m args below meth c 5 g A Q 0 0 32 [(0, .ref (g.2.2 22)), (1, .ref (g.2.2 28)), (2, .int x2), (3, .int z.2.1)] [] z.2.2) (k : ¬ z.1 = 0 → Bk cw p l e rm_X7_store_22_28 s m args below meth c 5 g A Q 0 0 99 [] [] z.2.2) : Bk cw p l e rm_X7_store_22_28 s m args below meth c 5 g A Q 0 0 32 [(0, .ref (g.2.2 22)), (1, .ref (g.2.2 28)), (2, .int x2), (3, .int x3)] [] σ := by
  obtain ⟨hx, hb, hr, hml, hown, hts, hK, hlocks, hXX, hA, hXo⟩ := id C
  intro H locs ls hP hD hS hl
  unfold s_X7_store_22_28_h32 at hf
  refine lv_iload_n hx hb dX7_store_32 rfl (lv_at hl 3 rfl) ?_
  refine lv_bipush (v := (9 : Int32)) hx hb dX7_store_33 (by decide) ?_
  refine lv_icmp_ge (tgt := 99) hx hb dX7_store_35 (by decide) (fun t35 => ?_) (fun t35 => ?_)
  · have hf := (if_pos t35).symm.trans hf
    cases hf
    exact (k (show ¬ (1 : Nat) = 0 by decide)) H locs ls hP hD hS (lv_sub hl [] rfl)
  · have hf := (if_neg t35).symm.trans hf
    refine lv_iload_n hx hb dX7_store_38 rfl (lv_at hl 2 rfl) ?_
    refine lv_iconst (v := (2 : Int32)) hx hb dX7_store_39 (by decide) ?_
    refine lv_iadd hx hb dX7_store_40 ?_
    refine lv_iconst (v := (4 : Int32)) hx hb dX7_store_41 (by decide) ?_
    refine lv_iload_n hx hb dX7_store_42 rfl (lv_at hl 3 rfl) ?_
    refine lv_imul hx hb dX7_store_43 ?_
    refine lv_iadd hx hb dX7_store_44 ?_
    obtain ⟨v1, ev1, hf⟩ := bd_s hf
    rw [← ev1]
    refine lv_istore (lv' := [(4, .int v1), (0, .ref (g.2.2 22)), (1, .ref (g.2.2 28)), (2, .int x2), (3, .int x3)]) hx hb dX7_store_45 hl (by decide) rfl (fun ls hl => ?_)
    refine lv_aload_n hx hb dX7_store_47 rfl (lv_at hl 2 rfl) ?_
    refine lv_iload hx hb dX7_store_48 (lv_at hl 0 rfl) ?_
    refine lv_aload_n hx hb dX7_store_50 rfl (lv_at hl 1 rfl) ?_
    refine bk_get (wf := cw) (q0 := 22) (ci := 7) (k := 2) (v := .ref (g.2.2 23)) C hP wl_X7 rfl rfl (by decide) wa_109 rfl rfl dX7_store_51 ?_
    refine lv_iload_n hx hb dX7_store_54 rfl (lv_at hl 4 rfl) ?_
    obtain ⟨g2, hf⟩ := gd_s hf
    refine bk_iald (wf := cw) (q0 := 23) (n := 9) (j := x3.toNatClampNeg) C hP rfl g2 rfl dX7_store_55 ?_
    obtain ⟨g3, hf⟩ := gd_s hf
    obtain ⟨σ4, eσ4, hf⟩ := bd_s hf
    refine bk_iast (wf := cw) (σ1 := σ4) (q0 := 28) (n := 1520) (j := v1.toNatClampNeg) C hP hD hS rfl g3 rfl (by rw [eσ4]; exact cw_a28 g _ _ _) dX7_store_56 (fun H locs hP hD hS => ?_)
    refine lv_aload_n hx hb dX7_store_57 rfl (lv_at hl 2 rfl) ?_
    refine lv_iload hx hb dX7_store_58 (lv_at hl 0 rfl) ?_
    refine lv_iconst (v := (1 : Int32)) hx hb dX7_store_60 (by decide) ?_
    refine lv_iadd hx hb dX7_store_61 ?_
    refine lv_aload_n hx hb dX7_store_62 rfl (lv_at hl 1 rfl) ?_
    refine bk_get (wf := cw) (q0 := 22) (ci := 7) (k := 3) (v := .ref (g.2.2 24)) C hP wl_X7 rfl rfl (by decide) wa_110 rfl rfl dX7_store_63 ?_
    refine lv_iload_n hx hb dX7_store_66 rfl (lv_at hl 4 rfl) ?_
    obtain ⟨g5, hf⟩ := gd_s hf
    refine bk_iald (wf := cw) (q0 := 24) (n := 9) (j := x3.toNatClampNeg) C hP rfl g5 rfl dX7_store_67 ?_
    obtain ⟨g6, hf⟩ := gd_s hf
    obtain ⟨σ7, eσ7, hf⟩ := bd_s hf
    refine bk_iast (wf := cw) (σ1 := σ7) (q0 := 28) (n := 1520) (j := (v1 + (1 : Int32)).toNatClampNeg) C hP hD hS rfl g6 rfl (by rw [eσ7]; exact cw_a28 g _ _ _) dX7_store_68 (fun H locs hP hD hS => ?_)
    refine lv_aload_n hx hb dX7_store_69 rfl (lv_at hl 2 rfl) ?_
    refine lv_iload hx hb dX7_store_70 (lv_at hl 0 rfl) ?_
    refine lv_iconst (v := (2 : Int32)) hx hb dX7_store_72 (by decide) ?_
    refine lv_iadd hx hb dX7_store_73 ?_
    refine lv_aload_n hx hb dX7_store_74 rfl (lv_at hl 1 rfl) ?_
    refine bk_get (wf := cw) (q0 := 22) (ci := 7) (k := 4) (v := .ref (g.2.2 25)) C hP wl_X7 rfl rfl (by decide) wa_111 rfl rfl dX7_store_75 ?_
    refine lv_iload_n hx hb dX7_store_78 rfl (lv_at hl 4 rfl) ?_
    obtain ⟨g8, hf⟩ := gd_s hf
    refine bk_iald (wf := cw) (q0 := 25) (n := 9) (j := x3.toNatClampNeg) C hP rfl g8 rfl dX7_store_79 ?_
    obtain ⟨g9, hf⟩ := gd_s hf
    obtain ⟨σ10, eσ10, hf⟩ := bd_s hf
    refine bk_iast (wf := cw) (σ1 := σ10) (q0 := 28) (n := 1520) (j := (v1 + (2 : Int32)).toNatClampNeg) C hP hD hS rfl g9 rfl (by rw [eσ10]; exact cw_a28 g _ _ _) dX7_store_80 (fun H locs hP hD hS => ?_)
    refine lv_aload_n hx hb dX7_store_81 rfl (lv_at hl 2 rfl) ?_
    refine lv_iload hx hb dX7_store_82 (lv_at hl 0 rfl) ?_
    refine lv_iconst (v := (3 : Int32)) hx hb dX7_store_84 (by decide) ?_
    refine lv_iadd hx hb dX7_store_85 ?_
    refine lv_aload_n hx hb dX7_store_86 rfl (lv_at hl 1 rfl) ?_
    refine bk_get (wf := cw) (q0 := 22) (ci := 7) (k := 5) (v := .ref (g.2.2 26)) C hP wl_X7 rfl rfl (by decide) wa_112 rfl rfl dX7_store_87 ?_
    refine lv_iload_n hx hb dX7_store_90 rfl (lv_at hl 4 rfl) ?_
    obtain ⟨g11, hf⟩ := gd_s hf
    refine bk_iald (wf := cw) (q0 := 26) (n := 9) (j := x3.toNatClampNeg) C hP rfl g11 rfl dX7_store_91 ?_
    obtain ⟨g12, hf⟩ := gd_s hf
    obtain ⟨σ13, eσ13, hf⟩ := bd_s hf
    refine bk_iast (wf := cw) (σ1 := σ13) (q0 := 28) (n := 1520) (j := (v1 + (3 : Int32)).toNatClampNeg) C hP hD hS rfl g12 rfl (by rw [eσ13]; exact cw_a28 g _ _ _) dX7_store_92 (fun H locs hP hD hS => ?_)
    obtain ⟨v14, ev14, hf⟩ := bd_s hf
    refine lv_iinc (v := v14) (lv' := [(3, .int v14), (4, .int v1), (0, .ref (g.2.2 22)), (1, .ref (g.2.2 28)), (2, .int x2)]) hx hb dX7_store_93 hl (k := 4) rfl (by rw [ev14]; rfl) (by decide) rfl (fun ls hl => ?_)
    refine lv_goto (tgt := 32) hx hb dX7_store_96 (by decide) ?_
    cases hf
    exact k0 rfl H locs ls hP hD hS (lv_sub hl [2, 3, 4, 0] rfl)
theorem lp_X7_store_22_28_h32 {N : Nat} {n : Nat} {x2 : Int32} {x3 : Int32} {σ : Sg} {z : Nat × Int32 × Sg} (C : Cx p s m args meth c cX7_store 5 none RX7 g A X) (hz : it (fun q => s_X7_store_22_28_h32 N x2 q.1 q.2) n (x3, σ) = some z) (k : Bk cw p l e rm_X7_store_22_28 s m args below meth c 5 g A Q 0 0 99 [] [] z.2.2) : Bk cw p l e rm_X7_store_22_28 s m args below meth c 5 g A Q 0 0 32 [(0, .ref (g.2.2 22)), (1, .ref (g.2.2 28)), (2, .int x2), (3, .int x3)] [] σ :=
  it_W (S := Int32 × Sg) (fun q => Bk cw p l e rm_X7_store_22_28 s m args below meth c 5 g A Q 0 0 32 [(0, .ref (g.2.2 22)), (1, .ref (g.2.2 28)), (2, .int x2), (3, .int q.1)] [] q.2) (fun z => Bk cw p l e rm_X7_store_22_28 s m args below meth c 5 g A Q 0 0 99 [] [] z.2.2) (fun q z hq k0 k => e_X7_store_22_28_h32 C hq k0 k) n (x3, σ) z hz k
def f_X7_store_22_28 (N : Nat) (x2 : Int32) (σ : Sg) : Option (Sg) :=
if x2 < 0 then (some σ)
else (if x2 ≤ ((1520 : Int32) - (38 : Int32)) then (if (x2 < 0 ∨ 1520 ≤ x2.toNatClampNeg) then none else
bd (wr σ 28 (x2.toNatClampNeg) (σ 22 0)) fun σ16 =>
if ((x2 + (1 : Int32)) < 0 ∨ 1520 ≤ (x2 + (1 : Int32)).toNatClampNeg) then none else
bd (wr σ16 28 ((x2 + (1 : Int32)).toNatClampNeg) (σ16 22 1)) fun σ18 =>
(it (fun q => s_X7_store_22_28_h32 N x2 q.1 q.2) N ((0 : Int32), σ18)).bind fun z19 =>
some (z19.2.2))
else (some σ))
set_option maxHeartbeats 4000000 in
set_option maxRecDepth 100000 in
theorem b_X7_store_22_28 {N : Nat} {x2 : Int32} {σ : Sg} {z : Sg} (C : Cx p s m args meth c cX7_store 5 none RX7 g A X) (hf : f_X7_store_22_28 N x2 σ = some z) : Bk cw p l e rm_X7_store_22_28 s m args below meth c 5 g A (MQ below (qV cw g A z) args s 0 0 A) 0 0 0 [(0, .ref (g.2.2 22)), (1, .ref (g.2.2 28)), (2, .int x2)] [] σ := by
  obtain ⟨hx, hb, hr, hml, hown, hts, hK, hlocks, hXX, hA, hXo⟩ := id C
  intro H locs ls hP hD hS hl
  unfold f_X7_store_22_28 at hf
  refine lv_iload_n hx hb dX7_store_0 rfl (lv_at hl 2 rfl) ?_
  refine lv_if_lt (tgt := 13) hx hb dX7_store_1 (by decide) (fun t1 => ?_) (fun t1 => ?_)
  · have hf := (if_pos t1).symm.trans hf
    cases hf
    exact bk_vret C hP hD hS rfl dX7_store_13
  · have hf := (if_neg t1).symm.trans hf
    refine lv_iload_n hx hb dX7_store_4 rfl (lv_at hl 2 rfl) ?_
    refine lv_aload_n hx hb dX7_store_5 rfl (lv_at hl 1 rfl) ?_
    refine bk_alen (wf := cw) (q0 := 28) (t0 := 0) (v := (1520 : Int32)) C hP rfl rfl (show Int32.ofNat 1520 = (1520 : Int32) by decide) dX7_store_6 ?_
    refine lv_bipush (v := (38 : Int32)) hx hb dX7_store_7 (by decide) ?_
    refine lv_isub hx hb dX7_store_9 ?_
    refine lv_icmp_le (tgt := 14) hx hb dX7_store_10 (by decide) (fun t10 => ?_) (fun t10 => ?_)
    · have hf := (if_pos t10).symm.trans hf
      refine lv_aload_n hx hb dX7_store_14 rfl (lv_at hl 1 rfl) ?_
      refine lv_iload_n hx hb dX7_store_15 rfl (lv_at hl 2 rfl) ?_
      refine lv_aload_n hx hb dX7_store_16 rfl (lv_at hl 0 rfl) ?_
      refine bk_get (wf := cw) (q0 := 22) (ci := 7) (k := 0) (v := .int (σ 22 0)) C hP wl_X7 rfl rfl (by decide) wa_107 rfl rfl dX7_store_17 ?_
      obtain ⟨g15, hf⟩ := gd_s hf
      obtain ⟨σ16, eσ16, hf⟩ := bd_s hf
      refine bk_iast (wf := cw) (σ1 := σ16) (q0 := 28) (n := 1520) (j := x2.toNatClampNeg) C hP hD hS rfl g15 rfl (by rw [eσ16]; exact cw_a28 g _ _ _) dX7_store_20 (fun H locs hP hD hS => ?_)
      refine lv_aload_n hx hb dX7_store_21 rfl (lv_at hl 1 rfl) ?_
      refine lv_iload_n hx hb dX7_store_22 rfl (lv_at hl 2 rfl) ?_
      refine lv_iconst (v := (1 : Int32)) hx hb dX7_store_23 (by decide) ?_
      refine lv_iadd hx hb dX7_store_24 ?_
      refine lv_aload_n hx hb dX7_store_25 rfl (lv_at hl 0 rfl) ?_
      refine bk_get (wf := cw) (q0 := 22) (ci := 7) (k := 1) (v := .int (σ16 22 1)) C hP wl_X7 rfl rfl (by decide) wa_108 rfl rfl dX7_store_26 ?_
      obtain ⟨g17, hf⟩ := gd_s hf
      obtain ⟨σ18, eσ18, hf⟩ := bd_s hf
      refine bk_iast (wf := cw) (σ1 := σ18) (q0 := 28) (n := 1520) (j := (x2 + (1 : Int32)).toNatClampNeg) C hP hD hS rfl g17 rfl (by rw [eσ18]; exact cw_a28 g _ _ _) dX7_store_29 (fun H locs hP hD hS => ?_)
      refine lv_iconst (v := (0 : Int32)) hx hb dX7_store_30 (by decide) ?_
      refine lv_istore_n (lv' := [(3, .int (0 : Int32)), (0, .ref (g.2.2 22)), (1, .ref (g.2.2 28)), (2, .int x2)]) hx hb dX7_store_31 rfl hl (by decide) rfl (fun ls hl => ?_)
      obtain ⟨z19, hz19, hf⟩ := bi_s hf
      refine lp_X7_store_22_28_h32 C hz19 ?_ H locs ls hP hD hS (lv_sub hl [1, 2, 3, 0] rfl)
      intro H locs ls hP hD hS hl
      cases hf
      exact bk_vret C hP hD hS rfl dX7_store_99
    · have hf := (if_neg t10).symm.trans hf
      cases hf
      exact bk_vret C hP hD hS rfl dX7_store_13
theorem c_X7_store_22_28 {N : Nat} {x2 : Int32} {σ : Sg} {z : Sg} (hX : xOK g X) (hf : f_X7_store_22_28 N x2 σ = some z) : MetV l yX7_store (Cond.code yX7_store cX7_store 5 none :: wsA) rm_X7_store_22_28 cw g X [.ref (g.2.2 22), .ref (g.2.2 28), .int x2] σ z :=
  MetV_of hX (by decide) (Nat.le_of_ble_eq_true rfl) (fun p e s m args below meth c A C => b_X7_store_22_28 C hf)
-- X0_keep_27_22: keep(LNodPost$State;)V
abbrev rm_X0_keep_27_22 : Room := { frames := 1, cells := 0, slots := 0, locals := 24 }
theorem nd_X0_keep : yX0_keep.cls ≠ "java/lang/invoke/MethodHandle" ∧ yX0_keep.cls ≠ "java/lang/invoke/VarHandle" ∧ (parseMethodDescriptor yX0_keep.desc).map (fun d => d.parameters.length) = some 1 := by decide +kernel
def f_X0_keep_27_22 (N : Nat) (σ : Sg) : Option (Sg) :=
(f_X7_store_22_28 N ((σ 27 1) * (38 : Int32)) σ).bind fun q1 =>
bd (wr q1 27 1 (((q1 27 1) + (1 : Int32)) - ((q1 27 1) + (1 : Int32)) / (40 : Int32) * (40 : Int32))) fun σ2 =>
bd (wr σ2 27 0 (if (40 : Int32) < ((σ2 27 0) + (1 : Int32)) then (40 : Int32) else ((σ2 27 0) + (1 : Int32)))) fun σ3 =>
some σ3
set_option maxHeartbeats 4000000 in
set_option maxRecDepth 100000 in
theorem b_X0_keep_27_22 {N : Nat} {σ : Sg} {z : Sg} (C : Cx p s m args meth c cX0_keep 2 none RX0 g A X) (hf : f_X0_keep_27_22 N σ = some z) : Bk cw p l e rm_X0_keep_27_22 s m args below meth c 2 g A (MQ below (qV cw g A z) args s 0 0 A) 0 0 0 [(0, .ref (g.2.2 27)), (1, .ref (g.2.2 22))] [] σ := by
  obtain ⟨hx, hb, hr, hml, hown, hts, hK, hlocks, hXX, hA, hXo⟩ := id C
  intro H locs ls hP hD hS hl
  unfold f_X0_keep_27_22 at hf
  refine lv_aload_n hx hb dX0_keep_0 rfl (lv_at hl 1 rfl) ?_
  refine lv_aload_n hx hb dX0_keep_1 rfl (lv_at hl 0 rfl) ?_
  refine bk_get (wf := cw) (q0 := 27) (ci := 0) (k := 2) (v := .ref (g.2.2 28)) C hP wl_X0 rfl rfl (by decide) wa_118 rfl rfl dX0_keep_2 ?_
  refine lv_aload_n hx hb dX0_keep_5 rfl (lv_at hl 0 rfl) ?_
  refine bk_get (wf := cw) (q0 := 27) (ci := 0) (k := 1) (v := .int (σ 27 1)) C hP wl_X0 rfl rfl (by decide) wa_117 rfl rfl dX0_keep_6 ?_
  refine lv_bipush (v := (38 : Int32)) hx hb dX0_keep_9 (by decide) ?_
  refine lv_imul hx hb dX0_keep_11 ?_
  obtain ⟨q1, hq1, hf⟩ := bi_s hf
  refine bk_VV (wf := cw) (q0 := 22) (ci := 7) (rest := []) [.ref (g.2.2 28), .int ((σ 27 1) * (38 : Int32))] C hP hD hS hl.1 (c_X7_store_22_28 hXo hq1) (cwA_V 2 hts wa_821 wa_818 wa_819 wa_820 wa_93 rfl rfl nd_X7_store ⟨Nat.le_of_ble_eq_true rfl, Nat.le_of_ble_eq_true rfl⟩) rfl rfl rfl rfl (Nat.le_of_ble_eq_true rfl) dX0_keep_12 ⟨Nat.le_of_ble_eq_true rfl, Nat.le_of_ble_eq_true rfl⟩ (fun H locs hP hD hS => ?_)
  refine lv_aload_n hx hb dX0_keep_15 rfl (lv_at hl 0 rfl) ?_
  refine lv_aload_n hx hb dX0_keep_16 rfl (lv_at hl 0 rfl) ?_
  refine bk_get (wf := cw) (q0 := 27) (ci := 0) (k := 1) (v := .int (q1 27 1)) C hP wl_X0 rfl rfl (by decide) wa_117 rfl rfl dX0_keep_17 ?_
  refine lv_iconst (v := (1 : Int32)) hx hb dX0_keep_20 (by decide) ?_
  refine lv_iadd hx hb dX0_keep_21 ?_
  refine lv_bipush (v := (40 : Int32)) hx hb dX0_keep_22 (by decide) ?_
  refine lv_irem hx hb dX0_keep_24 (by decide) ?_
  obtain ⟨σ2, eσ2, hf⟩ := bd_s hf
  refine bk_put (wf := cw) (σ1 := σ2) (q0 := 27) (ci := 0) (k := 1) (v := .int (((q1 27 1) + (1 : Int32)) - ((q1 27 1) + (1 : Int32)) / (40 : Int32) * (40 : Int32))) C hP hD hS wl_X0 tyX0_ok nmX0 rfl rfl (by decide) wa_117 rfl rfl rfl rfl rfl (Nat.le_of_ble_eq_true rfl) (by rw [eσ2]; exact cw_p27_1 g _ _) dX0_keep_25 (fun H locs hP hD hS => ?_)
  refine lv_aload_n hx hb dX0_keep_28 rfl (lv_at hl 0 rfl) ?_
  refine lv_aload_n hx hb dX0_keep_29 rfl (lv_at hl 0 rfl) ?_
  refine bk_get (wf := cw) (q0 := 27) (ci := 0) (k := 0) (v := .int (σ2 27 0)) C hP wl_X0 rfl rfl (by decide) wa_116 rfl rfl dX0_keep_30 ?_
  refine lv_iconst (v := (1 : Int32)) hx hb dX0_keep_33 (by decide) ?_
  refine lv_iadd hx hb dX0_keep_34 ?_
  refine lv_bipush (v := (40 : Int32)) hx hb dX0_keep_35 (by decide) ?_
  refine va_mmin hx hb (hml.trans hl.1.symm) hown (hts _ wa_817) (hts _ wa_230) (hts _ wa_231) (hts _ wa_232) (Nat.le_of_ble_eq_true rfl) (Nat.le_of_ble_eq_true rfl) (Nat.le_of_ble_eq_true rfl) (Nat.le_of_ble_eq_true rfl) dX0_keep_37 ?_
  obtain ⟨σ3, eσ3, hf⟩ := bd_s hf
  refine bk_put (wf := cw) (σ1 := σ3) (q0 := 27) (ci := 0) (k := 0) (v := .int (if (40 : Int32) < ((σ2 27 0) + (1 : Int32)) then (40 : Int32) else ((σ2 27 0) + (1 : Int32)))) C hP hD hS wl_X0 tyX0_ok nmX0 rfl rfl (by decide) wa_116 rfl rfl rfl rfl rfl (Nat.le_of_ble_eq_true rfl) (by rw [eσ3]; exact cw_p27_0 g _ _) dX0_keep_40 (fun H locs hP hD hS => ?_)
  cases hf
  exact bk_vret C hP hD hS rfl dX0_keep_43
theorem c_X0_keep_27_22 {N : Nat} {σ : Sg} {z : Sg} (hX : xOK g X) (hf : f_X0_keep_27_22 N σ = some z) : MetV l yX0_keep (Cond.code yX0_keep cX0_keep 2 none :: wsA) rm_X0_keep_27_22 cw g X [.ref (g.2.2 27), .ref (g.2.2 22)] σ z :=
  MetV_of hX (by decide) (Nat.le_of_ble_eq_true rfl) (fun p e s m args below meth c A C => b_X0_keep_27_22 C hf)
-- X11_copyFarms_23_57: copyFarms([I[I)V
abbrev rm_X11_copyFarms_23_57 : Room := { frames := 1, cells := 0, slots := 0, locals := 80 }
def f_X11_copyFarms_23_57 (N : Nat) (σ : Sg) : Option (Sg) :=
bd (wrR σ 57 (va_cpy (σ 23) (σ 57) 0 0 9)) fun σ1 =>
some σ1
set_option maxHeartbeats 4000000 in
set_option maxRecDepth 100000 in
theorem b_X11_copyFarms_23_57 {N : Nat} {σ : Sg} {z : Sg} (C : Cx p s m args meth c cX11_copyFarms 2 none RX11 g A X) (hf : f_X11_copyFarms_23_57 N σ = some z) : Bk cw p l e rm_X11_copyFarms_23_57 s m args below meth c 2 g A (MQ below (qV cw g A z) args s 0 0 A) 0 0 0 [(0, .ref (g.2.2 23)), (1, .ref (g.2.2 57))] [] σ := by
  obtain ⟨hx, hb, hr, hml, hown, hts, hK, hlocks, hXX, hA, hXo⟩ := id C
  intro H locs ls hP hD hS hl
  unfold f_X11_copyFarms_23_57 at hf
  refine lv_aload_n hx hb dX11_copyFarms_0 rfl (lv_at hl 0 rfl) ?_
  refine lv_iconst (v := (0 : Int32)) hx hb dX11_copyFarms_1 (by decide) ?_
  refine lv_aload_n hx hb dX11_copyFarms_2 rfl (lv_at hl 1 rfl) ?_
  refine lv_iconst (v := (0 : Int32)) hx hb dX11_copyFarms_3 (by decide) ?_
  refine lv_bipush (v := (9 : Int32)) hx hb dX11_copyFarms_4 (by decide) ?_
  obtain ⟨σ1, eσ1, hf⟩ := bd_s hf
  refine bk_copy (wf := cw) (σ1 := σ1) (q0 := 23) (q1 := 57) (n0 := 9) (n1 := 9) (js := 0) (jd := 0) (jn := 9) C hP hD hS hl.1 wa_446 wa_441 wa_442 wa_443 rfl rfl (by decide) (by decide) (by decide) (by decide) (by decide) (by decide) (Nat.le_of_ble_eq_true rfl) (Nat.le_of_ble_eq_true rfl) (Nat.le_of_ble_eq_true rfl) (Nat.le_of_ble_eq_true rfl) (by rw [eσ1]; exact cw_r57 g _ _) dX11_copyFarms_6 (fun H locs hP hD hS => ?_)
  cases hf
  exact bk_vret C hP hD hS rfl dX11_copyFarms_9
theorem c_X11_copyFarms_23_57 {N : Nat} {σ : Sg} {z : Sg} (hX : xOK g X) (hf : f_X11_copyFarms_23_57 N σ = some z) : MetV l yX11_copyFarms (Cond.code yX11_copyFarms cX11_copyFarms 2 none :: wsA) rm_X11_copyFarms_23_57 cw g X [.ref (g.2.2 23), .ref (g.2.2 57)] σ z :=
  MetV_of hX (by decide) (Nat.le_of_ble_eq_true rfl) (fun p e s m args below meth c A C => b_X11_copyFarms_23_57 C hf)
-- X11_copyFarms_24_58: copyFarms([I[I)V
abbrev rm_X11_copyFarms_24_58 : Room := { frames := 1, cells := 0, slots := 0, locals := 80 }
def f_X11_copyFarms_24_58 (N : Nat) (σ : Sg) : Option (Sg) :=
bd (wrR σ 58 (va_cpy (σ 24) (σ 58) 0 0 9)) fun σ1 =>
some σ1
set_option maxHeartbeats 4000000 in
set_option maxRecDepth 100000 in
theorem b_X11_copyFarms_24_58 {N : Nat} {σ : Sg} {z : Sg} (C : Cx p s m args meth c cX11_copyFarms 2 none RX11 g A X) (hf : f_X11_copyFarms_24_58 N σ = some z) : Bk cw p l e rm_X11_copyFarms_24_58 s m args below meth c 2 g A (MQ below (qV cw g A z) args s 0 0 A) 0 0 0 [(0, .ref (g.2.2 24)), (1, .ref (g.2.2 58))] [] σ := by
  obtain ⟨hx, hb, hr, hml, hown, hts, hK, hlocks, hXX, hA, hXo⟩ := id C
  intro H locs ls hP hD hS hl
  unfold f_X11_copyFarms_24_58 at hf
  refine lv_aload_n hx hb dX11_copyFarms_0 rfl (lv_at hl 0 rfl) ?_
  refine lv_iconst (v := (0 : Int32)) hx hb dX11_copyFarms_1 (by decide) ?_
  refine lv_aload_n hx hb dX11_copyFarms_2 rfl (lv_at hl 1 rfl) ?_
  refine lv_iconst (v := (0 : Int32)) hx hb dX11_copyFarms_3 (by decide) ?_
  refine lv_bipush (v := (9 : Int32)) hx hb dX11_copyFarms_4 (by decide) ?_
  obtain ⟨σ1, eσ1, hf⟩ := bd_s hf
  refine bk_copy (wf := cw) (σ1 := σ1) (q0 := 24) (q1 := 58) (n0 := 9) (n1 := 9) (js := 0) (jd := 0) (jn := 9) C hP hD hS hl.1 wa_446 wa_441 wa_442 wa_443 rfl rfl (by decide) (by decide) (by decide) (by decide) (by decide) (by decide) (Nat.le_of_ble_eq_true rfl) (Nat.le_of_ble_eq_true rfl) (Nat.le_of_ble_eq_true rfl) (Nat.le_of_ble_eq_true rfl) (by rw [eσ1]; exact cw_r58 g _ _) dX11_copyFarms_6 (fun H locs hP hD hS => ?_)
  cases hf
  exact bk_vret C hP hD hS rfl dX11_copyFarms_9
theorem c_X11_copyFarms_24_58 {N : Nat} {σ : Sg} {z : Sg} (hX : xOK g X) (hf : f_X11_copyFarms_24_58 N σ = some z) : MetV l yX11_copyFarms (Cond.code yX11_copyFarms cX11_copyFarms 2 none :: wsA) rm_X11_copyFarms_24_58 cw g X [.ref (g.2.2 24), .ref (g.2.2 58)] σ z :=
  MetV_of hX (by decide) (Nat.le_of_ble_eq_true rfl) (fun p e s m args below meth c A C => b_X11_copyFarms_24_58 C hf)
-- X11_copyFarms_25_59: copyFarms([I[I)V
abbrev rm_X11_copyFarms_25_59 : Room := { frames := 1, cells := 0, slots := 0, locals := 80 }
def f_X11_copyFarms_25_59 (N : Nat) (σ : Sg) : Option (Sg) :=
bd (wrR σ 59 (va_cpy (σ 25) (σ 59) 0 0 9)) fun σ1 =>
some σ1
set_option maxHeartbeats 4000000 in
set_option maxRecDepth 100000 in
theorem b_X11_copyFarms_25_59 {N : Nat} {σ : Sg} {z : Sg} (C : Cx p s m args meth c cX11_copyFarms 2 none RX11 g A X) (hf : f_X11_copyFarms_25_59 N σ = some z) : Bk cw p l e rm_X11_copyFarms_25_59 s m args below meth c 2 g A (MQ below (qV cw g A z) args s 0 0 A) 0 0 0 [(0, .ref (g.2.2 25)), (1, .ref (g.2.2 59))] [] σ := by
  obtain ⟨hx, hb, hr, hml, hown, hts, hK, hlocks, hXX, hA, hXo⟩ := id C
  intro H locs ls hP hD hS hl
  unfold f_X11_copyFarms_25_59 at hf
  refine lv_aload_n hx hb dX11_copyFarms_0 rfl (lv_at hl 0 rfl) ?_
  refine lv_iconst (v := (0 : Int32)) hx hb dX11_copyFarms_1 (by decide) ?_
  refine lv_aload_n hx hb dX11_copyFarms_2 rfl (lv_at hl 1 rfl) ?_
  refine lv_iconst (v := (0 : Int32)) hx hb dX11_copyFarms_3 (by decide) ?_
  refine lv_bipush (v := (9 : Int32)) hx hb dX11_copyFarms_4 (by decide) ?_
  obtain ⟨σ1, eσ1, hf⟩ := bd_s hf
  refine bk_copy (wf := cw) (σ1 := σ1) (q0 := 25) (q1 := 59) (n0 := 9) (n1 := 9) (js := 0) (jd := 0) (jn := 9) C hP hD hS hl.1 wa_446 wa_441 wa_442 wa_443 rfl rfl (by decide) (by decide) (by decide) (by decide) (by decide) (by decide) (Nat.le_of_ble_eq_true rfl) (Nat.le_of_ble_eq_true rfl) (Nat.le_of_ble_eq_true rfl) (Nat.le_of_ble_eq_true rfl) (by rw [eσ1]; exact cw_r59 g _ _) dX11_copyFarms_6 (fun H locs hP hD hS => ?_)
  cases hf
  exact bk_vret C hP hD hS rfl dX11_copyFarms_9
theorem c_X11_copyFarms_25_59 {N : Nat} {σ : Sg} {z : Sg} (hX : xOK g X) (hf : f_X11_copyFarms_25_59 N σ = some z) : MetV l yX11_copyFarms (Cond.code yX11_copyFarms cX11_copyFarms 2 none :: wsA) rm_X11_copyFarms_25_59 cw g X [.ref (g.2.2 25), .ref (g.2.2 59)] σ z :=
  MetV_of hX (by decide) (Nat.le_of_ble_eq_true rfl) (fun p e s m args below meth c A C => b_X11_copyFarms_25_59 C hf)
-- X11_copyFarms_26_60: copyFarms([I[I)V
abbrev rm_X11_copyFarms_26_60 : Room := { frames := 1, cells := 0, slots := 0, locals := 80 }
def f_X11_copyFarms_26_60 (N : Nat) (σ : Sg) : Option (Sg) :=
bd (wrR σ 60 (va_cpy (σ 26) (σ 60) 0 0 9)) fun σ1 =>
some σ1
set_option maxHeartbeats 4000000 in
set_option maxRecDepth 100000 in
theorem b_X11_copyFarms_26_60 {N : Nat} {σ : Sg} {z : Sg} (C : Cx p s m args meth c cX11_copyFarms 2 none RX11 g A X) (hf : f_X11_copyFarms_26_60 N σ = some z) : Bk cw p l e rm_X11_copyFarms_26_60 s m args below meth c 2 g A (MQ below (qV cw g A z) args s 0 0 A) 0 0 0 [(0, .ref (g.2.2 26)), (1, .ref (g.2.2 60))] [] σ := by
  obtain ⟨hx, hb, hr, hml, hown, hts, hK, hlocks, hXX, hA, hXo⟩ := id C
  intro H locs ls hP hD hS hl
  unfold f_X11_copyFarms_26_60 at hf
  refine lv_aload_n hx hb dX11_copyFarms_0 rfl (lv_at hl 0 rfl) ?_
  refine lv_iconst (v := (0 : Int32)) hx hb dX11_copyFarms_1 (by decide) ?_
  refine lv_aload_n hx hb dX11_copyFarms_2 rfl (lv_at hl 1 rfl) ?_
  refine lv_iconst (v := (0 : Int32)) hx hb dX11_copyFarms_3 (by decide) ?_
  refine lv_bipush (v := (9 : Int32)) hx hb dX11_copyFarms_4 (by decide) ?_
  obtain ⟨σ1, eσ1, hf⟩ := bd_s hf
  refine bk_copy (wf := cw) (σ1 := σ1) (q0 := 26) (q1 := 60) (n0 := 9) (n1 := 9) (js := 0) (jd := 0) (jn := 9) C hP hD hS hl.1 wa_446 wa_441 wa_442 wa_443 rfl rfl (by decide) (by decide) (by decide) (by decide) (by decide) (by decide) (Nat.le_of_ble_eq_true rfl) (Nat.le_of_ble_eq_true rfl) (Nat.le_of_ble_eq_true rfl) (Nat.le_of_ble_eq_true rfl) (by rw [eσ1]; exact cw_r60 g _ _) dX11_copyFarms_6 (fun H locs hP hD hS => ?_)
  cases hf
  exact bk_vret C hP hD hS rfl dX11_copyFarms_9
theorem c_X11_copyFarms_26_60 {N : Nat} {σ : Sg} {z : Sg} (hX : xOK g X) (hf : f_X11_copyFarms_26_60 N σ = some z) : MetV l yX11_copyFarms (Cond.code yX11_copyFarms cX11_copyFarms 2 none :: wsA) rm_X11_copyFarms_26_60 cw g X [.ref (g.2.2 26), .ref (g.2.2 60)] σ z :=
  MetV_of hX (by decide) (Nat.le_of_ble_eq_true rfl) (fun p e s m args below meth c A C => b_X11_copyFarms_26_60 C hf)
-- X7_copy_56_22: copy(LNodPost$State;)V
abbrev rm_X7_copy_56_22 : Room := { frames := 2, cells := 0, slots := 0, locals := 101 }
theorem nd_X7_copy : yX7_copy.cls ≠ "java/lang/invoke/MethodHandle" ∧ yX7_copy.cls ≠ "java/lang/invoke/VarHandle" ∧ (parseMethodDescriptor yX7_copy.desc).map (fun d => d.parameters.length) = some 1 := by decide +kernel
def f_X7_copy_56_22 (N : Nat) (σ : Sg) : Option (Sg) :=
bd (wr σ 56 0 (σ 22 0)) fun σ1 =>
bd (wr σ1 56 1 (σ1 22 1)) fun σ2 =>
(f_X11_copyFarms_23_57 N σ2).bind fun q3 =>
(f_X11_copyFarms_24_58 N q3).bind fun q4 =>
(f_X11_copyFarms_25_59 N q4).bind fun q5 =>
(f_X11_copyFarms_26_60 N q5).bind fun q6 =>
some q6
set_option maxHeartbeats 4000000 in
set_option maxRecDepth 100000 in
theorem b_X7_copy_56_22 {N : Nat} {σ : Sg} {z : Sg} (C : Cx p s m args meth c cX7_copy 2 none RX7 g A X) (hf : f_X7_copy_56_22 N σ = some z) : Bk cw p l e rm_X7_copy_56_22 s m args below meth c 2 g A (MQ below (qV cw g A z) args s 0 0 A) 0 0 0 [(0, .ref (g.2.2 56)), (1, .ref (g.2.2 22))] [] σ := by
  obtain ⟨hx, hb, hr, hml, hown, hts, hK, hlocks, hXX, hA, hXo⟩ := id C
  intro H locs ls hP hD hS hl
  unfold f_X7_copy_56_22 at hf
  refine lv_aload_n hx hb dX7_copy_0 rfl (lv_at hl 0 rfl) ?_
  refine lv_aload_n hx hb dX7_copy_1 rfl (lv_at hl 1 rfl) ?_
  refine bk_get (wf := cw) (q0 := 22) (ci := 7) (k := 0) (v := .int (σ 22 0)) C hP wl_X7 rfl rfl (by decide) wa_107 rfl rfl dX7_copy_2 ?_
  obtain ⟨σ1, eσ1, hf⟩ := bd_s hf
  refine bk_put (wf := cw) (σ1 := σ1) (q0 := 56) (ci := 7) (k := 0) (v := .int (σ 22 0)) C hP hD hS wl_X7 tyX7_ok nmX7 rfl rfl (by decide) wa_107 rfl rfl rfl rfl rfl (Nat.le_of_ble_eq_true rfl) (by rw [eσ1]; exact cw_p56_0 g _ _) dX7_copy_5 (fun H locs hP hD hS => ?_)
  refine lv_aload_n hx hb dX7_copy_8 rfl (lv_at hl 0 rfl) ?_
  refine lv_aload_n hx hb dX7_copy_9 rfl (lv_at hl 1 rfl) ?_
  refine bk_get (wf := cw) (q0 := 22) (ci := 7) (k := 1) (v := .int (σ1 22 1)) C hP wl_X7 rfl rfl (by decide) wa_108 rfl rfl dX7_copy_10 ?_
  obtain ⟨σ2, eσ2, hf⟩ := bd_s hf
  refine bk_put (wf := cw) (σ1 := σ2) (q0 := 56) (ci := 7) (k := 1) (v := .int (σ1 22 1)) C hP hD hS wl_X7 tyX7_ok nmX7 rfl rfl (by decide) wa_108 rfl rfl rfl rfl rfl (Nat.le_of_ble_eq_true rfl) (by rw [eσ2]; exact cw_p56_1 g _ _) dX7_copy_13 (fun H locs hP hD hS => ?_)
  refine lv_aload_n hx hb dX7_copy_16 rfl (lv_at hl 1 rfl) ?_
  refine bk_get (wf := cw) (q0 := 22) (ci := 7) (k := 2) (v := .ref (g.2.2 23)) C hP wl_X7 rfl rfl (by decide) wa_109 rfl rfl dX7_copy_17 ?_
  refine lv_aload_n hx hb dX7_copy_20 rfl (lv_at hl 0 rfl) ?_
  refine bk_get (wf := cw) (q0 := 56) (ci := 7) (k := 2) (v := .ref (g.2.2 57)) C hP wl_X7 rfl rfl (by decide) wa_109 rfl rfl dX7_copy_21 ?_
  obtain ⟨q3, hq3, hf⟩ := bi_s hf
  refine bk_NV (wf := cw) (rest := []) [.ref (g.2.2 23), .ref (g.2.2 57)] C hP hD hS hl.1 (c_X11_copyFarms_23_57 hXo hq3) wa_445 wa_444 wa_2 (hXo.2.2.2 _ _ _ hXX).1.1 rfl rfl nd_X11_copyFarms ⟨Nat.le_of_ble_eq_true rfl, Nat.le_of_ble_eq_true rfl⟩ rfl rfl (Nat.le_of_ble_eq_true rfl) dX7_copy_24 ⟨Nat.le_of_ble_eq_true rfl, Nat.le_of_ble_eq_true rfl⟩ (fun H locs hP hD hS => ?_)
  refine lv_aload_n hx hb dX7_copy_27 rfl (lv_at hl 1 rfl) ?_
  refine bk_get (wf := cw) (q0 := 22) (ci := 7) (k := 3) (v := .ref (g.2.2 24)) C hP wl_X7 rfl rfl (by decide) wa_110 rfl rfl dX7_copy_28 ?_
  refine lv_aload_n hx hb dX7_copy_31 rfl (lv_at hl 0 rfl) ?_
  refine bk_get (wf := cw) (q0 := 56) (ci := 7) (k := 3) (v := .ref (g.2.2 58)) C hP wl_X7 rfl rfl (by decide) wa_110 rfl rfl dX7_copy_32 ?_
  obtain ⟨q4, hq4, hf⟩ := bi_s hf
  refine bk_NV (wf := cw) (rest := []) [.ref (g.2.2 24), .ref (g.2.2 58)] C hP hD hS hl.1 (c_X11_copyFarms_24_58 hXo hq4) wa_445 wa_444 wa_2 (hXo.2.2.2 _ _ _ hXX).1.1 rfl rfl nd_X11_copyFarms ⟨Nat.le_of_ble_eq_true rfl, Nat.le_of_ble_eq_true rfl⟩ rfl rfl (Nat.le_of_ble_eq_true rfl) dX7_copy_35 ⟨Nat.le_of_ble_eq_true rfl, Nat.le_of_ble_eq_true rfl⟩ (fun H locs hP hD hS => ?_)
  refine lv_aload_n hx hb dX7_copy_38 rfl (lv_at hl 1 rfl) ?_
  refine bk_get (wf := cw) (q0 := 22) (ci := 7) (k := 4) (v := .ref (g.2.2 25)) C hP wl_X7 rfl rfl (by decide) wa_111 rfl rfl dX7_copy_39 ?_
  refine lv_aload_n hx hb dX7_copy_42 rfl (lv_at hl 0 rfl) ?_
  refine bk_get (wf := cw) (q0 := 56) (ci := 7) (k := 4) (v := .ref (g.2.2 59)) C hP wl_X7 rfl rfl (by decide) wa_111 rfl rfl dX7_copy_43 ?_
  obtain ⟨q5, hq5, hf⟩ := bi_s hf
  refine bk_NV (wf := cw) (rest := []) [.ref (g.2.2 25), .ref (g.2.2 59)] C hP hD hS hl.1 (c_X11_copyFarms_25_59 hXo hq5) wa_445 wa_444 wa_2 (hXo.2.2.2 _ _ _ hXX).1.1 rfl rfl nd_X11_copyFarms ⟨Nat.le_of_ble_eq_true rfl, Nat.le_of_ble_eq_true rfl⟩ rfl rfl (Nat.le_of_ble_eq_true rfl) dX7_copy_46 ⟨Nat.le_of_ble_eq_true rfl, Nat.le_of_ble_eq_true rfl⟩ (fun H locs hP hD hS => ?_)
  refine lv_aload_n hx hb dX7_copy_49 rfl (lv_at hl 1 rfl) ?_
  refine bk_get (wf := cw) (q0 := 22) (ci := 7) (k := 5) (v := .ref (g.2.2 26)) C hP wl_X7 rfl rfl (by decide) wa_112 rfl rfl dX7_copy_50 ?_
  refine lv_aload_n hx hb dX7_copy_53 rfl (lv_at hl 0 rfl) ?_
  refine bk_get (wf := cw) (q0 := 56) (ci := 7) (k := 5) (v := .ref (g.2.2 60)) C hP wl_X7 rfl rfl (by decide) wa_112 rfl rfl dX7_copy_54 ?_
  obtain ⟨q6, hq6, hf⟩ := bi_s hf
  refine bk_NV (wf := cw) (rest := []) [.ref (g.2.2 26), .ref (g.2.2 60)] C hP hD hS hl.1 (c_X11_copyFarms_26_60 hXo hq6) wa_445 wa_444 wa_2 (hXo.2.2.2 _ _ _ hXX).1.1 rfl rfl nd_X11_copyFarms ⟨Nat.le_of_ble_eq_true rfl, Nat.le_of_ble_eq_true rfl⟩ rfl rfl (Nat.le_of_ble_eq_true rfl) dX7_copy_57 ⟨Nat.le_of_ble_eq_true rfl, Nat.le_of_ble_eq_true rfl⟩ (fun H locs hP hD hS => ?_)
  cases hf
  exact bk_vret C hP hD hS rfl dX7_copy_60
theorem c_X7_copy_56_22 {N : Nat} {σ : Sg} {z : Sg} (hX : xOK g X) (hf : f_X7_copy_56_22 N σ = some z) : MetV l yX7_copy (Cond.code yX7_copy cX7_copy 2 none :: wsA) rm_X7_copy_56_22 cw g X [.ref (g.2.2 56), .ref (g.2.2 22)] σ z :=
  MetV_of hX (by decide) (Nat.le_of_ble_eq_true rfl) (fun p e s m args below meth c A C => b_X7_copy_56_22 C hf)
-- X2_start_55_22: start(LNodPost$State;)V
abbrev rm_X2_start_55_22 : Room := { frames := 3, cells := 0, slots := 0, locals := 122 }
theorem nd_X2_start : yX2_start.cls ≠ "java/lang/invoke/MethodHandle" ∧ yX2_start.cls ≠ "java/lang/invoke/VarHandle" ∧ (parseMethodDescriptor yX2_start.desc).map (fun d => d.parameters.length) = some 1 := by decide +kernel
def s_X2_start_55_22_h10 (N : Nat) (x2 : Int32) (σ : Sg) : Option (Nat × Int32 × Sg) :=
if (9 : Int32) ≤ x2 then (some (1, 0, σ))
else (if (x2 < 0 ∨ 9 ≤ x2.toNatClampNeg) then none else
bd (wr σ 61 (x2.toNatClampNeg) (0 : Int32)) fun σ2 =>
bd (x2 + (1 : Int32)) fun v3 =>
some (0, v3, σ2))
set_option maxHeartbeats 4000000 in
set_option maxRecDepth 100000 in
theorem e_X2_start_55_22_h10 {N : Nat} {x2 : Int32} {σ : Sg} {z : Nat × Int32 × Sg} (C : Cx p s m args meth c cX2_start 3 none RX2 g A X) (hf : s_X2_start_55_22_h10 N x2 σ = some z) (k0 : z.1 = 0 → Bk cw p l e rm_X2_start_55_22 s m args below meth c 3 g A Q 0 0 10 [(0, .ref (g.2.2 55)), (2, .int z.2.1)] [] z.2.2) (k : ¬ z.1 = 0 → Bk cw p l e rm_X2_start_55_22 s m args below meth c 3 g A Q 0 0 29 [] [] z.2.2) : Bk cw p l e rm_X2_start_55_22 s m args below meth c 3 g A Q 0 0 10 [(0, .ref (g.2.2 55)), (2, .int x2)] [] σ := by
  obtain ⟨hx, hb, hr, hml, hown, hts, hK, hlocks, hXX, hA, hXo⟩ := id C
  intro H locs ls hP hD hS hl
  unfold s_X2_start_55_22_h10 at hf
  refine lv_iload_n hx hb dX2_start_10 rfl (lv_at hl 1 rfl) ?_
  refine lv_bipush (v := (9 : Int32)) hx hb dX2_start_11 (by decide) ?_
  refine lv_icmp_ge (tgt := 29) hx hb dX2_start_13 (by decide) (fun t13 => ?_) (fun t13 => ?_)
  · have hf := (if_pos t13).symm.trans hf
    cases hf
    exact (k (show ¬ (1 : Nat) = 0 by decide)) H locs ls hP hD hS (lv_sub hl [] rfl)
  · have hf := (if_neg t13).symm.trans hf
    refine lv_aload_n hx hb dX2_start_16 rfl (lv_at hl 0 rfl) ?_
    refine bk_get (wf := cw) (q0 := 55) (ci := 2) (k := 1) (v := .ref (g.2.2 61)) C hP wl_X2 rfl rfl (by decide) wa_145 rfl rfl dX2_start_17 ?_
    refine lv_iload_n hx hb dX2_start_20 rfl (lv_at hl 1 rfl) ?_
    refine lv_iconst (v := (0 : Int32)) hx hb dX2_start_21 (by decide) ?_
    obtain ⟨g1, hf⟩ := gd_s hf
    obtain ⟨σ2, eσ2, hf⟩ := bd_s hf
    refine bk_iast (wf := cw) (σ1 := σ2) (q0 := 61) (n := 9) (j := x2.toNatClampNeg) C hP hD hS rfl g1 rfl (by rw [eσ2]; exact cw_a61 g _ _ _) dX2_start_22 (fun H locs hP hD hS => ?_)
    obtain ⟨v3, ev3, hf⟩ := bd_s hf
    refine lv_iinc (v := v3) (lv' := [(2, .int v3), (0, .ref (g.2.2 55))]) hx hb dX2_start_23 hl (k := 1) rfl (by rw [ev3]; rfl) (by decide) rfl (fun ls hl => ?_)
    refine lv_goto (tgt := 10) hx hb dX2_start_26 (by decide) ?_
    cases hf
    exact k0 rfl H locs ls hP hD hS (lv_sub hl [1, 0] rfl)
theorem lp_X2_start_55_22_h10 {N : Nat} {n : Nat} {x2 : Int32} {σ : Sg} {z : Nat × Int32 × Sg} (C : Cx p s m args meth c cX2_start 3 none RX2 g A X) (hz : it (fun q => s_X2_start_55_22_h10 N q.1 q.2) n (x2, σ) = some z) (k : Bk cw p l e rm_X2_start_55_22 s m args below meth c 3 g A Q 0 0 29 [] [] z.2.2) : Bk cw p l e rm_X2_start_55_22 s m args below meth c 3 g A Q 0 0 10 [(0, .ref (g.2.2 55)), (2, .int x2)] [] σ :=
  it_W (S := Int32 × Sg) (fun q => Bk cw p l e rm_X2_start_55_22 s m args below meth c 3 g A Q 0 0 10 [(0, .ref (g.2.2 55)), (2, .int q.1)] [] q.2) (fun z => Bk cw p l e rm_X2_start_55_22 s m args below meth c 3 g A Q 0 0 29 [] [] z.2.2) (fun q z hq k0 k => e_X2_start_55_22_h10 C hq k0 k) n (x2, σ) z hz k
def f_X2_start_55_22 (N : Nat) (σ : Sg) : Option (Sg) :=
(f_X7_copy_56_22 N σ).bind fun q4 =>
(it (fun q => s_X2_start_55_22_h10 N q.1 q.2) N ((0 : Int32), q4)).bind fun z5 =>
some (z5.2.2)
set_option maxHeartbeats 4000000 in
set_option maxRecDepth 100000 in
theorem b_X2_start_55_22 {N : Nat} {σ : Sg} {z : Sg} (C : Cx p s m args meth c cX2_start 3 none RX2 g A X) (hf : f_X2_start_55_22 N σ = some z) : Bk cw p l e rm_X2_start_55_22 s m args below meth c 3 g A (MQ below (qV cw g A z) args s 0 0 A) 0 0 0 [(0, .ref (g.2.2 55)), (1, .ref (g.2.2 22))] [] σ := by
  obtain ⟨hx, hb, hr, hml, hown, hts, hK, hlocks, hXX, hA, hXo⟩ := id C
  intro H locs ls hP hD hS hl
  unfold f_X2_start_55_22 at hf
  refine lv_aload_n hx hb dX2_start_0 rfl (lv_at hl 0 rfl) ?_
  refine bk_get (wf := cw) (q0 := 55) (ci := 2) (k := 0) (v := .ref (g.2.2 56)) C hP wl_X2 rfl rfl (by decide) wa_144 rfl rfl dX2_start_1 ?_
  refine lv_aload_n hx hb dX2_start_4 rfl (lv_at hl 1 rfl) ?_
  obtain ⟨q4, hq4, hf⟩ := bi_s hf
  refine bk_VV (wf := cw) (q0 := 56) (ci := 7) (rest := []) [.ref (g.2.2 22)] C hP hD hS hl.1 (c_X7_copy_56_22 hXo hq4) (cwA_V 1 hts wa_829 wa_826 wa_827 wa_828 wa_93 rfl rfl nd_X7_copy ⟨Nat.le_of_ble_eq_true rfl, Nat.le_of_ble_eq_true rfl⟩) rfl rfl rfl rfl (Nat.le_of_ble_eq_true rfl) dX2_start_5 ⟨Nat.le_of_ble_eq_true rfl, Nat.le_of_ble_eq_true rfl⟩ (fun H locs hP hD hS => ?_)
  refine lv_iconst (v := (0 : Int32)) hx hb dX2_start_8 (by decide) ?_
  refine lv_istore_n (lv' := [(2, .int (0 : Int32)), (0, .ref (g.2.2 55)), (1, .ref (g.2.2 22))]) hx hb dX2_start_9 rfl hl (by decide) rfl (fun ls hl => ?_)
  obtain ⟨z5, hz5, hf⟩ := bi_s hf
  refine lp_X2_start_55_22_h10 C hz5 ?_ H locs ls hP hD hS (lv_sub hl [1, 0] rfl)
  intro H locs ls hP hD hS hl
  cases hf
  exact bk_vret C hP hD hS rfl dX2_start_29
theorem c_X2_start_55_22 {N : Nat} {σ : Sg} {z : Sg} (hX : xOK g X) (hf : f_X2_start_55_22 N σ = some z) : MetV l yX2_start (Cond.code yX2_start cX2_start 3 none :: wsA) rm_X2_start_55_22 cw g X [.ref (g.2.2 55), .ref (g.2.2 22)] σ z :=
  MetV_of hX (by decide) (Nat.le_of_ble_eq_true rfl) (fun p e s m args below meth c A C => b_X2_start_55_22 C hf)
end GEN
