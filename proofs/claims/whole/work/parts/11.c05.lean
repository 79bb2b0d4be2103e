section GEN
variable {p : Program} {l : Launch} {e : Env} {s : State} {m : MethodId} {args : Array Value} {below : List Frame} {meth : Method} {c : Code} {g : WG} {A : Nat → Prop} {X : Xt} {Q : State → Prop}
-- X11_toBegin_0: toBegin(I)I
abbrev rm_X11_toBegin_0 : Room := { frames := 8, cells := 1, slots := 6, locals := 189 }
theorem nd_X11_toBegin : yX11_toBegin.cls ≠ "java/lang/invoke/MethodHandle" ∧ yX11_toBegin.cls ≠ "java/lang/invoke/VarHandle" ∧ (parseMethodDescriptor yX11_toBegin.desc).map (fun d => d.parameters.length) = some 1 := by decide +kernel
def f_X11_toBegin_0_b82 (N : Nat) (x1 : Int32) (x2 : Int32) (x3 : Int32) (x4 : Int32) (σ : Sg) : Option (Nat × Int32 × Sg) :=
bd (x4 + (1 : Int32)) fun v1 =>
some (0, v1, σ)
set_option maxHeartbeats 4000000 in
set_option maxRecDepth 100000 in
theorem b_X11_toBegin_0_b82 {N : Nat} {x1 : Int32} {x2 : Int32} {x3 : Int32} {x4 : Int32} {σ : Sg} {z : Nat × Int32 × Sg} (C : Cx p s m args meth c cX11_toBegin 5 (some .int) RX11 g A X) (hex : ∀ x ∈ c.exceptionTable.toList, False) (hst : l.stackTraces = false) (hf : f_X11_toBegin_0_b82 N x1 x2 x3 x4 σ = some z) (k0 : z.1 = 0 → Bk cw p l e rm_X11_toBegin_0 s m args below meth c 5 g A Q 1 6 44 [(0, .ref (g.2.2 0)), (1, .int x1), (2, .int x2), (3, .int x3), (4, .int z.2.1)] [] z.2.2) (k : ¬ z.1 = 0 → ((z.1 = 1 → Bk cw p l e rm_X11_toBegin_0 s m args below meth c 5 g A Q 1 6 79 [(4, .int z.2.1)] [] z.2.2) ∧ (¬ z.1 = 1 → Bk cw p l e rm_X11_toBegin_0 s m args below meth c 5 g A Q 1 6 88 [(0, .ref (g.2.2 0)), (1, .int x1), (2, .int x2), (3, .int x3)] [] z.2.2))) : Bk cw p l e rm_X11_toBegin_0 s m args below meth c 5 g A Q 1 6 82 [(0, .ref (g.2.2 0)), (1, .int x1), (2, .int x2), (3, .int x3), (4, .int x4)] [] σ := by
  obtain ⟨hx, hb, hr, hml, hown, hts, hK, hlocks, hXX, hA, hXo⟩ := id C
  intro H locs ls hP hD hS hl
  unfold f_X11_toBegin_0_b82 at hf
  obtain ⟨v1, ev1, hf⟩ := bd_s hf
  refine lv_iinc (v := v1) (lv' := [(4, .int v1), (0, .ref (g.2.2 0)), (1, .int x1), (2, .int x2), (3, .int x3)]) hx hb dX11_toBegin_82 hl (k := 4) rfl (by rw [ev1]; rfl) (by decide) rfl (fun ls hl => ?_)
  refine lv_goto (tgt := 44) hx hb dX11_toBegin_85 (by decide) ?_
  cases hf
  exact k0 rfl H locs ls hP hD hS (lv_sub hl [1, 2, 3, 4, 0] rfl)
def s_X11_toBegin_0_h44 (N : Nat) (x1 : Int32) (x2 : Int32) (x3 : Int32) (x4 : Int32) (σ : Sg) : Option (Nat × Int32 × Sg) :=
if x2 < x4 then (some (2, 0, σ))
else (if (x4 &&& (x2 ^^^ (-1 : Int32))) = 0 then ((f_J6_bitCount_0f7a4 N x4 σ).bind fun q2 =>
if q2.1 = x3 then ((f_X11_reachedBy_0 N x4 x1 (q2.2)).bind fun q3 =>
if q3.1 = x2 then (some (1, x4, (q3.2)))
else (f_X11_toBegin_0_b82 N x1 x2 x3 x4 (q3.2)))
else (f_X11_toBegin_0_b82 N x1 x2 x3 x4 (q2.2)))
else (f_X11_toBegin_0_b82 N x1 x2 x3 x4 σ))
set_option maxHeartbeats 4000000 in
set_option maxRecDepth 100000 in
theorem e_X11_toBegin_0_h44 {N : Nat} {x1 : Int32} {x2 : Int32} {x3 : Int32} {x4 : Int32} {σ : Sg} {z : Nat × Int32 × Sg} (C : Cx p s m args meth c cX11_toBegin 5 (some .int) RX11 g A X) (hex : ∀ x ∈ c.exceptionTable.toList, False) (hst : l.stackTraces = false) (hf : s_X11_toBegin_0_h44 N x1 x2 x3 x4 σ = some z) (k0 : z.1 = 0 → Bk cw p l e rm_X11_toBegin_0 s m args below meth c 5 g A Q 1 6 44 [(0, .ref (g.2.2 0)), (1, .int x1), (2, .int x2), (3, .int x3), (4, .int z.2.1)] [] z.2.2) (k : ¬ z.1 = 0 → ((z.1 = 1 → Bk cw p l e rm_X11_toBegin_0 s m args below meth c 5 g A Q 1 6 79 [(4, .int z.2.1)] [] z.2.2) ∧ (¬ z.1 = 1 → Bk cw p l e rm_X11_toBegin_0 s m args below meth c 5 g A Q 1 6 88 [(0, .ref (g.2.2 0)), (1, .int x1), (2, .int x2), (3, .int x3)] [] z.2.2))) : Bk cw p l e rm_X11_toBegin_0 s m args below meth c 5 g A Q 1 6 44 [(0, .ref (g.2.2 0)), (1, .int x1), (2, .int x2), (3, .int x3), (4, .int x4)] [] σ := by
  obtain ⟨hx, hb, hr, hml, hown, hts, hK, hlocks, hXX, hA, hXo⟩ := id C
  intro H locs ls hP hD hS hl
  unfold s_X11_toBegin_0_h44 at hf
  refine lv_iload hx hb dX11_toBegin_44 (lv_at hl 4 rfl) ?_
  refine lv_iload_n hx hb dX11_toBegin_46 rfl (lv_at hl 2 rfl) ?_
  refine lv_icmp_gt (tgt := 88) hx hb dX11_toBegin_47 (by decide) (fun t47 => ?_) (fun t47 => ?_)
  · have hf := (if_pos t47).symm.trans hf
    cases hf
    exact ((k (show ¬ (2 : Nat) = 0 by decide)).2 (show ¬ (2 : Nat) = 1 by decide)) H locs ls hP hD hS (lv_sub hl [0, 1, 2, 3] rfl)
  · have hf := (if_neg t47).symm.trans hf
    refine lv_iload hx hb dX11_toBegin_50 (lv_at hl 4 rfl) ?_
    refine lv_iload_n hx hb dX11_toBegin_52 rfl (lv_at hl 2 rfl) ?_
    refine lv_iconst (v := (-1 : Int32)) hx hb dX11_toBegin_53 (by decide) ?_
    refine lv_ixor hx hb dX11_toBegin_54 ?_
    refine lv_iand hx hb dX11_toBegin_55 ?_
    refine lv_if_ne (tgt := 82) hx hb dX11_toBegin_56 (by decide) (fun t56 => ?_) (fun t56 => ?_)
    · have hf := (if_neg t56).symm.trans hf
      exact b_X11_toBegin_0_b82 C hex hst hf k0 k H locs ls hP hD hS (lv_sub hl [0, 1, 2, 3, 4] rfl)
    · have hf := (if_pos t56).symm.trans hf
      refine lv_iload hx hb dX11_toBegin_59 (lv_at hl 4 rfl) ?_
      obtain ⟨q2, hq2, hf⟩ := bi_s hf
      refine bk_SI (wf := cw) (rest := []) [.int x4] C hP hD hS hl.1 (c_J6_bitCount_0f7a4 hXo hq2) (cwA_S 1 hts wa_699 wa_1071 wa_697 wa_698 rfl rfl nd_J6_bitCount_0f7a4 ⟨Nat.le_of_ble_eq_true rfl, Nat.le_of_ble_eq_true rfl⟩) rfl rfl (Nat.le_of_ble_eq_true rfl) dX11_toBegin_61 ⟨Nat.le_of_ble_eq_true rfl, Nat.le_of_ble_eq_true rfl⟩ (fun H locs hP hD hS => ?_)
      refine lv_iload_n hx hb dX11_toBegin_64 rfl (lv_at hl 3 rfl) ?_
      refine lv_icmp_ne (tgt := 82) hx hb dX11_toBegin_65 (by decide) (fun t65 => ?_) (fun t65 => ?_)
      · have hf := (if_neg t65).symm.trans hf
        exact b_X11_toBegin_0_b82 C hex hst hf k0 k H locs ls hP hD hS (lv_sub hl [0, 1, 2, 3, 4] rfl)
      · have hf := (if_pos t65).symm.trans hf
        refine lv_aload_n hx hb dX11_toBegin_68 rfl (lv_at hl 0 rfl) ?_
        refine lv_iload hx hb dX11_toBegin_69 (lv_at hl 4 rfl) ?_
        refine lv_iload_n hx hb dX11_toBegin_71 rfl (lv_at hl 1 rfl) ?_
        obtain ⟨q3, hq3, hf⟩ := bi_s hf
        refine bk_VI (wf := cw) (q0 := 0) (ci := 10) (rest := []) [.int x4, .int x1] C hP hD hS hl.1 (c_X11_reachedBy_0 hXo hq3) (cwA_V 2 hts wa_1128 wa_1125 wa_1126 wa_1127 wa_2 rfl rfl nd_X11_reachedBy ⟨Nat.le_of_ble_eq_true rfl, Nat.le_of_ble_eq_true rfl⟩) rfl rfl rfl rfl (Nat.le_of_ble_eq_true rfl) dX11_toBegin_72 ⟨Nat.le_of_ble_eq_true rfl, Nat.le_of_ble_eq_true rfl⟩ (fun H locs hP hD hS => ?_)
        refine lv_iload_n hx hb dX11_toBegin_75 rfl (lv_at hl 2 rfl) ?_
        refine lv_icmp_ne (tgt := 82) hx hb dX11_toBegin_76 (by decide) (fun t76 => ?_) (fun t76 => ?_)
        · have hf := (if_neg t76).symm.trans hf
          exact b_X11_toBegin_0_b82 C hex hst hf k0 k H locs ls hP hD hS (lv_sub hl [0, 1, 2, 3, 4] rfl)
        · have hf := (if_pos t76).symm.trans hf
          cases hf
          exact ((k (show ¬ (1 : Nat) = 0 by decide)).1 rfl) H locs ls hP hD hS (lv_sub hl [4] rfl)
theorem lp_X11_toBegin_0_h44 {N : Nat} {n : Nat} {x1 : Int32} {x2 : Int32} {x3 : Int32} {x4 : Int32} {σ : Sg} {z : Nat × Int32 × Sg} (C : Cx p s m args meth c cX11_toBegin 5 (some .int) RX11 g A X) (hex : ∀ x ∈ c.exceptionTable.toList, False) (hst : l.stackTraces = false) (hz : it (fun q => s_X11_toBegin_0_h44 N x1 x2 x3 q.1 q.2) n (x4, σ) = some z) (k : ((z.1 = 1 → Bk cw p l e rm_X11_toBegin_0 s m args below meth c 5 g A Q 1 6 79 [(4, .int z.2.1)] [] z.2.2) ∧ (¬ z.1 = 1 → Bk cw p l e rm_X11_toBegin_0 s m args below meth c 5 g A Q 1 6 88 [(0, .ref (g.2.2 0)), (1, .int x1), (2, .int x2), (3, .int x3)] [] z.2.2))) : Bk cw p l e rm_X11_toBegin_0 s m args below meth c 5 g A Q 1 6 44 [(0, .ref (g.2.2 0)), (1, .int x1), (2, .int x2), (3, .int x3), (4, .int x4)] [] σ :=
  it_W (S := Int32 × Sg) (fun q => Bk cw p l e rm_X11_toBegin_0 s m args below meth c 5 g A Q 1 6 44 [(0, .ref (g.2.2 0)), (1, .int x1), (2, .int x2), (3, .int x3), (4, .int q.1)] [] q.2) (fun z => ((z.1 = 1 → Bk cw p l e rm_X11_toBegin_0 s m args below meth c 5 g A Q 1 6 79 [(4, .int z.2.1)] [] z.2.2) ∧ (¬ z.1 = 1 → Bk cw p l e rm_X11_toBegin_0 s m args below meth c 5 g A Q 1 6 88 [(0, .ref (g.2.2 0)), (1, .int x1), (2, .int x2), (3, .int x3)] [] z.2.2))) (fun q z hq k0 k => e_X11_toBegin_0_h44 C hex hst hq k0 k) n (x4, σ) z hz k
def s_X11_toBegin_0_h30 (N : Nat) (x1 : Int32) (x2 : Int32) (x3 : Int32) (x4 : Int32) (σ : Sg) : Option (Nat × Int32 × Int32 × Sg) :=
if (σ 12 0) < x3 then (some (2, 0, 0, σ))
else ((it (fun q => s_X11_toBegin_0_h44 N x1 x2 x3 q.1 q.2) N ((0 : Int32), σ)).bind fun z4 =>
if z4.1 = 1 then (some (1, 0, (z4.2.1), (z4.2.2)))
else (bd (x3 + (1 : Int32)) fun v5 =>
some (0, v5, 0, (z4.2.2))))
set_option maxHeartbeats 4000000 in
set_option maxRecDepth 100000 in
theorem e_X11_toBegin_0_h30 {N : Nat} {x1 : Int32} {x2 : Int32} {x3 : Int32} {x4 : Int32} {σ : Sg} {z : Nat × Int32 × Int32 × Sg} (C : Cx p s m args meth c cX11_toBegin 5 (some .int) RX11 g A X) (hex : ∀ x ∈ c.exceptionTable.toList, False) (hst : l.stackTraces = false) (hf : s_X11_toBegin_0_h30 N x1 x2 x3 x4 σ = some z) (k0 : z.1 = 0 → Bk cw p l e rm_X11_toBegin_0 s m args below meth c 5 g A Q 1 6 30 [(0, .ref (g.2.2 0)), (1, .int x1), (2, .int x2), (3, .int z.2.1)] [] z.2.2.2) (k : ¬ z.1 = 0 → ((z.1 = 1 → Bk cw p l e rm_X11_toBegin_0 s m args below meth c 5 g A Q 1 6 79 [(4, .int z.2.2.1)] [] z.2.2.2) ∧ (¬ z.1 = 1 → Bk cw p l e rm_X11_toBegin_0 s m args below meth c 5 g A Q 1 6 94 [] [] z.2.2.2))) : Bk cw p l e rm_X11_toBegin_0 s m args below meth c 5 g A Q 1 6 30 [(0, .ref (g.2.2 0)), (1, .int x1), (2, .int x2), (3, .int x3)] [] σ := by
  obtain ⟨hx, hb, hr, hml, hown, hts, hK, hlocks, hXX, hA, hXo⟩ := id C
  intro H locs ls hP hD hS hl
  unfold s_X11_toBegin_0_h30 at hf
  refine lv_iload_n hx hb dX11_toBegin_30 rfl (lv_at hl 3 rfl) ?_
  refine lv_aload_n hx hb dX11_toBegin_31 rfl (lv_at hl 0 rfl) ?_
  refine bk_get (wf := cw) (q0 := 0) (ci := 10) (k := 3) (v := .ref (g.2.2 12)) C hP wl_X11 rfl rfl (by decide) wa_23 rfl rfl dX11_toBegin_32 ?_
  refine bk_get (wf := cw) (q0 := 12) (ci := 8) (k := 0) (v := .int (σ 12 0)) C hP wl_X9 rfl rfl (by decide) wa_644 rfl rfl dX11_toBegin_35 ?_
  refine lv_icmp_gt (tgt := 94) hx hb dX11_toBegin_38 (by decide) (fun t38 => ?_) (fun t38 => ?_)
  · have hf := (if_pos t38).symm.trans hf
    cases hf
    exact ((k (show ¬ (2 : Nat) = 0 by decide)).2 (show ¬ (2 : Nat) = 1 by decide)) H locs ls hP hD hS (lv_sub hl [] rfl)
  · have hf := (if_neg t38).symm.trans hf
    refine lv_iconst (v := (0 : Int32)) hx hb dX11_toBegin_41 (by decide) ?_
    refine lv_istore (lv' := [(4, .int (0 : Int32)), (0, .ref (g.2.2 0)), (1, .int x1), (2, .int x2), (3, .int x3)]) hx hb dX11_toBegin_42 hl (by decide) rfl (fun ls hl => ?_)
    obtain ⟨z4, hz4, hf⟩ := bi_s hf
    refine lp_X11_toBegin_0_h44 C hex hst hz4 ⟨fun t0 => ?_, fun t0 => ?_⟩ H locs ls hP hD hS (lv_sub hl [1, 2, 3, 4, 0] rfl)
    · have hf := (if_pos t0).symm.trans hf
      intro H locs ls hP hD hS hl
      cases hf
      exact ((k (show ¬ (1 : Nat) = 0 by decide)).1 rfl) H locs ls hP hD hS (lv_sub hl [0] rfl)
    · have hf := (if_neg t0).symm.trans hf
      intro H locs ls hP hD hS hl
      obtain ⟨v5, ev5, hf⟩ := bd_s hf
      refine lv_iinc (v := v5) (lv' := [(3, .int v5), (0, .ref (g.2.2 0)), (1, .int x1), (2, .int x2)]) hx hb dX11_toBegin_88 hl (k := 3) rfl (by rw [ev5]; rfl) (by decide) rfl (fun ls hl => ?_)
      refine lv_goto (tgt := 30) hx hb dX11_toBegin_91 (by decide) ?_
      cases hf
      exact k0 rfl H locs ls hP hD hS (lv_sub hl [1, 2, 3, 0] rfl)
theorem lp_X11_toBegin_0_h30 {N : Nat} {n : Nat} {x1 : Int32} {x2 : Int32} {x3 : Int32} {x4 : Int32} {σ : Sg} {z : Nat × Int32 × Int32 × Sg} (C : Cx p s m args meth c cX11_toBegin 5 (some .int) RX11 g A X) (hex : ∀ x ∈ c.exceptionTable.toList, False) (hst : l.stackTraces = false) (hz : it (fun q => s_X11_toBegin_0_h30 N x1 x2 q.1 q.2.1 q.2.2) n (x3, x4, σ) = some z) (k : ((z.1 = 1 → Bk cw p l e rm_X11_toBegin_0 s m args below meth c 5 g A Q 1 6 79 [(4, .int z.2.2.1)] [] z.2.2.2) ∧ (¬ z.1 = 1 → Bk cw p l e rm_X11_toBegin_0 s m args below meth c 5 g A Q 1 6 94 [] [] z.2.2.2))) : Bk cw p l e rm_X11_toBegin_0 s m args below meth c 5 g A Q 1 6 30 [(0, .ref (g.2.2 0)), (1, .int x1), (2, .int x2), (3, .int x3)] [] σ :=
  it_W (S := Int32 × Int32 × Sg) (fun q => Bk cw p l e rm_X11_toBegin_0 s m args below meth c 5 g A Q 1 6 30 [(0, .ref (g.2.2 0)), (1, .int x1), (2, .int x2), (3, .int q.1)] [] q.2.2) (fun z => ((z.1 = 1 → Bk cw p l e rm_X11_toBegin_0 s m args below meth c 5 g A Q 1 6 79 [(4, .int z.2.2.1)] [] z.2.2.2) ∧ (¬ z.1 = 1 → Bk cw p l e rm_X11_toBegin_0 s m args below meth c 5 g A Q 1 6 94 [] [] z.2.2.2))) (fun q z hq k0 k => e_X11_toBegin_0_h30 C hex hst hq k0 k) n (x3, x4, σ) z hz k
def f_X11_toBegin_0 (N : Nat) (x1 : Int32) (σ : Sg) : Option (Zt) :=
(f_X11_needWithin N x1 (1 : Int32) (60 : Int32) σ).bind fun q6 =>
if q6.1 = 0 then ((f_X9_all_12 N (q6.2.2)).bind fun q7 =>
bd (q7.1 &&& (((q7.2) 22 1) ^^^ (-1 : Int32))) fun v8 =>
(it (fun q => s_X11_toBegin_0_h30 N x1 v8 q.1 q.2.1 q.2.2) N ((0 : Int32), (0 : Int32), (q7.2))).bind fun z9 =>
if z9.1 = 1 then (some (0, (z9.2.2.1), (z9.2.2.2)))
else (some (0, (-1 : Int32), (z9.2.2.2))))
else some (q6.1, 0, q6.2.2)
set_option maxHeartbeats 4000000 in
set_option maxRecDepth 100000 in
theorem b_X11_toBegin_0 {N : Nat} {x1 : Int32} {σ : Sg} {z : Zt} (C : Cx p s m args meth c cX11_toBegin 5 (some .int) RX11 g A X) (hex : ∀ x ∈ c.exceptionTable.toList, False) (hst : l.stackTraces = false) (hf : f_X11_toBegin_0 N x1 σ = some z) : Bk cw p l e rm_X11_toBegin_0 s m args below meth c 5 g A (vx_MQ below (qTi cw g A z) (xT cw g A z) args s 1 6 A) 0 0 0 [(0, .ref (g.2.2 0)), (1, .int x1)] [] σ := by
  obtain ⟨hx, hb, hr, hml, hown, hts, hK, hlocks, hXX, hA, hXo⟩ := id C
  intro H locs ls hP hD hS hl
  unfold f_X11_toBegin_0 at hf
  refine lv_iload_n hx hb dX11_toBegin_0 rfl (lv_at hl 1 rfl) ?_
  refine lv_iconst (v := (1 : Int32)) hx hb dX11_toBegin_1 (by decide) ?_
  refine lv_bipush (v := (60 : Int32)) hx hb dX11_toBegin_2 (by decide) ?_
  obtain ⟨q6, hq6, hf⟩ := bi_s hf
  refine bk_TS (wf := cw) (rest := []) [.int x1, .int (1 : Int32), .int (60 : Int32)] C hex hP hD hS hl.1 (c_X11_needWithin hXo hst hq6) (cwA_S 3 hts wa_1020 wa_1018 wa_1019 wa_2 rfl rfl nd_X11_needWithin ⟨Nat.le_of_ble_eq_true rfl, Nat.le_of_ble_eq_true rfl⟩) rfl rfl (Nat.le_of_ble_eq_true rfl) dX11_toBegin_4 ⟨Nat.le_of_ble_eq_true rfl, Nat.le_of_ble_eq_true rfl⟩ ⟨Nat.le_of_ble_eq_true rfl, Nat.le_of_ble_eq_true rfl⟩ (fun h0 => by have hf := (if_neg h0).symm.trans hf; cases hf; exact ⟨rfl, rfl⟩) (fun h0 H locs hP hD hS => ?_)
  have hf := (if_pos h0).symm.trans hf
  refine lv_aload_n hx hb dX11_toBegin_7 rfl (lv_at hl 0 rfl) ?_
  refine bk_get (wf := cw) (q0 := 0) (ci := 10) (k := 3) (v := .ref (g.2.2 12)) C hP wl_X11 rfl rfl (by decide) wa_23 rfl rfl dX11_toBegin_8 ?_
  obtain ⟨q7, hq7, hf⟩ := bi_s hf
  refine bk_VI (wf := cw) (q0 := 12) (ci := 8) (rest := []) [] C hP hD hS hl.1 (c_X9_all_12 hXo hq7) (cwA_V 0 hts wa_695 wa_1172 wa_693 wa_694 wa_22 rfl rfl nd_X9_all ⟨Nat.le_of_ble_eq_true rfl, Nat.le_of_ble_eq_true rfl⟩) rfl rfl rfl rfl (Nat.le_of_ble_eq_true rfl) dX11_toBegin_11 ⟨Nat.le_of_ble_eq_true rfl, Nat.le_of_ble_eq_true rfl⟩ (fun H locs hP hD hS => ?_)
  refine lv_aload_n hx hb dX11_toBegin_14 rfl (lv_at hl 0 rfl) ?_
  refine bk_get (wf := cw) (q0 := 0) (ci := 10) (k := 4) (v := .ref (g.2.2 21)) C hP wl_X11 rfl rfl (by decide) wa_27 rfl rfl dX11_toBegin_15 ?_
  refine bk_get (wf := cw) (q0 := 21) (ci := 1) (k := 0) (v := .ref (g.2.2 22)) C hP wl_X1 rfl rfl (by decide) wa_221 rfl rfl dX11_toBegin_18 ?_
  refine bk_get (wf := cw) (q0 := 22) (ci := 7) (k := 1) (v := .int ((q7.2) 22 1)) C hP wl_X7 rfl rfl (by decide) wa_648 rfl rfl dX11_toBegin_21 ?_
  refine lv_iconst (v := (-1 : Int32)) hx hb dX11_toBegin_24 (by decide) ?_
  refine lv_ixor hx hb dX11_toBegin_25 ?_
  refine lv_iand hx hb dX11_toBegin_26 ?_
  obtain ⟨v8, ev8, hf⟩ := bd_s hf
  rw [← ev8]
  refine lv_istore_n (lv' := [(2, .int v8), (0, .ref (g.2.2 0)), (1, .int x1)]) hx hb dX11_toBegin_27 rfl hl (by decide) rfl (fun ls hl => ?_)
  refine lv_iconst (v := (0 : Int32)) hx hb dX11_toBegin_28 (by decide) ?_
  refine lv_istore_n (lv' := [(3, .int (0 : Int32)), (2, .int v8), (0, .ref (g.2.2 0)), (1, .int x1)]) hx hb dX11_toBegin_29 rfl hl (by decide) rfl (fun ls hl => ?_)
  obtain ⟨z9, hz9, hf⟩ := bi_s hf
  refine lp_X11_toBegin_0_h30 C hex hst hz9 ⟨fun t0 => ?_, fun t0 => ?_⟩ H locs ls hP hD hS (lv_sub hl [2, 3, 1, 0] rfl)
  · have hf := (if_pos t0).symm.trans hf
    intro H locs ls hP hD hS hl
    refine lv_iload hx hb dX11_toBegin_79 (lv_at hl 0 rfl) ?_
    exact bk_iretT C hP hD hS hf (Nat.le_of_ble_eq_true rfl) (Nat.le_of_ble_eq_true rfl) dX11_toBegin_81
  · have hf := (if_neg t0).symm.trans hf
    intro H locs ls hP hD hS hl
    refine lv_iconst (v := (-1 : Int32)) hx hb dX11_toBegin_94 (by decide) ?_
    exact bk_iretT C hP hD hS hf (Nat.le_of_ble_eq_true rfl) (Nat.le_of_ble_eq_true rfl) dX11_toBegin_95
theorem c_X11_toBegin_0 {N : Nat} {x1 : Int32} {σ : Sg} {z : Zt} (hX : xOK g X) (hst : l.stackTraces = false) (hf : f_X11_toBegin_0 N x1 σ = some z) : MetTi l yX11_toBegin (Cond.code yX11_toBegin cX11_toBegin 5 (some .int) :: wsA) rm_X11_toBegin_0 1 6 cw g X [.ref (g.2.2 0), .int x1] σ z :=
  MetTi_of hX (by decide) (Nat.le_of_ble_eq_true rfl) (fun p e s m args below meth c A C hex => b_X11_toBegin_0 C hex hst hf)
-- X10_steps_53: steps(II)I
abbrev rm_X10_steps_53 : Room := { frames := 1, cells := 0, slots := 0, locals := 23 }
theorem nd_X10_steps : yX10_steps.cls ≠ "java/lang/invoke/MethodHandle" ∧ yX10_steps.cls ≠ "java/lang/invoke/VarHandle" ∧ (parseMethodDescriptor yX10_steps.desc).map (fun d => d.parameters.length) = some 2 := by decide +kernel
def s_X10_steps_53_h7 (N : Nat) (x2 : Int32) (x3 : Int32) (x4 : Int32) (σ : Sg) : Option (Nat × Int32 × Int32 × Sg) :=
if (9 : Int32) ≤ x4 then (some (2, 0, 0, σ))
else (if ((x3 >>> (x2 &&& 31)) &&& (1 : Int32)) = (1 : Int32) then (some (1, 0, x4, σ))
else ((f_X10_withNext_53 N x3 σ).bind fun q1 =>
bd q1.1 fun v2 =>
bd (x4 + (1 : Int32)) fun v3 =>
some (0, v2, v3, (q1.2))))
set_option maxHeartbeats 4000000 in
set_option maxRecDepth 100000 in
theorem e_X10_steps_53_h7 {N : Nat} {x2 : Int32} {x3 : Int32} {x4 : Int32} {σ : Sg} {z : Nat × Int32 × Int32 × Sg} (C : Cx p s m args meth c cX10_steps 5 (some .int) RX10 g A X) (hf : s_X10_steps_53_h7 N x2 x3 x4 σ = some z) (k0 : z.1 = 0 → Bk cw p l e rm_X10_steps_53 s m args below meth c 5 g A Q 0 0 7 [(0, .ref (g.2.2 53)), (2, .int x2), (3, .int z.2.1), (4, .int z.2.2.1)] [] z.2.2.2) (k : ¬ z.1 = 0 → ((z.1 = 1 → Bk cw p l e rm_X10_steps_53 s m args below meth c 5 g A Q 0 0 23 [(4, .int z.2.2.1)] [] z.2.2.2) ∧ (¬ z.1 = 1 → Bk cw p l e rm_X10_steps_53 s m args below meth c 5 g A Q 0 0 38 [] [] z.2.2.2))) : Bk cw p l e rm_X10_steps_53 s m args below meth c 5 g A Q 0 0 7 [(0, .ref (g.2.2 53)), (2, .int x2), (3, .int x3), (4, .int x4)] [] σ := by
  obtain ⟨hx, hb, hr, hml, hown, hts, hK, hlocks, hXX, hA, hXo⟩ := id C
  intro H locs ls hP hD hS hl
  unfold s_X10_steps_53_h7 at hf
  refine lv_iload hx hb dX10_steps_7 (lv_at hl 3 rfl) ?_
  refine lv_bipush (v := (9 : Int32)) hx hb dX10_steps_9 (by decide) ?_
  refine lv_icmp_ge (tgt := 38) hx hb dX10_steps_11 (by decide) (fun t11 => ?_) (fun t11 => ?_)
  · have hf := (if_pos t11).symm.trans hf
    cases hf
    exact ((k (show ¬ (2 : Nat) = 0 by decide)).2 (show ¬ (2 : Nat) = 1 by decide)) H locs ls hP hD hS (lv_sub hl [] rfl)
  · have hf := (if_neg t11).symm.trans hf
    refine lv_iload_n hx hb dX10_steps_14 rfl (lv_at hl 2 rfl) ?_
    refine lv_iload_n hx hb dX10_steps_15 rfl (lv_at hl 1 rfl) ?_
    refine lv_ishr hx hb dX10_steps_16 ?_
    refine lv_iconst (v := (1 : Int32)) hx hb dX10_steps_17 (by decide) ?_
    refine lv_iand hx hb dX10_steps_18 ?_
    refine lv_iconst (v := (1 : Int32)) hx hb dX10_steps_19 (by decide) ?_
    refine lv_icmp_ne (tgt := 26) hx hb dX10_steps_20 (by decide) (fun t20 => ?_) (fun t20 => ?_)
    · have hf := (if_neg t20).symm.trans hf
      refine lv_aload_n hx hb dX10_steps_26 rfl (lv_at hl 0 rfl) ?_
      refine lv_iload_n hx hb dX10_steps_27 rfl (lv_at hl 2 rfl) ?_
      obtain ⟨q1, hq1, hf⟩ := bi_s hf
      refine bk_VI (wf := cw) (q0 := 53) (ci := 9) (rest := []) [.int x3] C hP hD hS hl.1 (c_X10_withNext_53 hXo hq1) (cwA_V 1 hts wa_687 wa_684 wa_685 wa_686 wa_37 rfl rfl nd_X10_withNext ⟨Nat.le_of_ble_eq_true rfl, Nat.le_of_ble_eq_true rfl⟩) rfl rfl rfl rfl (Nat.le_of_ble_eq_true rfl) dX10_steps_28 ⟨Nat.le_of_ble_eq_true rfl, Nat.le_of_ble_eq_true rfl⟩ (fun H locs hP hD hS => ?_)
      obtain ⟨v2, ev2, hf⟩ := bd_s hf
      rw [← ev2]
      refine lv_istore_n (lv' := [(3, .int v2), (0, .ref (g.2.2 53)), (2, .int x2), (4, .int x4)]) hx hb dX10_steps_31 rfl hl (by decide) rfl (fun ls hl => ?_)
      obtain ⟨v3, ev3, hf⟩ := bd_s hf
      refine lv_iinc (v := v3) (lv' := [(4, .int v3), (3, .int v2), (0, .ref (g.2.2 53)), (2, .int x2)]) hx hb dX10_steps_32 hl (k := 3) rfl (by rw [ev3]; rfl) (by decide) rfl (fun ls hl => ?_)
      refine lv_goto (tgt := 7) hx hb dX10_steps_35 (by decide) ?_
      cases hf
      exact k0 rfl H locs ls hP hD hS (lv_sub hl [2, 3, 1, 0] rfl)
    · have hf := (if_pos t20).symm.trans hf
      cases hf
      exact ((k (show ¬ (1 : Nat) = 0 by decide)).1 rfl) H locs ls hP hD hS (lv_sub hl [3] rfl)
theorem lp_X10_steps_53_h7 {N : Nat} {n : Nat} {x2 : Int32} {x3 : Int32} {x4 : Int32} {σ : Sg} {z : Nat × Int32 × Int32 × Sg} (C : Cx p s m args meth c cX10_steps 5 (some .int) RX10 g A X) (hz : it (fun q => s_X10_steps_53_h7 N x2 q.1 q.2.1 q.2.2) n (x3, x4, σ) = some z) (k : ((z.1 = 1 → Bk cw p l e rm_X10_steps_53 s m args below meth c 5 g A Q 0 0 23 [(4, .int z.2.2.1)] [] z.2.2.2) ∧ (¬ z.1 = 1 → Bk cw p l e rm_X10_steps_53 s m args below meth c 5 g A Q 0 0 38 [] [] z.2.2.2))) : Bk cw p l e rm_X10_steps_53 s m args below meth c 5 g A Q 0 0 7 [(0, .ref (g.2.2 53)), (2, .int x2), (3, .int x3), (4, .int x4)] [] σ :=
  it_W (S := Int32 × Int32 × Sg) (fun q => Bk cw p l e rm_X10_steps_53 s m args below meth c 5 g A Q 0 0 7 [(0, .ref (g.2.2 53)), (2, .int x2), (3, .int q.1), (4, .int q.2.1)] [] q.2.2) (fun z => ((z.1 = 1 → Bk cw p l e rm_X10_steps_53 s m args below meth c 5 g A Q 0 0 23 [(4, .int z.2.2.1)] [] z.2.2.2) ∧ (¬ z.1 = 1 → Bk cw p l e rm_X10_steps_53 s m args below meth c 5 g A Q 0 0 38 [] [] z.2.2.2))) (fun q z hq k0 k => e_X10_steps_53_h7 C hq k0 k) n (x3, x4, σ) z hz k
def f_X10_steps_53 (N : Nat) (x1 : Int32) (x2 : Int32) (σ : Sg) : Option (Int32 × Sg) :=
bd ((1 : Int32) <<< (x1 &&& 31)) fun v4 =>
(it (fun q => s_X10_steps_53_h7 N x2 q.1 q.2.1 q.2.2) N (v4, (0 : Int32), σ)).bind fun z5 =>
if z5.1 = 1 then (some ((z5.2.2.1), (z5.2.2.2)))
else (some ((-1 : Int32), (z5.2.2.2)))
set_option maxHeartbeats 4000000 in
set_option maxRecDepth 100000 in
theorem b_X10_steps_53 {N : Nat} {x1 : Int32} {x2 : Int32} {σ : Sg} {z : Int32 × Sg} (C : Cx p s m args meth c cX10_steps 5 (some .int) RX10 g A X) (hf : f_X10_steps_53 N x1 x2 σ = some z) : Bk cw p l e rm_X10_steps_53 s m args below meth c 5 g A (MQ below (qI cw g A z.1 z.2) args s 0 0 A) 0 0 0 [(0, .ref (g.2.2 53)), (1, .int x1), (2, .int x2)] [] σ := by
  obtain ⟨hx, hb, hr, hml, hown, hts, hK, hlocks, hXX, hA, hXo⟩ := id C
  intro H locs ls hP hD hS hl
  unfold f_X10_steps_53 at hf
  refine lv_iconst (v := (1 : Int32)) hx hb dX10_steps_0 (by decide) ?_
  refine lv_iload_n hx hb dX10_steps_1 rfl (lv_at hl 1 rfl) ?_
  refine lv_ishl hx hb dX10_steps_2 ?_
  obtain ⟨v4, ev4, hf⟩ := bd_s hf
  rw [← ev4]
  refine lv_istore_n (lv' := [(3, .int v4), (0, .ref (g.2.2 53)), (1, .int x1), (2, .int x2)]) hx hb dX10_steps_3 rfl hl (by decide) rfl (fun ls hl => ?_)
  refine lv_iconst (v := (0 : Int32)) hx hb dX10_steps_4 (by decide) ?_
  refine lv_istore (lv' := [(4, .int (0 : Int32)), (3, .int v4), (0, .ref (g.2.2 53)), (1, .int x1), (2, .int x2)]) hx hb dX10_steps_5 hl (by decide) rfl (fun ls hl => ?_)
  obtain ⟨z5, hz5, hf⟩ := bi_s hf
  refine lp_X10_steps_53_h7 C hz5 ⟨fun t0 => ?_, fun t0 => ?_⟩ H locs ls hP hD hS (lv_sub hl [2, 4, 1, 0] rfl)
  · have hf := (if_pos t0).symm.trans hf
    intro H locs ls hP hD hS hl
    refine lv_iload hx hb dX10_steps_23 (lv_at hl 0 rfl) ?_
    cases hf
    exact bk_iret C hP hD hS rfl dX10_steps_25
  · have hf := (if_neg t0).symm.trans hf
    intro H locs ls hP hD hS hl
    refine lv_iconst (v := (-1 : Int32)) hx hb dX10_steps_38 (by decide) ?_
    cases hf
    exact bk_iret C hP hD hS rfl dX10_steps_39
theorem c_X10_steps_53 {N : Nat} {x1 : Int32} {x2 : Int32} {σ : Sg} {z : Int32 × Sg} (hX : xOK g X) (hf : f_X10_steps_53 N x1 x2 σ = some z) : MetI l yX10_steps (Cond.code yX10_steps cX10_steps 5 (some .int) :: wsA) rm_X10_steps_53 cw g X [.ref (g.2.2 53), .int x1, .int x2] σ z.1 z.2 :=
  MetI_of hX (by decide) (Nat.le_of_ble_eq_true rfl) (fun p e s m args below meth c A C => b_X10_steps_53 C hf)
-- X11_way_0: way(II)I
abbrev rm_X11_way_0 : Room := { frames := 8, cells := 2, slots := 12, locals := 133 }
theorem nd_X11_way : yX11_way.cls ≠ "java/lang/invoke/MethodHandle" ∧ yX11_way.cls ≠ "java/lang/invoke/VarHandle" ∧ (parseMethodDescriptor yX11_way.desc).map (fun d => d.parameters.length) = some 2 := by decide +kernel
def f_X11_way_0 (N : Nat) (x1 : Int32) (x2 : Int32) (σ : Sg) : Option (Zt) :=
(f_X11_needFarms_0 N x1 x2 σ).bind fun q1 =>
if q1.1 = 0 then ((f_X11_viewsNow_0 N (q1.2.2)).bind fun q2 =>
(f_X10_steps_53 N x1 x2 q2).bind fun q3 =>
some (0, q3.1, (q3.2)))
else some (q1.1, 0, q1.2.2)
set_option maxHeartbeats 4000000 in
set_option maxRecDepth 100000 in
theorem b_X11_way_0 {N : Nat} {x1 : Int32} {x2 : Int32} {σ : Sg} {z : Zt} (C : Cx p s m args meth c cX11_way 3 (some .int) RX11 g A X) (hex : ∀ x ∈ c.exceptionTable.toList, False) (hst : l.stackTraces = false) (hf : f_X11_way_0 N x1 x2 σ = some z) : Bk cw p l e rm_X11_way_0 s m args below meth c 3 g A (vx_MQ below (qTi cw g A z) (xT cw g A z) args s 2 12 A) 0 0 0 [(0, .ref (g.2.2 0)), (1, .int x1), (2, .int x2)] [] σ := by
  obtain ⟨hx, hb, hr, hml, hown, hts, hK, hlocks, hXX, hA, hXo⟩ := id C
  intro H locs ls hP hD hS hl
  unfold f_X11_way_0 at hf
  refine lv_aload_n hx hb dX11_way_0 rfl (lv_at hl 0 rfl) ?_
  refine lv_iload_n hx hb dX11_way_1 rfl (lv_at hl 1 rfl) ?_
  refine lv_iload_n hx hb dX11_way_2 rfl (lv_at hl 2 rfl) ?_
  obtain ⟨q1, hq1, hf⟩ := bi_s hf
  refine bk_TV (wf := cw) (q0 := 0) (ci := 10) (rest := []) [.int x1, .int x2] C hex hP hD hS hl.1 (c_X11_needFarms_0 hXo hst hq1) (cwA_V 2 hts wa_1098 wa_1095 wa_1096 wa_1097 wa_2 rfl rfl nd_X11_needFarms ⟨Nat.le_of_ble_eq_true rfl, Nat.le_of_ble_eq_true rfl⟩) rfl rfl rfl rfl (Nat.le_of_ble_eq_true rfl) dX11_way_3 ⟨Nat.le_of_ble_eq_true rfl, Nat.le_of_ble_eq_true rfl⟩ ⟨Nat.le_of_ble_eq_true rfl, Nat.le_of_ble_eq_true rfl⟩ (fun h0 => by have hf := (if_neg h0).symm.trans hf; cases hf; exact ⟨rfl, rfl⟩) (fun h0 H locs hP hD hS => ?_)
  have hf := (if_pos h0).symm.trans hf
  refine lv_aload_n hx hb dX11_way_6 rfl (lv_at hl 0 rfl) ?_
  obtain ⟨q2, hq2, hf⟩ := bi_s hf
  refine bk_VR (wf := cw) (q0 := 0) (ci := 10) (rest := []) [] C hP hD hS hl.1 (c_X11_viewsNow_0 hXo hq2) (cwA_V 0 hts wa_666 wa_663 wa_664 wa_665 wa_2 rfl rfl nd_X11_viewsNow ⟨Nat.le_of_ble_eq_true rfl, Nat.le_of_ble_eq_true rfl⟩) rfl rfl rfl rfl (Nat.le_of_ble_eq_true rfl) dX11_way_7 ⟨Nat.le_of_ble_eq_true rfl, Nat.le_of_ble_eq_true rfl⟩ (fun H locs hP hD hS => ?_)
  refine lv_iload_n hx hb dX11_way_10 rfl (lv_at hl 1 rfl) ?_
  refine lv_iload_n hx hb dX11_way_11 rfl (lv_at hl 2 rfl) ?_
  obtain ⟨q3, hq3, hf⟩ := bi_s hf
  refine bk_VI (wf := cw) (q0 := 53) (ci := 9) (rest := []) [.int x1, .int x2] C hP hD hS hl.1 (c_X10_steps_53 hXo hq3) (cwA_V 2 hts wa_1187 wa_1184 wa_1185 wa_1186 wa_37 rfl rfl nd_X10_steps ⟨Nat.le_of_ble_eq_true rfl, Nat.le_of_ble_eq_true rfl⟩) rfl rfl rfl rfl (Nat.le_of_ble_eq_true rfl) dX11_way_12 ⟨Nat.le_of_ble_eq_true rfl, Nat.le_of_ble_eq_true rfl⟩ (fun H locs hP hD hS => ?_)
  exact bk_iretT C hP hD hS hf (Nat.le_of_ble_eq_true rfl) (Nat.le_of_ble_eq_true rfl) dX11_way_15
theorem c_X11_way_0 {N : Nat} {x1 : Int32} {x2 : Int32} {σ : Sg} {z : Zt} (hX : xOK g X) (hst : l.stackTraces = false) (hf : f_X11_way_0 N x1 x2 σ = some z) : MetTi l yX11_way (Cond.code yX11_way cX11_way 3 (some .int) :: wsA) rm_X11_way_0 2 12 cw g X [.ref (g.2.2 0), .int x1, .int x2] σ z :=
  MetTi_of hX (by decide) (Nat.le_of_ble_eq_true rfl) (fun p e s m args below meth c A C hex => b_X11_way_0 C hex hst hf)
-- X6_inTheWay_50: inTheWay(II)I
abbrev rm_X6_inTheWay_50 : Room := { frames := 0, cells := 0, slots := 0, locals := 0 }
def f_X6_inTheWay_50_b157 (N : Nat) (x3 : Int32) (x4 : Int32) (x5 : Int32) (x6 : Int32) (σ : Sg) : Option (Nat × Int32 × Int32 × Sg) :=
bd (x6 + (1 : Int32)) fun v1 =>
some (0, x5, v1, σ)
set_option maxHeartbeats 4000000 in
set_option maxRecDepth 100000 in
theorem b_X6_inTheWay_50_b157 {N : Nat} {x3 : Int32} {x4 : Int32} {x5 : Int32} {x6 : Int32} {σ : Sg} {z : Nat × Int32 × Int32 × Sg} (C : Cx p s m args meth c cX6_inTheWay 9 (some .int) RX6 g A X) (hf : f_X6_inTheWay_50_b157 N x3 x4 x5 x6 σ = some z) (k0 : z.1 = 0 → Bk cw p l e rm_X6_inTheWay_50 s m args below meth c 9 g A Q 0 0 45 [(0, .ref (g.2.2 50)), (3, .int x3), (4, .int x4), (5, .int z.2.1), (6, .int z.2.2.1)] [] z.2.2.2) (k : ¬ z.1 = 0 → Bk cw p l e rm_X6_inTheWay_50 s m args below meth c 9 g A Q 0 0 163 [(5, .int z.2.1)] [] z.2.2.2) : Bk cw p l e rm_X6_inTheWay_50 s m args below meth c 9 g A Q 0 0 157 [(0, .ref (g.2.2 50)), (3, .int x3), (4, .int x4), (5, .int x5), (6, .int x6)] [] σ := by
  obtain ⟨hx, hb, hr, hml, hown, hts, hK, hlocks, hXX, hA, hXo⟩ := id C
  intro H locs ls hP hD hS hl
  unfold f_X6_inTheWay_50_b157 at hf
  obtain ⟨v1, ev1, hf⟩ := bd_s hf
  refine lv_iinc (v := v1) (lv' := [(6, .int v1), (0, .ref (g.2.2 50)), (3, .int x3), (4, .int x4), (5, .int x5)]) hx hb dX6_inTheWay_157 hl (k := 4) rfl (by rw [ev1]; rfl) (by decide) rfl (fun ls hl => ?_)
  refine lv_goto (tgt := 45) hx hb dX6_inTheWay_160 (by decide) ?_
  cases hf
  exact k0 rfl H locs ls hP hD hS (lv_sub hl [1, 2, 3, 4, 0] rfl)
def s_X6_inTheWay_50_h45 (N : Nat) (x3 : Int32) (x4 : Int32) (x5 : Int32) (x6 : Int32) (σ : Sg) : Option (Nat × Int32 × Int32 × Sg) :=
if (σ 12 0) ≤ x6 then (some (1, x5, 0, σ))
else (if (x6 < 0 ∨ 9 ≤ x6.toNatClampNeg) then none else
if (x3 < 0 ∨ 9 ≤ x3.toNatClampNeg) then none else
bd ((σ 13 x6.toNatClampNeg) - (σ 13 x3.toNatClampNeg)) fun v4 =>
if (x4 < 0 ∨ 9 ≤ x4.toNatClampNeg) then none else
if (x6 < 0 ∨ 9 ≤ x6.toNatClampNeg) then none else
bd ((σ 13 x4.toNatClampNeg) - (σ 13 x6.toNatClampNeg)) fun v7 =>
if v4 ≤ 0 then (f_X6_inTheWay_50_b157 N x3 x4 x5 x6 σ)
else (if v7 ≤ 0 then (f_X6_inTheWay_50_b157 N x3 x4 x5 x6 σ)
else (if (x6 < 0 ∨ 9 ≤ x6.toNatClampNeg) then none else
if (x3 < 0 ∨ 9 ≤ x3.toNatClampNeg) then none else
if (x4 < 0 ∨ 9 ≤ x4.toNatClampNeg) then none else
if ((σ 51 x6.toNatClampNeg) * (v4 + v7)) < (((σ 51 x3.toNatClampNeg) * v7) + ((σ 51 x4.toNatClampNeg) * v4)) then (f_X6_inTheWay_50_b157 N x3 x4 x5 x6 σ)
else (bd (x5 ||| ((1 : Int32) <<< (x6 &&& 31))) fun v11 =>
f_X6_inTheWay_50_b157 N x3 x4 v11 x6 σ))))
set_option maxHeartbeats 4000000 in
set_option maxRecDepth 100000 in
theorem e_X6_inTheWay_50_h45 {N : Nat} {x3 : Int32} {x4 : Int32} {x5 : Int32} {x6 : Int32} {σ : Sg} {z : Nat × Int32 × Int32 × Sg} (C : Cx p s m args meth c cX6_inTheWay 9 (some .int) RX6 g A X) (hf : s_X6_inTheWay_50_h45 N x3 x4 x5 x6 σ = some z) (k0 : z.1 = 0 → Bk cw p l e rm_X6_inTheWay_50 s m args below meth c 9 g A Q 0 0 45 [(0, .ref (g.2.2 50)), (3, .int x3), (4, .int x4), (5, .int z.2.1), (6, .int z.2.2.1)] [] z.2.2.2) (k : ¬ z.1 = 0 → Bk cw p l e rm_X6_inTheWay_50 s m args below meth c 9 g A Q 0 0 163 [(5, .int z.2.1)] [] z.2.2.2) : Bk cw p l e rm_X6_inTheWay_50 s m args below meth c 9 g A Q 0 0 45 [(0, .ref (g.2.2 50)), (3, .int x3), (4, .int x4), (5, .int x5), (6, .int x6)] [] σ := by
  obtain ⟨hx, hb, hr, hml, hown, hts, hK, hlocks, hXX, hA, hXo⟩ := id C
  intro H locs ls hP hD hS hl
  unfold s_X6_inTheWay_50_h45 at hf
  refine lv_iload hx hb dX6_inTheWay_45 (lv_at hl 4 rfl) ?_
  refine lv_aload_n hx hb dX6_inTheWay_47 rfl (lv_at hl 0 rfl) ?_
  refine bk_get (wf := cw) (q0 := 50) (ci := 6) (k := 1) (v := .ref (g.2.2 12)) C hP wl_X6 rfl rfl (by decide) wa_132 rfl rfl dX6_inTheWay_48 ?_
  refine bk_get (wf := cw) (q0 := 12) (ci := 8) (k := 0) (v := .int (σ 12 0)) C hP wl_X9 rfl rfl (by decide) wa_473 rfl rfl dX6_inTheWay_51 ?_
  refine lv_icmp_ge (tgt := 163) hx hb dX6_inTheWay_54 (by decide) (fun t54 => ?_) (fun t54 => ?_)
  · have hf := (if_pos t54).symm.trans hf
    cases hf
    exact (k (show ¬ (1 : Nat) = 0 by decide)) H locs ls hP hD hS (lv_sub hl [3] rfl)
  · have hf := (if_neg t54).symm.trans hf
    refine lv_aload_n hx hb dX6_inTheWay_57 rfl (lv_at hl 0 rfl) ?_
    refine bk_get (wf := cw) (q0 := 50) (ci := 6) (k := 1) (v := .ref (g.2.2 12)) C hP wl_X6 rfl rfl (by decide) wa_132 rfl rfl dX6_inTheWay_58 ?_
    refine bk_get (wf := cw) (q0 := 12) (ci := 8) (k := 1) (v := .ref (g.2.2 13)) C hP wl_X9 rfl rfl (by decide) wa_483 rfl rfl dX6_inTheWay_61 ?_
    refine lv_iload hx hb dX6_inTheWay_64 (lv_at hl 4 rfl) ?_
    obtain ⟨g2, hf⟩ := gd_s hf
    refine bk_iald (wf := cw) (q0 := 13) (n := 9) (j := x6.toNatClampNeg) C hP rfl g2 rfl dX6_inTheWay_66 ?_
    refine lv_aload_n hx hb dX6_inTheWay_67 rfl (lv_at hl 0 rfl) ?_
    refine bk_get (wf := cw) (q0 := 50) (ci := 6) (k := 1) (v := .ref (g.2.2 12)) C hP wl_X6 rfl rfl (by decide) wa_132 rfl rfl dX6_inTheWay_68 ?_
    refine bk_get (wf := cw) (q0 := 12) (ci := 8) (k := 1) (v := .ref (g.2.2 13)) C hP wl_X9 rfl rfl (by decide) wa_483 rfl rfl dX6_inTheWay_71 ?_
    refine lv_iload_n hx hb dX6_inTheWay_74 rfl (lv_at hl 1 rfl) ?_
    obtain ⟨g3, hf⟩ := gd_s hf
    refine bk_iald (wf := cw) (q0 := 13) (n := 9) (j := x3.toNatClampNeg) C hP rfl g3 rfl dX6_inTheWay_75 ?_
    refine lv_isub hx hb dX6_inTheWay_76 ?_
    obtain ⟨v4, ev4, hf⟩ := bd_s hf
    rw [← ev4]
    refine lv_istore (lv' := [(7, .int v4), (0, .ref (g.2.2 50)), (3, .int x3), (4, .int x4), (5, .int x5), (6, .int x6)]) hx hb dX6_inTheWay_77 hl (by decide) rfl (fun ls hl => ?_)
    refine lv_aload_n hx hb dX6_inTheWay_79 rfl (lv_at hl 1 rfl) ?_
    refine bk_get (wf := cw) (q0 := 50) (ci := 6) (k := 1) (v := .ref (g.2.2 12)) C hP wl_X6 rfl rfl (by decide) wa_132 rfl rfl dX6_inTheWay_80 ?_
    refine bk_get (wf := cw) (q0 := 12) (ci := 8) (k := 1) (v := .ref (g.2.2 13)) C hP wl_X9 rfl rfl (by decide) wa_483 rfl rfl dX6_inTheWay_83 ?_
    refine lv_iload hx hb dX6_inTheWay_86 (lv_at hl 3 rfl) ?_
    obtain ⟨g5, hf⟩ := gd_s hf
    refine bk_iald (wf := cw) (q0 := 13) (n := 9) (j := x4.toNatClampNeg) C hP rfl g5 rfl dX6_inTheWay_88 ?_
    refine lv_aload_n hx hb dX6_inTheWay_89 rfl (lv_at hl 1 rfl) ?_
    refine bk_get (wf := cw) (q0 := 50) (ci := 6) (k := 1) (v := .ref (g.2.2 12)) C hP wl_X6 rfl rfl (by decide) wa_132 rfl rfl dX6_inTheWay_90 ?_
    refine bk_get (wf := cw) (q0 := 12) (ci := 8) (k := 1) (v := .ref (g.2.2 13)) C hP wl_X9 rfl rfl (by decide) wa_483 rfl rfl dX6_inTheWay_93 ?_
    refine lv_iload hx hb dX6_inTheWay_96 (lv_at hl 5 rfl) ?_
    obtain ⟨g6, hf⟩ := gd_s hf
    refine bk_iald (wf := cw) (q0 := 13) (n := 9) (j := x6.toNatClampNeg) C hP rfl g6 rfl dX6_inTheWay_98 ?_
    refine lv_isub hx hb dX6_inTheWay_99 ?_
    obtain ⟨v7, ev7, hf⟩ := bd_s hf
    rw [← ev7]
    refine lv_istore (lv' := [(8, .int v7), (7, .int v4), (0, .ref (g.2.2 50)), (3, .int x3), (4, .int x4), (5, .int x5), (6, .int x6)]) hx hb dX6_inTheWay_100 hl (by decide) rfl (fun ls hl => ?_)
    refine lv_iload hx hb dX6_inTheWay_102 (lv_at hl 1 rfl) ?_
    refine lv_if_le (tgt := 157) hx hb dX6_inTheWay_104 (by decide) (fun t104 => ?_) (fun t104 => ?_)
    · have hf := (if_pos t104).symm.trans hf
      exact b_X6_inTheWay_50_b157 C hf k0 k H locs ls hP hD hS (lv_sub hl [2, 3, 4, 5, 6] rfl)
    · have hf := (if_neg t104).symm.trans hf
      refine lv_iload hx hb dX6_inTheWay_107 (lv_at hl 0 rfl) ?_
      refine lv_if_le (tgt := 157) hx hb dX6_inTheWay_109 (by decide) (fun t109 => ?_) (fun t109 => ?_)
      · have hf := (if_pos t109).symm.trans hf
        exact b_X6_inTheWay_50_b157 C hf k0 k H locs ls hP hD hS (lv_sub hl [2, 3, 4, 5, 6] rfl)
      · have hf := (if_neg t109).symm.trans hf
        refine lv_aload_n hx hb dX6_inTheWay_112 rfl (lv_at hl 2 rfl) ?_
        refine bk_get (wf := cw) (q0 := 50) (ci := 6) (k := 0) (v := .ref (g.2.2 51)) C hP wl_X6 rfl rfl (by decide) wa_130 rfl rfl dX6_inTheWay_113 ?_
        refine lv_iload hx hb dX6_inTheWay_116 (lv_at hl 6 rfl) ?_
        obtain ⟨g8, hf⟩ := gd_s hf
        refine bk_iald (wf := cw) (q0 := 51) (n := 9) (j := x6.toNatClampNeg) C hP rfl g8 rfl dX6_inTheWay_118 ?_
        refine lv_iload hx hb dX6_inTheWay_119 (lv_at hl 1 rfl) ?_
        refine lv_iload hx hb dX6_inTheWay_121 (lv_at hl 0 rfl) ?_
        refine lv_iadd hx hb dX6_inTheWay_123 ?_
        refine lv_imul hx hb dX6_inTheWay_124 ?_
        refine lv_aload_n hx hb dX6_inTheWay_125 rfl (lv_at hl 2 rfl) ?_
        refine bk_get (wf := cw) (q0 := 50) (ci := 6) (k := 0) (v := .ref (g.2.2 51)) C hP wl_X6 rfl rfl (by decide) wa_130 rfl rfl dX6_inTheWay_126 ?_
        refine lv_iload_n hx hb dX6_inTheWay_129 rfl (lv_at hl 3 rfl) ?_
        obtain ⟨g9, hf⟩ := gd_s hf
        refine bk_iald (wf := cw) (q0 := 51) (n := 9) (j := x3.toNatClampNeg) C hP rfl g9 rfl dX6_inTheWay_130 ?_
        refine lv_iload hx hb dX6_inTheWay_131 (lv_at hl 0 rfl) ?_
        refine lv_imul hx hb dX6_inTheWay_133 ?_
        refine lv_aload_n hx hb dX6_inTheWay_134 rfl (lv_at hl 2 rfl) ?_
        refine bk_get (wf := cw) (q0 := 50) (ci := 6) (k := 0) (v := .ref (g.2.2 51)) C hP wl_X6 rfl rfl (by decide) wa_130 rfl rfl dX6_inTheWay_135 ?_
        refine lv_iload hx hb dX6_inTheWay_138 (lv_at hl 4 rfl) ?_
        obtain ⟨g10, hf⟩ := gd_s hf
        refine bk_iald (wf := cw) (q0 := 51) (n := 9) (j := x4.toNatClampNeg) C hP rfl g10 rfl dX6_inTheWay_140 ?_
        refine lv_iload hx hb dX6_inTheWay_141 (lv_at hl 1 rfl) ?_
        refine lv_imul hx hb dX6_inTheWay_143 ?_
        refine lv_iadd hx hb dX6_inTheWay_144 ?_
        refine lv_icmp_lt (tgt := 157) hx hb dX6_inTheWay_145 (by decide) (fun t145 => ?_) (fun t145 => ?_)
        · have hf := (if_pos t145).symm.trans hf
          exact b_X6_inTheWay_50_b157 C hf k0 k H locs ls hP hD hS (lv_sub hl [2, 3, 4, 5, 6] rfl)
        · have hf := (if_neg t145).symm.trans hf
          refine lv_iload hx hb dX6_inTheWay_148 (lv_at hl 5 rfl) ?_
          refine lv_iconst (v := (1 : Int32)) hx hb dX6_inTheWay_150 (by decide) ?_
          refine lv_iload hx hb dX6_inTheWay_151 (lv_at hl 6 rfl) ?_
          refine lv_ishl hx hb dX6_inTheWay_153 ?_
          refine lv_ior hx hb dX6_inTheWay_154 ?_
          obtain ⟨v11, ev11, hf⟩ := bd_s hf
          rw [← ev11]
          refine lv_istore (lv' := [(5, .int v11), (8, .int v7), (7, .int v4), (0, .ref (g.2.2 50)), (3, .int x3), (4, .int x4), (6, .int x6)]) hx hb dX6_inTheWay_155 hl (by decide) rfl (fun ls hl => ?_)
          exact b_X6_inTheWay_50_b157 C hf k0 k H locs ls hP hD hS (lv_sub hl [3, 4, 5, 0, 6] rfl)
theorem lp_X6_inTheWay_50_h45 {N : Nat} {n : Nat} {x3 : Int32} {x4 : Int32} {x5 : Int32} {x6 : Int32} {σ : Sg} {z : Nat × Int32 × Int32 × Sg} (C : Cx p s m args meth c cX6_inTheWay 9 (some .int) RX6 g A X) (hz : it (fun q => s_X6_inTheWay_50_h45 N x3 x4 q.1 q.2.1 q.2.2) n (x5, x6, σ) = some z) (k : Bk cw p l e rm_X6_inTheWay_50 s m args below meth c 9 g A Q 0 0 163 [(5, .int z.2.1)] [] z.2.2.2) : Bk cw p l e rm_X6_inTheWay_50 s m args below meth c 9 g A Q 0 0 45 [(0, .ref (g.2.2 50)), (3, .int x3), (4, .int x4), (5, .int x5), (6, .int x6)] [] σ :=
  it_W (S := Int32 × Int32 × Sg) (fun q => Bk cw p l e rm_X6_inTheWay_50 s m args below meth c 9 g A Q 0 0 45 [(0, .ref (g.2.2 50)), (3, .int x3), (4, .int x4), (5, .int q.1), (6, .int q.2.1)] [] q.2.2) (fun z => Bk cw p l e rm_X6_inTheWay_50 s m args below meth c 9 g A Q 0 0 163 [(5, .int z.2.1)] [] z.2.2.2) (fun q z hq k0 k => e_X6_inTheWay_50_h45 C hq k0 k) n (x5, x6, σ) z hz k
def f_X6_inTheWay_50_b37 (N : Nat) (x3 : Int32) (t0 : Int32) (σ : Sg) : Option (Int32 × Sg) :=
(it (fun q => s_X6_inTheWay_50_h45 N x3 t0 q.1 q.2.1 q.2.2) N ((0 : Int32), (0 : Int32), σ)).bind fun z12 =>
some ((z12.2.1), (z12.2.2.2))
set_option maxHeartbeats 4000000 in
set_option maxRecDepth 100000 in
theorem b_X6_inTheWay_50_b37 {N : Nat} {x3 : Int32} {t0 : Int32} {σ : Sg} {z : Int32 × Sg} (C : Cx p s m args meth c cX6_inTheWay 9 (some .int) RX6 g A X) (hf : f_X6_inTheWay_50_b37 N x3 t0 σ = some z) : Bk cw p l e rm_X6_inTheWay_50 s m args below meth c 9 g A (MQ below (qI cw g A z.1 z.2) args s 0 0 A) 0 0 37 [(0, .ref (g.2.2 50)), (3, .int x3)] [.int t0] σ := by
  obtain ⟨hx, hb, hr, hml, hown, hts, hK, hlocks, hXX, hA, hXo⟩ := id C
  intro H locs ls hP hD hS hl
  unfold f_X6_inTheWay_50_b37 at hf
  refine lv_istore (lv' := [(4, .int t0), (0, .ref (g.2.2 50)), (3, .int x3)]) hx hb dX6_inTheWay_37 hl (by decide) rfl (fun ls hl => ?_)
  refine lv_iconst (v := (0 : Int32)) hx hb dX6_inTheWay_39 (by decide) ?_
  refine lv_istore (lv' := [(5, .int (0 : Int32)), (4, .int t0), (0, .ref (g.2.2 50)), (3, .int x3)]) hx hb dX6_inTheWay_40 hl (by decide) rfl (fun ls hl => ?_)
  refine lv_iconst (v := (0 : Int32)) hx hb dX6_inTheWay_42 (by decide) ?_
  refine lv_istore (lv' := [(6, .int (0 : Int32)), (5, .int (0 : Int32)), (4, .int t0), (0, .ref (g.2.2 50)), (3, .int x3)]) hx hb dX6_inTheWay_43 hl (by decide) rfl (fun ls hl => ?_)
  obtain ⟨z12, hz12, hf⟩ := bi_s hf
  refine lp_X6_inTheWay_50_h45 C hz12 ?_ H locs ls hP hD hS (lv_sub hl [3, 4, 2, 1, 0] rfl)
  intro H locs ls hP hD hS hl
  refine lv_iload hx hb dX6_inTheWay_163 (lv_at hl 0 rfl) ?_
  cases hf
  exact bk_iret C hP hD hS rfl dX6_inTheWay_165
def f_X6_inTheWay_50_b26 (N : Nat) (x1 : Int32) (x2 : Int32) (t0 : Int32) (σ : Sg) : Option (Int32 × Sg) :=
if t0 = x1 then (f_X6_inTheWay_50_b37 N t0 x2 σ)
else (f_X6_inTheWay_50_b37 N t0 x1 σ)
set_option maxHeartbeats 4000000 in
set_option maxRecDepth 100000 in
theorem b_X6_inTheWay_50_b26 {N : Nat} {x1 : Int32} {x2 : Int32} {t0 : Int32} {σ : Sg} {z : Int32 × Sg} (C : Cx p s m args meth c cX6_inTheWay 9 (some .int) RX6 g A X) (hf : f_X6_inTheWay_50_b26 N x1 x2 t0 σ = some z) : Bk cw p l e rm_X6_inTheWay_50 s m args below meth c 9 g A (MQ below (qI cw g A z.1 z.2) args s 0 0 A) 0 0 26 [(0, .ref (g.2.2 50)), (1, .int x1), (2, .int x2)] [.int t0] σ := by
  obtain ⟨hx, hb, hr, hml, hown, hts, hK, hlocks, hXX, hA, hXo⟩ := id C
  intro H locs ls hP hD hS hl
  unfold f_X6_inTheWay_50_b26 at hf
  refine lv_istore_n (lv' := [(3, .int t0), (0, .ref (g.2.2 50)), (1, .int x1), (2, .int x2)]) hx hb dX6_inTheWay_26 rfl hl (by decide) rfl (fun ls hl => ?_)
  refine lv_iload_n hx hb dX6_inTheWay_27 rfl (lv_at hl 0 rfl) ?_
  refine lv_iload_n hx hb dX6_inTheWay_28 rfl (lv_at hl 2 rfl) ?_
  refine lv_icmp_ne (tgt := 36) hx hb dX6_inTheWay_29 (by decide) (fun t29 => ?_) (fun t29 => ?_)
  · have hf := (if_neg t29).symm.trans hf
    refine lv_iload_n hx hb dX6_inTheWay_36 rfl (lv_at hl 2 rfl) ?_
    exact b_X6_inTheWay_50_b37 C hf H locs ls hP hD hS (lv_sub hl [1, 0] rfl)
  · have hf := (if_pos t29).symm.trans hf
    refine lv_iload_n hx hb dX6_inTheWay_32 rfl (lv_at hl 3 rfl) ?_
    refine lv_goto (tgt := 37) hx hb dX6_inTheWay_33 (by decide) ?_
    exact b_X6_inTheWay_50_b37 C hf H locs ls hP hD hS (lv_sub hl [1, 0] rfl)
def f_X6_inTheWay_50 (N : Nat) (x1 : Int32) (x2 : Int32) (σ : Sg) : Option (Int32 × Sg) :=
if (x1 < 0 ∨ 9 ≤ x1.toNatClampNeg) then none else
if (x2 < 0 ∨ 9 ≤ x2.toNatClampNeg) then none else
if (σ 13 x2.toNatClampNeg) ≤ (σ 13 x1.toNatClampNeg) then (f_X6_inTheWay_50_b26 N x1 x2 x2 σ)
else (f_X6_inTheWay_50_b26 N x1 x2 x1 σ)
set_option maxHeartbeats 4000000 in
set_option maxRecDepth 100000 in
theorem b_X6_inTheWay_50 {N : Nat} {x1 : Int32} {x2 : Int32} {σ : Sg} {z : Int32 × Sg} (C : Cx p s m args meth c cX6_inTheWay 9 (some .int) RX6 g A X) (hf : f_X6_inTheWay_50 N x1 x2 σ = some z) : Bk cw p l e rm_X6_inTheWay_50 s m args below meth c 9 g A (MQ below (qI cw g A z.1 z.2) args s 0 0 A) 0 0 0 [(0, .ref (g.2.2 50)), (1, .int x1), (2, .int x2)] [] σ := by
  obtain ⟨hx, hb, hr, hml, hown, hts, hK, hlocks, hXX, hA, hXo⟩ := id C
  intro H locs ls hP hD hS hl
  unfold f_X6_inTheWay_50 at hf
  refine lv_aload_n hx hb dX6_inTheWay_0 rfl (lv_at hl 0 rfl) ?_
  refine bk_get (wf := cw) (q0 := 50) (ci := 6) (k := 1) (v := .ref (g.2.2 12)) C hP wl_X6 rfl rfl (by decide) wa_132 rfl rfl dX6_inTheWay_1 ?_
  refine bk_get (wf := cw) (q0 := 12) (ci := 8) (k := 1) (v := .ref (g.2.2 13)) C hP wl_X9 rfl rfl (by decide) wa_483 rfl rfl dX6_inTheWay_4 ?_
  refine lv_iload_n hx hb dX6_inTheWay_7 rfl (lv_at hl 1 rfl) ?_
  obtain ⟨g13, hf⟩ := gd_s hf
  refine bk_iald (wf := cw) (q0 := 13) (n := 9) (j := x1.toNatClampNeg) C hP rfl g13 rfl dX6_inTheWay_8 ?_
  refine lv_aload_n hx hb dX6_inTheWay_9 rfl (lv_at hl 0 rfl) ?_
  refine bk_get (wf := cw) (q0 := 50) (ci := 6) (k := 1) (v := .ref (g.2.2 12)) C hP wl_X6 rfl rfl (by decide) wa_132 rfl rfl dX6_inTheWay_10 ?_
  refine bk_get (wf := cw) (q0 := 12) (ci := 8) (k := 1) (v := .ref (g.2.2 13)) C hP wl_X9 rfl rfl (by decide) wa_483 rfl rfl dX6_inTheWay_13 ?_
  refine lv_iload_n hx hb dX6_inTheWay_16 rfl (lv_at hl 2 rfl) ?_
  obtain ⟨g14, hf⟩ := gd_s hf
  refine bk_iald (wf := cw) (q0 := 13) (n := 9) (j := x2.toNatClampNeg) C hP rfl g14 rfl dX6_inTheWay_17 ?_
  refine lv_icmp_ge (tgt := 25) hx hb dX6_inTheWay_18 (by decide) (fun t18 => ?_) (fun t18 => ?_)
  · have hf := (if_pos t18).symm.trans hf
    refine lv_iload_n hx hb dX6_inTheWay_25 rfl (lv_at hl 2 rfl) ?_
    exact b_X6_inTheWay_50_b26 C hf H locs ls hP hD hS (lv_sub hl [0, 1, 2] rfl)
  · have hf := (if_neg t18).symm.trans hf
    refine lv_iload_n hx hb dX6_inTheWay_21 rfl (lv_at hl 1 rfl) ?_
    refine lv_goto (tgt := 26) hx hb dX6_inTheWay_22 (by decide) ?_
    exact b_X6_inTheWay_50_b26 C hf H locs ls hP hD hS (lv_sub hl [0, 1, 2] rfl)
theorem c_X6_inTheWay_50 {N : Nat} {x1 : Int32} {x2 : Int32} {σ : Sg} {z : Int32 × Sg} (hX : xOK g X) (hf : f_X6_inTheWay_50 N x1 x2 σ = some z) : MetI l yX6_inTheWay (Cond.code yX6_inTheWay cX6_inTheWay 9 (some .int) :: wsA) rm_X6_inTheWay_50 cw g X [.ref (g.2.2 50), .int x1, .int x2] σ z.1 z.2 :=
  MetI_of hX (by decide) (Nat.le_of_ble_eq_true rfl) (fun p e s m args below meth c A C => b_X6_inTheWay_50 C hf)
-- X6_isNear_50: isNear(III)Z
abbrev rm_X6_isNear_50 : Room := { frames := 2, cells := 0, slots := 0, locals := 46 }
def f_X6_isNear_50 (N : Nat) (x1 : Int32) (x2 : Int32) (x3 : Int32) (σ : Sg) : Option (Int32 × Sg) :=
(f_X9_away_12 N x1 x2 σ).bind fun q1 =>
if (((q1.2) 12 6) - ((9 : Int32) * x3)) < q1.1 then (some ((0 : Int32), (q1.2)))
else (some ((1 : Int32), (q1.2)))
set_option maxHeartbeats 4000000 in
set_option maxRecDepth 100000 in
theorem b_X6_isNear_50 {N : Nat} {x1 : Int32} {x2 : Int32} {x3 : Int32} {σ : Sg} {z : Int32 × Sg} (C : Cx p s m args meth c cX6_isNear 4 (some .boolean) RX6 g A X) (hf : f_X6_isNear_50 N x1 x2 x3 σ = some z) : Bk cw p l e rm_X6_isNear_50 s m args below meth c 4 g A (MQ below (qI cw g A z.1 z.2) args s 0 0 A) 0 0 0 [(0, .ref (g.2.2 50)), (1, .int x1), (2, .int x2), (3, .int x3)] [] σ := by
  obtain ⟨hx, hb, hr, hml, hown, hts, hK, hlocks, hXX, hA, hXo⟩ := id C
  intro H locs ls hP hD hS hl
  unfold f_X6_isNear_50 at hf
  refine lv_aload_n hx hb dX6_isNear_0 rfl (lv_at hl 0 rfl) ?_
  refine bk_get (wf := cw) (q0 := 50) (ci := 6) (k := 1) (v := .ref (g.2.2 12)) C hP wl_X6 rfl rfl (by decide) wa_132 rfl rfl dX6_isNear_1 ?_
  refine lv_iload_n hx hb dX6_isNear_4 rfl (lv_at hl 1 rfl) ?_
  refine lv_iload_n hx hb dX6_isNear_5 rfl (lv_at hl 2 rfl) ?_
  obtain ⟨q1, hq1, hf⟩ := bi_s hf
  refine bk_VI (wf := cw) (q0 := 12) (ci := 8) (rest := []) [.int x1, .int x2] C hP hD hS hl.1 (c_X9_away_12 hXo hq1) (cwA_V 2 hts wa_496 wa_493 wa_494 wa_495 wa_22 rfl rfl nd_X9_away ⟨Nat.le_of_ble_eq_true rfl, Nat.le_of_ble_eq_true rfl⟩) rfl rfl rfl rfl (Nat.le_of_ble_eq_true rfl) dX6_isNear_6 ⟨Nat.le_of_ble_eq_true rfl, Nat.le_of_ble_eq_true rfl⟩ (fun H locs hP hD hS => ?_)
  refine lv_aload_n hx hb dX6_isNear_9 rfl (lv_at hl 0 rfl) ?_
  refine bk_get (wf := cw) (q0 := 50) (ci := 6) (k := 1) (v := .ref (g.2.2 12)) C hP wl_X6 rfl rfl (by decide) wa_132 rfl rfl dX6_isNear_10 ?_
  refine bk_get (wf := cw) (q0 := 12) (ci := 8) (k := 6) (v := .int ((q1.2) 12 6)) C hP wl_X9 rfl rfl (by decide) wa_492 rfl rfl dX6_isNear_13 ?_
  refine lv_bipush (v := (9 : Int32)) hx hb dX6_isNear_16 (by decide) ?_
  refine lv_iload_n hx hb dX6_isNear_18 rfl (lv_at hl 3 rfl) ?_
  refine lv_imul hx hb dX6_isNear_19 ?_
  refine lv_isub hx hb dX6_isNear_20 ?_
  refine lv_icmp_gt (tgt := 28) hx hb dX6_isNear_21 (by decide) (fun t21 => ?_) (fun t21 => ?_)
  · have hf := (if_pos t21).symm.trans hf
    refine lv_iconst (v := (0 : Int32)) hx hb dX6_isNear_28 (by decide) ?_
    cases hf
    exact bk_zret C hP hD hS (by decide) rfl dX6_isNear_29
  · have hf := (if_neg t21).symm.trans hf
    refine lv_iconst (v := (1 : Int32)) hx hb dX6_isNear_24 (by decide) ?_
    refine lv_goto (tgt := 29) hx hb dX6_isNear_25 (by decide) ?_
    cases hf
    exact bk_zret C hP hD hS (by decide) rfl dX6_isNear_29
theorem c_X6_isNear_50 {N : Nat} {x1 : Int32} {x2 : Int32} {x3 : Int32} {σ : Sg} {z : Int32 × Sg} (hX : xOK g X) (hf : f_X6_isNear_50 N x1 x2 x3 σ = some z) : MetI l yX6_isNear (Cond.code yX6_isNear cX6_isNear 4 (some .boolean) :: wsA) rm_X6_isNear_50 cw g X [.ref (g.2.2 50), .int x1, .int x2, .int x3] σ z.1 z.2 :=
  MetI_of hX (by decide) (Nat.le_of_ble_eq_true rfl) (fun p e s m args below meth c A C => b_X6_isNear_50 C hf)
-- X6_takeTops_50_26: takeTops([I)V
abbrev rm_X6_takeTops_50_26 : Room := { frames := 0, cells := 0, slots := 0, locals := 0 }
def s_X6_takeTops_50_26_h2 (N : Nat) (x2 : Int32) (σ : Sg) : Option (Nat × Int32 × Sg) :=
if (9 : Int32) ≤ x2 then (some (1, 0, σ))
else (if (9 : Int32) ≤ x2 then (some (1, 0, σ))
else (if (x2 < 0 ∨ 9 ≤ x2.toNatClampNeg) then none else
if (x2 < 0 ∨ 9 ≤ x2.toNatClampNeg) then none else
if (x2 < 0 ∨ 9 ≤ x2.toNatClampNeg) then none else
bd (wr σ 51 (x2.toNatClampNeg) ((σ 14 x2.toNatClampNeg) + (σ 26 x2.toNatClampNeg))) fun σ4 =>
bd (x2 + (1 : Int32)) fun v5 =>
some (0, v5, σ4)))
set_option maxHeartbeats 4000000 in
set_option maxRecDepth 100000 in
theorem e_X6_takeTops_50_26_h2 {N : Nat} {x2 : Int32} {σ : Sg} {z : Nat × Int32 × Sg} (C : Cx p s m args meth c cX6_takeTops 3 none RX6 g A X) (hf : s_X6_takeTops_50_26_h2 N x2 σ = some z) (k0 : z.1 = 0 → Bk cw p l e rm_X6_takeTops_50_26 s m args below meth c 3 g A Q 0 0 2 [(0, .ref (g.2.2 50)), (1, .ref (g.2.2 26)), (2, .int z.2.1)] [] z.2.2) (k : ¬ z.1 = 0 → Bk cw p l e rm_X6_takeTops_50_26 s m args below meth c 3 g A Q 0 0 39 [] [] z.2.2) : Bk cw p l e rm_X6_takeTops_50_26 s m args below meth c 3 g A Q 0 0 2 [(0, .ref (g.2.2 50)), (1, .ref (g.2.2 26)), (2, .int x2)] [] σ := by
  obtain ⟨hx, hb, hr, hml, hown, hts, hK, hlocks, hXX, hA, hXo⟩ := id C
  intro H locs ls hP hD hS hl
  unfold s_X6_takeTops_50_26_h2 at hf
  refine lv_iload_n hx hb dX6_takeTops_2 rfl (lv_at hl 2 rfl) ?_
  refine lv_bipush (v := (9 : Int32)) hx hb dX6_takeTops_3 (by decide) ?_
  refine lv_icmp_ge (tgt := 39) hx hb dX6_takeTops_5 (by decide) (fun t5 => ?_) (fun t5 => ?_)
  · have hf := (if_pos t5).symm.trans hf
    cases hf
    exact (k (show ¬ (1 : Nat) = 0 by decide)) H locs ls hP hD hS (lv_sub hl [] rfl)
  · have hf := (if_neg t5).symm.trans hf
    refine lv_iload_n hx hb dX6_takeTops_8 rfl (lv_at hl 2 rfl) ?_
    refine lv_aload_n hx hb dX6_takeTops_9 rfl (lv_at hl 1 rfl) ?_
    refine bk_alen (wf := cw) (q0 := 26) (t0 := 0) (v := (9 : Int32)) C hP rfl rfl (show Int32.ofNat 9 = (9 : Int32) by decide) dX6_takeTops_10 ?_
    refine lv_icmp_ge (tgt := 39) hx hb dX6_takeTops_11 (by decide) (fun t11 => ?_) (fun t11 => ?_)
    · have hf := (if_pos t11).symm.trans hf
      cases hf
      exact (k (show ¬ (1 : Nat) = 0 by decide)) H locs ls hP hD hS (lv_sub hl [] rfl)
    · have hf := (if_neg t11).symm.trans hf
      refine lv_aload_n hx hb dX6_takeTops_14 rfl (lv_at hl 0 rfl) ?_
      refine bk_get (wf := cw) (q0 := 50) (ci := 6) (k := 0) (v := .ref (g.2.2 51)) C hP wl_X6 rfl rfl (by decide) wa_130 rfl rfl dX6_takeTops_15 ?_
      refine lv_iload_n hx hb dX6_takeTops_18 rfl (lv_at hl 2 rfl) ?_
      refine lv_aload_n hx hb dX6_takeTops_19 rfl (lv_at hl 0 rfl) ?_
      refine bk_get (wf := cw) (q0 := 50) (ci := 6) (k := 1) (v := .ref (g.2.2 12)) C hP wl_X6 rfl rfl (by decide) wa_132 rfl rfl dX6_takeTops_20 ?_
      refine bk_get (wf := cw) (q0 := 12) (ci := 8) (k := 2) (v := .ref (g.2.2 14)) C hP wl_X9 rfl rfl (by decide) wa_478 rfl rfl dX6_takeTops_23 ?_
      refine lv_iload_n hx hb dX6_takeTops_26 rfl (lv_at hl 2 rfl) ?_
      obtain ⟨g1, hf⟩ := gd_s hf
      refine bk_iald (wf := cw) (q0 := 14) (n := 9) (j := x2.toNatClampNeg) C hP rfl g1 rfl dX6_takeTops_27 ?_
      refine lv_aload_n hx hb dX6_takeTops_28 rfl (lv_at hl 1 rfl) ?_
      refine lv_iload_n hx hb dX6_takeTops_29 rfl (lv_at hl 2 rfl) ?_
      obtain ⟨g2, hf⟩ := gd_s hf
      refine bk_iald (wf := cw) (q0 := 26) (n := 9) (j := x2.toNatClampNeg) C hP rfl g2 rfl dX6_takeTops_30 ?_
      refine lv_iadd hx hb dX6_takeTops_31 ?_
      obtain ⟨g3, hf⟩ := gd_s hf
      obtain ⟨σ4, eσ4, hf⟩ := bd_s hf
      refine bk_iast (wf := cw) (σ1 := σ4) (q0 := 51) (n := 9) (j := x2.toNatClampNeg) C hP hD hS rfl g3 rfl (by rw [eσ4]; exact cw_a51 g _ _ _) dX6_takeTops_32 (fun H locs hP hD hS => ?_)
      obtain ⟨v5, ev5, hf⟩ := bd_s hf
      refine lv_iinc (v := v5) (lv' := [(2, .int v5), (0, .ref (g.2.2 50)), (1, .ref (g.2.2 26))]) hx hb dX6_takeTops_33 hl (k := 2) rfl (by rw [ev5]; rfl) (by decide) rfl (fun ls hl => ?_)
      refine lv_goto (tgt := 2) hx hb dX6_takeTops_36 (by decide) ?_
      cases hf
      exact k0 rfl H locs ls hP hD hS (lv_sub hl [1, 2, 0] rfl)
theorem lp_X6_takeTops_50_26_h2 {N : Nat} {n : Nat} {x2 : Int32} {σ : Sg} {z : Nat × Int32 × Sg} (C : Cx p s m args meth c cX6_takeTops 3 none RX6 g A X) (hz : it (fun q => s_X6_takeTops_50_26_h2 N q.1 q.2) n (x2, σ) = some z) (k : Bk cw p l e rm_X6_takeTops_50_26 s m args below meth c 3 g A Q 0 0 39 [] [] z.2.2) : Bk cw p l e rm_X6_takeTops_50_26 s m args below meth c 3 g A Q 0 0 2 [(0, .ref (g.2.2 50)), (1, .ref (g.2.2 26)), (2, .int x2)] [] σ :=
  it_W (S := Int32 × Sg) (fun q => Bk cw p l e rm_X6_takeTops_50_26 s m args below meth c 3 g A Q 0 0 2 [(0, .ref (g.2.2 50)), (1, .ref (g.2.2 26)), (2, .int q.1)] [] q.2) (fun z => Bk cw p l e rm_X6_takeTops_50_26 s m args below meth c 3 g A Q 0 0 39 [] [] z.2.2) (fun q z hq k0 k => e_X6_takeTops_50_26_h2 C hq k0 k) n (x2, σ) z hz k
def f_X6_takeTops_50_26 (N : Nat) (σ : Sg) : Option (Sg) :=
(it (fun q => s_X6_takeTops_50_26_h2 N q.1 q.2) N ((0 : Int32), σ)).bind fun z6 =>
some (z6.2.2)
set_option maxHeartbeats 4000000 in
set_option maxRecDepth 100000 in
theorem b_X6_takeTops_50_26 {N : Nat} {σ : Sg} {z : Sg} (C : Cx p s m args meth c cX6_takeTops 3 none RX6 g A X) (hf : f_X6_takeTops_50_26 N σ = some z) : Bk cw p l e rm_X6_takeTops_50_26 s m args below meth c 3 g A (MQ below (qV cw g A z) args s 0 0 A) 0 0 0 [(0, .ref (g.2.2 50)), (1, .ref (g.2.2 26))] [] σ := by
  obtain ⟨hx, hb, hr, hml, hown, hts, hK, hlocks, hXX, hA, hXo⟩ := id C
  intro H locs ls hP hD hS hl
  unfold f_X6_takeTops_50_26 at hf
  refine lv_iconst (v := (0 : Int32)) hx hb dX6_takeTops_0 (by decide) ?_
  refine lv_istore_n (lv' := [(2, .int (0 : Int32)), (0, .ref (g.2.2 50)), (1, .ref (g.2.2 26))]) hx hb dX6_takeTops_1 rfl hl (by decide) rfl (fun ls hl => ?_)
  obtain ⟨z6, hz6, hf⟩ := bi_s hf
  refine lp_X6_takeTops_50_26_h2 C hz6 ?_ H locs ls hP hD hS (lv_sub hl [1, 2, 0] rfl)
  intro H locs ls hP hD hS hl
  cases hf
  exact bk_vret C hP hD hS rfl dX6_takeTops_39
theorem c_X6_takeTops_50_26 {N : Nat} {σ : Sg} {z : Sg} (hX : xOK g X) (hf : f_X6_takeTops_50_26 N σ = some z) : MetV l yX6_takeTops (Cond.code yX6_takeTops cX6_takeTops 3 none :: wsA) rm_X6_takeTops_50_26 cw g X [.ref (g.2.2 50), .ref (g.2.2 26)] σ z :=
  MetV_of hX (by decide) (Nat.le_of_ble_eq_true rfl) (fun p e s m args below meth c A C => b_X6_takeTops_50_26 C hf)
-- X11_toHat_0: toHat(II)I
abbrev rm_X11_toHat_0 : Room := { frames := 8, cells := 2, slots := 12, locals := 133 }
theorem nd_X11_toHat : yX11_toHat.cls ≠ "java/lang/invoke/MethodHandle" ∧ yX11_toHat.cls ≠ "java/lang/invoke/VarHandle" ∧ (parseMethodDescriptor yX11_toHat.desc).map (fun d => d.parameters.length) = some 2 := by decide +kernel
def s_X11_toHat_0_h48 (N : Nat) (x1 : Int32) (x2 : Int32) (x3 : Int32) (σ : Sg) : Option (Nat × Int32 × Sg) :=
if (20 : Int32) < x3 then (some (2, 0, σ))
else (if (x1 < 0 ∨ 9 ≤ x1.toNatClampNeg) then none else
if (x1 < 0 ∨ 9 ≤ x1.toNatClampNeg) then none else
bd (wr σ 51 (x1.toNatClampNeg) ((σ 14 x1.toNatClampNeg) + x3)) fun σ3 =>
(f_X6_inTheWay_50 N x1 x2 σ3).bind fun q4 =>
if q4.1 = 0 then (some (1, x3, (q4.2)))
else (bd (x3 + (1 : Int32)) fun v5 =>
some (0, v5, (q4.2))))
set_option maxHeartbeats 4000000 in
set_option maxRecDepth 100000 in
theorem e_X11_toHat_0_h48 {N : Nat} {x1 : Int32} {x2 : Int32} {x3 : Int32} {σ : Sg} {z : Nat × Int32 × Sg} (C : Cx p s m args meth c cX11_toHat 4 (some .int) RX11 g A X) (hex : ∀ x ∈ c.exceptionTable.toList, False) (hst : l.stackTraces = false) (hf : s_X11_toHat_0_h48 N x1 x2 x3 σ = some z) (k0 : z.1 = 0 → Bk cw p l e rm_X11_toHat_0 s m args below meth c 4 g A Q 2 12 48 [(0, .ref (g.2.2 0)), (1, .int x1), (2, .int x2), (3, .int z.2.1)] [] z.2.2) (k : ¬ z.1 = 0 → ((z.1 = 1 → Bk cw p l e rm_X11_toHat_0 s m args below meth c 4 g A Q 2 12 86 [(3, .int z.2.1)] [] z.2.2) ∧ (¬ z.1 = 1 → Bk cw p l e rm_X11_toHat_0 s m args below meth c 4 g A Q 2 12 94 [] [] z.2.2))) : Bk cw p l e rm_X11_toHat_0 s m args below meth c 4 g A Q 2 12 48 [(0, .ref (g.2.2 0)), (1, .int x1), (2, .int x2), (3, .int x3)] [] σ := by
  obtain ⟨hx, hb, hr, hml, hown, hts, hK, hlocks, hXX, hA, hXo⟩ := id C
  intro H locs ls hP hD hS hl
  unfold s_X11_toHat_0_h48 at hf
  refine lv_iload_n hx hb dX11_toHat_48 rfl (lv_at hl 3 rfl) ?_
  refine lv_bipush (v := (20 : Int32)) hx hb dX11_toHat_49 (by decide) ?_
  refine lv_icmp_gt (tgt := 94) hx hb dX11_toHat_51 (by decide) (fun t51 => ?_) (fun t51 => ?_)
  · have hf := (if_pos t51).symm.trans hf
    cases hf
    exact ((k (show ¬ (2 : Nat) = 0 by decide)).2 (show ¬ (2 : Nat) = 1 by decide)) H locs ls hP hD hS (lv_sub hl [] rfl)
  · have hf := (if_neg t51).symm.trans hf
    refine lv_aload_n hx hb dX11_toHat_54 rfl (lv_at hl 0 rfl) ?_
    refine bk_get (wf := cw) (q0 := 0) (ci := 10) (k := 8) (v := .ref (g.2.2 50)) C hP wl_X11 rfl rfl (by decide) wa_34 rfl rfl dX11_toHat_55 ?_
    refine bk_get (wf := cw) (q0 := 50) (ci := 6) (k := 0) (v := .ref (g.2.2 51)) C hP wl_X6 rfl rfl (by decide) wa_1199 rfl rfl dX11_toHat_58 ?_
    refine lv_iload_n hx hb dX11_toHat_61 rfl (lv_at hl 1 rfl) ?_
    refine lv_aload_n hx hb dX11_toHat_62 rfl (lv_at hl 0 rfl) ?_
    refine bk_get (wf := cw) (q0 := 0) (ci := 10) (k := 3) (v := .ref (g.2.2 12)) C hP wl_X11 rfl rfl (by decide) wa_23 rfl rfl dX11_toHat_63 ?_
    refine bk_get (wf := cw) (q0 := 12) (ci := 8) (k := 2) (v := .ref (g.2.2 14)) C hP wl_X9 rfl rfl (by decide) wa_782 rfl rfl dX11_toHat_66 ?_
    refine lv_iload_n hx hb dX11_toHat_69 rfl (lv_at hl 1 rfl) ?_
    obtain ⟨g1, hf⟩ := gd_s hf
    refine bk_iald (wf := cw) (q0 := 14) (n := 9) (j := x1.toNatClampNeg) C hP rfl g1 rfl dX11_toHat_70 ?_
    refine lv_iload_n hx hb dX11_toHat_71 rfl (lv_at hl 3 rfl) ?_
    refine lv_iadd hx hb dX11_toHat_72 ?_
    obtain ⟨g2, hf⟩ := gd_s hf
    obtain ⟨σ3, eσ3, hf⟩ := bd_s hf
    refine bk_iast (wf := cw) (σ1 := σ3) (q0 := 51) (n := 9) (j := x1.toNatClampNeg) C hP hD hS rfl g2 rfl (by rw [eσ3]; exact cw_a51 g _ _ _) dX11_toHat_73 (fun H locs hP hD hS => ?_)
    refine lv_aload_n hx hb dX11_toHat_74 rfl (lv_at hl 0 rfl) ?_
    refine bk_get (wf := cw) (q0 := 0) (ci := 10) (k := 8) (v := .ref (g.2.2 50)) C hP wl_X11 rfl rfl (by decide) wa_34 rfl rfl dX11_toHat_75 ?_
    refine lv_iload_n hx hb dX11_toHat_78 rfl (lv_at hl 1 rfl) ?_
    refine lv_iload_n hx hb dX11_toHat_79 rfl (lv_at hl 2 rfl) ?_
    obtain ⟨q4, hq4, hf⟩ := bi_s hf
    refine bk_VI (wf := cw) (q0 := 50) (ci := 6) (rest := []) [.int x1, .int x2] C hP hD hS hl.1 (c_X6_inTheWay_50 hXo hq4) (cwA_V 2 hts wa_482 wa_1202 wa_480 wa_481 wa_32 rfl rfl nd_X6_inTheWay ⟨Nat.le_of_ble_eq_true rfl, Nat.le_of_ble_eq_true rfl⟩) rfl rfl rfl rfl (Nat.le_of_ble_eq_true rfl) dX11_toHat_80 ⟨Nat.le_of_ble_eq_true rfl, Nat.le_of_ble_eq_true rfl⟩ (fun H locs hP hD hS => ?_)
    refine lv_if_ne (tgt := 88) hx hb dX11_toHat_83 (by decide) (fun t83 => ?_) (fun t83 => ?_)
    · have hf := (if_neg t83).symm.trans hf
      obtain ⟨v5, ev5, hf⟩ := bd_s hf
      refine lv_iinc (v := v5) (lv' := [(3, .int v5), (0, .ref (g.2.2 0)), (1, .int x1), (2, .int x2)]) hx hb dX11_toHat_88 hl (k := 3) rfl (by rw [ev5]; rfl) (by decide) rfl (fun ls hl => ?_)
      refine lv_goto (tgt := 48) hx hb dX11_toHat_91 (by decide) ?_
      cases hf
      exact k0 rfl H locs ls hP hD hS (lv_sub hl [1, 2, 3, 0] rfl)
    · have hf := (if_pos t83).symm.trans hf
      cases hf
      exact ((k (show ¬ (1 : Nat) = 0 by decide)).1 rfl) H locs ls hP hD hS (lv_sub hl [3] rfl)
theorem lp_X11_toHat_0_h48 {N : Nat} {n : Nat} {x1 : Int32} {x2 : Int32} {x3 : Int32} {σ : Sg} {z : Nat × Int32 × Sg} (C : Cx p s m args meth c cX11_toHat 4 (some .int) RX11 g A X) (hex : ∀ x ∈ c.exceptionTable.toList, False) (hst : l.stackTraces = false) (hz : it (fun q => s_X11_toHat_0_h48 N x1 x2 q.1 q.2) n (x3, σ) = some z) (k : ((z.1 = 1 → Bk cw p l e rm_X11_toHat_0 s m args below meth c 4 g A Q 2 12 86 [(3, .int z.2.1)] [] z.2.2) ∧ (¬ z.1 = 1 → Bk cw p l e rm_X11_toHat_0 s m args below meth c 4 g A Q 2 12 94 [] [] z.2.2))) : Bk cw p l e rm_X11_toHat_0 s m args below meth c 4 g A Q 2 12 48 [(0, .ref (g.2.2 0)), (1, .int x1), (2, .int x2), (3, .int x3)] [] σ :=
  it_W (S := Int32 × Sg) (fun q => Bk cw p l e rm_X11_toHat_0 s m args below meth c 4 g A Q 2 12 48 [(0, .ref (g.2.2 0)), (1, .int x1), (2, .int x2), (3, .int q.1)] [] q.2) (fun z => ((z.1 = 1 → Bk cw p l e rm_X11_toHat_0 s m args below meth c 4 g A Q 2 12 86 [(3, .int z.2.1)] [] z.2.2) ∧ (¬ z.1 = 1 → Bk cw p l e rm_X11_toHat_0 s m args below meth c 4 g A Q 2 12 94 [] [] z.2.2))) (fun q z hq k0 k => e_X11_toHat_0_h48 C hex hst hq k0 k) n (x3, σ) z hz k
def f_X11_toHat_0_b27 (N : Nat) (σ : Sg) : Option (Zt) :=
some (0, (-1 : Int32), σ)
set_option maxHeartbeats 4000000 in
set_option maxRecDepth 100000 in
theorem b_X11_toHat_0_b27 {N : Nat} {σ : Sg} {z : Zt} (C : Cx p s m args meth c cX11_toHat 4 (some .int) RX11 g A X) (hex : ∀ x ∈ c.exceptionTable.toList, False) (hst : l.stackTraces = false) (hf : f_X11_toHat_0_b27 N σ = some z) : Bk cw p l e rm_X11_toHat_0 s m args below meth c 4 g A (vx_MQ below (qTi cw g A z) (xT cw g A z) args s 2 12 A) 2 12 27 [] [] σ := by
  obtain ⟨hx, hb, hr, hml, hown, hts, hK, hlocks, hXX, hA, hXo⟩ := id C
  intro H locs ls hP hD hS hl
  unfold f_X11_toHat_0_b27 at hf
  refine lv_iconst (v := (-1 : Int32)) hx hb dX11_toHat_27 (by decide) ?_
  exact bk_iretT C hP hD hS hf (Nat.le_of_ble_eq_true rfl) (Nat.le_of_ble_eq_true rfl) dX11_toHat_28
def f_X11_toHat_0 (N : Nat) (x1 : Int32) (x2 : Int32) (σ : Sg) : Option (Zt) :=
(f_X11_needFarms_0 N x1 x2 σ).bind fun q6 =>
if q6.1 = 0 then (if x1 = x2 then (f_X11_toHat_0_b27 N (q6.2.2))
else ((f_X11_mistNow_0 N (q6.2.2)).bind fun q7 =>
(f_X6_isNear_50 N x1 x2 q7.1 (q7.2)).bind fun q8 =>
if q8.1 = 0 then (f_X11_toHat_0_b27 N (q8.2))
else ((f_X6_takeTops_50_26 N (q8.2)).bind fun q9 =>
(it (fun q => s_X11_toHat_0_h48 N x1 x2 q.1 q.2) N ((0 : Int32), q9)).bind fun z10 =>
if z10.1 = 1 then (some (0, (z10.2.1), (z10.2.2)))
else (some (0, (-1 : Int32), (z10.2.2))))))
else some (q6.1, 0, q6.2.2)
set_option maxHeartbeats 4000000 in
set_option maxRecDepth 100000 in
theorem b_X11_toHat_0 {N : Nat} {x1 : Int32} {x2 : Int32} {σ : Sg} {z : Zt} (C : Cx p s m args meth c cX11_toHat 4 (some .int) RX11 g A X) (hex : ∀ x ∈ c.exceptionTable.toList, False) (hst : l.stackTraces = false) (hf : f_X11_toHat_0 N x1 x2 σ = some z) : Bk cw p l e rm_X11_toHat_0 s m args below meth c 4 g A (vx_MQ below (qTi cw g A z) (xT cw g A z) args s 2 12 A) 0 0 0 [(0, .ref (g.2.2 0)), (1, .int x1), (2, .int x2)] [] σ := by
  obtain ⟨hx, hb, hr, hml, hown, hts, hK, hlocks, hXX, hA, hXo⟩ := id C
  intro H locs ls hP hD hS hl
  unfold f_X11_toHat_0 at hf
  refine lv_aload_n hx hb dX11_toHat_0 rfl (lv_at hl 0 rfl) ?_
  refine lv_iload_n hx hb dX11_toHat_1 rfl (lv_at hl 1 rfl) ?_
  refine lv_iload_n hx hb dX11_toHat_2 rfl (lv_at hl 2 rfl) ?_
  obtain ⟨q6, hq6, hf⟩ := bi_s hf
  refine bk_TV (wf := cw) (q0 := 0) (ci := 10) (rest := []) [.int x1, .int x2] C hex hP hD hS hl.1 (c_X11_needFarms_0 hXo hst hq6) (cwA_V 2 hts wa_1098 wa_1095 wa_1096 wa_1097 wa_2 rfl rfl nd_X11_needFarms ⟨Nat.le_of_ble_eq_true rfl, Nat.le_of_ble_eq_true rfl⟩) rfl rfl rfl rfl (Nat.le_of_ble_eq_true rfl) dX11_toHat_3 ⟨Nat.le_of_ble_eq_true rfl, Nat.le_of_ble_eq_true rfl⟩ ⟨Nat.le_of_ble_eq_true rfl, Nat.le_of_ble_eq_true rfl⟩ (fun h0 => by have hf := (if_neg h0).symm.trans hf; cases hf; exact ⟨rfl, rfl⟩) (fun h0 H locs hP hD hS => ?_)
  have hf := (if_pos h0).symm.trans hf
  refine lv_iload_n hx hb dX11_toHat_6 rfl (lv_at hl 1 rfl) ?_
  refine lv_iload_n hx hb dX11_toHat_7 rfl (lv_at hl 2 rfl) ?_
  refine lv_icmp_eq (tgt := 27) hx hb dX11_toHat_8 (by decide) (fun t8 => ?_) (fun t8 => ?_)
  · have hf := (if_pos t8).symm.trans hf
    exact b_X11_toHat_0_b27 C hex hst hf H locs ls hP hD hS (lv_sub hl [] rfl)
  · have hf := (if_neg t8).symm.trans hf
    refine lv_aload_n hx hb dX11_toHat_11 rfl (lv_at hl 0 rfl) ?_
    refine bk_get (wf := cw) (q0 := 0) (ci := 10) (k := 8) (v := .ref (g.2.2 50)) C hP wl_X11 rfl rfl (by decide) wa_34 rfl rfl dX11_toHat_12 ?_
    refine lv_iload_n hx hb dX11_toHat_15 rfl (lv_at hl 1 rfl) ?_
    refine lv_iload_n hx hb dX11_toHat_16 rfl (lv_at hl 2 rfl) ?_
    refine lv_aload_n hx hb dX11_toHat_17 rfl (lv_at hl 0 rfl) ?_
    obtain ⟨q7, hq7, hf⟩ := bi_s hf
    refine bk_VI (wf := cw) (q0 := 0) (ci := 10) (rest := [.int x2, .int x1, .ref (g.2.2 50)]) [] C hP hD hS hl.1 (c_X11_mistNow_0 hXo hq7) (cwA_V 0 hts wa_654 wa_651 wa_652 wa_653 wa_2 rfl rfl nd_X11_mistNow ⟨Nat.le_of_ble_eq_true rfl, Nat.le_of_ble_eq_true rfl⟩) rfl rfl rfl rfl (Nat.le_of_ble_eq_true rfl) dX11_toHat_18 ⟨Nat.le_of_ble_eq_true rfl, Nat.le_of_ble_eq_true rfl⟩ (fun H locs hP hD hS => ?_)
    obtain ⟨q8, hq8, hf⟩ := bi_s hf
    refine bk_VI (wf := cw) (q0 := 50) (ci := 6) (rest := []) [.int x1, .int x2, .int q7.1] C hP hD hS hl.1 (c_X6_isNear_50 hXo hq8) (cwA_V 3 hts wa_491 wa_1200 wa_489 wa_490 wa_32 rfl rfl nd_X6_isNear ⟨Nat.le_of_ble_eq_true rfl, Nat.le_of_ble_eq_true rfl⟩) rfl rfl rfl rfl (Nat.le_of_ble_eq_true rfl) dX11_toHat_21 ⟨Nat.le_of_ble_eq_true rfl, Nat.le_of_ble_eq_true rfl⟩ (fun H locs hP hD hS => ?_)
    refine lv_if_ne (tgt := 29) hx hb dX11_toHat_24 (by decide) (fun t24 => ?_) (fun t24 => ?_)
    · have hf := (if_neg t24).symm.trans hf
      refine lv_aload_n hx hb dX11_toHat_29 rfl (lv_at hl 0 rfl) ?_
      refine bk_get (wf := cw) (q0 := 0) (ci := 10) (k := 8) (v := .ref (g.2.2 50)) C hP wl_X11 rfl rfl (by decide) wa_34 rfl rfl dX11_toHat_30 ?_
      refine lv_aload_n hx hb dX11_toHat_33 rfl (lv_at hl 0 rfl) ?_
      refine bk_get (wf := cw) (q0 := 0) (ci := 10) (k := 4) (v := .ref (g.2.2 21)) C hP wl_X11 rfl rfl (by decide) wa_27 rfl rfl dX11_toHat_34 ?_
      refine bk_get (wf := cw) (q0 := 21) (ci := 1) (k := 0) (v := .ref (g.2.2 22)) C hP wl_X1 rfl rfl (by decide) wa_221 rfl rfl dX11_toHat_37 ?_
      refine bk_get (wf := cw) (q0 := 22) (ci := 7) (k := 5) (v := .ref (g.2.2 26)) C hP wl_X7 rfl rfl (by decide) wa_224 rfl rfl dX11_toHat_40 ?_
      obtain ⟨q9, hq9, hf⟩ := bi_s hf
      refine bk_VV (wf := cw) (q0 := 50) (ci := 6) (rest := []) [.ref (g.2.2 26)] C hP hD hS hl.1 (c_X6_takeTops_50_26 hXo hq9) (cwA_V 1 hts wa_477 wa_1201 wa_475 wa_476 wa_32 rfl rfl nd_X6_takeTops ⟨Nat.le_of_ble_eq_true rfl, Nat.le_of_ble_eq_true rfl⟩) rfl rfl rfl rfl (Nat.le_of_ble_eq_true rfl) dX11_toHat_43 ⟨Nat.le_of_ble_eq_true rfl, Nat.le_of_ble_eq_true rfl⟩ (fun H locs hP hD hS => ?_)
      refine lv_iconst (v := (0 : Int32)) hx hb dX11_toHat_46 (by decide) ?_
      refine lv_istore_n (lv' := [(3, .int (0 : Int32)), (0, .ref (g.2.2 0)), (1, .int x1), (2, .int x2)]) hx hb dX11_toHat_47 rfl hl (by decide) rfl (fun ls hl => ?_)
      obtain ⟨z10, hz10, hf⟩ := bi_s hf
      refine lp_X11_toHat_0_h48 C hex hst hz10 ⟨fun t0 => ?_, fun t0 => ?_⟩ H locs ls hP hD hS (lv_sub hl [1, 2, 3, 0] rfl)
      · have hf := (if_pos t0).symm.trans hf
        intro H locs ls hP hD hS hl
        refine lv_iload_n hx hb dX11_toHat_86 rfl (lv_at hl 0 rfl) ?_
        exact bk_iretT C hP hD hS hf (Nat.le_of_ble_eq_true rfl) (Nat.le_of_ble_eq_true rfl) dX11_toHat_87
      · have hf := (if_neg t0).symm.trans hf
        intro H locs ls hP hD hS hl
        refine lv_iconst (v := (-1 : Int32)) hx hb dX11_toHat_94 (by decide) ?_
        exact bk_iretT C hP hD hS hf (Nat.le_of_ble_eq_true rfl) (Nat.le_of_ble_eq_true rfl) dX11_toHat_95
    · have hf := (if_pos t24).symm.trans hf
      exact b_X11_toHat_0_b27 C hex hst hf H locs ls hP hD hS (lv_sub hl [] rfl)
theorem c_X11_toHat_0 {N : Nat} {x1 : Int32} {x2 : Int32} {σ : Sg} {z : Zt} (hX : xOK g X) (hst : l.stackTraces = false) (hf : f_X11_toHat_0 N x1 x2 σ = some z) : MetTi l yX11_toHat (Cond.code yX11_toHat cX11_toHat 4 (some .int) :: wsA) rm_X11_toHat_0 2 12 cw g X [.ref (g.2.2 0), .int x1, .int x2] σ z :=
  MetTi_of hX (by decide) (Nat.le_of_ble_eq_true rfl) (fun p e s m args below meth c A C hex => b_X11_toHat_0 C hex hst hf)
-- X11_between_0: between(II)I
abbrev rm_X11_between_0 : Room := { frames := 8, cells := 2, slots := 12, locals := 133 }
theorem nd_X11_between : yX11_between.cls ≠ "java/lang/invoke/MethodHandle" ∧ yX11_between.cls ≠ "java/lang/invoke/VarHandle" ∧ (parseMethodDescriptor yX11_between.desc).map (fun d => d.parameters.length) = some 2 := by decide +kernel
def f_X11_between_0 (N : Nat) (x1 : Int32) (x2 : Int32) (σ : Sg) : Option (Zt) :=
(f_X11_needFarms_0 N x1 x2 σ).bind fun q1 =>
if q1.1 = 0 then ((f_X6_inTheWay_47 N x1 x2 (q1.2.2)).bind fun q2 =>
some (0, q2.1, (q2.2)))
else some (q1.1, 0, q1.2.2)
set_option maxHeartbeats 4000000 in
set_option maxRecDepth 100000 in
theorem b_X11_between_0 {N : Nat} {x1 : Int32} {x2 : Int32} {σ : Sg} {z : Zt} (C : Cx p s m args meth c cX11_between 3 (some .int) RX11 g A X) (hex : ∀ x ∈ c.exceptionTable.toList, False) (hst : l.stackTraces = false) (hf : f_X11_between_0 N x1 x2 σ = some z) : Bk cw p l e rm_X11_between_0 s m args below meth c 3 g A (vx_MQ below (qTi cw g A z) (xT cw g A z) args s 2 12 A) 0 0 0 [(0, .ref (g.2.2 0)), (1, .int x1), (2, .int x2)] [] σ := by
  obtain ⟨hx, hb, hr, hml, hown, hts, hK, hlocks, hXX, hA, hXo⟩ := id C
  intro H locs ls hP hD hS hl
  unfold f_X11_between_0 at hf
  refine lv_aload_n hx hb dX11_between_0 rfl (lv_at hl 0 rfl) ?_
  refine lv_iload_n hx hb dX11_between_1 rfl (lv_at hl 1 rfl) ?_
  refine lv_iload_n hx hb dX11_between_2 rfl (lv_at hl 2 rfl) ?_
  obtain ⟨q1, hq1, hf⟩ := bi_s hf
  refine bk_TV (wf := cw) (q0 := 0) (ci := 10) (rest := []) [.int x1, .int x2] C hex hP hD hS hl.1 (c_X11_needFarms_0 hXo hst hq1) (cwA_V 2 hts wa_1098 wa_1095 wa_1096 wa_1097 wa_2 rfl rfl nd_X11_needFarms ⟨Nat.le_of_ble_eq_true rfl, Nat.le_of_ble_eq_true rfl⟩) rfl rfl rfl rfl (Nat.le_of_ble_eq_true rfl) dX11_between_3 ⟨Nat.le_of_ble_eq_true rfl, Nat.le_of_ble_eq_true rfl⟩ ⟨Nat.le_of_ble_eq_true rfl, Nat.le_of_ble_eq_true rfl⟩ (fun h0 => by have hf := (if_neg h0).symm.trans hf; cases hf; exact ⟨rfl, rfl⟩) (fun h0 H locs hP hD hS => ?_)
  have hf := (if_pos h0).symm.trans hf
  refine lv_aload_n hx hb dX11_between_6 rfl (lv_at hl 0 rfl) ?_
  refine bk_get (wf := cw) (q0 := 0) (ci := 10) (k := 7) (v := .ref (g.2.2 47)) C hP wl_X11 rfl rfl (by decide) wa_33 rfl rfl dX11_between_7 ?_
  refine lv_iload_n hx hb dX11_between_10 rfl (lv_at hl 1 rfl) ?_
  refine lv_iload_n hx hb dX11_between_11 rfl (lv_at hl 2 rfl) ?_
  obtain ⟨q2, hq2, hf⟩ := bi_s hf
  refine bk_VI (wf := cw) (q0 := 47) (ci := 6) (rest := []) [.int x1, .int x2] C hP hD hS hl.1 (c_X6_inTheWay_47 hXo hq2) (cwA_V 2 hts wa_482 wa_1202 wa_480 wa_481 wa_32 rfl rfl nd_X6_inTheWay ⟨Nat.le_of_ble_eq_true rfl, Nat.le_of_ble_eq_true rfl⟩) rfl rfl rfl rfl (Nat.le_of_ble_eq_true rfl) dX11_between_12 ⟨Nat.le_of_ble_eq_true rfl, Nat.le_of_ble_eq_true rfl⟩ (fun H locs hP hD hS => ?_)
  exact bk_iretT C hP hD hS hf (Nat.le_of_ble_eq_true rfl) (Nat.le_of_ble_eq_true rfl) dX11_between_15
theorem c_X11_between_0 {N : Nat} {x1 : Int32} {x2 : Int32} {σ : Sg} {z : Zt} (hX : xOK g X) (hst : l.stackTraces = false) (hf : f_X11_between_0 N x1 x2 σ = some z) : MetTi l yX11_between (Cond.code yX11_between cX11_between 3 (some .int) :: wsA) rm_X11_between_0 2 12 cw g X [.ref (g.2.2 0), .int x1, .int x2] σ z :=
  MetTi_of hX (by decide) (Nat.le_of_ble_eq_true rfl) (fun p e s m args below meth c A C hex => b_X11_between_0 C hex hst hf)
-- X10_rightOf_53: rightOf(I)I
abbrev rm_X10_rightOf_53 : Room := { frames := 0, cells := 0, slots := 0, locals := 0 }
theorem nd_X10_rightOf : yX10_rightOf.cls ≠ "java/lang/invoke/MethodHandle" ∧ yX10_rightOf.cls ≠ "java/lang/invoke/VarHandle" ∧ (parseMethodDescriptor yX10_rightOf.desc).map (fun d => d.parameters.length) = some 1 := by decide +kernel
def f_X10_rightOf_53_b80 (N : Nat) (x2 : Int32) (x3 : Int32) (x4 : Int32) (σ : Sg) : Option (Nat × Int32 × Int32 × Sg) :=
bd (x4 + (1 : Int32)) fun v1 =>
some (0, x3, v1, σ)
set_option maxHeartbeats 4000000 in
set_option maxRecDepth 100000 in
theorem b_X10_rightOf_53_b80 {N : Nat} {x2 : Int32} {x3 : Int32} {x4 : Int32} {σ : Sg} {z : Nat × Int32 × Int32 × Sg} (C : Cx p s m args meth c cX10_rightOf 5 (some .int) RX10 g A X) (hf : f_X10_rightOf_53_b80 N x2 x3 x4 σ = some z) (k0 : z.1 = 0 → Bk cw p l e rm_X10_rightOf_53 s m args below meth c 5 g A Q 0 0 24 [(0, .ref (g.2.2 53)), (2, .int x2), (3, .int z.2.1), (4, .int z.2.2.1)] [] z.2.2.2) (k : ¬ z.1 = 0 → Bk cw p l e rm_X10_rightOf_53 s m args below meth c 5 g A Q 0 0 86 [(3, .int z.2.1)] [] z.2.2.2) : Bk cw p l e rm_X10_rightOf_53 s m args below meth c 5 g A Q 0 0 80 [(0, .ref (g.2.2 53)), (2, .int x2), (3, .int x3), (4, .int x4)] [] σ := by
  obtain ⟨hx, hb, hr, hml, hown, hts, hK, hlocks, hXX, hA, hXo⟩ := id C
  intro H locs ls hP hD hS hl
  unfold f_X10_rightOf_53_b80 at hf
  obtain ⟨v1, ev1, hf⟩ := bd_s hf
  refine lv_iinc (v := v1) (lv' := [(4, .int v1), (0, .ref (g.2.2 53)), (2, .int x2), (3, .int x3)]) hx hb dX10_rightOf_80 hl (k := 3) rfl (by rw [ev1]; rfl) (by decide) rfl (fun ls hl => ?_)
  refine lv_goto (tgt := 24) hx hb dX10_rightOf_83 (by decide) ?_
  cases hf
  exact k0 rfl H locs ls hP hD hS (lv_sub hl [1, 2, 3, 0] rfl)
def f_X10_rightOf_53_b77 (N : Nat) (x2 : Int32) (x4 : Int32) (σ : Sg) : Option (Nat × Int32 × Int32 × Sg) :=
f_X10_rightOf_53_b80 N x2 x4 x4 σ
set_option maxHeartbeats 4000000 in
set_option maxRecDepth 100000 in
theorem b_X10_rightOf_53_b77 {N : Nat} {x2 : Int32} {x4 : Int32} {σ : Sg} {z : Nat × Int32 × Int32 × Sg} (C : Cx p s m args meth c cX10_rightOf 5 (some .int) RX10 g A X) (hf : f_X10_rightOf_53_b77 N x2 x4 σ = some z) (k0 : z.1 = 0 → Bk cw p l e rm_X10_rightOf_53 s m args below meth c 5 g A Q 0 0 24 [(0, .ref (g.2.2 53)), (2, .int x2), (3, .int z.2.1), (4, .int z.2.2.1)] [] z.2.2.2) (k : ¬ z.1 = 0 → Bk cw p l e rm_X10_rightOf_53 s m args below meth c 5 g A Q 0 0 86 [(3, .int z.2.1)] [] z.2.2.2) : Bk cw p l e rm_X10_rightOf_53 s m args below meth c 5 g A Q 0 0 77 [(0, .ref (g.2.2 53)), (2, .int x2), (4, .int x4)] [] σ := by
  obtain ⟨hx, hb, hr, hml, hown, hts, hK, hlocks, hXX, hA, hXo⟩ := id C
  intro H locs ls hP hD hS hl
  unfold f_X10_rightOf_53_b77 at hf
  refine lv_iload hx hb dX10_rightOf_77 (lv_at hl 2 rfl) ?_
  refine lv_istore_n (lv' := [(3, .int x4), (0, .ref (g.2.2 53)), (2, .int x2), (4, .int x4)]) hx hb dX10_rightOf_79 rfl hl (by decide) rfl (fun ls hl => ?_)
  exact b_X10_rightOf_53_b80 C hf k0 k H locs ls hP hD hS (lv_sub hl [1, 2, 0, 3] rfl)
def s_X10_rightOf_53_h24 (N : Nat) (x2 : Int32) (x3 : Int32) (x4 : Int32) (σ : Sg) : Option (Nat × Int32 × Int32 × Sg) :=
if (σ 12 0) ≤ x4 then (some (1, x3, 0, σ))
else (if (x4 < 0 ∨ 9 ≤ x4.toNatClampNeg) then none else
if (σ 13 x4.toNatClampNeg) ≤ x2 then (f_X10_rightOf_53_b80 N x2 x3 x4 σ)
else (if x3 = (-1 : Int32) then (f_X10_rightOf_53_b77 N x2 x4 σ)
else (if (x4 < 0 ∨ 9 ≤ x4.toNatClampNeg) then none else
if (x3 < 0 ∨ 9 ≤ x3.toNatClampNeg) then none else
if (σ 13 x3.toNatClampNeg) ≤ (σ 13 x4.toNatClampNeg) then (f_X10_rightOf_53_b80 N x2 x3 x4 σ)
else (f_X10_rightOf_53_b77 N x2 x4 σ))))
set_option maxHeartbeats 4000000 in
set_option maxRecDepth 100000 in
theorem e_X10_rightOf_53_h24 {N : Nat} {x2 : Int32} {x3 : Int32} {x4 : Int32} {σ : Sg} {z : Nat × Int32 × Int32 × Sg} (C : Cx p s m args meth c cX10_rightOf 5 (some .int) RX10 g A X) (hf : s_X10_rightOf_53_h24 N x2 x3 x4 σ = some z) (k0 : z.1 = 0 → Bk cw p l e rm_X10_rightOf_53 s m args below meth c 5 g A Q 0 0 24 [(0, .ref (g.2.2 53)), (2, .int x2), (3, .int z.2.1), (4, .int z.2.2.1)] [] z.2.2.2) (k : ¬ z.1 = 0 → Bk cw p l e rm_X10_rightOf_53 s m args below meth c 5 g A Q 0 0 86 [(3, .int z.2.1)] [] z.2.2.2) : Bk cw p l e rm_X10_rightOf_53 s m args below meth c 5 g A Q 0 0 24 [(0, .ref (g.2.2 53)), (2, .int x2), (3, .int x3), (4, .int x4)] [] σ := by
  obtain ⟨hx, hb, hr, hml, hown, hts, hK, hlocks, hXX, hA, hXo⟩ := id C
  intro H locs ls hP hD hS hl
  unfold s_X10_rightOf_53_h24 at hf
  refine lv_iload hx hb dX10_rightOf_24 (lv_at hl 3 rfl) ?_
  refine lv_aload_n hx hb dX10_rightOf_26 rfl (lv_at hl 0 rfl) ?_
  refine bk_get (wf := cw) (q0 := 53) (ci := 9) (k := 0) (v := .ref (g.2.2 12)) C hP wl_X10 rfl rfl (by decide) wa_138 rfl rfl dX10_rightOf_27 ?_
  refine bk_get (wf := cw) (q0 := 12) (ci := 8) (k := 0) (v := .int (σ 12 0)) C hP wl_X9 rfl rfl (by decide) wa_671 rfl rfl dX10_rightOf_30 ?_
  refine lv_icmp_ge (tgt := 86) hx hb dX10_rightOf_33 (by decide) (fun t33 => ?_) (fun t33 => ?_)
  · have hf := (if_pos t33).symm.trans hf
    cases hf
    exact (k (show ¬ (1 : Nat) = 0 by decide)) H locs ls hP hD hS (lv_sub hl [2] rfl)
  · have hf := (if_neg t33).symm.trans hf
    refine lv_aload_n hx hb dX10_rightOf_36 rfl (lv_at hl 0 rfl) ?_
    refine bk_get (wf := cw) (q0 := 53) (ci := 9) (k := 0) (v := .ref (g.2.2 12)) C hP wl_X10 rfl rfl (by decide) wa_138 rfl rfl dX10_rightOf_37 ?_
    refine bk_get (wf := cw) (q0 := 12) (ci := 8) (k := 1) (v := .ref (g.2.2 13)) C hP wl_X9 rfl rfl (by decide) wa_1231 rfl rfl dX10_rightOf_40 ?_
    refine lv_iload hx hb dX10_rightOf_43 (lv_at hl 3 rfl) ?_
    obtain ⟨g2, hf⟩ := gd_s hf
    refine bk_iald (wf := cw) (q0 := 13) (n := 9) (j := x4.toNatClampNeg) C hP rfl g2 rfl dX10_rightOf_45 ?_
    refine lv_iload_n hx hb dX10_rightOf_46 rfl (lv_at hl 1 rfl) ?_
    refine lv_icmp_le (tgt := 80) hx hb dX10_rightOf_47 (by decide) (fun t47 => ?_) (fun t47 => ?_)
    · have hf := (if_pos t47).symm.trans hf
      exact b_X10_rightOf_53_b80 C hf k0 k H locs ls hP hD hS (lv_sub hl [0, 1, 2, 3] rfl)
    · have hf := (if_neg t47).symm.trans hf
      refine lv_iload_n hx hb dX10_rightOf_50 rfl (lv_at hl 2 rfl) ?_
      refine lv_iconst (v := (-1 : Int32)) hx hb dX10_rightOf_51 (by decide) ?_
      refine lv_icmp_eq (tgt := 77) hx hb dX10_rightOf_52 (by decide) (fun t52 => ?_) (fun t52 => ?_)
      · have hf := (if_pos t52).symm.trans hf
        exact b_X10_rightOf_53_b77 C hf k0 k H locs ls hP hD hS (lv_sub hl [0, 1, 3] rfl)
      · have hf := (if_neg t52).symm.trans hf
        refine lv_aload_n hx hb dX10_rightOf_55 rfl (lv_at hl 0 rfl) ?_
        refine bk_get (wf := cw) (q0 := 53) (ci := 9) (k := 0) (v := .ref (g.2.2 12)) C hP wl_X10 rfl rfl (by decide) wa_138 rfl rfl dX10_rightOf_56 ?_
        refine bk_get (wf := cw) (q0 := 12) (ci := 8) (k := 1) (v := .ref (g.2.2 13)) C hP wl_X9 rfl rfl (by decide) wa_1231 rfl rfl dX10_rightOf_59 ?_
        refine lv_iload hx hb dX10_rightOf_62 (lv_at hl 3 rfl) ?_
        obtain ⟨g3, hf⟩ := gd_s hf
        refine bk_iald (wf := cw) (q0 := 13) (n := 9) (j := x4.toNatClampNeg) C hP rfl g3 rfl dX10_rightOf_64 ?_
        refine lv_aload_n hx hb dX10_rightOf_65 rfl (lv_at hl 0 rfl) ?_
        refine bk_get (wf := cw) (q0 := 53) (ci := 9) (k := 0) (v := .ref (g.2.2 12)) C hP wl_X10 rfl rfl (by decide) wa_138 rfl rfl dX10_rightOf_66 ?_
        refine bk_get (wf := cw) (q0 := 12) (ci := 8) (k := 1) (v := .ref (g.2.2 13)) C hP wl_X9 rfl rfl (by decide) wa_1231 rfl rfl dX10_rightOf_69 ?_
        refine lv_iload_n hx hb dX10_rightOf_72 rfl (lv_at hl 2 rfl) ?_
        obtain ⟨g4, hf⟩ := gd_s hf
        refine bk_iald (wf := cw) (q0 := 13) (n := 9) (j := x3.toNatClampNeg) C hP rfl g4 rfl dX10_rightOf_73 ?_
        refine lv_icmp_ge (tgt := 80) hx hb dX10_rightOf_74 (by decide) (fun t74 => ?_) (fun t74 => ?_)
        · have hf := (if_pos t74).symm.trans hf
          exact b_X10_rightOf_53_b80 C hf k0 k H locs ls hP hD hS (lv_sub hl [0, 1, 2, 3] rfl)
        · have hf := (if_neg t74).symm.trans hf
          exact b_X10_rightOf_53_b77 C hf k0 k H locs ls hP hD hS (lv_sub hl [0, 1, 3] rfl)
theorem lp_X10_rightOf_53_h24 {N : Nat} {n : Nat} {x2 : Int32} {x3 : Int32} {x4 : Int32} {σ : Sg} {z : Nat × Int32 × Int32 × Sg} (C : Cx p s m args meth c cX10_rightOf 5 (some .int) RX10 g A X) (hz : it (fun q => s_X10_rightOf_53_h24 N x2 q.1 q.2.1 q.2.2) n (x3, x4, σ) = some z) (k : Bk cw p l e rm_X10_rightOf_53 s m args below meth c 5 g A Q 0 0 86 [(3, .int z.2.1)] [] z.2.2.2) : Bk cw p l e rm_X10_rightOf_53 s m args below meth c 5 g A Q 0 0 24 [(0, .ref (g.2.2 53)), (2, .int x2), (3, .int x3), (4, .int x4)] [] σ :=
  it_W (S := Int32 × Int32 × Sg) (fun q => Bk cw p l e rm_X10_rightOf_53 s m args below meth c 5 g A Q 0 0 24 [(0, .ref (g.2.2 53)), (2, .int x2), (3, .int q.1), (4, .int q.2.1)] [] q.2.2) (fun z => Bk cw p l e rm_X10_rightOf_53 s m args below meth c 5 g A Q 0 0 86 [(3, .int z.2.1)] [] z.2.2.2) (fun q z hq k0 k => e_X10_rightOf_53_h24 C hq k0 k) n (x3, x4, σ) z hz k
def f_X10_rightOf_53_b18 (N : Nat) (t0 : Int32) (σ : Sg) : Option (Int32 × Sg) :=
(it (fun q => s_X10_rightOf_53_h24 N t0 q.1 q.2.1 q.2.2) N ((-1 : Int32), (0 : Int32), σ)).bind fun z5 =>
some ((z5.2.1), (z5.2.2.2))
set_option maxHeartbeats 4000000 in
set_option maxRecDepth 100000 in
theorem b_X10_rightOf_53_b18 {N : Nat} {t0 : Int32} {σ : Sg} {z : Int32 × Sg} (C : Cx p s m args meth c cX10_rightOf 5 (some .int) RX10 g A X) (hf : f_X10_rightOf_53_b18 N t0 σ = some z) : Bk cw p l e rm_X10_rightOf_53 s m args below meth c 5 g A (MQ below (qI cw g A z.1 z.2) args s 0 0 A) 0 0 18 [(0, .ref (g.2.2 53))] [.int t0] σ := by
  obtain ⟨hx, hb, hr, hml, hown, hts, hK, hlocks, hXX, hA, hXo⟩ := id C
  intro H locs ls hP hD hS hl
  unfold f_X10_rightOf_53_b18 at hf
  refine lv_istore_n (lv' := [(2, .int t0), (0, .ref (g.2.2 53))]) hx hb dX10_rightOf_18 rfl hl (by decide) rfl (fun ls hl => ?_)
  refine lv_iconst (v := (-1 : Int32)) hx hb dX10_rightOf_19 (by decide) ?_
  refine lv_istore_n (lv' := [(3, .int (-1 : Int32)), (2, .int t0), (0, .ref (g.2.2 53))]) hx hb dX10_rightOf_20 rfl hl (by decide) rfl (fun ls hl => ?_)
  refine lv_iconst (v := (0 : Int32)) hx hb dX10_rightOf_21 (by decide) ?_
  refine lv_istore (lv' := [(4, .int (0 : Int32)), (3, .int (-1 : Int32)), (2, .int t0), (0, .ref (g.2.2 53))]) hx hb dX10_rightOf_22 hl (by decide) rfl (fun ls hl => ?_)
  obtain ⟨z5, hz5, hf⟩ := bi_s hf
  refine lp_X10_rightOf_53_h24 C hz5 ?_ H locs ls hP hD hS (lv_sub hl [3, 2, 1, 0] rfl)
  intro H locs ls hP hD hS hl
  refine lv_iload_n hx hb dX10_rightOf_86 rfl (lv_at hl 0 rfl) ?_
  cases hf
  exact bk_iret C hP hD hS rfl dX10_rightOf_87
def f_X10_rightOf_53 (N : Nat) (x1 : Int32) (σ : Sg) : Option (Int32 × Sg) :=
if x1 = (-1 : Int32) then (f_X10_rightOf_53_b18 N (-1 : Int32) σ)
else (if (x1 < 0 ∨ 9 ≤ x1.toNatClampNeg) then none else
f_X10_rightOf_53_b18 N (σ 13 x1.toNatClampNeg) σ)
set_option maxHeartbeats 4000000 in
set_option maxRecDepth 100000 in
theorem b_X10_rightOf_53 {N : Nat} {x1 : Int32} {σ : Sg} {z : Int32 × Sg} (C : Cx p s m args meth c cX10_rightOf 5 (some .int) RX10 g A X) (hf : f_X10_rightOf_53 N x1 σ = some z) : Bk cw p l e rm_X10_rightOf_53 s m args below meth c 5 g A (MQ below (qI cw g A z.1 z.2) args s 0 0 A) 0 0 0 [(0, .ref (g.2.2 53)), (1, .int x1)] [] σ := by
  obtain ⟨hx, hb, hr, hml, hown, hts, hK, hlocks, hXX, hA, hXo⟩ := id C
  intro H locs ls hP hD hS hl
  unfold f_X10_rightOf_53 at hf
  refine lv_iload_n hx hb dX10_rightOf_0 rfl (lv_at hl 1 rfl) ?_
  refine lv_iconst (v := (-1 : Int32)) hx hb dX10_rightOf_1 (by decide) ?_
  refine lv_icmp_ne (tgt := 9) hx hb dX10_rightOf_2 (by decide) (fun t2 => ?_) (fun t2 => ?_)
  · have hf := (if_neg t2).symm.trans hf
    refine lv_aload_n hx hb dX10_rightOf_9 rfl (lv_at hl 0 rfl) ?_
    refine bk_get (wf := cw) (q0 := 53) (ci := 9) (k := 0) (v := .ref (g.2.2 12)) C hP wl_X10 rfl rfl (by decide) wa_138 rfl rfl dX10_rightOf_10 ?_
    refine bk_get (wf := cw) (q0 := 12) (ci := 8) (k := 1) (v := .ref (g.2.2 13)) C hP wl_X9 rfl rfl (by decide) wa_1231 rfl rfl dX10_rightOf_13 ?_
    refine lv_iload_n hx hb dX10_rightOf_16 rfl (lv_at hl 1 rfl) ?_
    obtain ⟨g6, hf⟩ := gd_s hf
    refine bk_iald (wf := cw) (q0 := 13) (n := 9) (j := x1.toNatClampNeg) C hP rfl g6 rfl dX10_rightOf_17 ?_
    exact b_X10_rightOf_53_b18 C hf H locs ls hP hD hS (lv_sub hl [0] rfl)
  · have hf := (if_pos t2).symm.trans hf
    refine lv_iconst (v := (-1 : Int32)) hx hb dX10_rightOf_5 (by decide) ?_
    refine lv_goto (tgt := 18) hx hb dX10_rightOf_6 (by decide) ?_
    exact b_X10_rightOf_53_b18 C hf H locs ls hP hD hS (lv_sub hl [0] rfl)
theorem c_X10_rightOf_53 {N : Nat} {x1 : Int32} {σ : Sg} {z : Int32 × Sg} (hX : xOK g X) (hf : f_X10_rightOf_53 N x1 σ = some z) : MetI l yX10_rightOf (Cond.code yX10_rightOf cX10_rightOf 5 (some .int) :: wsA) rm_X10_rightOf_53 cw g X [.ref (g.2.2 53), .int x1] σ z.1 z.2 :=
  MetI_of hX (by decide) (Nat.le_of_ble_eq_true rfl) (fun p e s m args below meth c A C => b_X10_rightOf_53 C hf)
-- X10_longestLine_53: longestLine()I
abbrev rm_X10_longestLine_53 : Room := { frames := 1, cells := 0, slots := 0, locals := 24 }
theorem nd_X10_longestLine : yX10_longestLine.cls ≠ "java/lang/invoke/MethodHandle" ∧ yX10_longestLine.cls ≠ "java/lang/invoke/VarHandle" ∧ (parseMethodDescriptor yX10_longestLine.desc).map (fun d => d.parameters.length) = some 0 := by decide +kernel
def f_X10_longestLine_53_b63 (N : Nat) (x1 : Int32) (x4 : Int32) (x5 : Int32) (t0 : Int32) (σ : Sg) : Option (Nat × Int32 × Int32 × Int32 × Int32 × Sg) :=
bd (if x1 < t0 then t0 else x1) fun v1 =>
bd (x4 + (1 : Int32)) fun v2 =>
some (0, v1, t0, x5, v2, σ)
set_option maxHeartbeats 4000000 in
set_option maxRecDepth 100000 in
theorem b_X10_longestLine_53_b63 {N : Nat} {x1 : Int32} {x4 : Int32} {x5 : Int32} {t0 : Int32} {σ : Sg} {z : Nat × Int32 × Int32 × Int32 × Int32 × Sg} (C : Cx p s m args meth c cX10_longestLine 6 (some .int) RX10 g A X) (hf : f_X10_longestLine_53_b63 N x1 x4 x5 t0 σ = some z) (k0 : z.1 = 0 → Bk cw p l e rm_X10_longestLine_53 s m args below meth c 6 g A Q 0 0 9 [(0, .ref (g.2.2 53)), (1, .int z.2.1), (2, .int z.2.2.1), (3, .int z.2.2.2.1), (4, .int z.2.2.2.2.1)] [] z.2.2.2.2.2) (k : ¬ z.1 = 0 → ((z.1 = 1 → Bk cw p l e rm_X10_longestLine_53 s m args below meth c 6 g A Q 0 0 34 [(1, .int z.2.1)] [] z.2.2.2.2.2) ∧ (¬ z.1 = 1 → Bk cw p l e rm_X10_longestLine_53 s m args below meth c 6 g A Q 0 0 79 [(1, .int z.2.1)] [] z.2.2.2.2.2))) : Bk cw p l e rm_X10_longestLine_53 s m args below meth c 6 g A Q 0 0 63 [(0, .ref (g.2.2 53)), (1, .int x1), (4, .int x4), (5, .int x5)] [.int t0] σ := by
  obtain ⟨hx, hb, hr, hml, hown, hts, hK, hlocks, hXX, hA, hXo⟩ := id C
  intro H locs ls hP hD hS hl
  unfold f_X10_longestLine_53_b63 at hf
  refine lv_istore_n (lv' := [(2, .int t0), (0, .ref (g.2.2 53)), (1, .int x1), (4, .int x4), (5, .int x5)]) hx hb dX10_longestLine_63 rfl hl (by decide) rfl (fun ls hl => ?_)
  refine lv_iload_n hx hb dX10_longestLine_64 rfl (lv_at hl 2 rfl) ?_
  refine lv_iload_n hx hb dX10_longestLine_65 rfl (lv_at hl 0 rfl) ?_
  refine va_mmax hx hb (hml.trans hl.1.symm) hown (hts _ wa_1226) (hts _ wa_749) (hts _ wa_231) (hts _ wa_750) (Nat.le_of_ble_eq_true rfl) (Nat.le_of_ble_eq_true rfl) (Nat.le_of_ble_eq_true rfl) (Nat.le_of_ble_eq_true rfl) dX10_longestLine_66 ?_
  obtain ⟨v1, ev1, hf⟩ := bd_s hf
  rw [← ev1]
  refine lv_istore_n (lv' := [(1, .int v1), (2, .int t0), (0, .ref (g.2.2 53)), (4, .int x4), (5, .int x5)]) hx hb dX10_longestLine_69 rfl hl (by decide) rfl (fun ls hl => ?_)
  refine lv_iload hx hb dX10_longestLine_70 (lv_at hl 4 rfl) ?_
  refine lv_istore_n (lv' := [(3, .int x5), (1, .int v1), (2, .int t0), (0, .ref (g.2.2 53)), (4, .int x4), (5, .int x5)]) hx hb dX10_longestLine_72 rfl hl (by decide) rfl (fun ls hl => ?_)
  obtain ⟨v2, ev2, hf⟩ := bd_s hf
  refine lv_iinc (v := v2) (lv' := [(4, .int v2), (3, .int x5), (1, .int v1), (2, .int t0), (0, .ref (g.2.2 53)), (5, .int x5)]) hx hb dX10_longestLine_73 hl (k := 4) rfl (by rw [ev2]; rfl) (by decide) rfl (fun ls hl => ?_)
  refine lv_goto (tgt := 9) hx hb dX10_longestLine_76 (by decide) ?_
  cases hf
  exact k0 rfl H locs ls hP hD hS (lv_sub hl [4, 2, 3, 1, 0] rfl)
def f_X10_longestLine_53_b62 (N : Nat) (x1 : Int32) (x4 : Int32) (x5 : Int32) (σ : Sg) : Option (Nat × Int32 × Int32 × Int32 × Int32 × Sg) :=
f_X10_longestLine_53_b63 N x1 x4 x5 (1 : Int32) σ
set_option maxHeartbeats 4000000 in
set_option maxRecDepth 100000 in
theorem b_X10_longestLine_53_b62 {N : Nat} {x1 : Int32} {x4 : Int32} {x5 : Int32} {σ : Sg} {z : Nat × Int32 × Int32 × Int32 × Int32 × Sg} (C : Cx p s m args meth c cX10_longestLine 6 (some .int) RX10 g A X) (hf : f_X10_longestLine_53_b62 N x1 x4 x5 σ = some z) (k0 : z.1 = 0 → Bk cw p l e rm_X10_longestLine_53 s m args below meth c 6 g A Q 0 0 9 [(0, .ref (g.2.2 53)), (1, .int z.2.1), (2, .int z.2.2.1), (3, .int z.2.2.2.1), (4, .int z.2.2.2.2.1)] [] z.2.2.2.2.2) (k : ¬ z.1 = 0 → ((z.1 = 1 → Bk cw p l e rm_X10_longestLine_53 s m args below meth c 6 g A Q 0 0 34 [(1, .int z.2.1)] [] z.2.2.2.2.2) ∧ (¬ z.1 = 1 → Bk cw p l e rm_X10_longestLine_53 s m args below meth c 6 g A Q 0 0 79 [(1, .int z.2.1)] [] z.2.2.2.2.2))) : Bk cw p l e rm_X10_longestLine_53 s m args below meth c 6 g A Q 0 0 62 [(0, .ref (g.2.2 53)), (1, .int x1), (4, .int x4), (5, .int x5)] [] σ := by
  obtain ⟨hx, hb, hr, hml, hown, hts, hK, hlocks, hXX, hA, hXo⟩ := id C
  intro H locs ls hP hD hS hl
  unfold f_X10_longestLine_53_b62 at hf
  refine lv_iconst (v := (1 : Int32)) hx hb dX10_longestLine_62 (by decide) ?_
  exact b_X10_longestLine_53_b63 C hf k0 k H locs ls hP hD hS (lv_sub hl [0, 1, 2, 3] rfl)
def s_X10_longestLine_53_h9 (N : Nat) (x1 : Int32) (x2 : Int32) (x3 : Int32) (x4 : Int32) (σ : Sg) : Option (Nat × Int32 × Int32 × Int32 × Int32 × Sg) :=
if (σ 12 0) ≤ x4 then (some (2, x1, 0, 0, 0, σ))
else ((f_X10_rightOf_53 N x3 σ).bind fun q3 =>
bd q3.1 fun v4 =>
if v4 = (-1 : Int32) then (some (1, x1, 0, 0, 0, (q3.2)))
else (if x3 = (-1 : Int32) then (f_X10_longestLine_53_b62 N x1 x4 v4 (q3.2))
else (if (x3 < 0 ∨ 9 ≤ x3.toNatClampNeg) then none else
if ((((q3.2) 54 x3.toNatClampNeg) >>> (v4 &&& 31)) &&& (1 : Int32)) = (1 : Int32) then (f_X10_longestLine_53_b63 N x1 x4 v4 (x2 + (1 : Int32)) (q3.2))
else (f_X10_longestLine_53_b62 N x1 x4 v4 (q3.2)))))
set_option maxHeartbeats 4000000 in
set_option maxRecDepth 100000 in
theorem e_X10_longestLine_53_h9 {N : Nat} {x1 : Int32} {x2 : Int32} {x3 : Int32} {x4 : Int32} {σ : Sg} {z : Nat × Int32 × Int32 × Int32 × Int32 × Sg} (C : Cx p s m args meth c cX10_longestLine 6 (some .int) RX10 g A X) (hf : s_X10_longestLine_53_h9 N x1 x2 x3 x4 σ = some z) (k0 : z.1 = 0 → Bk cw p l e rm_X10_longestLine_53 s m args below meth c 6 g A Q 0 0 9 [(0, .ref (g.2.2 53)), (1, .int z.2.1), (2, .int z.2.2.1), (3, .int z.2.2.2.1), (4, .int z.2.2.2.2.1)] [] z.2.2.2.2.2) (k : ¬ z.1 = 0 → ((z.1 = 1 → Bk cw p l e rm_X10_longestLine_53 s m args below meth c 6 g A Q 0 0 34 [(1, .int z.2.1)] [] z.2.2.2.2.2) ∧ (¬ z.1 = 1 → Bk cw p l e rm_X10_longestLine_53 s m args below meth c 6 g A Q 0 0 79 [(1, .int z.2.1)] [] z.2.2.2.2.2))) : Bk cw p l e rm_X10_longestLine_53 s m args below meth c 6 g A Q 0 0 9 [(0, .ref (g.2.2 53)), (1, .int x1), (2, .int x2), (3, .int x3), (4, .int x4)] [] σ := by
  obtain ⟨hx, hb, hr, hml, hown, hts, hK, hlocks, hXX, hA, hXo⟩ := id C
  intro H locs ls hP hD hS hl
  unfold s_X10_longestLine_53_h9 at hf
  refine lv_iload hx hb dX10_longestLine_9 (lv_at hl 4 rfl) ?_
  refine lv_aload_n hx hb dX10_longestLine_11 rfl (lv_at hl 0 rfl) ?_
  refine bk_get (wf := cw) (q0 := 53) (ci := 9) (k := 0) (v := .ref (g.2.2 12)) C hP wl_X10 rfl rfl (by decide) wa_138 rfl rfl dX10_longestLine_12 ?_
  refine bk_get (wf := cw) (q0 := 12) (ci := 8) (k := 0) (v := .int (σ 12 0)) C hP wl_X9 rfl rfl (by decide) wa_671 rfl rfl dX10_longestLine_15 ?_
  refine lv_icmp_ge (tgt := 79) hx hb dX10_longestLine_18 (by decide) (fun t18 => ?_) (fun t18 => ?_)
  · have hf := (if_pos t18).symm.trans hf
    cases hf
    exact ((k (show ¬ (2 : Nat) = 0 by decide)).2 (show ¬ (2 : Nat) = 1 by decide)) H locs ls hP hD hS (lv_sub hl [1] rfl)
  · have hf := (if_neg t18).symm.trans hf
    refine lv_aload_n hx hb dX10_longestLine_21 rfl (lv_at hl 0 rfl) ?_
    refine lv_iload_n hx hb dX10_longestLine_22 rfl (lv_at hl 3 rfl) ?_
    obtain ⟨q3, hq3, hf⟩ := bi_s hf
    refine bk_VI (wf := cw) (q0 := 53) (ci := 9) (rest := []) [.int x3] C hP hD hS hl.1 (c_X10_rightOf_53 hXo hq3) (cwA_V 1 hts wa_1230 wa_1227 wa_1228 wa_1229 wa_37 rfl rfl nd_X10_rightOf ⟨Nat.le_of_ble_eq_true rfl, Nat.le_of_ble_eq_true rfl⟩) rfl rfl rfl rfl (Nat.le_of_ble_eq_true rfl) dX10_longestLine_23 ⟨Nat.le_of_ble_eq_true rfl, Nat.le_of_ble_eq_true rfl⟩ (fun H locs hP hD hS => ?_)
    obtain ⟨v4, ev4, hf⟩ := bd_s hf
    rw [← ev4]
    refine lv_istore (lv' := [(5, .int v4), (0, .ref (g.2.2 53)), (1, .int x1), (2, .int x2), (3, .int x3), (4, .int x4)]) hx hb dX10_longestLine_26 hl (by decide) rfl (fun ls hl => ?_)
    refine lv_iload hx hb dX10_longestLine_28 (lv_at hl 0 rfl) ?_
    refine lv_iconst (v := (-1 : Int32)) hx hb dX10_longestLine_30 (by decide) ?_
    refine lv_icmp_ne (tgt := 36) hx hb dX10_longestLine_31 (by decide) (fun t31 => ?_) (fun t31 => ?_)
    · have hf := (if_neg t31).symm.trans hf
      refine lv_iload_n hx hb dX10_longestLine_36 rfl (lv_at hl 4 rfl) ?_
      refine lv_iconst (v := (-1 : Int32)) hx hb dX10_longestLine_37 (by decide) ?_
      refine lv_icmp_eq (tgt := 62) hx hb dX10_longestLine_38 (by decide) (fun t38 => ?_) (fun t38 => ?_)
      · have hf := (if_pos t38).symm.trans hf
        exact b_X10_longestLine_53_b62 C hf k0 k H locs ls hP hD hS (lv_sub hl [1, 2, 5, 0] rfl)
      · have hf := (if_neg t38).symm.trans hf
        refine lv_aload_n hx hb dX10_longestLine_41 rfl (lv_at hl 1 rfl) ?_
        refine bk_get (wf := cw) (q0 := 53) (ci := 9) (k := 1) (v := .ref (g.2.2 54)) C hP wl_X10 rfl rfl (by decide) wa_137 rfl rfl dX10_longestLine_42 ?_
        refine lv_iload_n hx hb dX10_longestLine_45 rfl (lv_at hl 4 rfl) ?_
        obtain ⟨g5, hf⟩ := gd_s hf
        refine bk_iald (wf := cw) (q0 := 54) (n := 9) (j := x3.toNatClampNeg) C hP rfl g5 rfl dX10_longestLine_46 ?_
        refine lv_iload hx hb dX10_longestLine_47 (lv_at hl 0 rfl) ?_
        refine lv_ishr hx hb dX10_longestLine_49 ?_
        refine lv_iconst (v := (1 : Int32)) hx hb dX10_longestLine_50 (by decide) ?_
        refine lv_iand hx hb dX10_longestLine_51 ?_
        refine lv_iconst (v := (1 : Int32)) hx hb dX10_longestLine_52 (by decide) ?_
        refine lv_icmp_ne (tgt := 62) hx hb dX10_longestLine_53 (by decide) (fun t53 => ?_) (fun t53 => ?_)
        · have hf := (if_neg t53).symm.trans hf
          exact b_X10_longestLine_53_b62 C hf k0 k H locs ls hP hD hS (lv_sub hl [1, 2, 5, 0] rfl)
        · have hf := (if_pos t53).symm.trans hf
          refine lv_iload_n hx hb dX10_longestLine_56 rfl (lv_at hl 3 rfl) ?_
          refine lv_iconst (v := (1 : Int32)) hx hb dX10_longestLine_57 (by decide) ?_
          refine lv_iadd hx hb dX10_longestLine_58 ?_
          refine lv_goto (tgt := 63) hx hb dX10_longestLine_59 (by decide) ?_
          exact b_X10_longestLine_53_b63 C hf k0 k H locs ls hP hD hS (lv_sub hl [1, 2, 5, 0] rfl)
    · have hf := (if_pos t31).symm.trans hf
      cases hf
      exact ((k (show ¬ (1 : Nat) = 0 by decide)).1 rfl) H locs ls hP hD hS (lv_sub hl [2] rfl)
theorem lp_X10_longestLine_53_h9 {N : Nat} {n : Nat} {x1 : Int32} {x2 : Int32} {x3 : Int32} {x4 : Int32} {σ : Sg} {z : Nat × Int32 × Int32 × Int32 × Int32 × Sg} (C : Cx p s m args meth c cX10_longestLine 6 (some .int) RX10 g A X) (hz : it (fun q => s_X10_longestLine_53_h9 N q.1 q.2.1 q.2.2.1 q.2.2.2.1 q.2.2.2.2) n (x1, x2, x3, x4, σ) = some z) (k : ((z.1 = 1 → Bk cw p l e rm_X10_longestLine_53 s m args below meth c 6 g A Q 0 0 34 [(1, .int z.2.1)] [] z.2.2.2.2.2) ∧ (¬ z.1 = 1 → Bk cw p l e rm_X10_longestLine_53 s m args below meth c 6 g A Q 0 0 79 [(1, .int z.2.1)] [] z.2.2.2.2.2))) : Bk cw p l e rm_X10_longestLine_53 s m args below meth c 6 g A Q 0 0 9 [(0, .ref (g.2.2 53)), (1, .int x1), (2, .int x2), (3, .int x3), (4, .int x4)] [] σ :=
  it_W (S := Int32 × Int32 × Int32 × Int32 × Sg) (fun q => Bk cw p l e rm_X10_longestLine_53 s m args below meth c 6 g A Q 0 0 9 [(0, .ref (g.2.2 53)), (1, .int q.1), (2, .int q.2.1), (3, .int q.2.2.1), (4, .int q.2.2.2.1)] [] q.2.2.2.2) (fun z => ((z.1 = 1 → Bk cw p l e rm_X10_longestLine_53 s m args below meth c 6 g A Q 0 0 34 [(1, .int z.2.1)] [] z.2.2.2.2.2) ∧ (¬ z.1 = 1 → Bk cw p l e rm_X10_longestLine_53 s m args below meth c 6 g A Q 0 0 79 [(1, .int z.2.1)] [] z.2.2.2.2.2))) (fun q z hq k0 k => e_X10_longestLine_53_h9 C hq k0 k) n (x1, x2, x3, x4, σ) z hz k
def f_X10_longestLine_53 (N : Nat) (σ : Sg) : Option (Int32 × Sg) :=
(it (fun q => s_X10_longestLine_53_h9 N q.1 q.2.1 q.2.2.1 q.2.2.2.1 q.2.2.2.2) N ((0 : Int32), (0 : Int32), (-1 : Int32), (0 : Int32), σ)).bind fun z6 =>
if z6.1 = 1 then (some ((z6.2.1), (z6.2.2.2.2.2)))
else (some ((z6.2.1), (z6.2.2.2.2.2)))
set_option maxHeartbeats 4000000 in
set_option maxRecDepth 100000 in
theorem b_X10_longestLine_53 {N : Nat} {σ : Sg} {z : Int32 × Sg} (C : Cx p s m args meth c cX10_longestLine 6 (some .int) RX10 g A X) (hf : f_X10_longestLine_53 N σ = some z) : Bk cw p l e rm_X10_longestLine_53 s m args below meth c 6 g A (MQ below (qI cw g A z.1 z.2) args s 0 0 A) 0 0 0 [(0, .ref (g.2.2 53))] [] σ := by
  obtain ⟨hx, hb, hr, hml, hown, hts, hK, hlocks, hXX, hA, hXo⟩ := id C
  intro H locs ls hP hD hS hl
  unfold f_X10_longestLine_53 at hf
  refine lv_iconst (v := (0 : Int32)) hx hb dX10_longestLine_0 (by decide) ?_
  refine lv_istore_n (lv' := [(1, .int (0 : Int32)), (0, .ref (g.2.2 53))]) hx hb dX10_longestLine_1 rfl hl (by decide) rfl (fun ls hl => ?_)
  refine lv_iconst (v := (0 : Int32)) hx hb dX10_longestLine_2 (by decide) ?_
  refine lv_istore_n (lv' := [(2, .int (0 : Int32)), (1, .int (0 : Int32)), (0, .ref (g.2.2 53))]) hx hb dX10_longestLine_3 rfl hl (by decide) rfl (fun ls hl => ?_)
  refine lv_iconst (v := (-1 : Int32)) hx hb dX10_longestLine_4 (by decide) ?_
  refine lv_istore_n (lv' := [(3, .int (-1 : Int32)), (2, .int (0 : Int32)), (1, .int (0 : Int32)), (0, .ref (g.2.2 53))]) hx hb dX10_longestLine_5 rfl hl (by decide) rfl (fun ls hl => ?_)
  refine lv_iconst (v := (0 : Int32)) hx hb dX10_longestLine_6 (by decide) ?_
  refine lv_istore (lv' := [(4, .int (0 : Int32)), (3, .int (-1 : Int32)), (2, .int (0 : Int32)), (1, .int (0 : Int32)), (0, .ref (g.2.2 53))]) hx hb dX10_longestLine_7 hl (by decide) rfl (fun ls hl => ?_)
  obtain ⟨z6, hz6, hf⟩ := bi_s hf
  refine lp_X10_longestLine_53_h9 C hz6 ⟨fun t0 => ?_, fun t0 => ?_⟩ H locs ls hP hD hS (lv_sub hl [4, 3, 2, 1, 0] rfl)
  · have hf := (if_pos t0).symm.trans hf
    intro H locs ls hP hD hS hl
    refine lv_iload_n hx hb dX10_longestLine_34 rfl (lv_at hl 0 rfl) ?_
    cases hf
    exact bk_iret C hP hD hS rfl dX10_longestLine_35
  · have hf := (if_neg t0).symm.trans hf
    intro H locs ls hP hD hS hl
    refine lv_iload_n hx hb dX10_longestLine_79 rfl (lv_at hl 0 rfl) ?_
    cases hf
    exact bk_iret C hP hD hS rfl dX10_longestLine_80
theorem c_X10_longestLine_53 {N : Nat} {σ : Sg} {z : Int32 × Sg} (hX : xOK g X) (hf : f_X10_longestLine_53 N σ = some z) : MetI l yX10_longestLine (Cond.code yX10_longestLine cX10_longestLine 6 (some .int) :: wsA) rm_X10_longestLine_53 cw g X [.ref (g.2.2 53)] σ z.1 z.2 :=
  MetI_of hX (by decide) (Nat.le_of_ble_eq_true rfl) (fun p e s m args below meth c A C => b_X10_longestLine_53 C hf)
-- X11_line_0: line()I
abbrev rm_X11_line_0 : Room := { frames := 3, cells := 0, slots := 0, locals := 66 }
theorem nd_X11_line : yX11_line.cls ≠ "java/lang/invoke/MethodHandle" ∧ yX11_line.cls ≠ "java/lang/invoke/VarHandle" ∧ (parseMethodDescriptor yX11_line.desc).map (fun d => d.parameters.length) = some 0 := by decide +kernel
def f_X11_line_0 (N : Nat) (σ : Sg) : Option (Int32 × Sg) :=
(f_X11_viewsNow_0 N σ).bind fun q1 =>
(f_X10_longestLine_53 N q1).bind fun q2 =>
some (q2.1, (q2.2))
set_option maxHeartbeats 4000000 in
set_option maxRecDepth 100000 in
theorem b_X11_line_0 {N : Nat} {σ : Sg} {z : Int32 × Sg} (C : Cx p s m args meth c cX11_line 1 (some .int) RX11 g A X) (hf : f_X11_line_0 N σ = some z) : Bk cw p l e rm_X11_line_0 s m args below meth c 1 g A (MQ below (qI cw g A z.1 z.2) args s 0 0 A) 0 0 0 [(0, .ref (g.2.2 0))] [] σ := by
  obtain ⟨hx, hb, hr, hml, hown, hts, hK, hlocks, hXX, hA, hXo⟩ := id C
  intro H locs ls hP hD hS hl
  unfold f_X11_line_0 at hf
  refine lv_aload_n hx hb dX11_line_0 rfl (lv_at hl 0 rfl) ?_
  obtain ⟨q1, hq1, hf⟩ := bi_s hf
  refine bk_VR (wf := cw) (q0 := 0) (ci := 10) (rest := []) [] C hP hD hS hl.1 (c_X11_viewsNow_0 hXo hq1) (cwA_V 0 hts wa_666 wa_663 wa_664 wa_665 wa_2 rfl rfl nd_X11_viewsNow ⟨Nat.le_of_ble_eq_true rfl, Nat.le_of_ble_eq_true rfl⟩) rfl rfl rfl rfl (Nat.le_of_ble_eq_true rfl) dX11_line_1 ⟨Nat.le_of_ble_eq_true rfl, Nat.le_of_ble_eq_true rfl⟩ (fun H locs hP hD hS => ?_)
  obtain ⟨q2, hq2, hf⟩ := bi_s hf
  refine bk_VI (wf := cw) (q0 := 53) (ci := 9) (rest := []) [] C hP hD hS hl.1 (c_X10_longestLine_53 hXo hq2) (cwA_V 0 hts wa_1225 wa_1222 wa_1223 wa_1224 wa_37 rfl rfl nd_X10_longestLine ⟨Nat.le_of_ble_eq_true rfl, Nat.le_of_ble_eq_true rfl⟩) rfl rfl rfl rfl (Nat.le_of_ble_eq_true rfl) dX11_line_4 ⟨Nat.le_of_ble_eq_true rfl, Nat.le_of_ble_eq_true rfl⟩ (fun H locs hP hD hS => ?_)
  cases hf
  exact bk_iret C hP hD hS rfl dX11_line_7
theorem c_X11_line_0 {N : Nat} {σ : Sg} {z : Int32 × Sg} (hX : xOK g X) (hf : f_X11_line_0 N σ = some z) : MetI l yX11_line (Cond.code yX11_line cX11_line 1 (some .int) :: wsA) rm_X11_line_0 cw g X [.ref (g.2.2 0)] σ z.1 z.2 :=
  MetI_of hX (by decide) (Nat.le_of_ble_eq_true rfl) (fun p e s m args below meth c A C => b_X11_line_0 C hf)
-- X11_hidden_0: hidden(I)I
abbrev rm_X11_hidden_0 : Room := { frames := 7, cells := 1, slots := 6, locals := 111 }
theorem nd_X11_hidden : yX11_hidden.cls ≠ "java/lang/invoke/MethodHandle" ∧ yX11_hidden.cls ≠ "java/lang/invoke/VarHandle" ∧ (parseMethodDescriptor yX11_hidden.desc).map (fun d => d.parameters.length) = some 1 := by decide +kernel
def f_X11_hidden_0 (N : Nat) (x1 : Int32) (σ : Sg) : Option (Zt) :=
(f_X11_needFarm_0 N x1 σ).bind fun q1 =>
if q1.1 = 0 then ((f_X9_all_12 N (q1.2.2)).bind fun q2 =>
(f_X11_mistNow_0 N (q2.2)).bind fun q3 =>
(f_X6_of_47 N x1 q3.1 (q3.2)).bind fun q4 =>
some (0, ((q2.1 &&& (((1 : Int32) <<< (x1 &&& 31)) ^^^ (-1 : Int32))) &&& (q4.1 ^^^ (-1 : Int32))), (q4.2)))
else some (q1.1, 0, q1.2.2)
set_option maxHeartbeats 4000000 in
set_option maxRecDepth 100000 in
theorem b_X11_hidden_0 {N : Nat} {x1 : Int32} {σ : Sg} {z : Zt} (C : Cx p s m args meth c cX11_hidden 2 (some .int) RX11 g A X) (hex : ∀ x ∈ c.exceptionTable.toList, False) (hst : l.stackTraces = false) (hf : f_X11_hidden_0 N x1 σ = some z) : Bk cw p l e rm_X11_hidden_0 s m args below meth c 2 g A (vx_MQ below (qTi cw g A z) (xT cw g A z) args s 1 6 A) 0 0 0 [(0, .ref (g.2.2 0)), (1, .int x1)] [] σ := by
  obtain ⟨hx, hb, hr, hml, hown, hts, hK, hlocks, hXX, hA, hXo⟩ := id C
  intro H locs ls hP hD hS hl
  unfold f_X11_hidden_0 at hf
  refine lv_aload_n hx hb dX11_hidden_0 rfl (lv_at hl 0 rfl) ?_
  refine lv_iload_n hx hb dX11_hidden_1 rfl (lv_at hl 1 rfl) ?_
  obtain ⟨q1, hq1, hf⟩ := bi_s hf
  refine bk_TV (wf := cw) (q0 := 0) (ci := 10) (rest := []) [.int x1] C hex hP hD hS hl.1 (c_X11_needFarm_0 hXo hst hq1) (cwA_V 1 hts wa_791 wa_788 wa_789 wa_790 wa_2 rfl rfl nd_X11_needFarm ⟨Nat.le_of_ble_eq_true rfl, Nat.le_of_ble_eq_true rfl⟩) rfl rfl rfl rfl (Nat.le_of_ble_eq_true rfl) dX11_hidden_2 ⟨Nat.le_of_ble_eq_true rfl, Nat.le_of_ble_eq_true rfl⟩ ⟨Nat.le_of_ble_eq_true rfl, Nat.le_of_ble_eq_true rfl⟩ (fun h0 => by have hf := (if_neg h0).symm.trans hf; cases hf; exact ⟨rfl, rfl⟩) (fun h0 H locs hP hD hS => ?_)
  have hf := (if_pos h0).symm.trans hf
  refine lv_aload_n hx hb dX11_hidden_5 rfl (lv_at hl 0 rfl) ?_
  refine bk_get (wf := cw) (q0 := 0) (ci := 10) (k := 3) (v := .ref (g.2.2 12)) C hP wl_X11 rfl rfl (by decide) wa_23 rfl rfl dX11_hidden_6 ?_
  obtain ⟨q2, hq2, hf⟩ := bi_s hf
  refine bk_VI (wf := cw) (q0 := 12) (ci := 8) (rest := []) [] C hP hD hS hl.1 (c_X9_all_12 hXo hq2) (cwA_V 0 hts wa_695 wa_1172 wa_693 wa_694 wa_22 rfl rfl nd_X9_all ⟨Nat.le_of_ble_eq_true rfl, Nat.le_of_ble_eq_true rfl⟩) rfl rfl rfl rfl (Nat.le_of_ble_eq_true rfl) dX11_hidden_9 ⟨Nat.le_of_ble_eq_true rfl, Nat.le_of_ble_eq_true rfl⟩ (fun H locs hP hD hS => ?_)
  refine lv_iconst (v := (1 : Int32)) hx hb dX11_hidden_12 (by decide) ?_
  refine lv_iload_n hx hb dX11_hidden_13 rfl (lv_at hl 1 rfl) ?_
  refine lv_ishl hx hb dX11_hidden_14 ?_
  refine lv_iconst (v := (-1 : Int32)) hx hb dX11_hidden_15 (by decide) ?_
  refine lv_ixor hx hb dX11_hidden_16 ?_
  refine lv_iand hx hb dX11_hidden_17 ?_
  refine lv_aload_n hx hb dX11_hidden_18 rfl (lv_at hl 0 rfl) ?_
  refine bk_get (wf := cw) (q0 := 0) (ci := 10) (k := 7) (v := .ref (g.2.2 47)) C hP wl_X11 rfl rfl (by decide) wa_33 rfl rfl dX11_hidden_19 ?_
  refine lv_iload_n hx hb dX11_hidden_22 rfl (lv_at hl 1 rfl) ?_
  refine lv_aload_n hx hb dX11_hidden_23 rfl (lv_at hl 0 rfl) ?_
  obtain ⟨q3, hq3, hf⟩ := bi_s hf
  refine bk_VI (wf := cw) (q0 := 0) (ci := 10) (rest := [.int x1, .ref (g.2.2 47), .int (q2.1 &&& (((1 : Int32) <<< (x1 &&& 31)) ^^^ (-1 : Int32)))]) [] C hP hD hS hl.1 (c_X11_mistNow_0 hXo hq3) (cwA_V 0 hts wa_654 wa_651 wa_652 wa_653 wa_2 rfl rfl nd_X11_mistNow ⟨Nat.le_of_ble_eq_true rfl, Nat.le_of_ble_eq_true rfl⟩) rfl rfl rfl rfl (Nat.le_of_ble_eq_true rfl) dX11_hidden_24 ⟨Nat.le_of_ble_eq_true rfl, Nat.le_of_ble_eq_true rfl⟩ (fun H locs hP hD hS => ?_)
  obtain ⟨q4, hq4, hf⟩ := bi_s hf
  refine bk_VI (wf := cw) (q0 := 47) (ci := 6) (rest := [.int (q2.1 &&& (((1 : Int32) <<< (x1 &&& 31)) ^^^ (-1 : Int32)))]) [.int x1, .int q3.1] C hP hD hS hl.1 (c_X6_of_47 hXo hq4) (cwA_V 2 hts wa_675 wa_792 wa_673 wa_674 wa_32 rfl rfl nd_X6_of ⟨Nat.le_of_ble_eq_true rfl, Nat.le_of_ble_eq_true rfl⟩) rfl rfl rfl rfl (Nat.le_of_ble_eq_true rfl) dX11_hidden_27 ⟨Nat.le_of_ble_eq_true rfl, Nat.le_of_ble_eq_true rfl⟩ (fun H locs hP hD hS => ?_)
  refine lv_iconst (v := (-1 : Int32)) hx hb dX11_hidden_30 (by decide) ?_
  refine lv_ixor hx hb dX11_hidden_31 ?_
  refine lv_iand hx hb dX11_hidden_32 ?_
  exact bk_iretT C hP hD hS hf (Nat.le_of_ble_eq_true rfl) (Nat.le_of_ble_eq_true rfl) dX11_hidden_33
theorem c_X11_hidden_0 {N : Nat} {x1 : Int32} {σ : Sg} {z : Zt} (hX : xOK g X) (hst : l.stackTraces = false) (hf : f_X11_hidden_0 N x1 σ = some z) : MetTi l yX11_hidden (Cond.code yX11_hidden cX11_hidden 2 (some .int) :: wsA) rm_X11_hidden_0 1 6 cw g X [.ref (g.2.2 0), .int x1] σ z :=
  MetTi_of hX (by decide) (Nat.le_of_ble_eq_true rfl) (fun p e s m args below meth c A C hex => b_X11_hidden_0 C hex hst hf)
-- X5_add_29: add(IIZ)V
abbrev rm_X5_add_29 : Room := { frames := 0, cells := 0, slots := 0, locals := 0 }
theorem nd_X5_add : yX5_add.cls ≠ "java/lang/invoke/MethodHandle" ∧ yX5_add.cls ≠ "java/lang/invoke/VarHandle" ∧ (parseMethodDescriptor yX5_add.desc).map (fun d => d.parameters.length) = some 3 := by decide +kernel
def f_X5_add_29_b46 (N : Nat) (t1 : Int32) (t2 : Int32) (σ : Sg) : Option (Sg) :=
if (t1 < 0 ∨ 8 ≤ t1.toNatClampNeg) then none else
bd (wr σ 32 (t1.toNatClampNeg) t2) fun σ2 =>
bd (wr σ2 29 0 ((σ2 29 0) + (1 : Int32))) fun σ3 =>
some σ3
set_option maxHeartbeats 4000000 in
set_option maxRecDepth 100000 in
theorem b_X5_add_29_b46 {N : Nat} {t1 : Int32} {t2 : Int32} {σ : Sg} {z : Sg} (C : Cx p s m args meth c cX5_add 4 none RX5 g A X) (hf : f_X5_add_29_b46 N t1 t2 σ = some z) : Bk cw p l e rm_X5_add_29 s m args below meth c 4 g A (MQ below (qV cw g A z) args s 0 0 A) 0 0 46 [(0, .ref (g.2.2 29))] [.int t2, .int t1, .ref (g.2.2 32)] σ := by
  obtain ⟨hx, hb, hr, hml, hown, hts, hK, hlocks, hXX, hA, hXo⟩ := id C
  intro H locs ls hP hD hS hl
  unfold f_X5_add_29_b46 at hf
  obtain ⟨g1, hf⟩ := gd_s hf
  obtain ⟨σ2, eσ2, hf⟩ := bd_s hf
  refine bk_iast (wf := cw) (σ1 := σ2) (q0 := 32) (n := 8) (j := t1.toNatClampNeg) C hP hD hS rfl g1 rfl (by rw [eσ2]; exact cw_a32 g _ _ _) dX5_add_46 (fun H locs hP hD hS => ?_)
  refine lv_aload_n hx hb dX5_add_47 rfl (lv_at hl 0 rfl) ?_
  refine lv_dup hx hb dX5_add_48 rfl ?_
  refine bk_get (wf := cw) (q0 := 29) (ci := 5) (k := 0) (v := .int (σ2 29 0)) C hP wl_X5 rfl rfl (by decide) wa_122 rfl rfl dX5_add_49 ?_
  refine lv_iconst (v := (1 : Int32)) hx hb dX5_add_52 (by decide) ?_
  refine lv_iadd hx hb dX5_add_53 ?_
  obtain ⟨σ3, eσ3, hf⟩ := bd_s hf
  refine bk_put (wf := cw) (σ1 := σ3) (q0 := 29) (ci := 5) (k := 0) (v := .int ((σ2 29 0) + (1 : Int32))) C hP hD hS wl_X5 tyX5_ok nmX5 rfl rfl (by decide) wa_122 rfl rfl rfl rfl rfl (Nat.le_of_ble_eq_true rfl) (by rw [eσ3]; exact cw_p29_0 g _ _) dX5_add_54 (fun H locs hP hD hS => ?_)
  cases hf
  exact bk_vret C hP hD hS rfl dX5_add_57
def f_X5_add_29 (N : Nat) (x1 : Int32) (x2 : Int32) (x3 : Int32) (σ : Sg) : Option (Sg) :=
if (8 : Int32) ≤ (σ 29 0) then (some σ)
else (if ((σ 29 0) < 0 ∨ 8 ≤ (σ 29 0).toNatClampNeg) then none else
bd (wr σ 30 ((σ 29 0).toNatClampNeg) x1) fun σ5 =>
if ((σ5 29 0) < 0 ∨ 8 ≤ (σ5 29 0).toNatClampNeg) then none else
bd (wr σ5 31 ((σ5 29 0).toNatClampNeg) x2) fun σ7 =>
if x3 = 0 then (f_X5_add_29_b46 N (σ7 29 0) (0 : Int32) σ7)
else (f_X5_add_29_b46 N (σ7 29 0) (1 : Int32) σ7))
set_option maxHeartbeats 4000000 in
set_option maxRecDepth 100000 in
theorem b_X5_add_29 {N : Nat} {x1 : Int32} {x2 : Int32} {x3 : Int32} {σ : Sg} {z : Sg} (C : Cx p s m args meth c cX5_add 4 none RX5 g A X) (hf : f_X5_add_29 N x1 x2 x3 σ = some z) : Bk cw p l e rm_X5_add_29 s m args below meth c 4 g A (MQ below (qV cw g A z) args s 0 0 A) 0 0 0 [(0, .ref (g.2.2 29)), (1, .int x1), (2, .int x2), (3, .int x3)] [] σ := by
  obtain ⟨hx, hb, hr, hml, hown, hts, hK, hlocks, hXX, hA, hXo⟩ := id C
  intro H locs ls hP hD hS hl
  unfold f_X5_add_29 at hf
  refine lv_aload_n hx hb dX5_add_0 rfl (lv_at hl 0 rfl) ?_
  refine bk_get (wf := cw) (q0 := 29) (ci := 5) (k := 0) (v := .int (σ 29 0)) C hP wl_X5 rfl rfl (by decide) wa_122 rfl rfl dX5_add_1 ?_
  refine lv_bipush (v := (8 : Int32)) hx hb dX5_add_4 (by decide) ?_
  refine lv_icmp_ge (tgt := 57) hx hb dX5_add_6 (by decide) (fun t6 => ?_) (fun t6 => ?_)
  · have hf := (if_pos t6).symm.trans hf
    cases hf
    exact bk_vret C hP hD hS rfl dX5_add_57
  · have hf := (if_neg t6).symm.trans hf
    refine lv_aload_n hx hb dX5_add_9 rfl (lv_at hl 0 rfl) ?_
    refine bk_get (wf := cw) (q0 := 29) (ci := 5) (k := 1) (v := .ref (g.2.2 30)) C hP wl_X5 rfl rfl (by decide) wa_123 rfl rfl dX5_add_10 ?_
    refine lv_aload_n hx hb dX5_add_13 rfl (lv_at hl 0 rfl) ?_
    refine bk_get (wf := cw) (q0 := 29) (ci := 5) (k := 0) (v := .int (σ 29 0)) C hP wl_X5 rfl rfl (by decide) wa_122 rfl rfl dX5_add_14 ?_
    refine lv_iload_n hx hb dX5_add_17 rfl (lv_at hl 1 rfl) ?_
    obtain ⟨g4, hf⟩ := gd_s hf
    obtain ⟨σ5, eσ5, hf⟩ := bd_s hf
    refine bk_iast (wf := cw) (σ1 := σ5) (q0 := 30) (n := 8) (j := (σ 29 0).toNatClampNeg) C hP hD hS rfl g4 rfl (by rw [eσ5]; exact cw_a30 g _ _ _) dX5_add_18 (fun H locs hP hD hS => ?_)
    refine lv_aload_n hx hb dX5_add_19 rfl (lv_at hl 0 rfl) ?_
    refine bk_get (wf := cw) (q0 := 29) (ci := 5) (k := 2) (v := .ref (g.2.2 31)) C hP wl_X5 rfl rfl (by decide) wa_124 rfl rfl dX5_add_20 ?_
    refine lv_aload_n hx hb dX5_add_23 rfl (lv_at hl 0 rfl) ?_
    refine bk_get (wf := cw) (q0 := 29) (ci := 5) (k := 0) (v := .int (σ5 29 0)) C hP wl_X5 rfl rfl (by decide) wa_122 rfl rfl dX5_add_24 ?_
    refine lv_iload_n hx hb dX5_add_27 rfl (lv_at hl 2 rfl) ?_
    obtain ⟨g6, hf⟩ := gd_s hf
    obtain ⟨σ7, eσ7, hf⟩ := bd_s hf
    refine bk_iast (wf := cw) (σ1 := σ7) (q0 := 31) (n := 8) (j := (σ5 29 0).toNatClampNeg) C hP hD hS rfl g6 rfl (by rw [eσ7]; exact cw_a31 g _ _ _) dX5_add_28 (fun H locs hP hD hS => ?_)
    refine lv_aload_n hx hb dX5_add_29 rfl (lv_at hl 0 rfl) ?_
    refine bk_get (wf := cw) (q0 := 29) (ci := 5) (k := 3) (v := .ref (g.2.2 32)) C hP wl_X5 rfl rfl (by decide) wa_125 rfl rfl dX5_add_30 ?_
    refine lv_aload_n hx hb dX5_add_33 rfl (lv_at hl 0 rfl) ?_
    refine bk_get (wf := cw) (q0 := 29) (ci := 5) (k := 0) (v := .int (σ7 29 0)) C hP wl_X5 rfl rfl (by decide) wa_122 rfl rfl dX5_add_34 ?_
    refine lv_iload_n hx hb dX5_add_37 rfl (lv_at hl 3 rfl) ?_
    refine lv_if_eq (tgt := 45) hx hb dX5_add_38 (by decide) (fun t38 => ?_) (fun t38 => ?_)
    · have hf := (if_pos t38).symm.trans hf
      refine lv_iconst (v := (0 : Int32)) hx hb dX5_add_45 (by decide) ?_
      exact b_X5_add_29_b46 C hf H locs ls hP hD hS (lv_sub hl [0] rfl)
    · have hf := (if_neg t38).symm.trans hf
      refine lv_iconst (v := (1 : Int32)) hx hb dX5_add_41 (by decide) ?_
      refine lv_goto (tgt := 46) hx hb dX5_add_42 (by decide) ?_
      exact b_X5_add_29_b46 C hf H locs ls hP hD hS (lv_sub hl [0] rfl)
theorem c_X5_add_29 {N : Nat} {x1 : Int32} {x2 : Int32} {x3 : Int32} {σ : Sg} {z : Sg} (hX : xOK g X) (hf : f_X5_add_29 N x1 x2 x3 σ = some z) : MetV l yX5_add (Cond.code yX5_add cX5_add 4 none :: wsA) rm_X5_add_29 cw g X [.ref (g.2.2 29), .int x1, .int x2, .int x3] σ z :=
  MetV_of hX (by decide) (Nat.le_of_ble_eq_true rfl) (fun p e s m args below meth c A C => b_X5_add_29 C hf)
-- X11_see_0: see(IIZ)I
abbrev rm_X11_see_0 : Room := { frames := 7, cells := 1, slots := 6, locals := 111 }
theorem nd_X11_see : yX11_see.cls ≠ "java/lang/invoke/MethodHandle" ∧ yX11_see.cls ≠ "java/lang/invoke/VarHandle" ∧ (parseMethodDescriptor yX11_see.desc).map (fun d => d.parameters.length) = some 3 := by decide +kernel
def f_X11_see_0_b31 (N : Nat) (σ : Sg) : Option (Zt) :=
bd (wr σ 33 2 ((σ 33 2) + (1 : Int32))) fun σ1 =>
some (0, (-1 : Int32), σ1)
set_option maxHeartbeats 4000000 in
set_option maxRecDepth 100000 in
theorem b_X11_see_0_b31 {N : Nat} {σ : Sg} {z : Zt} (C : Cx p s m args meth c cX11_see 4 (some .int) RX11 g A X) (hex : ∀ x ∈ c.exceptionTable.toList, False) (hst : l.stackTraces = false) (hf : f_X11_see_0_b31 N σ = some z) : Bk cw p l e rm_X11_see_0 s m args below meth c 4 g A (vx_MQ below (qTi cw g A z) (xT cw g A z) args s 1 6 A) 1 6 31 [(0, .ref (g.2.2 0))] [] σ := by
  obtain ⟨hx, hb, hr, hml, hown, hts, hK, hlocks, hXX, hA, hXo⟩ := id C
  intro H locs ls hP hD hS hl
  unfold f_X11_see_0_b31 at hf
  refine lv_aload_n hx hb dX11_see_31 rfl (lv_at hl 0 rfl) ?_
  refine bk_get (wf := cw) (q0 := 0) (ci := 10) (k := 4) (v := .ref (g.2.2 21)) C hP wl_X11 rfl rfl (by decide) wa_27 rfl rfl dX11_see_32 ?_
  refine bk_get (wf := cw) (q0 := 21) (ci := 1) (k := 3) (v := .ref (g.2.2 33)) C hP wl_X1 rfl rfl (by decide) wa_218 rfl rfl dX11_see_35 ?_
  refine lv_iconst (v := (2 : Int32)) hx hb dX11_see_38 (by decide) ?_
  refine lv_dup2_11 hx hb dX11_see_39 rfl rfl ?_
  refine bk_iald (wf := cw) (q0 := 33) (n := 3) (j := 2) C hP rfl (vin_l (by decide) (by decide)) (by decide) dX11_see_40 ?_
  refine lv_iconst (v := (1 : Int32)) hx hb dX11_see_41 (by decide) ?_
  refine lv_iadd hx hb dX11_see_42 ?_
  obtain ⟨σ1, eσ1, hf⟩ := bd_s hf
  refine bk_iast (wf := cw) (σ1 := σ1) (q0 := 33) (n := 3) (j := 2) C hP hD hS rfl (vin_l (by decide) (by decide)) (by decide) (by rw [eσ1]; exact cw_a33 g _ _ _) dX11_see_43 (fun H locs hP hD hS => ?_)
  refine lv_iconst (v := (-1 : Int32)) hx hb dX11_see_44 (by decide) ?_
  exact bk_iretT C hP hD hS hf (Nat.le_of_ble_eq_true rfl) (Nat.le_of_ble_eq_true rfl) dX11_see_45
def f_X11_see_0 (N : Nat) (x1 : Int32) (x2 : Int32) (x3 : Int32) (σ : Sg) : Option (Zt) :=
(f_X11_needFarm_0 N x1 σ).bind fun q2 =>
if q2.1 = 0 then (if x2 < (1 : Int32) then (f_X11_see_0_b31 N (q2.2.2))
else (if (20 : Int32) < x2 then (f_X11_see_0_b31 N (q2.2.2))
else (if ((q2.2.2) 29 0) < (8 : Int32) then ((f_X5_add_29 N x1 x2 x3 (q2.2.2)).bind fun q3 =>
some (0, (q3 29 0), q3))
else (f_X11_see_0_b31 N (q2.2.2)))))
else some (q2.1, 0, q2.2.2)
set_option maxHeartbeats 4000000 in
set_option maxRecDepth 100000 in
theorem b_X11_see_0 {N : Nat} {x1 : Int32} {x2 : Int32} {x3 : Int32} {σ : Sg} {z : Zt} (C : Cx p s m args meth c cX11_see 4 (some .int) RX11 g A X) (hex : ∀ x ∈ c.exceptionTable.toList, False) (hst : l.stackTraces = false) (hf : f_X11_see_0 N x1 x2 x3 σ = some z) : Bk cw p l e rm_X11_see_0 s m args below meth c 4 g A (vx_MQ below (qTi cw g A z) (xT cw g A z) args s 1 6 A) 0 0 0 [(0, .ref (g.2.2 0)), (1, .int x1), (2, .int x2), (3, .int x3)] [] σ := by
  obtain ⟨hx, hb, hr, hml, hown, hts, hK, hlocks, hXX, hA, hXo⟩ := id C
  intro H locs ls hP hD hS hl
  unfold f_X11_see_0 at hf
  refine lv_aload_n hx hb dX11_see_0 rfl (lv_at hl 0 rfl) ?_
  refine lv_iload_n hx hb dX11_see_1 rfl (lv_at hl 1 rfl) ?_
  obtain ⟨q2, hq2, hf⟩ := bi_s hf
  refine bk_TV (wf := cw) (q0 := 0) (ci := 10) (rest := []) [.int x1] C hex hP hD hS hl.1 (c_X11_needFarm_0 hXo hst hq2) (cwA_V 1 hts wa_791 wa_788 wa_789 wa_790 wa_2 rfl rfl nd_X11_needFarm ⟨Nat.le_of_ble_eq_true rfl, Nat.le_of_ble_eq_true rfl⟩) rfl rfl rfl rfl (Nat.le_of_ble_eq_true rfl) dX11_see_2 ⟨Nat.le_of_ble_eq_true rfl, Nat.le_of_ble_eq_true rfl⟩ ⟨Nat.le_of_ble_eq_true rfl, Nat.le_of_ble_eq_true rfl⟩ (fun h0 => by have hf := (if_neg h0).symm.trans hf; cases hf; exact ⟨rfl, rfl⟩) (fun h0 H locs hP hD hS => ?_)
  have hf := (if_pos h0).symm.trans hf
  refine lv_iload_n hx hb dX11_see_5 rfl (lv_at hl 2 rfl) ?_
  refine lv_iconst (v := (1 : Int32)) hx hb dX11_see_6 (by decide) ?_
  refine lv_icmp_lt (tgt := 31) hx hb dX11_see_7 (by decide) (fun t7 => ?_) (fun t7 => ?_)
  · have hf := (if_pos t7).symm.trans hf
    exact b_X11_see_0_b31 C hex hst hf H locs ls hP hD hS (lv_sub hl [0] rfl)
  · have hf := (if_neg t7).symm.trans hf
    refine lv_iload_n hx hb dX11_see_10 rfl (lv_at hl 2 rfl) ?_
    refine lv_bipush (v := (20 : Int32)) hx hb dX11_see_11 (by decide) ?_
    refine lv_icmp_gt (tgt := 31) hx hb dX11_see_13 (by decide) (fun t13 => ?_) (fun t13 => ?_)
    · have hf := (if_pos t13).symm.trans hf
      exact b_X11_see_0_b31 C hex hst hf H locs ls hP hD hS (lv_sub hl [0] rfl)
    · have hf := (if_neg t13).symm.trans hf
      refine lv_aload_n hx hb dX11_see_16 rfl (lv_at hl 0 rfl) ?_
      refine bk_get (wf := cw) (q0 := 0) (ci := 10) (k := 4) (v := .ref (g.2.2 21)) C hP wl_X11 rfl rfl (by decide) wa_27 rfl rfl dX11_see_17 ?_
      refine bk_get (wf := cw) (q0 := 21) (ci := 1) (k := 2) (v := .ref (g.2.2 29)) C hP wl_X1 rfl rfl (by decide) wa_223 rfl rfl dX11_see_20 ?_
      refine bk_get (wf := cw) (q0 := 29) (ci := 5) (k := 0) (v := .int ((q2.2.2) 29 0)) C hP wl_X5 rfl rfl (by decide) wa_650 rfl rfl dX11_see_23 ?_
      refine lv_bipush (v := (8 : Int32)) hx hb dX11_see_26 (by decide) ?_
      refine lv_icmp_lt (tgt := 46) hx hb dX11_see_28 (by decide) (fun t28 => ?_) (fun t28 => ?_)
      · have hf := (if_pos t28).symm.trans hf
        refine lv_aload_n hx hb dX11_see_46 rfl (lv_at hl 0 rfl) ?_
        refine bk_get (wf := cw) (q0 := 0) (ci := 10) (k := 4) (v := .ref (g.2.2 21)) C hP wl_X11 rfl rfl (by decide) wa_27 rfl rfl dX11_see_47 ?_
        refine bk_get (wf := cw) (q0 := 21) (ci := 1) (k := 2) (v := .ref (g.2.2 29)) C hP wl_X1 rfl rfl (by decide) wa_223 rfl rfl dX11_see_50 ?_
        refine lv_iload_n hx hb dX11_see_53 rfl (lv_at hl 1 rfl) ?_
        refine lv_iload_n hx hb dX11_see_54 rfl (lv_at hl 2 rfl) ?_
        refine lv_iload_n hx hb dX11_see_55 rfl (lv_at hl 3 rfl) ?_
        obtain ⟨q3, hq3, hf⟩ := bi_s hf
        refine bk_VV (wf := cw) (q0 := 29) (ci := 5) (rest := []) [.int x1, .int x2, .int x3] C hP hD hS hl.1 (c_X5_add_29 hXo hq3) (cwA_V 3 hts wa_1273 wa_1270 wa_1271 wa_1272 wa_101 rfl rfl nd_X5_add ⟨Nat.le_of_ble_eq_true rfl, Nat.le_of_ble_eq_true rfl⟩) rfl rfl rfl rfl (Nat.le_of_ble_eq_true rfl) dX11_see_56 ⟨Nat.le_of_ble_eq_true rfl, Nat.le_of_ble_eq_true rfl⟩ (fun H locs hP hD hS => ?_)
        refine lv_aload_n hx hb dX11_see_59 rfl (lv_at hl 0 rfl) ?_
        refine bk_get (wf := cw) (q0 := 0) (ci := 10) (k := 4) (v := .ref (g.2.2 21)) C hP wl_X11 rfl rfl (by decide) wa_27 rfl rfl dX11_see_60 ?_
        refine bk_get (wf := cw) (q0 := 21) (ci := 1) (k := 2) (v := .ref (g.2.2 29)) C hP wl_X1 rfl rfl (by decide) wa_223 rfl rfl dX11_see_63 ?_
        refine bk_get (wf := cw) (q0 := 29) (ci := 5) (k := 0) (v := .int (q3 29 0)) C hP wl_X5 rfl rfl (by decide) wa_650 rfl rfl dX11_see_66 ?_
        exact bk_iretT C hP hD hS hf (Nat.le_of_ble_eq_true rfl) (Nat.le_of_ble_eq_true rfl) dX11_see_69
      · have hf := (if_neg t28).symm.trans hf
        exact b_X11_see_0_b31 C hex hst hf H locs ls hP hD hS (lv_sub hl [0] rfl)
theorem c_X11_see_0 {N : Nat} {x1 : Int32} {x2 : Int32} {x3 : Int32} {σ : Sg} {z : Zt} (hX : xOK g X) (hst : l.stackTraces = false) (hf : f_X11_see_0 N x1 x2 x3 σ = some z) : MetTi l yX11_see (Cond.code yX11_see cX11_see 4 (some .int) :: wsA) rm_X11_see_0 1 6 cw g X [.ref (g.2.2 0), .int x1, .int x2, .int x3] σ z :=
  MetTi_of hX (by decide) (Nat.le_of_ble_eq_true rfl) (fun p e s m args below meth c A C hex => b_X11_see_0 C hex hst hf)
-- X5_agrees_29_63: agrees([II)Z
abbrev rm_X5_agrees_29_63 : Room := { frames := 0, cells := 0, slots := 0, locals := 0 }
theorem nd_X5_agrees : yX5_agrees.cls ≠ "java/lang/invoke/MethodHandle" ∧ yX5_agrees.cls ≠ "java/lang/invoke/VarHandle" ∧ (parseMethodDescriptor yX5_agrees.desc).map (fun d => d.parameters.length) = some 2 := by decide +kernel
def s_X5_agrees_29_63_h2 (N : Nat) (x2 : Int32) (x3 : Int32) (σ : Sg) : Option (Nat × Int32 × Sg) :=
if (σ 29 0) ≤ x3 then (some (2, 0, σ))
else (if (x3 < 0 ∨ 8 ≤ x3.toNatClampNeg) then none else
bd ((x2 + (σ 31 x3.toNatClampNeg)) - (1 : Int32)) fun v2 =>
if v2 < 0 then (some (1, 0, σ))
else (if (200 : Int32) ≤ v2 then (some (1, 0, σ))
else (if (v2 < 0 ∨ 200 ≤ v2.toNatClampNeg) then none else
if (x3 < 0 ∨ 8 ≤ x3.toNatClampNeg) then none else
if (x3 < 0 ∨ 8 ≤ x3.toNatClampNeg) then none else
if (((σ 63 v2.toNatClampNeg) >>> ((σ 30 x3.toNatClampNeg) &&& 31)) &&& (1 : Int32)) = (σ 32 x3.toNatClampNeg) then (bd (x3 + (1 : Int32)) fun v6 =>
some (0, v6, σ))
else (some (1, 0, σ)))))
set_option maxHeartbeats 4000000 in
set_option maxRecDepth 100000 in
theorem e_X5_agrees_29_63_h2 {N : Nat} {x2 : Int32} {x3 : Int32} {σ : Sg} {z : Nat × Int32 × Sg} (C : Cx p s m args meth c cX5_agrees 5 (some .boolean) RX5 g A X) (hf : s_X5_agrees_29_63_h2 N x2 x3 σ = some z) (k0 : z.1 = 0 → Bk cw p l e rm_X5_agrees_29_63 s m args below meth c 5 g A Q 0 0 2 [(0, .ref (g.2.2 29)), (1, .ref (g.2.2 63)), (2, .int x2), (3, .int z.2.1)] [] z.2.2) (k : ¬ z.1 = 0 → ((z.1 = 1 → Bk cw p l e rm_X5_agrees_29_63 s m args below meth c 5 g A Q 0 0 56 [] [] z.2.2) ∧ (¬ z.1 = 1 → Bk cw p l e rm_X5_agrees_29_63 s m args below meth c 5 g A Q 0 0 64 [] [] z.2.2))) : Bk cw p l e rm_X5_agrees_29_63 s m args below meth c 5 g A Q 0 0 2 [(0, .ref (g.2.2 29)), (1, .ref (g.2.2 63)), (2, .int x2), (3, .int x3)] [] σ := by
  obtain ⟨hx, hb, hr, hml, hown, hts, hK, hlocks, hXX, hA, hXo⟩ := id C
  intro H locs ls hP hD hS hl
  unfold s_X5_agrees_29_63_h2 at hf
  refine lv_iload_n hx hb dX5_agrees_2 rfl (lv_at hl 3 rfl) ?_
  refine lv_aload_n hx hb dX5_agrees_3 rfl (lv_at hl 0 rfl) ?_
  refine bk_get (wf := cw) (q0 := 29) (ci := 5) (k := 0) (v := .int (σ 29 0)) C hP wl_X5 rfl rfl (by decide) wa_122 rfl rfl dX5_agrees_4 ?_
  refine lv_icmp_ge (tgt := 64) hx hb dX5_agrees_7 (by decide) (fun t7 => ?_) (fun t7 => ?_)
  · have hf := (if_pos t7).symm.trans hf
    cases hf
    exact ((k (show ¬ (2 : Nat) = 0 by decide)).2 (show ¬ (2 : Nat) = 1 by decide)) H locs ls hP hD hS (lv_sub hl [] rfl)
  · have hf := (if_neg t7).symm.trans hf
    refine lv_iload_n hx hb dX5_agrees_10 rfl (lv_at hl 2 rfl) ?_
    refine lv_aload_n hx hb dX5_agrees_11 rfl (lv_at hl 0 rfl) ?_
    refine bk_get (wf := cw) (q0 := 29) (ci := 5) (k := 2) (v := .ref (g.2.2 31)) C hP wl_X5 rfl rfl (by decide) wa_124 rfl rfl dX5_agrees_12 ?_
    refine lv_iload_n hx hb dX5_agrees_15 rfl (lv_at hl 3 rfl) ?_
    obtain ⟨g1, hf⟩ := gd_s hf
    refine bk_iald (wf := cw) (q0 := 31) (n := 8) (j := x3.toNatClampNeg) C hP rfl g1 rfl dX5_agrees_16 ?_
    refine lv_iadd hx hb dX5_agrees_17 ?_
    refine lv_iconst (v := (1 : Int32)) hx hb dX5_agrees_18 (by decide) ?_
    refine lv_isub hx hb dX5_agrees_19 ?_
    obtain ⟨v2, ev2, hf⟩ := bd_s hf
    rw [← ev2]
    refine lv_istore (lv' := [(4, .int v2), (0, .ref (g.2.2 29)), (1, .ref (g.2.2 63)), (2, .int x2), (3, .int x3)]) hx hb dX5_agrees_20 hl (by decide) rfl (fun ls hl => ?_)
    refine lv_iload hx hb dX5_agrees_22 (lv_at hl 0 rfl) ?_
    refine lv_if_lt (tgt := 56) hx hb dX5_agrees_24 (by decide) (fun t24 => ?_) (fun t24 => ?_)
    · have hf := (if_pos t24).symm.trans hf
      cases hf
      exact ((k (show ¬ (1 : Nat) = 0 by decide)).1 rfl) H locs ls hP hD hS (lv_sub hl [] rfl)
    · have hf := (if_neg t24).symm.trans hf
      refine lv_iload hx hb dX5_agrees_27 (lv_at hl 0 rfl) ?_
      refine lv_aload_n hx hb dX5_agrees_29 rfl (lv_at hl 2 rfl) ?_
      refine bk_alen (wf := cw) (q0 := 63) (t0 := 0) (v := (200 : Int32)) C hP rfl rfl (show Int32.ofNat 200 = (200 : Int32) by decide) dX5_agrees_30 ?_
      refine lv_icmp_ge (tgt := 56) hx hb dX5_agrees_31 (by decide) (fun t31 => ?_) (fun t31 => ?_)
      · have hf := (if_pos t31).symm.trans hf
        cases hf
        exact ((k (show ¬ (1 : Nat) = 0 by decide)).1 rfl) H locs ls hP hD hS (lv_sub hl [] rfl)
      · have hf := (if_neg t31).symm.trans hf
        refine lv_aload_n hx hb dX5_agrees_34 rfl (lv_at hl 2 rfl) ?_
        refine lv_iload hx hb dX5_agrees_35 (lv_at hl 0 rfl) ?_
        obtain ⟨g3, hf⟩ := gd_s hf
        refine bk_iald (wf := cw) (q0 := 63) (n := 200) (j := v2.toNatClampNeg) C hP rfl g3 rfl dX5_agrees_37 ?_
        refine lv_aload_n hx hb dX5_agrees_38 rfl (lv_at hl 1 rfl) ?_
        refine bk_get (wf := cw) (q0 := 29) (ci := 5) (k := 1) (v := .ref (g.2.2 30)) C hP wl_X5 rfl rfl (by decide) wa_123 rfl rfl dX5_agrees_39 ?_
        refine lv_iload_n hx hb dX5_agrees_42 rfl (lv_at hl 4 rfl) ?_
        obtain ⟨g4, hf⟩ := gd_s hf
        refine bk_iald (wf := cw) (q0 := 30) (n := 8) (j := x3.toNatClampNeg) C hP rfl g4 rfl dX5_agrees_43 ?_
        refine lv_ishr hx hb dX5_agrees_44 ?_
        refine lv_iconst (v := (1 : Int32)) hx hb dX5_agrees_45 (by decide) ?_
        refine lv_iand hx hb dX5_agrees_46 ?_
        refine lv_aload_n hx hb dX5_agrees_47 rfl (lv_at hl 1 rfl) ?_
        refine bk_get (wf := cw) (q0 := 29) (ci := 5) (k := 3) (v := .ref (g.2.2 32)) C hP wl_X5 rfl rfl (by decide) wa_125 rfl rfl dX5_agrees_48 ?_
        refine lv_iload_n hx hb dX5_agrees_51 rfl (lv_at hl 4 rfl) ?_
        obtain ⟨g5, hf⟩ := gd_s hf
        refine bk_iald (wf := cw) (q0 := 32) (n := 8) (j := x3.toNatClampNeg) C hP rfl g5 rfl dX5_agrees_52 ?_
        refine lv_icmp_eq (tgt := 58) hx hb dX5_agrees_53 (by decide) (fun t53 => ?_) (fun t53 => ?_)
        · have hf := (if_pos t53).symm.trans hf
          obtain ⟨v6, ev6, hf⟩ := bd_s hf
          refine lv_iinc (v := v6) (lv' := [(3, .int v6), (4, .int v2), (0, .ref (g.2.2 29)), (1, .ref (g.2.2 63)), (2, .int x2)]) hx hb dX5_agrees_58 hl (k := 4) rfl (by rw [ev6]; rfl) (by decide) rfl (fun ls hl => ?_)
          refine lv_goto (tgt := 2) hx hb dX5_agrees_61 (by decide) ?_
          cases hf
          exact k0 rfl H locs ls hP hD hS (lv_sub hl [2, 3, 4, 0] rfl)
        · have hf := (if_neg t53).symm.trans hf
          cases hf
          exact ((k (show ¬ (1 : Nat) = 0 by decide)).1 rfl) H locs ls hP hD hS (lv_sub hl [] rfl)
theorem lp_X5_agrees_29_63_h2 {N : Nat} {n : Nat} {x2 : Int32} {x3 : Int32} {σ : Sg} {z : Nat × Int32 × Sg} (C : Cx p s m args meth c cX5_agrees 5 (some .boolean) RX5 g A X) (hz : it (fun q => s_X5_agrees_29_63_h2 N x2 q.1 q.2) n (x3, σ) = some z) (k : ((z.1 = 1 → Bk cw p l e rm_X5_agrees_29_63 s m args below meth c 5 g A Q 0 0 56 [] [] z.2.2) ∧ (¬ z.1 = 1 → Bk cw p l e rm_X5_agrees_29_63 s m args below meth c 5 g A Q 0 0 64 [] [] z.2.2))) : Bk cw p l e rm_X5_agrees_29_63 s m args below meth c 5 g A Q 0 0 2 [(0, .ref (g.2.2 29)), (1, .ref (g.2.2 63)), (2, .int x2), (3, .int x3)] [] σ :=
  it_W (S := Int32 × Sg) (fun q => Bk cw p l e rm_X5_agrees_29_63 s m args below meth c 5 g A Q 0 0 2 [(0, .ref (g.2.2 29)), (1, .ref (g.2.2 63)), (2, .int x2), (3, .int q.1)] [] q.2) (fun z => ((z.1 = 1 → Bk cw p l e rm_X5_agrees_29_63 s m args below meth c 5 g A Q 0 0 56 [] [] z.2.2) ∧ (¬ z.1 = 1 → Bk cw p l e rm_X5_agrees_29_63 s m args below meth c 5 g A Q 0 0 64 [] [] z.2.2))) (fun q z hq k0 k => e_X5_agrees_29_63_h2 C hq k0 k) n (x3, σ) z hz k
def f_X5_agrees_29_63 (N : Nat) (x2 : Int32) (σ : Sg) : Option (Int32 × Sg) :=
(it (fun q => s_X5_agrees_29_63_h2 N x2 q.1 q.2) N ((0 : Int32), σ)).bind fun z7 =>
if z7.1 = 1 then (some ((0 : Int32), (z7.2.2)))
else (some ((1 : Int32), (z7.2.2)))
set_option maxHeartbeats 4000000 in
set_option maxRecDepth 100000 in
theorem b_X5_agrees_29_63 {N : Nat} {x2 : Int32} {σ : Sg} {z : Int32 × Sg} (C : Cx p s m args meth c cX5_agrees 5 (some .boolean) RX5 g A X) (hf : f_X5_agrees_29_63 N x2 σ = some z) : Bk cw p l e rm_X5_agrees_29_63 s m args below meth c 5 g A (MQ below (qI cw g A z.1 z.2) args s 0 0 A) 0 0 0 [(0, .ref (g.2.2 29)), (1, .ref (g.2.2 63)), (2, .int x2)] [] σ := by
  obtain ⟨hx, hb, hr, hml, hown, hts, hK, hlocks, hXX, hA, hXo⟩ := id C
  intro H locs ls hP hD hS hl
  unfold f_X5_agrees_29_63 at hf
  refine lv_iconst (v := (0 : Int32)) hx hb dX5_agrees_0 (by decide) ?_
  refine lv_istore_n (lv' := [(3, .int (0 : Int32)), (0, .ref (g.2.2 29)), (1, .ref (g.2.2 63)), (2, .int x2)]) hx hb dX5_agrees_1 rfl hl (by decide) rfl (fun ls hl => ?_)
  obtain ⟨z7, hz7, hf⟩ := bi_s hf
  refine lp_X5_agrees_29_63_h2 C hz7 ⟨fun t0 => ?_, fun t0 => ?_⟩ H locs ls hP hD hS (lv_sub hl [1, 2, 3, 0] rfl)
  · have hf := (if_pos t0).symm.trans hf
    intro H locs ls hP hD hS hl
    refine lv_iconst (v := (0 : Int32)) hx hb dX5_agrees_56 (by decide) ?_
    cases hf
    exact bk_zret C hP hD hS (by decide) rfl dX5_agrees_57
  · have hf := (if_neg t0).symm.trans hf
    intro H locs ls hP hD hS hl
    refine lv_iconst (v := (1 : Int32)) hx hb dX5_agrees_64 (by decide) ?_
    cases hf
    exact bk_zret C hP hD hS (by decide) rfl dX5_agrees_65
theorem c_X5_agrees_29_63 {N : Nat} {x2 : Int32} {σ : Sg} {z : Int32 × Sg} (hX : xOK g X) (hf : f_X5_agrees_29_63 N x2 σ = some z) : MetI l yX5_agrees (Cond.code yX5_agrees cX5_agrees 5 (some .boolean) :: wsA) rm_X5_agrees_29_63 cw g X [.ref (g.2.2 29), .ref (g.2.2 63), .int x2] σ z.1 z.2 :=
  MetI_of hX (by decide) (Nat.le_of_ble_eq_true rfl) (fun p e s m args below meth c A C => b_X5_agrees_29_63 C hf)
-- X11_isSoBy_0: isSoBy(II)Z
abbrev rm_X11_isSoBy_0 : Room := { frames := 6, cells := 0, slots := 0, locals := 144 }
theorem nd_X11_isSoBy : yX11_isSoBy.cls ≠ "java/lang/invoke/MethodHandle" ∧ yX11_isSoBy.cls ≠ "java/lang/invoke/VarHandle" ∧ (parseMethodDescriptor yX11_isSoBy.desc).map (fun d => d.parameters.length) = some 2 := by decide +kernel
def s_X11_isSoBy_0_h32 (N : Nat) (x2 : Int32) (x3 : Int32) (σ : Sg) : Option (Nat × Int32 × Sg) :=
if (20 : Int32) ≤ x3 then (some (1, 0, σ))
else (if (200 : Int32) ≤ (x2 + x3) then (some (1, 0, σ))
else ((f_X2_go_55 N σ).bind fun q1 =>
if ((x2 + x3) < 0 ∨ 200 ≤ (x2 + x3).toNatClampNeg) then none else
bd (wr (q1.2) 63 ((x2 + x3).toNatClampNeg) q1.1) fun σ3 =>
bd (x3 + (1 : Int32)) fun v4 =>
some (0, v4, σ3)))
set_option maxHeartbeats 4000000 in
set_option maxRecDepth 100000 in
theorem e_X11_isSoBy_0_h32 {N : Nat} {x2 : Int32} {x3 : Int32} {σ : Sg} {z : Nat × Int32 × Sg} (C : Cx p s m args meth c cX11_isSoBy 4 (some .boolean) RX11 g A X) (hf : s_X11_isSoBy_0_h32 N x2 x3 σ = some z) (k0 : z.1 = 0 → Bk cw p l e rm_X11_isSoBy_0 s m args below meth c 4 g A Q 0 0 32 [(0, .ref (g.2.2 0)), (2, .int x2), (3, .int z.2.1)] [] z.2.2) (k : ¬ z.1 = 0 → Bk cw p l e rm_X11_isSoBy_0 s m args below meth c 4 g A Q 0 0 70 [(0, .ref (g.2.2 0)), (2, .int x2)] [] z.2.2) : Bk cw p l e rm_X11_isSoBy_0 s m args below meth c 4 g A Q 0 0 32 [(0, .ref (g.2.2 0)), (2, .int x2), (3, .int x3)] [] σ := by
  obtain ⟨hx, hb, hr, hml, hown, hts, hK, hlocks, hXX, hA, hXo⟩ := id C
  intro H locs ls hP hD hS hl
  unfold s_X11_isSoBy_0_h32 at hf
  refine lv_iload_n hx hb dX11_isSoBy_32 rfl (lv_at hl 2 rfl) ?_
  refine lv_bipush (v := (20 : Int32)) hx hb dX11_isSoBy_33 (by decide) ?_
  refine lv_icmp_ge (tgt := 70) hx hb dX11_isSoBy_35 (by decide) (fun t35 => ?_) (fun t35 => ?_)
  · have hf := (if_pos t35).symm.trans hf
    cases hf
    exact (k (show ¬ (1 : Nat) = 0 by decide)) H locs ls hP hD hS (lv_sub hl [0, 1] rfl)
  · have hf := (if_neg t35).symm.trans hf
    refine lv_iload_n hx hb dX11_isSoBy_38 rfl (lv_at hl 1 rfl) ?_
    refine lv_iload_n hx hb dX11_isSoBy_39 rfl (lv_at hl 2 rfl) ?_
    refine lv_iadd hx hb dX11_isSoBy_40 ?_
    refine lv_aload_n hx hb dX11_isSoBy_41 rfl (lv_at hl 0 rfl) ?_
    refine bk_get (wf := cw) (q0 := 0) (ci := 10) (k := 11) (v := .ref (g.2.2 63)) C hP wl_X11 rfl rfl (by decide) wa_44 rfl rfl dX11_isSoBy_42 ?_
    refine bk_alen (wf := cw) (q0 := 63) (t0 := 0) (v := (200 : Int32)) C hP rfl rfl (show Int32.ofNat 200 = (200 : Int32) by decide) dX11_isSoBy_45 ?_
    refine lv_icmp_ge (tgt := 70) hx hb dX11_isSoBy_46 (by decide) (fun t46 => ?_) (fun t46 => ?_)
    · have hf := (if_pos t46).symm.trans hf
      cases hf
      exact (k (show ¬ (1 : Nat) = 0 by decide)) H locs ls hP hD hS (lv_sub hl [0, 1] rfl)
    · have hf := (if_neg t46).symm.trans hf
      refine lv_aload_n hx hb dX11_isSoBy_49 rfl (lv_at hl 0 rfl) ?_
      refine bk_get (wf := cw) (q0 := 0) (ci := 10) (k := 11) (v := .ref (g.2.2 63)) C hP wl_X11 rfl rfl (by decide) wa_44 rfl rfl dX11_isSoBy_50 ?_
      refine lv_iload_n hx hb dX11_isSoBy_53 rfl (lv_at hl 1 rfl) ?_
      refine lv_iload_n hx hb dX11_isSoBy_54 rfl (lv_at hl 2 rfl) ?_
      refine lv_iadd hx hb dX11_isSoBy_55 ?_
      refine lv_aload_n hx hb dX11_isSoBy_56 rfl (lv_at hl 0 rfl) ?_
      refine bk_get (wf := cw) (q0 := 0) (ci := 10) (k := 10) (v := .ref (g.2.2 55)) C hP wl_X11 rfl rfl (by decide) wa_42 rfl rfl dX11_isSoBy_57 ?_
      obtain ⟨q1, hq1, hf⟩ := bi_s hf
      refine bk_VI (wf := cw) (q0 := 55) (ci := 2) (rest := [.int (x2 + x3), .ref (g.2.2 63)]) [] C hP hD hS hl.1 (c_X2_go_55 hXo hq1) (cwA_V 0 hts wa_833 wa_830 wa_831 wa_832 wa_41 rfl rfl nd_X2_go ⟨Nat.le_of_ble_eq_true rfl, Nat.le_of_ble_eq_true rfl⟩) rfl rfl rfl rfl (Nat.le_of_ble_eq_true rfl) dX11_isSoBy_60 ⟨Nat.le_of_ble_eq_true rfl, Nat.le_of_ble_eq_true rfl⟩ (fun H locs hP hD hS => ?_)
      obtain ⟨g2, hf⟩ := gd_s hf
      obtain ⟨σ3, eσ3, hf⟩ := bd_s hf
      refine bk_iast (wf := cw) (σ1 := σ3) (q0 := 63) (n := 200) (j := (x2 + x3).toNatClampNeg) C hP hD hS rfl g2 rfl (by rw [eσ3]; exact cw_a63 g _ _ _) dX11_isSoBy_63 (fun H locs hP hD hS => ?_)
      obtain ⟨v4, ev4, hf⟩ := bd_s hf
      refine lv_iinc (v := v4) (lv' := [(3, .int v4), (0, .ref (g.2.2 0)), (2, .int x2)]) hx hb dX11_isSoBy_64 hl (k := 2) rfl (by rw [ev4]; rfl) (by decide) rfl (fun ls hl => ?_)
      refine lv_goto (tgt := 32) hx hb dX11_isSoBy_67 (by decide) ?_
      cases hf
      exact k0 rfl H locs ls hP hD hS (lv_sub hl [1, 2, 0] rfl)
theorem lp_X11_isSoBy_0_h32 {N : Nat} {n : Nat} {x2 : Int32} {x3 : Int32} {σ : Sg} {z : Nat × Int32 × Sg} (C : Cx p s m args meth c cX11_isSoBy 4 (some .boolean) RX11 g A X) (hz : it (fun q => s_X11_isSoBy_0_h32 N x2 q.1 q.2) n (x3, σ) = some z) (k : Bk cw p l e rm_X11_isSoBy_0 s m args below meth c 4 g A Q 0 0 70 [(0, .ref (g.2.2 0)), (2, .int x2)] [] z.2.2) : Bk cw p l e rm_X11_isSoBy_0 s m args below meth c 4 g A Q 0 0 32 [(0, .ref (g.2.2 0)), (2, .int x2), (3, .int x3)] [] σ :=
  it_W (S := Int32 × Sg) (fun q => Bk cw p l e rm_X11_isSoBy_0 s m args below meth c 4 g A Q 0 0 32 [(0, .ref (g.2.2 0)), (2, .int x2), (3, .int q.1)] [] q.2) (fun z => Bk cw p l e rm_X11_isSoBy_0 s m args below meth c 4 g A Q 0 0 70 [(0, .ref (g.2.2 0)), (2, .int x2)] [] z.2.2) (fun q z hq k0 k => e_X11_isSoBy_0_h32 C hq k0 k) n (x3, σ) z hz k
def f_X11_isSoBy_0_b30 (N : Nat) (x2 : Int32) (σ : Sg) : Option (Int32 × Sg) :=
(it (fun q => s_X11_isSoBy_0_h32 N x2 q.1 q.2) N ((0 : Int32), σ)).bind fun z5 =>
(f_X5_agrees_29_63 N x2 (z5.2.2)).bind fun q6 =>
if ¬ (q6.1 = 0 ∨ q6.1 = 1) then none else some (q6.1, (q6.2))
set_option maxHeartbeats 4000000 in
set_option maxRecDepth 100000 in
theorem b_X11_isSoBy_0_b30 {N : Nat} {x2 : Int32} {σ : Sg} {z : Int32 × Sg} (C : Cx p s m args meth c cX11_isSoBy 4 (some .boolean) RX11 g A X) (hf : f_X11_isSoBy_0_b30 N x2 σ = some z) : Bk cw p l e rm_X11_isSoBy_0 s m args below meth c 4 g A (MQ below (qI cw g A z.1 z.2) args s 0 0 A) 0 0 30 [(0, .ref (g.2.2 0)), (2, .int x2)] [] σ := by
  obtain ⟨hx, hb, hr, hml, hown, hts, hK, hlocks, hXX, hA, hXo⟩ := id C
  intro H locs ls hP hD hS hl
  unfold f_X11_isSoBy_0_b30 at hf
  refine lv_iconst (v := (0 : Int32)) hx hb dX11_isSoBy_30 (by decide) ?_
  refine lv_istore_n (lv' := [(3, .int (0 : Int32)), (0, .ref (g.2.2 0)), (2, .int x2)]) hx hb dX11_isSoBy_31 rfl hl (by decide) rfl (fun ls hl => ?_)
  obtain ⟨z5, hz5, hf⟩ := bi_s hf
  refine lp_X11_isSoBy_0_h32 C hz5 ?_ H locs ls hP hD hS (lv_sub hl [1, 2, 0] rfl)
  intro H locs ls hP hD hS hl
  refine lv_aload_n hx hb dX11_isSoBy_70 rfl (lv_at hl 0 rfl) ?_
  refine bk_get (wf := cw) (q0 := 0) (ci := 10) (k := 4) (v := .ref (g.2.2 21)) C hP wl_X11 rfl rfl (by decide) wa_27 rfl rfl dX11_isSoBy_71 ?_
  refine bk_get (wf := cw) (q0 := 21) (ci := 1) (k := 2) (v := .ref (g.2.2 29)) C hP wl_X1 rfl rfl (by decide) wa_223 rfl rfl dX11_isSoBy_74 ?_
  refine lv_aload_n hx hb dX11_isSoBy_77 rfl (lv_at hl 0 rfl) ?_
  refine bk_get (wf := cw) (q0 := 0) (ci := 10) (k := 11) (v := .ref (g.2.2 63)) C hP wl_X11 rfl rfl (by decide) wa_44 rfl rfl dX11_isSoBy_78 ?_
  refine lv_iload_n hx hb dX11_isSoBy_81 rfl (lv_at hl 1 rfl) ?_
  obtain ⟨q6, hq6, hf⟩ := bi_s hf
  refine bk_VI (wf := cw) (q0 := 29) (ci := 5) (rest := []) [.ref (g.2.2 63), .int x2] C hP hD hS hl.1 (c_X5_agrees_29_63 hXo hq6) (cwA_V 2 hts wa_1292 wa_1289 wa_1290 wa_1291 wa_101 rfl rfl nd_X5_agrees ⟨Nat.le_of_ble_eq_true rfl, Nat.le_of_ble_eq_true rfl⟩) rfl rfl rfl rfl (Nat.le_of_ble_eq_true rfl) dX11_isSoBy_82 ⟨Nat.le_of_ble_eq_true rfl, Nat.le_of_ble_eq_true rfl⟩ (fun H locs hP hD hS => ?_)
  obtain ⟨g7, hf⟩ := gd_s hf
  cases hf
  exact bk_zret C hP hD hS (Decidable.not_not.mp g7) rfl dX11_isSoBy_85
def f_X11_isSoBy_0 (N : Nat) (x1 : Int32) (x2 : Int32) (σ : Sg) : Option (Int32 × Sg) :=
(f_X2_start_55_22 N σ).bind fun q8 =>
if x1 = (-1 : Int32) then (f_X11_isSoBy_0_b30 N x2 q8)
else ((f_X7_startNod_56 N x1 q8).bind fun q9 =>
f_X11_isSoBy_0_b30 N x2 q9)
set_option maxHeartbeats 4000000 in
set_option maxRecDepth 100000 in
theorem b_X11_isSoBy_0 {N : Nat} {x1 : Int32} {x2 : Int32} {σ : Sg} {z : Int32 × Sg} (C : Cx p s m args meth c cX11_isSoBy 4 (some .boolean) RX11 g A X) (hf : f_X11_isSoBy_0 N x1 x2 σ = some z) : Bk cw p l e rm_X11_isSoBy_0 s m args below meth c 4 g A (MQ below (qI cw g A z.1 z.2) args s 0 0 A) 0 0 0 [(0, .ref (g.2.2 0)), (1, .int x1), (2, .int x2)] [] σ := by
  obtain ⟨hx, hb, hr, hml, hown, hts, hK, hlocks, hXX, hA, hXo⟩ := id C
  intro H locs ls hP hD hS hl
  unfold f_X11_isSoBy_0 at hf
  refine lv_aload_n hx hb dX11_isSoBy_0 rfl (lv_at hl 0 rfl) ?_
  refine bk_get (wf := cw) (q0 := 0) (ci := 10) (k := 10) (v := .ref (g.2.2 55)) C hP wl_X11 rfl rfl (by decide) wa_42 rfl rfl dX11_isSoBy_1 ?_
  refine lv_aload_n hx hb dX11_isSoBy_4 rfl (lv_at hl 0 rfl) ?_
  refine bk_get (wf := cw) (q0 := 0) (ci := 10) (k := 4) (v := .ref (g.2.2 21)) C hP wl_X11 rfl rfl (by decide) wa_27 rfl rfl dX11_isSoBy_5 ?_
  refine bk_get (wf := cw) (q0 := 21) (ci := 1) (k := 0) (v := .ref (g.2.2 22)) C hP wl_X1 rfl rfl (by decide) wa_221 rfl rfl dX11_isSoBy_8 ?_
  obtain ⟨q8, hq8, hf⟩ := bi_s hf
  refine bk_VV (wf := cw) (q0 := 55) (ci := 2) (rest := []) [.ref (g.2.2 22)] C hP hD hS hl.1 (c_X2_start_55_22 hXo hq8) (cwA_V 1 hts wa_825 wa_822 wa_823 wa_824 wa_41 rfl rfl nd_X2_start ⟨Nat.le_of_ble_eq_true rfl, Nat.le_of_ble_eq_true rfl⟩) rfl rfl rfl rfl (Nat.le_of_ble_eq_true rfl) dX11_isSoBy_11 ⟨Nat.le_of_ble_eq_true rfl, Nat.le_of_ble_eq_true rfl⟩ (fun H locs hP hD hS => ?_)
  refine lv_iload_n hx hb dX11_isSoBy_14 rfl (lv_at hl 1 rfl) ?_
  refine lv_iconst (v := (-1 : Int32)) hx hb dX11_isSoBy_15 (by decide) ?_
  refine lv_icmp_eq (tgt := 30) hx hb dX11_isSoBy_16 (by decide) (fun t16 => ?_) (fun t16 => ?_)
  · have hf := (if_pos t16).symm.trans hf
    exact b_X11_isSoBy_0_b30 C hf H locs ls hP hD hS (lv_sub hl [0, 2] rfl)
  · have hf := (if_neg t16).symm.trans hf
    refine lv_aload_n hx hb dX11_isSoBy_19 rfl (lv_at hl 0 rfl) ?_
    refine bk_get (wf := cw) (q0 := 0) (ci := 10) (k := 10) (v := .ref (g.2.2 55)) C hP wl_X11 rfl rfl (by decide) wa_42 rfl rfl dX11_isSoBy_20 ?_
    refine bk_get (wf := cw) (q0 := 55) (ci := 2) (k := 0) (v := .ref (g.2.2 56)) C hP wl_X2 rfl rfl (by decide) wa_808 rfl rfl dX11_isSoBy_23 ?_
    refine lv_iload_n hx hb dX11_isSoBy_26 rfl (lv_at hl 1 rfl) ?_
    obtain ⟨q9, hq9, hf⟩ := bi_s hf
    refine bk_VV (wf := cw) (q0 := 56) (ci := 7) (rest := []) [.int x1] C hP hD hS hl.1 (c_X7_startNod_56 hXo hq9) (cwA_V 1 hts wa_930 wa_927 wa_928 wa_929 wa_93 rfl rfl nd_X7_startNod ⟨Nat.le_of_ble_eq_true rfl, Nat.le_of_ble_eq_true rfl⟩) rfl rfl rfl rfl (Nat.le_of_ble_eq_true rfl) dX11_isSoBy_27 ⟨Nat.le_of_ble_eq_true rfl, Nat.le_of_ble_eq_true rfl⟩ (fun H locs hP hD hS => ?_)
    exact b_X11_isSoBy_0_b30 C hf H locs ls hP hD hS (lv_sub hl [0, 2] rfl)
theorem c_X11_isSoBy_0 {N : Nat} {x1 : Int32} {x2 : Int32} {σ : Sg} {z : Int32 × Sg} (hX : xOK g X) (hf : f_X11_isSoBy_0 N x1 x2 σ = some z) : MetI l yX11_isSoBy (Cond.code yX11_isSoBy cX11_isSoBy 4 (some .boolean) :: wsA) rm_X11_isSoBy_0 cw g X [.ref (g.2.2 0), .int x1, .int x2] σ z.1 z.2 :=
  MetI_of hX (by decide) (Nat.le_of_ble_eq_true rfl) (fun p e s m args below meth c A C => b_X11_isSoBy_0 C hf)
-- X11_whoMayHaveBegun_0: whoMayHaveBegun()I
abbrev rm_X11_whoMayHaveBegun_0 : Room := { frames := 7, cells := 0, slots := 0, locals := 167 }
theorem nd_X11_whoMayHaveBegun : yX11_whoMayHaveBegun.cls ≠ "java/lang/invoke/MethodHandle" ∧ yX11_whoMayHaveBegun.cls ≠ "java/lang/invoke/VarHandle" ∧ (parseMethodDescriptor yX11_whoMayHaveBegun.desc).map (fun d => d.parameters.length) = some 0 := by decide +kernel
def f_X11_whoMayHaveBegun_0_b47 (N : Nat) (x1 : Int32) (x2 : Int32) (σ : Sg) : Option (Nat × Int32 × Int32 × Sg) :=
bd (x2 + (1 : Int32)) fun v1 =>
some (0, x1, v1, σ)
set_option maxHeartbeats 4000000 in
set_option maxRecDepth 100000 in
theorem b_X11_whoMayHaveBegun_0_b47 {N : Nat} {x1 : Int32} {x2 : Int32} {σ : Sg} {z : Nat × Int32 × Int32 × Sg} (C : Cx p s m args meth c cX11_whoMayHaveBegun 3 (some .int) RX11 g A X) (hf : f_X11_whoMayHaveBegun_0_b47 N x1 x2 σ = some z) (k0 : z.1 = 0 → Bk cw p l e rm_X11_whoMayHaveBegun_0 s m args below meth c 3 g A Q 0 0 4 [(0, .ref (g.2.2 0)), (1, .int z.2.1), (2, .int z.2.2.1)] [] z.2.2.2) (k : ¬ z.1 = 0 → Bk cw p l e rm_X11_whoMayHaveBegun_0 s m args below meth c 3 g A Q 0 0 53 [(1, .int z.2.1)] [] z.2.2.2) : Bk cw p l e rm_X11_whoMayHaveBegun_0 s m args below meth c 3 g A Q 0 0 47 [(0, .ref (g.2.2 0)), (1, .int x1), (2, .int x2)] [] σ := by
  obtain ⟨hx, hb, hr, hml, hown, hts, hK, hlocks, hXX, hA, hXo⟩ := id C
  intro H locs ls hP hD hS hl
  unfold f_X11_whoMayHaveBegun_0_b47 at hf
  obtain ⟨v1, ev1, hf⟩ := bd_s hf
  refine lv_iinc (v := v1) (lv' := [(2, .int v1), (0, .ref (g.2.2 0)), (1, .int x1)]) hx hb dX11_whoMayHaveBegun_47 hl (k := 2) rfl (by rw [ev1]; rfl) (by decide) rfl (fun ls hl => ?_)
  refine lv_goto (tgt := 4) hx hb dX11_whoMayHaveBegun_50 (by decide) ?_
  cases hf
  exact k0 rfl H locs ls hP hD hS (lv_sub hl [1, 2, 0] rfl)
def s_X11_whoMayHaveBegun_0_h4 (N : Nat) (x1 : Int32) (x2 : Int32) (σ : Sg) : Option (Nat × Int32 × Int32 × Sg) :=
if (σ 12 0) ≤ x2 then (some (1, x1, 0, σ))
else ((f_X7_sleeps_22 N x2 σ).bind fun q2 =>
if q2.1 = 0 then ((f_X11_isSoBy_0 N x2 (x2 * (20 : Int32)) (q2.2)).bind fun q3 =>
if q3.1 = 0 then (f_X11_whoMayHaveBegun_0_b47 N x1 x2 (q3.2))
else (bd (x1 ||| ((1 : Int32) <<< (x2 &&& 31))) fun v4 =>
f_X11_whoMayHaveBegun_0_b47 N v4 x2 (q3.2)))
else (f_X11_whoMayHaveBegun_0_b47 N x1 x2 (q2.2)))
set_option maxHeartbeats 4000000 in
set_option maxRecDepth 100000 in
theorem e_X11_whoMayHaveBegun_0_h4 {N : Nat} {x1 : Int32} {x2 : Int32} {σ : Sg} {z : Nat × Int32 × Int32 × Sg} (C : Cx p s m args meth c cX11_whoMayHaveBegun 3 (some .int) RX11 g A X) (hf : s_X11_whoMayHaveBegun_0_h4 N x1 x2 σ = some z) (k0 : z.1 = 0 → Bk cw p l e rm_X11_whoMayHaveBegun_0 s m args below meth c 3 g A Q 0 0 4 [(0, .ref (g.2.2 0)), (1, .int z.2.1), (2, .int z.2.2.1)] [] z.2.2.2) (k : ¬ z.1 = 0 → Bk cw p l e rm_X11_whoMayHaveBegun_0 s m args below meth c 3 g A Q 0 0 53 [(1, .int z.2.1)] [] z.2.2.2) : Bk cw p l e rm_X11_whoMayHaveBegun_0 s m args below meth c 3 g A Q 0 0 4 [(0, .ref (g.2.2 0)), (1, .int x1), (2, .int x2)] [] σ := by
  obtain ⟨hx, hb, hr, hml, hown, hts, hK, hlocks, hXX, hA, hXo⟩ := id C
  intro H locs ls hP hD hS hl
  unfold s_X11_whoMayHaveBegun_0_h4 at hf
  refine lv_iload_n hx hb dX11_whoMayHaveBegun_4 rfl (lv_at hl 2 rfl) ?_
  refine lv_aload_n hx hb dX11_whoMayHaveBegun_5 rfl (lv_at hl 0 rfl) ?_
  refine bk_get (wf := cw) (q0 := 0) (ci := 10) (k := 3) (v := .ref (g.2.2 12)) C hP wl_X11 rfl rfl (by decide) wa_23 rfl rfl dX11_whoMayHaveBegun_6 ?_
  refine bk_get (wf := cw) (q0 := 12) (ci := 8) (k := 0) (v := .int (σ 12 0)) C hP wl_X9 rfl rfl (by decide) wa_644 rfl rfl dX11_whoMayHaveBegun_9 ?_
  refine lv_icmp_ge (tgt := 53) hx hb dX11_whoMayHaveBegun_12 (by decide) (fun t12 => ?_) (fun t12 => ?_)
  · have hf := (if_pos t12).symm.trans hf
    cases hf
    exact (k (show ¬ (1 : Nat) = 0 by decide)) H locs ls hP hD hS (lv_sub hl [1] rfl)
  · have hf := (if_neg t12).symm.trans hf
    refine lv_aload_n hx hb dX11_whoMayHaveBegun_15 rfl (lv_at hl 0 rfl) ?_
    refine bk_get (wf := cw) (q0 := 0) (ci := 10) (k := 4) (v := .ref (g.2.2 21)) C hP wl_X11 rfl rfl (by decide) wa_27 rfl rfl dX11_whoMayHaveBegun_16 ?_
    refine bk_get (wf := cw) (q0 := 21) (ci := 1) (k := 0) (v := .ref (g.2.2 22)) C hP wl_X1 rfl rfl (by decide) wa_221 rfl rfl dX11_whoMayHaveBegun_19 ?_
    refine lv_iload_n hx hb dX11_whoMayHaveBegun_22 rfl (lv_at hl 2 rfl) ?_
    obtain ⟨q2, hq2, hf⟩ := bi_s hf
    refine bk_VI (wf := cw) (q0 := 22) (ci := 7) (rest := []) [.int x2] C hP hD hS hl.1 (c_X7_sleeps_22 hXo hq2) (cwA_V 1 hts wa_926 wa_923 wa_924 wa_925 wa_93 rfl rfl nd_X7_sleeps ⟨Nat.le_of_ble_eq_true rfl, Nat.le_of_ble_eq_true rfl⟩) rfl rfl rfl rfl (Nat.le_of_ble_eq_true rfl) dX11_whoMayHaveBegun_23 ⟨Nat.le_of_ble_eq_true rfl, Nat.le_of_ble_eq_true rfl⟩ (fun H locs hP hD hS => ?_)
    refine lv_if_ne (tgt := 47) hx hb dX11_whoMayHaveBegun_26 (by decide) (fun t26 => ?_) (fun t26 => ?_)
    · have hf := (if_neg t26).symm.trans hf
      exact b_X11_whoMayHaveBegun_0_b47 C hf k0 k H locs ls hP hD hS (lv_sub hl [0, 1, 2] rfl)
    · have hf := (if_pos t26).symm.trans hf
      refine lv_aload_n hx hb dX11_whoMayHaveBegun_29 rfl (lv_at hl 0 rfl) ?_
      refine lv_iload_n hx hb dX11_whoMayHaveBegun_30 rfl (lv_at hl 2 rfl) ?_
      refine lv_iload_n hx hb dX11_whoMayHaveBegun_31 rfl (lv_at hl 2 rfl) ?_
      refine lv_bipush (v := (20 : Int32)) hx hb dX11_whoMayHaveBegun_32 (by decide) ?_
      refine lv_imul hx hb dX11_whoMayHaveBegun_34 ?_
      obtain ⟨q3, hq3, hf⟩ := bi_s hf
      refine bk_VI (wf := cw) (q0 := 0) (ci := 10) (rest := []) [.int x2, .int (x2 * (20 : Int32))] C hP hD hS hl.1 (c_X11_isSoBy_0 hXo hq3) (cwA_V 2 hts wa_1288 wa_1285 wa_1286 wa_1287 wa_2 rfl rfl nd_X11_isSoBy ⟨Nat.le_of_ble_eq_true rfl, Nat.le_of_ble_eq_true rfl⟩) rfl rfl rfl rfl (Nat.le_of_ble_eq_true rfl) dX11_whoMayHaveBegun_35 ⟨Nat.le_of_ble_eq_true rfl, Nat.le_of_ble_eq_true rfl⟩ (fun H locs hP hD hS => ?_)
      refine lv_if_eq (tgt := 47) hx hb dX11_whoMayHaveBegun_38 (by decide) (fun t38 => ?_) (fun t38 => ?_)
      · have hf := (if_pos t38).symm.trans hf
        exact b_X11_whoMayHaveBegun_0_b47 C hf k0 k H locs ls hP hD hS (lv_sub hl [0, 1, 2] rfl)
      · have hf := (if_neg t38).symm.trans hf
        refine lv_iload_n hx hb dX11_whoMayHaveBegun_41 rfl (lv_at hl 1 rfl) ?_
        refine lv_iconst (v := (1 : Int32)) hx hb dX11_whoMayHaveBegun_42 (by decide) ?_
        refine lv_iload_n hx hb dX11_whoMayHaveBegun_43 rfl (lv_at hl 2 rfl) ?_
        refine lv_ishl hx hb dX11_whoMayHaveBegun_44 ?_
        refine lv_ior hx hb dX11_whoMayHaveBegun_45 ?_
        obtain ⟨v4, ev4, hf⟩ := bd_s hf
        rw [← ev4]
        refine lv_istore_n (lv' := [(1, .int v4), (0, .ref (g.2.2 0)), (2, .int x2)]) hx hb dX11_whoMayHaveBegun_46 rfl hl (by decide) rfl (fun ls hl => ?_)
        exact b_X11_whoMayHaveBegun_0_b47 C hf k0 k H locs ls hP hD hS (lv_sub hl [1, 0, 2] rfl)
theorem lp_X11_whoMayHaveBegun_0_h4 {N : Nat} {n : Nat} {x1 : Int32} {x2 : Int32} {σ : Sg} {z : Nat × Int32 × Int32 × Sg} (C : Cx p s m args meth c cX11_whoMayHaveBegun 3 (some .int) RX11 g A X) (hz : it (fun q => s_X11_whoMayHaveBegun_0_h4 N q.1 q.2.1 q.2.2) n (x1, x2, σ) = some z) (k : Bk cw p l e rm_X11_whoMayHaveBegun_0 s m args below meth c 3 g A Q 0 0 53 [(1, .int z.2.1)] [] z.2.2.2) : Bk cw p l e rm_X11_whoMayHaveBegun_0 s m args below meth c 3 g A Q 0 0 4 [(0, .ref (g.2.2 0)), (1, .int x1), (2, .int x2)] [] σ :=
  it_W (S := Int32 × Int32 × Sg) (fun q => Bk cw p l e rm_X11_whoMayHaveBegun_0 s m args below meth c 3 g A Q 0 0 4 [(0, .ref (g.2.2 0)), (1, .int q.1), (2, .int q.2.1)] [] q.2.2) (fun z => Bk cw p l e rm_X11_whoMayHaveBegun_0 s m args below meth c 3 g A Q 0 0 53 [(1, .int z.2.1)] [] z.2.2.2) (fun q z hq k0 k => e_X11_whoMayHaveBegun_0_h4 C hq k0 k) n (x1, x2, σ) z hz k
def f_X11_whoMayHaveBegun_0 (N : Nat) (σ : Sg) : Option (Int32 × Sg) :=
(it (fun q => s_X11_whoMayHaveBegun_0_h4 N q.1 q.2.1 q.2.2) N ((0 : Int32), (0 : Int32), σ)).bind fun z5 =>
some ((z5.2.1), (z5.2.2.2))
set_option maxHeartbeats 4000000 in
set_option maxRecDepth 100000 in
theorem b_X11_whoMayHaveBegun_0 {N : Nat} {σ : Sg} {z : Int32 × Sg} (C : Cx p s m args meth c cX11_whoMayHaveBegun 3 (some .int) RX11 g A X) (hf : f_X11_whoMayHaveBegun_0 N σ = some z) : Bk cw p l e rm_X11_whoMayHaveBegun_0 s m args below meth c 3 g A (MQ below (qI cw g A z.1 z.2) args s 0 0 A) 0 0 0 [(0, .ref (g.2.2 0))] [] σ := by
  obtain ⟨hx, hb, hr, hml, hown, hts, hK, hlocks, hXX, hA, hXo⟩ := id C
  intro H locs ls hP hD hS hl
  unfold f_X11_whoMayHaveBegun_0 at hf
  refine lv_iconst (v := (0 : Int32)) hx hb dX11_whoMayHaveBegun_0 (by decide) ?_
  refine lv_istore_n (lv' := [(1, .int (0 : Int32)), (0, .ref (g.2.2 0))]) hx hb dX11_whoMayHaveBegun_1 rfl hl (by decide) rfl (fun ls hl => ?_)
  refine lv_iconst (v := (0 : Int32)) hx hb dX11_whoMayHaveBegun_2 (by decide) ?_
  refine lv_istore_n (lv' := [(2, .int (0 : Int32)), (1, .int (0 : Int32)), (0, .ref (g.2.2 0))]) hx hb dX11_whoMayHaveBegun_3 rfl hl (by decide) rfl (fun ls hl => ?_)
  obtain ⟨z5, hz5, hf⟩ := bi_s hf
  refine lp_X11_whoMayHaveBegun_0_h4 C hz5 ?_ H locs ls hP hD hS (lv_sub hl [2, 1, 0] rfl)
  intro H locs ls hP hD hS hl
  refine lv_iload_n hx hb dX11_whoMayHaveBegun_53 rfl (lv_at hl 0 rfl) ?_
  cases hf
  exact bk_iret C hP hD hS rfl dX11_whoMayHaveBegun_54
theorem c_X11_whoMayHaveBegun_0 {N : Nat} {σ : Sg} {z : Int32 × Sg} (hX : xOK g X) (hf : f_X11_whoMayHaveBegun_0 N σ = some z) : MetI l yX11_whoMayHaveBegun (Cond.code yX11_whoMayHaveBegun cX11_whoMayHaveBegun 3 (some .int) :: wsA) rm_X11_whoMayHaveBegun_0 cw g X [.ref (g.2.2 0)] σ z.1 z.2 :=
  MetI_of hX (by decide) (Nat.le_of_ble_eq_true rfl) (fun p e s m args below meth c A C => b_X11_whoMayHaveBegun_0 C hf)
-- X11_leastOf_0: leastOf(I)I
abbrev rm_X11_leastOf_0 : Room := { frames := 0, cells := 0, slots := 0, locals := 0 }
theorem nd_X11_leastOf : yX11_leastOf.cls ≠ "java/lang/invoke/MethodHandle" ∧ yX11_leastOf.cls ≠ "java/lang/invoke/VarHandle" ∧ (parseMethodDescriptor yX11_leastOf.desc).map (fun d => d.parameters.length) = some 1 := by decide +kernel
def s_X11_leastOf_0_h2 (N : Nat) (x1 : Int32) (x2 : Int32) (σ : Sg) : Option (Nat × Int32 × Sg) :=
if (σ 12 0) ≤ x2 then (some (2, 0, σ))
else (if ((x1 >>> (x2 &&& 31)) &&& (1 : Int32)) = (1 : Int32) then (some (1, x2, σ))
else (bd (x2 + (1 : Int32)) fun v1 =>
some (0, v1, σ)))
set_option maxHeartbeats 4000000 in
set_option maxRecDepth 100000 in
theorem e_X11_leastOf_0_h2 {N : Nat} {x1 : Int32} {x2 : Int32} {σ : Sg} {z : Nat × Int32 × Sg} (C : Cx p s m args meth c cX11_leastOf 3 (some .int) RX11 g A X) (hf : s_X11_leastOf_0_h2 N x1 x2 σ = some z) (k0 : z.1 = 0 → Bk cw p l e rm_X11_leastOf_0 s m args below meth c 3 g A Q 0 0 2 [(0, .ref (g.2.2 0)), (1, .int x1), (2, .int z.2.1)] [] z.2.2) (k : ¬ z.1 = 0 → ((z.1 = 1 → Bk cw p l e rm_X11_leastOf_0 s m args below meth c 3 g A Q 0 0 22 [(2, .int z.2.1)] [] z.2.2) ∧ (¬ z.1 = 1 → Bk cw p l e rm_X11_leastOf_0 s m args below meth c 3 g A Q 0 0 30 [] [] z.2.2))) : Bk cw p l e rm_X11_leastOf_0 s m args below meth c 3 g A Q 0 0 2 [(0, .ref (g.2.2 0)), (1, .int x1), (2, .int x2)] [] σ := by
  obtain ⟨hx, hb, hr, hml, hown, hts, hK, hlocks, hXX, hA, hXo⟩ := id C
  intro H locs ls hP hD hS hl
  unfold s_X11_leastOf_0_h2 at hf
  refine lv_iload_n hx hb dX11_leastOf_2 rfl (lv_at hl 2 rfl) ?_
  refine lv_aload_n hx hb dX11_leastOf_3 rfl (lv_at hl 0 rfl) ?_
  refine bk_get (wf := cw) (q0 := 0) (ci := 10) (k := 3) (v := .ref (g.2.2 12)) C hP wl_X11 rfl rfl (by decide) wa_23 rfl rfl dX11_leastOf_4 ?_
  refine bk_get (wf := cw) (q0 := 12) (ci := 8) (k := 0) (v := .int (σ 12 0)) C hP wl_X9 rfl rfl (by decide) wa_644 rfl rfl dX11_leastOf_7 ?_
  refine lv_icmp_ge (tgt := 30) hx hb dX11_leastOf_10 (by decide) (fun t10 => ?_) (fun t10 => ?_)
  · have hf := (if_pos t10).symm.trans hf
    cases hf
    exact ((k (show ¬ (2 : Nat) = 0 by decide)).2 (show ¬ (2 : Nat) = 1 by decide)) H locs ls hP hD hS (lv_sub hl [] rfl)
  · have hf := (if_neg t10).symm.trans hf
    refine lv_iload_n hx hb dX11_leastOf_13 rfl (lv_at hl 1 rfl) ?_
    refine lv_iload_n hx hb dX11_leastOf_14 rfl (lv_at hl 2 rfl) ?_
    refine lv_ishr hx hb dX11_leastOf_15 ?_
    refine lv_iconst (v := (1 : Int32)) hx hb dX11_leastOf_16 (by decide) ?_
    refine lv_iand hx hb dX11_leastOf_17 ?_
    refine lv_iconst (v := (1 : Int32)) hx hb dX11_leastOf_18 (by decide) ?_
    refine lv_icmp_ne (tgt := 24) hx hb dX11_leastOf_19 (by decide) (fun t19 => ?_) (fun t19 => ?_)
    · have hf := (if_neg t19).symm.trans hf
      obtain ⟨v1, ev1, hf⟩ := bd_s hf
      refine lv_iinc (v := v1) (lv' := [(2, .int v1), (0, .ref (g.2.2 0)), (1, .int x1)]) hx hb dX11_leastOf_24 hl (k := 2) rfl (by rw [ev1]; rfl) (by decide) rfl (fun ls hl => ?_)
      refine lv_goto (tgt := 2) hx hb dX11_leastOf_27 (by decide) ?_
      cases hf
      exact k0 rfl H locs ls hP hD hS (lv_sub hl [1, 2, 0] rfl)
    · have hf := (if_pos t19).symm.trans hf
      cases hf
      exact ((k (show ¬ (1 : Nat) = 0 by decide)).1 rfl) H locs ls hP hD hS (lv_sub hl [2] rfl)
theorem lp_X11_leastOf_0_h2 {N : Nat} {n : Nat} {x1 : Int32} {x2 : Int32} {σ : Sg} {z : Nat × Int32 × Sg} (C : Cx p s m args meth c cX11_leastOf 3 (some .int) RX11 g A X) (hz : it (fun q => s_X11_leastOf_0_h2 N x1 q.1 q.2) n (x2, σ) = some z) (k : ((z.1 = 1 → Bk cw p l e rm_X11_leastOf_0 s m args below meth c 3 g A Q 0 0 22 [(2, .int z.2.1)] [] z.2.2) ∧ (¬ z.1 = 1 → Bk cw p l e rm_X11_leastOf_0 s m args below meth c 3 g A Q 0 0 30 [] [] z.2.2))) : Bk cw p l e rm_X11_leastOf_0 s m args below meth c 3 g A Q 0 0 2 [(0, .ref (g.2.2 0)), (1, .int x1), (2, .int x2)] [] σ :=
  it_W (S := Int32 × Sg) (fun q => Bk cw p l e rm_X11_leastOf_0 s m args below meth c 3 g A Q 0 0 2 [(0, .ref (g.2.2 0)), (1, .int x1), (2, .int q.1)] [] q.2) (fun z => ((z.1 = 1 → Bk cw p l e rm_X11_leastOf_0 s m args below meth c 3 g A Q 0 0 22 [(2, .int z.2.1)] [] z.2.2) ∧ (¬ z.1 = 1 → Bk cw p l e rm_X11_leastOf_0 s m args below meth c 3 g A Q 0 0 30 [] [] z.2.2))) (fun q z hq k0 k => e_X11_leastOf_0_h2 C hq k0 k) n (x2, σ) z hz k
def f_X11_leastOf_0 (N : Nat) (x1 : Int32) (σ : Sg) : Option (Int32 × Sg) :=
(it (fun q => s_X11_leastOf_0_h2 N x1 q.1 q.2) N ((0 : Int32), σ)).bind fun z2 =>
if z2.1 = 1 then (some ((z2.2.1), (z2.2.2)))
else (some ((-1 : Int32), (z2.2.2)))
set_option maxHeartbeats 4000000 in
set_option maxRecDepth 100000 in
theorem b_X11_leastOf_0 {N : Nat} {x1 : Int32} {σ : Sg} {z : Int32 × Sg} (C : Cx p s m args meth c cX11_leastOf 3 (some .int) RX11 g A X) (hf : f_X11_leastOf_0 N x1 σ = some z) : Bk cw p l e rm_X11_leastOf_0 s m args below meth c 3 g A (MQ below (qI cw g A z.1 z.2) args s 0 0 A) 0 0 0 [(0, .ref (g.2.2 0)), (1, .int x1)] [] σ := by
  obtain ⟨hx, hb, hr, hml, hown, hts, hK, hlocks, hXX, hA, hXo⟩ := id C
  intro H locs ls hP hD hS hl
  unfold f_X11_leastOf_0 at hf
  refine lv_iconst (v := (0 : Int32)) hx hb dX11_leastOf_0 (by decide) ?_
  refine lv_istore_n (lv' := [(2, .int (0 : Int32)), (0, .ref (g.2.2 0)), (1, .int x1)]) hx hb dX11_leastOf_1 rfl hl (by decide) rfl (fun ls hl => ?_)
  obtain ⟨z2, hz2, hf⟩ := bi_s hf
  refine lp_X11_leastOf_0_h2 C hz2 ⟨fun t0 => ?_, fun t0 => ?_⟩ H locs ls hP hD hS (lv_sub hl [1, 2, 0] rfl)
  · have hf := (if_pos t0).symm.trans hf
    intro H locs ls hP hD hS hl
    refine lv_iload_n hx hb dX11_leastOf_22 rfl (lv_at hl 0 rfl) ?_
    cases hf
    exact bk_iret C hP hD hS rfl dX11_leastOf_23
  · have hf := (if_neg t0).symm.trans hf
    intro H locs ls hP hD hS hl
    refine lv_iconst (v := (-1 : Int32)) hx hb dX11_leastOf_30 (by decide) ?_
    cases hf
    exact bk_iret C hP hD hS rfl dX11_leastOf_31
theorem c_X11_leastOf_0 {N : Nat} {x1 : Int32} {σ : Sg} {z : Int32 × Sg} (hX : xOK g X) (hf : f_X11_leastOf_0 N x1 σ = some z) : MetI l yX11_leastOf (Cond.code yX11_leastOf cX11_leastOf 3 (some .int) :: wsA) rm_X11_leastOf_0 cw g X [.ref (g.2.2 0), .int x1] σ z.1 z.2 :=
  MetI_of hX (by decide) (Nat.le_of_ble_eq_true rfl) (fun p e s m args below meth c A C => b_X11_leastOf_0 C hf)
-- X11_begun_0: begun(I)I
abbrev rm_X11_begun_0 : Room := { frames := 8, cells := 1, slots := 6, locals := 189 }
theorem nd_X11_begun : yX11_begun.cls ≠ "java/lang/invoke/MethodHandle" ∧ yX11_begun.cls ≠ "java/lang/invoke/VarHandle" ∧ (parseMethodDescriptor yX11_begun.desc).map (fun d => d.parameters.length) = some 1 := by decide +kernel
def f_X11_begun_0 (N : Nat) (x1 : Int32) (σ : Sg) : Option (Zt) :=
(f_X11_needWhat N x1 (2 : Int32) σ).bind fun q1 =>
if q1.1 = 0 then (if x1 = (2 : Int32) then ((f_X11_isSoBy_0 N (-1 : Int32) (0 : Int32) (q1.2.2)).bind fun q6 =>
if q6.1 = 0 then (some (0, (0 : Int32), (q6.2)))
else (some (0, (1 : Int32), (q6.2))))
else ((f_X11_whoMayHaveBegun_0 N (q1.2.2)).bind fun q2 =>
bd q2.1 fun v3 =>
if x1 = 0 then ((f_J6_bitCount_0f7a4 N v3 (q2.2)).bind fun q5 =>
some (0, q5.1, (q5.2)))
else ((f_X11_leastOf_0 N v3 (q2.2)).bind fun q4 =>
some (0, q4.1, (q4.2)))))
else some (q1.1, 0, q1.2.2)
set_option maxHeartbeats 4000000 in
set_option maxRecDepth 100000 in
theorem b_X11_begun_0 {N : Nat} {x1 : Int32} {σ : Sg} {z : Zt} (C : Cx p s m args meth c cX11_begun 3 (some .int) RX11 g A X) (hex : ∀ x ∈ c.exceptionTable.toList, False) (hst : l.stackTraces = false) (hf : f_X11_begun_0 N x1 σ = some z) : Bk cw p l e rm_X11_begun_0 s m args below meth c 3 g A (vx_MQ below (qTi cw g A z) (xT cw g A z) args s 1 6 A) 0 0 0 [(0, .ref (g.2.2 0)), (1, .int x1)] [] σ := by
  obtain ⟨hx, hb, hr, hml, hown, hts, hK, hlocks, hXX, hA, hXo⟩ := id C
  intro H locs ls hP hD hS hl
  unfold f_X11_begun_0 at hf
  refine lv_iload_n hx hb dX11_begun_0 rfl (lv_at hl 1 rfl) ?_
  refine lv_iconst (v := (2 : Int32)) hx hb dX11_begun_1 (by decide) ?_
  obtain ⟨q1, hq1, hf⟩ := bi_s hf
  refine bk_TS (wf := cw) (rest := []) [.int x1, .int (2 : Int32)] C hex hP hD hS hl.1 (c_X11_needWhat hXo hst hq1) (cwA_S 2 hts wa_1035 wa_1033 wa_1034 wa_2 rfl rfl nd_X11_needWhat ⟨Nat.le_of_ble_eq_true rfl, Nat.le_of_ble_eq_true rfl⟩) rfl rfl (Nat.le_of_ble_eq_true rfl) dX11_begun_2 ⟨Nat.le_of_ble_eq_true rfl, Nat.le_of_ble_eq_true rfl⟩ ⟨Nat.le_of_ble_eq_true rfl, Nat.le_of_ble_eq_true rfl⟩ (fun h0 => by have hf := (if_neg h0).symm.trans hf; cases hf; exact ⟨rfl, rfl⟩) (fun h0 H locs hP hD hS => ?_)
  have hf := (if_pos h0).symm.trans hf
  refine lv_iload_n hx hb dX11_begun_5 rfl (lv_at hl 1 rfl) ?_
  refine lv_iconst (v := (2 : Int32)) hx hb dX11_begun_6 (by decide) ?_
  refine lv_icmp_ne (tgt := 25) hx hb dX11_begun_7 (by decide) (fun t7 => ?_) (fun t7 => ?_)
  · have hf := (if_neg t7).symm.trans hf
    refine lv_aload_n hx hb dX11_begun_25 rfl (lv_at hl 0 rfl) ?_
    obtain ⟨q2, hq2, hf⟩ := bi_s hf
    refine bk_VI (wf := cw) (q0 := 0) (ci := 10) (rest := []) [] C hP hD hS hl.1 (c_X11_whoMayHaveBegun_0 hXo hq2) (cwA_V 0 hts wa_1296 wa_1293 wa_1294 wa_1295 wa_2 rfl rfl nd_X11_whoMayHaveBegun ⟨Nat.le_of_ble_eq_true rfl, Nat.le_of_ble_eq_true rfl⟩) rfl rfl rfl rfl (Nat.le_of_ble_eq_true rfl) dX11_begun_26 ⟨Nat.le_of_ble_eq_true rfl, Nat.le_of_ble_eq_true rfl⟩ (fun H locs hP hD hS => ?_)
    obtain ⟨v3, ev3, hf⟩ := bd_s hf
    rw [← ev3]
    refine lv_istore_n (lv' := [(2, .int v3), (0, .ref (g.2.2 0)), (1, .int x1)]) hx hb dX11_begun_29 rfl hl (by decide) rfl (fun ls hl => ?_)
    refine lv_iload_n hx hb dX11_begun_30 rfl (lv_at hl 2 rfl) ?_
    refine lv_if_ne (tgt := 39) hx hb dX11_begun_31 (by decide) (fun t31 => ?_) (fun t31 => ?_)
    · have hf := (if_neg t31).symm.trans hf
      refine lv_aload_n hx hb dX11_begun_39 rfl (lv_at hl 1 rfl) ?_
      refine lv_iload_n hx hb dX11_begun_40 rfl (lv_at hl 0 rfl) ?_
      obtain ⟨q4, hq4, hf⟩ := bi_s hf
      refine bk_VI (wf := cw) (q0 := 0) (ci := 10) (rest := []) [.int v3] C hP hD hS hl.1 (c_X11_leastOf_0 hXo hq4) (cwA_V 1 hts wa_1300 wa_1297 wa_1298 wa_1299 wa_2 rfl rfl nd_X11_leastOf ⟨Nat.le_of_ble_eq_true rfl, Nat.le_of_ble_eq_true rfl⟩) rfl rfl rfl rfl (Nat.le_of_ble_eq_true rfl) dX11_begun_41 ⟨Nat.le_of_ble_eq_true rfl, Nat.le_of_ble_eq_true rfl⟩ (fun H locs hP hD hS => ?_)
      exact bk_iretT C hP hD hS hf (Nat.le_of_ble_eq_true rfl) (Nat.le_of_ble_eq_true rfl) dX11_begun_44
    · have hf := (if_pos t31).symm.trans hf
      refine lv_iload_n hx hb dX11_begun_34 rfl (lv_at hl 0 rfl) ?_
      obtain ⟨q5, hq5, hf⟩ := bi_s hf
      refine bk_SI (wf := cw) (rest := []) [.int v3] C hP hD hS hl.1 (c_J6_bitCount_0f7a4 hXo hq5) (cwA_S 1 hts wa_699 wa_1071 wa_697 wa_698 rfl rfl nd_J6_bitCount_0f7a4 ⟨Nat.le_of_ble_eq_true rfl, Nat.le_of_ble_eq_true rfl⟩) rfl rfl (Nat.le_of_ble_eq_true rfl) dX11_begun_35 ⟨Nat.le_of_ble_eq_true rfl, Nat.le_of_ble_eq_true rfl⟩ (fun H locs hP hD hS => ?_)
      exact bk_iretT C hP hD hS hf (Nat.le_of_ble_eq_true rfl) (Nat.le_of_ble_eq_true rfl) dX11_begun_38
  · have hf := (if_pos t7).symm.trans hf
    refine lv_aload_n hx hb dX11_begun_10 rfl (lv_at hl 0 rfl) ?_
    refine lv_iconst (v := (-1 : Int32)) hx hb dX11_begun_11 (by decide) ?_
    refine lv_iconst (v := (0 : Int32)) hx hb dX11_begun_12 (by decide) ?_
    obtain ⟨q6, hq6, hf⟩ := bi_s hf
    refine bk_VI (wf := cw) (q0 := 0) (ci := 10) (rest := []) [.int (-1 : Int32), .int (0 : Int32)] C hP hD hS hl.1 (c_X11_isSoBy_0 hXo hq6) (cwA_V 2 hts wa_1288 wa_1285 wa_1286 wa_1287 wa_2 rfl rfl nd_X11_isSoBy ⟨Nat.le_of_ble_eq_true rfl, Nat.le_of_ble_eq_true rfl⟩) rfl rfl rfl rfl (Nat.le_of_ble_eq_true rfl) dX11_begun_13 ⟨Nat.le_of_ble_eq_true rfl, Nat.le_of_ble_eq_true rfl⟩ (fun H locs hP hD hS => ?_)
    refine lv_if_eq (tgt := 23) hx hb dX11_begun_16 (by decide) (fun t16 => ?_) (fun t16 => ?_)
    · have hf := (if_pos t16).symm.trans hf
      refine lv_iconst (v := (0 : Int32)) hx hb dX11_begun_23 (by decide) ?_
      exact bk_iretT C hP hD hS hf (Nat.le_of_ble_eq_true rfl) (Nat.le_of_ble_eq_true rfl) dX11_begun_24
    · have hf := (if_neg t16).symm.trans hf
      refine lv_iconst (v := (1 : Int32)) hx hb dX11_begun_19 (by decide) ?_
      refine lv_goto (tgt := 24) hx hb dX11_begun_20 (by decide) ?_
      exact bk_iretT C hP hD hS hf (Nat.le_of_ble_eq_true rfl) (Nat.le_of_ble_eq_true rfl) dX11_begun_24
theorem c_X11_begun_0 {N : Nat} {x1 : Int32} {σ : Sg} {z : Zt} (hX : xOK g X) (hst : l.stackTraces = false) (hf : f_X11_begun_0 N x1 σ = some z) : MetTi l yX11_begun (Cond.code yX11_begun cX11_begun 3 (some .int) :: wsA) rm_X11_begun_0 1 6 cw g X [.ref (g.2.2 0), .int x1] σ z :=
  MetTi_of hX (by decide) (Nat.le_of_ble_eq_true rfl) (fun p e s m args below meth c A C hex => b_X11_begun_0 C hex hst hf)
-- X11_isForeseenBefore_0: isForeseenBefore(III)Z
abbrev rm_X11_isForeseenBefore_0 : Room := { frames := 0, cells := 0, slots := 0, locals := 0 }
theorem nd_X11_isForeseenBefore : yX11_isForeseenBefore.cls ≠ "java/lang/invoke/MethodHandle" ∧ yX11_isForeseenBefore.cls ≠ "java/lang/invoke/VarHandle" ∧ (parseMethodDescriptor yX11_isForeseenBefore.desc).map (fun d => d.parameters.length) = some 3 := by decide +kernel
def f_X11_isForeseenBefore_0_b55 (N : Nat) (x1 : Int32) (x2 : Int32) (x3 : Int32) (x4 : Int32) (x5 : Int32) (σ : Sg) : Option (Nat × Int32 × Sg) :=
bd (x5 + (1 : Int32)) fun v1 =>
some (0, v1, σ)
set_option maxHeartbeats 4000000 in
set_option maxRecDepth 100000 in
theorem b_X11_isForeseenBefore_0_b55 {N : Nat} {x1 : Int32} {x2 : Int32} {x3 : Int32} {x4 : Int32} {x5 : Int32} {σ : Sg} {z : Nat × Int32 × Sg} (C : Cx p s m args meth c cX11_isForeseenBefore 6 (some .boolean) RX11 g A X) (hf : f_X11_isForeseenBefore_0_b55 N x1 x2 x3 x4 x5 σ = some z) (k0 : z.1 = 0 → Bk cw p l e rm_X11_isForeseenBefore_0 s m args below meth c 6 g A Q 0 0 18 [(0, .ref (g.2.2 0)), (1, .int x1), (2, .int x2), (3, .int x3), (4, .int x4), (5, .int z.2.1)] [] z.2.2) (k : ¬ z.1 = 0 → ((z.1 = 1 → Bk cw p l e rm_X11_isForeseenBefore_0 s m args below meth c 6 g A Q 0 0 53 [] [] z.2.2) ∧ (¬ z.1 = 1 → Bk cw p l e rm_X11_isForeseenBefore_0 s m args below meth c 6 g A Q 0 0 61 [] [] z.2.2))) : Bk cw p l e rm_X11_isForeseenBefore_0 s m args below meth c 6 g A Q 0 0 55 [(0, .ref (g.2.2 0)), (1, .int x1), (2, .int x2), (3, .int x3), (4, .int x4), (5, .int x5)] [] σ := by
  obtain ⟨hx, hb, hr, hml, hown, hts, hK, hlocks, hXX, hA, hXo⟩ := id C
  intro H locs ls hP hD hS hl
  unfold f_X11_isForeseenBefore_0_b55 at hf
  obtain ⟨v1, ev1, hf⟩ := bd_s hf
  refine lv_iinc (v := v1) (lv' := [(5, .int v1), (0, .ref (g.2.2 0)), (1, .int x1), (2, .int x2), (3, .int x3), (4, .int x4)]) hx hb dX11_isForeseenBefore_55 hl (k := 5) rfl (by rw [ev1]; rfl) (by decide) rfl (fun ls hl => ?_)
  refine lv_goto (tgt := 18) hx hb dX11_isForeseenBefore_58 (by decide) ?_
  cases hf
  exact k0 rfl H locs ls hP hD hS (lv_sub hl [1, 2, 3, 4, 5, 0] rfl)
def s_X11_isForeseenBefore_0_h18 (N : Nat) (x1 : Int32) (x2 : Int32) (x3 : Int32) (x4 : Int32) (x5 : Int32) (σ : Sg) : Option (Nat × Int32 × Sg) :=
if x2 ≤ x5 then (some (2, 0, σ))
else (if ((x1 >>> (x5 &&& 31)) &&& (1 : Int32)) = (1 : Int32) then (if ((((x5 * (20 : Int32)) + x3) - (1 : Int32)) < 0 ∨ 200 ≤ (((x5 * (20 : Int32)) + x3) - (1 : Int32)).toNatClampNeg) then none else
if (σ 63 (((x5 * (20 : Int32)) + x3) - (1 : Int32)).toNatClampNeg) = x4 then (some (1, 0, σ))
else (f_X11_isForeseenBefore_0_b55 N x1 x2 x3 x4 x5 σ))
else (f_X11_isForeseenBefore_0_b55 N x1 x2 x3 x4 x5 σ))
set_option maxHeartbeats 4000000 in
set_option maxRecDepth 100000 in
theorem e_X11_isForeseenBefore_0_h18 {N : Nat} {x1 : Int32} {x2 : Int32} {x3 : Int32} {x4 : Int32} {x5 : Int32} {σ : Sg} {z : Nat × Int32 × Sg} (C : Cx p s m args meth c cX11_isForeseenBefore 6 (some .boolean) RX11 g A X) (hf : s_X11_isForeseenBefore_0_h18 N x1 x2 x3 x4 x5 σ = some z) (k0 : z.1 = 0 → Bk cw p l e rm_X11_isForeseenBefore_0 s m args below meth c 6 g A Q 0 0 18 [(0, .ref (g.2.2 0)), (1, .int x1), (2, .int x2), (3, .int x3), (4, .int x4), (5, .int z.2.1)] [] z.2.2) (k : ¬ z.1 = 0 → ((z.1 = 1 → Bk cw p l e rm_X11_isForeseenBefore_0 s m args below meth c 6 g A Q 0 0 53 [] [] z.2.2) ∧ (¬ z.1 = 1 → Bk cw p l e rm_X11_isForeseenBefore_0 s m args below meth c 6 g A Q 0 0 61 [] [] z.2.2))) : Bk cw p l e rm_X11_isForeseenBefore_0 s m args below meth c 6 g A Q 0 0 18 [(0, .ref (g.2.2 0)), (1, .int x1), (2, .int x2), (3, .int x3), (4, .int x4), (5, .int x5)] [] σ := by
  obtain ⟨hx, hb, hr, hml, hown, hts, hK, hlocks, hXX, hA, hXo⟩ := id C
  intro H locs ls hP hD hS hl
  unfold s_X11_isForeseenBefore_0_h18 at hf
  refine lv_iload hx hb dX11_isForeseenBefore_18 (lv_at hl 5 rfl) ?_
  refine lv_iload_n hx hb dX11_isForeseenBefore_20 rfl (lv_at hl 2 rfl) ?_
  refine lv_icmp_ge (tgt := 61) hx hb dX11_isForeseenBefore_21 (by decide) (fun t21 => ?_) (fun t21 => ?_)
  · have hf := (if_pos t21).symm.trans hf
    cases hf
    exact ((k (show ¬ (2 : Nat) = 0 by decide)).2 (show ¬ (2 : Nat) = 1 by decide)) H locs ls hP hD hS (lv_sub hl [] rfl)
  · have hf := (if_neg t21).symm.trans hf
    refine lv_iload_n hx hb dX11_isForeseenBefore_24 rfl (lv_at hl 1 rfl) ?_
    refine lv_iload hx hb dX11_isForeseenBefore_25 (lv_at hl 5 rfl) ?_
    refine lv_ishr hx hb dX11_isForeseenBefore_27 ?_
    refine lv_iconst (v := (1 : Int32)) hx hb dX11_isForeseenBefore_28 (by decide) ?_
    refine lv_iand hx hb dX11_isForeseenBefore_29 ?_
    refine lv_iconst (v := (1 : Int32)) hx hb dX11_isForeseenBefore_30 (by decide) ?_
    refine lv_icmp_ne (tgt := 55) hx hb dX11_isForeseenBefore_31 (by decide) (fun t31 => ?_) (fun t31 => ?_)
    · have hf := (if_neg t31).symm.trans hf
      exact b_X11_isForeseenBefore_0_b55 C hf k0 k H locs ls hP hD hS (lv_sub hl [0, 1, 2, 3, 4, 5] rfl)
    · have hf := (if_pos t31).symm.trans hf
      refine lv_aload_n hx hb dX11_isForeseenBefore_34 rfl (lv_at hl 0 rfl) ?_
      refine bk_get (wf := cw) (q0 := 0) (ci := 10) (k := 11) (v := .ref (g.2.2 63)) C hP wl_X11 rfl rfl (by decide) wa_44 rfl rfl dX11_isForeseenBefore_35 ?_
      refine lv_iload hx hb dX11_isForeseenBefore_38 (lv_at hl 5 rfl) ?_
      refine lv_bipush (v := (20 : Int32)) hx hb dX11_isForeseenBefore_40 (by decide) ?_
      refine lv_imul hx hb dX11_isForeseenBefore_42 ?_
      refine lv_iload_n hx hb dX11_isForeseenBefore_43 rfl (lv_at hl 3 rfl) ?_
      refine lv_iadd hx hb dX11_isForeseenBefore_44 ?_
      refine lv_iconst (v := (1 : Int32)) hx hb dX11_isForeseenBefore_45 (by decide) ?_
      refine lv_isub hx hb dX11_isForeseenBefore_46 ?_
      obtain ⟨g2, hf⟩ := gd_s hf
      refine bk_iald (wf := cw) (q0 := 63) (n := 200) (j := (((x5 * (20 : Int32)) + x3) - (1 : Int32)).toNatClampNeg) C hP rfl g2 rfl dX11_isForeseenBefore_47 ?_
      refine lv_iload hx hb dX11_isForeseenBefore_48 (lv_at hl 4 rfl) ?_
      refine lv_icmp_ne (tgt := 55) hx hb dX11_isForeseenBefore_50 (by decide) (fun t50 => ?_) (fun t50 => ?_)
      · have hf := (if_neg t50).symm.trans hf
        exact b_X11_isForeseenBefore_0_b55 C hf k0 k H locs ls hP hD hS (lv_sub hl [0, 1, 2, 3, 4, 5] rfl)
      · have hf := (if_pos t50).symm.trans hf
        cases hf
        exact ((k (show ¬ (1 : Nat) = 0 by decide)).1 rfl) H locs ls hP hD hS (lv_sub hl [] rfl)
theorem lp_X11_isForeseenBefore_0_h18 {N : Nat} {n : Nat} {x1 : Int32} {x2 : Int32} {x3 : Int32} {x4 : Int32} {x5 : Int32} {σ : Sg} {z : Nat × Int32 × Sg} (C : Cx p s m args meth c cX11_isForeseenBefore 6 (some .boolean) RX11 g A X) (hz : it (fun q => s_X11_isForeseenBefore_0_h18 N x1 x2 x3 x4 q.1 q.2) n (x5, σ) = some z) (k : ((z.1 = 1 → Bk cw p l e rm_X11_isForeseenBefore_0 s m args below meth c 6 g A Q 0 0 53 [] [] z.2.2) ∧ (¬ z.1 = 1 → Bk cw p l e rm_X11_isForeseenBefore_0 s m args below meth c 6 g A Q 0 0 61 [] [] z.2.2))) : Bk cw p l e rm_X11_isForeseenBefore_0 s m args below meth c 6 g A Q 0 0 18 [(0, .ref (g.2.2 0)), (1, .int x1), (2, .int x2), (3, .int x3), (4, .int x4), (5, .int x5)] [] σ :=
  it_W (S := Int32 × Sg) (fun q => Bk cw p l e rm_X11_isForeseenBefore_0 s m args below meth c 6 g A Q 0 0 18 [(0, .ref (g.2.2 0)), (1, .int x1), (2, .int x2), (3, .int x3), (4, .int x4), (5, .int q.1)] [] q.2) (fun z => ((z.1 = 1 → Bk cw p l e rm_X11_isForeseenBefore_0 s m args below meth c 6 g A Q 0 0 53 [] [] z.2.2) ∧ (¬ z.1 = 1 → Bk cw p l e rm_X11_isForeseenBefore_0 s m args below meth c 6 g A Q 0 0 61 [] [] z.2.2))) (fun q z hq k0 k => e_X11_isForeseenBefore_0_h18 C hq k0 k) n (x5, σ) z hz k
def f_X11_isForeseenBefore_0 (N : Nat) (x1 : Int32) (x2 : Int32) (x3 : Int32) (σ : Sg) : Option (Int32 × Sg) :=
if ((((x2 * (20 : Int32)) + x3) - (1 : Int32)) < 0 ∨ 200 ≤ (((x2 * (20 : Int32)) + x3) - (1 : Int32)).toNatClampNeg) then none else
bd (σ 63 (((x2 * (20 : Int32)) + x3) - (1 : Int32)).toNatClampNeg) fun v4 =>
(it (fun q => s_X11_isForeseenBefore_0_h18 N x1 x2 x3 v4 q.1 q.2) N ((0 : Int32), σ)).bind fun z5 =>
if z5.1 = 1 then (some ((1 : Int32), (z5.2.2)))
else (some ((0 : Int32), (z5.2.2)))
set_option maxHeartbeats 4000000 in
set_option maxRecDepth 100000 in
theorem b_X11_isForeseenBefore_0 {N : Nat} {x1 : Int32} {x2 : Int32} {x3 : Int32} {σ : Sg} {z : Int32 × Sg} (C : Cx p s m args meth c cX11_isForeseenBefore 6 (some .boolean) RX11 g A X) (hf : f_X11_isForeseenBefore_0 N x1 x2 x3 σ = some z) : Bk cw p l e rm_X11_isForeseenBefore_0 s m args below meth c 6 g A (MQ below (qI cw g A z.1 z.2) args s 0 0 A) 0 0 0 [(0, .ref (g.2.2 0)), (1, .int x1), (2, .int x2), (3, .int x3)] [] σ := by
  obtain ⟨hx, hb, hr, hml, hown, hts, hK, hlocks, hXX, hA, hXo⟩ := id C
  intro H locs ls hP hD hS hl
  unfold f_X11_isForeseenBefore_0 at hf
  refine lv_aload_n hx hb dX11_isForeseenBefore_0 rfl (lv_at hl 0 rfl) ?_
  refine bk_get (wf := cw) (q0 := 0) (ci := 10) (k := 11) (v := .ref (g.2.2 63)) C hP wl_X11 rfl rfl (by decide) wa_44 rfl rfl dX11_isForeseenBefore_1 ?_
  refine lv_iload_n hx hb dX11_isForeseenBefore_4 rfl (lv_at hl 2 rfl) ?_
  refine lv_bipush (v := (20 : Int32)) hx hb dX11_isForeseenBefore_5 (by decide) ?_
  refine lv_imul hx hb dX11_isForeseenBefore_7 ?_
  refine lv_iload_n hx hb dX11_isForeseenBefore_8 rfl (lv_at hl 3 rfl) ?_
  refine lv_iadd hx hb dX11_isForeseenBefore_9 ?_
  refine lv_iconst (v := (1 : Int32)) hx hb dX11_isForeseenBefore_10 (by decide) ?_
  refine lv_isub hx hb dX11_isForeseenBefore_11 ?_
  obtain ⟨g3, hf⟩ := gd_s hf
  refine bk_iald (wf := cw) (q0 := 63) (n := 200) (j := (((x2 * (20 : Int32)) + x3) - (1 : Int32)).toNatClampNeg) C hP rfl g3 rfl dX11_isForeseenBefore_12 ?_
  obtain ⟨v4, ev4, hf⟩ := bd_s hf
  rw [← ev4]
  refine lv_istore (lv' := [(4, .int v4), (0, .ref (g.2.2 0)), (1, .int x1), (2, .int x2), (3, .int x3)]) hx hb dX11_isForeseenBefore_13 hl (by decide) rfl (fun ls hl => ?_)
  refine lv_iconst (v := (0 : Int32)) hx hb dX11_isForeseenBefore_15 (by decide) ?_
  refine lv_istore (lv' := [(5, .int (0 : Int32)), (4, .int v4), (0, .ref (g.2.2 0)), (1, .int x1), (2, .int x2), (3, .int x3)]) hx hb dX11_isForeseenBefore_16 hl (by decide) rfl (fun ls hl => ?_)
  obtain ⟨z5, hz5, hf⟩ := bi_s hf
  refine lp_X11_isForeseenBefore_0_h18 C hz5 ⟨fun t0 => ?_, fun t0 => ?_⟩ H locs ls hP hD hS (lv_sub hl [2, 3, 4, 5, 1, 0] rfl)
  · have hf := (if_pos t0).symm.trans hf
    intro H locs ls hP hD hS hl
    refine lv_iconst (v := (1 : Int32)) hx hb dX11_isForeseenBefore_53 (by decide) ?_
    cases hf
    exact bk_zret C hP hD hS (by decide) rfl dX11_isForeseenBefore_54
  · have hf := (if_neg t0).symm.trans hf
    intro H locs ls hP hD hS hl
    refine lv_iconst (v := (0 : Int32)) hx hb dX11_isForeseenBefore_61 (by decide) ?_
    cases hf
    exact bk_zret C hP hD hS (by decide) rfl dX11_isForeseenBefore_62
theorem c_X11_isForeseenBefore_0 {N : Nat} {x1 : Int32} {x2 : Int32} {x3 : Int32} {σ : Sg} {z : Int32 × Sg} (hX : xOK g X) (hf : f_X11_isForeseenBefore_0 N x1 x2 x3 σ = some z) : MetI l yX11_isForeseenBefore (Cond.code yX11_isForeseenBefore cX11_isForeseenBefore 6 (some .boolean) :: wsA) rm_X11_isForeseenBefore_0 cw g X [.ref (g.2.2 0), .int x1, .int x2, .int x3] σ z.1 z.2 :=
  MetI_of hX (by decide) (Nat.le_of_ble_eq_true rfl) (fun p e s m args below meth c A C => b_X11_isForeseenBefore_0 C hf)
-- X11_howManyUnlike_0: howManyUnlike(II)I
abbrev rm_X11_howManyUnlike_0 : Room := { frames := 1, cells := 0, slots := 0, locals := 25 }
theorem nd_X11_howManyUnlike : yX11_howManyUnlike.cls ≠ "java/lang/invoke/MethodHandle" ∧ yX11_howManyUnlike.cls ≠ "java/lang/invoke/VarHandle" ∧ (parseMethodDescriptor yX11_howManyUnlike.desc).map (fun d => d.parameters.length) = some 2 := by decide +kernel
def f_X11_howManyUnlike_0_b41 (N : Nat) (x1 : Int32) (x2 : Int32) (x3 : Int32) (x4 : Int32) (σ : Sg) : Option (Nat × Int32 × Int32 × Sg) :=
bd (x4 + (1 : Int32)) fun v1 =>
some (0, x3, v1, σ)
set_option maxHeartbeats 4000000 in
set_option maxRecDepth 100000 in
theorem b_X11_howManyUnlike_0_b41 {N : Nat} {x1 : Int32} {x2 : Int32} {x3 : Int32} {x4 : Int32} {σ : Sg} {z : Nat × Int32 × Int32 × Sg} (C : Cx p s m args meth c cX11_howManyUnlike 5 (some .int) RX11 g A X) (hf : f_X11_howManyUnlike_0_b41 N x1 x2 x3 x4 σ = some z) (k0 : z.1 = 0 → Bk cw p l e rm_X11_howManyUnlike_0 s m args below meth c 5 g A Q 0 0 5 [(0, .ref (g.2.2 0)), (1, .int x1), (2, .int x2), (3, .int z.2.1), (4, .int z.2.2.1)] [] z.2.2.2) (k : ¬ z.1 = 0 → Bk cw p l e rm_X11_howManyUnlike_0 s m args below meth c 5 g A Q 0 0 47 [(3, .int z.2.1)] [] z.2.2.2) : Bk cw p l e rm_X11_howManyUnlike_0 s m args below meth c 5 g A Q 0 0 41 [(0, .ref (g.2.2 0)), (1, .int x1), (2, .int x2), (3, .int x3), (4, .int x4)] [] σ := by
  obtain ⟨hx, hb, hr, hml, hown, hts, hK, hlocks, hXX, hA, hXo⟩ := id C
  intro H locs ls hP hD hS hl
  unfold f_X11_howManyUnlike_0_b41 at hf
  obtain ⟨v1, ev1, hf⟩ := bd_s hf
  refine lv_iinc (v := v1) (lv' := [(4, .int v1), (0, .ref (g.2.2 0)), (1, .int x1), (2, .int x2), (3, .int x3)]) hx hb dX11_howManyUnlike_41 hl (k := 4) rfl (by rw [ev1]; rfl) (by decide) rfl (fun ls hl => ?_)
  refine lv_goto (tgt := 5) hx hb dX11_howManyUnlike_44 (by decide) ?_
  cases hf
  exact k0 rfl H locs ls hP hD hS (lv_sub hl [1, 2, 3, 4, 0] rfl)
def s_X11_howManyUnlike_0_h5 (N : Nat) (x1 : Int32) (x2 : Int32) (x3 : Int32) (x4 : Int32) (σ : Sg) : Option (Nat × Int32 × Int32 × Sg) :=
if (σ 12 0) ≤ x4 then (some (1, x3, 0, σ))
else (if ((x1 >>> (x4 &&& 31)) &&& (1 : Int32)) = (1 : Int32) then ((f_X11_isForeseenBefore_0 N x1 x4 x2 σ).bind fun q2 =>
if q2.1 = 0 then (bd (x3 + (1 : Int32)) fun v3 =>
f_X11_howManyUnlike_0_b41 N x1 x2 v3 x4 (q2.2))
else (f_X11_howManyUnlike_0_b41 N x1 x2 x3 x4 (q2.2)))
else (f_X11_howManyUnlike_0_b41 N x1 x2 x3 x4 σ))
set_option maxHeartbeats 4000000 in
set_option maxRecDepth 100000 in
theorem e_X11_howManyUnlike_0_h5 {N : Nat} {x1 : Int32} {x2 : Int32} {x3 : Int32} {x4 : Int32} {σ : Sg} {z : Nat × Int32 × Int32 × Sg} (C : Cx p s m args meth c cX11_howManyUnlike 5 (some .int) RX11 g A X) (hf : s_X11_howManyUnlike_0_h5 N x1 x2 x3 x4 σ = some z) (k0 : z.1 = 0 → Bk cw p l e rm_X11_howManyUnlike_0 s m args below meth c 5 g A Q 0 0 5 [(0, .ref (g.2.2 0)), (1, .int x1), (2, .int x2), (3, .int z.2.1), (4, .int z.2.2.1)] [] z.2.2.2) (k : ¬ z.1 = 0 → Bk cw p l e rm_X11_howManyUnlike_0 s m args below meth c 5 g A Q 0 0 47 [(3, .int z.2.1)] [] z.2.2.2) : Bk cw p l e rm_X11_howManyUnlike_0 s m args below meth c 5 g A Q 0 0 5 [(0, .ref (g.2.2 0)), (1, .int x1), (2, .int x2), (3, .int x3), (4, .int x4)] [] σ := by
  obtain ⟨hx, hb, hr, hml, hown, hts, hK, hlocks, hXX, hA, hXo⟩ := id C
  intro H locs ls hP hD hS hl
  unfold s_X11_howManyUnlike_0_h5 at hf
  refine lv_iload hx hb dX11_howManyUnlike_5 (lv_at hl 4 rfl) ?_
  refine lv_aload_n hx hb dX11_howManyUnlike_7 rfl (lv_at hl 0 rfl) ?_
  refine bk_get (wf := cw) (q0 := 0) (ci := 10) (k := 3) (v := .ref (g.2.2 12)) C hP wl_X11 rfl rfl (by decide) wa_23 rfl rfl dX11_howManyUnlike_8 ?_
  refine bk_get (wf := cw) (q0 := 12) (ci := 8) (k := 0) (v := .int (σ 12 0)) C hP wl_X9 rfl rfl (by decide) wa_644 rfl rfl dX11_howManyUnlike_11 ?_
  refine lv_icmp_ge (tgt := 47) hx hb dX11_howManyUnlike_14 (by decide) (fun t14 => ?_) (fun t14 => ?_)
  · have hf := (if_pos t14).symm.trans hf
    cases hf
    exact (k (show ¬ (1 : Nat) = 0 by decide)) H locs ls hP hD hS (lv_sub hl [3] rfl)
  · have hf := (if_neg t14).symm.trans hf
    refine lv_iload_n hx hb dX11_howManyUnlike_17 rfl (lv_at hl 1 rfl) ?_
    refine lv_iload hx hb dX11_howManyUnlike_18 (lv_at hl 4 rfl) ?_
    refine lv_ishr hx hb dX11_howManyUnlike_20 ?_
    refine lv_iconst (v := (1 : Int32)) hx hb dX11_howManyUnlike_21 (by decide) ?_
    refine lv_iand hx hb dX11_howManyUnlike_22 ?_
    refine lv_iconst (v := (1 : Int32)) hx hb dX11_howManyUnlike_23 (by decide) ?_
    refine lv_icmp_ne (tgt := 41) hx hb dX11_howManyUnlike_24 (by decide) (fun t24 => ?_) (fun t24 => ?_)
    · have hf := (if_neg t24).symm.trans hf
      exact b_X11_howManyUnlike_0_b41 C hf k0 k H locs ls hP hD hS (lv_sub hl [0, 1, 2, 3, 4] rfl)
    · have hf := (if_pos t24).symm.trans hf
      refine lv_aload_n hx hb dX11_howManyUnlike_27 rfl (lv_at hl 0 rfl) ?_
      refine lv_iload_n hx hb dX11_howManyUnlike_28 rfl (lv_at hl 1 rfl) ?_
      refine lv_iload hx hb dX11_howManyUnlike_29 (lv_at hl 4 rfl) ?_
      refine lv_iload_n hx hb dX11_howManyUnlike_31 rfl (lv_at hl 2 rfl) ?_
      obtain ⟨q2, hq2, hf⟩ := bi_s hf
      refine bk_VI (wf := cw) (q0 := 0) (ci := 10) (rest := []) [.int x1, .int x4, .int x2] C hP hD hS hl.1 (c_X11_isForeseenBefore_0 hXo hq2) (cwA_V 3 hts wa_1329 wa_1326 wa_1327 wa_1328 wa_2 rfl rfl nd_X11_isForeseenBefore ⟨Nat.le_of_ble_eq_true rfl, Nat.le_of_ble_eq_true rfl⟩) rfl rfl rfl rfl (Nat.le_of_ble_eq_true rfl) dX11_howManyUnlike_32 ⟨Nat.le_of_ble_eq_true rfl, Nat.le_of_ble_eq_true rfl⟩ (fun H locs hP hD hS => ?_)
      refine lv_if_ne (tgt := 41) hx hb dX11_howManyUnlike_35 (by decide) (fun t35 => ?_) (fun t35 => ?_)
      · have hf := (if_neg t35).symm.trans hf
        exact b_X11_howManyUnlike_0_b41 C hf k0 k H locs ls hP hD hS (lv_sub hl [0, 1, 2, 3, 4] rfl)
      · have hf := (if_pos t35).symm.trans hf
        obtain ⟨v3, ev3, hf⟩ := bd_s hf
        refine lv_iinc (v := v3) (lv' := [(3, .int v3), (0, .ref (g.2.2 0)), (1, .int x1), (2, .int x2), (4, .int x4)]) hx hb dX11_howManyUnlike_38 hl (k := 3) rfl (by rw [ev3]; rfl) (by decide) rfl (fun ls hl => ?_)
        exact b_X11_howManyUnlike_0_b41 C hf k0 k H locs ls hP hD hS (lv_sub hl [1, 2, 3, 0, 4] rfl)
theorem lp_X11_howManyUnlike_0_h5 {N : Nat} {n : Nat} {x1 : Int32} {x2 : Int32} {x3 : Int32} {x4 : Int32} {σ : Sg} {z : Nat × Int32 × Int32 × Sg} (C : Cx p s m args meth c cX11_howManyUnlike 5 (some .int) RX11 g A X) (hz : it (fun q => s_X11_howManyUnlike_0_h5 N x1 x2 q.1 q.2.1 q.2.2) n (x3, x4, σ) = some z) (k : Bk cw p l e rm_X11_howManyUnlike_0 s m args below meth c 5 g A Q 0 0 47 [(3, .int z.2.1)] [] z.2.2.2) : Bk cw p l e rm_X11_howManyUnlike_0 s m args below meth c 5 g A Q 0 0 5 [(0, .ref (g.2.2 0)), (1, .int x1), (2, .int x2), (3, .int x3), (4, .int x4)] [] σ :=
  it_W (S := Int32 × Int32 × Sg) (fun q => Bk cw p l e rm_X11_howManyUnlike_0 s m args below meth c 5 g A Q 0 0 5 [(0, .ref (g.2.2 0)), (1, .int x1), (2, .int x2), (3, .int q.1), (4, .int q.2.1)] [] q.2.2) (fun z => Bk cw p l e rm_X11_howManyUnlike_0 s m args below meth c 5 g A Q 0 0 47 [(3, .int z.2.1)] [] z.2.2.2) (fun q z hq k0 k => e_X11_howManyUnlike_0_h5 C hq k0 k) n (x3, x4, σ) z hz k
def f_X11_howManyUnlike_0 (N : Nat) (x1 : Int32) (x2 : Int32) (σ : Sg) : Option (Int32 × Sg) :=
(it (fun q => s_X11_howManyUnlike_0_h5 N x1 x2 q.1 q.2.1 q.2.2) N ((0 : Int32), (0 : Int32), σ)).bind fun z4 =>
some ((z4.2.1), (z4.2.2.2))
set_option maxHeartbeats 4000000 in
set_option maxRecDepth 100000 in
theorem b_X11_howManyUnlike_0 {N : Nat} {x1 : Int32} {x2 : Int32} {σ : Sg} {z : Int32 × Sg} (C : Cx p s m args meth c cX11_howManyUnlike 5 (some .int) RX11 g A X) (hf : f_X11_howManyUnlike_0 N x1 x2 σ = some z) : Bk cw p l e rm_X11_howManyUnlike_0 s m args below meth c 5 g A (MQ below (qI cw g A z.1 z.2) args s 0 0 A) 0 0 0 [(0, .ref (g.2.2 0)), (1, .int x1), (2, .int x2)] [] σ := by
  obtain ⟨hx, hb, hr, hml, hown, hts, hK, hlocks, hXX, hA, hXo⟩ := id C
  intro H locs ls hP hD hS hl
  unfold f_X11_howManyUnlike_0 at hf
  refine lv_iconst (v := (0 : Int32)) hx hb dX11_howManyUnlike_0 (by decide) ?_
  refine lv_istore_n (lv' := [(3, .int (0 : Int32)), (0, .ref (g.2.2 0)), (1, .int x1), (2, .int x2)]) hx hb dX11_howManyUnlike_1 rfl hl (by decide) rfl (fun ls hl => ?_)
  refine lv_iconst (v := (0 : Int32)) hx hb dX11_howManyUnlike_2 (by decide) ?_
  refine lv_istore (lv' := [(4, .int (0 : Int32)), (3, .int (0 : Int32)), (0, .ref (g.2.2 0)), (1, .int x1), (2, .int x2)]) hx hb dX11_howManyUnlike_3 hl (by decide) rfl (fun ls hl => ?_)
  obtain ⟨z4, hz4, hf⟩ := bi_s hf
  refine lp_X11_howManyUnlike_0_h5 C hz4 ?_ H locs ls hP hD hS (lv_sub hl [2, 3, 4, 1, 0] rfl)
  intro H locs ls hP hD hS hl
  refine lv_iload_n hx hb dX11_howManyUnlike_47 rfl (lv_at hl 0 rfl) ?_
  cases hf
  exact bk_iret C hP hD hS rfl dX11_howManyUnlike_48
theorem c_X11_howManyUnlike_0 {N : Nat} {x1 : Int32} {x2 : Int32} {σ : Sg} {z : Int32 × Sg} (hX : xOK g X) (hf : f_X11_howManyUnlike_0 N x1 x2 σ = some z) : MetI l yX11_howManyUnlike (Cond.code yX11_howManyUnlike cX11_howManyUnlike 5 (some .int) :: wsA) rm_X11_howManyUnlike_0 cw g X [.ref (g.2.2 0), .int x1, .int x2] σ z.1 z.2 :=
  MetI_of hX (by decide) (Nat.le_of_ble_eq_true rfl) (fun p e s m args below meth c A C => b_X11_howManyUnlike_0 C hf)
-- X11_look_0: look(I)I
abbrev rm_X11_look_0 : Room := { frames := 8, cells := 1, slots := 6, locals := 189 }
theorem nd_X11_look : yX11_look.cls ≠ "java/lang/invoke/MethodHandle" ∧ yX11_look.cls ≠ "java/lang/invoke/VarHandle" ∧ (parseMethodDescriptor yX11_look.desc).map (fun d => d.parameters.length) = some 1 := by decide +kernel
def f_X11_look_0_b47 (N : Nat) (x1 : Int32) (x2 : Int32) (x3 : Int32) (x4 : Int32) (x5 : Int32) (σ : Sg) : Option (Nat × Int32 × Int32 × Int32 × Sg) :=
bd (x5 + (1 : Int32)) fun v1 =>
some (0, x3, x4, v1, σ)
set_option maxHeartbeats 4000000 in
set_option maxRecDepth 100000 in
theorem b_X11_look_0_b47 {N : Nat} {x1 : Int32} {x2 : Int32} {x3 : Int32} {x4 : Int32} {x5 : Int32} {σ : Sg} {z : Nat × Int32 × Int32 × Int32 × Sg} (C : Cx p s m args meth c cX11_look 7 (some .int) RX11 g A X) (hex : ∀ x ∈ c.exceptionTable.toList, False) (hst : l.stackTraces = false) (hf : f_X11_look_0_b47 N x1 x2 x3 x4 x5 σ = some z) (k0 : z.1 = 0 → Bk cw p l e rm_X11_look_0 s m args below meth c 7 g A Q 1 6 18 [(0, .ref (g.2.2 0)), (1, .int x1), (2, .int x2), (3, .int z.2.1), (4, .int z.2.2.1), (5, .int z.2.2.2.1)] [] z.2.2.2.2) (k : ¬ z.1 = 0 → Bk cw p l e rm_X11_look_0 s m args below meth c 7 g A Q 1 6 53 [(1, .int x1), (3, .int z.2.1), (4, .int z.2.2.1)] [] z.2.2.2.2) : Bk cw p l e rm_X11_look_0 s m args below meth c 7 g A Q 1 6 47 [(0, .ref (g.2.2 0)), (1, .int x1), (2, .int x2), (3, .int x3), (4, .int x4), (5, .int x5)] [] σ := by
  obtain ⟨hx, hb, hr, hml, hown, hts, hK, hlocks, hXX, hA, hXo⟩ := id C
  intro H locs ls hP hD hS hl
  unfold f_X11_look_0_b47 at hf
  obtain ⟨v1, ev1, hf⟩ := bd_s hf
  refine lv_iinc (v := v1) (lv' := [(5, .int v1), (0, .ref (g.2.2 0)), (1, .int x1), (2, .int x2), (3, .int x3), (4, .int x4)]) hx hb dX11_look_47 hl (k := 5) rfl (by rw [ev1]; rfl) (by decide) rfl (fun ls hl => ?_)
  refine lv_goto (tgt := 18) hx hb dX11_look_50 (by decide) ?_
  cases hf
  exact k0 rfl H locs ls hP hD hS (lv_sub hl [1, 2, 3, 4, 5, 0] rfl)
def s_X11_look_0_h18 (N : Nat) (x1 : Int32) (x2 : Int32) (x3 : Int32) (x4 : Int32) (x5 : Int32) (σ : Sg) : Option (Nat × Int32 × Int32 × Int32 × Sg) :=
if (20 : Int32) < x5 then (some (1, x3, x4, 0, σ))
else ((f_X11_howManyUnlike_0 N x2 x5 σ).bind fun q2 =>
bd q2.1 fun v3 =>
if v3 ≤ x3 then (f_X11_look_0_b47 N x1 x2 x3 x4 x5 (q2.2))
else (f_X11_look_0_b47 N x1 x2 v3 x5 x5 (q2.2)))
set_option maxHeartbeats 4000000 in
set_option maxRecDepth 100000 in
theorem e_X11_look_0_h18 {N : Nat} {x1 : Int32} {x2 : Int32} {x3 : Int32} {x4 : Int32} {x5 : Int32} {σ : Sg} {z : Nat × Int32 × Int32 × Int32 × Sg} (C : Cx p s m args meth c cX11_look 7 (some .int) RX11 g A X) (hex : ∀ x ∈ c.exceptionTable.toList, False) (hst : l.stackTraces = false) (hf : s_X11_look_0_h18 N x1 x2 x3 x4 x5 σ = some z) (k0 : z.1 = 0 → Bk cw p l e rm_X11_look_0 s m args below meth c 7 g A Q 1 6 18 [(0, .ref (g.2.2 0)), (1, .int x1), (2, .int x2), (3, .int z.2.1), (4, .int z.2.2.1), (5, .int z.2.2.2.1)] [] z.2.2.2.2) (k : ¬ z.1 = 0 → Bk cw p l e rm_X11_look_0 s m args below meth c 7 g A Q 1 6 53 [(1, .int x1), (3, .int z.2.1), (4, .int z.2.2.1)] [] z.2.2.2.2) : Bk cw p l e rm_X11_look_0 s m args below meth c 7 g A Q 1 6 18 [(0, .ref (g.2.2 0)), (1, .int x1), (2, .int x2), (3, .int x3), (4, .int x4), (5, .int x5)] [] σ := by
  obtain ⟨hx, hb, hr, hml, hown, hts, hK, hlocks, hXX, hA, hXo⟩ := id C
  intro H locs ls hP hD hS hl
  unfold s_X11_look_0_h18 at hf
  refine lv_iload hx hb dX11_look_18 (lv_at hl 5 rfl) ?_
  refine lv_bipush (v := (20 : Int32)) hx hb dX11_look_20 (by decide) ?_
  refine lv_icmp_gt (tgt := 53) hx hb dX11_look_22 (by decide) (fun t22 => ?_) (fun t22 => ?_)
  · have hf := (if_pos t22).symm.trans hf
    cases hf
    exact (k (show ¬ (1 : Nat) = 0 by decide)) H locs ls hP hD hS (lv_sub hl [1, 3, 4] rfl)
  · have hf := (if_neg t22).symm.trans hf
    refine lv_aload_n hx hb dX11_look_25 rfl (lv_at hl 0 rfl) ?_
    refine lv_iload_n hx hb dX11_look_26 rfl (lv_at hl 2 rfl) ?_
    refine lv_iload hx hb dX11_look_27 (lv_at hl 5 rfl) ?_
    obtain ⟨q2, hq2, hf⟩ := bi_s hf
    refine bk_VI (wf := cw) (q0 := 0) (ci := 10) (rest := []) [.int x2, .int x5] C hP hD hS hl.1 (c_X11_howManyUnlike_0 hXo hq2) (cwA_V 2 hts wa_1325 wa_1322 wa_1323 wa_1324 wa_2 rfl rfl nd_X11_howManyUnlike ⟨Nat.le_of_ble_eq_true rfl, Nat.le_of_ble_eq_true rfl⟩) rfl rfl rfl rfl (Nat.le_of_ble_eq_true rfl) dX11_look_29 ⟨Nat.le_of_ble_eq_true rfl, Nat.le_of_ble_eq_true rfl⟩ (fun H locs hP hD hS => ?_)
    obtain ⟨v3, ev3, hf⟩ := bd_s hf
    rw [← ev3]
    refine lv_istore (lv' := [(6, .int v3), (0, .ref (g.2.2 0)), (1, .int x1), (2, .int x2), (3, .int x3), (4, .int x4), (5, .int x5)]) hx hb dX11_look_32 hl (by decide) rfl (fun ls hl => ?_)
    refine lv_iload hx hb dX11_look_34 (lv_at hl 0 rfl) ?_
    refine lv_iload_n hx hb dX11_look_36 rfl (lv_at hl 4 rfl) ?_
    refine lv_icmp_le (tgt := 47) hx hb dX11_look_37 (by decide) (fun t37 => ?_) (fun t37 => ?_)
    · have hf := (if_pos t37).symm.trans hf
      exact b_X11_look_0_b47 C hex hst hf k0 k H locs ls hP hD hS (lv_sub hl [1, 2, 3, 4, 5, 6] rfl)
    · have hf := (if_neg t37).symm.trans hf
      refine lv_iload hx hb dX11_look_40 (lv_at hl 0 rfl) ?_
      refine lv_istore_n (lv' := [(3, .int v3), (6, .int v3), (0, .ref (g.2.2 0)), (1, .int x1), (2, .int x2), (4, .int x4), (5, .int x5)]) hx hb dX11_look_42 rfl hl (by decide) rfl (fun ls hl => ?_)
      refine lv_iload hx hb dX11_look_43 (lv_at hl 6 rfl) ?_
      refine lv_istore (lv' := [(4, .int x5), (3, .int v3), (6, .int v3), (0, .ref (g.2.2 0)), (1, .int x1), (2, .int x2), (5, .int x5)]) hx hb dX11_look_45 hl (by decide) rfl (fun ls hl => ?_)
      exact b_X11_look_0_b47 C hex hst hf k0 k H locs ls hP hD hS (lv_sub hl [3, 4, 5, 1, 0, 6] rfl)
theorem lp_X11_look_0_h18 {N : Nat} {n : Nat} {x1 : Int32} {x2 : Int32} {x3 : Int32} {x4 : Int32} {x5 : Int32} {σ : Sg} {z : Nat × Int32 × Int32 × Int32 × Sg} (C : Cx p s m args meth c cX11_look 7 (some .int) RX11 g A X) (hex : ∀ x ∈ c.exceptionTable.toList, False) (hst : l.stackTraces = false) (hz : it (fun q => s_X11_look_0_h18 N x1 x2 q.1 q.2.1 q.2.2.1 q.2.2.2) n (x3, x4, x5, σ) = some z) (k : Bk cw p l e rm_X11_look_0 s m args below meth c 7 g A Q 1 6 53 [(1, .int x1), (3, .int z.2.1), (4, .int z.2.2.1)] [] z.2.2.2.2) : Bk cw p l e rm_X11_look_0 s m args below meth c 7 g A Q 1 6 18 [(0, .ref (g.2.2 0)), (1, .int x1), (2, .int x2), (3, .int x3), (4, .int x4), (5, .int x5)] [] σ :=
  it_W (S := Int32 × Int32 × Int32 × Sg) (fun q => Bk cw p l e rm_X11_look_0 s m args below meth c 7 g A Q 1 6 18 [(0, .ref (g.2.2 0)), (1, .int x1), (2, .int x2), (3, .int q.1), (4, .int q.2.1), (5, .int q.2.2.1)] [] q.2.2.2) (fun z => Bk cw p l e rm_X11_look_0 s m args below meth c 7 g A Q 1 6 53 [(1, .int x1), (3, .int z.2.1), (4, .int z.2.2.1)] [] z.2.2.2.2) (fun q z hq k0 k => e_X11_look_0_h18 C hex hst hq k0 k) n (x3, x4, x5, σ) z hz k
def f_X11_look_0 (N : Nat) (x1 : Int32) (σ : Sg) : Option (Zt) :=
(f_X11_needWhat N x1 (1 : Int32) σ).bind fun q4 =>
if q4.1 = 0 then ((f_X11_whoMayHaveBegun_0 N (q4.2.2)).bind fun q5 =>
bd q5.1 fun v6 =>
(it (fun q => s_X11_look_0_h18 N x1 v6 q.1 q.2.1 q.2.2.1 q.2.2.2) N ((0 : Int32), (-1 : Int32), (1 : Int32), (q5.2))).bind fun z7 =>
if x1 = 0 then (some (0, (z7.2.2.1), (z7.2.2.2.2)))
else (some (0, (z7.2.1), (z7.2.2.2.2))))
else some (q4.1, 0, q4.2.2)
set_option maxHeartbeats 4000000 in
set_option maxRecDepth 100000 in
theorem b_X11_look_0 {N : Nat} {x1 : Int32} {σ : Sg} {z : Zt} (C : Cx p s m args meth c cX11_look 7 (some .int) RX11 g A X) (hex : ∀ x ∈ c.exceptionTable.toList, False) (hst : l.stackTraces = false) (hf : f_X11_look_0 N x1 σ = some z) : Bk cw p l e rm_X11_look_0 s m args below meth c 7 g A (vx_MQ below (qTi cw g A z) (xT cw g A z) args s 1 6 A) 0 0 0 [(0, .ref (g.2.2 0)), (1, .int x1)] [] σ := by
  obtain ⟨hx, hb, hr, hml, hown, hts, hK, hlocks, hXX, hA, hXo⟩ := id C
  intro H locs ls hP hD hS hl
  unfold f_X11_look_0 at hf
  refine lv_iload_n hx hb dX11_look_0 rfl (lv_at hl 1 rfl) ?_
  refine lv_iconst (v := (1 : Int32)) hx hb dX11_look_1 (by decide) ?_
  obtain ⟨q4, hq4, hf⟩ := bi_s hf
  refine bk_TS (wf := cw) (rest := []) [.int x1, .int (1 : Int32)] C hex hP hD hS hl.1 (c_X11_needWhat hXo hst hq4) (cwA_S 2 hts wa_1035 wa_1033 wa_1034 wa_2 rfl rfl nd_X11_needWhat ⟨Nat.le_of_ble_eq_true rfl, Nat.le_of_ble_eq_true rfl⟩) rfl rfl (Nat.le_of_ble_eq_true rfl) dX11_look_2 ⟨Nat.le_of_ble_eq_true rfl, Nat.le_of_ble_eq_true rfl⟩ ⟨Nat.le_of_ble_eq_true rfl, Nat.le_of_ble_eq_true rfl⟩ (fun h0 => by have hf := (if_neg h0).symm.trans hf; cases hf; exact ⟨rfl, rfl⟩) (fun h0 H locs hP hD hS => ?_)
  have hf := (if_pos h0).symm.trans hf
  refine lv_aload_n hx hb dX11_look_5 rfl (lv_at hl 0 rfl) ?_
  obtain ⟨q5, hq5, hf⟩ := bi_s hf
  refine bk_VI (wf := cw) (q0 := 0) (ci := 10) (rest := []) [] C hP hD hS hl.1 (c_X11_whoMayHaveBegun_0 hXo hq5) (cwA_V 0 hts wa_1296 wa_1293 wa_1294 wa_1295 wa_2 rfl rfl nd_X11_whoMayHaveBegun ⟨Nat.le_of_ble_eq_true rfl, Nat.le_of_ble_eq_true rfl⟩) rfl rfl rfl rfl (Nat.le_of_ble_eq_true rfl) dX11_look_6 ⟨Nat.le_of_ble_eq_true rfl, Nat.le_of_ble_eq_true rfl⟩ (fun H locs hP hD hS => ?_)
  obtain ⟨v6, ev6, hf⟩ := bd_s hf
  rw [← ev6]
  refine lv_istore_n (lv' := [(2, .int v6), (0, .ref (g.2.2 0)), (1, .int x1)]) hx hb dX11_look_9 rfl hl (by decide) rfl (fun ls hl => ?_)
  refine lv_iconst (v := (0 : Int32)) hx hb dX11_look_10 (by decide) ?_
  refine lv_istore_n (lv' := [(3, .int (0 : Int32)), (2, .int v6), (0, .ref (g.2.2 0)), (1, .int x1)]) hx hb dX11_look_11 rfl hl (by decide) rfl (fun ls hl => ?_)
  refine lv_iconst (v := (-1 : Int32)) hx hb dX11_look_12 (by decide) ?_
  refine lv_istore (lv' := [(4, .int (-1 : Int32)), (3, .int (0 : Int32)), (2, .int v6), (0, .ref (g.2.2 0)), (1, .int x1)]) hx hb dX11_look_13 hl (by decide) rfl (fun ls hl => ?_)
  refine lv_iconst (v := (1 : Int32)) hx hb dX11_look_15 (by decide) ?_
  refine lv_istore (lv' := [(5, .int (1 : Int32)), (4, .int (-1 : Int32)), (3, .int (0 : Int32)), (2, .int v6), (0, .ref (g.2.2 0)), (1, .int x1)]) hx hb dX11_look_16 hl (by decide) rfl (fun ls hl => ?_)
  obtain ⟨z7, hz7, hf⟩ := bi_s hf
  refine lp_X11_look_0_h18 C hex hst hz7 ?_ H locs ls hP hD hS (lv_sub hl [4, 5, 3, 2, 1, 0] rfl)
  intro H locs ls hP hD hS hl
  refine lv_iload_n hx hb dX11_look_53 rfl (lv_at hl 0 rfl) ?_
  refine lv_if_ne (tgt := 62) hx hb dX11_look_54 (by decide) (fun t54 => ?_) (fun t54 => ?_)
  · have hf := (if_neg t54).symm.trans hf
    refine lv_iload_n hx hb dX11_look_62 rfl (lv_at hl 1 rfl) ?_
    exact bk_iretT C hP hD hS hf (Nat.le_of_ble_eq_true rfl) (Nat.le_of_ble_eq_true rfl) dX11_look_63
  · have hf := (if_pos t54).symm.trans hf
    refine lv_iload hx hb dX11_look_57 (lv_at hl 2 rfl) ?_
    refine lv_goto (tgt := 63) hx hb dX11_look_59 (by decide) ?_
    exact bk_iretT C hP hD hS hf (Nat.le_of_ble_eq_true rfl) (Nat.le_of_ble_eq_true rfl) dX11_look_63
theorem c_X11_look_0 {N : Nat} {x1 : Int32} {σ : Sg} {z : Zt} (hX : xOK g X) (hst : l.stackTraces = false) (hf : f_X11_look_0 N x1 σ = some z) : MetTi l yX11_look (Cond.code yX11_look cX11_look 7 (some .int) :: wsA) rm_X11_look_0 1 6 cw g X [.ref (g.2.2 0), .int x1] σ z :=
  MetTi_of hX (by decide) (Nat.le_of_ble_eq_true rfl) (fun p e s m args below meth c A C hex => b_X11_look_0 C hex hst hf)
-- X11_forget_0: forget()V
abbrev rm_X11_forget_0 : Room := { frames := 1, cells := 0, slots := 0, locals := 20 }
theorem nd_X11_forget : yX11_forget.cls ≠ "java/lang/invoke/MethodHandle" ∧ yX11_forget.cls ≠ "java/lang/invoke/VarHandle" ∧ (parseMethodDescriptor yX11_forget.desc).map (fun d => d.parameters.length) = some 0 := by decide +kernel
def f_X11_forget_0 (N : Nat) (σ : Sg) : Option (Sg) :=
(f_X5_clear_29 N σ).bind fun q1 =>
some q1
set_option maxHeartbeats 4000000 in
set_option maxRecDepth 100000 in
theorem b_X11_forget_0 {N : Nat} {σ : Sg} {z : Sg} (C : Cx p s m args meth c cX11_forget 1 none RX11 g A X) (hf : f_X11_forget_0 N σ = some z) : Bk cw p l e rm_X11_forget_0 s m args below meth c 1 g A (MQ below (qV cw g A z) args s 0 0 A) 0 0 0 [(0, .ref (g.2.2 0))] [] σ := by
  obtain ⟨hx, hb, hr, hml, hown, hts, hK, hlocks, hXX, hA, hXo⟩ := id C
  intro H locs ls hP hD hS hl
  unfold f_X11_forget_0 at hf
  refine lv_aload_n hx hb dX11_forget_0 rfl (lv_at hl 0 rfl) ?_
  refine bk_get (wf := cw) (q0 := 0) (ci := 10) (k := 4) (v := .ref (g.2.2 21)) C hP wl_X11 rfl rfl (by decide) wa_27 rfl rfl dX11_forget_1 ?_
  refine bk_get (wf := cw) (q0 := 21) (ci := 1) (k := 2) (v := .ref (g.2.2 29)) C hP wl_X1 rfl rfl (by decide) wa_223 rfl rfl dX11_forget_4 ?_
  obtain ⟨q1, hq1, hf⟩ := bi_s hf
  refine bk_VV (wf := cw) (q0 := 29) (ci := 5) (rest := []) [] C hP hD hS hl.1 (c_X5_clear_29 hXo hq1) (cwA_V 0 hts wa_468 wa_465 wa_466 wa_467 wa_101 rfl rfl nd_X5_clear ⟨Nat.le_of_ble_eq_true rfl, Nat.le_of_ble_eq_true rfl⟩) rfl rfl rfl rfl (Nat.le_of_ble_eq_true rfl) dX11_forget_7 ⟨Nat.le_of_ble_eq_true rfl, Nat.le_of_ble_eq_true rfl⟩ (fun H locs hP hD hS => ?_)
  cases hf
  exact bk_vret C hP hD hS rfl dX11_forget_10
theorem c_X11_forget_0 {N : Nat} {σ : Sg} {z : Sg} (hX : xOK g X) (hf : f_X11_forget_0 N σ = some z) : MetV l yX11_forget (Cond.code yX11_forget cX11_forget 1 none :: wsA) rm_X11_forget_0 cw g X [.ref (g.2.2 0)] σ z :=
  MetV_of hX (by decide) (Nat.le_of_ble_eq_true rfl) (fun p e s m args below meth c A C => b_X11_forget_0 C hf)
-- X11_byMist_0: byMist(III)I
abbrev rm_X11_byMist_0 : Room := { frames := 7, cells := 3, slots := 18, locals := 144 }
theorem nd_X11_byMist : yX11_byMist.cls ≠ "java/lang/invoke/MethodHandle" ∧ yX11_byMist.cls ≠ "java/lang/invoke/VarHandle" ∧ (parseMethodDescriptor yX11_byMist.desc).map (fun d => d.parameters.length) = some 3 := by decide +kernel
def f_X11_byMist_0_b113 (N : Nat) (x1 : Int32) (x2 : Int32) (x3 : Int32) (x4 : Int32) (x5 : Int32) (x6 : Int32) (x7 : Int32) (t2 : Int32) (σ : Sg) : Option (Nat × Int32 × Int32 × Sg) :=
(f_X2_step_55_47 N t2 σ).bind fun q1 =>
bd (x7 + (1 : Int32)) fun v2 =>
some (0, x6, v2, (q1.2))
set_option maxHeartbeats 4000000 in
set_option maxRecDepth 100000 in
theorem b_X11_byMist_0_b113 {N : Nat} {x1 : Int32} {x2 : Int32} {x3 : Int32} {x4 : Int32} {x5 : Int32} {x6 : Int32} {x7 : Int32} {t2 : Int32} {σ : Sg} {z : Nat × Int32 × Int32 × Sg} (C : Cx p s m args meth c cX11_byMist 9 (some .int) RX11 g A X) (hex : ∀ x ∈ c.exceptionTable.toList, False) (hst : l.stackTraces = false) (hf : f_X11_byMist_0_b113 N x1 x2 x3 x4 x5 x6 x7 t2 σ = some z) (k0 : z.1 = 0 → Bk cw p l e rm_X11_byMist_0 s m args below meth c 9 g A Q 3 18 52 [(0, .ref (g.2.2 0)), (1, .int x1), (2, .int x2), (3, .int x3), (4, .int x4), (5, .int x5), (6, .int z.2.1), (7, .int z.2.2.1)] [] z.2.2.2) (k : ¬ z.1 = 0 → Bk cw p l e rm_X11_byMist_0 s m args below meth c 9 g A Q 3 18 123 [(0, .ref (g.2.2 0)), (1, .int x1), (2, .int x2), (3, .int x3), (4, .int x4), (5, .int x5), (6, .int z.2.1)] [] z.2.2.2) : Bk cw p l e rm_X11_byMist_0 s m args below meth c 9 g A Q 3 18 113 [(0, .ref (g.2.2 0)), (1, .int x1), (2, .int x2), (3, .int x3), (4, .int x4), (5, .int x5), (6, .int x6), (7, .int x7)] [.int t2, .ref (g.2.2 47), .ref (g.2.2 55)] σ := by
  obtain ⟨hx, hb, hr, hml, hown, hts, hK, hlocks, hXX, hA, hXo⟩ := id C
  intro H locs ls hP hD hS hl
  unfold f_X11_byMist_0_b113 at hf
  obtain ⟨q1, hq1, hf⟩ := bi_s hf
  refine bk_VI (wf := cw) (q0 := 55) (ci := 2) (rest := []) [.ref (g.2.2 47), .int t2] C hP hD hS hl.1 (c_X2_step_55_47 hXo hq1) (cwA_V 2 hts wa_839 wa_1353 wa_837 wa_838 wa_41 rfl rfl nd_X2_step ⟨Nat.le_of_ble_eq_true rfl, Nat.le_of_ble_eq_true rfl⟩) rfl rfl rfl rfl (Nat.le_of_ble_eq_true rfl) dX11_byMist_113 ⟨Nat.le_of_ble_eq_true rfl, Nat.le_of_ble_eq_true rfl⟩ (fun H locs hP hD hS => ?_)
  refine lv_pop hx hb dX11_byMist_116 rfl ?_
  obtain ⟨v2, ev2, hf⟩ := bd_s hf
  refine lv_iinc (v := v2) (lv' := [(7, .int v2), (0, .ref (g.2.2 0)), (1, .int x1), (2, .int x2), (3, .int x3), (4, .int x4), (5, .int x5), (6, .int x6)]) hx hb dX11_byMist_117 hl (k := 7) rfl (by rw [ev2]; rfl) (by decide) rfl (fun ls hl => ?_)
  refine lv_goto (tgt := 52) hx hb dX11_byMist_120 (by decide) ?_
  cases hf
  exact k0 rfl H locs ls hP hD hS (lv_sub hl [1, 2, 3, 4, 5, 6, 7, 0] rfl)
def f_X11_byMist_0_b91 (N : Nat) (x1 : Int32) (x2 : Int32) (x3 : Int32) (x4 : Int32) (x5 : Int32) (x7 : Int32) (x8 : Int32) (t0 : Int32) (t1 : Int32) (σ : Sg) : Option (Nat × Int32 × Int32 × Sg) :=
bd (t0 * t1) fun v3 =>
if x8 = 0 then (f_X11_byMist_0_b113 N x1 x2 x3 x4 x5 v3 x7 (0 : Int32) σ)
else (f_X11_byMist_0_b113 N x1 x2 x3 x4 x5 v3 x7 (9 : Int32) σ)
set_option maxHeartbeats 4000000 in
set_option maxRecDepth 100000 in
theorem b_X11_byMist_0_b91 {N : Nat} {x1 : Int32} {x2 : Int32} {x3 : Int32} {x4 : Int32} {x5 : Int32} {x7 : Int32} {x8 : Int32} {t0 : Int32} {t1 : Int32} {σ : Sg} {z : Nat × Int32 × Int32 × Sg} (C : Cx p s m args meth c cX11_byMist 9 (some .int) RX11 g A X) (hex : ∀ x ∈ c.exceptionTable.toList, False) (hst : l.stackTraces = false) (hf : f_X11_byMist_0_b91 N x1 x2 x3 x4 x5 x7 x8 t0 t1 σ = some z) (k0 : z.1 = 0 → Bk cw p l e rm_X11_byMist_0 s m args below meth c 9 g A Q 3 18 52 [(0, .ref (g.2.2 0)), (1, .int x1), (2, .int x2), (3, .int x3), (4, .int x4), (5, .int x5), (6, .int z.2.1), (7, .int z.2.2.1)] [] z.2.2.2) (k : ¬ z.1 = 0 → Bk cw p l e rm_X11_byMist_0 s m args below meth c 9 g A Q 3 18 123 [(0, .ref (g.2.2 0)), (1, .int x1), (2, .int x2), (3, .int x3), (4, .int x4), (5, .int x5), (6, .int z.2.1)] [] z.2.2.2) : Bk cw p l e rm_X11_byMist_0 s m args below meth c 9 g A Q 3 18 91 [(0, .ref (g.2.2 0)), (1, .int x1), (2, .int x2), (3, .int x3), (4, .int x4), (5, .int x5), (7, .int x7), (8, .int x8)] [.int t1, .int t0] σ := by
  obtain ⟨hx, hb, hr, hml, hown, hts, hK, hlocks, hXX, hA, hXo⟩ := id C
  intro H locs ls hP hD hS hl
  unfold f_X11_byMist_0_b91 at hf
  refine lv_imul hx hb dX11_byMist_91 ?_
  obtain ⟨v3, ev3, hf⟩ := bd_s hf
  rw [← ev3]
  refine lv_istore (lv' := [(6, .int v3), (0, .ref (g.2.2 0)), (1, .int x1), (2, .int x2), (3, .int x3), (4, .int x4), (5, .int x5), (7, .int x7), (8, .int x8)]) hx hb dX11_byMist_92 hl (by decide) rfl (fun ls hl => ?_)
  refine lv_aload_n hx hb dX11_byMist_94 rfl (lv_at hl 1 rfl) ?_
  refine bk_get (wf := cw) (q0 := 0) (ci := 10) (k := 10) (v := .ref (g.2.2 55)) C hP wl_X11 rfl rfl (by decide) wa_42 rfl rfl dX11_byMist_95 ?_
  refine lv_aload_n hx hb dX11_byMist_98 rfl (lv_at hl 1 rfl) ?_
  refine bk_get (wf := cw) (q0 := 0) (ci := 10) (k := 7) (v := .ref (g.2.2 47)) C hP wl_X11 rfl rfl (by decide) wa_33 rfl rfl dX11_byMist_99 ?_
  refine lv_iload hx hb dX11_byMist_102 (lv_at hl 8 rfl) ?_
  refine lv_if_eq (tgt := 112) hx hb dX11_byMist_104 (by decide) (fun t104 => ?_) (fun t104 => ?_)
  · have hf := (if_pos t104).symm.trans hf
    refine lv_iconst (v := (0 : Int32)) hx hb dX11_byMist_112 (by decide) ?_
    exact b_X11_byMist_0_b113 C hex hst hf k0 k H locs ls hP hD hS (lv_sub hl [1, 2, 3, 4, 5, 6, 0, 7] rfl)
  · have hf := (if_neg t104).symm.trans hf
    refine lv_bipush (v := (9 : Int32)) hx hb dX11_byMist_107 (by decide) ?_
    refine lv_goto (tgt := 113) hx hb dX11_byMist_109 (by decide) ?_
    exact b_X11_byMist_0_b113 C hex hst hf k0 k H locs ls hP hD hS (lv_sub hl [1, 2, 3, 4, 5, 6, 0, 7] rfl)
def f_X11_byMist_0_b74 (N : Nat) (x1 : Int32) (x2 : Int32) (x3 : Int32) (x4 : Int32) (x5 : Int32) (x6 : Int32) (x7 : Int32) (t0 : Int32) (σ : Sg) : Option (Nat × Int32 × Int32 × Sg) :=
if t0 = 0 then (f_X11_byMist_0_b91 N x1 x2 x3 x4 x5 x7 t0 x6 ((10 : Int32) - x3) σ)
else (f_X11_byMist_0_b91 N x1 x2 x3 x4 x5 x7 t0 x6 x3 σ)
set_option maxHeartbeats 4000000 in
set_option maxRecDepth 100000 in
theorem b_X11_byMist_0_b74 {N : Nat} {x1 : Int32} {x2 : Int32} {x3 : Int32} {x4 : Int32} {x5 : Int32} {x6 : Int32} {x7 : Int32} {t0 : Int32} {σ : Sg} {z : Nat × Int32 × Int32 × Sg} (C : Cx p s m args meth c cX11_byMist 9 (some .int) RX11 g A X) (hex : ∀ x ∈ c.exceptionTable.toList, False) (hst : l.stackTraces = false) (hf : f_X11_byMist_0_b74 N x1 x2 x3 x4 x5 x6 x7 t0 σ = some z) (k0 : z.1 = 0 → Bk cw p l e rm_X11_byMist_0 s m args below meth c 9 g A Q 3 18 52 [(0, .ref (g.2.2 0)), (1, .int x1), (2, .int x2), (3, .int x3), (4, .int x4), (5, .int x5), (6, .int z.2.1), (7, .int z.2.2.1)] [] z.2.2.2) (k : ¬ z.1 = 0 → Bk cw p l e rm_X11_byMist_0 s m args below meth c 9 g A Q 3 18 123 [(0, .ref (g.2.2 0)), (1, .int x1), (2, .int x2), (3, .int x3), (4, .int x4), (5, .int x5), (6, .int z.2.1)] [] z.2.2.2) : Bk cw p l e rm_X11_byMist_0 s m args below meth c 9 g A Q 3 18 74 [(0, .ref (g.2.2 0)), (1, .int x1), (2, .int x2), (3, .int x3), (4, .int x4), (5, .int x5), (6, .int x6), (7, .int x7)] [.int t0] σ := by
  obtain ⟨hx, hb, hr, hml, hown, hts, hK, hlocks, hXX, hA, hXo⟩ := id C
  intro H locs ls hP hD hS hl
  unfold f_X11_byMist_0_b74 at hf
  refine lv_istore (lv' := [(8, .int t0), (0, .ref (g.2.2 0)), (1, .int x1), (2, .int x2), (3, .int x3), (4, .int x4), (5, .int x5), (6, .int x6), (7, .int x7)]) hx hb dX11_byMist_74 hl (by decide) rfl (fun ls hl => ?_)
  refine lv_iload hx hb dX11_byMist_76 (lv_at hl 7 rfl) ?_
  refine lv_iload hx hb dX11_byMist_78 (lv_at hl 0 rfl) ?_
  refine lv_if_eq (tgt := 87) hx hb dX11_byMist_80 (by decide) (fun t80 => ?_) (fun t80 => ?_)
  · have hf := (if_pos t80).symm.trans hf
    refine lv_bipush (v := (10 : Int32)) hx hb dX11_byMist_87 (by decide) ?_
    refine lv_iload_n hx hb dX11_byMist_89 rfl (lv_at hl 4 rfl) ?_
    refine lv_isub hx hb dX11_byMist_90 ?_
    exact b_X11_byMist_0_b91 C hex hst hf k0 k H locs ls hP hD hS (lv_sub hl [1, 2, 3, 4, 5, 6, 8, 0] rfl)
  · have hf := (if_neg t80).symm.trans hf
    refine lv_iload_n hx hb dX11_byMist_83 rfl (lv_at hl 4 rfl) ?_
    refine lv_goto (tgt := 91) hx hb dX11_byMist_84 (by decide) ?_
    exact b_X11_byMist_0_b91 C hex hst hf k0 k H locs ls hP hD hS (lv_sub hl [1, 2, 3, 4, 5, 6, 8, 0] rfl)
def s_X11_byMist_0_h52 (N : Nat) (x1 : Int32) (x2 : Int32) (x3 : Int32) (x4 : Int32) (x5 : Int32) (x6 : Int32) (x7 : Int32) (σ : Sg) : Option (Nat × Int32 × Int32 × Sg) :=
if x2 ≤ x7 then (some (1, x6, 0, σ))
else (if ((x5 >>> (x7 &&& 31)) &&& (1 : Int32)) = (1 : Int32) then (f_X11_byMist_0_b74 N x1 x2 x3 x4 x5 x6 x7 (1 : Int32) σ)
else (f_X11_byMist_0_b74 N x1 x2 x3 x4 x5 x6 x7 (0 : Int32) σ))
set_option maxHeartbeats 4000000 in
set_option maxRecDepth 100000 in
theorem e_X11_byMist_0_h52 {N : Nat} {x1 : Int32} {x2 : Int32} {x3 : Int32} {x4 : Int32} {x5 : Int32} {x6 : Int32} {x7 : Int32} {σ : Sg} {z : Nat × Int32 × Int32 × Sg} (C : Cx p s m args meth c cX11_byMist 9 (some .int) RX11 g A X) (hex : ∀ x ∈ c.exceptionTable.toList, False) (hst : l.stackTraces = false) (hf : s_X11_byMist_0_h52 N x1 x2 x3 x4 x5 x6 x7 σ = some z) (k0 : z.1 = 0 → Bk cw p l e rm_X11_byMist_0 s m args below meth c 9 g A Q 3 18 52 [(0, .ref (g.2.2 0)), (1, .int x1), (2, .int x2), (3, .int x3), (4, .int x4), (5, .int x5), (6, .int z.2.1), (7, .int z.2.2.1)] [] z.2.2.2) (k : ¬ z.1 = 0 → Bk cw p l e rm_X11_byMist_0 s m args below meth c 9 g A Q 3 18 123 [(0, .ref (g.2.2 0)), (1, .int x1), (2, .int x2), (3, .int x3), (4, .int x4), (5, .int x5), (6, .int z.2.1)] [] z.2.2.2) : Bk cw p l e rm_X11_byMist_0 s m args below meth c 9 g A Q 3 18 52 [(0, .ref (g.2.2 0)), (1, .int x1), (2, .int x2), (3, .int x3), (4, .int x4), (5, .int x5), (6, .int x6), (7, .int x7)] [] σ := by
  obtain ⟨hx, hb, hr, hml, hown, hts, hK, hlocks, hXX, hA, hXo⟩ := id C
  intro H locs ls hP hD hS hl
  unfold s_X11_byMist_0_h52 at hf
  refine lv_iload hx hb dX11_byMist_52 (lv_at hl 7 rfl) ?_
  refine lv_iload_n hx hb dX11_byMist_54 rfl (lv_at hl 2 rfl) ?_
  refine lv_icmp_ge (tgt := 123) hx hb dX11_byMist_55 (by decide) (fun t55 => ?_) (fun t55 => ?_)
  · have hf := (if_pos t55).symm.trans hf
    cases hf
    exact (k (show ¬ (1 : Nat) = 0 by decide)) H locs ls hP hD hS (lv_sub hl [0, 1, 2, 3, 4, 5, 6] rfl)
  · have hf := (if_neg t55).symm.trans hf
    refine lv_iload hx hb dX11_byMist_58 (lv_at hl 5 rfl) ?_
    refine lv_iload hx hb dX11_byMist_60 (lv_at hl 7 rfl) ?_
    refine lv_ishr hx hb dX11_byMist_62 ?_
    refine lv_iconst (v := (1 : Int32)) hx hb dX11_byMist_63 (by decide) ?_
    refine lv_iand hx hb dX11_byMist_64 ?_
    refine lv_iconst (v := (1 : Int32)) hx hb dX11_byMist_65 (by decide) ?_
    refine lv_icmp_ne (tgt := 73) hx hb dX11_byMist_66 (by decide) (fun t66 => ?_) (fun t66 => ?_)
    · have hf := (if_neg t66).symm.trans hf
      refine lv_iconst (v := (0 : Int32)) hx hb dX11_byMist_73 (by decide) ?_
      exact b_X11_byMist_0_b74 C hex hst hf k0 k H locs ls hP hD hS (lv_sub hl [0, 1, 2, 3, 4, 5, 6, 7] rfl)
    · have hf := (if_pos t66).symm.trans hf
      refine lv_iconst (v := (1 : Int32)) hx hb dX11_byMist_69 (by decide) ?_
      refine lv_goto (tgt := 74) hx hb dX11_byMist_70 (by decide) ?_
      exact b_X11_byMist_0_b74 C hex hst hf k0 k H locs ls hP hD hS (lv_sub hl [0, 1, 2, 3, 4, 5, 6, 7] rfl)
theorem lp_X11_byMist_0_h52 {N : Nat} {n : Nat} {x1 : Int32} {x2 : Int32} {x3 : Int32} {x4 : Int32} {x5 : Int32} {x6 : Int32} {x7 : Int32} {σ : Sg} {z : Nat × Int32 × Int32 × Sg} (C : Cx p s m args meth c cX11_byMist 9 (some .int) RX11 g A X) (hex : ∀ x ∈ c.exceptionTable.toList, False) (hst : l.stackTraces = false) (hz : it (fun q => s_X11_byMist_0_h52 N x1 x2 x3 x4 x5 q.1 q.2.1 q.2.2) n (x6, x7, σ) = some z) (k : Bk cw p l e rm_X11_byMist_0 s m args below meth c 9 g A Q 3 18 123 [(0, .ref (g.2.2 0)), (1, .int x1), (2, .int x2), (3, .int x3), (4, .int x4), (5, .int x5), (6, .int z.2.1)] [] z.2.2.2) : Bk cw p l e rm_X11_byMist_0 s m args below meth c 9 g A Q 3 18 52 [(0, .ref (g.2.2 0)), (1, .int x1), (2, .int x2), (3, .int x3), (4, .int x4), (5, .int x5), (6, .int x6), (7, .int x7)] [] σ :=
  it_W (S := Int32 × Int32 × Sg) (fun q => Bk cw p l e rm_X11_byMist_0 s m args below meth c 9 g A Q 3 18 52 [(0, .ref (g.2.2 0)), (1, .int x1), (2, .int x2), (3, .int x3), (4, .int x4), (5, .int x5), (6, .int q.1), (7, .int q.2.1)] [] q.2.2) (fun z => Bk cw p l e rm_X11_byMist_0 s m args below meth c 9 g A Q 3 18 123 [(0, .ref (g.2.2 0)), (1, .int x1), (2, .int x2), (3, .int x3), (4, .int x4), (5, .int x5), (6, .int z.2.1)] [] z.2.2.2) (fun q z hq k0 k => e_X11_byMist_0_h52 C hex hst hq k0 k) n (x6, x7, σ) z hz k
def f_X11_byMist_0_b157 (N : Nat) (x1 : Int32) (x2 : Int32) (x3 : Int32) (x4 : Int32) (x5 : Int32) (σ : Sg) : Option (Nat × Int32 × Int32 × Sg) :=
bd (x5 + (1 : Int32)) fun v4 =>
some (0, x4, v4, σ)
set_option maxHeartbeats 4000000 in
set_option maxRecDepth 100000 in
theorem b_X11_byMist_0_b157 {N : Nat} {x1 : Int32} {x2 : Int32} {x3 : Int32} {x4 : Int32} {x5 : Int32} {σ : Sg} {z : Nat × Int32 × Int32 × Sg} (C : Cx p s m args meth c cX11_byMist 9 (some .int) RX11 g A X) (hex : ∀ x ∈ c.exceptionTable.toList, False) (hst : l.stackTraces = false) (hf : f_X11_byMist_0_b157 N x1 x2 x3 x4 x5 σ = some z) (k0 : z.1 = 0 → Bk cw p l e rm_X11_byMist_0 s m args below meth c 9 g A Q 3 18 24 [(0, .ref (g.2.2 0)), (1, .int x1), (2, .int x2), (3, .int x3), (4, .int z.2.1), (5, .int z.2.2.1)] [] z.2.2.2) (k : ¬ z.1 = 0 → Bk cw p l e rm_X11_byMist_0 s m args below meth c 9 g A Q 3 18 163 [(4, .int z.2.1)] [] z.2.2.2) : Bk cw p l e rm_X11_byMist_0 s m args below meth c 9 g A Q 3 18 157 [(0, .ref (g.2.2 0)), (1, .int x1), (2, .int x2), (3, .int x3), (4, .int x4), (5, .int x5)] [] σ := by
  obtain ⟨hx, hb, hr, hml, hown, hts, hK, hlocks, hXX, hA, hXo⟩ := id C
  intro H locs ls hP hD hS hl
  unfold f_X11_byMist_0_b157 at hf
  obtain ⟨v4, ev4, hf⟩ := bd_s hf
  refine lv_iinc (v := v4) (lv' := [(5, .int v4), (0, .ref (g.2.2 0)), (1, .int x1), (2, .int x2), (3, .int x3), (4, .int x4)]) hx hb dX11_byMist_157 hl (k := 5) rfl (by rw [ev4]; rfl) (by decide) rfl (fun ls hl => ?_)
  refine lv_goto (tgt := 24) hx hb dX11_byMist_160 (by decide) ?_
  cases hf
  exact k0 rfl H locs ls hP hD hS (lv_sub hl [1, 2, 3, 4, 5, 0] rfl)
def s_X11_byMist_0_h24 (N : Nat) (x1 : Int32) (x2 : Int32) (x3 : Int32) (x4 : Int32) (x5 : Int32) (σ : Sg) : Option (Nat × Int32 × Int32 × Sg) :=
if ((1 : Int32) <<< (x2 &&& 31)) ≤ x5 then (some (1, x4, 0, σ))
else ((f_X2_start_55_22 N σ).bind fun q5 =>
(it (fun q => s_X11_byMist_0_h52 N x1 x2 x3 x4 x5 q.1 q.2.1 q.2.2) N ((1 : Int32), (0 : Int32), q5)).bind fun z6 =>
if (x1 < 0 ∨ 9 ≤ x1.toNatClampNeg) then none else
if (x1 < 0 ∨ 9 ≤ x1.toNatClampNeg) then none else
if ((z6.2.2.2) 59 x1.toNatClampNeg) ≤ ((z6.2.2.2) 25 x1.toNatClampNeg) then (f_X11_byMist_0_b157 N x1 x2 x3 x4 x5 (z6.2.2.2))
else (bd (x4 + (z6.2.1)) fun v9 =>
f_X11_byMist_0_b157 N x1 x2 x3 v9 x5 (z6.2.2.2)))
set_option maxHeartbeats 4000000 in
set_option maxRecDepth 100000 in
theorem e_X11_byMist_0_h24 {N : Nat} {x1 : Int32} {x2 : Int32} {x3 : Int32} {x4 : Int32} {x5 : Int32} {σ : Sg} {z : Nat × Int32 × Int32 × Sg} (C : Cx p s m args meth c cX11_byMist 9 (some .int) RX11 g A X) (hex : ∀ x ∈ c.exceptionTable.toList, False) (hst : l.stackTraces = false) (hf : s_X11_byMist_0_h24 N x1 x2 x3 x4 x5 σ = some z) (k0 : z.1 = 0 → Bk cw p l e rm_X11_byMist_0 s m args below meth c 9 g A Q 3 18 24 [(0, .ref (g.2.2 0)), (1, .int x1), (2, .int x2), (3, .int x3), (4, .int z.2.1), (5, .int z.2.2.1)] [] z.2.2.2) (k : ¬ z.1 = 0 → Bk cw p l e rm_X11_byMist_0 s m args below meth c 9 g A Q 3 18 163 [(4, .int z.2.1)] [] z.2.2.2) : Bk cw p l e rm_X11_byMist_0 s m args below meth c 9 g A Q 3 18 24 [(0, .ref (g.2.2 0)), (1, .int x1), (2, .int x2), (3, .int x3), (4, .int x4), (5, .int x5)] [] σ := by
  obtain ⟨hx, hb, hr, hml, hown, hts, hK, hlocks, hXX, hA, hXo⟩ := id C
  intro H locs ls hP hD hS hl
  unfold s_X11_byMist_0_h24 at hf
  refine lv_iload hx hb dX11_byMist_24 (lv_at hl 5 rfl) ?_
  refine lv_iconst (v := (1 : Int32)) hx hb dX11_byMist_26 (by decide) ?_
  refine lv_iload_n hx hb dX11_byMist_27 rfl (lv_at hl 2 rfl) ?_
  refine lv_ishl hx hb dX11_byMist_28 ?_
  refine lv_icmp_ge (tgt := 163) hx hb dX11_byMist_29 (by decide) (fun t29 => ?_) (fun t29 => ?_)
  · have hf := (if_pos t29).symm.trans hf
    cases hf
    exact (k (show ¬ (1 : Nat) = 0 by decide)) H locs ls hP hD hS (lv_sub hl [4] rfl)
  · have hf := (if_neg t29).symm.trans hf
    refine lv_aload_n hx hb dX11_byMist_32 rfl (lv_at hl 0 rfl) ?_
    refine bk_get (wf := cw) (q0 := 0) (ci := 10) (k := 10) (v := .ref (g.2.2 55)) C hP wl_X11 rfl rfl (by decide) wa_42 rfl rfl dX11_byMist_33 ?_
    refine lv_aload_n hx hb dX11_byMist_36 rfl (lv_at hl 0 rfl) ?_
    refine bk_get (wf := cw) (q0 := 0) (ci := 10) (k := 4) (v := .ref (g.2.2 21)) C hP wl_X11 rfl rfl (by decide) wa_27 rfl rfl dX11_byMist_37 ?_
    refine bk_get (wf := cw) (q0 := 21) (ci := 1) (k := 0) (v := .ref (g.2.2 22)) C hP wl_X1 rfl rfl (by decide) wa_221 rfl rfl dX11_byMist_40 ?_
    obtain ⟨q5, hq5, hf⟩ := bi_s hf
    refine bk_VV (wf := cw) (q0 := 55) (ci := 2) (rest := []) [.ref (g.2.2 22)] C hP hD hS hl.1 (c_X2_start_55_22 hXo hq5) (cwA_V 1 hts wa_825 wa_822 wa_823 wa_824 wa_41 rfl rfl nd_X2_start ⟨Nat.le_of_ble_eq_true rfl, Nat.le_of_ble_eq_true rfl⟩) rfl rfl rfl rfl (Nat.le_of_ble_eq_true rfl) dX11_byMist_43 ⟨Nat.le_of_ble_eq_true rfl, Nat.le_of_ble_eq_true rfl⟩ (fun H locs hP hD hS => ?_)
    refine lv_iconst (v := (1 : Int32)) hx hb dX11_byMist_46 (by decide) ?_
    refine lv_istore (lv' := [(6, .int (1 : Int32)), (0, .ref (g.2.2 0)), (1, .int x1), (2, .int x2), (3, .int x3), (4, .int x4), (5, .int x5)]) hx hb dX11_byMist_47 hl (by decide) rfl (fun ls hl => ?_)
    refine lv_iconst (v := (0 : Int32)) hx hb dX11_byMist_49 (by decide) ?_
    refine lv_istore (lv' := [(7, .int (0 : Int32)), (6, .int (1 : Int32)), (0, .ref (g.2.2 0)), (1, .int x1), (2, .int x2), (3, .int x3), (4, .int x4), (5, .int x5)]) hx hb dX11_byMist_50 hl (by decide) rfl (fun ls hl => ?_)
    obtain ⟨z6, hz6, hf⟩ := bi_s hf
    refine lp_X11_byMist_0_h52 C hex hst hz6 ?_ H locs ls hP hD hS (lv_sub hl [2, 3, 4, 5, 6, 7, 1, 0] rfl)
    intro H locs ls hP hD hS hl
    refine lv_aload_n hx hb dX11_byMist_123 rfl (lv_at hl 0 rfl) ?_
    refine bk_get (wf := cw) (q0 := 0) (ci := 10) (k := 10) (v := .ref (g.2.2 55)) C hP wl_X11 rfl rfl (by decide) wa_42 rfl rfl dX11_byMist_124 ?_
    refine bk_get (wf := cw) (q0 := 55) (ci := 2) (k := 0) (v := .ref (g.2.2 56)) C hP wl_X2 rfl rfl (by decide) wa_808 rfl rfl dX11_byMist_127 ?_
    refine bk_get (wf := cw) (q0 := 56) (ci := 7) (k := 4) (v := .ref (g.2.2 59)) C hP wl_X7 rfl rfl (by decide) wa_786 rfl rfl dX11_byMist_130 ?_
    refine lv_iload_n hx hb dX11_byMist_133 rfl (lv_at hl 1 rfl) ?_
    obtain ⟨g7, hf⟩ := gd_s hf
    refine bk_iald (wf := cw) (q0 := 59) (n := 9) (j := x1.toNatClampNeg) C hP rfl g7 rfl dX11_byMist_134 ?_
    refine lv_aload_n hx hb dX11_byMist_135 rfl (lv_at hl 0 rfl) ?_
    refine bk_get (wf := cw) (q0 := 0) (ci := 10) (k := 4) (v := .ref (g.2.2 21)) C hP wl_X11 rfl rfl (by decide) wa_27 rfl rfl dX11_byMist_136 ?_
    refine bk_get (wf := cw) (q0 := 21) (ci := 1) (k := 0) (v := .ref (g.2.2 22)) C hP wl_X1 rfl rfl (by decide) wa_221 rfl rfl dX11_byMist_139 ?_
    refine bk_get (wf := cw) (q0 := 22) (ci := 7) (k := 4) (v := .ref (g.2.2 25)) C hP wl_X7 rfl rfl (by decide) wa_786 rfl rfl dX11_byMist_142 ?_
    refine lv_iload_n hx hb dX11_byMist_145 rfl (lv_at hl 1 rfl) ?_
    obtain ⟨g8, hf⟩ := gd_s hf
    refine bk_iald (wf := cw) (q0 := 25) (n := 9) (j := x1.toNatClampNeg) C hP rfl g8 rfl dX11_byMist_146 ?_
    refine lv_icmp_le (tgt := 157) hx hb dX11_byMist_147 (by decide) (fun t147 => ?_) (fun t147 => ?_)
    · have hf := (if_pos t147).symm.trans hf
      exact b_X11_byMist_0_b157 C hex hst hf k0 k H locs ls hP hD hS (lv_sub hl [0, 1, 2, 3, 4, 5] rfl)
    · have hf := (if_neg t147).symm.trans hf
      refine lv_iload hx hb dX11_byMist_150 (lv_at hl 4 rfl) ?_
      refine lv_iload hx hb dX11_byMist_152 (lv_at hl 6 rfl) ?_
      refine lv_iadd hx hb dX11_byMist_154 ?_
      obtain ⟨v9, ev9, hf⟩ := bd_s hf
      rw [← ev9]
      refine lv_istore (lv' := [(4, .int v9), (0, .ref (g.2.2 0)), (1, .int x1), (2, .int x2), (3, .int x3), (5, .int x5), (6, .int (z6.2.1))]) hx hb dX11_byMist_155 hl (by decide) rfl (fun ls hl => ?_)
      exact b_X11_byMist_0_b157 C hex hst hf k0 k H locs ls hP hD hS (lv_sub hl [1, 2, 3, 4, 0, 5] rfl)
theorem lp_X11_byMist_0_h24 {N : Nat} {n : Nat} {x1 : Int32} {x2 : Int32} {x3 : Int32} {x4 : Int32} {x5 : Int32} {σ : Sg} {z : Nat × Int32 × Int32 × Sg} (C : Cx p s m args meth c cX11_byMist 9 (some .int) RX11 g A X) (hex : ∀ x ∈ c.exceptionTable.toList, False) (hst : l.stackTraces = false) (hz : it (fun q => s_X11_byMist_0_h24 N x1 x2 x3 q.1 q.2.1 q.2.2) n (x4, x5, σ) = some z) (k : Bk cw p l e rm_X11_byMist_0 s m args below meth c 9 g A Q 3 18 163 [(4, .int z.2.1)] [] z.2.2.2) : Bk cw p l e rm_X11_byMist_0 s m args below meth c 9 g A Q 3 18 24 [(0, .ref (g.2.2 0)), (1, .int x1), (2, .int x2), (3, .int x3), (4, .int x4), (5, .int x5)] [] σ :=
  it_W (S := Int32 × Int32 × Sg) (fun q => Bk cw p l e rm_X11_byMist_0 s m args below meth c 9 g A Q 3 18 24 [(0, .ref (g.2.2 0)), (1, .int x1), (2, .int x2), (3, .int x3), (4, .int q.1), (5, .int q.2.1)] [] q.2.2) (fun z => Bk cw p l e rm_X11_byMist_0 s m args below meth c 9 g A Q 3 18 163 [(4, .int z.2.1)] [] z.2.2.2) (fun q z hq k0 k => e_X11_byMist_0_h24 C hex hst hq k0 k) n (x4, x5, σ) z hz k
def f_X11_byMist_0 (N : Nat) (x1 : Int32) (x2 : Int32) (x3 : Int32) (σ : Sg) : Option (Zt) :=
(f_X11_needFarm_0 N x1 σ).bind fun q10 =>
if q10.1 = 0 then ((f_X11_needWithin N x2 (1 : Int32) (5 : Int32) (q10.2.2)).bind fun q11 =>
if q11.1 = 0 then ((f_X11_needWithin N x3 (0 : Int32) (10 : Int32) (q11.2.2)).bind fun q12 =>
if q12.1 = 0 then ((it (fun q => s_X11_byMist_0_h24 N x1 x2 x3 q.1 q.2.1 q.2.2) N ((0 : Int32), (0 : Int32), (q12.2.2))).bind fun z13 =>
some (0, (z13.2.1), (z13.2.2.2)))
else some (q12.1, 0, q12.2.2))
else some (q11.1, 0, q11.2.2))
else some (q10.1, 0, q10.2.2)
set_option maxHeartbeats 4000000 in
set_option maxRecDepth 100000 in
theorem b_X11_byMist_0 {N : Nat} {x1 : Int32} {x2 : Int32} {x3 : Int32} {σ : Sg} {z : Zt} (C : Cx p s m args meth c cX11_byMist 9 (some .int) RX11 g A X) (hex : ∀ x ∈ c.exceptionTable.toList, False) (hst : l.stackTraces = false) (hf : f_X11_byMist_0 N x1 x2 x3 σ = some z) : Bk cw p l e rm_X11_byMist_0 s m args below meth c 9 g A (vx_MQ below (qTi cw g A z) (xT cw g A z) args s 3 18 A) 0 0 0 [(0, .ref (g.2.2 0)), (1, .int x1), (2, .int x2), (3, .int x3)] [] σ := by
  obtain ⟨hx, hb, hr, hml, hown, hts, hK, hlocks, hXX, hA, hXo⟩ := id C
  intro H locs ls hP hD hS hl
  unfold f_X11_byMist_0 at hf
  refine lv_aload_n hx hb dX11_byMist_0 rfl (lv_at hl 0 rfl) ?_
  refine lv_iload_n hx hb dX11_byMist_1 rfl (lv_at hl 1 rfl) ?_
  obtain ⟨q10, hq10, hf⟩ := bi_s hf
  refine bk_TV (wf := cw) (q0 := 0) (ci := 10) (rest := []) [.int x1] C hex hP hD hS hl.1 (c_X11_needFarm_0 hXo hst hq10) (cwA_V 1 hts wa_791 wa_788 wa_789 wa_790 wa_2 rfl rfl nd_X11_needFarm ⟨Nat.le_of_ble_eq_true rfl, Nat.le_of_ble_eq_true rfl⟩) rfl rfl rfl rfl (Nat.le_of_ble_eq_true rfl) dX11_byMist_2 ⟨Nat.le_of_ble_eq_true rfl, Nat.le_of_ble_eq_true rfl⟩ ⟨Nat.le_of_ble_eq_true rfl, Nat.le_of_ble_eq_true rfl⟩ (fun h0 => by have hf := (if_neg h0).symm.trans hf; cases hf; exact ⟨rfl, rfl⟩) (fun h0 H locs hP hD hS => ?_)
  have hf := (if_pos h0).symm.trans hf
  refine lv_iload_n hx hb dX11_byMist_5 rfl (lv_at hl 2 rfl) ?_
  refine lv_iconst (v := (1 : Int32)) hx hb dX11_byMist_6 (by decide) ?_
  refine lv_iconst (v := (5 : Int32)) hx hb dX11_byMist_7 (by decide) ?_
  obtain ⟨q11, hq11, hf⟩ := bi_s hf
  refine bk_TS (wf := cw) (rest := []) [.int x2, .int (1 : Int32), .int (5 : Int32)] C hex hP hD hS hl.1 (c_X11_needWithin hXo hst hq11) (cwA_S 3 hts wa_1020 wa_1018 wa_1019 wa_2 rfl rfl nd_X11_needWithin ⟨Nat.le_of_ble_eq_true rfl, Nat.le_of_ble_eq_true rfl⟩) rfl rfl (Nat.le_of_ble_eq_true rfl) dX11_byMist_8 ⟨Nat.le_of_ble_eq_true rfl, Nat.le_of_ble_eq_true rfl⟩ ⟨Nat.le_of_ble_eq_true rfl, Nat.le_of_ble_eq_true rfl⟩ (fun h0 => by have hf := (if_neg h0).symm.trans hf; cases hf; exact ⟨rfl, rfl⟩) (fun h0 H locs hP hD hS => ?_)
  have hf := (if_pos h0).symm.trans hf
  refine lv_iload_n hx hb dX11_byMist_11 rfl (lv_at hl 3 rfl) ?_
  refine lv_iconst (v := (0 : Int32)) hx hb dX11_byMist_12 (by decide) ?_
  refine lv_bipush (v := (10 : Int32)) hx hb dX11_byMist_13 (by decide) ?_
  obtain ⟨q12, hq12, hf⟩ := bi_s hf
  refine bk_TS (wf := cw) (rest := []) [.int x3, .int (0 : Int32), .int (10 : Int32)] C hex hP hD hS hl.1 (c_X11_needWithin hXo hst hq12) (cwA_S 3 hts wa_1020 wa_1018 wa_1019 wa_2 rfl rfl nd_X11_needWithin ⟨Nat.le_of_ble_eq_true rfl, Nat.le_of_ble_eq_true rfl⟩) rfl rfl (Nat.le_of_ble_eq_true rfl) dX11_byMist_15 ⟨Nat.le_of_ble_eq_true rfl, Nat.le_of_ble_eq_true rfl⟩ ⟨Nat.le_of_ble_eq_true rfl, Nat.le_of_ble_eq_true rfl⟩ (fun h0 => by have hf := (if_neg h0).symm.trans hf; cases hf; exact ⟨rfl, rfl⟩) (fun h0 H locs hP hD hS => ?_)
  have hf := (if_pos h0).symm.trans hf
  refine lv_iconst (v := (0 : Int32)) hx hb dX11_byMist_18 (by decide) ?_
  refine lv_istore (lv' := [(4, .int (0 : Int32)), (0, .ref (g.2.2 0)), (1, .int x1), (2, .int x2), (3, .int x3)]) hx hb dX11_byMist_19 hl (by decide) rfl (fun ls hl => ?_)
  refine lv_iconst (v := (0 : Int32)) hx hb dX11_byMist_21 (by decide) ?_
  refine lv_istore (lv' := [(5, .int (0 : Int32)), (4, .int (0 : Int32)), (0, .ref (g.2.2 0)), (1, .int x1), (2, .int x2), (3, .int x3)]) hx hb dX11_byMist_22 hl (by decide) rfl (fun ls hl => ?_)
  obtain ⟨z13, hz13, hf⟩ := bi_s hf
  refine lp_X11_byMist_0_h24 C hex hst hz13 ?_ H locs ls hP hD hS (lv_sub hl [2, 3, 4, 5, 1, 0] rfl)
  intro H locs ls hP hD hS hl
  refine lv_iload hx hb dX11_byMist_163 (lv_at hl 0 rfl) ?_
  exact bk_iretT C hP hD hS hf (Nat.le_of_ble_eq_true rfl) (Nat.le_of_ble_eq_true rfl) dX11_byMist_165
theorem c_X11_byMist_0 {N : Nat} {x1 : Int32} {x2 : Int32} {x3 : Int32} {σ : Sg} {z : Zt} (hX : xOK g X) (hst : l.stackTraces = false) (hf : f_X11_byMist_0 N x1 x2 x3 σ = some z) : MetTi l yX11_byMist (Cond.code yX11_byMist cX11_byMist 9 (some .int) :: wsA) rm_X11_byMist_0 3 18 cw g X [.ref (g.2.2 0), .int x1, .int x2, .int x3] σ z :=
  MetTi_of hX (by decide) (Nat.le_of_ble_eq_true rfl) (fun p e s m args below meth c A C hex => b_X11_byMist_0 C hex hst hf)
-- X11_gain_0: gain(III)I
abbrev rm_X11_gain_0 : Room := { frames := 1, cells := 0, slots := 0, locals := 20 }
theorem nd_X11_gain : yX11_gain.cls ≠ "java/lang/invoke/MethodHandle" ∧ yX11_gain.cls ≠ "java/lang/invoke/VarHandle" ∧ (parseMethodDescriptor yX11_gain.desc).map (fun d => d.parameters.length) = some 3 := by decide +kernel
def f_X11_gain_0 (N : Nat) (x1 : Int32) (x2 : Int32) (x3 : Int32) (σ : Sg) : Option (Int32 × Sg) :=
(f_J6_bitCount_0f7a4 N (x2 &&& (((1 : Int32) <<< (x1 &&& 31)) ^^^ (-1 : Int32))) σ).bind fun q1 =>
if (x1 < 0 ∨ 9 ≤ x1.toNatClampNeg) then none else
some (((q1.1 - ((2 : Int32) * x3)) - ((q1.2) 61 x1.toNatClampNeg)), (q1.2))
set_option maxHeartbeats 4000000 in
set_option maxRecDepth 100000 in
theorem b_X11_gain_0 {N : Nat} {x1 : Int32} {x2 : Int32} {x3 : Int32} {σ : Sg} {z : Int32 × Sg} (C : Cx p s m args meth c cX11_gain 4 (some .int) RX11 g A X) (hf : f_X11_gain_0 N x1 x2 x3 σ = some z) : Bk cw p l e rm_X11_gain_0 s m args below meth c 4 g A (MQ below (qI cw g A z.1 z.2) args s 0 0 A) 0 0 0 [(0, .ref (g.2.2 0)), (1, .int x1), (2, .int x2), (3, .int x3)] [] σ := by
  obtain ⟨hx, hb, hr, hml, hown, hts, hK, hlocks, hXX, hA, hXo⟩ := id C
  intro H locs ls hP hD hS hl
  unfold f_X11_gain_0 at hf
  refine lv_iload_n hx hb dX11_gain_0 rfl (lv_at hl 2 rfl) ?_
  refine lv_iconst (v := (1 : Int32)) hx hb dX11_gain_1 (by decide) ?_
  refine lv_iload_n hx hb dX11_gain_2 rfl (lv_at hl 1 rfl) ?_
  refine lv_ishl hx hb dX11_gain_3 ?_
  refine lv_iconst (v := (-1 : Int32)) hx hb dX11_gain_4 (by decide) ?_
  refine lv_ixor hx hb dX11_gain_5 ?_
  refine lv_iand hx hb dX11_gain_6 ?_
  obtain ⟨q1, hq1, hf⟩ := bi_s hf
  refine bk_SI (wf := cw) (rest := []) [.int (x2 &&& (((1 : Int32) <<< (x1 &&& 31)) ^^^ (-1 : Int32)))] C hP hD hS hl.1 (c_J6_bitCount_0f7a4 hXo hq1) (cwA_S 1 hts wa_699 wa_1071 wa_697 wa_698 rfl rfl nd_J6_bitCount_0f7a4 ⟨Nat.le_of_ble_eq_true rfl, Nat.le_of_ble_eq_true rfl⟩) rfl rfl (Nat.le_of_ble_eq_true rfl) dX11_gain_7 ⟨Nat.le_of_ble_eq_true rfl, Nat.le_of_ble_eq_true rfl⟩ (fun H locs hP hD hS => ?_)
  refine lv_iconst (v := (2 : Int32)) hx hb dX11_gain_10 (by decide) ?_
  refine lv_iload_n hx hb dX11_gain_11 rfl (lv_at hl 3 rfl) ?_
  refine lv_imul hx hb dX11_gain_12 ?_
  refine lv_isub hx hb dX11_gain_13 ?_
  refine lv_aload_n hx hb dX11_gain_14 rfl (lv_at hl 0 rfl) ?_
  refine bk_get (wf := cw) (q0 := 0) (ci := 10) (k := 10) (v := .ref (g.2.2 55)) C hP wl_X11 rfl rfl (by decide) wa_42 rfl rfl dX11_gain_15 ?_
  refine bk_get (wf := cw) (q0 := 55) (ci := 2) (k := 1) (v := .ref (g.2.2 61)) C hP wl_X2 rfl rfl (by decide) wa_1083 rfl rfl dX11_gain_18 ?_
  refine lv_iload_n hx hb dX11_gain_21 rfl (lv_at hl 1 rfl) ?_
  obtain ⟨g2, hf⟩ := gd_s hf
  refine bk_iald (wf := cw) (q0 := 61) (n := 9) (j := x1.toNatClampNeg) C hP rfl g2 rfl dX11_gain_22 ?_
  refine lv_isub hx hb dX11_gain_23 ?_
  cases hf
  exact bk_iret C hP hD hS rfl dX11_gain_24
theorem c_X11_gain_0 {N : Nat} {x1 : Int32} {x2 : Int32} {x3 : Int32} {σ : Sg} {z : Int32 × Sg} (hX : xOK g X) (hf : f_X11_gain_0 N x1 x2 x3 σ = some z) : MetI l yX11_gain (Cond.code yX11_gain cX11_gain 4 (some .int) :: wsA) rm_X11_gain_0 cw g X [.ref (g.2.2 0), .int x1, .int x2, .int x3] σ z.1 z.2 :=
  MetI_of hX (by decide) (Nat.le_of_ble_eq_true rfl) (fun p e s m args below meth c A C => b_X11_gain_0 C hf)
-- X11_playAll_0: playAll(II)V
abbrev rm_X11_playAll_0 : Room := { frames := 6, cells := 0, slots := 0, locals := 144 }
theorem nd_X11_playAll : yX11_playAll.cls ≠ "java/lang/invoke/MethodHandle" ∧ yX11_playAll.cls ≠ "java/lang/invoke/VarHandle" ∧ (parseMethodDescriptor yX11_playAll.desc).map (fun d => d.parameters.length) = some 2 := by decide +kernel
def s_X11_playAll_0_h63 (N : Nat) (x1 : Int32) (x2 : Int32) (x3 : Int32) (x4 : Int32) (x5 : Int32) (σ : Sg) : Option (Nat × Int32 × Int32 × Sg) :=
if (9 : Int32) ≤ x5 then (some (1, x4, 0, σ))
else ((f_X2_go_55 N σ).bind fun q1 =>
bd (x4 ||| q1.1) fun v2 =>
bd (x5 + (1 : Int32)) fun v3 =>
some (0, v2, v3, (q1.2)))
set_option maxHeartbeats 4000000 in
set_option maxRecDepth 100000 in
theorem e_X11_playAll_0_h63 {N : Nat} {x1 : Int32} {x2 : Int32} {x3 : Int32} {x4 : Int32} {x5 : Int32} {σ : Sg} {z : Nat × Int32 × Int32 × Sg} (C : Cx p s m args meth c cX11_playAll 6 none RX11 g A X) (hf : s_X11_playAll_0_h63 N x1 x2 x3 x4 x5 σ = some z) (k0 : z.1 = 0 → Bk cw p l e rm_X11_playAll_0 s m args below meth c 6 g A Q 0 0 63 [(0, .ref (g.2.2 0)), (1, .int x1), (2, .int x2), (3, .int x3), (4, .int z.2.1), (5, .int z.2.2.1)] [] z.2.2.2) (k : ¬ z.1 = 0 → Bk cw p l e rm_X11_playAll_0 s m args below meth c 6 g A Q 0 0 88 [(0, .ref (g.2.2 0)), (1, .int x1), (2, .int x2), (3, .int x3), (4, .int z.2.1)] [] z.2.2.2) : Bk cw p l e rm_X11_playAll_0 s m args below meth c 6 g A Q 0 0 63 [(0, .ref (g.2.2 0)), (1, .int x1), (2, .int x2), (3, .int x3), (4, .int x4), (5, .int x5)] [] σ := by
  obtain ⟨hx, hb, hr, hml, hown, hts, hK, hlocks, hXX, hA, hXo⟩ := id C
  intro H locs ls hP hD hS hl
  unfold s_X11_playAll_0_h63 at hf
  refine lv_iload hx hb dX11_playAll_63 (lv_at hl 5 rfl) ?_
  refine lv_bipush (v := (9 : Int32)) hx hb dX11_playAll_65 (by decide) ?_
  refine lv_icmp_ge (tgt := 88) hx hb dX11_playAll_67 (by decide) (fun t67 => ?_) (fun t67 => ?_)
  · have hf := (if_pos t67).symm.trans hf
    cases hf
    exact (k (show ¬ (1 : Nat) = 0 by decide)) H locs ls hP hD hS (lv_sub hl [0, 1, 2, 3, 4] rfl)
  · have hf := (if_neg t67).symm.trans hf
    refine lv_iload hx hb dX11_playAll_70 (lv_at hl 4 rfl) ?_
    refine lv_aload_n hx hb dX11_playAll_72 rfl (lv_at hl 0 rfl) ?_
    refine bk_get (wf := cw) (q0 := 0) (ci := 10) (k := 10) (v := .ref (g.2.2 55)) C hP wl_X11 rfl rfl (by decide) wa_42 rfl rfl dX11_playAll_73 ?_
    obtain ⟨q1, hq1, hf⟩ := bi_s hf
    refine bk_VI (wf := cw) (q0 := 55) (ci := 2) (rest := [.int x4]) [] C hP hD hS hl.1 (c_X2_go_55 hXo hq1) (cwA_V 0 hts wa_833 wa_830 wa_831 wa_832 wa_41 rfl rfl nd_X2_go ⟨Nat.le_of_ble_eq_true rfl, Nat.le_of_ble_eq_true rfl⟩) rfl rfl rfl rfl (Nat.le_of_ble_eq_true rfl) dX11_playAll_76 ⟨Nat.le_of_ble_eq_true rfl, Nat.le_of_ble_eq_true rfl⟩ (fun H locs hP hD hS => ?_)
    refine lv_ior hx hb dX11_playAll_79 ?_
    obtain ⟨v2, ev2, hf⟩ := bd_s hf
    rw [← ev2]
    refine lv_istore (lv' := [(4, .int v2), (0, .ref (g.2.2 0)), (1, .int x1), (2, .int x2), (3, .int x3), (5, .int x5)]) hx hb dX11_playAll_80 hl (by decide) rfl (fun ls hl => ?_)
    obtain ⟨v3, ev3, hf⟩ := bd_s hf
    refine lv_iinc (v := v3) (lv' := [(5, .int v3), (4, .int v2), (0, .ref (g.2.2 0)), (1, .int x1), (2, .int x2), (3, .int x3)]) hx hb dX11_playAll_82 hl (k := 5) rfl (by rw [ev3]; rfl) (by decide) rfl (fun ls hl => ?_)
    refine lv_goto (tgt := 63) hx hb dX11_playAll_85 (by decide) ?_
    cases hf
    exact k0 rfl H locs ls hP hD hS (lv_sub hl [2, 3, 4, 5, 1, 0] rfl)
theorem lp_X11_playAll_0_h63 {N : Nat} {n : Nat} {x1 : Int32} {x2 : Int32} {x3 : Int32} {x4 : Int32} {x5 : Int32} {σ : Sg} {z : Nat × Int32 × Int32 × Sg} (C : Cx p s m args meth c cX11_playAll 6 none RX11 g A X) (hz : it (fun q => s_X11_playAll_0_h63 N x1 x2 x3 q.1 q.2.1 q.2.2) n (x4, x5, σ) = some z) (k : Bk cw p l e rm_X11_playAll_0 s m args below meth c 6 g A Q 0 0 88 [(0, .ref (g.2.2 0)), (1, .int x1), (2, .int x2), (3, .int x3), (4, .int z.2.1)] [] z.2.2.2) : Bk cw p l e rm_X11_playAll_0 s m args below meth c 6 g A Q 0 0 63 [(0, .ref (g.2.2 0)), (1, .int x1), (2, .int x2), (3, .int x3), (4, .int x4), (5, .int x5)] [] σ :=
  it_W (S := Int32 × Int32 × Sg) (fun q => Bk cw p l e rm_X11_playAll_0 s m args below meth c 6 g A Q 0 0 63 [(0, .ref (g.2.2 0)), (1, .int x1), (2, .int x2), (3, .int x3), (4, .int q.1), (5, .int q.2.1)] [] q.2.2) (fun z => Bk cw p l e rm_X11_playAll_0 s m args below meth c 6 g A Q 0 0 88 [(0, .ref (g.2.2 0)), (1, .int x1), (2, .int x2), (3, .int x3), (4, .int z.2.1)] [] z.2.2.2) (fun q z hq k0 k => e_X11_playAll_0_h63 C hq k0 k) n (x4, x5, σ) z hz k
def f_X11_playAll_0_b57 (N : Nat) (x1 : Int32) (x2 : Int32) (x3 : Int32) (σ : Sg) : Option (Nat × Int32 × Sg) :=
(it (fun q => s_X11_playAll_0_h63 N x1 x2 x3 q.1 q.2.1 q.2.2) N ((0 : Int32), (0 : Int32), σ)).bind fun z4 =>
(f_X11_gain_0 N x1 (z4.2.1) (x3 >>> ((1 : Int32) &&& 31)) (z4.2.2.2)).bind fun q5 =>
if (x3 < 0 ∨ 8 ≤ x3.toNatClampNeg) then none else
bd (wr (q5.2) 64 (x3.toNatClampNeg) q5.1) fun σ7 =>
(f_X11_gain_0 N x2 (z4.2.1) (x3 &&& (1 : Int32)) σ7).bind fun q8 =>
if (((4 : Int32) + x3) < 0 ∨ 8 ≤ ((4 : Int32) + x3).toNatClampNeg) then none else
bd (wr (q8.2) 64 (((4 : Int32) + x3).toNatClampNeg) q8.1) fun σ10 =>
bd (x3 + (1 : Int32)) fun v11 =>
some (0, v11, σ10)
set_option maxHeartbeats 4000000 in
set_option maxRecDepth 100000 in
theorem b_X11_playAll_0_b57 {N : Nat} {x1 : Int32} {x2 : Int32} {x3 : Int32} {σ : Sg} {z : Nat × Int32 × Sg} (C : Cx p s m args meth c cX11_playAll 6 none RX11 g A X) (hf : f_X11_playAll_0_b57 N x1 x2 x3 σ = some z) (k0 : z.1 = 0 → Bk cw p l e rm_X11_playAll_0 s m args below meth c 6 g A Q 0 0 2 [(0, .ref (g.2.2 0)), (1, .int x1), (2, .int x2), (3, .int z.2.1)] [] z.2.2) (k : ¬ z.1 = 0 → Bk cw p l e rm_X11_playAll_0 s m args below meth c 6 g A Q 0 0 128 [] [] z.2.2) : Bk cw p l e rm_X11_playAll_0 s m args below meth c 6 g A Q 0 0 57 [(0, .ref (g.2.2 0)), (1, .int x1), (2, .int x2), (3, .int x3)] [] σ := by
  obtain ⟨hx, hb, hr, hml, hown, hts, hK, hlocks, hXX, hA, hXo⟩ := id C
  intro H locs ls hP hD hS hl
  unfold f_X11_playAll_0_b57 at hf
  refine lv_iconst (v := (0 : Int32)) hx hb dX11_playAll_57 (by decide) ?_
  refine lv_istore (lv' := [(4, .int (0 : Int32)), (0, .ref (g.2.2 0)), (1, .int x1), (2, .int x2), (3, .int x3)]) hx hb dX11_playAll_58 hl (by decide) rfl (fun ls hl => ?_)
  refine lv_iconst (v := (0 : Int32)) hx hb dX11_playAll_60 (by decide) ?_
  refine lv_istore (lv' := [(5, .int (0 : Int32)), (4, .int (0 : Int32)), (0, .ref (g.2.2 0)), (1, .int x1), (2, .int x2), (3, .int x3)]) hx hb dX11_playAll_61 hl (by decide) rfl (fun ls hl => ?_)
  obtain ⟨z4, hz4, hf⟩ := bi_s hf
  refine lp_X11_playAll_0_h63 C hz4 ?_ H locs ls hP hD hS (lv_sub hl [2, 3, 4, 5, 1, 0] rfl)
  intro H locs ls hP hD hS hl
  refine lv_aload_n hx hb dX11_playAll_88 rfl (lv_at hl 0 rfl) ?_
  refine bk_get (wf := cw) (q0 := 0) (ci := 10) (k := 12) (v := .ref (g.2.2 64)) C hP wl_X11 rfl rfl (by decide) wa_45 rfl rfl dX11_playAll_89 ?_
  refine lv_iload_n hx hb dX11_playAll_92 rfl (lv_at hl 3 rfl) ?_
  refine lv_aload_n hx hb dX11_playAll_93 rfl (lv_at hl 0 rfl) ?_
  refine lv_iload_n hx hb dX11_playAll_94 rfl (lv_at hl 1 rfl) ?_
  refine lv_iload hx hb dX11_playAll_95 (lv_at hl 4 rfl) ?_
  refine lv_iload_n hx hb dX11_playAll_97 rfl (lv_at hl 3 rfl) ?_
  refine lv_iconst (v := (1 : Int32)) hx hb dX11_playAll_98 (by decide) ?_
  refine lv_ishr hx hb dX11_playAll_99 ?_
  obtain ⟨q5, hq5, hf⟩ := bi_s hf
  refine bk_VI (wf := cw) (q0 := 0) (ci := 10) (rest := [.int x3, .ref (g.2.2 64)]) [.int x1, .int (z4.2.1), .int (x3 >>> ((1 : Int32) &&& 31))] C hP hD hS hl.1 (c_X11_gain_0 hXo hq5) (cwA_V 3 hts wa_1378 wa_1375 wa_1376 wa_1377 wa_2 rfl rfl nd_X11_gain ⟨Nat.le_of_ble_eq_true rfl, Nat.le_of_ble_eq_true rfl⟩) rfl rfl rfl rfl (Nat.le_of_ble_eq_true rfl) dX11_playAll_100 ⟨Nat.le_of_ble_eq_true rfl, Nat.le_of_ble_eq_true rfl⟩ (fun H locs hP hD hS => ?_)
  obtain ⟨g6, hf⟩ := gd_s hf
  obtain ⟨σ7, eσ7, hf⟩ := bd_s hf
  refine bk_iast (wf := cw) (σ1 := σ7) (q0 := 64) (n := 8) (j := x3.toNatClampNeg) C hP hD hS rfl g6 rfl (by rw [eσ7]; exact cw_a64 g _ _ _) dX11_playAll_103 (fun H locs hP hD hS => ?_)
  refine lv_aload_n hx hb dX11_playAll_104 rfl (lv_at hl 0 rfl) ?_
  refine bk_get (wf := cw) (q0 := 0) (ci := 10) (k := 12) (v := .ref (g.2.2 64)) C hP wl_X11 rfl rfl (by decide) wa_45 rfl rfl dX11_playAll_105 ?_
  refine lv_iconst (v := (4 : Int32)) hx hb dX11_playAll_108 (by decide) ?_
  refine lv_iload_n hx hb dX11_playAll_109 rfl (lv_at hl 3 rfl) ?_
  refine lv_iadd hx hb dX11_playAll_110 ?_
  refine lv_aload_n hx hb dX11_playAll_111 rfl (lv_at hl 0 rfl) ?_
  refine lv_iload_n hx hb dX11_playAll_112 rfl (lv_at hl 2 rfl) ?_
  refine lv_iload hx hb dX11_playAll_113 (lv_at hl 4 rfl) ?_
  refine lv_iload_n hx hb dX11_playAll_115 rfl (lv_at hl 3 rfl) ?_
  refine lv_iconst (v := (1 : Int32)) hx hb dX11_playAll_116 (by decide) ?_
  refine lv_iand hx hb dX11_playAll_117 ?_
  obtain ⟨q8, hq8, hf⟩ := bi_s hf
  refine bk_VI (wf := cw) (q0 := 0) (ci := 10) (rest := [.int ((4 : Int32) + x3), .ref (g.2.2 64)]) [.int x2, .int (z4.2.1), .int (x3 &&& (1 : Int32))] C hP hD hS hl.1 (c_X11_gain_0 hXo hq8) (cwA_V 3 hts wa_1378 wa_1375 wa_1376 wa_1377 wa_2 rfl rfl nd_X11_gain ⟨Nat.le_of_ble_eq_true rfl, Nat.le_of_ble_eq_true rfl⟩) rfl rfl rfl rfl (Nat.le_of_ble_eq_true rfl) dX11_playAll_118 ⟨Nat.le_of_ble_eq_true rfl, Nat.le_of_ble_eq_true rfl⟩ (fun H locs hP hD hS => ?_)
  obtain ⟨g9, hf⟩ := gd_s hf
  obtain ⟨σ10, eσ10, hf⟩ := bd_s hf
  refine bk_iast (wf := cw) (σ1 := σ10) (q0 := 64) (n := 8) (j := ((4 : Int32) + x3).toNatClampNeg) C hP hD hS rfl g9 rfl (by rw [eσ10]; exact cw_a64 g _ _ _) dX11_playAll_121 (fun H locs hP hD hS => ?_)
  obtain ⟨v11, ev11, hf⟩ := bd_s hf
  refine lv_iinc (v := v11) (lv' := [(3, .int v11), (0, .ref (g.2.2 0)), (1, .int x1), (2, .int x2), (4, .int (z4.2.1))]) hx hb dX11_playAll_122 hl (k := 3) rfl (by rw [ev11]; rfl) (by decide) rfl (fun ls hl => ?_)
  refine lv_goto (tgt := 2) hx hb dX11_playAll_125 (by decide) ?_
  cases hf
  exact k0 rfl H locs ls hP hD hS (lv_sub hl [1, 2, 3, 0] rfl)
def f_X11_playAll_0_b39 (N : Nat) (x1 : Int32) (x2 : Int32) (x3 : Int32) (σ : Sg) : Option (Nat × Int32 × Sg) :=
if (x3 &&& (1 : Int32)) = (1 : Int32) then ((f_X7_startNod_56 N x2 σ).bind fun q12 =>
f_X11_playAll_0_b57 N x1 x2 x3 q12)
else (f_X11_playAll_0_b57 N x1 x2 x3 σ)
set_option maxHeartbeats 4000000 in
set_option maxRecDepth 100000 in
theorem b_X11_playAll_0_b39 {N : Nat} {x1 : Int32} {x2 : Int32} {x3 : Int32} {σ : Sg} {z : Nat × Int32 × Sg} (C : Cx p s m args meth c cX11_playAll 6 none RX11 g A X) (hf : f_X11_playAll_0_b39 N x1 x2 x3 σ = some z) (k0 : z.1 = 0 → Bk cw p l e rm_X11_playAll_0 s m args below meth c 6 g A Q 0 0 2 [(0, .ref (g.2.2 0)), (1, .int x1), (2, .int x2), (3, .int z.2.1)] [] z.2.2) (k : ¬ z.1 = 0 → Bk cw p l e rm_X11_playAll_0 s m args below meth c 6 g A Q 0 0 128 [] [] z.2.2) : Bk cw p l e rm_X11_playAll_0 s m args below meth c 6 g A Q 0 0 39 [(0, .ref (g.2.2 0)), (1, .int x1), (2, .int x2), (3, .int x3)] [] σ := by
  obtain ⟨hx, hb, hr, hml, hown, hts, hK, hlocks, hXX, hA, hXo⟩ := id C
  intro H locs ls hP hD hS hl
  unfold f_X11_playAll_0_b39 at hf
  refine lv_iload_n hx hb dX11_playAll_39 rfl (lv_at hl 3 rfl) ?_
  refine lv_iconst (v := (1 : Int32)) hx hb dX11_playAll_40 (by decide) ?_
  refine lv_iand hx hb dX11_playAll_41 ?_
  refine lv_iconst (v := (1 : Int32)) hx hb dX11_playAll_42 (by decide) ?_
  refine lv_icmp_ne (tgt := 57) hx hb dX11_playAll_43 (by decide) (fun t43 => ?_) (fun t43 => ?_)
  · have hf := (if_neg t43).symm.trans hf
    exact b_X11_playAll_0_b57 C hf k0 k H locs ls hP hD hS (lv_sub hl [0, 1, 2, 3] rfl)
  · have hf := (if_pos t43).symm.trans hf
    refine lv_aload_n hx hb dX11_playAll_46 rfl (lv_at hl 0 rfl) ?_
    refine bk_get (wf := cw) (q0 := 0) (ci := 10) (k := 10) (v := .ref (g.2.2 55)) C hP wl_X11 rfl rfl (by decide) wa_42 rfl rfl dX11_playAll_47 ?_
    refine bk_get (wf := cw) (q0 := 55) (ci := 2) (k := 0) (v := .ref (g.2.2 56)) C hP wl_X2 rfl rfl (by decide) wa_808 rfl rfl dX11_playAll_50 ?_
    refine lv_iload_n hx hb dX11_playAll_53 rfl (lv_at hl 2 rfl) ?_
    obtain ⟨q12, hq12, hf⟩ := bi_s hf
    refine bk_VV (wf := cw) (q0 := 56) (ci := 7) (rest := []) [.int x2] C hP hD hS hl.1 (c_X7_startNod_56 hXo hq12) (cwA_V 1 hts wa_930 wa_927 wa_928 wa_929 wa_93 rfl rfl nd_X7_startNod ⟨Nat.le_of_ble_eq_true rfl, Nat.le_of_ble_eq_true rfl⟩) rfl rfl rfl rfl (Nat.le_of_ble_eq_true rfl) dX11_playAll_54 ⟨Nat.le_of_ble_eq_true rfl, Nat.le_of_ble_eq_true rfl⟩ (fun H locs hP hD hS => ?_)
    exact b_X11_playAll_0_b57 C hf k0 k H locs ls hP hD hS (lv_sub hl [0, 1, 2, 3] rfl)
def s_X11_playAll_0_h2 (N : Nat) (x1 : Int32) (x2 : Int32) (x3 : Int32) (σ : Sg) : Option (Nat × Int32 × Sg) :=
if (4 : Int32) ≤ x3 then (some (1, 0, σ))
else ((f_X2_start_55_22 N σ).bind fun q13 =>
if (x3 >>> ((1 : Int32) &&& 31)) = (1 : Int32) then ((f_X7_startNod_56 N x1 q13).bind fun q14 =>
f_X11_playAll_0_b39 N x1 x2 x3 q14)
else (f_X11_playAll_0_b39 N x1 x2 x3 q13))
set_option maxHeartbeats 4000000 in
set_option maxRecDepth 100000 in
theorem e_X11_playAll_0_h2 {N : Nat} {x1 : Int32} {x2 : Int32} {x3 : Int32} {σ : Sg} {z : Nat × Int32 × Sg} (C : Cx p s m args meth c cX11_playAll 6 none RX11 g A X) (hf : s_X11_playAll_0_h2 N x1 x2 x3 σ = some z) (k0 : z.1 = 0 → Bk cw p l e rm_X11_playAll_0 s m args below meth c 6 g A Q 0 0 2 [(0, .ref (g.2.2 0)), (1, .int x1), (2, .int x2), (3, .int z.2.1)] [] z.2.2) (k : ¬ z.1 = 0 → Bk cw p l e rm_X11_playAll_0 s m args below meth c 6 g A Q 0 0 128 [] [] z.2.2) : Bk cw p l e rm_X11_playAll_0 s m args below meth c 6 g A Q 0 0 2 [(0, .ref (g.2.2 0)), (1, .int x1), (2, .int x2), (3, .int x3)] [] σ := by
  obtain ⟨hx, hb, hr, hml, hown, hts, hK, hlocks, hXX, hA, hXo⟩ := id C
  intro H locs ls hP hD hS hl
  unfold s_X11_playAll_0_h2 at hf
  refine lv_iload_n hx hb dX11_playAll_2 rfl (lv_at hl 3 rfl) ?_
  refine lv_iconst (v := (4 : Int32)) hx hb dX11_playAll_3 (by decide) ?_
  refine lv_icmp_ge (tgt := 128) hx hb dX11_playAll_4 (by decide) (fun t4 => ?_) (fun t4 => ?_)
  · have hf := (if_pos t4).symm.trans hf
    cases hf
    exact (k (show ¬ (1 : Nat) = 0 by decide)) H locs ls hP hD hS (lv_sub hl [] rfl)
  · have hf := (if_neg t4).symm.trans hf
    refine lv_aload_n hx hb dX11_playAll_7 rfl (lv_at hl 0 rfl) ?_
    refine bk_get (wf := cw) (q0 := 0) (ci := 10) (k := 10) (v := .ref (g.2.2 55)) C hP wl_X11 rfl rfl (by decide) wa_42 rfl rfl dX11_playAll_8 ?_
    refine lv_aload_n hx hb dX11_playAll_11 rfl (lv_at hl 0 rfl) ?_
    refine bk_get (wf := cw) (q0 := 0) (ci := 10) (k := 4) (v := .ref (g.2.2 21)) C hP wl_X11 rfl rfl (by decide) wa_27 rfl rfl dX11_playAll_12 ?_
    refine bk_get (wf := cw) (q0 := 21) (ci := 1) (k := 0) (v := .ref (g.2.2 22)) C hP wl_X1 rfl rfl (by decide) wa_221 rfl rfl dX11_playAll_15 ?_
    obtain ⟨q13, hq13, hf⟩ := bi_s hf
    refine bk_VV (wf := cw) (q0 := 55) (ci := 2) (rest := []) [.ref (g.2.2 22)] C hP hD hS hl.1 (c_X2_start_55_22 hXo hq13) (cwA_V 1 hts wa_825 wa_822 wa_823 wa_824 wa_41 rfl rfl nd_X2_start ⟨Nat.le_of_ble_eq_true rfl, Nat.le_of_ble_eq_true rfl⟩) rfl rfl rfl rfl (Nat.le_of_ble_eq_true rfl) dX11_playAll_18 ⟨Nat.le_of_ble_eq_true rfl, Nat.le_of_ble_eq_true rfl⟩ (fun H locs hP hD hS => ?_)
    refine lv_iload_n hx hb dX11_playAll_21 rfl (lv_at hl 3 rfl) ?_
    refine lv_iconst (v := (1 : Int32)) hx hb dX11_playAll_22 (by decide) ?_
    refine lv_ishr hx hb dX11_playAll_23 ?_
    refine lv_iconst (v := (1 : Int32)) hx hb dX11_playAll_24 (by decide) ?_
    refine lv_icmp_ne (tgt := 39) hx hb dX11_playAll_25 (by decide) (fun t25 => ?_) (fun t25 => ?_)
    · have hf := (if_neg t25).symm.trans hf
      exact b_X11_playAll_0_b39 C hf k0 k H locs ls hP hD hS (lv_sub hl [0, 1, 2, 3] rfl)
    · have hf := (if_pos t25).symm.trans hf
      refine lv_aload_n hx hb dX11_playAll_28 rfl (lv_at hl 0 rfl) ?_
      refine bk_get (wf := cw) (q0 := 0) (ci := 10) (k := 10) (v := .ref (g.2.2 55)) C hP wl_X11 rfl rfl (by decide) wa_42 rfl rfl dX11_playAll_29 ?_
      refine bk_get (wf := cw) (q0 := 55) (ci := 2) (k := 0) (v := .ref (g.2.2 56)) C hP wl_X2 rfl rfl (by decide) wa_808 rfl rfl dX11_playAll_32 ?_
      refine lv_iload_n hx hb dX11_playAll_35 rfl (lv_at hl 1 rfl) ?_
      obtain ⟨q14, hq14, hf⟩ := bi_s hf
      refine bk_VV (wf := cw) (q0 := 56) (ci := 7) (rest := []) [.int x1] C hP hD hS hl.1 (c_X7_startNod_56 hXo hq14) (cwA_V 1 hts wa_930 wa_927 wa_928 wa_929 wa_93 rfl rfl nd_X7_startNod ⟨Nat.le_of_ble_eq_true rfl, Nat.le_of_ble_eq_true rfl⟩) rfl rfl rfl rfl (Nat.le_of_ble_eq_true rfl) dX11_playAll_36 ⟨Nat.le_of_ble_eq_true rfl, Nat.le_of_ble_eq_true rfl⟩ (fun H locs hP hD hS => ?_)
      exact b_X11_playAll_0_b39 C hf k0 k H locs ls hP hD hS (lv_sub hl [0, 1, 2, 3] rfl)
theorem lp_X11_playAll_0_h2 {N : Nat} {n : Nat} {x1 : Int32} {x2 : Int32} {x3 : Int32} {σ : Sg} {z : Nat × Int32 × Sg} (C : Cx p s m args meth c cX11_playAll 6 none RX11 g A X) (hz : it (fun q => s_X11_playAll_0_h2 N x1 x2 q.1 q.2) n (x3, σ) = some z) (k : Bk cw p l e rm_X11_playAll_0 s m args below meth c 6 g A Q 0 0 128 [] [] z.2.2) : Bk cw p l e rm_X11_playAll_0 s m args below meth c 6 g A Q 0 0 2 [(0, .ref (g.2.2 0)), (1, .int x1), (2, .int x2), (3, .int x3)] [] σ :=
  it_W (S := Int32 × Sg) (fun q => Bk cw p l e rm_X11_playAll_0 s m args below meth c 6 g A Q 0 0 2 [(0, .ref (g.2.2 0)), (1, .int x1), (2, .int x2), (3, .int q.1)] [] q.2) (fun z => Bk cw p l e rm_X11_playAll_0 s m args below meth c 6 g A Q 0 0 128 [] [] z.2.2) (fun q z hq k0 k => e_X11_playAll_0_h2 C hq k0 k) n (x3, σ) z hz k
def f_X11_playAll_0 (N : Nat) (x1 : Int32) (x2 : Int32) (σ : Sg) : Option (Sg) :=
(it (fun q => s_X11_playAll_0_h2 N x1 x2 q.1 q.2) N ((0 : Int32), σ)).bind fun z15 =>
some (z15.2.2)
set_option maxHeartbeats 4000000 in
set_option maxRecDepth 100000 in
theorem b_X11_playAll_0 {N : Nat} {x1 : Int32} {x2 : Int32} {σ : Sg} {z : Sg} (C : Cx p s m args meth c cX11_playAll 6 none RX11 g A X) (hf : f_X11_playAll_0 N x1 x2 σ = some z) : Bk cw p l e rm_X11_playAll_0 s m args below meth c 6 g A (MQ below (qV cw g A z) args s 0 0 A) 0 0 0 [(0, .ref (g.2.2 0)), (1, .int x1), (2, .int x2)] [] σ := by
  obtain ⟨hx, hb, hr, hml, hown, hts, hK, hlocks, hXX, hA, hXo⟩ := id C
  intro H locs ls hP hD hS hl
  unfold f_X11_playAll_0 at hf
  refine lv_iconst (v := (0 : Int32)) hx hb dX11_playAll_0 (by decide) ?_
  refine lv_istore_n (lv' := [(3, .int (0 : Int32)), (0, .ref (g.2.2 0)), (1, .int x1), (2, .int x2)]) hx hb dX11_playAll_1 rfl hl (by decide) rfl (fun ls hl => ?_)
  obtain ⟨z15, hz15, hf⟩ := bi_s hf
  refine lp_X11_playAll_0_h2 C hz15 ?_ H locs ls hP hD hS (lv_sub hl [1, 2, 3, 0] rfl)
  intro H locs ls hP hD hS hl
  cases hf
  exact bk_vret C hP hD hS rfl dX11_playAll_128
theorem c_X11_playAll_0 {N : Nat} {x1 : Int32} {x2 : Int32} {σ : Sg} {z : Sg} (hX : xOK g X) (hf : f_X11_playAll_0 N x1 x2 σ = some z) : MetV l yX11_playAll (Cond.code yX11_playAll cX11_playAll 6 none :: wsA) rm_X11_playAll_0 cw g X [.ref (g.2.2 0), .int x1, .int x2] σ z :=
  MetV_of hX (by decide) (Nat.le_of_ble_eq_true rfl) (fun p e s m args below meth c A C => b_X11_playAll_0 C hf)
end GEN
