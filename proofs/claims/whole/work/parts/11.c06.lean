section GEN
variable {p : Program} {l : Launch} {e : Env} {s : State} {m : MethodId} {args : Array Value} {below : List Frame} {meth : Method} {c : Code} {g : WG} {A : Nat → Prop} {X : Xt} {Q : State → Prop}
-- X11_game_0: game(III)I
abbrev rm_X11_game_0 : Room := { frames := 8, cells := 4, slots := 24, locals := 169 }
theorem nd_X11_game : yX11_game.cls ≠ "java/lang/invoke/MethodHandle" ∧ yX11_game.cls ≠ "java/lang/invoke/VarHandle" ∧ (parseMethodDescriptor yX11_game.desc).map (fun d => d.parameters.length) = some 3 := by decide +kernel
def f_X11_game_0_b136 (N : Nat) (x3 : Int32) (x4 : Int32) (x5 : Int32) (x6 : Int32) (σ : Sg) : Option (Nat × Int32 × Int32 × Int32 × Sg) :=
bd (x6 + (-1 : Int32)) fun v1 =>
some (0, x4, x5, v1, σ)
set_option maxHeartbeats 4000000 in
set_option maxRecDepth 100000 in
theorem b_X11_game_0_b136 {N : Nat} {x3 : Int32} {x4 : Int32} {x5 : Int32} {x6 : Int32} {σ : Sg} {z : Nat × Int32 × Int32 × Int32 × Sg} (C : Cx p s m args meth c cX11_game 7 (some .int) RX11 g A X) (hex : ∀ x ∈ c.exceptionTable.toList, False) (hst : l.stackTraces = false) (hf : f_X11_game_0_b136 N x3 x4 x5 x6 σ = some z) (k0 : z.1 = 0 → Bk cw p l e rm_X11_game_0 s m args below meth c 7 g A Q 3 18 72 [(0, .ref (g.2.2 0)), (3, .int x3), (4, .int z.2.1), (5, .int z.2.2.1), (6, .int z.2.2.2.1)] [] z.2.2.2.2) (k : ¬ z.1 = 0 → Bk cw p l e rm_X11_game_0 s m args below meth c 7 g A Q 3 18 142 [(3, .int x3), (4, .int z.2.1), (5, .int z.2.2.1)] [] z.2.2.2.2) : Bk cw p l e rm_X11_game_0 s m args below meth c 7 g A Q 3 18 136 [(0, .ref (g.2.2 0)), (3, .int x3), (4, .int x4), (5, .int x5), (6, .int x6)] [] σ := by
  obtain ⟨hx, hb, hr, hml, hown, hts, hK, hlocks, hXX, hA, hXo⟩ := id C
  intro H locs ls hP hD hS hl
  unfold f_X11_game_0_b136 at hf
  obtain ⟨v1, ev1, hf⟩ := bd_s hf
  refine lv_iinc (v := v1) (lv' := [(6, .int v1), (0, .ref (g.2.2 0)), (3, .int x3), (4, .int x4), (5, .int x5)]) hx hb dX11_game_136 hl (k := 4) rfl (by rw [ev1]; rfl) (by decide) rfl (fun ls hl => ?_)
  refine lv_goto (tgt := 72) hx hb dX11_game_139 (by decide) ?_
  cases hf
  exact k0 rfl H locs ls hP hD hS (lv_sub hl [1, 2, 3, 4, 0] rfl)
def s_X11_game_0_h72 (N : Nat) (x3 : Int32) (x4 : Int32) (x5 : Int32) (x6 : Int32) (σ : Sg) : Option (Nat × Int32 × Int32 × Int32 × Sg) :=
if x6 < 0 then (some (1, x4, x5, 0, σ))
else (if (x6 < 0 ∨ 8 ≤ x6.toNatClampNeg) then none else
if ((x6 ^^^ (2 : Int32)) < 0 ∨ 8 ≤ (x6 ^^^ (2 : Int32)).toNatClampNeg) then none else
if (σ 64 x6.toNatClampNeg) < (σ 64 (x6 ^^^ (2 : Int32)).toNatClampNeg) then (f_X11_game_0_b136 N x3 x4 x5 x6 σ)
else (if (((4 : Int32) + x6) < 0 ∨ 8 ≤ ((4 : Int32) + x6).toNatClampNeg) then none else
if (((4 : Int32) + (x6 ^^^ (1 : Int32))) < 0 ∨ 8 ≤ ((4 : Int32) + (x6 ^^^ (1 : Int32))).toNatClampNeg) then none else
if (σ 64 ((4 : Int32) + x6).toNatClampNeg) < (σ 64 ((4 : Int32) + (x6 ^^^ (1 : Int32))).toNatClampNeg) then (f_X11_game_0_b136 N x3 x4 x5 x6 σ)
else (bd (x4 + (1 : Int32)) fun v6 =>
bd (((10 : Int32) * (x6 >>> ((1 : Int32) &&& 31))) + (x6 &&& (1 : Int32))) fun v7 =>
f_X11_game_0_b136 N x3 v6 v7 x6 σ)))
set_option maxHeartbeats 4000000 in
set_option maxRecDepth 100000 in
theorem e_X11_game_0_h72 {N : Nat} {x3 : Int32} {x4 : Int32} {x5 : Int32} {x6 : Int32} {σ : Sg} {z : Nat × Int32 × Int32 × Int32 × Sg} (C : Cx p s m args meth c cX11_game 7 (some .int) RX11 g A X) (hex : ∀ x ∈ c.exceptionTable.toList, False) (hst : l.stackTraces = false) (hf : s_X11_game_0_h72 N x3 x4 x5 x6 σ = some z) (k0 : z.1 = 0 → Bk cw p l e rm_X11_game_0 s m args below meth c 7 g A Q 3 18 72 [(0, .ref (g.2.2 0)), (3, .int x3), (4, .int z.2.1), (5, .int z.2.2.1), (6, .int z.2.2.2.1)] [] z.2.2.2.2) (k : ¬ z.1 = 0 → Bk cw p l e rm_X11_game_0 s m args below meth c 7 g A Q 3 18 142 [(3, .int x3), (4, .int z.2.1), (5, .int z.2.2.1)] [] z.2.2.2.2) : Bk cw p l e rm_X11_game_0 s m args below meth c 7 g A Q 3 18 72 [(0, .ref (g.2.2 0)), (3, .int x3), (4, .int x4), (5, .int x5), (6, .int x6)] [] σ := by
  obtain ⟨hx, hb, hr, hml, hown, hts, hK, hlocks, hXX, hA, hXo⟩ := id C
  intro H locs ls hP hD hS hl
  unfold s_X11_game_0_h72 at hf
  refine lv_iload hx hb dX11_game_72 (lv_at hl 4 rfl) ?_
  refine lv_if_lt (tgt := 142) hx hb dX11_game_74 (by decide) (fun t74 => ?_) (fun t74 => ?_)
  · have hf := (if_pos t74).symm.trans hf
    cases hf
    exact (k (show ¬ (1 : Nat) = 0 by decide)) H locs ls hP hD hS (lv_sub hl [1, 2, 3] rfl)
  · have hf := (if_neg t74).symm.trans hf
    refine lv_aload_n hx hb dX11_game_77 rfl (lv_at hl 0 rfl) ?_
    refine bk_get (wf := cw) (q0 := 0) (ci := 10) (k := 12) (v := .ref (g.2.2 64)) C hP wl_X11 rfl rfl (by decide) wa_45 rfl rfl dX11_game_78 ?_
    refine lv_iload hx hb dX11_game_81 (lv_at hl 4 rfl) ?_
    obtain ⟨g2, hf⟩ := gd_s hf
    refine bk_iald (wf := cw) (q0 := 64) (n := 8) (j := x6.toNatClampNeg) C hP rfl g2 rfl dX11_game_83 ?_
    refine lv_aload_n hx hb dX11_game_84 rfl (lv_at hl 0 rfl) ?_
    refine bk_get (wf := cw) (q0 := 0) (ci := 10) (k := 12) (v := .ref (g.2.2 64)) C hP wl_X11 rfl rfl (by decide) wa_45 rfl rfl dX11_game_85 ?_
    refine lv_iload hx hb dX11_game_88 (lv_at hl 4 rfl) ?_
    refine lv_iconst (v := (2 : Int32)) hx hb dX11_game_90 (by decide) ?_
    refine lv_ixor hx hb dX11_game_91 ?_
    obtain ⟨g3, hf⟩ := gd_s hf
    refine bk_iald (wf := cw) (q0 := 64) (n := 8) (j := (x6 ^^^ (2 : Int32)).toNatClampNeg) C hP rfl g3 rfl dX11_game_92 ?_
    refine lv_icmp_lt (tgt := 136) hx hb dX11_game_93 (by decide) (fun t93 => ?_) (fun t93 => ?_)
    · have hf := (if_pos t93).symm.trans hf
      exact b_X11_game_0_b136 C hex hst hf k0 k H locs ls hP hD hS (lv_sub hl [0, 1, 2, 3, 4] rfl)
    · have hf := (if_neg t93).symm.trans hf
      refine lv_aload_n hx hb dX11_game_96 rfl (lv_at hl 0 rfl) ?_
      refine bk_get (wf := cw) (q0 := 0) (ci := 10) (k := 12) (v := .ref (g.2.2 64)) C hP wl_X11 rfl rfl (by decide) wa_45 rfl rfl dX11_game_97 ?_
      refine lv_iconst (v := (4 : Int32)) hx hb dX11_game_100 (by decide) ?_
      refine lv_iload hx hb dX11_game_101 (lv_at hl 4 rfl) ?_
      refine lv_iadd hx hb dX11_game_103 ?_
      obtain ⟨g4, hf⟩ := gd_s hf
      refine bk_iald (wf := cw) (q0 := 64) (n := 8) (j := ((4 : Int32) + x6).toNatClampNeg) C hP rfl g4 rfl dX11_game_104 ?_
      refine lv_aload_n hx hb dX11_game_105 rfl (lv_at hl 0 rfl) ?_
      refine bk_get (wf := cw) (q0 := 0) (ci := 10) (k := 12) (v := .ref (g.2.2 64)) C hP wl_X11 rfl rfl (by decide) wa_45 rfl rfl dX11_game_106 ?_
      refine lv_iconst (v := (4 : Int32)) hx hb dX11_game_109 (by decide) ?_
      refine lv_iload hx hb dX11_game_110 (lv_at hl 4 rfl) ?_
      refine lv_iconst (v := (1 : Int32)) hx hb dX11_game_112 (by decide) ?_
      refine lv_ixor hx hb dX11_game_113 ?_
      refine lv_iadd hx hb dX11_game_114 ?_
      obtain ⟨g5, hf⟩ := gd_s hf
      refine bk_iald (wf := cw) (q0 := 64) (n := 8) (j := ((4 : Int32) + (x6 ^^^ (1 : Int32))).toNatClampNeg) C hP rfl g5 rfl dX11_game_115 ?_
      refine lv_icmp_lt (tgt := 136) hx hb dX11_game_116 (by decide) (fun t116 => ?_) (fun t116 => ?_)
      · have hf := (if_pos t116).symm.trans hf
        exact b_X11_game_0_b136 C hex hst hf k0 k H locs ls hP hD hS (lv_sub hl [0, 1, 2, 3, 4] rfl)
      · have hf := (if_neg t116).symm.trans hf
        obtain ⟨v6, ev6, hf⟩ := bd_s hf
        refine lv_iinc (v := v6) (lv' := [(4, .int v6), (0, .ref (g.2.2 0)), (3, .int x3), (5, .int x5), (6, .int x6)]) hx hb dX11_game_119 hl (k := 2) rfl (by rw [ev6]; rfl) (by decide) rfl (fun ls hl => ?_)
        refine lv_bipush (v := (10 : Int32)) hx hb dX11_game_122 (by decide) ?_
        refine lv_iload hx hb dX11_game_124 (lv_at hl 4 rfl) ?_
        refine lv_iconst (v := (1 : Int32)) hx hb dX11_game_126 (by decide) ?_
        refine lv_ishr hx hb dX11_game_127 ?_
        refine lv_imul hx hb dX11_game_128 ?_
        refine lv_iload hx hb dX11_game_129 (lv_at hl 4 rfl) ?_
        refine lv_iconst (v := (1 : Int32)) hx hb dX11_game_131 (by decide) ?_
        refine lv_iand hx hb dX11_game_132 ?_
        refine lv_iadd hx hb dX11_game_133 ?_
        obtain ⟨v7, ev7, hf⟩ := bd_s hf
        rw [← ev7]
        refine lv_istore (lv' := [(5, .int v7), (4, .int v6), (0, .ref (g.2.2 0)), (3, .int x3), (6, .int x6)]) hx hb dX11_game_134 hl (by decide) rfl (fun ls hl => ?_)
        exact b_X11_game_0_b136 C hex hst hf k0 k H locs ls hP hD hS (lv_sub hl [2, 3, 1, 0, 4] rfl)
theorem lp_X11_game_0_h72 {N : Nat} {n : Nat} {x3 : Int32} {x4 : Int32} {x5 : Int32} {x6 : Int32} {σ : Sg} {z : Nat × Int32 × Int32 × Int32 × Sg} (C : Cx p s m args meth c cX11_game 7 (some .int) RX11 g A X) (hex : ∀ x ∈ c.exceptionTable.toList, False) (hst : l.stackTraces = false) (hz : it (fun q => s_X11_game_0_h72 N x3 q.1 q.2.1 q.2.2.1 q.2.2.2) n (x4, x5, x6, σ) = some z) (k : Bk cw p l e rm_X11_game_0 s m args below meth c 7 g A Q 3 18 142 [(3, .int x3), (4, .int z.2.1), (5, .int z.2.2.1)] [] z.2.2.2.2) : Bk cw p l e rm_X11_game_0 s m args below meth c 7 g A Q 3 18 72 [(0, .ref (g.2.2 0)), (3, .int x3), (4, .int x4), (5, .int x5), (6, .int x6)] [] σ :=
  it_W (S := Int32 × Int32 × Int32 × Sg) (fun q => Bk cw p l e rm_X11_game_0 s m args below meth c 7 g A Q 3 18 72 [(0, .ref (g.2.2 0)), (3, .int x3), (4, .int q.1), (5, .int q.2.1), (6, .int q.2.2.1)] [] q.2.2.2) (fun z => Bk cw p l e rm_X11_game_0 s m args below meth c 7 g A Q 3 18 142 [(3, .int x3), (4, .int z.2.1), (5, .int z.2.2.1)] [] z.2.2.2.2) (fun q z hq k0 k => e_X11_game_0_h72 C hex hst hq k0 k) n (x4, x5, x6, σ) z hz k
def f_X11_game_0_b55 (N : Nat) (σ : Sg) : Option (Zt) :=
some (0, (-1 : Int32), σ)
set_option maxHeartbeats 4000000 in
set_option maxRecDepth 100000 in
theorem b_X11_game_0_b55 {N : Nat} {σ : Sg} {z : Zt} (C : Cx p s m args meth c cX11_game 7 (some .int) RX11 g A X) (hex : ∀ x ∈ c.exceptionTable.toList, False) (hst : l.stackTraces = false) (hf : f_X11_game_0_b55 N σ = some z) : Bk cw p l e rm_X11_game_0 s m args below meth c 7 g A (vx_MQ below (qTi cw g A z) (xT cw g A z) args s 4 24 A) 3 18 55 [] [] σ := by
  obtain ⟨hx, hb, hr, hml, hown, hts, hK, hlocks, hXX, hA, hXo⟩ := id C
  intro H locs ls hP hD hS hl
  unfold f_X11_game_0_b55 at hf
  refine lv_iconst (v := (-1 : Int32)) hx hb dX11_game_55 (by decide) ?_
  exact bk_iretT C hP hD hS hf (Nat.le_of_ble_eq_true rfl) (Nat.le_of_ble_eq_true rfl) dX11_game_56
def f_X11_game_0 (N : Nat) (x1 : Int32) (x2 : Int32) (x3 : Int32) (σ : Sg) : Option (Zt) :=
(f_X11_needFarms_0 N x1 x2 σ).bind fun q8 =>
if q8.1 = 0 then ((f_X11_needWhat N x3 (1 : Int32) (q8.2.2)).bind fun q9 =>
if q9.1 = 0 then (if x1 = x2 then (some (2, 0, (q9.2.2)))
else ((f_X7_sleeps_22 N x1 (q9.2.2)).bind fun q10 =>
if q10.1 = 0 then ((f_X7_sleeps_22 N x2 (q10.2)).bind fun q11 =>
if q11.1 = 0 then ((f_X11_playAll_0 N x1 x2 (q11.2)).bind fun q12 =>
(it (fun q => s_X11_game_0_h72 N x3 q.1 q.2.1 q.2.2.1 q.2.2.2) N ((0 : Int32), (-1 : Int32), (3 : Int32), q12)).bind fun z13 =>
if x3 = 0 then (some (0, (z13.2.1), (z13.2.2.2.2)))
else (some (0, (z13.2.2.1), (z13.2.2.2.2))))
else (f_X11_game_0_b55 N (q11.2)))
else (f_X11_game_0_b55 N (q10.2))))
else some (q9.1, 0, q9.2.2))
else some (q8.1, 0, q8.2.2)
set_option maxHeartbeats 4000000 in
set_option maxRecDepth 100000 in
theorem b_X11_game_0 {N : Nat} {x1 : Int32} {x2 : Int32} {x3 : Int32} {σ : Sg} {z : Zt} (C : Cx p s m args meth c cX11_game 7 (some .int) RX11 g A X) (hex : ∀ x ∈ c.exceptionTable.toList, False) (hst : l.stackTraces = false) (hf : f_X11_game_0 N x1 x2 x3 σ = some z) : Bk cw p l e rm_X11_game_0 s m args below meth c 7 g A (vx_MQ below (qTi cw g A z) (xT cw g A z) args s 4 24 A) 0 0 0 [(0, .ref (g.2.2 0)), (1, .int x1), (2, .int x2), (3, .int x3)] [] σ := by
  obtain ⟨hx, hb, hr, hml, hown, hts, hK, hlocks, hXX, hA, hXo⟩ := id C
  intro H locs ls hP hD hS hl
  unfold f_X11_game_0 at hf
  refine lv_aload_n hx hb dX11_game_0 rfl (lv_at hl 0 rfl) ?_
  refine lv_iload_n hx hb dX11_game_1 rfl (lv_at hl 1 rfl) ?_
  refine lv_iload_n hx hb dX11_game_2 rfl (lv_at hl 2 rfl) ?_
  obtain ⟨q8, hq8, hf⟩ := bi_s hf
  refine bk_TV (wf := cw) (q0 := 0) (ci := 10) (rest := []) [.int x1, .int x2] C hex hP hD hS hl.1 (c_X11_needFarms_0 hXo hst hq8) (cwA_V 2 hts wa_1098 wa_1095 wa_1096 wa_1097 wa_2 rfl rfl nd_X11_needFarms ⟨Nat.le_of_ble_eq_true rfl, Nat.le_of_ble_eq_true rfl⟩) rfl rfl rfl rfl (Nat.le_of_ble_eq_true rfl) dX11_game_3 ⟨Nat.le_of_ble_eq_true rfl, Nat.le_of_ble_eq_true rfl⟩ ⟨Nat.le_of_ble_eq_true rfl, Nat.le_of_ble_eq_true rfl⟩ (fun h0 => by have hf := (if_neg h0).symm.trans hf; cases hf; exact ⟨rfl, rfl⟩) (fun h0 H locs hP hD hS => ?_)
  have hf := (if_pos h0).symm.trans hf
  refine lv_iload_n hx hb dX11_game_6 rfl (lv_at hl 3 rfl) ?_
  refine lv_iconst (v := (1 : Int32)) hx hb dX11_game_7 (by decide) ?_
  obtain ⟨q9, hq9, hf⟩ := bi_s hf
  refine bk_TS (wf := cw) (rest := []) [.int x3, .int (1 : Int32)] C hex hP hD hS hl.1 (c_X11_needWhat hXo hst hq9) (cwA_S 2 hts wa_1035 wa_1033 wa_1034 wa_2 rfl rfl nd_X11_needWhat ⟨Nat.le_of_ble_eq_true rfl, Nat.le_of_ble_eq_true rfl⟩) rfl rfl (Nat.le_of_ble_eq_true rfl) dX11_game_8 ⟨Nat.le_of_ble_eq_true rfl, Nat.le_of_ble_eq_true rfl⟩ ⟨Nat.le_of_ble_eq_true rfl, Nat.le_of_ble_eq_true rfl⟩ (fun h0 => by have hf := (if_neg h0).symm.trans hf; cases hf; exact ⟨rfl, rfl⟩) (fun h0 H locs hP hD hS => ?_)
  have hf := (if_pos h0).symm.trans hf
  refine lv_iload_n hx hb dX11_game_11 rfl (lv_at hl 1 rfl) ?_
  refine lv_iload_n hx hb dX11_game_12 rfl (lv_at hl 2 rfl) ?_
  refine lv_icmp_ne (tgt := 27) hx hb dX11_game_13 (by decide) (fun t13 => ?_) (fun t13 => ?_)
  · have hf := (if_neg t13).symm.trans hf
    refine lv_aload_n hx hb dX11_game_27 rfl (lv_at hl 0 rfl) ?_
    refine bk_get (wf := cw) (q0 := 0) (ci := 10) (k := 4) (v := .ref (g.2.2 21)) C hP wl_X11 rfl rfl (by decide) wa_27 rfl rfl dX11_game_28 ?_
    refine bk_get (wf := cw) (q0 := 21) (ci := 1) (k := 0) (v := .ref (g.2.2 22)) C hP wl_X1 rfl rfl (by decide) wa_221 rfl rfl dX11_game_31 ?_
    refine lv_iload_n hx hb dX11_game_34 rfl (lv_at hl 1 rfl) ?_
    obtain ⟨q10, hq10, hf⟩ := bi_s hf
    refine bk_VI (wf := cw) (q0 := 22) (ci := 7) (rest := []) [.int x1] C hP hD hS hl.1 (c_X7_sleeps_22 hXo hq10) (cwA_V 1 hts wa_926 wa_923 wa_924 wa_925 wa_93 rfl rfl nd_X7_sleeps ⟨Nat.le_of_ble_eq_true rfl, Nat.le_of_ble_eq_true rfl⟩) rfl rfl rfl rfl (Nat.le_of_ble_eq_true rfl) dX11_game_35 ⟨Nat.le_of_ble_eq_true rfl, Nat.le_of_ble_eq_true rfl⟩ (fun H locs hP hD hS => ?_)
    refine lv_if_ne (tgt := 55) hx hb dX11_game_38 (by decide) (fun t38 => ?_) (fun t38 => ?_)
    · have hf := (if_neg t38).symm.trans hf
      exact b_X11_game_0_b55 C hex hst hf H locs ls hP hD hS (lv_sub hl [] rfl)
    · have hf := (if_pos t38).symm.trans hf
      refine lv_aload_n hx hb dX11_game_41 rfl (lv_at hl 0 rfl) ?_
      refine bk_get (wf := cw) (q0 := 0) (ci := 10) (k := 4) (v := .ref (g.2.2 21)) C hP wl_X11 rfl rfl (by decide) wa_27 rfl rfl dX11_game_42 ?_
      refine bk_get (wf := cw) (q0 := 21) (ci := 1) (k := 0) (v := .ref (g.2.2 22)) C hP wl_X1 rfl rfl (by decide) wa_221 rfl rfl dX11_game_45 ?_
      refine lv_iload_n hx hb dX11_game_48 rfl (lv_at hl 2 rfl) ?_
      obtain ⟨q11, hq11, hf⟩ := bi_s hf
      refine bk_VI (wf := cw) (q0 := 22) (ci := 7) (rest := []) [.int x2] C hP hD hS hl.1 (c_X7_sleeps_22 hXo hq11) (cwA_V 1 hts wa_926 wa_923 wa_924 wa_925 wa_93 rfl rfl nd_X7_sleeps ⟨Nat.le_of_ble_eq_true rfl, Nat.le_of_ble_eq_true rfl⟩) rfl rfl rfl rfl (Nat.le_of_ble_eq_true rfl) dX11_game_49 ⟨Nat.le_of_ble_eq_true rfl, Nat.le_of_ble_eq_true rfl⟩ (fun H locs hP hD hS => ?_)
      refine lv_if_eq (tgt := 57) hx hb dX11_game_52 (by decide) (fun t52 => ?_) (fun t52 => ?_)
      · have hf := (if_pos t52).symm.trans hf
        refine lv_aload_n hx hb dX11_game_57 rfl (lv_at hl 0 rfl) ?_
        refine lv_iload_n hx hb dX11_game_58 rfl (lv_at hl 1 rfl) ?_
        refine lv_iload_n hx hb dX11_game_59 rfl (lv_at hl 2 rfl) ?_
        obtain ⟨q12, hq12, hf⟩ := bi_s hf
        refine bk_VV (wf := cw) (q0 := 0) (ci := 10) (rest := []) [.int x1, .int x2] C hP hD hS hl.1 (c_X11_playAll_0 hXo hq12) (cwA_V 2 hts wa_1374 wa_1371 wa_1372 wa_1373 wa_2 rfl rfl nd_X11_playAll ⟨Nat.le_of_ble_eq_true rfl, Nat.le_of_ble_eq_true rfl⟩) rfl rfl rfl rfl (Nat.le_of_ble_eq_true rfl) dX11_game_60 ⟨Nat.le_of_ble_eq_true rfl, Nat.le_of_ble_eq_true rfl⟩ (fun H locs hP hD hS => ?_)
        refine lv_iconst (v := (0 : Int32)) hx hb dX11_game_63 (by decide) ?_
        refine lv_istore (lv' := [(4, .int (0 : Int32)), (0, .ref (g.2.2 0)), (1, .int x1), (2, .int x2), (3, .int x3)]) hx hb dX11_game_64 hl (by decide) rfl (fun ls hl => ?_)
        refine lv_iconst (v := (-1 : Int32)) hx hb dX11_game_66 (by decide) ?_
        refine lv_istore (lv' := [(5, .int (-1 : Int32)), (4, .int (0 : Int32)), (0, .ref (g.2.2 0)), (1, .int x1), (2, .int x2), (3, .int x3)]) hx hb dX11_game_67 hl (by decide) rfl (fun ls hl => ?_)
        refine lv_iconst (v := (3 : Int32)) hx hb dX11_game_69 (by decide) ?_
        refine lv_istore (lv' := [(6, .int (3 : Int32)), (5, .int (-1 : Int32)), (4, .int (0 : Int32)), (0, .ref (g.2.2 0)), (1, .int x1), (2, .int x2), (3, .int x3)]) hx hb dX11_game_70 hl (by decide) rfl (fun ls hl => ?_)
        obtain ⟨z13, hz13, hf⟩ := bi_s hf
        refine lp_X11_game_0_h72 C hex hst hz13 ?_ H locs ls hP hD hS (lv_sub hl [3, 6, 2, 1, 0] rfl)
        intro H locs ls hP hD hS hl
        refine lv_iload_n hx hb dX11_game_142 rfl (lv_at hl 0 rfl) ?_
        refine lv_if_ne (tgt := 151) hx hb dX11_game_143 (by decide) (fun t143 => ?_) (fun t143 => ?_)
        · have hf := (if_neg t143).symm.trans hf
          refine lv_iload hx hb dX11_game_151 (lv_at hl 2 rfl) ?_
          exact bk_iretT C hP hD hS hf (Nat.le_of_ble_eq_true rfl) (Nat.le_of_ble_eq_true rfl) dX11_game_153
        · have hf := (if_pos t143).symm.trans hf
          refine lv_iload hx hb dX11_game_146 (lv_at hl 1 rfl) ?_
          refine lv_goto (tgt := 153) hx hb dX11_game_148 (by decide) ?_
          exact bk_iretT C hP hD hS hf (Nat.le_of_ble_eq_true rfl) (Nat.le_of_ble_eq_true rfl) dX11_game_153
      · have hf := (if_neg t52).symm.trans hf
        exact b_X11_game_0_b55 C hex hst hf H locs ls hP hD hS (lv_sub hl [] rfl)
  · have hf := (if_pos t13).symm.trans hf
    exact bk_thIW (text := "both are one") C hex hst hP hD hS hl.1 (by decide) dX11_game_16 dX11_game_19 dX11_game_20 dX11_game_23 dX11_game_26 (Nat.le_of_ble_eq_true rfl) (Nat.le_of_ble_eq_true rfl) (Nat.le_of_ble_eq_true rfl) (Nat.le_of_ble_eq_true rfl) hf (Nat.le_of_ble_eq_true rfl) (Nat.le_of_ble_eq_true rfl)
theorem c_X11_game_0 {N : Nat} {x1 : Int32} {x2 : Int32} {x3 : Int32} {σ : Sg} {z : Zt} (hX : xOK g X) (hst : l.stackTraces = false) (hf : f_X11_game_0 N x1 x2 x3 σ = some z) : MetTi l yX11_game (Cond.code yX11_game cX11_game 7 (some .int) :: wsA) rm_X11_game_0 4 24 cw g X [.ref (g.2.2 0), .int x1, .int x2, .int x3] σ z :=
  MetTi_of hX (by decide) (Nat.le_of_ble_eq_true rfl) (fun p e s m args below meth c A C hex => b_X11_game_0 C hex hst hf)
-- X2_draw_55: draw(I)I
abbrev rm_X2_draw_55 : Room := { frames := 0, cells := 0, slots := 0, locals := 0 }
theorem nd_X2_draw : yX2_draw.cls ≠ "java/lang/invoke/MethodHandle" ∧ yX2_draw.cls ≠ "java/lang/invoke/VarHandle" ∧ (parseMethodDescriptor yX2_draw.desc).map (fun d => d.parameters.length) = some 1 := by decide +kernel
def f_X2_draw_55 (N : Nat) (x1 : Int32) (σ : Sg) : Option (Int32 × Sg) :=
bd (wr σ 55 2 (((σ 55 2) * (1103515245 : Int32)) + (12345 : Int32))) fun σ1 =>
if (1 : Int32) ≤ x1 then (if x1 = 0 then none else
some ((((((σ1 55 2)).toUInt32 >>> (((16 : Int32)).toUInt32 &&& Int32.toUInt32 31)).toInt32 &&& (32767 : Int32)) - ((((σ1 55 2)).toUInt32 >>> (((16 : Int32)).toUInt32 &&& Int32.toUInt32 31)).toInt32 &&& (32767 : Int32)) / x1 * x1), σ1))
else (some ((0 : Int32), σ1))
set_option maxHeartbeats 4000000 in
set_option maxRecDepth 100000 in
theorem b_X2_draw_55 {N : Nat} {x1 : Int32} {σ : Sg} {z : Int32 × Sg} (C : Cx p s m args meth c cX2_draw 2 (some .int) RX2 g A X) (hf : f_X2_draw_55 N x1 σ = some z) : Bk cw p l e rm_X2_draw_55 s m args below meth c 2 g A (MQ below (qI cw g A z.1 z.2) args s 0 0 A) 0 0 0 [(0, .ref (g.2.2 55)), (1, .int x1)] [] σ := by
  obtain ⟨hx, hb, hr, hml, hown, hts, hK, hlocks, hXX, hA, hXo⟩ := id C
  intro H locs ls hP hD hS hl
  unfold f_X2_draw_55 at hf
  refine lv_aload_n hx hb dX2_draw_0 rfl (lv_at hl 0 rfl) ?_
  refine lv_aload_n hx hb dX2_draw_1 rfl (lv_at hl 0 rfl) ?_
  refine bk_get (wf := cw) (q0 := 55) (ci := 2) (k := 2) (v := .int (σ 55 2)) C hP wl_X2 rfl rfl (by decide) wa_146 rfl rfl dX2_draw_2 ?_
  refine lv_ldc (v := (1103515245 : Int32)) hx hb hown (hts _ wa_1403) dX2_draw_5 ?_
  refine lv_imul hx hb dX2_draw_7 ?_
  refine lv_sipush (v := (12345 : Int32)) hx hb dX2_draw_8 (by decide) ?_
  refine lv_iadd hx hb dX2_draw_11 ?_
  obtain ⟨σ1, eσ1, hf⟩ := bd_s hf
  refine bk_put (wf := cw) (σ1 := σ1) (q0 := 55) (ci := 2) (k := 2) (v := .int (((σ 55 2) * (1103515245 : Int32)) + (12345 : Int32))) C hP hD hS wl_X2 tyX2_ok nmX2 rfl rfl (by decide) wa_146 rfl rfl rfl rfl rfl (Nat.le_of_ble_eq_true rfl) (by rw [eσ1]; exact cw_p55_2 g _ _) dX2_draw_12 (fun H locs hP hD hS => ?_)
  refine lv_iload_n hx hb dX2_draw_15 rfl (lv_at hl 1 rfl) ?_
  refine lv_iconst (v := (1 : Int32)) hx hb dX2_draw_16 (by decide) ?_
  refine lv_icmp_ge (tgt := 24) hx hb dX2_draw_17 (by decide) (fun t17 => ?_) (fun t17 => ?_)
  · have hf := (if_pos t17).symm.trans hf
    refine lv_aload_n hx hb dX2_draw_24 rfl (lv_at hl 0 rfl) ?_
    refine bk_get (wf := cw) (q0 := 55) (ci := 2) (k := 2) (v := .int (σ1 55 2)) C hP wl_X2 rfl rfl (by decide) wa_146 rfl rfl dX2_draw_25 ?_
    refine lv_bipush (v := (16 : Int32)) hx hb dX2_draw_28 (by decide) ?_
    refine lv_iushr hx hb dX2_draw_30 rfl ?_
    refine lv_sipush (v := (32767 : Int32)) hx hb dX2_draw_31 (by decide) ?_
    refine lv_iand hx hb dX2_draw_34 ?_
    refine lv_iload_n hx hb dX2_draw_35 rfl (lv_at hl 1 rfl) ?_
    obtain ⟨g2, hf⟩ := gd_s hf
    refine lv_irem hx hb dX2_draw_36 g2 ?_
    cases hf
    exact bk_iret C hP hD hS rfl dX2_draw_37
  · have hf := (if_neg t17).symm.trans hf
    refine lv_iconst (v := (0 : Int32)) hx hb dX2_draw_20 (by decide) ?_
    refine lv_goto (tgt := 37) hx hb dX2_draw_21 (by decide) ?_
    cases hf
    exact bk_iret C hP hD hS rfl dX2_draw_37
theorem c_X2_draw_55 {N : Nat} {x1 : Int32} {σ : Sg} {z : Int32 × Sg} (hX : xOK g X) (hf : f_X2_draw_55 N x1 σ = some z) : MetI l yX2_draw (Cond.code yX2_draw cX2_draw 2 (some .int) :: wsA) rm_X2_draw_55 cw g X [.ref (g.2.2 55), .int x1] σ z.1 z.2 :=
  MetI_of hX (by decide) (Nat.le_of_ble_eq_true rfl) (fun p e s m args below meth c A C => b_X2_draw_55 C hf)
-- X6_mark_50: mark(II)V
abbrev rm_X6_mark_50 : Room := { frames := 3, cells := 0, slots := 0, locals := 69 }
def s_X6_mark_50_h2 (N : Nat) (x1 : Int32) (x2 : Int32) (x3 : Int32) (σ : Sg) : Option (Nat × Int32 × Sg) :=
if (9 : Int32) < x3 then (some (1, 0, σ))
else ((f_X6_isNear_50 N x1 x2 x3 σ).bind fun q1 =>
if q1.1 = 0 then (some (1, 0, (q1.2)))
else (if (((x3 * (9 : Int32)) + x1) < 0 ∨ 90 ≤ ((x3 * (9 : Int32)) + x1).toNatClampNeg) then none else
if (((x3 * (9 : Int32)) + x1) < 0 ∨ 90 ≤ ((x3 * (9 : Int32)) + x1).toNatClampNeg) then none else
bd (wr (q1.2) 52 (((x3 * (9 : Int32)) + x1).toNatClampNeg) (((q1.2) 52 ((x3 * (9 : Int32)) + x1).toNatClampNeg) ||| ((1 : Int32) <<< (x2 &&& 31)))) fun σ4 =>
if (((x3 * (9 : Int32)) + x2) < 0 ∨ 90 ≤ ((x3 * (9 : Int32)) + x2).toNatClampNeg) then none else
if (((x3 * (9 : Int32)) + x2) < 0 ∨ 90 ≤ ((x3 * (9 : Int32)) + x2).toNatClampNeg) then none else
bd (wr σ4 52 (((x3 * (9 : Int32)) + x2).toNatClampNeg) ((σ4 52 ((x3 * (9 : Int32)) + x2).toNatClampNeg) ||| ((1 : Int32) <<< (x1 &&& 31)))) fun σ7 =>
bd (x3 + (1 : Int32)) fun v8 =>
some (0, v8, σ7)))
set_option maxHeartbeats 4000000 in
set_option maxRecDepth 100000 in
theorem e_X6_mark_50_h2 {N : Nat} {x1 : Int32} {x2 : Int32} {x3 : Int32} {σ : Sg} {z : Nat × Int32 × Sg} (C : Cx p s m args meth c cX6_mark 4 none RX6 g A X) (hf : s_X6_mark_50_h2 N x1 x2 x3 σ = some z) (k0 : z.1 = 0 → Bk cw p l e rm_X6_mark_50 s m args below meth c 4 g A Q 0 0 2 [(0, .ref (g.2.2 50)), (1, .int x1), (2, .int x2), (3, .int z.2.1)] [] z.2.2) (k : ¬ z.1 = 0 → Bk cw p l e rm_X6_mark_50 s m args below meth c 4 g A Q 0 0 58 [] [] z.2.2) : Bk cw p l e rm_X6_mark_50 s m args below meth c 4 g A Q 0 0 2 [(0, .ref (g.2.2 50)), (1, .int x1), (2, .int x2), (3, .int x3)] [] σ := by
  obtain ⟨hx, hb, hr, hml, hown, hts, hK, hlocks, hXX, hA, hXo⟩ := id C
  intro H locs ls hP hD hS hl
  unfold s_X6_mark_50_h2 at hf
  refine lv_iload_n hx hb dX6_mark_2 rfl (lv_at hl 3 rfl) ?_
  refine lv_bipush (v := (9 : Int32)) hx hb dX6_mark_3 (by decide) ?_
  refine lv_icmp_gt (tgt := 58) hx hb dX6_mark_5 (by decide) (fun t5 => ?_) (fun t5 => ?_)
  · have hf := (if_pos t5).symm.trans hf
    cases hf
    exact (k (show ¬ (1 : Nat) = 0 by decide)) H locs ls hP hD hS (lv_sub hl [] rfl)
  · have hf := (if_neg t5).symm.trans hf
    refine lv_aload_n hx hb dX6_mark_8 rfl (lv_at hl 0 rfl) ?_
    refine lv_iload_n hx hb dX6_mark_9 rfl (lv_at hl 1 rfl) ?_
    refine lv_iload_n hx hb dX6_mark_10 rfl (lv_at hl 2 rfl) ?_
    refine lv_iload_n hx hb dX6_mark_11 rfl (lv_at hl 3 rfl) ?_
    obtain ⟨q1, hq1, hf⟩ := bi_s hf
    refine bk_VI (wf := cw) (q0 := 50) (ci := 6) (rest := []) [.int x1, .int x2, .int x3] C hP hD hS hl.1 (c_X6_isNear_50 hXo hq1) (cwA_V 3 hts wa_491 wa_488 wa_489 wa_490 wa_32 rfl rfl nd_X6_isNear ⟨Nat.le_of_ble_eq_true rfl, Nat.le_of_ble_eq_true rfl⟩) rfl rfl rfl rfl (Nat.le_of_ble_eq_true rfl) dX6_mark_12 ⟨Nat.le_of_ble_eq_true rfl, Nat.le_of_ble_eq_true rfl⟩ (fun H locs hP hD hS => ?_)
    refine lv_if_eq (tgt := 58) hx hb dX6_mark_15 (by decide) (fun t15 => ?_) (fun t15 => ?_)
    · have hf := (if_pos t15).symm.trans hf
      cases hf
      exact (k (show ¬ (1 : Nat) = 0 by decide)) H locs ls hP hD hS (lv_sub hl [] rfl)
    · have hf := (if_neg t15).symm.trans hf
      refine lv_aload_n hx hb dX6_mark_18 rfl (lv_at hl 0 rfl) ?_
      refine bk_get (wf := cw) (q0 := 50) (ci := 6) (k := 2) (v := .ref (g.2.2 52)) C hP wl_X6 rfl rfl (by decide) wa_131 rfl rfl dX6_mark_19 ?_
      refine lv_iload_n hx hb dX6_mark_22 rfl (lv_at hl 3 rfl) ?_
      refine lv_bipush (v := (9 : Int32)) hx hb dX6_mark_23 (by decide) ?_
      refine lv_imul hx hb dX6_mark_25 ?_
      refine lv_iload_n hx hb dX6_mark_26 rfl (lv_at hl 1 rfl) ?_
      refine lv_iadd hx hb dX6_mark_27 ?_
      refine lv_dup2_11 hx hb dX6_mark_28 rfl rfl ?_
      obtain ⟨g2, hf⟩ := gd_s hf
      refine bk_iald (wf := cw) (q0 := 52) (n := 90) (j := ((x3 * (9 : Int32)) + x1).toNatClampNeg) C hP rfl g2 rfl dX6_mark_29 ?_
      refine lv_iconst (v := (1 : Int32)) hx hb dX6_mark_30 (by decide) ?_
      refine lv_iload_n hx hb dX6_mark_31 rfl (lv_at hl 2 rfl) ?_
      refine lv_ishl hx hb dX6_mark_32 ?_
      refine lv_ior hx hb dX6_mark_33 ?_
      obtain ⟨g3, hf⟩ := gd_s hf
      obtain ⟨σ4, eσ4, hf⟩ := bd_s hf
      refine bk_iast (wf := cw) (σ1 := σ4) (q0 := 52) (n := 90) (j := ((x3 * (9 : Int32)) + x1).toNatClampNeg) C hP hD hS rfl g3 rfl (by rw [eσ4]; exact cw_a52 g _ _ _) dX6_mark_34 (fun H locs hP hD hS => ?_)
      refine lv_aload_n hx hb dX6_mark_35 rfl (lv_at hl 0 rfl) ?_
      refine bk_get (wf := cw) (q0 := 50) (ci := 6) (k := 2) (v := .ref (g.2.2 52)) C hP wl_X6 rfl rfl (by decide) wa_131 rfl rfl dX6_mark_36 ?_
      refine lv_iload_n hx hb dX6_mark_39 rfl (lv_at hl 3 rfl) ?_
      refine lv_bipush (v := (9 : Int32)) hx hb dX6_mark_40 (by decide) ?_
      refine lv_imul hx hb dX6_mark_42 ?_
      refine lv_iload_n hx hb dX6_mark_43 rfl (lv_at hl 2 rfl) ?_
      refine lv_iadd hx hb dX6_mark_44 ?_
      refine lv_dup2_11 hx hb dX6_mark_45 rfl rfl ?_
      obtain ⟨g5, hf⟩ := gd_s hf
      refine bk_iald (wf := cw) (q0 := 52) (n := 90) (j := ((x3 * (9 : Int32)) + x2).toNatClampNeg) C hP rfl g5 rfl dX6_mark_46 ?_
      refine lv_iconst (v := (1 : Int32)) hx hb dX6_mark_47 (by decide) ?_
      refine lv_iload_n hx hb dX6_mark_48 rfl (lv_at hl 1 rfl) ?_
      refine lv_ishl hx hb dX6_mark_49 ?_
      refine lv_ior hx hb dX6_mark_50 ?_
      obtain ⟨g6, hf⟩ := gd_s hf
      obtain ⟨σ7, eσ7, hf⟩ := bd_s hf
      refine bk_iast (wf := cw) (σ1 := σ7) (q0 := 52) (n := 90) (j := ((x3 * (9 : Int32)) + x2).toNatClampNeg) C hP hD hS rfl g6 rfl (by rw [eσ7]; exact cw_a52 g _ _ _) dX6_mark_51 (fun H locs hP hD hS => ?_)
      obtain ⟨v8, ev8, hf⟩ := bd_s hf
      refine lv_iinc (v := v8) (lv' := [(3, .int v8), (0, .ref (g.2.2 50)), (1, .int x1), (2, .int x2)]) hx hb dX6_mark_52 hl (k := 3) rfl (by rw [ev8]; rfl) (by decide) rfl (fun ls hl => ?_)
      refine lv_goto (tgt := 2) hx hb dX6_mark_55 (by decide) ?_
      cases hf
      exact k0 rfl H locs ls hP hD hS (lv_sub hl [1, 2, 3, 0] rfl)
theorem lp_X6_mark_50_h2 {N : Nat} {n : Nat} {x1 : Int32} {x2 : Int32} {x3 : Int32} {σ : Sg} {z : Nat × Int32 × Sg} (C : Cx p s m args meth c cX6_mark 4 none RX6 g A X) (hz : it (fun q => s_X6_mark_50_h2 N x1 x2 q.1 q.2) n (x3, σ) = some z) (k : Bk cw p l e rm_X6_mark_50 s m args below meth c 4 g A Q 0 0 58 [] [] z.2.2) : Bk cw p l e rm_X6_mark_50 s m args below meth c 4 g A Q 0 0 2 [(0, .ref (g.2.2 50)), (1, .int x1), (2, .int x2), (3, .int x3)] [] σ :=
  it_W (S := Int32 × Sg) (fun q => Bk cw p l e rm_X6_mark_50 s m args below meth c 4 g A Q 0 0 2 [(0, .ref (g.2.2 50)), (1, .int x1), (2, .int x2), (3, .int q.1)] [] q.2) (fun z => Bk cw p l e rm_X6_mark_50 s m args below meth c 4 g A Q 0 0 58 [] [] z.2.2) (fun q z hq k0 k => e_X6_mark_50_h2 C hq k0 k) n (x3, σ) z hz k
def f_X6_mark_50 (N : Nat) (x1 : Int32) (x2 : Int32) (σ : Sg) : Option (Sg) :=
(it (fun q => s_X6_mark_50_h2 N x1 x2 q.1 q.2) N ((0 : Int32), σ)).bind fun z9 =>
some (z9.2.2)
set_option maxHeartbeats 4000000 in
set_option maxRecDepth 100000 in
theorem b_X6_mark_50 {N : Nat} {x1 : Int32} {x2 : Int32} {σ : Sg} {z : Sg} (C : Cx p s m args meth c cX6_mark 4 none RX6 g A X) (hf : f_X6_mark_50 N x1 x2 σ = some z) : Bk cw p l e rm_X6_mark_50 s m args below meth c 4 g A (MQ below (qV cw g A z) args s 0 0 A) 0 0 0 [(0, .ref (g.2.2 50)), (1, .int x1), (2, .int x2)] [] σ := by
  obtain ⟨hx, hb, hr, hml, hown, hts, hK, hlocks, hXX, hA, hXo⟩ := id C
  intro H locs ls hP hD hS hl
  unfold f_X6_mark_50 at hf
  refine lv_iconst (v := (0 : Int32)) hx hb dX6_mark_0 (by decide) ?_
  refine lv_istore_n (lv' := [(3, .int (0 : Int32)), (0, .ref (g.2.2 50)), (1, .int x1), (2, .int x2)]) hx hb dX6_mark_1 rfl hl (by decide) rfl (fun ls hl => ?_)
  obtain ⟨z9, hz9, hf⟩ := bi_s hf
  refine lp_X6_mark_50_h2 C hz9 ?_ H locs ls hP hD hS (lv_sub hl [1, 2, 3, 0] rfl)
  intro H locs ls hP hD hS hl
  cases hf
  exact bk_vret C hP hD hS rfl dX6_mark_58
theorem c_X6_mark_50 {N : Nat} {x1 : Int32} {x2 : Int32} {σ : Sg} {z : Sg} (hX : xOK g X) (hf : f_X6_mark_50 N x1 x2 σ = some z) : MetV l yX6_mark (Cond.code yX6_mark cX6_mark 4 none :: wsA) rm_X6_mark_50 cw g X [.ref (g.2.2 50), .int x1, .int x2] σ z :=
  MetV_of hX (by decide) (Nat.le_of_ble_eq_true rfl) (fun p e s m args below meth c A C => b_X6_mark_50 C hf)
-- X6_takeTops_50_60: takeTops([I)V
abbrev rm_X6_takeTops_50_60 : Room := { frames := 0, cells := 0, slots := 0, locals := 0 }
def s_X6_takeTops_50_60_h2 (N : Nat) (x2 : Int32) (σ : Sg) : Option (Nat × Int32 × Sg) :=
if (9 : Int32) ≤ x2 then (some (1, 0, σ))
else (if (9 : Int32) ≤ x2 then (some (1, 0, σ))
else (if (x2 < 0 ∨ 9 ≤ x2.toNatClampNeg) then none else
if (x2 < 0 ∨ 9 ≤ x2.toNatClampNeg) then none else
if (x2 < 0 ∨ 9 ≤ x2.toNatClampNeg) then none else
bd (wr σ 51 (x2.toNatClampNeg) ((σ 14 x2.toNatClampNeg) + (σ 60 x2.toNatClampNeg))) fun σ4 =>
bd (x2 + (1 : Int32)) fun v5 =>
some (0, v5, σ4)))
set_option maxHeartbeats 4000000 in
set_option maxRecDepth 100000 in
theorem e_X6_takeTops_50_60_h2 {N : Nat} {x2 : Int32} {σ : Sg} {z : Nat × Int32 × Sg} (C : Cx p s m args meth c cX6_takeTops 3 none RX6 g A X) (hf : s_X6_takeTops_50_60_h2 N x2 σ = some z) (k0 : z.1 = 0 → Bk cw p l e rm_X6_takeTops_50_60 s m args below meth c 3 g A Q 0 0 2 [(0, .ref (g.2.2 50)), (1, .ref (g.2.2 60)), (2, .int z.2.1)] [] z.2.2) (k : ¬ z.1 = 0 → Bk cw p l e rm_X6_takeTops_50_60 s m args below meth c 3 g A Q 0 0 39 [] [] z.2.2) : Bk cw p l e rm_X6_takeTops_50_60 s m args below meth c 3 g A Q 0 0 2 [(0, .ref (g.2.2 50)), (1, .ref (g.2.2 60)), (2, .int x2)] [] σ := by
  obtain ⟨hx, hb, hr, hml, hown, hts, hK, hlocks, hXX, hA, hXo⟩ := id C
  intro H locs ls hP hD hS hl
  unfold s_X6_takeTops_50_60_h2 at hf
  refine lv_iload_n hx hb dX6_takeTops_2 rfl (lv_at hl 2 rfl) ?_
  refine lv_bipush (v := (9 : Int32)) hx hb dX6_takeTops_3 (by decide) ?_
  refine lv_icmp_ge (tgt := 39) hx hb dX6_takeTops_5 (by decide) (fun t5 => ?_) (fun t5 => ?_)
  · have hf := (if_pos t5).symm.trans hf
    cases hf
    exact (k (show ¬ (1 : Nat) = 0 by decide)) H locs ls hP hD hS (lv_sub hl [] rfl)
  · have hf := (if_neg t5).symm.trans hf
    refine lv_iload_n hx hb dX6_takeTops_8 rfl (lv_at hl 2 rfl) ?_
    refine lv_aload_n hx hb dX6_takeTops_9 rfl (lv_at hl 1 rfl) ?_
    refine bk_alen (wf := cw) (q0 := 60) (t0 := 0) (v := (9 : Int32)) C hP rfl rfl (show Int32.ofNat 9 = (9 : Int32) by decide) dX6_takeTops_10 ?_
    refine lv_icmp_ge (tgt := 39) hx hb dX6_takeTops_11 (by decide) (fun t11 => ?_) (fun t11 => ?_)
    · have hf := (if_pos t11).symm.trans hf
      cases hf
      exact (k (show ¬ (1 : Nat) = 0 by decide)) H locs ls hP hD hS (lv_sub hl [] rfl)
    · have hf := (if_neg t11).symm.trans hf
      refine lv_aload_n hx hb dX6_takeTops_14 rfl (lv_at hl 0 rfl) ?_
      refine bk_get (wf := cw) (q0 := 50) (ci := 6) (k := 0) (v := .ref (g.2.2 51)) C hP wl_X6 rfl rfl (by decide) wa_130 rfl rfl dX6_takeTops_15 ?_
      refine lv_iload_n hx hb dX6_takeTops_18 rfl (lv_at hl 2 rfl) ?_
      refine lv_aload_n hx hb dX6_takeTops_19 rfl (lv_at hl 0 rfl) ?_
      refine bk_get (wf := cw) (q0 := 50) (ci := 6) (k := 1) (v := .ref (g.2.2 12)) C hP wl_X6 rfl rfl (by decide) wa_132 rfl rfl dX6_takeTops_20 ?_
      refine bk_get (wf := cw) (q0 := 12) (ci := 8) (k := 2) (v := .ref (g.2.2 14)) C hP wl_X9 rfl rfl (by decide) wa_478 rfl rfl dX6_takeTops_23 ?_
      refine lv_iload_n hx hb dX6_takeTops_26 rfl (lv_at hl 2 rfl) ?_
      obtain ⟨g1, hf⟩ := gd_s hf
      refine bk_iald (wf := cw) (q0 := 14) (n := 9) (j := x2.toNatClampNeg) C hP rfl g1 rfl dX6_takeTops_27 ?_
      refine lv_aload_n hx hb dX6_takeTops_28 rfl (lv_at hl 1 rfl) ?_
      refine lv_iload_n hx hb dX6_takeTops_29 rfl (lv_at hl 2 rfl) ?_
      obtain ⟨g2, hf⟩ := gd_s hf
      refine bk_iald (wf := cw) (q0 := 60) (n := 9) (j := x2.toNatClampNeg) C hP rfl g2 rfl dX6_takeTops_30 ?_
      refine lv_iadd hx hb dX6_takeTops_31 ?_
      obtain ⟨g3, hf⟩ := gd_s hf
      obtain ⟨σ4, eσ4, hf⟩ := bd_s hf
      refine bk_iast (wf := cw) (σ1 := σ4) (q0 := 51) (n := 9) (j := x2.toNatClampNeg) C hP hD hS rfl g3 rfl (by rw [eσ4]; exact cw_a51 g _ _ _) dX6_takeTops_32 (fun H locs hP hD hS => ?_)
      obtain ⟨v5, ev5, hf⟩ := bd_s hf
      refine lv_iinc (v := v5) (lv' := [(2, .int v5), (0, .ref (g.2.2 50)), (1, .ref (g.2.2 60))]) hx hb dX6_takeTops_33 hl (k := 2) rfl (by rw [ev5]; rfl) (by decide) rfl (fun ls hl => ?_)
      refine lv_goto (tgt := 2) hx hb dX6_takeTops_36 (by decide) ?_
      cases hf
      exact k0 rfl H locs ls hP hD hS (lv_sub hl [1, 2, 0] rfl)
theorem lp_X6_takeTops_50_60_h2 {N : Nat} {n : Nat} {x2 : Int32} {σ : Sg} {z : Nat × Int32 × Sg} (C : Cx p s m args meth c cX6_takeTops 3 none RX6 g A X) (hz : it (fun q => s_X6_takeTops_50_60_h2 N q.1 q.2) n (x2, σ) = some z) (k : Bk cw p l e rm_X6_takeTops_50_60 s m args below meth c 3 g A Q 0 0 39 [] [] z.2.2) : Bk cw p l e rm_X6_takeTops_50_60 s m args below meth c 3 g A Q 0 0 2 [(0, .ref (g.2.2 50)), (1, .ref (g.2.2 60)), (2, .int x2)] [] σ :=
  it_W (S := Int32 × Sg) (fun q => Bk cw p l e rm_X6_takeTops_50_60 s m args below meth c 3 g A Q 0 0 2 [(0, .ref (g.2.2 50)), (1, .ref (g.2.2 60)), (2, .int q.1)] [] q.2) (fun z => Bk cw p l e rm_X6_takeTops_50_60 s m args below meth c 3 g A Q 0 0 39 [] [] z.2.2) (fun q z hq k0 k => e_X6_takeTops_50_60_h2 C hq k0 k) n (x2, σ) z hz k
def f_X6_takeTops_50_60 (N : Nat) (σ : Sg) : Option (Sg) :=
(it (fun q => s_X6_takeTops_50_60_h2 N q.1 q.2) N ((0 : Int32), σ)).bind fun z6 =>
some (z6.2.2)
set_option maxHeartbeats 4000000 in
set_option maxRecDepth 100000 in
theorem b_X6_takeTops_50_60 {N : Nat} {σ : Sg} {z : Sg} (C : Cx p s m args meth c cX6_takeTops 3 none RX6 g A X) (hf : f_X6_takeTops_50_60 N σ = some z) : Bk cw p l e rm_X6_takeTops_50_60 s m args below meth c 3 g A (MQ below (qV cw g A z) args s 0 0 A) 0 0 0 [(0, .ref (g.2.2 50)), (1, .ref (g.2.2 60))] [] σ := by
  obtain ⟨hx, hb, hr, hml, hown, hts, hK, hlocks, hXX, hA, hXo⟩ := id C
  intro H locs ls hP hD hS hl
  unfold f_X6_takeTops_50_60 at hf
  refine lv_iconst (v := (0 : Int32)) hx hb dX6_takeTops_0 (by decide) ?_
  refine lv_istore_n (lv' := [(2, .int (0 : Int32)), (0, .ref (g.2.2 50)), (1, .ref (g.2.2 60))]) hx hb dX6_takeTops_1 rfl hl (by decide) rfl (fun ls hl => ?_)
  obtain ⟨z6, hz6, hf⟩ := bi_s hf
  refine lp_X6_takeTops_50_60_h2 C hz6 ?_ H locs ls hP hD hS (lv_sub hl [1, 2, 0] rfl)
  intro H locs ls hP hD hS hl
  cases hf
  exact bk_vret C hP hD hS rfl dX6_takeTops_39
theorem c_X6_takeTops_50_60 {N : Nat} {σ : Sg} {z : Sg} (hX : xOK g X) (hf : f_X6_takeTops_50_60 N σ = some z) : MetV l yX6_takeTops (Cond.code yX6_takeTops cX6_takeTops 3 none :: wsA) rm_X6_takeTops_50_60 cw g X [.ref (g.2.2 50), .ref (g.2.2 60)] σ z :=
  MetV_of hX (by decide) (Nat.le_of_ble_eq_true rfl) (fun p e s m args below meth c A C => b_X6_takeTops_50_60 C hf)
-- X6_build_50_60: build([I)V
abbrev rm_X6_build_50_60 : Room := { frames := 4, cells := 0, slots := 0, locals := 92 }
def f_X6_build_50_60_b64 (N : Nat) (x2 : Int32) (x3 : Int32) (σ : Sg) : Option (Nat × Int32 × Sg) :=
bd (x3 + (1 : Int32)) fun v1 =>
some (0, v1, σ)
set_option maxHeartbeats 4000000 in
set_option maxRecDepth 100000 in
theorem b_X6_build_50_60_b64 {N : Nat} {x2 : Int32} {x3 : Int32} {σ : Sg} {z : Nat × Int32 × Sg} (C : Cx p s m args meth c cX6_build 4 none RX6 g A X) (hf : f_X6_build_50_60_b64 N x2 x3 σ = some z) (k0 : z.1 = 0 → Bk cw p l e rm_X6_build_50_60 s m args below meth c 4 g A Q 0 0 44 [(0, .ref (g.2.2 50)), (2, .int x2), (3, .int z.2.1)] [] z.2.2) (k : ¬ z.1 = 0 → Bk cw p l e rm_X6_build_50_60 s m args below meth c 4 g A Q 0 0 70 [(0, .ref (g.2.2 50)), (2, .int x2)] [] z.2.2) : Bk cw p l e rm_X6_build_50_60 s m args below meth c 4 g A Q 0 0 64 [(0, .ref (g.2.2 50)), (2, .int x2), (3, .int x3)] [] σ := by
  obtain ⟨hx, hb, hr, hml, hown, hts, hK, hlocks, hXX, hA, hXo⟩ := id C
  intro H locs ls hP hD hS hl
  unfold f_X6_build_50_60_b64 at hf
  obtain ⟨v1, ev1, hf⟩ := bd_s hf
  refine lv_iinc (v := v1) (lv' := [(3, .int v1), (0, .ref (g.2.2 50)), (2, .int x2)]) hx hb dX6_build_64 hl (k := 2) rfl (by rw [ev1]; rfl) (by decide) rfl (fun ls hl => ?_)
  refine lv_goto (tgt := 44) hx hb dX6_build_67 (by decide) ?_
  cases hf
  exact k0 rfl H locs ls hP hD hS (lv_sub hl [1, 2, 0] rfl)
def s_X6_build_50_60_h44 (N : Nat) (x2 : Int32) (x3 : Int32) (σ : Sg) : Option (Nat × Int32 × Sg) :=
if x2 ≤ x3 then (some (1, 0, σ))
else ((f_X6_inTheWay_50 N x2 x3 σ).bind fun q2 =>
if q2.1 = 0 then ((f_X6_mark_50 N x2 x3 (q2.2)).bind fun q3 =>
f_X6_build_50_60_b64 N x2 x3 q3)
else (f_X6_build_50_60_b64 N x2 x3 (q2.2)))
set_option maxHeartbeats 4000000 in
set_option maxRecDepth 100000 in
theorem e_X6_build_50_60_h44 {N : Nat} {x2 : Int32} {x3 : Int32} {σ : Sg} {z : Nat × Int32 × Sg} (C : Cx p s m args meth c cX6_build 4 none RX6 g A X) (hf : s_X6_build_50_60_h44 N x2 x3 σ = some z) (k0 : z.1 = 0 → Bk cw p l e rm_X6_build_50_60 s m args below meth c 4 g A Q 0 0 44 [(0, .ref (g.2.2 50)), (2, .int x2), (3, .int z.2.1)] [] z.2.2) (k : ¬ z.1 = 0 → Bk cw p l e rm_X6_build_50_60 s m args below meth c 4 g A Q 0 0 70 [(0, .ref (g.2.2 50)), (2, .int x2)] [] z.2.2) : Bk cw p l e rm_X6_build_50_60 s m args below meth c 4 g A Q 0 0 44 [(0, .ref (g.2.2 50)), (2, .int x2), (3, .int x3)] [] σ := by
  obtain ⟨hx, hb, hr, hml, hown, hts, hK, hlocks, hXX, hA, hXo⟩ := id C
  intro H locs ls hP hD hS hl
  unfold s_X6_build_50_60_h44 at hf
  refine lv_iload_n hx hb dX6_build_44 rfl (lv_at hl 2 rfl) ?_
  refine lv_iload_n hx hb dX6_build_45 rfl (lv_at hl 1 rfl) ?_
  refine lv_icmp_ge (tgt := 70) hx hb dX6_build_46 (by decide) (fun t46 => ?_) (fun t46 => ?_)
  · have hf := (if_pos t46).symm.trans hf
    cases hf
    exact (k (show ¬ (1 : Nat) = 0 by decide)) H locs ls hP hD hS (lv_sub hl [0, 1] rfl)
  · have hf := (if_neg t46).symm.trans hf
    refine lv_aload_n hx hb dX6_build_49 rfl (lv_at hl 0 rfl) ?_
    refine lv_iload_n hx hb dX6_build_50 rfl (lv_at hl 1 rfl) ?_
    refine lv_iload_n hx hb dX6_build_51 rfl (lv_at hl 2 rfl) ?_
    obtain ⟨q2, hq2, hf⟩ := bi_s hf
    refine bk_VI (wf := cw) (q0 := 50) (ci := 6) (rest := []) [.int x2, .int x3] C hP hD hS hl.1 (c_X6_inTheWay_50 hXo hq2) (cwA_V 2 hts wa_482 wa_479 wa_480 wa_481 wa_32 rfl rfl nd_X6_inTheWay ⟨Nat.le_of_ble_eq_true rfl, Nat.le_of_ble_eq_true rfl⟩) rfl rfl rfl rfl (Nat.le_of_ble_eq_true rfl) dX6_build_52 ⟨Nat.le_of_ble_eq_true rfl, Nat.le_of_ble_eq_true rfl⟩ (fun H locs hP hD hS => ?_)
    refine lv_if_ne (tgt := 64) hx hb dX6_build_55 (by decide) (fun t55 => ?_) (fun t55 => ?_)
    · have hf := (if_neg t55).symm.trans hf
      exact b_X6_build_50_60_b64 C hf k0 k H locs ls hP hD hS (lv_sub hl [0, 1, 2] rfl)
    · have hf := (if_pos t55).symm.trans hf
      refine lv_aload_n hx hb dX6_build_58 rfl (lv_at hl 0 rfl) ?_
      refine lv_iload_n hx hb dX6_build_59 rfl (lv_at hl 1 rfl) ?_
      refine lv_iload_n hx hb dX6_build_60 rfl (lv_at hl 2 rfl) ?_
      obtain ⟨q3, hq3, hf⟩ := bi_s hf
      refine bk_VV (wf := cw) (q0 := 50) (ci := 6) (rest := []) [.int x2, .int x3] C hP hD hS hl.1 (c_X6_mark_50 hXo hq3) (cwA_V 2 hts wa_487 wa_484 wa_485 wa_486 wa_32 rfl rfl nd_X6_mark ⟨Nat.le_of_ble_eq_true rfl, Nat.le_of_ble_eq_true rfl⟩) rfl rfl rfl rfl (Nat.le_of_ble_eq_true rfl) dX6_build_61 ⟨Nat.le_of_ble_eq_true rfl, Nat.le_of_ble_eq_true rfl⟩ (fun H locs hP hD hS => ?_)
      exact b_X6_build_50_60_b64 C hf k0 k H locs ls hP hD hS (lv_sub hl [0, 1, 2] rfl)
theorem lp_X6_build_50_60_h44 {N : Nat} {n : Nat} {x2 : Int32} {x3 : Int32} {σ : Sg} {z : Nat × Int32 × Sg} (C : Cx p s m args meth c cX6_build 4 none RX6 g A X) (hz : it (fun q => s_X6_build_50_60_h44 N x2 q.1 q.2) n (x3, σ) = some z) (k : Bk cw p l e rm_X6_build_50_60 s m args below meth c 4 g A Q 0 0 70 [(0, .ref (g.2.2 50)), (2, .int x2)] [] z.2.2) : Bk cw p l e rm_X6_build_50_60 s m args below meth c 4 g A Q 0 0 44 [(0, .ref (g.2.2 50)), (2, .int x2), (3, .int x3)] [] σ :=
  it_W (S := Int32 × Sg) (fun q => Bk cw p l e rm_X6_build_50_60 s m args below meth c 4 g A Q 0 0 44 [(0, .ref (g.2.2 50)), (2, .int x2), (3, .int q.1)] [] q.2) (fun z => Bk cw p l e rm_X6_build_50_60 s m args below meth c 4 g A Q 0 0 70 [(0, .ref (g.2.2 50)), (2, .int x2)] [] z.2.2) (fun q z hq k0 k => e_X6_build_50_60_h44 C hq k0 k) n (x3, σ) z hz k
def s_X6_build_50_60_h31 (N : Nat) (x2 : Int32) (σ : Sg) : Option (Nat × Int32 × Sg) :=
if (σ 12 0) ≤ x2 then (some (1, 0, σ))
else ((it (fun q => s_X6_build_50_60_h44 N x2 q.1 q.2) N ((0 : Int32), σ)).bind fun z4 =>
bd (x2 + (1 : Int32)) fun v5 =>
some (0, v5, (z4.2.2)))
set_option maxHeartbeats 4000000 in
set_option maxRecDepth 100000 in
theorem e_X6_build_50_60_h31 {N : Nat} {x2 : Int32} {σ : Sg} {z : Nat × Int32 × Sg} (C : Cx p s m args meth c cX6_build 4 none RX6 g A X) (hf : s_X6_build_50_60_h31 N x2 σ = some z) (k0 : z.1 = 0 → Bk cw p l e rm_X6_build_50_60 s m args below meth c 4 g A Q 0 0 31 [(0, .ref (g.2.2 50)), (2, .int z.2.1)] [] z.2.2) (k : ¬ z.1 = 0 → Bk cw p l e rm_X6_build_50_60 s m args below meth c 4 g A Q 0 0 76 [] [] z.2.2) : Bk cw p l e rm_X6_build_50_60 s m args below meth c 4 g A Q 0 0 31 [(0, .ref (g.2.2 50)), (2, .int x2)] [] σ := by
  obtain ⟨hx, hb, hr, hml, hown, hts, hK, hlocks, hXX, hA, hXo⟩ := id C
  intro H locs ls hP hD hS hl
  unfold s_X6_build_50_60_h31 at hf
  refine lv_iload_n hx hb dX6_build_31 rfl (lv_at hl 1 rfl) ?_
  refine lv_aload_n hx hb dX6_build_32 rfl (lv_at hl 0 rfl) ?_
  refine bk_get (wf := cw) (q0 := 50) (ci := 6) (k := 1) (v := .ref (g.2.2 12)) C hP wl_X6 rfl rfl (by decide) wa_132 rfl rfl dX6_build_33 ?_
  refine bk_get (wf := cw) (q0 := 12) (ci := 8) (k := 0) (v := .int (σ 12 0)) C hP wl_X9 rfl rfl (by decide) wa_473 rfl rfl dX6_build_36 ?_
  refine lv_icmp_ge (tgt := 76) hx hb dX6_build_39 (by decide) (fun t39 => ?_) (fun t39 => ?_)
  · have hf := (if_pos t39).symm.trans hf
    cases hf
    exact (k (show ¬ (1 : Nat) = 0 by decide)) H locs ls hP hD hS (lv_sub hl [] rfl)
  · have hf := (if_neg t39).symm.trans hf
    refine lv_iconst (v := (0 : Int32)) hx hb dX6_build_42 (by decide) ?_
    refine lv_istore_n (lv' := [(3, .int (0 : Int32)), (0, .ref (g.2.2 50)), (2, .int x2)]) hx hb dX6_build_43 rfl hl (by decide) rfl (fun ls hl => ?_)
    obtain ⟨z4, hz4, hf⟩ := bi_s hf
    refine lp_X6_build_50_60_h44 C hz4 ?_ H locs ls hP hD hS (lv_sub hl [1, 2, 0] rfl)
    intro H locs ls hP hD hS hl
    obtain ⟨v5, ev5, hf⟩ := bd_s hf
    refine lv_iinc (v := v5) (lv' := [(2, .int v5), (0, .ref (g.2.2 50))]) hx hb dX6_build_70 hl (k := 1) rfl (by rw [ev5]; rfl) (by decide) rfl (fun ls hl => ?_)
    refine lv_goto (tgt := 31) hx hb dX6_build_73 (by decide) ?_
    cases hf
    exact k0 rfl H locs ls hP hD hS (lv_sub hl [1, 0] rfl)
theorem lp_X6_build_50_60_h31 {N : Nat} {n : Nat} {x2 : Int32} {σ : Sg} {z : Nat × Int32 × Sg} (C : Cx p s m args meth c cX6_build 4 none RX6 g A X) (hz : it (fun q => s_X6_build_50_60_h31 N q.1 q.2) n (x2, σ) = some z) (k : Bk cw p l e rm_X6_build_50_60 s m args below meth c 4 g A Q 0 0 76 [] [] z.2.2) : Bk cw p l e rm_X6_build_50_60 s m args below meth c 4 g A Q 0 0 31 [(0, .ref (g.2.2 50)), (2, .int x2)] [] σ :=
  it_W (S := Int32 × Sg) (fun q => Bk cw p l e rm_X6_build_50_60 s m args below meth c 4 g A Q 0 0 31 [(0, .ref (g.2.2 50)), (2, .int q.1)] [] q.2) (fun z => Bk cw p l e rm_X6_build_50_60 s m args below meth c 4 g A Q 0 0 76 [] [] z.2.2) (fun q z hq k0 k => e_X6_build_50_60_h31 C hq k0 k) n (x2, σ) z hz k
def s_X6_build_50_60_h7 (N : Nat) (x2 : Int32) (σ : Sg) : Option (Nat × Int32 × Sg) :=
if (90 : Int32) ≤ x2 then (some (1, 0, σ))
else (if (x2 < 0 ∨ 90 ≤ x2.toNatClampNeg) then none else
bd (wr σ 52 (x2.toNatClampNeg) (0 : Int32)) fun σ7 =>
bd (x2 + (1 : Int32)) fun v8 =>
some (0, v8, σ7))
set_option maxHeartbeats 4000000 in
set_option maxRecDepth 100000 in
theorem e_X6_build_50_60_h7 {N : Nat} {x2 : Int32} {σ : Sg} {z : Nat × Int32 × Sg} (C : Cx p s m args meth c cX6_build 4 none RX6 g A X) (hf : s_X6_build_50_60_h7 N x2 σ = some z) (k0 : z.1 = 0 → Bk cw p l e rm_X6_build_50_60 s m args below meth c 4 g A Q 0 0 7 [(0, .ref (g.2.2 50)), (2, .int z.2.1)] [] z.2.2) (k : ¬ z.1 = 0 → Bk cw p l e rm_X6_build_50_60 s m args below meth c 4 g A Q 0 0 29 [(0, .ref (g.2.2 50))] [] z.2.2) : Bk cw p l e rm_X6_build_50_60 s m args below meth c 4 g A Q 0 0 7 [(0, .ref (g.2.2 50)), (2, .int x2)] [] σ := by
  obtain ⟨hx, hb, hr, hml, hown, hts, hK, hlocks, hXX, hA, hXo⟩ := id C
  intro H locs ls hP hD hS hl
  unfold s_X6_build_50_60_h7 at hf
  refine lv_iload_n hx hb dX6_build_7 rfl (lv_at hl 1 rfl) ?_
  refine lv_aload_n hx hb dX6_build_8 rfl (lv_at hl 0 rfl) ?_
  refine bk_get (wf := cw) (q0 := 50) (ci := 6) (k := 2) (v := .ref (g.2.2 52)) C hP wl_X6 rfl rfl (by decide) wa_131 rfl rfl dX6_build_9 ?_
  refine bk_alen (wf := cw) (q0 := 52) (t0 := 0) (v := (90 : Int32)) C hP rfl rfl (show Int32.ofNat 90 = (90 : Int32) by decide) dX6_build_12 ?_
  refine lv_icmp_ge (tgt := 29) hx hb dX6_build_13 (by decide) (fun t13 => ?_) (fun t13 => ?_)
  · have hf := (if_pos t13).symm.trans hf
    cases hf
    exact (k (show ¬ (1 : Nat) = 0 by decide)) H locs ls hP hD hS (lv_sub hl [0] rfl)
  · have hf := (if_neg t13).symm.trans hf
    refine lv_aload_n hx hb dX6_build_16 rfl (lv_at hl 0 rfl) ?_
    refine bk_get (wf := cw) (q0 := 50) (ci := 6) (k := 2) (v := .ref (g.2.2 52)) C hP wl_X6 rfl rfl (by decide) wa_131 rfl rfl dX6_build_17 ?_
    refine lv_iload_n hx hb dX6_build_20 rfl (lv_at hl 1 rfl) ?_
    refine lv_iconst (v := (0 : Int32)) hx hb dX6_build_21 (by decide) ?_
    obtain ⟨g6, hf⟩ := gd_s hf
    obtain ⟨σ7, eσ7, hf⟩ := bd_s hf
    refine bk_iast (wf := cw) (σ1 := σ7) (q0 := 52) (n := 90) (j := x2.toNatClampNeg) C hP hD hS rfl g6 rfl (by rw [eσ7]; exact cw_a52 g _ _ _) dX6_build_22 (fun H locs hP hD hS => ?_)
    obtain ⟨v8, ev8, hf⟩ := bd_s hf
    refine lv_iinc (v := v8) (lv' := [(2, .int v8), (0, .ref (g.2.2 50))]) hx hb dX6_build_23 hl (k := 1) rfl (by rw [ev8]; rfl) (by decide) rfl (fun ls hl => ?_)
    refine lv_goto (tgt := 7) hx hb dX6_build_26 (by decide) ?_
    cases hf
    exact k0 rfl H locs ls hP hD hS (lv_sub hl [1, 0] rfl)
theorem lp_X6_build_50_60_h7 {N : Nat} {n : Nat} {x2 : Int32} {σ : Sg} {z : Nat × Int32 × Sg} (C : Cx p s m args meth c cX6_build 4 none RX6 g A X) (hz : it (fun q => s_X6_build_50_60_h7 N q.1 q.2) n (x2, σ) = some z) (k : Bk cw p l e rm_X6_build_50_60 s m args below meth c 4 g A Q 0 0 29 [(0, .ref (g.2.2 50))] [] z.2.2) : Bk cw p l e rm_X6_build_50_60 s m args below meth c 4 g A Q 0 0 7 [(0, .ref (g.2.2 50)), (2, .int x2)] [] σ :=
  it_W (S := Int32 × Sg) (fun q => Bk cw p l e rm_X6_build_50_60 s m args below meth c 4 g A Q 0 0 7 [(0, .ref (g.2.2 50)), (2, .int q.1)] [] q.2) (fun z => Bk cw p l e rm_X6_build_50_60 s m args below meth c 4 g A Q 0 0 29 [(0, .ref (g.2.2 50))] [] z.2.2) (fun q z hq k0 k => e_X6_build_50_60_h7 C hq k0 k) n (x2, σ) z hz k
def f_X6_build_50_60 (N : Nat) (σ : Sg) : Option (Sg) :=
(f_X6_takeTops_50_60 N σ).bind fun q9 =>
(it (fun q => s_X6_build_50_60_h7 N q.1 q.2) N ((0 : Int32), q9)).bind fun z10 =>
(it (fun q => s_X6_build_50_60_h31 N q.1 q.2) N ((0 : Int32), (z10.2.2))).bind fun z11 =>
some (z11.2.2)
set_option maxHeartbeats 4000000 in
set_option maxRecDepth 100000 in
theorem b_X6_build_50_60 {N : Nat} {σ : Sg} {z : Sg} (C : Cx p s m args meth c cX6_build 4 none RX6 g A X) (hf : f_X6_build_50_60 N σ = some z) : Bk cw p l e rm_X6_build_50_60 s m args below meth c 4 g A (MQ below (qV cw g A z) args s 0 0 A) 0 0 0 [(0, .ref (g.2.2 50)), (1, .ref (g.2.2 60))] [] σ := by
  obtain ⟨hx, hb, hr, hml, hown, hts, hK, hlocks, hXX, hA, hXo⟩ := id C
  intro H locs ls hP hD hS hl
  unfold f_X6_build_50_60 at hf
  refine lv_aload_n hx hb dX6_build_0 rfl (lv_at hl 0 rfl) ?_
  refine lv_aload_n hx hb dX6_build_1 rfl (lv_at hl 1 rfl) ?_
  obtain ⟨q9, hq9, hf⟩ := bi_s hf
  refine bk_VV (wf := cw) (q0 := 50) (ci := 6) (rest := []) [.ref (g.2.2 60)] C hP hD hS hl.1 (c_X6_takeTops_50_60 hXo hq9) (cwA_V 1 hts wa_477 wa_474 wa_475 wa_476 wa_32 rfl rfl nd_X6_takeTops ⟨Nat.le_of_ble_eq_true rfl, Nat.le_of_ble_eq_true rfl⟩) rfl rfl rfl rfl (Nat.le_of_ble_eq_true rfl) dX6_build_2 ⟨Nat.le_of_ble_eq_true rfl, Nat.le_of_ble_eq_true rfl⟩ (fun H locs hP hD hS => ?_)
  refine lv_iconst (v := (0 : Int32)) hx hb dX6_build_5 (by decide) ?_
  refine lv_istore_n (lv' := [(2, .int (0 : Int32)), (0, .ref (g.2.2 50)), (1, .ref (g.2.2 60))]) hx hb dX6_build_6 rfl hl (by decide) rfl (fun ls hl => ?_)
  obtain ⟨z10, hz10, hf⟩ := bi_s hf
  refine lp_X6_build_50_60_h7 C hz10 ?_ H locs ls hP hD hS (lv_sub hl [1, 0] rfl)
  intro H locs ls hP hD hS hl
  refine lv_iconst (v := (0 : Int32)) hx hb dX6_build_29 (by decide) ?_
  refine lv_istore_n (lv' := [(2, .int (0 : Int32)), (0, .ref (g.2.2 50))]) hx hb dX6_build_30 rfl hl (by decide) rfl (fun ls hl => ?_)
  obtain ⟨z11, hz11, hf⟩ := bi_s hf
  refine lp_X6_build_50_60_h31 C hz11 ?_ H locs ls hP hD hS (lv_sub hl [1, 0] rfl)
  intro H locs ls hP hD hS hl
  cases hf
  exact bk_vret C hP hD hS rfl dX6_build_76
theorem c_X6_build_50_60 {N : Nat} {σ : Sg} {z : Sg} (hX : xOK g X) (hf : f_X6_build_50_60 N σ = some z) : MetV l yX6_build (Cond.code yX6_build cX6_build 4 none :: wsA) rm_X6_build_50_60 cw g X [.ref (g.2.2 50), .ref (g.2.2 60)] σ z :=
  MetV_of hX (by decide) (Nat.le_of_ble_eq_true rfl) (fun p e s m args below meth c A C => b_X6_build_50_60 C hf)
-- X7_turnSleep_56: turnSleep(I)V
abbrev rm_X7_turnSleep_56 : Room := { frames := 0, cells := 0, slots := 0, locals := 0 }
def f_X7_turnSleep_56 (N : Nat) (x1 : Int32) (σ : Sg) : Option (Sg) :=
bd (wr σ 56 1 ((σ 56 1) ^^^ ((1 : Int32) <<< (x1 &&& 31)))) fun σ1 =>
if (x1 < 0 ∨ 9 ≤ x1.toNatClampNeg) then none else
bd (wr σ1 57 (x1.toNatClampNeg) (0 : Int32)) fun σ3 =>
some σ3
set_option maxHeartbeats 4000000 in
set_option maxRecDepth 100000 in
theorem b_X7_turnSleep_56 {N : Nat} {x1 : Int32} {σ : Sg} {z : Sg} (C : Cx p s m args meth c cX7_turnSleep 2 none RX7 g A X) (hf : f_X7_turnSleep_56 N x1 σ = some z) : Bk cw p l e rm_X7_turnSleep_56 s m args below meth c 2 g A (MQ below (qV cw g A z) args s 0 0 A) 0 0 0 [(0, .ref (g.2.2 56)), (1, .int x1)] [] σ := by
  obtain ⟨hx, hb, hr, hml, hown, hts, hK, hlocks, hXX, hA, hXo⟩ := id C
  intro H locs ls hP hD hS hl
  unfold f_X7_turnSleep_56 at hf
  refine lv_aload_n hx hb dX7_turnSleep_0 rfl (lv_at hl 0 rfl) ?_
  refine lv_dup hx hb dX7_turnSleep_1 rfl ?_
  refine bk_get (wf := cw) (q0 := 56) (ci := 7) (k := 1) (v := .int (σ 56 1)) C hP wl_X7 rfl rfl (by decide) wa_108 rfl rfl dX7_turnSleep_2 ?_
  refine lv_iconst (v := (1 : Int32)) hx hb dX7_turnSleep_5 (by decide) ?_
  refine lv_iload_n hx hb dX7_turnSleep_6 rfl (lv_at hl 1 rfl) ?_
  refine lv_ishl hx hb dX7_turnSleep_7 ?_
  refine lv_ixor hx hb dX7_turnSleep_8 ?_
  obtain ⟨σ1, eσ1, hf⟩ := bd_s hf
  refine bk_put (wf := cw) (σ1 := σ1) (q0 := 56) (ci := 7) (k := 1) (v := .int ((σ 56 1) ^^^ ((1 : Int32) <<< (x1 &&& 31)))) C hP hD hS wl_X7 tyX7_ok nmX7 rfl rfl (by decide) wa_108 rfl rfl rfl rfl rfl (Nat.le_of_ble_eq_true rfl) (by rw [eσ1]; exact cw_p56_1 g _ _) dX7_turnSleep_9 (fun H locs hP hD hS => ?_)
  refine lv_aload_n hx hb dX7_turnSleep_12 rfl (lv_at hl 0 rfl) ?_
  refine bk_get (wf := cw) (q0 := 56) (ci := 7) (k := 2) (v := .ref (g.2.2 57)) C hP wl_X7 rfl rfl (by decide) wa_109 rfl rfl dX7_turnSleep_13 ?_
  refine lv_iload_n hx hb dX7_turnSleep_16 rfl (lv_at hl 1 rfl) ?_
  refine lv_iconst (v := (0 : Int32)) hx hb dX7_turnSleep_17 (by decide) ?_
  obtain ⟨g2, hf⟩ := gd_s hf
  obtain ⟨σ3, eσ3, hf⟩ := bd_s hf
  refine bk_iast (wf := cw) (σ1 := σ3) (q0 := 57) (n := 9) (j := x1.toNatClampNeg) C hP hD hS rfl g2 rfl (by rw [eσ3]; exact cw_a57 g _ _ _) dX7_turnSleep_18 (fun H locs hP hD hS => ?_)
  cases hf
  exact bk_vret C hP hD hS rfl dX7_turnSleep_19
theorem c_X7_turnSleep_56 {N : Nat} {x1 : Int32} {σ : Sg} {z : Sg} (hX : xOK g X) (hf : f_X7_turnSleep_56 N x1 σ = some z) : MetV l yX7_turnSleep (Cond.code yX7_turnSleep cX7_turnSleep 2 none :: wsA) rm_X7_turnSleep_56 cw g X [.ref (g.2.2 56), .int x1] σ z :=
  MetV_of hX (by decide) (Nat.le_of_ble_eq_true rfl) (fun p e s m args below meth c A C => b_X7_turnSleep_56 C hf)
-- X11_happen_0: happen()V
abbrev rm_X11_happen_0 : Room := { frames := 5, cells := 0, slots := 0, locals := 115 }
theorem nd_X11_happen : yX11_happen.cls ≠ "java/lang/invoke/MethodHandle" ∧ yX11_happen.cls ≠ "java/lang/invoke/VarHandle" ∧ (parseMethodDescriptor yX11_happen.desc).map (fun d => d.parameters.length) = some 0 := by decide +kernel
def f_X11_happen_0 (N : Nat) (σ : Sg) : Option (Sg) :=
(f_X2_draw_55 N (6 : Int32) σ).bind fun q1 =>
bd q1.1 fun v2 =>
if (2 : Int32) < v2 then (some (q1.2))
else (if ((q1.2) 12 0) = 0 then (some (q1.2))
else ((f_X2_draw_55 N ((q1.2) 12 0) (q1.2)).bind fun q3 =>
bd q3.1 fun v4 =>
if v4 < (9 : Int32) then (if v2 = 0 then ((f_X7_startNod_56 N v4 (q3.2)).bind fun q10 =>
some q10)
else (if v2 = (1 : Int32) then ((f_X7_turnSleep_56 N v4 (q3.2)).bind fun q9 =>
some q9)
else ((f_X2_draw_55 N (21 : Int32) (q3.2)).bind fun q5 =>
if (v4 < 0 ∨ 9 ≤ v4.toNatClampNeg) then none else
bd (wr (q5.2) 60 (v4.toNatClampNeg) q5.1) fun σ7 =>
(f_X6_build_50_60 N σ7).bind fun q8 =>
some q8)))
else (some (q3.2))))
set_option maxHeartbeats 4000000 in
set_option maxRecDepth 100000 in
theorem b_X11_happen_0 {N : Nat} {σ : Sg} {z : Sg} (C : Cx p s m args meth c cX11_happen 3 none RX11 g A X) (hf : f_X11_happen_0 N σ = some z) : Bk cw p l e rm_X11_happen_0 s m args below meth c 3 g A (MQ below (qV cw g A z) args s 0 0 A) 0 0 0 [(0, .ref (g.2.2 0))] [] σ := by
  obtain ⟨hx, hb, hr, hml, hown, hts, hK, hlocks, hXX, hA, hXo⟩ := id C
  intro H locs ls hP hD hS hl
  unfold f_X11_happen_0 at hf
  refine lv_aload_n hx hb dX11_happen_0 rfl (lv_at hl 0 rfl) ?_
  refine bk_get (wf := cw) (q0 := 0) (ci := 10) (k := 10) (v := .ref (g.2.2 55)) C hP wl_X11 rfl rfl (by decide) wa_42 rfl rfl dX11_happen_1 ?_
  refine lv_bipush (v := (6 : Int32)) hx hb dX11_happen_4 (by decide) ?_
  obtain ⟨q1, hq1, hf⟩ := bi_s hf
  refine bk_VI (wf := cw) (q0 := 55) (ci := 2) (rest := []) [.int (6 : Int32)] C hP hD hS hl.1 (c_X2_draw_55 hXo hq1) (cwA_V 1 hts wa_1402 wa_1399 wa_1400 wa_1401 wa_41 rfl rfl nd_X2_draw ⟨Nat.le_of_ble_eq_true rfl, Nat.le_of_ble_eq_true rfl⟩) rfl rfl rfl rfl (Nat.le_of_ble_eq_true rfl) dX11_happen_6 ⟨Nat.le_of_ble_eq_true rfl, Nat.le_of_ble_eq_true rfl⟩ (fun H locs hP hD hS => ?_)
  obtain ⟨v2, ev2, hf⟩ := bd_s hf
  rw [← ev2]
  refine lv_istore_n (lv' := [(1, .int v2), (0, .ref (g.2.2 0))]) hx hb dX11_happen_9 rfl hl (by decide) rfl (fun ls hl => ?_)
  refine lv_iload_n hx hb dX11_happen_10 rfl (lv_at hl 0 rfl) ?_
  refine lv_iconst (v := (2 : Int32)) hx hb dX11_happen_11 (by decide) ?_
  refine lv_icmp_gt (tgt := 25) hx hb dX11_happen_12 (by decide) (fun t12 => ?_) (fun t12 => ?_)
  · have hf := (if_pos t12).symm.trans hf
    cases hf
    exact bk_vret C hP hD hS rfl dX11_happen_25
  · have hf := (if_neg t12).symm.trans hf
    refine lv_aload_n hx hb dX11_happen_15 rfl (lv_at hl 1 rfl) ?_
    refine bk_get (wf := cw) (q0 := 0) (ci := 10) (k := 3) (v := .ref (g.2.2 12)) C hP wl_X11 rfl rfl (by decide) wa_23 rfl rfl dX11_happen_16 ?_
    refine bk_get (wf := cw) (q0 := 12) (ci := 8) (k := 0) (v := .int ((q1.2) 12 0)) C hP wl_X9 rfl rfl (by decide) wa_644 rfl rfl dX11_happen_19 ?_
    refine lv_if_ne (tgt := 26) hx hb dX11_happen_22 (by decide) (fun t22 => ?_) (fun t22 => ?_)
    · have hf := (if_neg t22).symm.trans hf
      refine lv_aload_n hx hb dX11_happen_26 rfl (lv_at hl 1 rfl) ?_
      refine bk_get (wf := cw) (q0 := 0) (ci := 10) (k := 10) (v := .ref (g.2.2 55)) C hP wl_X11 rfl rfl (by decide) wa_42 rfl rfl dX11_happen_27 ?_
      refine lv_aload_n hx hb dX11_happen_30 rfl (lv_at hl 1 rfl) ?_
      refine bk_get (wf := cw) (q0 := 0) (ci := 10) (k := 3) (v := .ref (g.2.2 12)) C hP wl_X11 rfl rfl (by decide) wa_23 rfl rfl dX11_happen_31 ?_
      refine bk_get (wf := cw) (q0 := 12) (ci := 8) (k := 0) (v := .int ((q1.2) 12 0)) C hP wl_X9 rfl rfl (by decide) wa_644 rfl rfl dX11_happen_34 ?_
      obtain ⟨q3, hq3, hf⟩ := bi_s hf
      refine bk_VI (wf := cw) (q0 := 55) (ci := 2) (rest := []) [.int ((q1.2) 12 0)] C hP hD hS hl.1 (c_X2_draw_55 hXo hq3) (cwA_V 1 hts wa_1402 wa_1399 wa_1400 wa_1401 wa_41 rfl rfl nd_X2_draw ⟨Nat.le_of_ble_eq_true rfl, Nat.le_of_ble_eq_true rfl⟩) rfl rfl rfl rfl (Nat.le_of_ble_eq_true rfl) dX11_happen_37 ⟨Nat.le_of_ble_eq_true rfl, Nat.le_of_ble_eq_true rfl⟩ (fun H locs hP hD hS => ?_)
      obtain ⟨v4, ev4, hf⟩ := bd_s hf
      rw [← ev4]
      refine lv_istore_n (lv' := [(2, .int v4), (1, .int v2), (0, .ref (g.2.2 0))]) hx hb dX11_happen_40 rfl hl (by decide) rfl (fun ls hl => ?_)
      refine lv_iload_n hx hb dX11_happen_41 rfl (lv_at hl 0 rfl) ?_
      refine lv_bipush (v := (9 : Int32)) hx hb dX11_happen_42 (by decide) ?_
      refine lv_icmp_lt (tgt := 48) hx hb dX11_happen_44 (by decide) (fun t44 => ?_) (fun t44 => ?_)
      · have hf := (if_pos t44).symm.trans hf
        refine lv_iload_n hx hb dX11_happen_48 rfl (lv_at hl 1 rfl) ?_
        refine lv_if_ne (tgt := 66) hx hb dX11_happen_49 (by decide) (fun t49 => ?_) (fun t49 => ?_)
        · have hf := (if_neg t49).symm.trans hf
          refine lv_iload_n hx hb dX11_happen_66 rfl (lv_at hl 1 rfl) ?_
          refine lv_iconst (v := (1 : Int32)) hx hb dX11_happen_67 (by decide) ?_
          refine lv_icmp_ne (tgt := 85) hx hb dX11_happen_68 (by decide) (fun t68 => ?_) (fun t68 => ?_)
          · have hf := (if_neg t68).symm.trans hf
            refine lv_aload_n hx hb dX11_happen_85 rfl (lv_at hl 2 rfl) ?_
            refine bk_get (wf := cw) (q0 := 0) (ci := 10) (k := 10) (v := .ref (g.2.2 55)) C hP wl_X11 rfl rfl (by decide) wa_42 rfl rfl dX11_happen_86 ?_
            refine bk_get (wf := cw) (q0 := 55) (ci := 2) (k := 0) (v := .ref (g.2.2 56)) C hP wl_X2 rfl rfl (by decide) wa_808 rfl rfl dX11_happen_89 ?_
            refine bk_get (wf := cw) (q0 := 56) (ci := 7) (k := 5) (v := .ref (g.2.2 60)) C hP wl_X7 rfl rfl (by decide) wa_224 rfl rfl dX11_happen_92 ?_
            refine lv_iload_n hx hb dX11_happen_95 rfl (lv_at hl 0 rfl) ?_
            refine lv_aload_n hx hb dX11_happen_96 rfl (lv_at hl 2 rfl) ?_
            refine bk_get (wf := cw) (q0 := 0) (ci := 10) (k := 10) (v := .ref (g.2.2 55)) C hP wl_X11 rfl rfl (by decide) wa_42 rfl rfl dX11_happen_97 ?_
            refine lv_bipush (v := (21 : Int32)) hx hb dX11_happen_100 (by decide) ?_
            obtain ⟨q5, hq5, hf⟩ := bi_s hf
            refine bk_VI (wf := cw) (q0 := 55) (ci := 2) (rest := [.int v4, .ref (g.2.2 60)]) [.int (21 : Int32)] C hP hD hS hl.1 (c_X2_draw_55 hXo hq5) (cwA_V 1 hts wa_1402 wa_1399 wa_1400 wa_1401 wa_41 rfl rfl nd_X2_draw ⟨Nat.le_of_ble_eq_true rfl, Nat.le_of_ble_eq_true rfl⟩) rfl rfl rfl rfl (Nat.le_of_ble_eq_true rfl) dX11_happen_102 ⟨Nat.le_of_ble_eq_true rfl, Nat.le_of_ble_eq_true rfl⟩ (fun H locs hP hD hS => ?_)
            obtain ⟨g6, hf⟩ := gd_s hf
            obtain ⟨σ7, eσ7, hf⟩ := bd_s hf
            refine bk_iast (wf := cw) (σ1 := σ7) (q0 := 60) (n := 9) (j := v4.toNatClampNeg) C hP hD hS rfl g6 rfl (by rw [eσ7]; exact cw_a60 g _ _ _) dX11_happen_105 (fun H locs hP hD hS => ?_)
            refine lv_aload_n hx hb dX11_happen_106 rfl (lv_at hl 2 rfl) ?_
            refine bk_get (wf := cw) (q0 := 0) (ci := 10) (k := 8) (v := .ref (g.2.2 50)) C hP wl_X11 rfl rfl (by decide) wa_34 rfl rfl dX11_happen_107 ?_
            refine lv_aload_n hx hb dX11_happen_110 rfl (lv_at hl 2 rfl) ?_
            refine bk_get (wf := cw) (q0 := 0) (ci := 10) (k := 10) (v := .ref (g.2.2 55)) C hP wl_X11 rfl rfl (by decide) wa_42 rfl rfl dX11_happen_111 ?_
            refine bk_get (wf := cw) (q0 := 55) (ci := 2) (k := 0) (v := .ref (g.2.2 56)) C hP wl_X2 rfl rfl (by decide) wa_808 rfl rfl dX11_happen_114 ?_
            refine bk_get (wf := cw) (q0 := 56) (ci := 7) (k := 5) (v := .ref (g.2.2 60)) C hP wl_X7 rfl rfl (by decide) wa_224 rfl rfl dX11_happen_117 ?_
            obtain ⟨q8, hq8, hf⟩ := bi_s hf
            refine bk_VV (wf := cw) (q0 := 50) (ci := 6) (rest := []) [.ref (g.2.2 60)] C hP hD hS hl.1 (c_X6_build_50_60 hXo hq8) (cwA_V 1 hts wa_472 wa_469 wa_470 wa_471 wa_32 rfl rfl nd_X6_build ⟨Nat.le_of_ble_eq_true rfl, Nat.le_of_ble_eq_true rfl⟩) rfl rfl rfl rfl (Nat.le_of_ble_eq_true rfl) dX11_happen_120 ⟨Nat.le_of_ble_eq_true rfl, Nat.le_of_ble_eq_true rfl⟩ (fun H locs hP hD hS => ?_)
            cases hf
            exact bk_vret C hP hD hS rfl dX11_happen_123
          · have hf := (if_pos t68).symm.trans hf
            refine lv_aload_n hx hb dX11_happen_71 rfl (lv_at hl 2 rfl) ?_
            refine bk_get (wf := cw) (q0 := 0) (ci := 10) (k := 10) (v := .ref (g.2.2 55)) C hP wl_X11 rfl rfl (by decide) wa_42 rfl rfl dX11_happen_72 ?_
            refine bk_get (wf := cw) (q0 := 55) (ci := 2) (k := 0) (v := .ref (g.2.2 56)) C hP wl_X2 rfl rfl (by decide) wa_808 rfl rfl dX11_happen_75 ?_
            refine lv_iload_n hx hb dX11_happen_78 rfl (lv_at hl 0 rfl) ?_
            obtain ⟨q9, hq9, hf⟩ := bi_s hf
            refine bk_VV (wf := cw) (q0 := 56) (ci := 7) (rest := []) [.int v4] C hP hD hS hl.1 (c_X7_turnSleep_56 hXo hq9) (cwA_V 1 hts wa_958 wa_955 wa_956 wa_957 wa_93 rfl rfl nd_X7_turnSleep ⟨Nat.le_of_ble_eq_true rfl, Nat.le_of_ble_eq_true rfl⟩) rfl rfl rfl rfl (Nat.le_of_ble_eq_true rfl) dX11_happen_79 ⟨Nat.le_of_ble_eq_true rfl, Nat.le_of_ble_eq_true rfl⟩ (fun H locs hP hD hS => ?_)
            refine lv_goto (tgt := 123) hx hb dX11_happen_82 (by decide) ?_
            cases hf
            exact bk_vret C hP hD hS rfl dX11_happen_123
        · have hf := (if_pos t49).symm.trans hf
          refine lv_aload_n hx hb dX11_happen_52 rfl (lv_at hl 2 rfl) ?_
          refine bk_get (wf := cw) (q0 := 0) (ci := 10) (k := 10) (v := .ref (g.2.2 55)) C hP wl_X11 rfl rfl (by decide) wa_42 rfl rfl dX11_happen_53 ?_
          refine bk_get (wf := cw) (q0 := 55) (ci := 2) (k := 0) (v := .ref (g.2.2 56)) C hP wl_X2 rfl rfl (by decide) wa_808 rfl rfl dX11_happen_56 ?_
          refine lv_iload_n hx hb dX11_happen_59 rfl (lv_at hl 0 rfl) ?_
          obtain ⟨q10, hq10, hf⟩ := bi_s hf
          refine bk_VV (wf := cw) (q0 := 56) (ci := 7) (rest := []) [.int v4] C hP hD hS hl.1 (c_X7_startNod_56 hXo hq10) (cwA_V 1 hts wa_930 wa_927 wa_928 wa_929 wa_93 rfl rfl nd_X7_startNod ⟨Nat.le_of_ble_eq_true rfl, Nat.le_of_ble_eq_true rfl⟩) rfl rfl rfl rfl (Nat.le_of_ble_eq_true rfl) dX11_happen_60 ⟨Nat.le_of_ble_eq_true rfl, Nat.le_of_ble_eq_true rfl⟩ (fun H locs hP hD hS => ?_)
          refine lv_goto (tgt := 123) hx hb dX11_happen_63 (by decide) ?_
          cases hf
          exact bk_vret C hP hD hS rfl dX11_happen_123
      · have hf := (if_neg t44).symm.trans hf
        cases hf
        exact bk_vret C hP hD hS rfl dX11_happen_47
    · have hf := (if_pos t22).symm.trans hf
      cases hf
      exact bk_vret C hP hD hS rfl dX11_happen_25
theorem c_X11_happen_0 {N : Nat} {σ : Sg} {z : Sg} (hX : xOK g X) (hf : f_X11_happen_0 N σ = some z) : MetV l yX11_happen (Cond.code yX11_happen cX11_happen 3 none :: wsA) rm_X11_happen_0 cw g X [.ref (g.2.2 0)] σ z :=
  MetV_of hX (by decide) (Nat.le_of_ble_eq_true rfl) (fun p e s m args below meth c A C => b_X11_happen_0 C hf)
-- X6_of_50: of(II)I
abbrev rm_X6_of_50 : Room := { frames := 0, cells := 0, slots := 0, locals := 0 }
def f_X6_of_50_b29 (N : Nat) (σ : Sg) : Option (Int32 × Sg) :=
some ((0 : Int32), σ)
set_option maxHeartbeats 4000000 in
set_option maxRecDepth 100000 in
theorem b_X6_of_50_b29 {N : Nat} {σ : Sg} {z : Int32 × Sg} (C : Cx p s m args meth c cX6_of 4 (some .int) RX6 g A X) (hf : f_X6_of_50_b29 N σ = some z) : Bk cw p l e rm_X6_of_50 s m args below meth c 4 g A (MQ below (qI cw g A z.1 z.2) args s 0 0 A) 0 0 29 [] [] σ := by
  obtain ⟨hx, hb, hr, hml, hown, hts, hK, hlocks, hXX, hA, hXo⟩ := id C
  intro H locs ls hP hD hS hl
  unfold f_X6_of_50_b29 at hf
  refine lv_iconst (v := (0 : Int32)) hx hb dX6_of_29 (by decide) ?_
  cases hf
  exact bk_iret C hP hD hS rfl dX6_of_30
def f_X6_of_50 (N : Nat) (x1 : Int32) (x2 : Int32) (σ : Sg) : Option (Int32 × Sg) :=
bd ((x2 * (9 : Int32)) + x1) fun v1 =>
if v1 < 0 then (f_X6_of_50_b29 N σ)
else (if (90 : Int32) ≤ v1 then (f_X6_of_50_b29 N σ)
else (if (v1 < 0 ∨ 90 ≤ v1.toNatClampNeg) then none else
some ((σ 52 v1.toNatClampNeg), σ)))
set_option maxHeartbeats 4000000 in
set_option maxRecDepth 100000 in
theorem b_X6_of_50 {N : Nat} {x1 : Int32} {x2 : Int32} {σ : Sg} {z : Int32 × Sg} (C : Cx p s m args meth c cX6_of 4 (some .int) RX6 g A X) (hf : f_X6_of_50 N x1 x2 σ = some z) : Bk cw p l e rm_X6_of_50 s m args below meth c 4 g A (MQ below (qI cw g A z.1 z.2) args s 0 0 A) 0 0 0 [(0, .ref (g.2.2 50)), (1, .int x1), (2, .int x2)] [] σ := by
  obtain ⟨hx, hb, hr, hml, hown, hts, hK, hlocks, hXX, hA, hXo⟩ := id C
  intro H locs ls hP hD hS hl
  unfold f_X6_of_50 at hf
  refine lv_iload_n hx hb dX6_of_0 rfl (lv_at hl 2 rfl) ?_
  refine lv_bipush (v := (9 : Int32)) hx hb dX6_of_1 (by decide) ?_
  refine lv_imul hx hb dX6_of_3 ?_
  refine lv_iload_n hx hb dX6_of_4 rfl (lv_at hl 1 rfl) ?_
  refine lv_iadd hx hb dX6_of_5 ?_
  obtain ⟨v1, ev1, hf⟩ := bd_s hf
  rw [← ev1]
  refine lv_istore_n (lv' := [(3, .int v1), (0, .ref (g.2.2 50)), (1, .int x1), (2, .int x2)]) hx hb dX6_of_6 rfl hl (by decide) rfl (fun ls hl => ?_)
  refine lv_iload_n hx hb dX6_of_7 rfl (lv_at hl 0 rfl) ?_
  refine lv_if_lt (tgt := 29) hx hb dX6_of_8 (by decide) (fun t8 => ?_) (fun t8 => ?_)
  · have hf := (if_pos t8).symm.trans hf
    exact b_X6_of_50_b29 C hf H locs ls hP hD hS (lv_sub hl [] rfl)
  · have hf := (if_neg t8).symm.trans hf
    refine lv_iload_n hx hb dX6_of_11 rfl (lv_at hl 0 rfl) ?_
    refine lv_aload_n hx hb dX6_of_12 rfl (lv_at hl 1 rfl) ?_
    refine bk_get (wf := cw) (q0 := 50) (ci := 6) (k := 2) (v := .ref (g.2.2 52)) C hP wl_X6 rfl rfl (by decide) wa_131 rfl rfl dX6_of_13 ?_
    refine bk_alen (wf := cw) (q0 := 52) (t0 := 0) (v := (90 : Int32)) C hP rfl rfl (show Int32.ofNat 90 = (90 : Int32) by decide) dX6_of_16 ?_
    refine lv_icmp_ge (tgt := 29) hx hb dX6_of_17 (by decide) (fun t17 => ?_) (fun t17 => ?_)
    · have hf := (if_pos t17).symm.trans hf
      exact b_X6_of_50_b29 C hf H locs ls hP hD hS (lv_sub hl [] rfl)
    · have hf := (if_neg t17).symm.trans hf
      refine lv_aload_n hx hb dX6_of_20 rfl (lv_at hl 1 rfl) ?_
      refine bk_get (wf := cw) (q0 := 50) (ci := 6) (k := 2) (v := .ref (g.2.2 52)) C hP wl_X6 rfl rfl (by decide) wa_131 rfl rfl dX6_of_21 ?_
      refine lv_iload_n hx hb dX6_of_24 rfl (lv_at hl 0 rfl) ?_
      obtain ⟨g2, hf⟩ := gd_s hf
      refine bk_iald (wf := cw) (q0 := 52) (n := 90) (j := v1.toNatClampNeg) C hP rfl g2 rfl dX6_of_25 ?_
      refine lv_goto (tgt := 30) hx hb dX6_of_26 (by decide) ?_
      cases hf
      exact bk_iret C hP hD hS rfl dX6_of_30
theorem c_X6_of_50 {N : Nat} {x1 : Int32} {x2 : Int32} {σ : Sg} {z : Int32 × Sg} (hX : xOK g X) (hf : f_X6_of_50 N x1 x2 σ = some z) : MetI l yX6_of (Cond.code yX6_of cX6_of 4 (some .int) :: wsA) rm_X6_of_50 cw g X [.ref (g.2.2 50), .int x1, .int x2] σ z.1 z.2 :=
  MetI_of hX (by decide) (Nat.le_of_ble_eq_true rfl) (fun p e s m args below meth c A C => b_X6_of_50 C hf)
-- X2_step_55_50: step(LNodPost$Sight;I)I
abbrev rm_X2_step_55_50 : Room := { frames := 4, cells := 0, slots := 0, locals := 95 }
def f_X2_step_55_50_b82 (N : Nat) (x2 : Int32) (x3 : Int32) (x4 : Int32) (σ : Sg) : Option (Nat × Int32 × Sg) :=
bd (x4 + (1 : Int32)) fun v1 =>
some (0, v1, σ)
set_option maxHeartbeats 4000000 in
set_option maxRecDepth 100000 in
theorem b_X2_step_55_50_b82 {N : Nat} {x2 : Int32} {x3 : Int32} {x4 : Int32} {σ : Sg} {z : Nat × Int32 × Sg} (C : Cx p s m args meth c cX2_step 6 (some .int) RX2 g A X) (hf : f_X2_step_55_50_b82 N x2 x3 x4 σ = some z) (k0 : z.1 = 0 → Bk cw p l e rm_X2_step_55_50 s m args below meth c 6 g A Q 0 0 8 [(0, .ref (g.2.2 55)), (1, .ref (g.2.2 50)), (2, .int x2), (3, .int x3), (4, .int z.2.1)] [] z.2.2) (k : ¬ z.1 = 0 → Bk cw p l e rm_X2_step_55_50 s m args below meth c 6 g A Q 0 0 88 [(0, .ref (g.2.2 55)), (3, .int x3)] [] z.2.2) : Bk cw p l e rm_X2_step_55_50 s m args below meth c 6 g A Q 0 0 82 [(0, .ref (g.2.2 55)), (1, .ref (g.2.2 50)), (2, .int x2), (3, .int x3), (4, .int x4)] [] σ := by
  obtain ⟨hx, hb, hr, hml, hown, hts, hK, hlocks, hXX, hA, hXo⟩ := id C
  intro H locs ls hP hD hS hl
  unfold f_X2_step_55_50_b82 at hf
  obtain ⟨v1, ev1, hf⟩ := bd_s hf
  refine lv_iinc (v := v1) (lv' := [(4, .int v1), (0, .ref (g.2.2 55)), (1, .ref (g.2.2 50)), (2, .int x2), (3, .int x3)]) hx hb dX2_step_82 hl (k := 4) rfl (by rw [ev1]; rfl) (by decide) rfl (fun ls hl => ?_)
  refine lv_goto (tgt := 8) hx hb dX2_step_85 (by decide) ?_
  cases hf
  exact k0 rfl H locs ls hP hD hS (lv_sub hl [1, 2, 3, 4, 0] rfl)
def s_X2_step_55_50_h8 (N : Nat) (x2 : Int32) (x3 : Int32) (x4 : Int32) (σ : Sg) : Option (Nat × Int32 × Sg) :=
if (σ 12 0) ≤ x4 then (some (1, 0, σ))
else (if x3 = 0 then (some (1, 0, σ))
else ((f_X6_of_50 N x4 x2 σ).bind fun q2 =>
bd (q2.1 &&& x3) fun v3 =>
if v3 = 0 then (f_X2_step_55_50_b82 N x2 x3 x4 (q2.2))
else ((f_X2_isFree_55 N x4 x3 (q2.2)).bind fun q4 =>
if q4.1 = 0 then (f_X2_step_55_50_b82 N x2 x3 x4 (q4.2))
else ((f_X2_minds_55 N x4 v3 x2 (q4.2)).bind fun q5 =>
if q5.1 = 0 then (f_X2_step_55_50_b82 N x2 x3 x4 (q5.2))
else (if (x4 < 0 ∨ 9 ≤ x4.toNatClampNeg) then none else
if (x4 < 0 ∨ 9 ≤ x4.toNatClampNeg) then none else
bd (wr (q5.2) 57 (x4.toNatClampNeg) ((q5.2) 16 x4.toNatClampNeg)) fun σ8 =>
f_X2_step_55_50_b82 N x2 x3 x4 σ8)))))
set_option maxHeartbeats 4000000 in
set_option maxRecDepth 100000 in
theorem e_X2_step_55_50_h8 {N : Nat} {x2 : Int32} {x3 : Int32} {x4 : Int32} {σ : Sg} {z : Nat × Int32 × Sg} (C : Cx p s m args meth c cX2_step 6 (some .int) RX2 g A X) (hf : s_X2_step_55_50_h8 N x2 x3 x4 σ = some z) (k0 : z.1 = 0 → Bk cw p l e rm_X2_step_55_50 s m args below meth c 6 g A Q 0 0 8 [(0, .ref (g.2.2 55)), (1, .ref (g.2.2 50)), (2, .int x2), (3, .int x3), (4, .int z.2.1)] [] z.2.2) (k : ¬ z.1 = 0 → Bk cw p l e rm_X2_step_55_50 s m args below meth c 6 g A Q 0 0 88 [(0, .ref (g.2.2 55)), (3, .int x3)] [] z.2.2) : Bk cw p l e rm_X2_step_55_50 s m args below meth c 6 g A Q 0 0 8 [(0, .ref (g.2.2 55)), (1, .ref (g.2.2 50)), (2, .int x2), (3, .int x3), (4, .int x4)] [] σ := by
  obtain ⟨hx, hb, hr, hml, hown, hts, hK, hlocks, hXX, hA, hXo⟩ := id C
  intro H locs ls hP hD hS hl
  unfold s_X2_step_55_50_h8 at hf
  refine lv_iload hx hb dX2_step_8 (lv_at hl 4 rfl) ?_
  refine lv_aload_n hx hb dX2_step_10 rfl (lv_at hl 0 rfl) ?_
  refine bk_get (wf := cw) (q0 := 55) (ci := 2) (k := 3) (v := .ref (g.2.2 12)) C hP wl_X2 rfl rfl (by decide) wa_148 rfl rfl dX2_step_11 ?_
  refine bk_get (wf := cw) (q0 := 12) (ci := 8) (k := 0) (v := .int (σ 12 0)) C hP wl_X9 rfl rfl (by decide) wa_840 rfl rfl dX2_step_14 ?_
  refine lv_icmp_ge (tgt := 88) hx hb dX2_step_17 (by decide) (fun t17 => ?_) (fun t17 => ?_)
  · have hf := (if_pos t17).symm.trans hf
    cases hf
    exact (k (show ¬ (1 : Nat) = 0 by decide)) H locs ls hP hD hS (lv_sub hl [0, 3] rfl)
  · have hf := (if_neg t17).symm.trans hf
    refine lv_iload_n hx hb dX2_step_20 rfl (lv_at hl 3 rfl) ?_
    refine lv_if_eq (tgt := 88) hx hb dX2_step_21 (by decide) (fun t21 => ?_) (fun t21 => ?_)
    · have hf := (if_pos t21).symm.trans hf
      cases hf
      exact (k (show ¬ (1 : Nat) = 0 by decide)) H locs ls hP hD hS (lv_sub hl [0, 3] rfl)
    · have hf := (if_neg t21).symm.trans hf
      refine lv_aload_n hx hb dX2_step_24 rfl (lv_at hl 1 rfl) ?_
      refine lv_iload hx hb dX2_step_25 (lv_at hl 4 rfl) ?_
      refine lv_iload_n hx hb dX2_step_27 rfl (lv_at hl 2 rfl) ?_
      obtain ⟨q2, hq2, hf⟩ := bi_s hf
      refine bk_VI (wf := cw) (q0 := 50) (ci := 6) (rest := []) [.int x4, .int x2] C hP hD hS hl.1 (c_X6_of_50 hXo hq2) (cwA_V 2 hts wa_675 wa_851 wa_673 wa_674 wa_32 rfl rfl nd_X6_of ⟨Nat.le_of_ble_eq_true rfl, Nat.le_of_ble_eq_true rfl⟩) rfl rfl rfl rfl (Nat.le_of_ble_eq_true rfl) dX2_step_28 ⟨Nat.le_of_ble_eq_true rfl, Nat.le_of_ble_eq_true rfl⟩ (fun H locs hP hD hS => ?_)
      refine lv_iload_n hx hb dX2_step_31 rfl (lv_at hl 3 rfl) ?_
      refine lv_iand hx hb dX2_step_32 ?_
      obtain ⟨v3, ev3, hf⟩ := bd_s hf
      rw [← ev3]
      refine lv_istore (lv' := [(5, .int v3), (0, .ref (g.2.2 55)), (1, .ref (g.2.2 50)), (2, .int x2), (3, .int x3), (4, .int x4)]) hx hb dX2_step_33 hl (by decide) rfl (fun ls hl => ?_)
      refine lv_iload hx hb dX2_step_35 (lv_at hl 0 rfl) ?_
      refine lv_if_eq (tgt := 82) hx hb dX2_step_37 (by decide) (fun t37 => ?_) (fun t37 => ?_)
      · have hf := (if_pos t37).symm.trans hf
        exact b_X2_step_55_50_b82 C hf k0 k H locs ls hP hD hS (lv_sub hl [1, 2, 3, 4, 5] rfl)
      · have hf := (if_neg t37).symm.trans hf
        refine lv_aload_n hx hb dX2_step_40 rfl (lv_at hl 1 rfl) ?_
        refine lv_iload hx hb dX2_step_41 (lv_at hl 5 rfl) ?_
        refine lv_iload_n hx hb dX2_step_43 rfl (lv_at hl 4 rfl) ?_
        obtain ⟨q4, hq4, hf⟩ := bi_s hf
        refine bk_VI (wf := cw) (q0 := 55) (ci := 2) (rest := []) [.int x4, .int x3] C hP hD hS hl.1 (c_X2_isFree_55 hXo hq4) (cwA_V 2 hts wa_855 wa_852 wa_853 wa_854 wa_41 rfl rfl nd_X2_isFree ⟨Nat.le_of_ble_eq_true rfl, Nat.le_of_ble_eq_true rfl⟩) rfl rfl rfl rfl (Nat.le_of_ble_eq_true rfl) dX2_step_44 ⟨Nat.le_of_ble_eq_true rfl, Nat.le_of_ble_eq_true rfl⟩ (fun H locs hP hD hS => ?_)
        refine lv_if_eq (tgt := 82) hx hb dX2_step_47 (by decide) (fun t47 => ?_) (fun t47 => ?_)
        · have hf := (if_pos t47).symm.trans hf
          exact b_X2_step_55_50_b82 C hf k0 k H locs ls hP hD hS (lv_sub hl [1, 2, 3, 4, 5] rfl)
        · have hf := (if_neg t47).symm.trans hf
          refine lv_aload_n hx hb dX2_step_50 rfl (lv_at hl 1 rfl) ?_
          refine lv_iload hx hb dX2_step_51 (lv_at hl 5 rfl) ?_
          refine lv_iload hx hb dX2_step_53 (lv_at hl 0 rfl) ?_
          refine lv_iload_n hx hb dX2_step_55 rfl (lv_at hl 3 rfl) ?_
          obtain ⟨q5, hq5, hf⟩ := bi_s hf
          refine bk_VI (wf := cw) (q0 := 55) (ci := 2) (rest := []) [.int x4, .int v3, .int x2] C hP hD hS hl.1 (c_X2_minds_55 hXo hq5) (cwA_V 3 hts wa_860 wa_857 wa_858 wa_859 wa_41 rfl rfl nd_X2_minds ⟨Nat.le_of_ble_eq_true rfl, Nat.le_of_ble_eq_true rfl⟩) rfl rfl rfl rfl (Nat.le_of_ble_eq_true rfl) dX2_step_56 ⟨Nat.le_of_ble_eq_true rfl, Nat.le_of_ble_eq_true rfl⟩ (fun H locs hP hD hS => ?_)
          refine lv_if_eq (tgt := 82) hx hb dX2_step_59 (by decide) (fun t59 => ?_) (fun t59 => ?_)
          · have hf := (if_pos t59).symm.trans hf
            exact b_X2_step_55_50_b82 C hf k0 k H locs ls hP hD hS (lv_sub hl [1, 2, 3, 4, 5] rfl)
          · have hf := (if_neg t59).symm.trans hf
            refine lv_aload_n hx hb dX2_step_62 rfl (lv_at hl 1 rfl) ?_
            refine bk_get (wf := cw) (q0 := 55) (ci := 2) (k := 0) (v := .ref (g.2.2 56)) C hP wl_X2 rfl rfl (by decide) wa_144 rfl rfl dX2_step_63 ?_
            refine bk_get (wf := cw) (q0 := 56) (ci := 7) (k := 2) (v := .ref (g.2.2 57)) C hP wl_X7 rfl rfl (by decide) wa_841 rfl rfl dX2_step_66 ?_
            refine lv_iload hx hb dX2_step_69 (lv_at hl 5 rfl) ?_
            refine lv_aload_n hx hb dX2_step_71 rfl (lv_at hl 1 rfl) ?_
            refine bk_get (wf := cw) (q0 := 55) (ci := 2) (k := 3) (v := .ref (g.2.2 12)) C hP wl_X2 rfl rfl (by decide) wa_148 rfl rfl dX2_step_72 ?_
            refine bk_get (wf := cw) (q0 := 12) (ci := 8) (k := 4) (v := .ref (g.2.2 16)) C hP wl_X9 rfl rfl (by decide) wa_842 rfl rfl dX2_step_75 ?_
            refine lv_iload hx hb dX2_step_78 (lv_at hl 5 rfl) ?_
            obtain ⟨g6, hf⟩ := gd_s hf
            refine bk_iald (wf := cw) (q0 := 16) (n := 9) (j := x4.toNatClampNeg) C hP rfl g6 rfl dX2_step_80 ?_
            obtain ⟨g7, hf⟩ := gd_s hf
            obtain ⟨σ8, eσ8, hf⟩ := bd_s hf
            refine bk_iast (wf := cw) (σ1 := σ8) (q0 := 57) (n := 9) (j := x4.toNatClampNeg) C hP hD hS rfl g7 rfl (by rw [eσ8]; exact cw_a57 g _ _ _) dX2_step_81 (fun H locs hP hD hS => ?_)
            exact b_X2_step_55_50_b82 C hf k0 k H locs ls hP hD hS (lv_sub hl [1, 2, 3, 4, 5] rfl)
theorem lp_X2_step_55_50_h8 {N : Nat} {n : Nat} {x2 : Int32} {x3 : Int32} {x4 : Int32} {σ : Sg} {z : Nat × Int32 × Sg} (C : Cx p s m args meth c cX2_step 6 (some .int) RX2 g A X) (hz : it (fun q => s_X2_step_55_50_h8 N x2 x3 q.1 q.2) n (x4, σ) = some z) (k : Bk cw p l e rm_X2_step_55_50 s m args below meth c 6 g A Q 0 0 88 [(0, .ref (g.2.2 55)), (3, .int x3)] [] z.2.2) : Bk cw p l e rm_X2_step_55_50 s m args below meth c 6 g A Q 0 0 8 [(0, .ref (g.2.2 55)), (1, .ref (g.2.2 50)), (2, .int x2), (3, .int x3), (4, .int x4)] [] σ :=
  it_W (S := Int32 × Sg) (fun q => Bk cw p l e rm_X2_step_55_50 s m args below meth c 6 g A Q 0 0 8 [(0, .ref (g.2.2 55)), (1, .ref (g.2.2 50)), (2, .int x2), (3, .int x3), (4, .int q.1)] [] q.2) (fun z => Bk cw p l e rm_X2_step_55_50 s m args below meth c 6 g A Q 0 0 88 [(0, .ref (g.2.2 55)), (3, .int x3)] [] z.2.2) (fun q z hq k0 k => e_X2_step_55_50_h8 C hq k0 k) n (x4, σ) z hz k
def f_X2_step_55_50 (N : Nat) (x2 : Int32) (σ : Sg) : Option (Int32 × Sg) :=
(f_X2_nodAll_55 N σ).bind fun q9 =>
bd q9.1 fun v10 =>
(it (fun q => s_X2_step_55_50_h8 N x2 v10 q.1 q.2) N ((0 : Int32), (q9.2))).bind fun z11 =>
bd (wr (z11.2.2) 56 0 (((z11.2.2) 56 0) + (1 : Int32))) fun σ12 =>
some (v10, σ12)
set_option maxHeartbeats 4000000 in
set_option maxRecDepth 100000 in
theorem b_X2_step_55_50 {N : Nat} {x2 : Int32} {σ : Sg} {z : Int32 × Sg} (C : Cx p s m args meth c cX2_step 6 (some .int) RX2 g A X) (hf : f_X2_step_55_50 N x2 σ = some z) : Bk cw p l e rm_X2_step_55_50 s m args below meth c 6 g A (MQ below (qI cw g A z.1 z.2) args s 0 0 A) 0 0 0 [(0, .ref (g.2.2 55)), (1, .ref (g.2.2 50)), (2, .int x2)] [] σ := by
  obtain ⟨hx, hb, hr, hml, hown, hts, hK, hlocks, hXX, hA, hXo⟩ := id C
  intro H locs ls hP hD hS hl
  unfold f_X2_step_55_50 at hf
  refine lv_aload_n hx hb dX2_step_0 rfl (lv_at hl 0 rfl) ?_
  obtain ⟨q9, hq9, hf⟩ := bi_s hf
  refine bk_VI (wf := cw) (q0 := 55) (ci := 2) (rest := []) [] C hP hD hS hl.1 (c_X2_nodAll_55 hXo hq9) (cwA_V 0 hts wa_846 wa_843 wa_844 wa_845 wa_41 rfl rfl nd_X2_nodAll ⟨Nat.le_of_ble_eq_true rfl, Nat.le_of_ble_eq_true rfl⟩) rfl rfl rfl rfl (Nat.le_of_ble_eq_true rfl) dX2_step_1 ⟨Nat.le_of_ble_eq_true rfl, Nat.le_of_ble_eq_true rfl⟩ (fun H locs hP hD hS => ?_)
  obtain ⟨v10, ev10, hf⟩ := bd_s hf
  rw [← ev10]
  refine lv_istore_n (lv' := [(3, .int v10), (0, .ref (g.2.2 55)), (1, .ref (g.2.2 50)), (2, .int x2)]) hx hb dX2_step_4 rfl hl (by decide) rfl (fun ls hl => ?_)
  refine lv_iconst (v := (0 : Int32)) hx hb dX2_step_5 (by decide) ?_
  refine lv_istore (lv' := [(4, .int (0 : Int32)), (3, .int v10), (0, .ref (g.2.2 55)), (1, .ref (g.2.2 50)), (2, .int x2)]) hx hb dX2_step_6 hl (by decide) rfl (fun ls hl => ?_)
  obtain ⟨z11, hz11, hf⟩ := bi_s hf
  refine lp_X2_step_55_50_h8 C hz11 ?_ H locs ls hP hD hS (lv_sub hl [2, 3, 4, 1, 0] rfl)
  intro H locs ls hP hD hS hl
  refine lv_aload_n hx hb dX2_step_88 rfl (lv_at hl 0 rfl) ?_
  refine bk_get (wf := cw) (q0 := 55) (ci := 2) (k := 0) (v := .ref (g.2.2 56)) C hP wl_X2 rfl rfl (by decide) wa_144 rfl rfl dX2_step_89 ?_
  refine lv_dup hx hb dX2_step_92 rfl ?_
  refine bk_get (wf := cw) (q0 := 56) (ci := 7) (k := 0) (v := .int ((z11.2.2) 56 0)) C hP wl_X7 rfl rfl (by decide) wa_834 rfl rfl dX2_step_93 ?_
  refine lv_iconst (v := (1 : Int32)) hx hb dX2_step_96 (by decide) ?_
  refine lv_iadd hx hb dX2_step_97 ?_
  obtain ⟨σ12, eσ12, hf⟩ := bd_s hf
  refine bk_put (wf := cw) (σ1 := σ12) (q0 := 56) (ci := 7) (k := 0) (v := .int (((z11.2.2) 56 0) + (1 : Int32))) C hP hD hS wl_X7 tyX7_ok nmX7 rfl rfl (by decide) wa_834 rfl rfl rfl rfl rfl (Nat.le_of_ble_eq_true rfl) (by rw [eσ12]; exact cw_p56_0 g _ _) dX2_step_98 (fun H locs hP hD hS => ?_)
  refine lv_iload_n hx hb dX2_step_101 rfl (lv_at hl 1 rfl) ?_
  cases hf
  exact bk_iret C hP hD hS rfl dX2_step_102
theorem c_X2_step_55_50 {N : Nat} {x2 : Int32} {σ : Sg} {z : Int32 × Sg} (hX : xOK g X) (hf : f_X2_step_55_50 N x2 σ = some z) : MetI l yX2_step (Cond.code yX2_step cX2_step 6 (some .int) :: wsA) rm_X2_step_55_50 cw g X [.ref (g.2.2 55), .ref (g.2.2 50), .int x2] σ z.1 z.2 :=
  MetI_of hX (by decide) (Nat.le_of_ble_eq_true rfl) (fun p e s m args below meth c A C => b_X2_step_55_50 C hf)
-- X6_build_50_26: build([I)V
abbrev rm_X6_build_50_26 : Room := { frames := 4, cells := 0, slots := 0, locals := 92 }
def f_X6_build_50_26_b64 (N : Nat) (x2 : Int32) (x3 : Int32) (σ : Sg) : Option (Nat × Int32 × Sg) :=
bd (x3 + (1 : Int32)) fun v1 =>
some (0, v1, σ)
set_option maxHeartbeats 4000000 in
set_option maxRecDepth 100000 in
theorem b_X6_build_50_26_b64 {N : Nat} {x2 : Int32} {x3 : Int32} {σ : Sg} {z : Nat × Int32 × Sg} (C : Cx p s m args meth c cX6_build 4 none RX6 g A X) (hf : f_X6_build_50_26_b64 N x2 x3 σ = some z) (k0 : z.1 = 0 → Bk cw p l e rm_X6_build_50_26 s m args below meth c 4 g A Q 0 0 44 [(0, .ref (g.2.2 50)), (2, .int x2), (3, .int z.2.1)] [] z.2.2) (k : ¬ z.1 = 0 → Bk cw p l e rm_X6_build_50_26 s m args below meth c 4 g A Q 0 0 70 [(0, .ref (g.2.2 50)), (2, .int x2)] [] z.2.2) : Bk cw p l e rm_X6_build_50_26 s m args below meth c 4 g A Q 0 0 64 [(0, .ref (g.2.2 50)), (2, .int x2), (3, .int x3)] [] σ := by
  obtain ⟨hx, hb, hr, hml, hown, hts, hK, hlocks, hXX, hA, hXo⟩ := id C
  intro H locs ls hP hD hS hl
  unfold f_X6_build_50_26_b64 at hf
  obtain ⟨v1, ev1, hf⟩ := bd_s hf
  refine lv_iinc (v := v1) (lv' := [(3, .int v1), (0, .ref (g.2.2 50)), (2, .int x2)]) hx hb dX6_build_64 hl (k := 2) rfl (by rw [ev1]; rfl) (by decide) rfl (fun ls hl => ?_)
  refine lv_goto (tgt := 44) hx hb dX6_build_67 (by decide) ?_
  cases hf
  exact k0 rfl H locs ls hP hD hS (lv_sub hl [1, 2, 0] rfl)
def s_X6_build_50_26_h44 (N : Nat) (x2 : Int32) (x3 : Int32) (σ : Sg) : Option (Nat × Int32 × Sg) :=
if x2 ≤ x3 then (some (1, 0, σ))
else ((f_X6_inTheWay_50 N x2 x3 σ).bind fun q2 =>
if q2.1 = 0 then ((f_X6_mark_50 N x2 x3 (q2.2)).bind fun q3 =>
f_X6_build_50_26_b64 N x2 x3 q3)
else (f_X6_build_50_26_b64 N x2 x3 (q2.2)))
set_option maxHeartbeats 4000000 in
set_option maxRecDepth 100000 in
theorem e_X6_build_50_26_h44 {N : Nat} {x2 : Int32} {x3 : Int32} {σ : Sg} {z : Nat × Int32 × Sg} (C : Cx p s m args meth c cX6_build 4 none RX6 g A X) (hf : s_X6_build_50_26_h44 N x2 x3 σ = some z) (k0 : z.1 = 0 → Bk cw p l e rm_X6_build_50_26 s m args below meth c 4 g A Q 0 0 44 [(0, .ref (g.2.2 50)), (2, .int x2), (3, .int z.2.1)] [] z.2.2) (k : ¬ z.1 = 0 → Bk cw p l e rm_X6_build_50_26 s m args below meth c 4 g A Q 0 0 70 [(0, .ref (g.2.2 50)), (2, .int x2)] [] z.2.2) : Bk cw p l e rm_X6_build_50_26 s m args below meth c 4 g A Q 0 0 44 [(0, .ref (g.2.2 50)), (2, .int x2), (3, .int x3)] [] σ := by
  obtain ⟨hx, hb, hr, hml, hown, hts, hK, hlocks, hXX, hA, hXo⟩ := id C
  intro H locs ls hP hD hS hl
  unfold s_X6_build_50_26_h44 at hf
  refine lv_iload_n hx hb dX6_build_44 rfl (lv_at hl 2 rfl) ?_
  refine lv_iload_n hx hb dX6_build_45 rfl (lv_at hl 1 rfl) ?_
  refine lv_icmp_ge (tgt := 70) hx hb dX6_build_46 (by decide) (fun t46 => ?_) (fun t46 => ?_)
  · have hf := (if_pos t46).symm.trans hf
    cases hf
    exact (k (show ¬ (1 : Nat) = 0 by decide)) H locs ls hP hD hS (lv_sub hl [0, 1] rfl)
  · have hf := (if_neg t46).symm.trans hf
    refine lv_aload_n hx hb dX6_build_49 rfl (lv_at hl 0 rfl) ?_
    refine lv_iload_n hx hb dX6_build_50 rfl (lv_at hl 1 rfl) ?_
    refine lv_iload_n hx hb dX6_build_51 rfl (lv_at hl 2 rfl) ?_
    obtain ⟨q2, hq2, hf⟩ := bi_s hf
    refine bk_VI (wf := cw) (q0 := 50) (ci := 6) (rest := []) [.int x2, .int x3] C hP hD hS hl.1 (c_X6_inTheWay_50 hXo hq2) (cwA_V 2 hts wa_482 wa_479 wa_480 wa_481 wa_32 rfl rfl nd_X6_inTheWay ⟨Nat.le_of_ble_eq_true rfl, Nat.le_of_ble_eq_true rfl⟩) rfl rfl rfl rfl (Nat.le_of_ble_eq_true rfl) dX6_build_52 ⟨Nat.le_of_ble_eq_true rfl, Nat.le_of_ble_eq_true rfl⟩ (fun H locs hP hD hS => ?_)
    refine lv_if_ne (tgt := 64) hx hb dX6_build_55 (by decide) (fun t55 => ?_) (fun t55 => ?_)
    · have hf := (if_neg t55).symm.trans hf
      exact b_X6_build_50_26_b64 C hf k0 k H locs ls hP hD hS (lv_sub hl [0, 1, 2] rfl)
    · have hf := (if_pos t55).symm.trans hf
      refine lv_aload_n hx hb dX6_build_58 rfl (lv_at hl 0 rfl) ?_
      refine lv_iload_n hx hb dX6_build_59 rfl (lv_at hl 1 rfl) ?_
      refine lv_iload_n hx hb dX6_build_60 rfl (lv_at hl 2 rfl) ?_
      obtain ⟨q3, hq3, hf⟩ := bi_s hf
      refine bk_VV (wf := cw) (q0 := 50) (ci := 6) (rest := []) [.int x2, .int x3] C hP hD hS hl.1 (c_X6_mark_50 hXo hq3) (cwA_V 2 hts wa_487 wa_484 wa_485 wa_486 wa_32 rfl rfl nd_X6_mark ⟨Nat.le_of_ble_eq_true rfl, Nat.le_of_ble_eq_true rfl⟩) rfl rfl rfl rfl (Nat.le_of_ble_eq_true rfl) dX6_build_61 ⟨Nat.le_of_ble_eq_true rfl, Nat.le_of_ble_eq_true rfl⟩ (fun H locs hP hD hS => ?_)
      exact b_X6_build_50_26_b64 C hf k0 k H locs ls hP hD hS (lv_sub hl [0, 1, 2] rfl)
theorem lp_X6_build_50_26_h44 {N : Nat} {n : Nat} {x2 : Int32} {x3 : Int32} {σ : Sg} {z : Nat × Int32 × Sg} (C : Cx p s m args meth c cX6_build 4 none RX6 g A X) (hz : it (fun q => s_X6_build_50_26_h44 N x2 q.1 q.2) n (x3, σ) = some z) (k : Bk cw p l e rm_X6_build_50_26 s m args below meth c 4 g A Q 0 0 70 [(0, .ref (g.2.2 50)), (2, .int x2)] [] z.2.2) : Bk cw p l e rm_X6_build_50_26 s m args below meth c 4 g A Q 0 0 44 [(0, .ref (g.2.2 50)), (2, .int x2), (3, .int x3)] [] σ :=
  it_W (S := Int32 × Sg) (fun q => Bk cw p l e rm_X6_build_50_26 s m args below meth c 4 g A Q 0 0 44 [(0, .ref (g.2.2 50)), (2, .int x2), (3, .int q.1)] [] q.2) (fun z => Bk cw p l e rm_X6_build_50_26 s m args below meth c 4 g A Q 0 0 70 [(0, .ref (g.2.2 50)), (2, .int x2)] [] z.2.2) (fun q z hq k0 k => e_X6_build_50_26_h44 C hq k0 k) n (x3, σ) z hz k
def s_X6_build_50_26_h31 (N : Nat) (x2 : Int32) (σ : Sg) : Option (Nat × Int32 × Sg) :=
if (σ 12 0) ≤ x2 then (some (1, 0, σ))
else ((it (fun q => s_X6_build_50_26_h44 N x2 q.1 q.2) N ((0 : Int32), σ)).bind fun z4 =>
bd (x2 + (1 : Int32)) fun v5 =>
some (0, v5, (z4.2.2)))
set_option maxHeartbeats 4000000 in
set_option maxRecDepth 100000 in
theorem e_X6_build_50_26_h31 {N : Nat} {x2 : Int32} {σ : Sg} {z : Nat × Int32 × Sg} (C : Cx p s m args meth c cX6_build 4 none RX6 g A X) (hf : s_X6_build_50_26_h31 N x2 σ = some z) (k0 : z.1 = 0 → Bk cw p l e rm_X6_build_50_26 s m args below meth c 4 g A Q 0 0 31 [(0, .ref (g.2.2 50)), (2, .int z.2.1)] [] z.2.2) (k : ¬ z.1 = 0 → Bk cw p l e rm_X6_build_50_26 s m args below meth c 4 g A Q 0 0 76 [] [] z.2.2) : Bk cw p l e rm_X6_build_50_26 s m args below meth c 4 g A Q 0 0 31 [(0, .ref (g.2.2 50)), (2, .int x2)] [] σ := by
  obtain ⟨hx, hb, hr, hml, hown, hts, hK, hlocks, hXX, hA, hXo⟩ := id C
  intro H locs ls hP hD hS hl
  unfold s_X6_build_50_26_h31 at hf
  refine lv_iload_n hx hb dX6_build_31 rfl (lv_at hl 1 rfl) ?_
  refine lv_aload_n hx hb dX6_build_32 rfl (lv_at hl 0 rfl) ?_
  refine bk_get (wf := cw) (q0 := 50) (ci := 6) (k := 1) (v := .ref (g.2.2 12)) C hP wl_X6 rfl rfl (by decide) wa_132 rfl rfl dX6_build_33 ?_
  refine bk_get (wf := cw) (q0 := 12) (ci := 8) (k := 0) (v := .int (σ 12 0)) C hP wl_X9 rfl rfl (by decide) wa_473 rfl rfl dX6_build_36 ?_
  refine lv_icmp_ge (tgt := 76) hx hb dX6_build_39 (by decide) (fun t39 => ?_) (fun t39 => ?_)
  · have hf := (if_pos t39).symm.trans hf
    cases hf
    exact (k (show ¬ (1 : Nat) = 0 by decide)) H locs ls hP hD hS (lv_sub hl [] rfl)
  · have hf := (if_neg t39).symm.trans hf
    refine lv_iconst (v := (0 : Int32)) hx hb dX6_build_42 (by decide) ?_
    refine lv_istore_n (lv' := [(3, .int (0 : Int32)), (0, .ref (g.2.2 50)), (2, .int x2)]) hx hb dX6_build_43 rfl hl (by decide) rfl (fun ls hl => ?_)
    obtain ⟨z4, hz4, hf⟩ := bi_s hf
    refine lp_X6_build_50_26_h44 C hz4 ?_ H locs ls hP hD hS (lv_sub hl [1, 2, 0] rfl)
    intro H locs ls hP hD hS hl
    obtain ⟨v5, ev5, hf⟩ := bd_s hf
    refine lv_iinc (v := v5) (lv' := [(2, .int v5), (0, .ref (g.2.2 50))]) hx hb dX6_build_70 hl (k := 1) rfl (by rw [ev5]; rfl) (by decide) rfl (fun ls hl => ?_)
    refine lv_goto (tgt := 31) hx hb dX6_build_73 (by decide) ?_
    cases hf
    exact k0 rfl H locs ls hP hD hS (lv_sub hl [1, 0] rfl)
theorem lp_X6_build_50_26_h31 {N : Nat} {n : Nat} {x2 : Int32} {σ : Sg} {z : Nat × Int32 × Sg} (C : Cx p s m args meth c cX6_build 4 none RX6 g A X) (hz : it (fun q => s_X6_build_50_26_h31 N q.1 q.2) n (x2, σ) = some z) (k : Bk cw p l e rm_X6_build_50_26 s m args below meth c 4 g A Q 0 0 76 [] [] z.2.2) : Bk cw p l e rm_X6_build_50_26 s m args below meth c 4 g A Q 0 0 31 [(0, .ref (g.2.2 50)), (2, .int x2)] [] σ :=
  it_W (S := Int32 × Sg) (fun q => Bk cw p l e rm_X6_build_50_26 s m args below meth c 4 g A Q 0 0 31 [(0, .ref (g.2.2 50)), (2, .int q.1)] [] q.2) (fun z => Bk cw p l e rm_X6_build_50_26 s m args below meth c 4 g A Q 0 0 76 [] [] z.2.2) (fun q z hq k0 k => e_X6_build_50_26_h31 C hq k0 k) n (x2, σ) z hz k
def s_X6_build_50_26_h7 (N : Nat) (x2 : Int32) (σ : Sg) : Option (Nat × Int32 × Sg) :=
if (90 : Int32) ≤ x2 then (some (1, 0, σ))
else (if (x2 < 0 ∨ 90 ≤ x2.toNatClampNeg) then none else
bd (wr σ 52 (x2.toNatClampNeg) (0 : Int32)) fun σ7 =>
bd (x2 + (1 : Int32)) fun v8 =>
some (0, v8, σ7))
set_option maxHeartbeats 4000000 in
set_option maxRecDepth 100000 in
theorem e_X6_build_50_26_h7 {N : Nat} {x2 : Int32} {σ : Sg} {z : Nat × Int32 × Sg} (C : Cx p s m args meth c cX6_build 4 none RX6 g A X) (hf : s_X6_build_50_26_h7 N x2 σ = some z) (k0 : z.1 = 0 → Bk cw p l e rm_X6_build_50_26 s m args below meth c 4 g A Q 0 0 7 [(0, .ref (g.2.2 50)), (2, .int z.2.1)] [] z.2.2) (k : ¬ z.1 = 0 → Bk cw p l e rm_X6_build_50_26 s m args below meth c 4 g A Q 0 0 29 [(0, .ref (g.2.2 50))] [] z.2.2) : Bk cw p l e rm_X6_build_50_26 s m args below meth c 4 g A Q 0 0 7 [(0, .ref (g.2.2 50)), (2, .int x2)] [] σ := by
  obtain ⟨hx, hb, hr, hml, hown, hts, hK, hlocks, hXX, hA, hXo⟩ := id C
  intro H locs ls hP hD hS hl
  unfold s_X6_build_50_26_h7 at hf
  refine lv_iload_n hx hb dX6_build_7 rfl (lv_at hl 1 rfl) ?_
  refine lv_aload_n hx hb dX6_build_8 rfl (lv_at hl 0 rfl) ?_
  refine bk_get (wf := cw) (q0 := 50) (ci := 6) (k := 2) (v := .ref (g.2.2 52)) C hP wl_X6 rfl rfl (by decide) wa_131 rfl rfl dX6_build_9 ?_
  refine bk_alen (wf := cw) (q0 := 52) (t0 := 0) (v := (90 : Int32)) C hP rfl rfl (show Int32.ofNat 90 = (90 : Int32) by decide) dX6_build_12 ?_
  refine lv_icmp_ge (tgt := 29) hx hb dX6_build_13 (by decide) (fun t13 => ?_) (fun t13 => ?_)
  · have hf := (if_pos t13).symm.trans hf
    cases hf
    exact (k (show ¬ (1 : Nat) = 0 by decide)) H locs ls hP hD hS (lv_sub hl [0] rfl)
  · have hf := (if_neg t13).symm.trans hf
    refine lv_aload_n hx hb dX6_build_16 rfl (lv_at hl 0 rfl) ?_
    refine bk_get (wf := cw) (q0 := 50) (ci := 6) (k := 2) (v := .ref (g.2.2 52)) C hP wl_X6 rfl rfl (by decide) wa_131 rfl rfl dX6_build_17 ?_
    refine lv_iload_n hx hb dX6_build_20 rfl (lv_at hl 1 rfl) ?_
    refine lv_iconst (v := (0 : Int32)) hx hb dX6_build_21 (by decide) ?_
    obtain ⟨g6, hf⟩ := gd_s hf
    obtain ⟨σ7, eσ7, hf⟩ := bd_s hf
    refine bk_iast (wf := cw) (σ1 := σ7) (q0 := 52) (n := 90) (j := x2.toNatClampNeg) C hP hD hS rfl g6 rfl (by rw [eσ7]; exact cw_a52 g _ _ _) dX6_build_22 (fun H locs hP hD hS => ?_)
    obtain ⟨v8, ev8, hf⟩ := bd_s hf
    refine lv_iinc (v := v8) (lv' := [(2, .int v8), (0, .ref (g.2.2 50))]) hx hb dX6_build_23 hl (k := 1) rfl (by rw [ev8]; rfl) (by decide) rfl (fun ls hl => ?_)
    refine lv_goto (tgt := 7) hx hb dX6_build_26 (by decide) ?_
    cases hf
    exact k0 rfl H locs ls hP hD hS (lv_sub hl [1, 0] rfl)
theorem lp_X6_build_50_26_h7 {N : Nat} {n : Nat} {x2 : Int32} {σ : Sg} {z : Nat × Int32 × Sg} (C : Cx p s m args meth c cX6_build 4 none RX6 g A X) (hz : it (fun q => s_X6_build_50_26_h7 N q.1 q.2) n (x2, σ) = some z) (k : Bk cw p l e rm_X6_build_50_26 s m args below meth c 4 g A Q 0 0 29 [(0, .ref (g.2.2 50))] [] z.2.2) : Bk cw p l e rm_X6_build_50_26 s m args below meth c 4 g A Q 0 0 7 [(0, .ref (g.2.2 50)), (2, .int x2)] [] σ :=
  it_W (S := Int32 × Sg) (fun q => Bk cw p l e rm_X6_build_50_26 s m args below meth c 4 g A Q 0 0 7 [(0, .ref (g.2.2 50)), (2, .int q.1)] [] q.2) (fun z => Bk cw p l e rm_X6_build_50_26 s m args below meth c 4 g A Q 0 0 29 [(0, .ref (g.2.2 50))] [] z.2.2) (fun q z hq k0 k => e_X6_build_50_26_h7 C hq k0 k) n (x2, σ) z hz k
def f_X6_build_50_26 (N : Nat) (σ : Sg) : Option (Sg) :=
(f_X6_takeTops_50_26 N σ).bind fun q9 =>
(it (fun q => s_X6_build_50_26_h7 N q.1 q.2) N ((0 : Int32), q9)).bind fun z10 =>
(it (fun q => s_X6_build_50_26_h31 N q.1 q.2) N ((0 : Int32), (z10.2.2))).bind fun z11 =>
some (z11.2.2)
set_option maxHeartbeats 4000000 in
set_option maxRecDepth 100000 in
theorem b_X6_build_50_26 {N : Nat} {σ : Sg} {z : Sg} (C : Cx p s m args meth c cX6_build 4 none RX6 g A X) (hf : f_X6_build_50_26 N σ = some z) : Bk cw p l e rm_X6_build_50_26 s m args below meth c 4 g A (MQ below (qV cw g A z) args s 0 0 A) 0 0 0 [(0, .ref (g.2.2 50)), (1, .ref (g.2.2 26))] [] σ := by
  obtain ⟨hx, hb, hr, hml, hown, hts, hK, hlocks, hXX, hA, hXo⟩ := id C
  intro H locs ls hP hD hS hl
  unfold f_X6_build_50_26 at hf
  refine lv_aload_n hx hb dX6_build_0 rfl (lv_at hl 0 rfl) ?_
  refine lv_aload_n hx hb dX6_build_1 rfl (lv_at hl 1 rfl) ?_
  obtain ⟨q9, hq9, hf⟩ := bi_s hf
  refine bk_VV (wf := cw) (q0 := 50) (ci := 6) (rest := []) [.ref (g.2.2 26)] C hP hD hS hl.1 (c_X6_takeTops_50_26 hXo hq9) (cwA_V 1 hts wa_477 wa_474 wa_475 wa_476 wa_32 rfl rfl nd_X6_takeTops ⟨Nat.le_of_ble_eq_true rfl, Nat.le_of_ble_eq_true rfl⟩) rfl rfl rfl rfl (Nat.le_of_ble_eq_true rfl) dX6_build_2 ⟨Nat.le_of_ble_eq_true rfl, Nat.le_of_ble_eq_true rfl⟩ (fun H locs hP hD hS => ?_)
  refine lv_iconst (v := (0 : Int32)) hx hb dX6_build_5 (by decide) ?_
  refine lv_istore_n (lv' := [(2, .int (0 : Int32)), (0, .ref (g.2.2 50)), (1, .ref (g.2.2 26))]) hx hb dX6_build_6 rfl hl (by decide) rfl (fun ls hl => ?_)
  obtain ⟨z10, hz10, hf⟩ := bi_s hf
  refine lp_X6_build_50_26_h7 C hz10 ?_ H locs ls hP hD hS (lv_sub hl [1, 0] rfl)
  intro H locs ls hP hD hS hl
  refine lv_iconst (v := (0 : Int32)) hx hb dX6_build_29 (by decide) ?_
  refine lv_istore_n (lv' := [(2, .int (0 : Int32)), (0, .ref (g.2.2 50))]) hx hb dX6_build_30 rfl hl (by decide) rfl (fun ls hl => ?_)
  obtain ⟨z11, hz11, hf⟩ := bi_s hf
  refine lp_X6_build_50_26_h31 C hz11 ?_ H locs ls hP hD hS (lv_sub hl [1, 0] rfl)
  intro H locs ls hP hD hS hl
  cases hf
  exact bk_vret C hP hD hS rfl dX6_build_76
theorem c_X6_build_50_26 {N : Nat} {σ : Sg} {z : Sg} (hX : xOK g X) (hf : f_X6_build_50_26 N σ = some z) : MetV l yX6_build (Cond.code yX6_build cX6_build 4 none :: wsA) rm_X6_build_50_26 cw g X [.ref (g.2.2 50), .ref (g.2.2 26)] σ z :=
  MetV_of hX (by decide) (Nat.le_of_ble_eq_true rfl) (fun p e s m args below meth c A C => b_X6_build_50_26 C hf)
-- X11_years_0: years(III)I
abbrev rm_X11_years_0 : Room := { frames := 7, cells := 2, slots := 12, locals := 144 }
theorem nd_X11_years : yX11_years.cls ≠ "java/lang/invoke/MethodHandle" ∧ yX11_years.cls ≠ "java/lang/invoke/VarHandle" ∧ (parseMethodDescriptor yX11_years.desc).map (fun d => d.parameters.length) = some 3 := by decide +kernel
def s_X11_years_0_h60 (N : Nat) (x2 : Int32) (x3 : Int32) (x4 : Int32) (x5 : Int32) (x6 : Int32) (σ : Sg) : Option (Nat × Int32 × Int32 × Int32 × Sg) :=
if x2 ≤ x6 then (some (1, x4, x5, 0, σ))
else ((f_X11_happen_0 N σ).bind fun q1 =>
(f_X2_draw_55 N (10 : Int32) q1).bind fun q2 =>
(f_X2_step_55_50 N q2.1 (q2.2)).bind fun q3 =>
bd q3.1 fun v4 =>
bd (x4 ||| v4) fun v5 =>
(f_J6_bitCount_0f7a4 N v4 (q3.2)).bind fun q6 =>
bd (x5 + q6.1) fun v7 =>
bd (x6 + (1 : Int32)) fun v8 =>
some (0, v5, v7, v8, (q6.2)))
set_option maxHeartbeats 4000000 in
set_option maxRecDepth 100000 in
theorem e_X11_years_0_h60 {N : Nat} {x2 : Int32} {x3 : Int32} {x4 : Int32} {x5 : Int32} {x6 : Int32} {σ : Sg} {z : Nat × Int32 × Int32 × Int32 × Sg} (C : Cx p s m args meth c cX11_years 8 (some .int) RX11 g A X) (hex : ∀ x ∈ c.exceptionTable.toList, False) (hst : l.stackTraces = false) (hf : s_X11_years_0_h60 N x2 x3 x4 x5 x6 σ = some z) (k0 : z.1 = 0 → Bk cw p l e rm_X11_years_0 s m args below meth c 8 g A Q 2 12 60 [(0, .ref (g.2.2 0)), (2, .int x2), (3, .int x3), (4, .int z.2.1), (5, .int z.2.2.1), (6, .int z.2.2.2.1)] [] z.2.2.2.2) (k : ¬ z.1 = 0 → Bk cw p l e rm_X11_years_0 s m args below meth c 8 g A Q 2 12 115 [(0, .ref (g.2.2 0)), (3, .int x3), (4, .int z.2.1), (5, .int z.2.2.1)] [] z.2.2.2.2) : Bk cw p l e rm_X11_years_0 s m args below meth c 8 g A Q 2 12 60 [(0, .ref (g.2.2 0)), (2, .int x2), (3, .int x3), (4, .int x4), (5, .int x5), (6, .int x6)] [] σ := by
  obtain ⟨hx, hb, hr, hml, hown, hts, hK, hlocks, hXX, hA, hXo⟩ := id C
  intro H locs ls hP hD hS hl
  unfold s_X11_years_0_h60 at hf
  refine lv_iload hx hb dX11_years_60 (lv_at hl 5 rfl) ?_
  refine lv_iload_n hx hb dX11_years_62 rfl (lv_at hl 1 rfl) ?_
  refine lv_icmp_ge (tgt := 115) hx hb dX11_years_63 (by decide) (fun t63 => ?_) (fun t63 => ?_)
  · have hf := (if_pos t63).symm.trans hf
    cases hf
    exact (k (show ¬ (1 : Nat) = 0 by decide)) H locs ls hP hD hS (lv_sub hl [0, 2, 3, 4] rfl)
  · have hf := (if_neg t63).symm.trans hf
    refine lv_aload_n hx hb dX11_years_66 rfl (lv_at hl 0 rfl) ?_
    obtain ⟨q1, hq1, hf⟩ := bi_s hf
    refine bk_VV (wf := cw) (q0 := 0) (ci := 10) (rest := []) [] C hP hD hS hl.1 (c_X11_happen_0 hXo hq1) (cwA_V 0 hts wa_1398 wa_1395 wa_1396 wa_1397 wa_2 rfl rfl nd_X11_happen ⟨Nat.le_of_ble_eq_true rfl, Nat.le_of_ble_eq_true rfl⟩) rfl rfl rfl rfl (Nat.le_of_ble_eq_true rfl) dX11_years_67 ⟨Nat.le_of_ble_eq_true rfl, Nat.le_of_ble_eq_true rfl⟩ (fun H locs hP hD hS => ?_)
    refine lv_aload_n hx hb dX11_years_70 rfl (lv_at hl 0 rfl) ?_
    refine bk_get (wf := cw) (q0 := 0) (ci := 10) (k := 10) (v := .ref (g.2.2 55)) C hP wl_X11 rfl rfl (by decide) wa_42 rfl rfl dX11_years_71 ?_
    refine lv_aload_n hx hb dX11_years_74 rfl (lv_at hl 0 rfl) ?_
    refine bk_get (wf := cw) (q0 := 0) (ci := 10) (k := 8) (v := .ref (g.2.2 50)) C hP wl_X11 rfl rfl (by decide) wa_34 rfl rfl dX11_years_75 ?_
    refine lv_aload_n hx hb dX11_years_78 rfl (lv_at hl 0 rfl) ?_
    refine bk_get (wf := cw) (q0 := 0) (ci := 10) (k := 10) (v := .ref (g.2.2 55)) C hP wl_X11 rfl rfl (by decide) wa_42 rfl rfl dX11_years_79 ?_
    refine lv_bipush (v := (10 : Int32)) hx hb dX11_years_82 (by decide) ?_
    obtain ⟨q2, hq2, hf⟩ := bi_s hf
    refine bk_VI (wf := cw) (q0 := 55) (ci := 2) (rest := [.ref (g.2.2 50), .ref (g.2.2 55)]) [.int (10 : Int32)] C hP hD hS hl.1 (c_X2_draw_55 hXo hq2) (cwA_V 1 hts wa_1402 wa_1399 wa_1400 wa_1401 wa_41 rfl rfl nd_X2_draw ⟨Nat.le_of_ble_eq_true rfl, Nat.le_of_ble_eq_true rfl⟩) rfl rfl rfl rfl (Nat.le_of_ble_eq_true rfl) dX11_years_84 ⟨Nat.le_of_ble_eq_true rfl, Nat.le_of_ble_eq_true rfl⟩ (fun H locs hP hD hS => ?_)
    obtain ⟨q3, hq3, hf⟩ := bi_s hf
    refine bk_VI (wf := cw) (q0 := 55) (ci := 2) (rest := []) [.ref (g.2.2 50), .int q2.1] C hP hD hS hl.1 (c_X2_step_55_50 hXo hq3) (cwA_V 2 hts wa_839 wa_1353 wa_837 wa_838 wa_41 rfl rfl nd_X2_step ⟨Nat.le_of_ble_eq_true rfl, Nat.le_of_ble_eq_true rfl⟩) rfl rfl rfl rfl (Nat.le_of_ble_eq_true rfl) dX11_years_87 ⟨Nat.le_of_ble_eq_true rfl, Nat.le_of_ble_eq_true rfl⟩ (fun H locs hP hD hS => ?_)
    obtain ⟨v4, ev4, hf⟩ := bd_s hf
    rw [← ev4]
    refine lv_istore (lv' := [(7, .int v4), (0, .ref (g.2.2 0)), (2, .int x2), (3, .int x3), (4, .int x4), (5, .int x5), (6, .int x6)]) hx hb dX11_years_90 hl (by decide) rfl (fun ls hl => ?_)
    refine lv_iload hx hb dX11_years_92 (lv_at hl 4 rfl) ?_
    refine lv_iload hx hb dX11_years_94 (lv_at hl 0 rfl) ?_
    refine lv_ior hx hb dX11_years_96 ?_
    obtain ⟨v5, ev5, hf⟩ := bd_s hf
    rw [← ev5]
    refine lv_istore (lv' := [(4, .int v5), (7, .int v4), (0, .ref (g.2.2 0)), (2, .int x2), (3, .int x3), (5, .int x5), (6, .int x6)]) hx hb dX11_years_97 hl (by decide) rfl (fun ls hl => ?_)
    refine lv_iload hx hb dX11_years_99 (lv_at hl 5 rfl) ?_
    refine lv_iload hx hb dX11_years_101 (lv_at hl 1 rfl) ?_
    obtain ⟨q6, hq6, hf⟩ := bi_s hf
    refine bk_SI (wf := cw) (rest := [.int x5]) [.int v4] C hP hD hS hl.1 (c_J6_bitCount_0f7a4 hXo hq6) (cwA_S 1 hts wa_699 wa_1071 wa_697 wa_698 rfl rfl nd_J6_bitCount_0f7a4 ⟨Nat.le_of_ble_eq_true rfl, Nat.le_of_ble_eq_true rfl⟩) rfl rfl (Nat.le_of_ble_eq_true rfl) dX11_years_103 ⟨Nat.le_of_ble_eq_true rfl, Nat.le_of_ble_eq_true rfl⟩ (fun H locs hP hD hS => ?_)
    refine lv_iadd hx hb dX11_years_106 ?_
    obtain ⟨v7, ev7, hf⟩ := bd_s hf
    rw [← ev7]
    refine lv_istore (lv' := [(5, .int v7), (4, .int v5), (7, .int v4), (0, .ref (g.2.2 0)), (2, .int x2), (3, .int x3), (6, .int x6)]) hx hb dX11_years_107 hl (by decide) rfl (fun ls hl => ?_)
    obtain ⟨v8, ev8, hf⟩ := bd_s hf
    refine lv_iinc (v := v8) (lv' := [(6, .int v8), (5, .int v7), (4, .int v5), (7, .int v4), (0, .ref (g.2.2 0)), (2, .int x2), (3, .int x3)]) hx hb dX11_years_109 hl (k := 6) rfl (by rw [ev8]; rfl) (by decide) rfl (fun ls hl => ?_)
    refine lv_goto (tgt := 60) hx hb dX11_years_112 (by decide) ?_
    cases hf
    exact k0 rfl H locs ls hP hD hS (lv_sub hl [4, 5, 6, 2, 1, 0] rfl)
theorem lp_X11_years_0_h60 {N : Nat} {n : Nat} {x2 : Int32} {x3 : Int32} {x4 : Int32} {x5 : Int32} {x6 : Int32} {σ : Sg} {z : Nat × Int32 × Int32 × Int32 × Sg} (C : Cx p s m args meth c cX11_years 8 (some .int) RX11 g A X) (hex : ∀ x ∈ c.exceptionTable.toList, False) (hst : l.stackTraces = false) (hz : it (fun q => s_X11_years_0_h60 N x2 x3 q.1 q.2.1 q.2.2.1 q.2.2.2) n (x4, x5, x6, σ) = some z) (k : Bk cw p l e rm_X11_years_0 s m args below meth c 8 g A Q 2 12 115 [(0, .ref (g.2.2 0)), (3, .int x3), (4, .int z.2.1), (5, .int z.2.2.1)] [] z.2.2.2.2) : Bk cw p l e rm_X11_years_0 s m args below meth c 8 g A Q 2 12 60 [(0, .ref (g.2.2 0)), (2, .int x2), (3, .int x3), (4, .int x4), (5, .int x5), (6, .int x6)] [] σ :=
  it_W (S := Int32 × Int32 × Int32 × Sg) (fun q => Bk cw p l e rm_X11_years_0 s m args below meth c 8 g A Q 2 12 60 [(0, .ref (g.2.2 0)), (2, .int x2), (3, .int x3), (4, .int q.1), (5, .int q.2.1), (6, .int q.2.2.1)] [] q.2.2.2) (fun z => Bk cw p l e rm_X11_years_0 s m args below meth c 8 g A Q 2 12 115 [(0, .ref (g.2.2 0)), (3, .int x3), (4, .int z.2.1), (5, .int z.2.2.1)] [] z.2.2.2.2) (fun q z hq k0 k => e_X11_years_0_h60 C hex hst hq k0 k) n (x4, x5, x6, σ) z hz k
def f_X11_years_0 (N : Nat) (x1 : Int32) (x2 : Int32) (x3 : Int32) (σ : Sg) : Option (Zt) :=
(f_X11_needWhat N x3 (2 : Int32) σ).bind fun q9 =>
if q9.1 = 0 then ((f_X11_needWithin N x2 (0 : Int32) (60 : Int32) (q9.2.2)).bind fun q10 =>
if q10.1 = 0 then ((f_X2_start_55_22 N (q10.2.2)).bind fun q11 =>
bd (wr q11 55 2 x1) fun σ12 =>
(f_X6_build_50_26 N σ12).bind fun q13 =>
(it (fun q => s_X11_years_0_h60 N x2 x3 q.1 q.2.1 q.2.2.1 q.2.2.2) N ((0 : Int32), (0 : Int32), (0 : Int32), q13)).bind fun z14 =>
if x3 = 0 then (some (0, (z14.2.2.1), (z14.2.2.2.2)))
else (if x3 = (1 : Int32) then (some (0, ((z14.2.2.2.2) 56 1), (z14.2.2.2.2)))
else ((f_J6_bitCount_0f7a4 N (z14.2.1) (z14.2.2.2.2)).bind fun q15 =>
some (0, (((z14.2.2.2.2) 12 0) - q15.1), (q15.2)))))
else some (q10.1, 0, q10.2.2))
else some (q9.1, 0, q9.2.2)
set_option maxHeartbeats 4000000 in
set_option maxRecDepth 100000 in
theorem b_X11_years_0 {N : Nat} {x1 : Int32} {x2 : Int32} {x3 : Int32} {σ : Sg} {z : Zt} (C : Cx p s m args meth c cX11_years 8 (some .int) RX11 g A X) (hex : ∀ x ∈ c.exceptionTable.toList, False) (hst : l.stackTraces = false) (hf : f_X11_years_0 N x1 x2 x3 σ = some z) : Bk cw p l e rm_X11_years_0 s m args below meth c 8 g A (vx_MQ below (qTi cw g A z) (xT cw g A z) args s 2 12 A) 0 0 0 [(0, .ref (g.2.2 0)), (1, .int x1), (2, .int x2), (3, .int x3)] [] σ := by
  obtain ⟨hx, hb, hr, hml, hown, hts, hK, hlocks, hXX, hA, hXo⟩ := id C
  intro H locs ls hP hD hS hl
  unfold f_X11_years_0 at hf
  refine lv_iload_n hx hb dX11_years_0 rfl (lv_at hl 3 rfl) ?_
  refine lv_iconst (v := (2 : Int32)) hx hb dX11_years_1 (by decide) ?_
  obtain ⟨q9, hq9, hf⟩ := bi_s hf
  refine bk_TS (wf := cw) (rest := []) [.int x3, .int (2 : Int32)] C hex hP hD hS hl.1 (c_X11_needWhat hXo hst hq9) (cwA_S 2 hts wa_1035 wa_1033 wa_1034 wa_2 rfl rfl nd_X11_needWhat ⟨Nat.le_of_ble_eq_true rfl, Nat.le_of_ble_eq_true rfl⟩) rfl rfl (Nat.le_of_ble_eq_true rfl) dX11_years_2 ⟨Nat.le_of_ble_eq_true rfl, Nat.le_of_ble_eq_true rfl⟩ ⟨Nat.le_of_ble_eq_true rfl, Nat.le_of_ble_eq_true rfl⟩ (fun h0 => by have hf := (if_neg h0).symm.trans hf; cases hf; exact ⟨rfl, rfl⟩) (fun h0 H locs hP hD hS => ?_)
  have hf := (if_pos h0).symm.trans hf
  refine lv_iload_n hx hb dX11_years_5 rfl (lv_at hl 2 rfl) ?_
  refine lv_iconst (v := (0 : Int32)) hx hb dX11_years_6 (by decide) ?_
  refine lv_bipush (v := (60 : Int32)) hx hb dX11_years_7 (by decide) ?_
  obtain ⟨q10, hq10, hf⟩ := bi_s hf
  refine bk_TS (wf := cw) (rest := []) [.int x2, .int (0 : Int32), .int (60 : Int32)] C hex hP hD hS hl.1 (c_X11_needWithin hXo hst hq10) (cwA_S 3 hts wa_1020 wa_1018 wa_1019 wa_2 rfl rfl nd_X11_needWithin ⟨Nat.le_of_ble_eq_true rfl, Nat.le_of_ble_eq_true rfl⟩) rfl rfl (Nat.le_of_ble_eq_true rfl) dX11_years_9 ⟨Nat.le_of_ble_eq_true rfl, Nat.le_of_ble_eq_true rfl⟩ ⟨Nat.le_of_ble_eq_true rfl, Nat.le_of_ble_eq_true rfl⟩ (fun h0 => by have hf := (if_neg h0).symm.trans hf; cases hf; exact ⟨rfl, rfl⟩) (fun h0 H locs hP hD hS => ?_)
  have hf := (if_pos h0).symm.trans hf
  refine lv_aload_n hx hb dX11_years_12 rfl (lv_at hl 0 rfl) ?_
  refine bk_get (wf := cw) (q0 := 0) (ci := 10) (k := 10) (v := .ref (g.2.2 55)) C hP wl_X11 rfl rfl (by decide) wa_42 rfl rfl dX11_years_13 ?_
  refine lv_aload_n hx hb dX11_years_16 rfl (lv_at hl 0 rfl) ?_
  refine bk_get (wf := cw) (q0 := 0) (ci := 10) (k := 4) (v := .ref (g.2.2 21)) C hP wl_X11 rfl rfl (by decide) wa_27 rfl rfl dX11_years_17 ?_
  refine bk_get (wf := cw) (q0 := 21) (ci := 1) (k := 0) (v := .ref (g.2.2 22)) C hP wl_X1 rfl rfl (by decide) wa_221 rfl rfl dX11_years_20 ?_
  obtain ⟨q11, hq11, hf⟩ := bi_s hf
  refine bk_VV (wf := cw) (q0 := 55) (ci := 2) (rest := []) [.ref (g.2.2 22)] C hP hD hS hl.1 (c_X2_start_55_22 hXo hq11) (cwA_V 1 hts wa_825 wa_822 wa_823 wa_824 wa_41 rfl rfl nd_X2_start ⟨Nat.le_of_ble_eq_true rfl, Nat.le_of_ble_eq_true rfl⟩) rfl rfl rfl rfl (Nat.le_of_ble_eq_true rfl) dX11_years_23 ⟨Nat.le_of_ble_eq_true rfl, Nat.le_of_ble_eq_true rfl⟩ (fun H locs hP hD hS => ?_)
  refine lv_aload_n hx hb dX11_years_26 rfl (lv_at hl 0 rfl) ?_
  refine bk_get (wf := cw) (q0 := 0) (ci := 10) (k := 10) (v := .ref (g.2.2 55)) C hP wl_X11 rfl rfl (by decide) wa_42 rfl rfl dX11_years_27 ?_
  refine lv_iload_n hx hb dX11_years_30 rfl (lv_at hl 1 rfl) ?_
  obtain ⟨σ12, eσ12, hf⟩ := bd_s hf
  refine bk_put (wf := cw) (σ1 := σ12) (q0 := 55) (ci := 2) (k := 2) (v := .int x1) C hP hD hS wl_X2 tyX2_ok nmX2 rfl rfl (by decide) wa_1394 rfl rfl rfl rfl rfl (Nat.le_of_ble_eq_true rfl) (by rw [eσ12]; exact cw_p55_2 g _ _) dX11_years_31 (fun H locs hP hD hS => ?_)
  refine lv_aload_n hx hb dX11_years_34 rfl (lv_at hl 0 rfl) ?_
  refine bk_get (wf := cw) (q0 := 0) (ci := 10) (k := 8) (v := .ref (g.2.2 50)) C hP wl_X11 rfl rfl (by decide) wa_34 rfl rfl dX11_years_35 ?_
  refine lv_aload_n hx hb dX11_years_38 rfl (lv_at hl 0 rfl) ?_
  refine bk_get (wf := cw) (q0 := 0) (ci := 10) (k := 4) (v := .ref (g.2.2 21)) C hP wl_X11 rfl rfl (by decide) wa_27 rfl rfl dX11_years_39 ?_
  refine bk_get (wf := cw) (q0 := 21) (ci := 1) (k := 0) (v := .ref (g.2.2 22)) C hP wl_X1 rfl rfl (by decide) wa_221 rfl rfl dX11_years_42 ?_
  refine bk_get (wf := cw) (q0 := 22) (ci := 7) (k := 5) (v := .ref (g.2.2 26)) C hP wl_X7 rfl rfl (by decide) wa_224 rfl rfl dX11_years_45 ?_
  obtain ⟨q13, hq13, hf⟩ := bi_s hf
  refine bk_VV (wf := cw) (q0 := 50) (ci := 6) (rest := []) [.ref (g.2.2 26)] C hP hD hS hl.1 (c_X6_build_50_26 hXo hq13) (cwA_V 1 hts wa_472 wa_469 wa_470 wa_471 wa_32 rfl rfl nd_X6_build ⟨Nat.le_of_ble_eq_true rfl, Nat.le_of_ble_eq_true rfl⟩) rfl rfl rfl rfl (Nat.le_of_ble_eq_true rfl) dX11_years_48 ⟨Nat.le_of_ble_eq_true rfl, Nat.le_of_ble_eq_true rfl⟩ (fun H locs hP hD hS => ?_)
  refine lv_iconst (v := (0 : Int32)) hx hb dX11_years_51 (by decide) ?_
  refine lv_istore (lv' := [(4, .int (0 : Int32)), (0, .ref (g.2.2 0)), (1, .int x1), (2, .int x2), (3, .int x3)]) hx hb dX11_years_52 hl (by decide) rfl (fun ls hl => ?_)
  refine lv_iconst (v := (0 : Int32)) hx hb dX11_years_54 (by decide) ?_
  refine lv_istore (lv' := [(5, .int (0 : Int32)), (4, .int (0 : Int32)), (0, .ref (g.2.2 0)), (1, .int x1), (2, .int x2), (3, .int x3)]) hx hb dX11_years_55 hl (by decide) rfl (fun ls hl => ?_)
  refine lv_iconst (v := (0 : Int32)) hx hb dX11_years_57 (by decide) ?_
  refine lv_istore (lv' := [(6, .int (0 : Int32)), (5, .int (0 : Int32)), (4, .int (0 : Int32)), (0, .ref (g.2.2 0)), (1, .int x1), (2, .int x2), (3, .int x3)]) hx hb dX11_years_58 hl (by decide) rfl (fun ls hl => ?_)
  obtain ⟨z14, hz14, hf⟩ := bi_s hf
  refine lp_X11_years_0_h60 C hex hst hz14 ?_ H locs ls hP hD hS (lv_sub hl [3, 5, 6, 2, 1, 0] rfl)
  intro H locs ls hP hD hS hl
  refine lv_iload_n hx hb dX11_years_115 rfl (lv_at hl 1 rfl) ?_
  refine lv_if_ne (tgt := 122) hx hb dX11_years_116 (by decide) (fun t116 => ?_) (fun t116 => ?_)
  · have hf := (if_neg t116).symm.trans hf
    refine lv_iload_n hx hb dX11_years_122 rfl (lv_at hl 1 rfl) ?_
    refine lv_iconst (v := (1 : Int32)) hx hb dX11_years_123 (by decide) ?_
    refine lv_icmp_ne (tgt := 140) hx hb dX11_years_124 (by decide) (fun t124 => ?_) (fun t124 => ?_)
    · have hf := (if_neg t124).symm.trans hf
      refine lv_aload_n hx hb dX11_years_140 rfl (lv_at hl 0 rfl) ?_
      refine bk_get (wf := cw) (q0 := 0) (ci := 10) (k := 3) (v := .ref (g.2.2 12)) C hP wl_X11 rfl rfl (by decide) wa_23 rfl rfl dX11_years_141 ?_
      refine bk_get (wf := cw) (q0 := 12) (ci := 8) (k := 0) (v := .int ((z14.2.2.2.2) 12 0)) C hP wl_X9 rfl rfl (by decide) wa_644 rfl rfl dX11_years_144 ?_
      refine lv_iload hx hb dX11_years_147 (lv_at hl 2 rfl) ?_
      obtain ⟨q15, hq15, hf⟩ := bi_s hf
      refine bk_SI (wf := cw) (rest := [.int ((z14.2.2.2.2) 12 0)]) [.int (z14.2.1)] C hP hD hS hl.1 (c_J6_bitCount_0f7a4 hXo hq15) (cwA_S 1 hts wa_699 wa_1071 wa_697 wa_698 rfl rfl nd_J6_bitCount_0f7a4 ⟨Nat.le_of_ble_eq_true rfl, Nat.le_of_ble_eq_true rfl⟩) rfl rfl (Nat.le_of_ble_eq_true rfl) dX11_years_149 ⟨Nat.le_of_ble_eq_true rfl, Nat.le_of_ble_eq_true rfl⟩ (fun H locs hP hD hS => ?_)
      refine lv_isub hx hb dX11_years_152 ?_
      exact bk_iretT C hP hD hS hf (Nat.le_of_ble_eq_true rfl) (Nat.le_of_ble_eq_true rfl) dX11_years_153
    · have hf := (if_pos t124).symm.trans hf
      refine lv_aload_n hx hb dX11_years_127 rfl (lv_at hl 0 rfl) ?_
      refine bk_get (wf := cw) (q0 := 0) (ci := 10) (k := 10) (v := .ref (g.2.2 55)) C hP wl_X11 rfl rfl (by decide) wa_42 rfl rfl dX11_years_128 ?_
      refine bk_get (wf := cw) (q0 := 55) (ci := 2) (k := 0) (v := .ref (g.2.2 56)) C hP wl_X2 rfl rfl (by decide) wa_808 rfl rfl dX11_years_131 ?_
      refine bk_get (wf := cw) (q0 := 56) (ci := 7) (k := 1) (v := .int ((z14.2.2.2.2) 56 1)) C hP wl_X7 rfl rfl (by decide) wa_648 rfl rfl dX11_years_134 ?_
      refine lv_goto (tgt := 153) hx hb dX11_years_137 (by decide) ?_
      exact bk_iretT C hP hD hS hf (Nat.le_of_ble_eq_true rfl) (Nat.le_of_ble_eq_true rfl) dX11_years_153
  · have hf := (if_pos t116).symm.trans hf
    refine lv_iload hx hb dX11_years_119 (lv_at hl 3 rfl) ?_
    exact bk_iretT C hP hD hS hf (Nat.le_of_ble_eq_true rfl) (Nat.le_of_ble_eq_true rfl) dX11_years_121
theorem c_X11_years_0 {N : Nat} {x1 : Int32} {x2 : Int32} {x3 : Int32} {σ : Sg} {z : Zt} (hX : xOK g X) (hst : l.stackTraces = false) (hf : f_X11_years_0 N x1 x2 x3 σ = some z) : MetTi l yX11_years (Cond.code yX11_years cX11_years 8 (some .int) :: wsA) rm_X11_years_0 2 12 cw g X [.ref (g.2.2 0), .int x1, .int x2, .int x3] σ z :=
  MetTi_of hX (by decide) (Nat.le_of_ble_eq_true rfl) (fun p e s m args below meth c A C hex => b_X11_years_0 C hex hst hf)
-- X11_copyFarms_23_36: copyFarms([I[I)V
abbrev rm_X11_copyFarms_23_36 : Room := { frames := 1, cells := 0, slots := 0, locals := 80 }
def f_X11_copyFarms_23_36 (N : Nat) (σ : Sg) : Option (Sg) :=
bd (wrR σ 36 (va_cpy (σ 23) (σ 36) 0 0 9)) fun σ1 =>
some σ1
set_option maxHeartbeats 4000000 in
set_option maxRecDepth 100000 in
theorem b_X11_copyFarms_23_36 {N : Nat} {σ : Sg} {z : Sg} (C : Cx p s m args meth c cX11_copyFarms 2 none RX11 g A X) (hf : f_X11_copyFarms_23_36 N σ = some z) : Bk cw p l e rm_X11_copyFarms_23_36 s m args below meth c 2 g A (MQ below (qV cw g A z) args s 0 0 A) 0 0 0 [(0, .ref (g.2.2 23)), (1, .ref (g.2.2 36))] [] σ := by
  obtain ⟨hx, hb, hr, hml, hown, hts, hK, hlocks, hXX, hA, hXo⟩ := id C
  intro H locs ls hP hD hS hl
  unfold f_X11_copyFarms_23_36 at hf
  refine lv_aload_n hx hb dX11_copyFarms_0 rfl (lv_at hl 0 rfl) ?_
  refine lv_iconst (v := (0 : Int32)) hx hb dX11_copyFarms_1 (by decide) ?_
  refine lv_aload_n hx hb dX11_copyFarms_2 rfl (lv_at hl 1 rfl) ?_
  refine lv_iconst (v := (0 : Int32)) hx hb dX11_copyFarms_3 (by decide) ?_
  refine lv_bipush (v := (9 : Int32)) hx hb dX11_copyFarms_4 (by decide) ?_
  obtain ⟨σ1, eσ1, hf⟩ := bd_s hf
  refine bk_copy (wf := cw) (σ1 := σ1) (q0 := 23) (q1 := 36) (n0 := 9) (n1 := 9) (js := 0) (jd := 0) (jn := 9) C hP hD hS hl.1 wa_446 wa_441 wa_442 wa_443 rfl rfl (by decide) (by decide) (by decide) (by decide) (by decide) (by decide) (Nat.le_of_ble_eq_true rfl) (Nat.le_of_ble_eq_true rfl) (Nat.le_of_ble_eq_true rfl) (Nat.le_of_ble_eq_true rfl) (by rw [eσ1]; exact cw_r36 g _ _) dX11_copyFarms_6 (fun H locs hP hD hS => ?_)
  cases hf
  exact bk_vret C hP hD hS rfl dX11_copyFarms_9
theorem c_X11_copyFarms_23_36 {N : Nat} {σ : Sg} {z : Sg} (hX : xOK g X) (hf : f_X11_copyFarms_23_36 N σ = some z) : MetV l yX11_copyFarms (Cond.code yX11_copyFarms cX11_copyFarms 2 none :: wsA) rm_X11_copyFarms_23_36 cw g X [.ref (g.2.2 23), .ref (g.2.2 36)] σ z :=
  MetV_of hX (by decide) (Nat.le_of_ble_eq_true rfl) (fun p e s m args below meth c A C => b_X11_copyFarms_23_36 C hf)
-- X11_copyFarms_24_37: copyFarms([I[I)V
abbrev rm_X11_copyFarms_24_37 : Room := { frames := 1, cells := 0, slots := 0, locals := 80 }
def f_X11_copyFarms_24_37 (N : Nat) (σ : Sg) : Option (Sg) :=
bd (wrR σ 37 (va_cpy (σ 24) (σ 37) 0 0 9)) fun σ1 =>
some σ1
set_option maxHeartbeats 4000000 in
set_option maxRecDepth 100000 in
theorem b_X11_copyFarms_24_37 {N : Nat} {σ : Sg} {z : Sg} (C : Cx p s m args meth c cX11_copyFarms 2 none RX11 g A X) (hf : f_X11_copyFarms_24_37 N σ = some z) : Bk cw p l e rm_X11_copyFarms_24_37 s m args below meth c 2 g A (MQ below (qV cw g A z) args s 0 0 A) 0 0 0 [(0, .ref (g.2.2 24)), (1, .ref (g.2.2 37))] [] σ := by
  obtain ⟨hx, hb, hr, hml, hown, hts, hK, hlocks, hXX, hA, hXo⟩ := id C
  intro H locs ls hP hD hS hl
  unfold f_X11_copyFarms_24_37 at hf
  refine lv_aload_n hx hb dX11_copyFarms_0 rfl (lv_at hl 0 rfl) ?_
  refine lv_iconst (v := (0 : Int32)) hx hb dX11_copyFarms_1 (by decide) ?_
  refine lv_aload_n hx hb dX11_copyFarms_2 rfl (lv_at hl 1 rfl) ?_
  refine lv_iconst (v := (0 : Int32)) hx hb dX11_copyFarms_3 (by decide) ?_
  refine lv_bipush (v := (9 : Int32)) hx hb dX11_copyFarms_4 (by decide) ?_
  obtain ⟨σ1, eσ1, hf⟩ := bd_s hf
  refine bk_copy (wf := cw) (σ1 := σ1) (q0 := 24) (q1 := 37) (n0 := 9) (n1 := 9) (js := 0) (jd := 0) (jn := 9) C hP hD hS hl.1 wa_446 wa_441 wa_442 wa_443 rfl rfl (by decide) (by decide) (by decide) (by decide) (by decide) (by decide) (Nat.le_of_ble_eq_true rfl) (Nat.le_of_ble_eq_true rfl) (Nat.le_of_ble_eq_true rfl) (Nat.le_of_ble_eq_true rfl) (by rw [eσ1]; exact cw_r37 g _ _) dX11_copyFarms_6 (fun H locs hP hD hS => ?_)
  cases hf
  exact bk_vret C hP hD hS rfl dX11_copyFarms_9
theorem c_X11_copyFarms_24_37 {N : Nat} {σ : Sg} {z : Sg} (hX : xOK g X) (hf : f_X11_copyFarms_24_37 N σ = some z) : MetV l yX11_copyFarms (Cond.code yX11_copyFarms cX11_copyFarms 2 none :: wsA) rm_X11_copyFarms_24_37 cw g X [.ref (g.2.2 24), .ref (g.2.2 37)] σ z :=
  MetV_of hX (by decide) (Nat.le_of_ble_eq_true rfl) (fun p e s m args below meth c A C => b_X11_copyFarms_24_37 C hf)
-- X11_copyFarms_25_38: copyFarms([I[I)V
abbrev rm_X11_copyFarms_25_38 : Room := { frames := 1, cells := 0, slots := 0, locals := 80 }
def f_X11_copyFarms_25_38 (N : Nat) (σ : Sg) : Option (Sg) :=
bd (wrR σ 38 (va_cpy (σ 25) (σ 38) 0 0 9)) fun σ1 =>
some σ1
set_option maxHeartbeats 4000000 in
set_option maxRecDepth 100000 in
theorem b_X11_copyFarms_25_38 {N : Nat} {σ : Sg} {z : Sg} (C : Cx p s m args meth c cX11_copyFarms 2 none RX11 g A X) (hf : f_X11_copyFarms_25_38 N σ = some z) : Bk cw p l e rm_X11_copyFarms_25_38 s m args below meth c 2 g A (MQ below (qV cw g A z) args s 0 0 A) 0 0 0 [(0, .ref (g.2.2 25)), (1, .ref (g.2.2 38))] [] σ := by
  obtain ⟨hx, hb, hr, hml, hown, hts, hK, hlocks, hXX, hA, hXo⟩ := id C
  intro H locs ls hP hD hS hl
  unfold f_X11_copyFarms_25_38 at hf
  refine lv_aload_n hx hb dX11_copyFarms_0 rfl (lv_at hl 0 rfl) ?_
  refine lv_iconst (v := (0 : Int32)) hx hb dX11_copyFarms_1 (by decide) ?_
  refine lv_aload_n hx hb dX11_copyFarms_2 rfl (lv_at hl 1 rfl) ?_
  refine lv_iconst (v := (0 : Int32)) hx hb dX11_copyFarms_3 (by decide) ?_
  refine lv_bipush (v := (9 : Int32)) hx hb dX11_copyFarms_4 (by decide) ?_
  obtain ⟨σ1, eσ1, hf⟩ := bd_s hf
  refine bk_copy (wf := cw) (σ1 := σ1) (q0 := 25) (q1 := 38) (n0 := 9) (n1 := 9) (js := 0) (jd := 0) (jn := 9) C hP hD hS hl.1 wa_446 wa_441 wa_442 wa_443 rfl rfl (by decide) (by decide) (by decide) (by decide) (by decide) (by decide) (Nat.le_of_ble_eq_true rfl) (Nat.le_of_ble_eq_true rfl) (Nat.le_of_ble_eq_true rfl) (Nat.le_of_ble_eq_true rfl) (by rw [eσ1]; exact cw_r38 g _ _) dX11_copyFarms_6 (fun H locs hP hD hS => ?_)
  cases hf
  exact bk_vret C hP hD hS rfl dX11_copyFarms_9
theorem c_X11_copyFarms_25_38 {N : Nat} {σ : Sg} {z : Sg} (hX : xOK g X) (hf : f_X11_copyFarms_25_38 N σ = some z) : MetV l yX11_copyFarms (Cond.code yX11_copyFarms cX11_copyFarms 2 none :: wsA) rm_X11_copyFarms_25_38 cw g X [.ref (g.2.2 25), .ref (g.2.2 38)] σ z :=
  MetV_of hX (by decide) (Nat.le_of_ble_eq_true rfl) (fun p e s m args below meth c A C => b_X11_copyFarms_25_38 C hf)
-- X11_copyFarms_26_39: copyFarms([I[I)V
abbrev rm_X11_copyFarms_26_39 : Room := { frames := 1, cells := 0, slots := 0, locals := 80 }
def f_X11_copyFarms_26_39 (N : Nat) (σ : Sg) : Option (Sg) :=
bd (wrR σ 39 (va_cpy (σ 26) (σ 39) 0 0 9)) fun σ1 =>
some σ1
set_option maxHeartbeats 4000000 in
set_option maxRecDepth 100000 in
theorem b_X11_copyFarms_26_39 {N : Nat} {σ : Sg} {z : Sg} (C : Cx p s m args meth c cX11_copyFarms 2 none RX11 g A X) (hf : f_X11_copyFarms_26_39 N σ = some z) : Bk cw p l e rm_X11_copyFarms_26_39 s m args below meth c 2 g A (MQ below (qV cw g A z) args s 0 0 A) 0 0 0 [(0, .ref (g.2.2 26)), (1, .ref (g.2.2 39))] [] σ := by
  obtain ⟨hx, hb, hr, hml, hown, hts, hK, hlocks, hXX, hA, hXo⟩ := id C
  intro H locs ls hP hD hS hl
  unfold f_X11_copyFarms_26_39 at hf
  refine lv_aload_n hx hb dX11_copyFarms_0 rfl (lv_at hl 0 rfl) ?_
  refine lv_iconst (v := (0 : Int32)) hx hb dX11_copyFarms_1 (by decide) ?_
  refine lv_aload_n hx hb dX11_copyFarms_2 rfl (lv_at hl 1 rfl) ?_
  refine lv_iconst (v := (0 : Int32)) hx hb dX11_copyFarms_3 (by decide) ?_
  refine lv_bipush (v := (9 : Int32)) hx hb dX11_copyFarms_4 (by decide) ?_
  obtain ⟨σ1, eσ1, hf⟩ := bd_s hf
  refine bk_copy (wf := cw) (σ1 := σ1) (q0 := 26) (q1 := 39) (n0 := 9) (n1 := 9) (js := 0) (jd := 0) (jn := 9) C hP hD hS hl.1 wa_446 wa_441 wa_442 wa_443 rfl rfl (by decide) (by decide) (by decide) (by decide) (by decide) (by decide) (Nat.le_of_ble_eq_true rfl) (Nat.le_of_ble_eq_true rfl) (Nat.le_of_ble_eq_true rfl) (Nat.le_of_ble_eq_true rfl) (by rw [eσ1]; exact cw_r39 g _ _) dX11_copyFarms_6 (fun H locs hP hD hS => ?_)
  cases hf
  exact bk_vret C hP hD hS rfl dX11_copyFarms_9
theorem c_X11_copyFarms_26_39 {N : Nat} {σ : Sg} {z : Sg} (hX : xOK g X) (hf : f_X11_copyFarms_26_39 N σ = some z) : MetV l yX11_copyFarms (Cond.code yX11_copyFarms cX11_copyFarms 2 none :: wsA) rm_X11_copyFarms_26_39 cw g X [.ref (g.2.2 26), .ref (g.2.2 39)] σ z :=
  MetV_of hX (by decide) (Nat.le_of_ble_eq_true rfl) (fun p e s m args below meth c A C => b_X11_copyFarms_26_39 C hf)
-- X7_copy_35_22: copy(LNodPost$State;)V
abbrev rm_X7_copy_35_22 : Room := { frames := 2, cells := 0, slots := 0, locals := 101 }
def f_X7_copy_35_22 (N : Nat) (σ : Sg) : Option (Sg) :=
bd (wr σ 35 0 (σ 22 0)) fun σ1 =>
bd (wr σ1 35 1 (σ1 22 1)) fun σ2 =>
(f_X11_copyFarms_23_36 N σ2).bind fun q3 =>
(f_X11_copyFarms_24_37 N q3).bind fun q4 =>
(f_X11_copyFarms_25_38 N q4).bind fun q5 =>
(f_X11_copyFarms_26_39 N q5).bind fun q6 =>
some q6
set_option maxHeartbeats 4000000 in
set_option maxRecDepth 100000 in
theorem b_X7_copy_35_22 {N : Nat} {σ : Sg} {z : Sg} (C : Cx p s m args meth c cX7_copy 2 none RX7 g A X) (hf : f_X7_copy_35_22 N σ = some z) : Bk cw p l e rm_X7_copy_35_22 s m args below meth c 2 g A (MQ below (qV cw g A z) args s 0 0 A) 0 0 0 [(0, .ref (g.2.2 35)), (1, .ref (g.2.2 22))] [] σ := by
  obtain ⟨hx, hb, hr, hml, hown, hts, hK, hlocks, hXX, hA, hXo⟩ := id C
  intro H locs ls hP hD hS hl
  unfold f_X7_copy_35_22 at hf
  refine lv_aload_n hx hb dX7_copy_0 rfl (lv_at hl 0 rfl) ?_
  refine lv_aload_n hx hb dX7_copy_1 rfl (lv_at hl 1 rfl) ?_
  refine bk_get (wf := cw) (q0 := 22) (ci := 7) (k := 0) (v := .int (σ 22 0)) C hP wl_X7 rfl rfl (by decide) wa_107 rfl rfl dX7_copy_2 ?_
  obtain ⟨σ1, eσ1, hf⟩ := bd_s hf
  refine bk_put (wf := cw) (σ1 := σ1) (q0 := 35) (ci := 7) (k := 0) (v := .int (σ 22 0)) C hP hD hS wl_X7 tyX7_ok nmX7 rfl rfl (by decide) wa_107 rfl rfl rfl rfl rfl (Nat.le_of_ble_eq_true rfl) (by rw [eσ1]; exact cw_p35_0 g _ _) dX7_copy_5 (fun H locs hP hD hS => ?_)
  refine lv_aload_n hx hb dX7_copy_8 rfl (lv_at hl 0 rfl) ?_
  refine lv_aload_n hx hb dX7_copy_9 rfl (lv_at hl 1 rfl) ?_
  refine bk_get (wf := cw) (q0 := 22) (ci := 7) (k := 1) (v := .int (σ1 22 1)) C hP wl_X7 rfl rfl (by decide) wa_108 rfl rfl dX7_copy_10 ?_
  obtain ⟨σ2, eσ2, hf⟩ := bd_s hf
  refine bk_put (wf := cw) (σ1 := σ2) (q0 := 35) (ci := 7) (k := 1) (v := .int (σ1 22 1)) C hP hD hS wl_X7 tyX7_ok nmX7 rfl rfl (by decide) wa_108 rfl rfl rfl rfl rfl (Nat.le_of_ble_eq_true rfl) (by rw [eσ2]; exact cw_p35_1 g _ _) dX7_copy_13 (fun H locs hP hD hS => ?_)
  refine lv_aload_n hx hb dX7_copy_16 rfl (lv_at hl 1 rfl) ?_
  refine bk_get (wf := cw) (q0 := 22) (ci := 7) (k := 2) (v := .ref (g.2.2 23)) C hP wl_X7 rfl rfl (by decide) wa_109 rfl rfl dX7_copy_17 ?_
  refine lv_aload_n hx hb dX7_copy_20 rfl (lv_at hl 0 rfl) ?_
  refine bk_get (wf := cw) (q0 := 35) (ci := 7) (k := 2) (v := .ref (g.2.2 36)) C hP wl_X7 rfl rfl (by decide) wa_109 rfl rfl dX7_copy_21 ?_
  obtain ⟨q3, hq3, hf⟩ := bi_s hf
  refine bk_NV (wf := cw) (rest := []) [.ref (g.2.2 23), .ref (g.2.2 36)] C hP hD hS hl.1 (c_X11_copyFarms_23_36 hXo hq3) wa_445 wa_444 wa_2 (hXo.2.2.2 _ _ _ hXX).1.1 rfl rfl nd_X11_copyFarms ⟨Nat.le_of_ble_eq_true rfl, Nat.le_of_ble_eq_true rfl⟩ rfl rfl (Nat.le_of_ble_eq_true rfl) dX7_copy_24 ⟨Nat.le_of_ble_eq_true rfl, Nat.le_of_ble_eq_true rfl⟩ (fun H locs hP hD hS => ?_)
  refine lv_aload_n hx hb dX7_copy_27 rfl (lv_at hl 1 rfl) ?_
  refine bk_get (wf := cw) (q0 := 22) (ci := 7) (k := 3) (v := .ref (g.2.2 24)) C hP wl_X7 rfl rfl (by decide) wa_110 rfl rfl dX7_copy_28 ?_
  refine lv_aload_n hx hb dX7_copy_31 rfl (lv_at hl 0 rfl) ?_
  refine bk_get (wf := cw) (q0 := 35) (ci := 7) (k := 3) (v := .ref (g.2.2 37)) C hP wl_X7 rfl rfl (by decide) wa_110 rfl rfl dX7_copy_32 ?_
  obtain ⟨q4, hq4, hf⟩ := bi_s hf
  refine bk_NV (wf := cw) (rest := []) [.ref (g.2.2 24), .ref (g.2.2 37)] C hP hD hS hl.1 (c_X11_copyFarms_24_37 hXo hq4) wa_445 wa_444 wa_2 (hXo.2.2.2 _ _ _ hXX).1.1 rfl rfl nd_X11_copyFarms ⟨Nat.le_of_ble_eq_true rfl, Nat.le_of_ble_eq_true rfl⟩ rfl rfl (Nat.le_of_ble_eq_true rfl) dX7_copy_35 ⟨Nat.le_of_ble_eq_true rfl, Nat.le_of_ble_eq_true rfl⟩ (fun H locs hP hD hS => ?_)
  refine lv_aload_n hx hb dX7_copy_38 rfl (lv_at hl 1 rfl) ?_
  refine bk_get (wf := cw) (q0 := 22) (ci := 7) (k := 4) (v := .ref (g.2.2 25)) C hP wl_X7 rfl rfl (by decide) wa_111 rfl rfl dX7_copy_39 ?_
  refine lv_aload_n hx hb dX7_copy_42 rfl (lv_at hl 0 rfl) ?_
  refine bk_get (wf := cw) (q0 := 35) (ci := 7) (k := 4) (v := .ref (g.2.2 38)) C hP wl_X7 rfl rfl (by decide) wa_111 rfl rfl dX7_copy_43 ?_
  obtain ⟨q5, hq5, hf⟩ := bi_s hf
  refine bk_NV (wf := cw) (rest := []) [.ref (g.2.2 25), .ref (g.2.2 38)] C hP hD hS hl.1 (c_X11_copyFarms_25_38 hXo hq5) wa_445 wa_444 wa_2 (hXo.2.2.2 _ _ _ hXX).1.1 rfl rfl nd_X11_copyFarms ⟨Nat.le_of_ble_eq_true rfl, Nat.le_of_ble_eq_true rfl⟩ rfl rfl (Nat.le_of_ble_eq_true rfl) dX7_copy_46 ⟨Nat.le_of_ble_eq_true rfl, Nat.le_of_ble_eq_true rfl⟩ (fun H locs hP hD hS => ?_)
  refine lv_aload_n hx hb dX7_copy_49 rfl (lv_at hl 1 rfl) ?_
  refine bk_get (wf := cw) (q0 := 22) (ci := 7) (k := 5) (v := .ref (g.2.2 26)) C hP wl_X7 rfl rfl (by decide) wa_112 rfl rfl dX7_copy_50 ?_
  refine lv_aload_n hx hb dX7_copy_53 rfl (lv_at hl 0 rfl) ?_
  refine bk_get (wf := cw) (q0 := 35) (ci := 7) (k := 5) (v := .ref (g.2.2 39)) C hP wl_X7 rfl rfl (by decide) wa_112 rfl rfl dX7_copy_54 ?_
  obtain ⟨q6, hq6, hf⟩ := bi_s hf
  refine bk_NV (wf := cw) (rest := []) [.ref (g.2.2 26), .ref (g.2.2 39)] C hP hD hS hl.1 (c_X11_copyFarms_26_39 hXo hq6) wa_445 wa_444 wa_2 (hXo.2.2.2 _ _ _ hXX).1.1 rfl rfl nd_X11_copyFarms ⟨Nat.le_of_ble_eq_true rfl, Nat.le_of_ble_eq_true rfl⟩ rfl rfl (Nat.le_of_ble_eq_true rfl) dX7_copy_57 ⟨Nat.le_of_ble_eq_true rfl, Nat.le_of_ble_eq_true rfl⟩ (fun H locs hP hD hS => ?_)
  cases hf
  exact bk_vret C hP hD hS rfl dX7_copy_60
theorem c_X7_copy_35_22 {N : Nat} {σ : Sg} {z : Sg} (hX : xOK g X) (hf : f_X7_copy_35_22 N σ = some z) : MetV l yX7_copy (Cond.code yX7_copy cX7_copy 2 none :: wsA) rm_X7_copy_35_22 cw g X [.ref (g.2.2 35), .ref (g.2.2 22)] σ z :=
  MetV_of hX (by decide) (Nat.le_of_ble_eq_true rfl) (fun p e s m args below meth c A C => b_X7_copy_35_22 C hf)
-- X0_copy_40_27: copy(LNodPost$Acts;)V
abbrev rm_X0_copy_40_27 : Room := { frames := 1, cells := 0, slots := 0, locals := 80 }
theorem nd_X0_copy : yX0_copy.cls ≠ "java/lang/invoke/MethodHandle" ∧ yX0_copy.cls ≠ "java/lang/invoke/VarHandle" ∧ (parseMethodDescriptor yX0_copy.desc).map (fun d => d.parameters.length) = some 1 := by decide +kernel
def f_X0_copy_40_27 (N : Nat) (σ : Sg) : Option (Sg) :=
bd (wr σ 40 0 (σ 27 0)) fun σ1 =>
bd (wr σ1 40 1 (σ1 27 1)) fun σ2 =>
bd (wrR σ2 41 (va_cpy (σ2 28) (σ2 41) 0 0 1520)) fun σ3 =>
some σ3
set_option maxHeartbeats 4000000 in
set_option maxRecDepth 100000 in
theorem b_X0_copy_40_27 {N : Nat} {σ : Sg} {z : Sg} (C : Cx p s m args meth c cX0_copy 2 none RX0 g A X) (hf : f_X0_copy_40_27 N σ = some z) : Bk cw p l e rm_X0_copy_40_27 s m args below meth c 2 g A (MQ below (qV cw g A z) args s 0 0 A) 0 0 0 [(0, .ref (g.2.2 40)), (1, .ref (g.2.2 27))] [] σ := by
  obtain ⟨hx, hb, hr, hml, hown, hts, hK, hlocks, hXX, hA, hXo⟩ := id C
  intro H locs ls hP hD hS hl
  unfold f_X0_copy_40_27 at hf
  refine lv_aload_n hx hb dX0_copy_0 rfl (lv_at hl 0 rfl) ?_
  refine lv_aload_n hx hb dX0_copy_1 rfl (lv_at hl 1 rfl) ?_
  refine bk_get (wf := cw) (q0 := 27) (ci := 0) (k := 0) (v := .int (σ 27 0)) C hP wl_X0 rfl rfl (by decide) wa_116 rfl rfl dX0_copy_2 ?_
  obtain ⟨σ1, eσ1, hf⟩ := bd_s hf
  refine bk_put (wf := cw) (σ1 := σ1) (q0 := 40) (ci := 0) (k := 0) (v := .int (σ 27 0)) C hP hD hS wl_X0 tyX0_ok nmX0 rfl rfl (by decide) wa_116 rfl rfl rfl rfl rfl (Nat.le_of_ble_eq_true rfl) (by rw [eσ1]; exact cw_p40_0 g _ _) dX0_copy_5 (fun H locs hP hD hS => ?_)
  refine lv_aload_n hx hb dX0_copy_8 rfl (lv_at hl 0 rfl) ?_
  refine lv_aload_n hx hb dX0_copy_9 rfl (lv_at hl 1 rfl) ?_
  refine bk_get (wf := cw) (q0 := 27) (ci := 0) (k := 1) (v := .int (σ1 27 1)) C hP wl_X0 rfl rfl (by decide) wa_117 rfl rfl dX0_copy_10 ?_
  obtain ⟨σ2, eσ2, hf⟩ := bd_s hf
  refine bk_put (wf := cw) (σ1 := σ2) (q0 := 40) (ci := 0) (k := 1) (v := .int (σ1 27 1)) C hP hD hS wl_X0 tyX0_ok nmX0 rfl rfl (by decide) wa_117 rfl rfl rfl rfl rfl (Nat.le_of_ble_eq_true rfl) (by rw [eσ2]; exact cw_p40_1 g _ _) dX0_copy_13 (fun H locs hP hD hS => ?_)
  refine lv_aload_n hx hb dX0_copy_16 rfl (lv_at hl 1 rfl) ?_
  refine bk_get (wf := cw) (q0 := 27) (ci := 0) (k := 2) (v := .ref (g.2.2 28)) C hP wl_X0 rfl rfl (by decide) wa_118 rfl rfl dX0_copy_17 ?_
  refine lv_iconst (v := (0 : Int32)) hx hb dX0_copy_20 (by decide) ?_
  refine lv_aload_n hx hb dX0_copy_21 rfl (lv_at hl 0 rfl) ?_
  refine bk_get (wf := cw) (q0 := 40) (ci := 0) (k := 2) (v := .ref (g.2.2 41)) C hP wl_X0 rfl rfl (by decide) wa_118 rfl rfl dX0_copy_22 ?_
  refine lv_iconst (v := (0 : Int32)) hx hb dX0_copy_25 (by decide) ?_
  refine lv_sipush (v := (1520 : Int32)) hx hb dX0_copy_26 (by decide) ?_
  obtain ⟨σ3, eσ3, hf⟩ := bd_s hf
  refine bk_copy (wf := cw) (σ1 := σ3) (q0 := 28) (q1 := 41) (n0 := 1520) (n1 := 1520) (js := 0) (jd := 0) (jn := 1520) C hP hD hS hl.1 wa_1432 wa_441 wa_442 wa_443 rfl rfl (by decide) (by decide) (by decide) (by decide) (by decide) (by decide) (Nat.le_of_ble_eq_true rfl) (Nat.le_of_ble_eq_true rfl) (Nat.le_of_ble_eq_true rfl) (Nat.le_of_ble_eq_true rfl) (by rw [eσ3]; exact cw_r41 g _ _) dX0_copy_29 (fun H locs hP hD hS => ?_)
  cases hf
  exact bk_vret C hP hD hS rfl dX0_copy_32
theorem c_X0_copy_40_27 {N : Nat} {σ : Sg} {z : Sg} (hX : xOK g X) (hf : f_X0_copy_40_27 N σ = some z) : MetV l yX0_copy (Cond.code yX0_copy cX0_copy 2 none :: wsA) rm_X0_copy_40_27 cw g X [.ref (g.2.2 40), .ref (g.2.2 27)] σ z :=
  MetV_of hX (by decide) (Nat.le_of_ble_eq_true rfl) (fun p e s m args below meth c A C => b_X0_copy_40_27 C hf)
-- X5_copy_42_29: copy(LNodPost$Seen;)V
abbrev rm_X5_copy_42_29 : Room := { frames := 1, cells := 0, slots := 0, locals := 80 }
theorem nd_X5_copy : yX5_copy.cls ≠ "java/lang/invoke/MethodHandle" ∧ yX5_copy.cls ≠ "java/lang/invoke/VarHandle" ∧ (parseMethodDescriptor yX5_copy.desc).map (fun d => d.parameters.length) = some 1 := by decide +kernel
def f_X5_copy_42_29 (N : Nat) (σ : Sg) : Option (Sg) :=
bd (wr σ 42 0 (σ 29 0)) fun σ1 =>
bd (wrR σ1 43 (va_cpy (σ1 30) (σ1 43) 0 0 8)) fun σ2 =>
bd (wrR σ2 44 (va_cpy (σ2 31) (σ2 44) 0 0 8)) fun σ3 =>
bd (wrR σ3 45 (va_cpy (σ3 32) (σ3 45) 0 0 8)) fun σ4 =>
some σ4
set_option maxHeartbeats 4000000 in
set_option maxRecDepth 100000 in
theorem b_X5_copy_42_29 {N : Nat} {σ : Sg} {z : Sg} (C : Cx p s m args meth c cX5_copy 2 none RX5 g A X) (hf : f_X5_copy_42_29 N σ = some z) : Bk cw p l e rm_X5_copy_42_29 s m args below meth c 2 g A (MQ below (qV cw g A z) args s 0 0 A) 0 0 0 [(0, .ref (g.2.2 42)), (1, .ref (g.2.2 29))] [] σ := by
  obtain ⟨hx, hb, hr, hml, hown, hts, hK, hlocks, hXX, hA, hXo⟩ := id C
  intro H locs ls hP hD hS hl
  unfold f_X5_copy_42_29 at hf
  refine lv_aload_n hx hb dX5_copy_0 rfl (lv_at hl 0 rfl) ?_
  refine lv_aload_n hx hb dX5_copy_1 rfl (lv_at hl 1 rfl) ?_
  refine bk_get (wf := cw) (q0 := 29) (ci := 5) (k := 0) (v := .int (σ 29 0)) C hP wl_X5 rfl rfl (by decide) wa_122 rfl rfl dX5_copy_2 ?_
  obtain ⟨σ1, eσ1, hf⟩ := bd_s hf
  refine bk_put (wf := cw) (σ1 := σ1) (q0 := 42) (ci := 5) (k := 0) (v := .int (σ 29 0)) C hP hD hS wl_X5 tyX5_ok nmX5 rfl rfl (by decide) wa_122 rfl rfl rfl rfl rfl (Nat.le_of_ble_eq_true rfl) (by rw [eσ1]; exact cw_p42_0 g _ _) dX5_copy_5 (fun H locs hP hD hS => ?_)
  refine lv_aload_n hx hb dX5_copy_8 rfl (lv_at hl 1 rfl) ?_
  refine bk_get (wf := cw) (q0 := 29) (ci := 5) (k := 1) (v := .ref (g.2.2 30)) C hP wl_X5 rfl rfl (by decide) wa_123 rfl rfl dX5_copy_9 ?_
  refine lv_iconst (v := (0 : Int32)) hx hb dX5_copy_12 (by decide) ?_
  refine lv_aload_n hx hb dX5_copy_13 rfl (lv_at hl 0 rfl) ?_
  refine bk_get (wf := cw) (q0 := 42) (ci := 5) (k := 1) (v := .ref (g.2.2 43)) C hP wl_X5 rfl rfl (by decide) wa_123 rfl rfl dX5_copy_14 ?_
  refine lv_iconst (v := (0 : Int32)) hx hb dX5_copy_17 (by decide) ?_
  refine lv_bipush (v := (8 : Int32)) hx hb dX5_copy_18 (by decide) ?_
  obtain ⟨σ2, eσ2, hf⟩ := bd_s hf
  refine bk_copy (wf := cw) (σ1 := σ2) (q0 := 30) (q1 := 43) (n0 := 8) (n1 := 8) (js := 0) (jd := 0) (jn := 8) C hP hD hS hl.1 wa_1437 wa_441 wa_442 wa_443 rfl rfl (by decide) (by decide) (by decide) (by decide) (by decide) (by decide) (Nat.le_of_ble_eq_true rfl) (Nat.le_of_ble_eq_true rfl) (Nat.le_of_ble_eq_true rfl) (Nat.le_of_ble_eq_true rfl) (by rw [eσ2]; exact cw_r43 g _ _) dX5_copy_20 (fun H locs hP hD hS => ?_)
  refine lv_aload_n hx hb dX5_copy_23 rfl (lv_at hl 1 rfl) ?_
  refine bk_get (wf := cw) (q0 := 29) (ci := 5) (k := 2) (v := .ref (g.2.2 31)) C hP wl_X5 rfl rfl (by decide) wa_124 rfl rfl dX5_copy_24 ?_
  refine lv_iconst (v := (0 : Int32)) hx hb dX5_copy_27 (by decide) ?_
  refine lv_aload_n hx hb dX5_copy_28 rfl (lv_at hl 0 rfl) ?_
  refine bk_get (wf := cw) (q0 := 42) (ci := 5) (k := 2) (v := .ref (g.2.2 44)) C hP wl_X5 rfl rfl (by decide) wa_124 rfl rfl dX5_copy_29 ?_
  refine lv_iconst (v := (0 : Int32)) hx hb dX5_copy_32 (by decide) ?_
  refine lv_bipush (v := (8 : Int32)) hx hb dX5_copy_33 (by decide) ?_
  obtain ⟨σ3, eσ3, hf⟩ := bd_s hf
  refine bk_copy (wf := cw) (σ1 := σ3) (q0 := 31) (q1 := 44) (n0 := 8) (n1 := 8) (js := 0) (jd := 0) (jn := 8) C hP hD hS hl.1 wa_1437 wa_441 wa_442 wa_443 rfl rfl (by decide) (by decide) (by decide) (by decide) (by decide) (by decide) (Nat.le_of_ble_eq_true rfl) (Nat.le_of_ble_eq_true rfl) (Nat.le_of_ble_eq_true rfl) (Nat.le_of_ble_eq_true rfl) (by rw [eσ3]; exact cw_r44 g _ _) dX5_copy_35 (fun H locs hP hD hS => ?_)
  refine lv_aload_n hx hb dX5_copy_38 rfl (lv_at hl 1 rfl) ?_
  refine bk_get (wf := cw) (q0 := 29) (ci := 5) (k := 3) (v := .ref (g.2.2 32)) C hP wl_X5 rfl rfl (by decide) wa_125 rfl rfl dX5_copy_39 ?_
  refine lv_iconst (v := (0 : Int32)) hx hb dX5_copy_42 (by decide) ?_
  refine lv_aload_n hx hb dX5_copy_43 rfl (lv_at hl 0 rfl) ?_
  refine bk_get (wf := cw) (q0 := 42) (ci := 5) (k := 3) (v := .ref (g.2.2 45)) C hP wl_X5 rfl rfl (by decide) wa_125 rfl rfl dX5_copy_44 ?_
  refine lv_iconst (v := (0 : Int32)) hx hb dX5_copy_47 (by decide) ?_
  refine lv_bipush (v := (8 : Int32)) hx hb dX5_copy_48 (by decide) ?_
  obtain ⟨σ4, eσ4, hf⟩ := bd_s hf
  refine bk_copy (wf := cw) (σ1 := σ4) (q0 := 32) (q1 := 45) (n0 := 8) (n1 := 8) (js := 0) (jd := 0) (jn := 8) C hP hD hS hl.1 wa_1437 wa_441 wa_442 wa_443 rfl rfl (by decide) (by decide) (by decide) (by decide) (by decide) (by decide) (Nat.le_of_ble_eq_true rfl) (Nat.le_of_ble_eq_true rfl) (Nat.le_of_ble_eq_true rfl) (Nat.le_of_ble_eq_true rfl) (by rw [eσ4]; exact cw_r45 g _ _) dX5_copy_50 (fun H locs hP hD hS => ?_)
  cases hf
  exact bk_vret C hP hD hS rfl dX5_copy_53
theorem c_X5_copy_42_29 {N : Nat} {σ : Sg} {z : Sg} (hX : xOK g X) (hf : f_X5_copy_42_29 N σ = some z) : MetV l yX5_copy (Cond.code yX5_copy cX5_copy 2 none :: wsA) rm_X5_copy_42_29 cw g X [.ref (g.2.2 42), .ref (g.2.2 29)] σ z :=
  MetV_of hX (by decide) (Nat.le_of_ble_eq_true rfl) (fun p e s m args below meth c A C => b_X5_copy_42_29 C hf)
-- X1_copy_34_21: copy(LNodPost$Book;)V
abbrev rm_X1_copy_34_21 : Room := { frames := 3, cells := 0, slots := 0, locals := 122 }
theorem nd_X1_copy : yX1_copy.cls ≠ "java/lang/invoke/MethodHandle" ∧ yX1_copy.cls ≠ "java/lang/invoke/VarHandle" ∧ (parseMethodDescriptor yX1_copy.desc).map (fun d => d.parameters.length) = some 1 := by decide +kernel
def f_X1_copy_34_21 (N : Nat) (σ : Sg) : Option (Sg) :=
(f_X7_copy_35_22 N σ).bind fun q1 =>
(f_X0_copy_40_27 N q1).bind fun q2 =>
(f_X5_copy_42_29 N q2).bind fun q3 =>
bd (wrR q3 46 (va_cpy (q3 33) (q3 46) 0 0 3)) fun σ4 =>
some σ4
set_option maxHeartbeats 4000000 in
set_option maxRecDepth 100000 in
theorem b_X1_copy_34_21 {N : Nat} {σ : Sg} {z : Sg} (C : Cx p s m args meth c cX1_copy 2 none RX1 g A X) (hf : f_X1_copy_34_21 N σ = some z) : Bk cw p l e rm_X1_copy_34_21 s m args below meth c 2 g A (MQ below (qV cw g A z) args s 0 0 A) 0 0 0 [(0, .ref (g.2.2 34)), (1, .ref (g.2.2 21))] [] σ := by
  obtain ⟨hx, hb, hr, hml, hown, hts, hK, hlocks, hXX, hA, hXo⟩ := id C
  intro H locs ls hP hD hS hl
  unfold f_X1_copy_34_21 at hf
  refine lv_aload_n hx hb dX1_copy_0 rfl (lv_at hl 0 rfl) ?_
  refine bk_get (wf := cw) (q0 := 34) (ci := 1) (k := 0) (v := .ref (g.2.2 35)) C hP wl_X1 rfl rfl (by decide) wa_94 rfl rfl dX1_copy_1 ?_
  refine lv_aload_n hx hb dX1_copy_4 rfl (lv_at hl 1 rfl) ?_
  refine bk_get (wf := cw) (q0 := 21) (ci := 1) (k := 0) (v := .ref (g.2.2 22)) C hP wl_X1 rfl rfl (by decide) wa_94 rfl rfl dX1_copy_5 ?_
  obtain ⟨q1, hq1, hf⟩ := bi_s hf
  refine bk_VV (wf := cw) (q0 := 35) (ci := 7) (rest := []) [.ref (g.2.2 22)] C hP hD hS hl.1 (c_X7_copy_35_22 hXo hq1) (cwA_V 1 hts wa_829 wa_1427 wa_827 wa_828 wa_93 rfl rfl nd_X7_copy ⟨Nat.le_of_ble_eq_true rfl, Nat.le_of_ble_eq_true rfl⟩) rfl rfl rfl rfl (Nat.le_of_ble_eq_true rfl) dX1_copy_8 ⟨Nat.le_of_ble_eq_true rfl, Nat.le_of_ble_eq_true rfl⟩ (fun H locs hP hD hS => ?_)
  refine lv_aload_n hx hb dX1_copy_11 rfl (lv_at hl 0 rfl) ?_
  refine bk_get (wf := cw) (q0 := 34) (ci := 1) (k := 1) (v := .ref (g.2.2 40)) C hP wl_X1 rfl rfl (by decide) wa_98 rfl rfl dX1_copy_12 ?_
  refine lv_aload_n hx hb dX1_copy_15 rfl (lv_at hl 1 rfl) ?_
  refine bk_get (wf := cw) (q0 := 21) (ci := 1) (k := 1) (v := .ref (g.2.2 27)) C hP wl_X1 rfl rfl (by decide) wa_98 rfl rfl dX1_copy_16 ?_
  obtain ⟨q2, hq2, hf⟩ := bi_s hf
  refine bk_VV (wf := cw) (q0 := 40) (ci := 0) (rest := []) [.ref (g.2.2 27)] C hP hD hS hl.1 (c_X0_copy_40_27 hXo hq2) (cwA_V 1 hts wa_1431 wa_1428 wa_1429 wa_1430 wa_97 rfl rfl nd_X0_copy ⟨Nat.le_of_ble_eq_true rfl, Nat.le_of_ble_eq_true rfl⟩) rfl rfl rfl rfl (Nat.le_of_ble_eq_true rfl) dX1_copy_19 ⟨Nat.le_of_ble_eq_true rfl, Nat.le_of_ble_eq_true rfl⟩ (fun H locs hP hD hS => ?_)
  refine lv_aload_n hx hb dX1_copy_22 rfl (lv_at hl 0 rfl) ?_
  refine bk_get (wf := cw) (q0 := 34) (ci := 1) (k := 2) (v := .ref (g.2.2 42)) C hP wl_X1 rfl rfl (by decide) wa_102 rfl rfl dX1_copy_23 ?_
  refine lv_aload_n hx hb dX1_copy_26 rfl (lv_at hl 1 rfl) ?_
  refine bk_get (wf := cw) (q0 := 21) (ci := 1) (k := 2) (v := .ref (g.2.2 29)) C hP wl_X1 rfl rfl (by decide) wa_102 rfl rfl dX1_copy_27 ?_
  obtain ⟨q3, hq3, hf⟩ := bi_s hf
  refine bk_VV (wf := cw) (q0 := 42) (ci := 5) (rest := []) [.ref (g.2.2 29)] C hP hD hS hl.1 (c_X5_copy_42_29 hXo hq3) (cwA_V 1 hts wa_1436 wa_1433 wa_1434 wa_1435 wa_101 rfl rfl nd_X5_copy ⟨Nat.le_of_ble_eq_true rfl, Nat.le_of_ble_eq_true rfl⟩) rfl rfl rfl rfl (Nat.le_of_ble_eq_true rfl) dX1_copy_30 ⟨Nat.le_of_ble_eq_true rfl, Nat.le_of_ble_eq_true rfl⟩ (fun H locs hP hD hS => ?_)
  refine lv_aload_n hx hb dX1_copy_33 rfl (lv_at hl 1 rfl) ?_
  refine bk_get (wf := cw) (q0 := 21) (ci := 1) (k := 3) (v := .ref (g.2.2 33)) C hP wl_X1 rfl rfl (by decide) wa_103 rfl rfl dX1_copy_34 ?_
  refine lv_iconst (v := (0 : Int32)) hx hb dX1_copy_37 (by decide) ?_
  refine lv_aload_n hx hb dX1_copy_38 rfl (lv_at hl 0 rfl) ?_
  refine bk_get (wf := cw) (q0 := 34) (ci := 1) (k := 3) (v := .ref (g.2.2 46)) C hP wl_X1 rfl rfl (by decide) wa_103 rfl rfl dX1_copy_39 ?_
  refine lv_iconst (v := (0 : Int32)) hx hb dX1_copy_42 (by decide) ?_
  refine lv_iconst (v := (3 : Int32)) hx hb dX1_copy_43 (by decide) ?_
  obtain ⟨σ4, eσ4, hf⟩ := bd_s hf
  refine bk_copy (wf := cw) (σ1 := σ4) (q0 := 33) (q1 := 46) (n0 := 3) (n1 := 3) (js := 0) (jd := 0) (jn := 3) C hP hD hS hl.1 wa_1426 wa_441 wa_442 wa_443 rfl rfl (by decide) (by decide) (by decide) (by decide) (by decide) (by decide) (Nat.le_of_ble_eq_true rfl) (Nat.le_of_ble_eq_true rfl) (Nat.le_of_ble_eq_true rfl) (Nat.le_of_ble_eq_true rfl) (by rw [eσ4]; exact cw_r46 g _ _) dX1_copy_44 (fun H locs hP hD hS => ?_)
  cases hf
  exact bk_vret C hP hD hS rfl dX1_copy_47
theorem c_X1_copy_34_21 {N : Nat} {σ : Sg} {z : Sg} (hX : xOK g X) (hf : f_X1_copy_34_21 N σ = some z) : MetV l yX1_copy (Cond.code yX1_copy cX1_copy 2 none :: wsA) rm_X1_copy_34_21 cw g X [.ref (g.2.2 34), .ref (g.2.2 21)] σ z :=
  MetV_of hX (by decide) (Nat.le_of_ble_eq_true rfl) (fun p e s m args below meth c A C => b_X1_copy_34_21 C hf)
-- X11_image_0: image()V
abbrev rm_X11_image_0 : Room := { frames := 4, cells := 0, slots := 0, locals := 143 }
theorem nd_X11_image : yX11_image.cls ≠ "java/lang/invoke/MethodHandle" ∧ yX11_image.cls ≠ "java/lang/invoke/VarHandle" ∧ (parseMethodDescriptor yX11_image.desc).map (fun d => d.parameters.length) = some 0 := by decide +kernel
def f_X11_image_0 (N : Nat) (σ : Sg) : Option (Sg) :=
(f_X1_copy_34_21 N σ).bind fun q1 =>
bd (wr q1 0 6 (1 : Int32)) fun σ2 =>
some σ2
set_option maxHeartbeats 4000000 in
set_option maxRecDepth 100000 in
theorem b_X11_image_0 {N : Nat} {σ : Sg} {z : Sg} (C : Cx p s m args meth c cX11_image 1 none RX11 g A X) (hf : f_X11_image_0 N σ = some z) : Bk cw p l e rm_X11_image_0 s m args below meth c 1 g A (MQ below (qV cw g A z) args s 0 0 A) 0 0 0 [(0, .ref (g.2.2 0))] [] σ := by
  obtain ⟨hx, hb, hr, hml, hown, hts, hK, hlocks, hXX, hA, hXo⟩ := id C
  intro H locs ls hP hD hS hl
  unfold f_X11_image_0 at hf
  refine lv_aload_n hx hb dX11_image_0 rfl (lv_at hl 0 rfl) ?_
  refine bk_get (wf := cw) (q0 := 0) (ci := 10) (k := 5) (v := .ref (g.2.2 34)) C hP wl_X11 rfl rfl (by decide) wa_28 rfl rfl dX11_image_1 ?_
  refine lv_aload_n hx hb dX11_image_4 rfl (lv_at hl 0 rfl) ?_
  refine bk_get (wf := cw) (q0 := 0) (ci := 10) (k := 4) (v := .ref (g.2.2 21)) C hP wl_X11 rfl rfl (by decide) wa_27 rfl rfl dX11_image_5 ?_
  obtain ⟨q1, hq1, hf⟩ := bi_s hf
  refine bk_VV (wf := cw) (q0 := 34) (ci := 1) (rest := []) [.ref (g.2.2 21)] C hP hD hS hl.1 (c_X1_copy_34_21 hXo hq1) (cwA_V 1 hts wa_1425 wa_1422 wa_1423 wa_1424 wa_26 rfl rfl nd_X1_copy ⟨Nat.le_of_ble_eq_true rfl, Nat.le_of_ble_eq_true rfl⟩) rfl rfl rfl rfl (Nat.le_of_ble_eq_true rfl) dX11_image_8 ⟨Nat.le_of_ble_eq_true rfl, Nat.le_of_ble_eq_true rfl⟩ (fun H locs hP hD hS => ?_)
  refine lv_aload_n hx hb dX11_image_11 rfl (lv_at hl 0 rfl) ?_
  refine lv_iconst (v := (1 : Int32)) hx hb dX11_image_12 (by decide) ?_
  obtain ⟨σ2, eσ2, hf⟩ := bd_s hf
  refine bk_put (wf := cw) (σ1 := σ2) (q0 := 0) (ci := 10) (k := 6) (v := .int (1 : Int32)) C hP hD hS wl_X11 tyX11_ok nmX11 rfl rfl (by decide) wa_29 rfl rfl rfl rfl rfl (Nat.le_of_ble_eq_true rfl) (by rw [eσ2]; exact cw_p0_6 g _ _) dX11_image_13 (fun H locs hP hD hS => ?_)
  cases hf
  exact bk_vret C hP hD hS rfl dX11_image_16
theorem c_X11_image_0 {N : Nat} {σ : Sg} {z : Sg} (hX : xOK g X) (hf : f_X11_image_0 N σ = some z) : MetV l yX11_image (Cond.code yX11_image cX11_image 1 none :: wsA) rm_X11_image_0 cw g X [.ref (g.2.2 0)] σ z :=
  MetV_of hX (by decide) (Nat.le_of_ble_eq_true rfl) (fun p e s m args below meth c A C => b_X11_image_0 C hf)
-- X11_copyFarms_36_23: copyFarms([I[I)V
abbrev rm_X11_copyFarms_36_23 : Room := { frames := 1, cells := 0, slots := 0, locals := 80 }
def f_X11_copyFarms_36_23 (N : Nat) (σ : Sg) : Option (Sg) :=
bd (wrR σ 23 (va_cpy (σ 36) (σ 23) 0 0 9)) fun σ1 =>
some σ1
set_option maxHeartbeats 4000000 in
set_option maxRecDepth 100000 in
theorem b_X11_copyFarms_36_23 {N : Nat} {σ : Sg} {z : Sg} (C : Cx p s m args meth c cX11_copyFarms 2 none RX11 g A X) (hf : f_X11_copyFarms_36_23 N σ = some z) : Bk cw p l e rm_X11_copyFarms_36_23 s m args below meth c 2 g A (MQ below (qV cw g A z) args s 0 0 A) 0 0 0 [(0, .ref (g.2.2 36)), (1, .ref (g.2.2 23))] [] σ := by
  obtain ⟨hx, hb, hr, hml, hown, hts, hK, hlocks, hXX, hA, hXo⟩ := id C
  intro H locs ls hP hD hS hl
  unfold f_X11_copyFarms_36_23 at hf
  refine lv_aload_n hx hb dX11_copyFarms_0 rfl (lv_at hl 0 rfl) ?_
  refine lv_iconst (v := (0 : Int32)) hx hb dX11_copyFarms_1 (by decide) ?_
  refine lv_aload_n hx hb dX11_copyFarms_2 rfl (lv_at hl 1 rfl) ?_
  refine lv_iconst (v := (0 : Int32)) hx hb dX11_copyFarms_3 (by decide) ?_
  refine lv_bipush (v := (9 : Int32)) hx hb dX11_copyFarms_4 (by decide) ?_
  obtain ⟨σ1, eσ1, hf⟩ := bd_s hf
  refine bk_copy (wf := cw) (σ1 := σ1) (q0 := 36) (q1 := 23) (n0 := 9) (n1 := 9) (js := 0) (jd := 0) (jn := 9) C hP hD hS hl.1 wa_446 wa_441 wa_442 wa_443 rfl rfl (by decide) (by decide) (by decide) (by decide) (by decide) (by decide) (Nat.le_of_ble_eq_true rfl) (Nat.le_of_ble_eq_true rfl) (Nat.le_of_ble_eq_true rfl) (Nat.le_of_ble_eq_true rfl) (by rw [eσ1]; exact cw_r23 g _ _) dX11_copyFarms_6 (fun H locs hP hD hS => ?_)
  cases hf
  exact bk_vret C hP hD hS rfl dX11_copyFarms_9
theorem c_X11_copyFarms_36_23 {N : Nat} {σ : Sg} {z : Sg} (hX : xOK g X) (hf : f_X11_copyFarms_36_23 N σ = some z) : MetV l yX11_copyFarms (Cond.code yX11_copyFarms cX11_copyFarms 2 none :: wsA) rm_X11_copyFarms_36_23 cw g X [.ref (g.2.2 36), .ref (g.2.2 23)] σ z :=
  MetV_of hX (by decide) (Nat.le_of_ble_eq_true rfl) (fun p e s m args below meth c A C => b_X11_copyFarms_36_23 C hf)
-- X11_copyFarms_37_24: copyFarms([I[I)V
abbrev rm_X11_copyFarms_37_24 : Room := { frames := 1, cells := 0, slots := 0, locals := 80 }
def f_X11_copyFarms_37_24 (N : Nat) (σ : Sg) : Option (Sg) :=
bd (wrR σ 24 (va_cpy (σ 37) (σ 24) 0 0 9)) fun σ1 =>
some σ1
set_option maxHeartbeats 4000000 in
set_option maxRecDepth 100000 in
theorem b_X11_copyFarms_37_24 {N : Nat} {σ : Sg} {z : Sg} (C : Cx p s m args meth c cX11_copyFarms 2 none RX11 g A X) (hf : f_X11_copyFarms_37_24 N σ = some z) : Bk cw p l e rm_X11_copyFarms_37_24 s m args below meth c 2 g A (MQ below (qV cw g A z) args s 0 0 A) 0 0 0 [(0, .ref (g.2.2 37)), (1, .ref (g.2.2 24))] [] σ := by
  obtain ⟨hx, hb, hr, hml, hown, hts, hK, hlocks, hXX, hA, hXo⟩ := id C
  intro H locs ls hP hD hS hl
  unfold f_X11_copyFarms_37_24 at hf
  refine lv_aload_n hx hb dX11_copyFarms_0 rfl (lv_at hl 0 rfl) ?_
  refine lv_iconst (v := (0 : Int32)) hx hb dX11_copyFarms_1 (by decide) ?_
  refine lv_aload_n hx hb dX11_copyFarms_2 rfl (lv_at hl 1 rfl) ?_
  refine lv_iconst (v := (0 : Int32)) hx hb dX11_copyFarms_3 (by decide) ?_
  refine lv_bipush (v := (9 : Int32)) hx hb dX11_copyFarms_4 (by decide) ?_
  obtain ⟨σ1, eσ1, hf⟩ := bd_s hf
  refine bk_copy (wf := cw) (σ1 := σ1) (q0 := 37) (q1 := 24) (n0 := 9) (n1 := 9) (js := 0) (jd := 0) (jn := 9) C hP hD hS hl.1 wa_446 wa_441 wa_442 wa_443 rfl rfl (by decide) (by decide) (by decide) (by decide) (by decide) (by decide) (Nat.le_of_ble_eq_true rfl) (Nat.le_of_ble_eq_true rfl) (Nat.le_of_ble_eq_true rfl) (Nat.le_of_ble_eq_true rfl) (by rw [eσ1]; exact cw_r24 g _ _) dX11_copyFarms_6 (fun H locs hP hD hS => ?_)
  cases hf
  exact bk_vret C hP hD hS rfl dX11_copyFarms_9
theorem c_X11_copyFarms_37_24 {N : Nat} {σ : Sg} {z : Sg} (hX : xOK g X) (hf : f_X11_copyFarms_37_24 N σ = some z) : MetV l yX11_copyFarms (Cond.code yX11_copyFarms cX11_copyFarms 2 none :: wsA) rm_X11_copyFarms_37_24 cw g X [.ref (g.2.2 37), .ref (g.2.2 24)] σ z :=
  MetV_of hX (by decide) (Nat.le_of_ble_eq_true rfl) (fun p e s m args below meth c A C => b_X11_copyFarms_37_24 C hf)
-- X11_copyFarms_38_25: copyFarms([I[I)V
abbrev rm_X11_copyFarms_38_25 : Room := { frames := 1, cells := 0, slots := 0, locals := 80 }
def f_X11_copyFarms_38_25 (N : Nat) (σ : Sg) : Option (Sg) :=
bd (wrR σ 25 (va_cpy (σ 38) (σ 25) 0 0 9)) fun σ1 =>
some σ1
set_option maxHeartbeats 4000000 in
set_option maxRecDepth 100000 in
theorem b_X11_copyFarms_38_25 {N : Nat} {σ : Sg} {z : Sg} (C : Cx p s m args meth c cX11_copyFarms 2 none RX11 g A X) (hf : f_X11_copyFarms_38_25 N σ = some z) : Bk cw p l e rm_X11_copyFarms_38_25 s m args below meth c 2 g A (MQ below (qV cw g A z) args s 0 0 A) 0 0 0 [(0, .ref (g.2.2 38)), (1, .ref (g.2.2 25))] [] σ := by
  obtain ⟨hx, hb, hr, hml, hown, hts, hK, hlocks, hXX, hA, hXo⟩ := id C
  intro H locs ls hP hD hS hl
  unfold f_X11_copyFarms_38_25 at hf
  refine lv_aload_n hx hb dX11_copyFarms_0 rfl (lv_at hl 0 rfl) ?_
  refine lv_iconst (v := (0 : Int32)) hx hb dX11_copyFarms_1 (by decide) ?_
  refine lv_aload_n hx hb dX11_copyFarms_2 rfl (lv_at hl 1 rfl) ?_
  refine lv_iconst (v := (0 : Int32)) hx hb dX11_copyFarms_3 (by decide) ?_
  refine lv_bipush (v := (9 : Int32)) hx hb dX11_copyFarms_4 (by decide) ?_
  obtain ⟨σ1, eσ1, hf⟩ := bd_s hf
  refine bk_copy (wf := cw) (σ1 := σ1) (q0 := 38) (q1 := 25) (n0 := 9) (n1 := 9) (js := 0) (jd := 0) (jn := 9) C hP hD hS hl.1 wa_446 wa_441 wa_442 wa_443 rfl rfl (by decide) (by decide) (by decide) (by decide) (by decide) (by decide) (Nat.le_of_ble_eq_true rfl) (Nat.le_of_ble_eq_true rfl) (Nat.le_of_ble_eq_true rfl) (Nat.le_of_ble_eq_true rfl) (by rw [eσ1]; exact cw_r25 g _ _) dX11_copyFarms_6 (fun H locs hP hD hS => ?_)
  cases hf
  exact bk_vret C hP hD hS rfl dX11_copyFarms_9
theorem c_X11_copyFarms_38_25 {N : Nat} {σ : Sg} {z : Sg} (hX : xOK g X) (hf : f_X11_copyFarms_38_25 N σ = some z) : MetV l yX11_copyFarms (Cond.code yX11_copyFarms cX11_copyFarms 2 none :: wsA) rm_X11_copyFarms_38_25 cw g X [.ref (g.2.2 38), .ref (g.2.2 25)] σ z :=
  MetV_of hX (by decide) (Nat.le_of_ble_eq_true rfl) (fun p e s m args below meth c A C => b_X11_copyFarms_38_25 C hf)
-- X11_copyFarms_39_26: copyFarms([I[I)V
abbrev rm_X11_copyFarms_39_26 : Room := { frames := 1, cells := 0, slots := 0, locals := 80 }
def f_X11_copyFarms_39_26 (N : Nat) (σ : Sg) : Option (Sg) :=
bd (wrR σ 26 (va_cpy (σ 39) (σ 26) 0 0 9)) fun σ1 =>
some σ1
set_option maxHeartbeats 4000000 in
set_option maxRecDepth 100000 in
theorem b_X11_copyFarms_39_26 {N : Nat} {σ : Sg} {z : Sg} (C : Cx p s m args meth c cX11_copyFarms 2 none RX11 g A X) (hf : f_X11_copyFarms_39_26 N σ = some z) : Bk cw p l e rm_X11_copyFarms_39_26 s m args below meth c 2 g A (MQ below (qV cw g A z) args s 0 0 A) 0 0 0 [(0, .ref (g.2.2 39)), (1, .ref (g.2.2 26))] [] σ := by
  obtain ⟨hx, hb, hr, hml, hown, hts, hK, hlocks, hXX, hA, hXo⟩ := id C
  intro H locs ls hP hD hS hl
  unfold f_X11_copyFarms_39_26 at hf
  refine lv_aload_n hx hb dX11_copyFarms_0 rfl (lv_at hl 0 rfl) ?_
  refine lv_iconst (v := (0 : Int32)) hx hb dX11_copyFarms_1 (by decide) ?_
  refine lv_aload_n hx hb dX11_copyFarms_2 rfl (lv_at hl 1 rfl) ?_
  refine lv_iconst (v := (0 : Int32)) hx hb dX11_copyFarms_3 (by decide) ?_
  refine lv_bipush (v := (9 : Int32)) hx hb dX11_copyFarms_4 (by decide) ?_
  obtain ⟨σ1, eσ1, hf⟩ := bd_s hf
  refine bk_copy (wf := cw) (σ1 := σ1) (q0 := 39) (q1 := 26) (n0 := 9) (n1 := 9) (js := 0) (jd := 0) (jn := 9) C hP hD hS hl.1 wa_446 wa_441 wa_442 wa_443 rfl rfl (by decide) (by decide) (by decide) (by decide) (by decide) (by decide) (Nat.le_of_ble_eq_true rfl) (Nat.le_of_ble_eq_true rfl) (Nat.le_of_ble_eq_true rfl) (Nat.le_of_ble_eq_true rfl) (by rw [eσ1]; exact cw_r26 g _ _) dX11_copyFarms_6 (fun H locs hP hD hS => ?_)
  cases hf
  exact bk_vret C hP hD hS rfl dX11_copyFarms_9
theorem c_X11_copyFarms_39_26 {N : Nat} {σ : Sg} {z : Sg} (hX : xOK g X) (hf : f_X11_copyFarms_39_26 N σ = some z) : MetV l yX11_copyFarms (Cond.code yX11_copyFarms cX11_copyFarms 2 none :: wsA) rm_X11_copyFarms_39_26 cw g X [.ref (g.2.2 39), .ref (g.2.2 26)] σ z :=
  MetV_of hX (by decide) (Nat.le_of_ble_eq_true rfl) (fun p e s m args below meth c A C => b_X11_copyFarms_39_26 C hf)
-- X7_copy_22_35: copy(LNodPost$State;)V
abbrev rm_X7_copy_22_35 : Room := { frames := 2, cells := 0, slots := 0, locals := 101 }
def f_X7_copy_22_35 (N : Nat) (σ : Sg) : Option (Sg) :=
bd (wr σ 22 0 (σ 35 0)) fun σ1 =>
bd (wr σ1 22 1 (σ1 35 1)) fun σ2 =>
(f_X11_copyFarms_36_23 N σ2).bind fun q3 =>
(f_X11_copyFarms_37_24 N q3).bind fun q4 =>
(f_X11_copyFarms_38_25 N q4).bind fun q5 =>
(f_X11_copyFarms_39_26 N q5).bind fun q6 =>
some q6
set_option maxHeartbeats 4000000 in
set_option maxRecDepth 100000 in
theorem b_X7_copy_22_35 {N : Nat} {σ : Sg} {z : Sg} (C : Cx p s m args meth c cX7_copy 2 none RX7 g A X) (hf : f_X7_copy_22_35 N σ = some z) : Bk cw p l e rm_X7_copy_22_35 s m args below meth c 2 g A (MQ below (qV cw g A z) args s 0 0 A) 0 0 0 [(0, .ref (g.2.2 22)), (1, .ref (g.2.2 35))] [] σ := by
  obtain ⟨hx, hb, hr, hml, hown, hts, hK, hlocks, hXX, hA, hXo⟩ := id C
  intro H locs ls hP hD hS hl
  unfold f_X7_copy_22_35 at hf
  refine lv_aload_n hx hb dX7_copy_0 rfl (lv_at hl 0 rfl) ?_
  refine lv_aload_n hx hb dX7_copy_1 rfl (lv_at hl 1 rfl) ?_
  refine bk_get (wf := cw) (q0 := 35) (ci := 7) (k := 0) (v := .int (σ 35 0)) C hP wl_X7 rfl rfl (by decide) wa_107 rfl rfl dX7_copy_2 ?_
  obtain ⟨σ1, eσ1, hf⟩ := bd_s hf
  refine bk_put (wf := cw) (σ1 := σ1) (q0 := 22) (ci := 7) (k := 0) (v := .int (σ 35 0)) C hP hD hS wl_X7 tyX7_ok nmX7 rfl rfl (by decide) wa_107 rfl rfl rfl rfl rfl (Nat.le_of_ble_eq_true rfl) (by rw [eσ1]; exact cw_p22_0 g _ _) dX7_copy_5 (fun H locs hP hD hS => ?_)
  refine lv_aload_n hx hb dX7_copy_8 rfl (lv_at hl 0 rfl) ?_
  refine lv_aload_n hx hb dX7_copy_9 rfl (lv_at hl 1 rfl) ?_
  refine bk_get (wf := cw) (q0 := 35) (ci := 7) (k := 1) (v := .int (σ1 35 1)) C hP wl_X7 rfl rfl (by decide) wa_108 rfl rfl dX7_copy_10 ?_
  obtain ⟨σ2, eσ2, hf⟩ := bd_s hf
  refine bk_put (wf := cw) (σ1 := σ2) (q0 := 22) (ci := 7) (k := 1) (v := .int (σ1 35 1)) C hP hD hS wl_X7 tyX7_ok nmX7 rfl rfl (by decide) wa_108 rfl rfl rfl rfl rfl (Nat.le_of_ble_eq_true rfl) (by rw [eσ2]; exact cw_p22_1 g _ _) dX7_copy_13 (fun H locs hP hD hS => ?_)
  refine lv_aload_n hx hb dX7_copy_16 rfl (lv_at hl 1 rfl) ?_
  refine bk_get (wf := cw) (q0 := 35) (ci := 7) (k := 2) (v := .ref (g.2.2 36)) C hP wl_X7 rfl rfl (by decide) wa_109 rfl rfl dX7_copy_17 ?_
  refine lv_aload_n hx hb dX7_copy_20 rfl (lv_at hl 0 rfl) ?_
  refine bk_get (wf := cw) (q0 := 22) (ci := 7) (k := 2) (v := .ref (g.2.2 23)) C hP wl_X7 rfl rfl (by decide) wa_109 rfl rfl dX7_copy_21 ?_
  obtain ⟨q3, hq3, hf⟩ := bi_s hf
  refine bk_NV (wf := cw) (rest := []) [.ref (g.2.2 36), .ref (g.2.2 23)] C hP hD hS hl.1 (c_X11_copyFarms_36_23 hXo hq3) wa_445 wa_444 wa_2 (hXo.2.2.2 _ _ _ hXX).1.1 rfl rfl nd_X11_copyFarms ⟨Nat.le_of_ble_eq_true rfl, Nat.le_of_ble_eq_true rfl⟩ rfl rfl (Nat.le_of_ble_eq_true rfl) dX7_copy_24 ⟨Nat.le_of_ble_eq_true rfl, Nat.le_of_ble_eq_true rfl⟩ (fun H locs hP hD hS => ?_)
  refine lv_aload_n hx hb dX7_copy_27 rfl (lv_at hl 1 rfl) ?_
  refine bk_get (wf := cw) (q0 := 35) (ci := 7) (k := 3) (v := .ref (g.2.2 37)) C hP wl_X7 rfl rfl (by decide) wa_110 rfl rfl dX7_copy_28 ?_
  refine lv_aload_n hx hb dX7_copy_31 rfl (lv_at hl 0 rfl) ?_
  refine bk_get (wf := cw) (q0 := 22) (ci := 7) (k := 3) (v := .ref (g.2.2 24)) C hP wl_X7 rfl rfl (by decide) wa_110 rfl rfl dX7_copy_32 ?_
  obtain ⟨q4, hq4, hf⟩ := bi_s hf
  refine bk_NV (wf := cw) (rest := []) [.ref (g.2.2 37), .ref (g.2.2 24)] C hP hD hS hl.1 (c_X11_copyFarms_37_24 hXo hq4) wa_445 wa_444 wa_2 (hXo.2.2.2 _ _ _ hXX).1.1 rfl rfl nd_X11_copyFarms ⟨Nat.le_of_ble_eq_true rfl, Nat.le_of_ble_eq_true rfl⟩ rfl rfl (Nat.le_of_ble_eq_true rfl) dX7_copy_35 ⟨Nat.le_of_ble_eq_true rfl, Nat.le_of_ble_eq_true rfl⟩ (fun H locs hP hD hS => ?_)
  refine lv_aload_n hx hb dX7_copy_38 rfl (lv_at hl 1 rfl) ?_
  refine bk_get (wf := cw) (q0 := 35) (ci := 7) (k := 4) (v := .ref (g.2.2 38)) C hP wl_X7 rfl rfl (by decide) wa_111 rfl rfl dX7_copy_39 ?_
  refine lv_aload_n hx hb dX7_copy_42 rfl (lv_at hl 0 rfl) ?_
  refine bk_get (wf := cw) (q0 := 22) (ci := 7) (k := 4) (v := .ref (g.2.2 25)) C hP wl_X7 rfl rfl (by decide) wa_111 rfl rfl dX7_copy_43 ?_
  obtain ⟨q5, hq5, hf⟩ := bi_s hf
  refine bk_NV (wf := cw) (rest := []) [.ref (g.2.2 38), .ref (g.2.2 25)] C hP hD hS hl.1 (c_X11_copyFarms_38_25 hXo hq5) wa_445 wa_444 wa_2 (hXo.2.2.2 _ _ _ hXX).1.1 rfl rfl nd_X11_copyFarms ⟨Nat.le_of_ble_eq_true rfl, Nat.le_of_ble_eq_true rfl⟩ rfl rfl (Nat.le_of_ble_eq_true rfl) dX7_copy_46 ⟨Nat.le_of_ble_eq_true rfl, Nat.le_of_ble_eq_true rfl⟩ (fun H locs hP hD hS => ?_)
  refine lv_aload_n hx hb dX7_copy_49 rfl (lv_at hl 1 rfl) ?_
  refine bk_get (wf := cw) (q0 := 35) (ci := 7) (k := 5) (v := .ref (g.2.2 39)) C hP wl_X7 rfl rfl (by decide) wa_112 rfl rfl dX7_copy_50 ?_
  refine lv_aload_n hx hb dX7_copy_53 rfl (lv_at hl 0 rfl) ?_
  refine bk_get (wf := cw) (q0 := 22) (ci := 7) (k := 5) (v := .ref (g.2.2 26)) C hP wl_X7 rfl rfl (by decide) wa_112 rfl rfl dX7_copy_54 ?_
  obtain ⟨q6, hq6, hf⟩ := bi_s hf
  refine bk_NV (wf := cw) (rest := []) [.ref (g.2.2 39), .ref (g.2.2 26)] C hP hD hS hl.1 (c_X11_copyFarms_39_26 hXo hq6) wa_445 wa_444 wa_2 (hXo.2.2.2 _ _ _ hXX).1.1 rfl rfl nd_X11_copyFarms ⟨Nat.le_of_ble_eq_true rfl, Nat.le_of_ble_eq_true rfl⟩ rfl rfl (Nat.le_of_ble_eq_true rfl) dX7_copy_57 ⟨Nat.le_of_ble_eq_true rfl, Nat.le_of_ble_eq_true rfl⟩ (fun H locs hP hD hS => ?_)
  cases hf
  exact bk_vret C hP hD hS rfl dX7_copy_60
theorem c_X7_copy_22_35 {N : Nat} {σ : Sg} {z : Sg} (hX : xOK g X) (hf : f_X7_copy_22_35 N σ = some z) : MetV l yX7_copy (Cond.code yX7_copy cX7_copy 2 none :: wsA) rm_X7_copy_22_35 cw g X [.ref (g.2.2 22), .ref (g.2.2 35)] σ z :=
  MetV_of hX (by decide) (Nat.le_of_ble_eq_true rfl) (fun p e s m args below meth c A C => b_X7_copy_22_35 C hf)
-- X0_copy_27_40: copy(LNodPost$Acts;)V
abbrev rm_X0_copy_27_40 : Room := { frames := 1, cells := 0, slots := 0, locals := 80 }
def f_X0_copy_27_40 (N : Nat) (σ : Sg) : Option (Sg) :=
bd (wr σ 27 0 (σ 40 0)) fun σ1 =>
bd (wr σ1 27 1 (σ1 40 1)) fun σ2 =>
bd (wrR σ2 28 (va_cpy (σ2 41) (σ2 28) 0 0 1520)) fun σ3 =>
some σ3
set_option maxHeartbeats 4000000 in
set_option maxRecDepth 100000 in
theorem b_X0_copy_27_40 {N : Nat} {σ : Sg} {z : Sg} (C : Cx p s m args meth c cX0_copy 2 none RX0 g A X) (hf : f_X0_copy_27_40 N σ = some z) : Bk cw p l e rm_X0_copy_27_40 s m args below meth c 2 g A (MQ below (qV cw g A z) args s 0 0 A) 0 0 0 [(0, .ref (g.2.2 27)), (1, .ref (g.2.2 40))] [] σ := by
  obtain ⟨hx, hb, hr, hml, hown, hts, hK, hlocks, hXX, hA, hXo⟩ := id C
  intro H locs ls hP hD hS hl
  unfold f_X0_copy_27_40 at hf
  refine lv_aload_n hx hb dX0_copy_0 rfl (lv_at hl 0 rfl) ?_
  refine lv_aload_n hx hb dX0_copy_1 rfl (lv_at hl 1 rfl) ?_
  refine bk_get (wf := cw) (q0 := 40) (ci := 0) (k := 0) (v := .int (σ 40 0)) C hP wl_X0 rfl rfl (by decide) wa_116 rfl rfl dX0_copy_2 ?_
  obtain ⟨σ1, eσ1, hf⟩ := bd_s hf
  refine bk_put (wf := cw) (σ1 := σ1) (q0 := 27) (ci := 0) (k := 0) (v := .int (σ 40 0)) C hP hD hS wl_X0 tyX0_ok nmX0 rfl rfl (by decide) wa_116 rfl rfl rfl rfl rfl (Nat.le_of_ble_eq_true rfl) (by rw [eσ1]; exact cw_p27_0 g _ _) dX0_copy_5 (fun H locs hP hD hS => ?_)
  refine lv_aload_n hx hb dX0_copy_8 rfl (lv_at hl 0 rfl) ?_
  refine lv_aload_n hx hb dX0_copy_9 rfl (lv_at hl 1 rfl) ?_
  refine bk_get (wf := cw) (q0 := 40) (ci := 0) (k := 1) (v := .int (σ1 40 1)) C hP wl_X0 rfl rfl (by decide) wa_117 rfl rfl dX0_copy_10 ?_
  obtain ⟨σ2, eσ2, hf⟩ := bd_s hf
  refine bk_put (wf := cw) (σ1 := σ2) (q0 := 27) (ci := 0) (k := 1) (v := .int (σ1 40 1)) C hP hD hS wl_X0 tyX0_ok nmX0 rfl rfl (by decide) wa_117 rfl rfl rfl rfl rfl (Nat.le_of_ble_eq_true rfl) (by rw [eσ2]; exact cw_p27_1 g _ _) dX0_copy_13 (fun H locs hP hD hS => ?_)
  refine lv_aload_n hx hb dX0_copy_16 rfl (lv_at hl 1 rfl) ?_
  refine bk_get (wf := cw) (q0 := 40) (ci := 0) (k := 2) (v := .ref (g.2.2 41)) C hP wl_X0 rfl rfl (by decide) wa_118 rfl rfl dX0_copy_17 ?_
  refine lv_iconst (v := (0 : Int32)) hx hb dX0_copy_20 (by decide) ?_
  refine lv_aload_n hx hb dX0_copy_21 rfl (lv_at hl 0 rfl) ?_
  refine bk_get (wf := cw) (q0 := 27) (ci := 0) (k := 2) (v := .ref (g.2.2 28)) C hP wl_X0 rfl rfl (by decide) wa_118 rfl rfl dX0_copy_22 ?_
  refine lv_iconst (v := (0 : Int32)) hx hb dX0_copy_25 (by decide) ?_
  refine lv_sipush (v := (1520 : Int32)) hx hb dX0_copy_26 (by decide) ?_
  obtain ⟨σ3, eσ3, hf⟩ := bd_s hf
  refine bk_copy (wf := cw) (σ1 := σ3) (q0 := 41) (q1 := 28) (n0 := 1520) (n1 := 1520) (js := 0) (jd := 0) (jn := 1520) C hP hD hS hl.1 wa_1432 wa_441 wa_442 wa_443 rfl rfl (by decide) (by decide) (by decide) (by decide) (by decide) (by decide) (Nat.le_of_ble_eq_true rfl) (Nat.le_of_ble_eq_true rfl) (Nat.le_of_ble_eq_true rfl) (Nat.le_of_ble_eq_true rfl) (by rw [eσ3]; exact cw_r28 g _ _) dX0_copy_29 (fun H locs hP hD hS => ?_)
  cases hf
  exact bk_vret C hP hD hS rfl dX0_copy_32
theorem c_X0_copy_27_40 {N : Nat} {σ : Sg} {z : Sg} (hX : xOK g X) (hf : f_X0_copy_27_40 N σ = some z) : MetV l yX0_copy (Cond.code yX0_copy cX0_copy 2 none :: wsA) rm_X0_copy_27_40 cw g X [.ref (g.2.2 27), .ref (g.2.2 40)] σ z :=
  MetV_of hX (by decide) (Nat.le_of_ble_eq_true rfl) (fun p e s m args below meth c A C => b_X0_copy_27_40 C hf)
-- X5_copy_29_42: copy(LNodPost$Seen;)V
abbrev rm_X5_copy_29_42 : Room := { frames := 1, cells := 0, slots := 0, locals := 80 }
def f_X5_copy_29_42 (N : Nat) (σ : Sg) : Option (Sg) :=
bd (wr σ 29 0 (σ 42 0)) fun σ1 =>
bd (wrR σ1 30 (va_cpy (σ1 43) (σ1 30) 0 0 8)) fun σ2 =>
bd (wrR σ2 31 (va_cpy (σ2 44) (σ2 31) 0 0 8)) fun σ3 =>
bd (wrR σ3 32 (va_cpy (σ3 45) (σ3 32) 0 0 8)) fun σ4 =>
some σ4
set_option maxHeartbeats 4000000 in
set_option maxRecDepth 100000 in
theorem b_X5_copy_29_42 {N : Nat} {σ : Sg} {z : Sg} (C : Cx p s m args meth c cX5_copy 2 none RX5 g A X) (hf : f_X5_copy_29_42 N σ = some z) : Bk cw p l e rm_X5_copy_29_42 s m args below meth c 2 g A (MQ below (qV cw g A z) args s 0 0 A) 0 0 0 [(0, .ref (g.2.2 29)), (1, .ref (g.2.2 42))] [] σ := by
  obtain ⟨hx, hb, hr, hml, hown, hts, hK, hlocks, hXX, hA, hXo⟩ := id C
  intro H locs ls hP hD hS hl
  unfold f_X5_copy_29_42 at hf
  refine lv_aload_n hx hb dX5_copy_0 rfl (lv_at hl 0 rfl) ?_
  refine lv_aload_n hx hb dX5_copy_1 rfl (lv_at hl 1 rfl) ?_
  refine bk_get (wf := cw) (q0 := 42) (ci := 5) (k := 0) (v := .int (σ 42 0)) C hP wl_X5 rfl rfl (by decide) wa_122 rfl rfl dX5_copy_2 ?_
  obtain ⟨σ1, eσ1, hf⟩ := bd_s hf
  refine bk_put (wf := cw) (σ1 := σ1) (q0 := 29) (ci := 5) (k := 0) (v := .int (σ 42 0)) C hP hD hS wl_X5 tyX5_ok nmX5 rfl rfl (by decide) wa_122 rfl rfl rfl rfl rfl (Nat.le_of_ble_eq_true rfl) (by rw [eσ1]; exact cw_p29_0 g _ _) dX5_copy_5 (fun H locs hP hD hS => ?_)
  refine lv_aload_n hx hb dX5_copy_8 rfl (lv_at hl 1 rfl) ?_
  refine bk_get (wf := cw) (q0 := 42) (ci := 5) (k := 1) (v := .ref (g.2.2 43)) C hP wl_X5 rfl rfl (by decide) wa_123 rfl rfl dX5_copy_9 ?_
  refine lv_iconst (v := (0 : Int32)) hx hb dX5_copy_12 (by decide) ?_
  refine lv_aload_n hx hb dX5_copy_13 rfl (lv_at hl 0 rfl) ?_
  refine bk_get (wf := cw) (q0 := 29) (ci := 5) (k := 1) (v := .ref (g.2.2 30)) C hP wl_X5 rfl rfl (by decide) wa_123 rfl rfl dX5_copy_14 ?_
  refine lv_iconst (v := (0 : Int32)) hx hb dX5_copy_17 (by decide) ?_
  refine lv_bipush (v := (8 : Int32)) hx hb dX5_copy_18 (by decide) ?_
  obtain ⟨σ2, eσ2, hf⟩ := bd_s hf
  refine bk_copy (wf := cw) (σ1 := σ2) (q0 := 43) (q1 := 30) (n0 := 8) (n1 := 8) (js := 0) (jd := 0) (jn := 8) C hP hD hS hl.1 wa_1437 wa_441 wa_442 wa_443 rfl rfl (by decide) (by decide) (by decide) (by decide) (by decide) (by decide) (Nat.le_of_ble_eq_true rfl) (Nat.le_of_ble_eq_true rfl) (Nat.le_of_ble_eq_true rfl) (Nat.le_of_ble_eq_true rfl) (by rw [eσ2]; exact cw_r30 g _ _) dX5_copy_20 (fun H locs hP hD hS => ?_)
  refine lv_aload_n hx hb dX5_copy_23 rfl (lv_at hl 1 rfl) ?_
  refine bk_get (wf := cw) (q0 := 42) (ci := 5) (k := 2) (v := .ref (g.2.2 44)) C hP wl_X5 rfl rfl (by decide) wa_124 rfl rfl dX5_copy_24 ?_
  refine lv_iconst (v := (0 : Int32)) hx hb dX5_copy_27 (by decide) ?_
  refine lv_aload_n hx hb dX5_copy_28 rfl (lv_at hl 0 rfl) ?_
  refine bk_get (wf := cw) (q0 := 29) (ci := 5) (k := 2) (v := .ref (g.2.2 31)) C hP wl_X5 rfl rfl (by decide) wa_124 rfl rfl dX5_copy_29 ?_
  refine lv_iconst (v := (0 : Int32)) hx hb dX5_copy_32 (by decide) ?_
  refine lv_bipush (v := (8 : Int32)) hx hb dX5_copy_33 (by decide) ?_
  obtain ⟨σ3, eσ3, hf⟩ := bd_s hf
  refine bk_copy (wf := cw) (σ1 := σ3) (q0 := 44) (q1 := 31) (n0 := 8) (n1 := 8) (js := 0) (jd := 0) (jn := 8) C hP hD hS hl.1 wa_1437 wa_441 wa_442 wa_443 rfl rfl (by decide) (by decide) (by decide) (by decide) (by decide) (by decide) (Nat.le_of_ble_eq_true rfl) (Nat.le_of_ble_eq_true rfl) (Nat.le_of_ble_eq_true rfl) (Nat.le_of_ble_eq_true rfl) (by rw [eσ3]; exact cw_r31 g _ _) dX5_copy_35 (fun H locs hP hD hS => ?_)
  refine lv_aload_n hx hb dX5_copy_38 rfl (lv_at hl 1 rfl) ?_
  refine bk_get (wf := cw) (q0 := 42) (ci := 5) (k := 3) (v := .ref (g.2.2 45)) C hP wl_X5 rfl rfl (by decide) wa_125 rfl rfl dX5_copy_39 ?_
  refine lv_iconst (v := (0 : Int32)) hx hb dX5_copy_42 (by decide) ?_
  refine lv_aload_n hx hb dX5_copy_43 rfl (lv_at hl 0 rfl) ?_
  refine bk_get (wf := cw) (q0 := 29) (ci := 5) (k := 3) (v := .ref (g.2.2 32)) C hP wl_X5 rfl rfl (by decide) wa_125 rfl rfl dX5_copy_44 ?_
  refine lv_iconst (v := (0 : Int32)) hx hb dX5_copy_47 (by decide) ?_
  refine lv_bipush (v := (8 : Int32)) hx hb dX5_copy_48 (by decide) ?_
  obtain ⟨σ4, eσ4, hf⟩ := bd_s hf
  refine bk_copy (wf := cw) (σ1 := σ4) (q0 := 45) (q1 := 32) (n0 := 8) (n1 := 8) (js := 0) (jd := 0) (jn := 8) C hP hD hS hl.1 wa_1437 wa_441 wa_442 wa_443 rfl rfl (by decide) (by decide) (by decide) (by decide) (by decide) (by decide) (Nat.le_of_ble_eq_true rfl) (Nat.le_of_ble_eq_true rfl) (Nat.le_of_ble_eq_true rfl) (Nat.le_of_ble_eq_true rfl) (by rw [eσ4]; exact cw_r32 g _ _) dX5_copy_50 (fun H locs hP hD hS => ?_)
  cases hf
  exact bk_vret C hP hD hS rfl dX5_copy_53
theorem c_X5_copy_29_42 {N : Nat} {σ : Sg} {z : Sg} (hX : xOK g X) (hf : f_X5_copy_29_42 N σ = some z) : MetV l yX5_copy (Cond.code yX5_copy cX5_copy 2 none :: wsA) rm_X5_copy_29_42 cw g X [.ref (g.2.2 29), .ref (g.2.2 42)] σ z :=
  MetV_of hX (by decide) (Nat.le_of_ble_eq_true rfl) (fun p e s m args below meth c A C => b_X5_copy_29_42 C hf)
-- X1_copy_21_34: copy(LNodPost$Book;)V
abbrev rm_X1_copy_21_34 : Room := { frames := 3, cells := 0, slots := 0, locals := 122 }
def f_X1_copy_21_34 (N : Nat) (σ : Sg) : Option (Sg) :=
(f_X7_copy_22_35 N σ).bind fun q1 =>
(f_X0_copy_27_40 N q1).bind fun q2 =>
(f_X5_copy_29_42 N q2).bind fun q3 =>
bd (wrR q3 33 (va_cpy (q3 46) (q3 33) 0 0 3)) fun σ4 =>
some σ4
set_option maxHeartbeats 4000000 in
set_option maxRecDepth 100000 in
theorem b_X1_copy_21_34 {N : Nat} {σ : Sg} {z : Sg} (C : Cx p s m args meth c cX1_copy 2 none RX1 g A X) (hf : f_X1_copy_21_34 N σ = some z) : Bk cw p l e rm_X1_copy_21_34 s m args below meth c 2 g A (MQ below (qV cw g A z) args s 0 0 A) 0 0 0 [(0, .ref (g.2.2 21)), (1, .ref (g.2.2 34))] [] σ := by
  obtain ⟨hx, hb, hr, hml, hown, hts, hK, hlocks, hXX, hA, hXo⟩ := id C
  intro H locs ls hP hD hS hl
  unfold f_X1_copy_21_34 at hf
  refine lv_aload_n hx hb dX1_copy_0 rfl (lv_at hl 0 rfl) ?_
  refine bk_get (wf := cw) (q0 := 21) (ci := 1) (k := 0) (v := .ref (g.2.2 22)) C hP wl_X1 rfl rfl (by decide) wa_94 rfl rfl dX1_copy_1 ?_
  refine lv_aload_n hx hb dX1_copy_4 rfl (lv_at hl 1 rfl) ?_
  refine bk_get (wf := cw) (q0 := 34) (ci := 1) (k := 0) (v := .ref (g.2.2 35)) C hP wl_X1 rfl rfl (by decide) wa_94 rfl rfl dX1_copy_5 ?_
  obtain ⟨q1, hq1, hf⟩ := bi_s hf
  refine bk_VV (wf := cw) (q0 := 22) (ci := 7) (rest := []) [.ref (g.2.2 35)] C hP hD hS hl.1 (c_X7_copy_22_35 hXo hq1) (cwA_V 1 hts wa_829 wa_1427 wa_827 wa_828 wa_93 rfl rfl nd_X7_copy ⟨Nat.le_of_ble_eq_true rfl, Nat.le_of_ble_eq_true rfl⟩) rfl rfl rfl rfl (Nat.le_of_ble_eq_true rfl) dX1_copy_8 ⟨Nat.le_of_ble_eq_true rfl, Nat.le_of_ble_eq_true rfl⟩ (fun H locs hP hD hS => ?_)
  refine lv_aload_n hx hb dX1_copy_11 rfl (lv_at hl 0 rfl) ?_
  refine bk_get (wf := cw) (q0 := 21) (ci := 1) (k := 1) (v := .ref (g.2.2 27)) C hP wl_X1 rfl rfl (by decide) wa_98 rfl rfl dX1_copy_12 ?_
  refine lv_aload_n hx hb dX1_copy_15 rfl (lv_at hl 1 rfl) ?_
  refine bk_get (wf := cw) (q0 := 34) (ci := 1) (k := 1) (v := .ref (g.2.2 40)) C hP wl_X1 rfl rfl (by decide) wa_98 rfl rfl dX1_copy_16 ?_
  obtain ⟨q2, hq2, hf⟩ := bi_s hf
  refine bk_VV (wf := cw) (q0 := 27) (ci := 0) (rest := []) [.ref (g.2.2 40)] C hP hD hS hl.1 (c_X0_copy_27_40 hXo hq2) (cwA_V 1 hts wa_1431 wa_1428 wa_1429 wa_1430 wa_97 rfl rfl nd_X0_copy ⟨Nat.le_of_ble_eq_true rfl, Nat.le_of_ble_eq_true rfl⟩) rfl rfl rfl rfl (Nat.le_of_ble_eq_true rfl) dX1_copy_19 ⟨Nat.le_of_ble_eq_true rfl, Nat.le_of_ble_eq_true rfl⟩ (fun H locs hP hD hS => ?_)
  refine lv_aload_n hx hb dX1_copy_22 rfl (lv_at hl 0 rfl) ?_
  refine bk_get (wf := cw) (q0 := 21) (ci := 1) (k := 2) (v := .ref (g.2.2 29)) C hP wl_X1 rfl rfl (by decide) wa_102 rfl rfl dX1_copy_23 ?_
  refine lv_aload_n hx hb dX1_copy_26 rfl (lv_at hl 1 rfl) ?_
  refine bk_get (wf := cw) (q0 := 34) (ci := 1) (k := 2) (v := .ref (g.2.2 42)) C hP wl_X1 rfl rfl (by decide) wa_102 rfl rfl dX1_copy_27 ?_
  obtain ⟨q3, hq3, hf⟩ := bi_s hf
  refine bk_VV (wf := cw) (q0 := 29) (ci := 5) (rest := []) [.ref (g.2.2 42)] C hP hD hS hl.1 (c_X5_copy_29_42 hXo hq3) (cwA_V 1 hts wa_1436 wa_1433 wa_1434 wa_1435 wa_101 rfl rfl nd_X5_copy ⟨Nat.le_of_ble_eq_true rfl, Nat.le_of_ble_eq_true rfl⟩) rfl rfl rfl rfl (Nat.le_of_ble_eq_true rfl) dX1_copy_30 ⟨Nat.le_of_ble_eq_true rfl, Nat.le_of_ble_eq_true rfl⟩ (fun H locs hP hD hS => ?_)
  refine lv_aload_n hx hb dX1_copy_33 rfl (lv_at hl 1 rfl) ?_
  refine bk_get (wf := cw) (q0 := 34) (ci := 1) (k := 3) (v := .ref (g.2.2 46)) C hP wl_X1 rfl rfl (by decide) wa_103 rfl rfl dX1_copy_34 ?_
  refine lv_iconst (v := (0 : Int32)) hx hb dX1_copy_37 (by decide) ?_
  refine lv_aload_n hx hb dX1_copy_38 rfl (lv_at hl 0 rfl) ?_
  refine bk_get (wf := cw) (q0 := 21) (ci := 1) (k := 3) (v := .ref (g.2.2 33)) C hP wl_X1 rfl rfl (by decide) wa_103 rfl rfl dX1_copy_39 ?_
  refine lv_iconst (v := (0 : Int32)) hx hb dX1_copy_42 (by decide) ?_
  refine lv_iconst (v := (3 : Int32)) hx hb dX1_copy_43 (by decide) ?_
  obtain ⟨σ4, eσ4, hf⟩ := bd_s hf
  refine bk_copy (wf := cw) (σ1 := σ4) (q0 := 46) (q1 := 33) (n0 := 3) (n1 := 3) (js := 0) (jd := 0) (jn := 3) C hP hD hS hl.1 wa_1426 wa_441 wa_442 wa_443 rfl rfl (by decide) (by decide) (by decide) (by decide) (by decide) (by decide) (Nat.le_of_ble_eq_true rfl) (Nat.le_of_ble_eq_true rfl) (Nat.le_of_ble_eq_true rfl) (Nat.le_of_ble_eq_true rfl) (by rw [eσ4]; exact cw_r33 g _ _) dX1_copy_44 (fun H locs hP hD hS => ?_)
  cases hf
  exact bk_vret C hP hD hS rfl dX1_copy_47
theorem c_X1_copy_21_34 {N : Nat} {σ : Sg} {z : Sg} (hX : xOK g X) (hf : f_X1_copy_21_34 N σ = some z) : MetV l yX1_copy (Cond.code yX1_copy cX1_copy 2 none :: wsA) rm_X1_copy_21_34 cw g X [.ref (g.2.2 21), .ref (g.2.2 34)] σ z :=
  MetV_of hX (by decide) (Nat.le_of_ble_eq_true rfl) (fun p e s m args below meth c A C => b_X1_copy_21_34 C hf)
-- X11_restore_0: restore()Z
abbrev rm_X11_restore_0 : Room := { frames := 5, cells := 0, slots := 0, locals := 143 }
theorem nd_X11_restore : yX11_restore.cls ≠ "java/lang/invoke/MethodHandle" ∧ yX11_restore.cls ≠ "java/lang/invoke/VarHandle" ∧ (parseMethodDescriptor yX11_restore.desc).map (fun d => d.parameters.length) = some 0 := by decide +kernel
def f_X11_restore_0 (N : Nat) (σ : Sg) : Option (Int32 × Sg) :=
if (σ 0 6) = 0 then (some ((0 : Int32), σ))
else ((f_X1_copy_21_34 N σ).bind fun q1 =>
(f_X6_build_47_26 N q1).bind fun q2 =>
some ((1 : Int32), q2))
set_option maxHeartbeats 4000000 in
set_option maxRecDepth 100000 in
theorem b_X11_restore_0 {N : Nat} {σ : Sg} {z : Int32 × Sg} (C : Cx p s m args meth c cX11_restore 1 (some .boolean) RX11 g A X) (hf : f_X11_restore_0 N σ = some z) : Bk cw p l e rm_X11_restore_0 s m args below meth c 1 g A (MQ below (qI cw g A z.1 z.2) args s 0 0 A) 0 0 0 [(0, .ref (g.2.2 0))] [] σ := by
  obtain ⟨hx, hb, hr, hml, hown, hts, hK, hlocks, hXX, hA, hXo⟩ := id C
  intro H locs ls hP hD hS hl
  unfold f_X11_restore_0 at hf
  refine lv_aload_n hx hb dX11_restore_0 rfl (lv_at hl 0 rfl) ?_
  refine bk_get (wf := cw) (q0 := 0) (ci := 10) (k := 6) (v := .int (σ 0 6)) C hP wl_X11 rfl rfl (by decide) wa_29 rfl rfl dX11_restore_1 ?_
  refine lv_if_ne (tgt := 9) hx hb dX11_restore_4 (by decide) (fun t4 => ?_) (fun t4 => ?_)
  · have hf := (if_neg t4).symm.trans hf
    refine lv_aload_n hx hb dX11_restore_9 rfl (lv_at hl 0 rfl) ?_
    refine bk_get (wf := cw) (q0 := 0) (ci := 10) (k := 4) (v := .ref (g.2.2 21)) C hP wl_X11 rfl rfl (by decide) wa_27 rfl rfl dX11_restore_10 ?_
    refine lv_aload_n hx hb dX11_restore_13 rfl (lv_at hl 0 rfl) ?_
    refine bk_get (wf := cw) (q0 := 0) (ci := 10) (k := 5) (v := .ref (g.2.2 34)) C hP wl_X11 rfl rfl (by decide) wa_28 rfl rfl dX11_restore_14 ?_
    obtain ⟨q1, hq1, hf⟩ := bi_s hf
    refine bk_VV (wf := cw) (q0 := 21) (ci := 1) (rest := []) [.ref (g.2.2 34)] C hP hD hS hl.1 (c_X1_copy_21_34 hXo hq1) (cwA_V 1 hts wa_1425 wa_1422 wa_1423 wa_1424 wa_26 rfl rfl nd_X1_copy ⟨Nat.le_of_ble_eq_true rfl, Nat.le_of_ble_eq_true rfl⟩) rfl rfl rfl rfl (Nat.le_of_ble_eq_true rfl) dX11_restore_17 ⟨Nat.le_of_ble_eq_true rfl, Nat.le_of_ble_eq_true rfl⟩ (fun H locs hP hD hS => ?_)
    refine lv_aload_n hx hb dX11_restore_20 rfl (lv_at hl 0 rfl) ?_
    refine bk_get (wf := cw) (q0 := 0) (ci := 10) (k := 7) (v := .ref (g.2.2 47)) C hP wl_X11 rfl rfl (by decide) wa_33 rfl rfl dX11_restore_21 ?_
    refine lv_aload_n hx hb dX11_restore_24 rfl (lv_at hl 0 rfl) ?_
    refine bk_get (wf := cw) (q0 := 0) (ci := 10) (k := 4) (v := .ref (g.2.2 21)) C hP wl_X11 rfl rfl (by decide) wa_27 rfl rfl dX11_restore_25 ?_
    refine bk_get (wf := cw) (q0 := 21) (ci := 1) (k := 0) (v := .ref (g.2.2 22)) C hP wl_X1 rfl rfl (by decide) wa_221 rfl rfl dX11_restore_28 ?_
    refine bk_get (wf := cw) (q0 := 22) (ci := 7) (k := 5) (v := .ref (g.2.2 26)) C hP wl_X7 rfl rfl (by decide) wa_224 rfl rfl dX11_restore_31 ?_
    obtain ⟨q2, hq2, hf⟩ := bi_s hf
    refine bk_VV (wf := cw) (q0 := 47) (ci := 6) (rest := []) [.ref (g.2.2 26)] C hP hD hS hl.1 (c_X6_build_47_26 hXo hq2) (cwA_V 1 hts wa_472 wa_469 wa_470 wa_471 wa_32 rfl rfl nd_X6_build ⟨Nat.le_of_ble_eq_true rfl, Nat.le_of_ble_eq_true rfl⟩) rfl rfl rfl rfl (Nat.le_of_ble_eq_true rfl) dX11_restore_34 ⟨Nat.le_of_ble_eq_true rfl, Nat.le_of_ble_eq_true rfl⟩ (fun H locs hP hD hS => ?_)
    refine lv_iconst (v := (1 : Int32)) hx hb dX11_restore_37 (by decide) ?_
    cases hf
    exact bk_zret C hP hD hS (by decide) rfl dX11_restore_38
  · have hf := (if_pos t4).symm.trans hf
    refine lv_iconst (v := (0 : Int32)) hx hb dX11_restore_7 (by decide) ?_
    cases hf
    exact bk_zret C hP hD hS (by decide) rfl dX11_restore_8
theorem c_X11_restore_0 {N : Nat} {σ : Sg} {z : Int32 × Sg} (hX : xOK g X) (hf : f_X11_restore_0 N σ = some z) : MetI l yX11_restore (Cond.code yX11_restore cX11_restore 1 (some .boolean) :: wsA) rm_X11_restore_0 cw g X [.ref (g.2.2 0)] σ z.1 z.2 :=
  MetI_of hX (by decide) (Nat.le_of_ble_eq_true rfl) (fun p e s m args below meth c A C => b_X11_restore_0 C hf)
end GEN
