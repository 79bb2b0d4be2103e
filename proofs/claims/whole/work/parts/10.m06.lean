section GEN
variable {p : Program} {l : Launch} {e : Env} {s : State} {m : MethodId} {args : Array Value} {below : List Frame} {meth : Method} {c : Code} {g : WG} {A : Nat → Prop} {X : Xt} {Q : State → Prop}
-- X12_tellGains: tellGains(II)V
abbrev rm_X12_tellGains : Room := { frames := 6, cells := 0, slots := 0, locals := 138 }
theorem nd_X12_tellGains : yX12_tellGains.cls ≠ "java/lang/invoke/MethodHandle" ∧ yX12_tellGains.cls ≠ "java/lang/invoke/VarHandle" ∧ (parseMethodDescriptor yX12_tellGains.desc).map (fun d => d.parameters.length) = some 2 := by decide +kernel
def s_X12_tellGains_h56 (N : Nat) (x1 : Int32) (x2 : Int32) (x3 : Int32) (x4 : Int32) (x5 : Int32) (x6 : Int32) (x7 : Int32) (σ : Sg) : Option (Nat × Int32 × Int32 × Int32 × Int32 × Sg) :=
if (9 : Int32) ≤ x7 then (some (1, x4, x5, x6, 0, σ))
else ((f_X12_aTick N σ).bind fun q1 =>
bd (x4 ||| (q1 0 35)) fun v2 =>
bd (x5 + (((q1 0 35) >>> (x1 &&& 31)) &&& (1 : Int32))) fun v3 =>
bd (x6 + (((q1 0 35) >>> (x2 &&& 31)) &&& (1 : Int32))) fun v4 =>
bd (x7 + (1 : Int32)) fun v5 =>
some (0, v2, v3, v4, v5, q1))
set_option maxHeartbeats 4000000 in
set_option maxRecDepth 100000 in
theorem e_X12_tellGains_h56 {N : Nat} {x1 : Int32} {x2 : Int32} {x3 : Int32} {x4 : Int32} {x5 : Int32} {x6 : Int32} {x7 : Int32} {σ : Sg} {z : Nat × Int32 × Int32 × Int32 × Int32 × Sg} (C : Cx p s m args meth c cX12_tellGains 8 none RX12 g A X) (hf : s_X12_tellGains_h56 N x1 x2 x3 x4 x5 x6 x7 σ = some z) (k0 : z.1 = 0 → Bk mw p l e rm_X12_tellGains s m args below meth c 8 g A Q 0 0 56 [(0, .ref (g.2.2 0)), (1, .int x1), (2, .int x2), (3, .int x3), (4, .int z.2.1), (5, .int z.2.2.1), (6, .int z.2.2.2.1), (7, .int z.2.2.2.2.1)] [] z.2.2.2.2.2) (k : ¬ z.1 = 0 → Bk mw p l e rm_X12_tellGains s m args below meth c 8 g A Q 0 0 108 [(0, .ref (g.2.2 0)), (1, .int x1), (2, .int x2), (3, .int x3), (4, .int z.2.1), (5, .int z.2.2.1), (6, .int z.2.2.2.1)] [] z.2.2.2.2.2) : Bk mw p l e rm_X12_tellGains s m args below meth c 8 g A Q 0 0 56 [(0, .ref (g.2.2 0)), (1, .int x1), (2, .int x2), (3, .int x3), (4, .int x4), (5, .int x5), (6, .int x6), (7, .int x7)] [] σ := by
  obtain ⟨hx, hb, hr, hml, hown, hts, hK, hlocks, hXX, hA, hXo⟩ := id C
  intro H locs ls hP hD hS hl
  unfold s_X12_tellGains_h56 at hf
  refine lv_iload hx hb dX12_tellGains_56 (lv_at hl 7 rfl) ?_
  refine lv_bipush (v := (9 : Int32)) hx hb dX12_tellGains_58 (by decide) ?_
  refine lv_icmp_ge (tgt := 108) hx hb dX12_tellGains_60 (by decide) (fun t60 => ?_) (fun t60 => ?_)
  · have hf := (if_pos t60).symm.trans hf
    cases hf
    exact (k (show ¬ (1 : Nat) = 0 by decide)) H locs ls hP hD hS (lv_sub hl [0, 1, 2, 3, 4, 5, 6] rfl)
  · have hf := (if_neg t60).symm.trans hf
    refine lv_aload_n hx hb dX12_tellGains_63 rfl (lv_at hl 0 rfl) ?_
    obtain ⟨q1, hq1, hf⟩ := bi_s hf
    refine bk_VV (wf := mw) (q0 := 0) (ci := 11) (rest := []) [] C hP hD hS hl.1 (c_X12_aTick hXo hq1) (cwA_V 0 hts wa_903 wa_900 wa_901 wa_902 wa_5 rfl rfl nd_X12_aTick ⟨Nat.le_of_ble_eq_true rfl, Nat.le_of_ble_eq_true rfl⟩) rfl rfl rfl rfl (Nat.le_of_ble_eq_true rfl) dX12_tellGains_64 ⟨Nat.le_of_ble_eq_true rfl, Nat.le_of_ble_eq_true rfl⟩ (fun H locs hP hD hS => ?_)
    refine lv_iload hx hb dX12_tellGains_67 (lv_at hl 4 rfl) ?_
    refine lv_aload_n hx hb dX12_tellGains_69 rfl (lv_at hl 0 rfl) ?_
    refine bk_get (wf := mw) (q0 := 0) (ci := 11) (k := 35) (v := .int (q1 0 35)) C hP wl_X12 rfl rfl (by decide) wa_904 rfl rfl dX12_tellGains_70 ?_
    refine lv_ior hx hb dX12_tellGains_73 ?_
    obtain ⟨v2, ev2, hf⟩ := bd_s hf
    rw [← ev2]
    refine lv_istore (lv' := [(4, .int v2), (0, .ref (g.2.2 0)), (1, .int x1), (2, .int x2), (3, .int x3), (5, .int x5), (6, .int x6), (7, .int x7)]) hx hb dX12_tellGains_74 hl (by decide) rfl (fun ls hl => ?_)
    refine lv_iload hx hb dX12_tellGains_76 (lv_at hl 5 rfl) ?_
    refine lv_aload_n hx hb dX12_tellGains_78 rfl (lv_at hl 1 rfl) ?_
    refine bk_get (wf := mw) (q0 := 0) (ci := 11) (k := 35) (v := .int (q1 0 35)) C hP wl_X12 rfl rfl (by decide) wa_904 rfl rfl dX12_tellGains_79 ?_
    refine lv_iload_n hx hb dX12_tellGains_82 rfl (lv_at hl 2 rfl) ?_
    refine lv_ishr hx hb dX12_tellGains_83 ?_
    refine lv_iconst (v := (1 : Int32)) hx hb dX12_tellGains_84 (by decide) ?_
    refine lv_iand hx hb dX12_tellGains_85 ?_
    refine lv_iadd hx hb dX12_tellGains_86 ?_
    obtain ⟨v3, ev3, hf⟩ := bd_s hf
    rw [← ev3]
    refine lv_istore (lv' := [(5, .int v3), (4, .int v2), (0, .ref (g.2.2 0)), (1, .int x1), (2, .int x2), (3, .int x3), (6, .int x6), (7, .int x7)]) hx hb dX12_tellGains_87 hl (by decide) rfl (fun ls hl => ?_)
    refine lv_iload hx hb dX12_tellGains_89 (lv_at hl 6 rfl) ?_
    refine lv_aload_n hx hb dX12_tellGains_91 rfl (lv_at hl 2 rfl) ?_
    refine bk_get (wf := mw) (q0 := 0) (ci := 11) (k := 35) (v := .int (q1 0 35)) C hP wl_X12 rfl rfl (by decide) wa_904 rfl rfl dX12_tellGains_92 ?_
    refine lv_iload_n hx hb dX12_tellGains_95 rfl (lv_at hl 4 rfl) ?_
    refine lv_ishr hx hb dX12_tellGains_96 ?_
    refine lv_iconst (v := (1 : Int32)) hx hb dX12_tellGains_97 (by decide) ?_
    refine lv_iand hx hb dX12_tellGains_98 ?_
    refine lv_iadd hx hb dX12_tellGains_99 ?_
    obtain ⟨v4, ev4, hf⟩ := bd_s hf
    rw [← ev4]
    refine lv_istore (lv' := [(6, .int v4), (5, .int v3), (4, .int v2), (0, .ref (g.2.2 0)), (1, .int x1), (2, .int x2), (3, .int x3), (7, .int x7)]) hx hb dX12_tellGains_100 hl (by decide) rfl (fun ls hl => ?_)
    obtain ⟨v5, ev5, hf⟩ := bd_s hf
    refine lv_iinc (v := v5) (lv' := [(7, .int v5), (6, .int v4), (5, .int v3), (4, .int v2), (0, .ref (g.2.2 0)), (1, .int x1), (2, .int x2), (3, .int x3)]) hx hb dX12_tellGains_102 hl (k := 7) rfl (by rw [ev5]; rfl) (by decide) rfl (fun ls hl => ?_)
    refine lv_goto (tgt := 56) hx hb dX12_tellGains_105 (by decide) ?_
    cases hf
    exact k0 rfl H locs ls hP hD hS (lv_sub hl [4, 5, 6, 7, 3, 2, 1, 0] rfl)
theorem lp_X12_tellGains_h56 {N : Nat} {n : Nat} {x1 : Int32} {x2 : Int32} {x3 : Int32} {x4 : Int32} {x5 : Int32} {x6 : Int32} {x7 : Int32} {σ : Sg} {z : Nat × Int32 × Int32 × Int32 × Int32 × Sg} (C : Cx p s m args meth c cX12_tellGains 8 none RX12 g A X) (hz : it (fun q => s_X12_tellGains_h56 N x1 x2 x3 q.1 q.2.1 q.2.2.1 q.2.2.2.1 q.2.2.2.2) n (x4, x5, x6, x7, σ) = some z) (k : Bk mw p l e rm_X12_tellGains s m args below meth c 8 g A Q 0 0 108 [(0, .ref (g.2.2 0)), (1, .int x1), (2, .int x2), (3, .int x3), (4, .int z.2.1), (5, .int z.2.2.1), (6, .int z.2.2.2.1)] [] z.2.2.2.2.2) : Bk mw p l e rm_X12_tellGains s m args below meth c 8 g A Q 0 0 56 [(0, .ref (g.2.2 0)), (1, .int x1), (2, .int x2), (3, .int x3), (4, .int x4), (5, .int x5), (6, .int x6), (7, .int x7)] [] σ :=
  it_W (S := Int32 × Int32 × Int32 × Int32 × Sg) (fun q => Bk mw p l e rm_X12_tellGains s m args below meth c 8 g A Q 0 0 56 [(0, .ref (g.2.2 0)), (1, .int x1), (2, .int x2), (3, .int x3), (4, .int q.1), (5, .int q.2.1), (6, .int q.2.2.1), (7, .int q.2.2.2.1)] [] q.2.2.2.2) (fun z => Bk mw p l e rm_X12_tellGains s m args below meth c 8 g A Q 0 0 108 [(0, .ref (g.2.2 0)), (1, .int x1), (2, .int x2), (3, .int x3), (4, .int z.2.1), (5, .int z.2.2.1), (6, .int z.2.2.2.1)] [] z.2.2.2.2.2) (fun q z hq k0 k => e_X12_tellGains_h56 C hq k0 k) n (x4, x5, x6, x7, σ) z hz k
def f_X12_tellGains_b44 (N : Nat) (x1 : Int32) (x2 : Int32) (x3 : Int32) (σ : Sg) : Option (Nat × Int32 × Sg) :=
(it (fun q => s_X12_tellGains_h56 N x1 x2 x3 q.1 q.2.1 q.2.2.1 q.2.2.2.1 q.2.2.2.2) N ((0 : Int32), (0 : Int32), (0 : Int32), (0 : Int32), σ)).bind fun z6 =>
(f_X12_bitsOf N ((z6.2.1) &&& (((1 : Int32) <<< (x1 &&& 31)) ^^^ (-1 : Int32))) (z6.2.2.2.2.2)).bind fun q7 =>
if (((2 : Int32) * x3) < 0 ∨ 8 ≤ ((2 : Int32) * x3).toNatClampNeg) then none else
bd (wr (q7.2) 29 (((2 : Int32) * x3).toNatClampNeg) ((q7.1 - ((2 : Int32) * (x3 / (2 : Int32)))) - (z6.2.2.1))) fun σ9 =>
(f_X12_bitsOf N ((z6.2.1) &&& (((1 : Int32) <<< (x2 &&& 31)) ^^^ (-1 : Int32))) σ9).bind fun q10 =>
if ((((2 : Int32) * x3) + (1 : Int32)) < 0 ∨ 8 ≤ (((2 : Int32) * x3) + (1 : Int32)).toNatClampNeg) then none else
bd (wr (q10.2) 29 ((((2 : Int32) * x3) + (1 : Int32)).toNatClampNeg) ((q10.1 - ((2 : Int32) * (x3 - x3 / (2 : Int32) * (2 : Int32)))) - (z6.2.2.2.1))) fun σ12 =>
(f_X12_unpack_21 N (0 : Int32) σ12).bind fun q13 =>
bd (x3 + (1 : Int32)) fun v14 =>
some (0, v14, q13)
set_option maxHeartbeats 4000000 in
set_option maxRecDepth 100000 in
theorem b_X12_tellGains_b44 {N : Nat} {x1 : Int32} {x2 : Int32} {x3 : Int32} {σ : Sg} {z : Nat × Int32 × Sg} (C : Cx p s m args meth c cX12_tellGains 8 none RX12 g A X) (hf : f_X12_tellGains_b44 N x1 x2 x3 σ = some z) (k0 : z.1 = 0 → Bk mw p l e rm_X12_tellGains s m args below meth c 8 g A Q 0 0 11 [(0, .ref (g.2.2 0)), (1, .int x1), (2, .int x2), (3, .int z.2.1)] [] z.2.2) (k : ¬ z.1 = 0 → Bk mw p l e rm_X12_tellGains s m args below meth c 8 g A Q 0 0 181 [] [] z.2.2) : Bk mw p l e rm_X12_tellGains s m args below meth c 8 g A Q 0 0 44 [(0, .ref (g.2.2 0)), (1, .int x1), (2, .int x2), (3, .int x3)] [] σ := by
  obtain ⟨hx, hb, hr, hml, hown, hts, hK, hlocks, hXX, hA, hXo⟩ := id C
  intro H locs ls hP hD hS hl
  unfold f_X12_tellGains_b44 at hf
  refine lv_iconst (v := (0 : Int32)) hx hb dX12_tellGains_44 (by decide) ?_
  refine lv_istore (lv' := [(4, .int (0 : Int32)), (0, .ref (g.2.2 0)), (1, .int x1), (2, .int x2), (3, .int x3)]) hx hb dX12_tellGains_45 hl (by decide) rfl (fun ls hl => ?_)
  refine lv_iconst (v := (0 : Int32)) hx hb dX12_tellGains_47 (by decide) ?_
  refine lv_istore (lv' := [(5, .int (0 : Int32)), (4, .int (0 : Int32)), (0, .ref (g.2.2 0)), (1, .int x1), (2, .int x2), (3, .int x3)]) hx hb dX12_tellGains_48 hl (by decide) rfl (fun ls hl => ?_)
  refine lv_iconst (v := (0 : Int32)) hx hb dX12_tellGains_50 (by decide) ?_
  refine lv_istore (lv' := [(6, .int (0 : Int32)), (5, .int (0 : Int32)), (4, .int (0 : Int32)), (0, .ref (g.2.2 0)), (1, .int x1), (2, .int x2), (3, .int x3)]) hx hb dX12_tellGains_51 hl (by decide) rfl (fun ls hl => ?_)
  refine lv_iconst (v := (0 : Int32)) hx hb dX12_tellGains_53 (by decide) ?_
  refine lv_istore (lv' := [(7, .int (0 : Int32)), (6, .int (0 : Int32)), (5, .int (0 : Int32)), (4, .int (0 : Int32)), (0, .ref (g.2.2 0)), (1, .int x1), (2, .int x2), (3, .int x3)]) hx hb dX12_tellGains_54 hl (by decide) rfl (fun ls hl => ?_)
  obtain ⟨z6, hz6, hf⟩ := bi_s hf
  refine lp_X12_tellGains_h56 C hz6 ?_ H locs ls hP hD hS (lv_sub hl [4, 5, 6, 7, 3, 2, 1, 0] rfl)
  intro H locs ls hP hD hS hl
  refine lv_aload_n hx hb dX12_tellGains_108 rfl (lv_at hl 0 rfl) ?_
  refine bk_get (wf := mw) (q0 := 0) (ci := 11) (k := 46) (v := .ref (g.2.2 29)) C hP wl_X12 rfl rfl (by decide) wa_186 rfl rfl dX12_tellGains_109 ?_
  refine lv_iconst (v := (2 : Int32)) hx hb dX12_tellGains_112 (by decide) ?_
  refine lv_iload_n hx hb dX12_tellGains_113 rfl (lv_at hl 3 rfl) ?_
  refine lv_imul hx hb dX12_tellGains_114 ?_
  refine lv_iload hx hb dX12_tellGains_115 (lv_at hl 4 rfl) ?_
  refine lv_iconst (v := (1 : Int32)) hx hb dX12_tellGains_117 (by decide) ?_
  refine lv_iload_n hx hb dX12_tellGains_118 rfl (lv_at hl 1 rfl) ?_
  refine lv_ishl hx hb dX12_tellGains_119 ?_
  refine lv_iconst (v := (-1 : Int32)) hx hb dX12_tellGains_120 (by decide) ?_
  refine lv_ixor hx hb dX12_tellGains_121 ?_
  refine lv_iand hx hb dX12_tellGains_122 ?_
  obtain ⟨q7, hq7, hf⟩ := bi_s hf
  refine bk_SI (wf := mw) (rest := [.int ((2 : Int32) * x3), .ref (g.2.2 29)]) [.int ((z6.2.1) &&& (((1 : Int32) <<< (x1 &&& 31)) ^^^ (-1 : Int32)))] C hP hD hS hl.1 (c_X12_bitsOf hXo hq7) (cwA_S 1 hts wa_769 wa_767 wa_768 wa_5 rfl rfl nd_X12_bitsOf ⟨Nat.le_of_ble_eq_true rfl, Nat.le_of_ble_eq_true rfl⟩) rfl rfl (Nat.le_of_ble_eq_true rfl) dX12_tellGains_123 ⟨Nat.le_of_ble_eq_true rfl, Nat.le_of_ble_eq_true rfl⟩ (fun H locs hP hD hS => ?_)
  refine lv_iconst (v := (2 : Int32)) hx hb dX12_tellGains_126 (by decide) ?_
  refine lv_iload_n hx hb dX12_tellGains_127 rfl (lv_at hl 3 rfl) ?_
  refine lv_iconst (v := (2 : Int32)) hx hb dX12_tellGains_128 (by decide) ?_
  refine lv_idiv hx hb dX12_tellGains_129 (by decide) ?_
  refine lv_imul hx hb dX12_tellGains_130 ?_
  refine lv_isub hx hb dX12_tellGains_131 ?_
  refine lv_iload hx hb dX12_tellGains_132 (lv_at hl 5 rfl) ?_
  refine lv_isub hx hb dX12_tellGains_134 ?_
  obtain ⟨g8, hf⟩ := gd_s hf
  obtain ⟨σ9, eσ9, hf⟩ := bd_s hf
  refine bk_iast (wf := mw) (σ1 := σ9) (q0 := 29) (n := 8) (j := ((2 : Int32) * x3).toNatClampNeg) C hP hD hS rfl g8 rfl (by rw [eσ9]; exact mw_a29 g _ _ _) dX12_tellGains_135 (fun H locs hP hD hS => ?_)
  refine lv_aload_n hx hb dX12_tellGains_136 rfl (lv_at hl 0 rfl) ?_
  refine bk_get (wf := mw) (q0 := 0) (ci := 11) (k := 46) (v := .ref (g.2.2 29)) C hP wl_X12 rfl rfl (by decide) wa_186 rfl rfl dX12_tellGains_137 ?_
  refine lv_iconst (v := (2 : Int32)) hx hb dX12_tellGains_140 (by decide) ?_
  refine lv_iload_n hx hb dX12_tellGains_141 rfl (lv_at hl 3 rfl) ?_
  refine lv_imul hx hb dX12_tellGains_142 ?_
  refine lv_iconst (v := (1 : Int32)) hx hb dX12_tellGains_143 (by decide) ?_
  refine lv_iadd hx hb dX12_tellGains_144 ?_
  refine lv_iload hx hb dX12_tellGains_145 (lv_at hl 4 rfl) ?_
  refine lv_iconst (v := (1 : Int32)) hx hb dX12_tellGains_147 (by decide) ?_
  refine lv_iload_n hx hb dX12_tellGains_148 rfl (lv_at hl 2 rfl) ?_
  refine lv_ishl hx hb dX12_tellGains_149 ?_
  refine lv_iconst (v := (-1 : Int32)) hx hb dX12_tellGains_150 (by decide) ?_
  refine lv_ixor hx hb dX12_tellGains_151 ?_
  refine lv_iand hx hb dX12_tellGains_152 ?_
  obtain ⟨q10, hq10, hf⟩ := bi_s hf
  refine bk_SI (wf := mw) (rest := [.int (((2 : Int32) * x3) + (1 : Int32)), .ref (g.2.2 29)]) [.int ((z6.2.1) &&& (((1 : Int32) <<< (x2 &&& 31)) ^^^ (-1 : Int32)))] C hP hD hS hl.1 (c_X12_bitsOf hXo hq10) (cwA_S 1 hts wa_769 wa_767 wa_768 wa_5 rfl rfl nd_X12_bitsOf ⟨Nat.le_of_ble_eq_true rfl, Nat.le_of_ble_eq_true rfl⟩) rfl rfl (Nat.le_of_ble_eq_true rfl) dX12_tellGains_153 ⟨Nat.le_of_ble_eq_true rfl, Nat.le_of_ble_eq_true rfl⟩ (fun H locs hP hD hS => ?_)
  refine lv_iconst (v := (2 : Int32)) hx hb dX12_tellGains_156 (by decide) ?_
  refine lv_iload_n hx hb dX12_tellGains_157 rfl (lv_at hl 3 rfl) ?_
  refine lv_iconst (v := (2 : Int32)) hx hb dX12_tellGains_158 (by decide) ?_
  refine lv_irem hx hb dX12_tellGains_159 (by decide) ?_
  refine lv_imul hx hb dX12_tellGains_160 ?_
  refine lv_isub hx hb dX12_tellGains_161 ?_
  refine lv_iload hx hb dX12_tellGains_162 (lv_at hl 6 rfl) ?_
  refine lv_isub hx hb dX12_tellGains_164 ?_
  obtain ⟨g11, hf⟩ := gd_s hf
  obtain ⟨σ12, eσ12, hf⟩ := bd_s hf
  refine bk_iast (wf := mw) (σ1 := σ12) (q0 := 29) (n := 8) (j := (((2 : Int32) * x3) + (1 : Int32)).toNatClampNeg) C hP hD hS rfl g11 rfl (by rw [eσ12]; exact mw_a29 g _ _ _) dX12_tellGains_165 (fun H locs hP hD hS => ?_)
  refine lv_aload_n hx hb dX12_tellGains_166 rfl (lv_at hl 0 rfl) ?_
  refine lv_aload_n hx hb dX12_tellGains_167 rfl (lv_at hl 0 rfl) ?_
  refine bk_get (wf := mw) (q0 := 0) (ci := 11) (k := 37) (v := .ref (g.2.2 21)) C hP wl_X12 rfl rfl (by decide) wa_177 rfl rfl dX12_tellGains_168 ?_
  refine lv_iconst (v := (0 : Int32)) hx hb dX12_tellGains_171 (by decide) ?_
  obtain ⟨q13, hq13, hf⟩ := bi_s hf
  refine bk_VV (wf := mw) (q0 := 0) (ci := 11) (rest := []) [.ref (g.2.2 21), .int (0 : Int32)] C hP hD hS hl.1 (c_X12_unpack_21 hXo hq13) (cwA_V 2 hts wa_1010 wa_1007 wa_1008 wa_1009 wa_5 rfl rfl nd_X12_unpack ⟨Nat.le_of_ble_eq_true rfl, Nat.le_of_ble_eq_true rfl⟩) rfl rfl rfl rfl (Nat.le_of_ble_eq_true rfl) dX12_tellGains_172 ⟨Nat.le_of_ble_eq_true rfl, Nat.le_of_ble_eq_true rfl⟩ (fun H locs hP hD hS => ?_)
  obtain ⟨v14, ev14, hf⟩ := bd_s hf
  refine lv_iinc (v := v14) (lv' := [(3, .int v14), (0, .ref (g.2.2 0)), (1, .int x1), (2, .int x2), (4, .int (z6.2.1)), (5, .int (z6.2.2.1)), (6, .int (z6.2.2.2.1))]) hx hb dX12_tellGains_175 hl (k := 3) rfl (by rw [ev14]; rfl) (by decide) rfl (fun ls hl => ?_)
  refine lv_goto (tgt := 11) hx hb dX12_tellGains_178 (by decide) ?_
  cases hf
  exact k0 rfl H locs ls hP hD hS (lv_sub hl [1, 2, 3, 0] rfl)
def f_X12_tellGains_b30 (N : Nat) (x1 : Int32) (x2 : Int32) (x3 : Int32) (σ : Sg) : Option (Nat × Int32 × Sg) :=
if (x3 - x3 / (2 : Int32) * (2 : Int32)) = (1 : Int32) then (if (x2 < 0 ∨ 9 ≤ x2.toNatClampNeg) then none else
bd (wr σ 13 (x2.toNatClampNeg) (1 : Int32)) fun σ16 =>
f_X12_tellGains_b44 N x1 x2 x3 σ16)
else (f_X12_tellGains_b44 N x1 x2 x3 σ)
set_option maxHeartbeats 4000000 in
set_option maxRecDepth 100000 in
theorem b_X12_tellGains_b30 {N : Nat} {x1 : Int32} {x2 : Int32} {x3 : Int32} {σ : Sg} {z : Nat × Int32 × Sg} (C : Cx p s m args meth c cX12_tellGains 8 none RX12 g A X) (hf : f_X12_tellGains_b30 N x1 x2 x3 σ = some z) (k0 : z.1 = 0 → Bk mw p l e rm_X12_tellGains s m args below meth c 8 g A Q 0 0 11 [(0, .ref (g.2.2 0)), (1, .int x1), (2, .int x2), (3, .int z.2.1)] [] z.2.2) (k : ¬ z.1 = 0 → Bk mw p l e rm_X12_tellGains s m args below meth c 8 g A Q 0 0 181 [] [] z.2.2) : Bk mw p l e rm_X12_tellGains s m args below meth c 8 g A Q 0 0 30 [(0, .ref (g.2.2 0)), (1, .int x1), (2, .int x2), (3, .int x3)] [] σ := by
  obtain ⟨hx, hb, hr, hml, hown, hts, hK, hlocks, hXX, hA, hXo⟩ := id C
  intro H locs ls hP hD hS hl
  unfold f_X12_tellGains_b30 at hf
  refine lv_iload_n hx hb dX12_tellGains_30 rfl (lv_at hl 3 rfl) ?_
  refine lv_iconst (v := (2 : Int32)) hx hb dX12_tellGains_31 (by decide) ?_
  refine lv_irem hx hb dX12_tellGains_32 (by decide) ?_
  refine lv_iconst (v := (1 : Int32)) hx hb dX12_tellGains_33 (by decide) ?_
  refine lv_icmp_ne (tgt := 44) hx hb dX12_tellGains_34 (by decide) (fun t34 => ?_) (fun t34 => ?_)
  · have hf := (if_neg t34).symm.trans hf
    exact b_X12_tellGains_b44 C hf k0 k H locs ls hP hD hS (lv_sub hl [0, 1, 2, 3] rfl)
  · have hf := (if_pos t34).symm.trans hf
    refine lv_aload_n hx hb dX12_tellGains_37 rfl (lv_at hl 0 rfl) ?_
    refine bk_get (wf := mw) (q0 := 0) (ci := 11) (k := 23) (v := .ref (g.2.2 13)) C hP wl_X12 rfl rfl (by decide) wa_168 rfl rfl dX12_tellGains_38 ?_
    refine lv_iload_n hx hb dX12_tellGains_41 rfl (lv_at hl 2 rfl) ?_
    refine lv_iconst (v := (1 : Int32)) hx hb dX12_tellGains_42 (by decide) ?_
    obtain ⟨g15, hf⟩ := gd_s hf
    obtain ⟨σ16, eσ16, hf⟩ := bd_s hf
    refine bk_iast (wf := mw) (σ1 := σ16) (q0 := 13) (n := 9) (j := x2.toNatClampNeg) C hP hD hS rfl g15 rfl (by rw [eσ16]; exact mw_a13 g _ _ _) dX12_tellGains_43 (fun H locs hP hD hS => ?_)
    exact b_X12_tellGains_b44 C hf k0 k H locs ls hP hD hS (lv_sub hl [0, 1, 2, 3] rfl)
def s_X12_tellGains_h11 (N : Nat) (x1 : Int32) (x2 : Int32) (x3 : Int32) (σ : Sg) : Option (Nat × Int32 × Sg) :=
if (4 : Int32) ≤ x3 then (some (1, 0, σ))
else (if (x3 / (2 : Int32)) = (1 : Int32) then (if (x1 < 0 ∨ 9 ≤ x1.toNatClampNeg) then none else
bd (wr σ 13 (x1.toNatClampNeg) (1 : Int32)) fun σ18 =>
f_X12_tellGains_b30 N x1 x2 x3 σ18)
else (f_X12_tellGains_b30 N x1 x2 x3 σ))
set_option maxHeartbeats 4000000 in
set_option maxRecDepth 100000 in
theorem e_X12_tellGains_h11 {N : Nat} {x1 : Int32} {x2 : Int32} {x3 : Int32} {σ : Sg} {z : Nat × Int32 × Sg} (C : Cx p s m args meth c cX12_tellGains 8 none RX12 g A X) (hf : s_X12_tellGains_h11 N x1 x2 x3 σ = some z) (k0 : z.1 = 0 → Bk mw p l e rm_X12_tellGains s m args below meth c 8 g A Q 0 0 11 [(0, .ref (g.2.2 0)), (1, .int x1), (2, .int x2), (3, .int z.2.1)] [] z.2.2) (k : ¬ z.1 = 0 → Bk mw p l e rm_X12_tellGains s m args below meth c 8 g A Q 0 0 181 [] [] z.2.2) : Bk mw p l e rm_X12_tellGains s m args below meth c 8 g A Q 0 0 11 [(0, .ref (g.2.2 0)), (1, .int x1), (2, .int x2), (3, .int x3)] [] σ := by
  obtain ⟨hx, hb, hr, hml, hown, hts, hK, hlocks, hXX, hA, hXo⟩ := id C
  intro H locs ls hP hD hS hl
  unfold s_X12_tellGains_h11 at hf
  refine lv_iload_n hx hb dX12_tellGains_11 rfl (lv_at hl 3 rfl) ?_
  refine lv_iconst (v := (4 : Int32)) hx hb dX12_tellGains_12 (by decide) ?_
  refine lv_icmp_ge (tgt := 181) hx hb dX12_tellGains_13 (by decide) (fun t13 => ?_) (fun t13 => ?_)
  · have hf := (if_pos t13).symm.trans hf
    cases hf
    exact (k (show ¬ (1 : Nat) = 0 by decide)) H locs ls hP hD hS (lv_sub hl [] rfl)
  · have hf := (if_neg t13).symm.trans hf
    refine lv_iload_n hx hb dX12_tellGains_16 rfl (lv_at hl 3 rfl) ?_
    refine lv_iconst (v := (2 : Int32)) hx hb dX12_tellGains_17 (by decide) ?_
    refine lv_idiv hx hb dX12_tellGains_18 (by decide) ?_
    refine lv_iconst (v := (1 : Int32)) hx hb dX12_tellGains_19 (by decide) ?_
    refine lv_icmp_ne (tgt := 30) hx hb dX12_tellGains_20 (by decide) (fun t20 => ?_) (fun t20 => ?_)
    · have hf := (if_neg t20).symm.trans hf
      exact b_X12_tellGains_b30 C hf k0 k H locs ls hP hD hS (lv_sub hl [0, 1, 2, 3] rfl)
    · have hf := (if_pos t20).symm.trans hf
      refine lv_aload_n hx hb dX12_tellGains_23 rfl (lv_at hl 0 rfl) ?_
      refine bk_get (wf := mw) (q0 := 0) (ci := 11) (k := 23) (v := .ref (g.2.2 13)) C hP wl_X12 rfl rfl (by decide) wa_168 rfl rfl dX12_tellGains_24 ?_
      refine lv_iload_n hx hb dX12_tellGains_27 rfl (lv_at hl 1 rfl) ?_
      refine lv_iconst (v := (1 : Int32)) hx hb dX12_tellGains_28 (by decide) ?_
      obtain ⟨g17, hf⟩ := gd_s hf
      obtain ⟨σ18, eσ18, hf⟩ := bd_s hf
      refine bk_iast (wf := mw) (σ1 := σ18) (q0 := 13) (n := 9) (j := x1.toNatClampNeg) C hP hD hS rfl g17 rfl (by rw [eσ18]; exact mw_a13 g _ _ _) dX12_tellGains_29 (fun H locs hP hD hS => ?_)
      exact b_X12_tellGains_b30 C hf k0 k H locs ls hP hD hS (lv_sub hl [0, 1, 2, 3] rfl)
theorem lp_X12_tellGains_h11 {N : Nat} {n : Nat} {x1 : Int32} {x2 : Int32} {x3 : Int32} {σ : Sg} {z : Nat × Int32 × Sg} (C : Cx p s m args meth c cX12_tellGains 8 none RX12 g A X) (hz : it (fun q => s_X12_tellGains_h11 N x1 x2 q.1 q.2) n (x3, σ) = some z) (k : Bk mw p l e rm_X12_tellGains s m args below meth c 8 g A Q 0 0 181 [] [] z.2.2) : Bk mw p l e rm_X12_tellGains s m args below meth c 8 g A Q 0 0 11 [(0, .ref (g.2.2 0)), (1, .int x1), (2, .int x2), (3, .int x3)] [] σ :=
  it_W (S := Int32 × Sg) (fun q => Bk mw p l e rm_X12_tellGains s m args below meth c 8 g A Q 0 0 11 [(0, .ref (g.2.2 0)), (1, .int x1), (2, .int x2), (3, .int q.1)] [] q.2) (fun z => Bk mw p l e rm_X12_tellGains s m args below meth c 8 g A Q 0 0 181 [] [] z.2.2) (fun q z hq k0 k => e_X12_tellGains_h11 C hq k0 k) n (x3, σ) z hz k
def f_X12_tellGains (N : Nat) (x1 : Int32) (x2 : Int32) (σ : Sg) : Option (Sg) :=
(f_X12_pack_21 N (0 : Int32) σ).bind fun q19 =>
(it (fun q => s_X12_tellGains_h11 N x1 x2 q.1 q.2) N ((0 : Int32), q19)).bind fun z20 =>
some (z20.2.2)
set_option maxHeartbeats 4000000 in
set_option maxRecDepth 100000 in
theorem b_X12_tellGains {N : Nat} {x1 : Int32} {x2 : Int32} {σ : Sg} {z : Sg} (C : Cx p s m args meth c cX12_tellGains 8 none RX12 g A X) (hf : f_X12_tellGains N x1 x2 σ = some z) : Bk mw p l e rm_X12_tellGains s m args below meth c 8 g A (MQ below (qV mw g A z) args s 0 0 A) 0 0 0 [(0, .ref (g.2.2 0)), (1, .int x1), (2, .int x2)] [] σ := by
  obtain ⟨hx, hb, hr, hml, hown, hts, hK, hlocks, hXX, hA, hXo⟩ := id C
  intro H locs ls hP hD hS hl
  unfold f_X12_tellGains at hf
  refine lv_aload_n hx hb dX12_tellGains_0 rfl (lv_at hl 0 rfl) ?_
  refine lv_aload_n hx hb dX12_tellGains_1 rfl (lv_at hl 0 rfl) ?_
  refine bk_get (wf := mw) (q0 := 0) (ci := 11) (k := 37) (v := .ref (g.2.2 21)) C hP wl_X12 rfl rfl (by decide) wa_177 rfl rfl dX12_tellGains_2 ?_
  refine lv_iconst (v := (0 : Int32)) hx hb dX12_tellGains_5 (by decide) ?_
  obtain ⟨q19, hq19, hf⟩ := bi_s hf
  refine bk_VV (wf := mw) (q0 := 0) (ci := 11) (rest := []) [.ref (g.2.2 21), .int (0 : Int32)] C hP hD hS hl.1 (c_X12_pack_21 hXo hq19) (cwA_V 2 hts wa_895 wa_892 wa_893 wa_894 wa_5 rfl rfl nd_X12_pack ⟨Nat.le_of_ble_eq_true rfl, Nat.le_of_ble_eq_true rfl⟩) rfl rfl rfl rfl (Nat.le_of_ble_eq_true rfl) dX12_tellGains_6 ⟨Nat.le_of_ble_eq_true rfl, Nat.le_of_ble_eq_true rfl⟩ (fun H locs hP hD hS => ?_)
  refine lv_iconst (v := (0 : Int32)) hx hb dX12_tellGains_9 (by decide) ?_
  refine lv_istore_n (lv' := [(3, .int (0 : Int32)), (0, .ref (g.2.2 0)), (1, .int x1), (2, .int x2)]) hx hb dX12_tellGains_10 rfl hl (by decide) rfl (fun ls hl => ?_)
  obtain ⟨z20, hz20, hf⟩ := bi_s hf
  refine lp_X12_tellGains_h11 C hz20 ?_ H locs ls hP hD hS (lv_sub hl [1, 2, 3, 0] rfl)
  intro H locs ls hP hD hS hl
  cases hf
  exact bk_vret C hP hD hS rfl dX12_tellGains_181
theorem c_X12_tellGains {N : Nat} {x1 : Int32} {x2 : Int32} {σ : Sg} {z : Sg} (hX : xOK g X) (hf : f_X12_tellGains N x1 x2 σ = some z) : MetV l yX12_tellGains (Cond.code yX12_tellGains cX12_tellGains 8 none :: wsA) rm_X12_tellGains mw g X [.ref (g.2.2 0), .int x1, .int x2] σ z :=
  MetV_of hX (by decide) (Nat.le_of_ble_eq_true rfl) (fun p e s m args below meth c A C => b_X12_tellGains C hf)
-- X12_game: game(III)I
abbrev rm_X12_game : Room := { frames := 7, cells := 0, slots := 0, locals := 165 }
theorem nd_X12_game : yX12_game.cls ≠ "java/lang/invoke/MethodHandle" ∧ yX12_game.cls ≠ "java/lang/invoke/VarHandle" ∧ (parseMethodDescriptor yX12_game.desc).map (fun d => d.parameters.length) = some 3 := by decide +kernel
def f_X12_game_b167 (N : Nat) (x3 : Int32) (x4 : Int32) (x5 : Int32) (x6 : Int32) (σ : Sg) : Option (Nat × Int32 × Int32 × Int32 × Sg) :=
bd (x6 + (1 : Int32)) fun v1 =>
some (0, x4, x5, v1, σ)
set_option maxHeartbeats 4000000 in
set_option maxRecDepth 100000 in
theorem b_X12_game_b167 {N : Nat} {x3 : Int32} {x4 : Int32} {x5 : Int32} {x6 : Int32} {σ : Sg} {z : Nat × Int32 × Int32 × Int32 × Sg} (C : Cx p s m args meth c cX12_game 7 (some .int) RX12 g A X) (hf : f_X12_game_b167 N x3 x4 x5 x6 σ = some z) (k0 : z.1 = 0 → Bk mw p l e rm_X12_game s m args below meth c 7 g A Q 0 0 80 [(0, .ref (g.2.2 0)), (3, .int x3), (4, .int z.2.1), (5, .int z.2.2.1), (6, .int z.2.2.2.1)] [] z.2.2.2.2) (k : ¬ z.1 = 0 → Bk mw p l e rm_X12_game s m args below meth c 7 g A Q 0 0 173 [(3, .int x3), (4, .int z.2.1), (5, .int z.2.2.1)] [] z.2.2.2.2) : Bk mw p l e rm_X12_game s m args below meth c 7 g A Q 0 0 167 [(0, .ref (g.2.2 0)), (3, .int x3), (4, .int x4), (5, .int x5), (6, .int x6)] [] σ := by
  obtain ⟨hx, hb, hr, hml, hown, hts, hK, hlocks, hXX, hA, hXo⟩ := id C
  intro H locs ls hP hD hS hl
  unfold f_X12_game_b167 at hf
  obtain ⟨v1, ev1, hf⟩ := bd_s hf
  refine lv_iinc (v := v1) (lv' := [(6, .int v1), (0, .ref (g.2.2 0)), (3, .int x3), (4, .int x4), (5, .int x5)]) hx hb dX12_game_167 hl (k := 4) rfl (by rw [ev1]; rfl) (by decide) rfl (fun ls hl => ?_)
  refine lv_goto (tgt := 80) hx hb dX12_game_170 (by decide) ?_
  cases hf
  exact k0 rfl H locs ls hP hD hS (lv_sub hl [1, 2, 3, 4, 0] rfl)
def f_X12_game_b165 (N : Nat) (x3 : Int32) (x4 : Int32) (x6 : Int32) (t0 : Int32) (σ : Sg) : Option (Nat × Int32 × Int32 × Int32 × Sg) :=
f_X12_game_b167 N x3 x4 t0 x6 σ
set_option maxHeartbeats 4000000 in
set_option maxRecDepth 100000 in
theorem b_X12_game_b165 {N : Nat} {x3 : Int32} {x4 : Int32} {x6 : Int32} {t0 : Int32} {σ : Sg} {z : Nat × Int32 × Int32 × Int32 × Sg} (C : Cx p s m args meth c cX12_game 7 (some .int) RX12 g A X) (hf : f_X12_game_b165 N x3 x4 x6 t0 σ = some z) (k0 : z.1 = 0 → Bk mw p l e rm_X12_game s m args below meth c 7 g A Q 0 0 80 [(0, .ref (g.2.2 0)), (3, .int x3), (4, .int z.2.1), (5, .int z.2.2.1), (6, .int z.2.2.2.1)] [] z.2.2.2.2) (k : ¬ z.1 = 0 → Bk mw p l e rm_X12_game s m args below meth c 7 g A Q 0 0 173 [(3, .int x3), (4, .int z.2.1), (5, .int z.2.2.1)] [] z.2.2.2.2) : Bk mw p l e rm_X12_game s m args below meth c 7 g A Q 0 0 165 [(0, .ref (g.2.2 0)), (3, .int x3), (4, .int x4), (6, .int x6)] [.int t0] σ := by
  obtain ⟨hx, hb, hr, hml, hown, hts, hK, hlocks, hXX, hA, hXo⟩ := id C
  intro H locs ls hP hD hS hl
  unfold f_X12_game_b165 at hf
  refine lv_istore (lv' := [(5, .int t0), (0, .ref (g.2.2 0)), (3, .int x3), (4, .int x4), (6, .int x6)]) hx hb dX12_game_165 hl (by decide) rfl (fun ls hl => ?_)
  exact b_X12_game_b167 C hf k0 k H locs ls hP hD hS (lv_sub hl [1, 2, 3, 0, 4] rfl)
def s_X12_game_h80 (N : Nat) (x3 : Int32) (x4 : Int32) (x5 : Int32) (x6 : Int32) (σ : Sg) : Option (Nat × Int32 × Int32 × Int32 × Sg) :=
if (4 : Int32) ≤ x6 then (some (1, x4, x5, 0, σ))
else (if (((2 : Int32) * (x6 ^^^ (2 : Int32))) < 0 ∨ 8 ≤ ((2 : Int32) * (x6 ^^^ (2 : Int32))).toNatClampNeg) then none else
if (((2 : Int32) * x6) < 0 ∨ 8 ≤ ((2 : Int32) * x6).toNatClampNeg) then none else
if (σ 29 ((2 : Int32) * x6).toNatClampNeg) < (σ 29 ((2 : Int32) * (x6 ^^^ (2 : Int32))).toNatClampNeg) then (f_X12_game_b167 N x3 x4 x5 x6 σ)
else (if ((((2 : Int32) * (x6 ^^^ (1 : Int32))) + (1 : Int32)) < 0 ∨ 8 ≤ (((2 : Int32) * (x6 ^^^ (1 : Int32))) + (1 : Int32)).toNatClampNeg) then none else
if ((((2 : Int32) * x6) + (1 : Int32)) < 0 ∨ 8 ≤ (((2 : Int32) * x6) + (1 : Int32)).toNatClampNeg) then none else
if (σ 29 (((2 : Int32) * (x6 ^^^ (1 : Int32))) + (1 : Int32)).toNatClampNeg) ≤ (σ 29 (((2 : Int32) * x6) + (1 : Int32)).toNatClampNeg) then (bd (x4 + (1 : Int32)) fun v6 =>
if x5 = (-1 : Int32) then (f_X12_game_b165 N x3 v6 x6 (((10 : Int32) * (x6 / (2 : Int32))) + (x6 - x6 / (2 : Int32) * (2 : Int32))) σ)
else (f_X12_game_b165 N x3 v6 x6 x5 σ))
else (f_X12_game_b167 N x3 x4 x5 x6 σ)))
set_option maxHeartbeats 4000000 in
set_option maxRecDepth 100000 in
theorem e_X12_game_h80 {N : Nat} {x3 : Int32} {x4 : Int32} {x5 : Int32} {x6 : Int32} {σ : Sg} {z : Nat × Int32 × Int32 × Int32 × Sg} (C : Cx p s m args meth c cX12_game 7 (some .int) RX12 g A X) (hf : s_X12_game_h80 N x3 x4 x5 x6 σ = some z) (k0 : z.1 = 0 → Bk mw p l e rm_X12_game s m args below meth c 7 g A Q 0 0 80 [(0, .ref (g.2.2 0)), (3, .int x3), (4, .int z.2.1), (5, .int z.2.2.1), (6, .int z.2.2.2.1)] [] z.2.2.2.2) (k : ¬ z.1 = 0 → Bk mw p l e rm_X12_game s m args below meth c 7 g A Q 0 0 173 [(3, .int x3), (4, .int z.2.1), (5, .int z.2.2.1)] [] z.2.2.2.2) : Bk mw p l e rm_X12_game s m args below meth c 7 g A Q 0 0 80 [(0, .ref (g.2.2 0)), (3, .int x3), (4, .int x4), (5, .int x5), (6, .int x6)] [] σ := by
  obtain ⟨hx, hb, hr, hml, hown, hts, hK, hlocks, hXX, hA, hXo⟩ := id C
  intro H locs ls hP hD hS hl
  unfold s_X12_game_h80 at hf
  refine lv_iload hx hb dX12_game_80 (lv_at hl 4 rfl) ?_
  refine lv_iconst (v := (4 : Int32)) hx hb dX12_game_82 (by decide) ?_
  refine lv_icmp_ge (tgt := 173) hx hb dX12_game_83 (by decide) (fun t83 => ?_) (fun t83 => ?_)
  · have hf := (if_pos t83).symm.trans hf
    cases hf
    exact (k (show ¬ (1 : Nat) = 0 by decide)) H locs ls hP hD hS (lv_sub hl [1, 2, 3] rfl)
  · have hf := (if_neg t83).symm.trans hf
    refine lv_aload_n hx hb dX12_game_86 rfl (lv_at hl 0 rfl) ?_
    refine bk_get (wf := mw) (q0 := 0) (ci := 11) (k := 46) (v := .ref (g.2.2 29)) C hP wl_X12 rfl rfl (by decide) wa_186 rfl rfl dX12_game_87 ?_
    refine lv_iconst (v := (2 : Int32)) hx hb dX12_game_90 (by decide) ?_
    refine lv_iload hx hb dX12_game_91 (lv_at hl 4 rfl) ?_
    refine lv_iconst (v := (2 : Int32)) hx hb dX12_game_93 (by decide) ?_
    refine lv_ixor hx hb dX12_game_94 ?_
    refine lv_imul hx hb dX12_game_95 ?_
    obtain ⟨g2, hf⟩ := gd_s hf
    refine bk_iald (wf := mw) (q0 := 29) (n := 8) (j := ((2 : Int32) * (x6 ^^^ (2 : Int32))).toNatClampNeg) C hP rfl g2 rfl dX12_game_96 ?_
    refine lv_aload_n hx hb dX12_game_97 rfl (lv_at hl 0 rfl) ?_
    refine bk_get (wf := mw) (q0 := 0) (ci := 11) (k := 46) (v := .ref (g.2.2 29)) C hP wl_X12 rfl rfl (by decide) wa_186 rfl rfl dX12_game_98 ?_
    refine lv_iconst (v := (2 : Int32)) hx hb dX12_game_101 (by decide) ?_
    refine lv_iload hx hb dX12_game_102 (lv_at hl 4 rfl) ?_
    refine lv_imul hx hb dX12_game_104 ?_
    obtain ⟨g3, hf⟩ := gd_s hf
    refine bk_iald (wf := mw) (q0 := 29) (n := 8) (j := ((2 : Int32) * x6).toNatClampNeg) C hP rfl g3 rfl dX12_game_105 ?_
    refine lv_icmp_gt (tgt := 167) hx hb dX12_game_106 (by decide) (fun t106 => ?_) (fun t106 => ?_)
    · have hf := (if_pos t106).symm.trans hf
      exact b_X12_game_b167 C hf k0 k H locs ls hP hD hS (lv_sub hl [0, 1, 2, 3, 4] rfl)
    · have hf := (if_neg t106).symm.trans hf
      refine lv_aload_n hx hb dX12_game_109 rfl (lv_at hl 0 rfl) ?_
      refine bk_get (wf := mw) (q0 := 0) (ci := 11) (k := 46) (v := .ref (g.2.2 29)) C hP wl_X12 rfl rfl (by decide) wa_186 rfl rfl dX12_game_110 ?_
      refine lv_iconst (v := (2 : Int32)) hx hb dX12_game_113 (by decide) ?_
      refine lv_iload hx hb dX12_game_114 (lv_at hl 4 rfl) ?_
      refine lv_iconst (v := (1 : Int32)) hx hb dX12_game_116 (by decide) ?_
      refine lv_ixor hx hb dX12_game_117 ?_
      refine lv_imul hx hb dX12_game_118 ?_
      refine lv_iconst (v := (1 : Int32)) hx hb dX12_game_119 (by decide) ?_
      refine lv_iadd hx hb dX12_game_120 ?_
      obtain ⟨g4, hf⟩ := gd_s hf
      refine bk_iald (wf := mw) (q0 := 29) (n := 8) (j := (((2 : Int32) * (x6 ^^^ (1 : Int32))) + (1 : Int32)).toNatClampNeg) C hP rfl g4 rfl dX12_game_121 ?_
      refine lv_aload_n hx hb dX12_game_122 rfl (lv_at hl 0 rfl) ?_
      refine bk_get (wf := mw) (q0 := 0) (ci := 11) (k := 46) (v := .ref (g.2.2 29)) C hP wl_X12 rfl rfl (by decide) wa_186 rfl rfl dX12_game_123 ?_
      refine lv_iconst (v := (2 : Int32)) hx hb dX12_game_126 (by decide) ?_
      refine lv_iload hx hb dX12_game_127 (lv_at hl 4 rfl) ?_
      refine lv_imul hx hb dX12_game_129 ?_
      refine lv_iconst (v := (1 : Int32)) hx hb dX12_game_130 (by decide) ?_
      refine lv_iadd hx hb dX12_game_131 ?_
      obtain ⟨g5, hf⟩ := gd_s hf
      refine bk_iald (wf := mw) (q0 := 29) (n := 8) (j := (((2 : Int32) * x6) + (1 : Int32)).toNatClampNeg) C hP rfl g5 rfl dX12_game_132 ?_
      refine lv_icmp_le (tgt := 139) hx hb dX12_game_133 (by decide) (fun t133 => ?_) (fun t133 => ?_)
      · have hf := (if_pos t133).symm.trans hf
        obtain ⟨v6, ev6, hf⟩ := bd_s hf
        refine lv_iinc (v := v6) (lv' := [(4, .int v6), (0, .ref (g.2.2 0)), (3, .int x3), (5, .int x5), (6, .int x6)]) hx hb dX12_game_139 hl (k := 2) rfl (by rw [ev6]; rfl) (by decide) rfl (fun ls hl => ?_)
        refine lv_iload hx hb dX12_game_142 (lv_at hl 3 rfl) ?_
        refine lv_iconst (v := (-1 : Int32)) hx hb dX12_game_144 (by decide) ?_
        refine lv_icmp_ne (tgt := 163) hx hb dX12_game_145 (by decide) (fun t145 => ?_) (fun t145 => ?_)
        · have hf := (if_neg t145).symm.trans hf
          refine lv_iload hx hb dX12_game_163 (lv_at hl 3 rfl) ?_
          exact b_X12_game_b165 C hf k0 k H locs ls hP hD hS (lv_sub hl [1, 2, 0, 4] rfl)
        · have hf := (if_pos t145).symm.trans hf
          refine lv_bipush (v := (10 : Int32)) hx hb dX12_game_148 (by decide) ?_
          refine lv_iload hx hb dX12_game_150 (lv_at hl 4 rfl) ?_
          refine lv_iconst (v := (2 : Int32)) hx hb dX12_game_152 (by decide) ?_
          refine lv_idiv hx hb dX12_game_153 (by decide) ?_
          refine lv_imul hx hb dX12_game_154 ?_
          refine lv_iload hx hb dX12_game_155 (lv_at hl 4 rfl) ?_
          refine lv_iconst (v := (2 : Int32)) hx hb dX12_game_157 (by decide) ?_
          refine lv_irem hx hb dX12_game_158 (by decide) ?_
          refine lv_iadd hx hb dX12_game_159 ?_
          refine lv_goto (tgt := 165) hx hb dX12_game_160 (by decide) ?_
          exact b_X12_game_b165 C hf k0 k H locs ls hP hD hS (lv_sub hl [1, 2, 0, 4] rfl)
      · have hf := (if_neg t133).symm.trans hf
        refine lv_goto (tgt := 167) hx hb dX12_game_136 (by decide) ?_
        exact b_X12_game_b167 C hf k0 k H locs ls hP hD hS (lv_sub hl [0, 1, 2, 3, 4] rfl)
theorem lp_X12_game_h80 {N : Nat} {n : Nat} {x3 : Int32} {x4 : Int32} {x5 : Int32} {x6 : Int32} {σ : Sg} {z : Nat × Int32 × Int32 × Int32 × Sg} (C : Cx p s m args meth c cX12_game 7 (some .int) RX12 g A X) (hz : it (fun q => s_X12_game_h80 N x3 q.1 q.2.1 q.2.2.1 q.2.2.2) n (x4, x5, x6, σ) = some z) (k : Bk mw p l e rm_X12_game s m args below meth c 7 g A Q 0 0 173 [(3, .int x3), (4, .int z.2.1), (5, .int z.2.2.1)] [] z.2.2.2.2) : Bk mw p l e rm_X12_game s m args below meth c 7 g A Q 0 0 80 [(0, .ref (g.2.2 0)), (3, .int x3), (4, .int x4), (5, .int x5), (6, .int x6)] [] σ :=
  it_W (S := Int32 × Int32 × Int32 × Sg) (fun q => Bk mw p l e rm_X12_game s m args below meth c 7 g A Q 0 0 80 [(0, .ref (g.2.2 0)), (3, .int x3), (4, .int q.1), (5, .int q.2.1), (6, .int q.2.2.1)] [] q.2.2.2) (fun z => Bk mw p l e rm_X12_game s m args below meth c 7 g A Q 0 0 173 [(3, .int x3), (4, .int z.2.1), (5, .int z.2.2.1)] [] z.2.2.2.2) (fun q z hq k0 k => e_X12_game_h80 C hq k0 k) n (x4, x5, x6, σ) z hz k
def f_X12_game_b63 (N : Nat) (σ : Sg) : Option (Int32 × Sg) :=
some ((-1 : Int32), σ)
set_option maxHeartbeats 4000000 in
set_option maxRecDepth 100000 in
theorem b_X12_game_b63 {N : Nat} {σ : Sg} {z : Int32 × Sg} (C : Cx p s m args meth c cX12_game 7 (some .int) RX12 g A X) (hf : f_X12_game_b63 N σ = some z) : Bk mw p l e rm_X12_game s m args below meth c 7 g A (MQ below (qI mw g A z.1 z.2) args s 0 0 A) 0 0 63 [] [] σ := by
  obtain ⟨hx, hb, hr, hml, hown, hts, hK, hlocks, hXX, hA, hXo⟩ := id C
  intro H locs ls hP hD hS hl
  unfold f_X12_game_b63 at hf
  refine lv_iconst (v := (-1 : Int32)) hx hb dX12_game_63 (by decide) ?_
  cases hf
  exact bk_iret C hP hD hS rfl dX12_game_64
def f_X12_game_b30 (N : Nat) (σ : Sg) : Option (Int32 × Sg) :=
(f_X12_fail N (1 : Int32) σ).bind fun q7 =>
some (q7.1, (q7.2))
set_option maxHeartbeats 4000000 in
set_option maxRecDepth 100000 in
theorem b_X12_game_b30 {N : Nat} {σ : Sg} {z : Int32 × Sg} (C : Cx p s m args meth c cX12_game 7 (some .int) RX12 g A X) (hf : f_X12_game_b30 N σ = some z) : Bk mw p l e rm_X12_game s m args below meth c 7 g A (MQ below (qI mw g A z.1 z.2) args s 0 0 A) 0 0 30 [(0, .ref (g.2.2 0))] [] σ := by
  obtain ⟨hx, hb, hr, hml, hown, hts, hK, hlocks, hXX, hA, hXo⟩ := id C
  intro H locs ls hP hD hS hl
  unfold f_X12_game_b30 at hf
  refine lv_aload_n hx hb dX12_game_30 rfl (lv_at hl 0 rfl) ?_
  refine lv_iconst (v := (1 : Int32)) hx hb dX12_game_31 (by decide) ?_
  obtain ⟨q7, hq7, hf⟩ := bi_s hf
  refine bk_VI (wf := mw) (q0 := 0) (ci := 11) (rest := []) [.int (1 : Int32)] C hP hD hS hl.1 (c_X12_fail hXo hq7) (cwA_V 1 hts wa_512 wa_509 wa_510 wa_511 wa_5 rfl rfl nd_X12_fail ⟨Nat.le_of_ble_eq_true rfl, Nat.le_of_ble_eq_true rfl⟩) rfl rfl rfl rfl (Nat.le_of_ble_eq_true rfl) dX12_game_32 ⟨Nat.le_of_ble_eq_true rfl, Nat.le_of_ble_eq_true rfl⟩ (fun H locs hP hD hS => ?_)
  cases hf
  exact bk_iret C hP hD hS rfl dX12_game_35
def f_X12_game (N : Nat) (x1 : Int32) (x2 : Int32) (x3 : Int32) (σ : Sg) : Option (Int32 × Sg) :=
bd (wr σ 0 2 (0 : Int32)) fun σ8 =>
(f_X12_isFarm N x1 σ8).bind fun q9 =>
if q9.1 = 0 then (f_X12_game_b30 N (q9.2))
else ((f_X12_isFarm N x2 (q9.2)).bind fun q10 =>
if q10.1 = 0 then (f_X12_game_b30 N (q10.2))
else (if x3 < 0 then (f_X12_game_b30 N (q10.2))
else (if x3 ≤ (1 : Int32) then (if x1 = x2 then ((f_X12_fail N (2 : Int32) (q10.2)).bind fun q15 =>
some (q15.1, (q15.2)))
else ((f_X12_isAsleep N x1 (q10.2)).bind fun q11 =>
if q11.1 = 0 then ((f_X12_isAsleep N x2 (q11.2)).bind fun q12 =>
if q12.1 = 0 then ((f_X12_tellGains N x1 x2 (q12.2)).bind fun q13 =>
(it (fun q => s_X12_game_h80 N x3 q.1 q.2.1 q.2.2.1 q.2.2.2) N ((0 : Int32), (-1 : Int32), (0 : Int32), q13)).bind fun z14 =>
if x3 = 0 then (some ((z14.2.1), (z14.2.2.2.2)))
else (some ((z14.2.2.1), (z14.2.2.2.2))))
else (f_X12_game_b63 N (q12.2)))
else (f_X12_game_b63 N (q11.2))))
else (f_X12_game_b30 N (q10.2)))))
set_option maxHeartbeats 4000000 in
set_option maxRecDepth 100000 in
theorem b_X12_game {N : Nat} {x1 : Int32} {x2 : Int32} {x3 : Int32} {σ : Sg} {z : Int32 × Sg} (C : Cx p s m args meth c cX12_game 7 (some .int) RX12 g A X) (hf : f_X12_game N x1 x2 x3 σ = some z) : Bk mw p l e rm_X12_game s m args below meth c 7 g A (MQ below (qI mw g A z.1 z.2) args s 0 0 A) 0 0 0 [(0, .ref (g.2.2 0)), (1, .int x1), (2, .int x2), (3, .int x3)] [] σ := by
  obtain ⟨hx, hb, hr, hml, hown, hts, hK, hlocks, hXX, hA, hXo⟩ := id C
  intro H locs ls hP hD hS hl
  unfold f_X12_game at hf
  refine lv_aload_n hx hb dX12_game_0 rfl (lv_at hl 0 rfl) ?_
  refine lv_iconst (v := (0 : Int32)) hx hb dX12_game_1 (by decide) ?_
  obtain ⟨σ8, eσ8, hf⟩ := bd_s hf
  refine bk_put (wf := mw) (σ1 := σ8) (q0 := 0) (ci := 11) (k := 2) (v := .int (0 : Int32)) C hP hD hS wl_X12 tyX12_ok nmX12 rfl rfl (by decide) wa_205 rfl rfl rfl rfl rfl (Nat.le_of_ble_eq_true rfl) (by rw [eσ8]; exact mw_p0_2 g _ _) dX12_game_2 (fun H locs hP hD hS => ?_)
  refine lv_aload_n hx hb dX12_game_5 rfl (lv_at hl 0 rfl) ?_
  refine lv_iload_n hx hb dX12_game_6 rfl (lv_at hl 1 rfl) ?_
  obtain ⟨q9, hq9, hf⟩ := bi_s hf
  refine bk_VI (wf := mw) (q0 := 0) (ci := 11) (rest := []) [.int x1] C hP hD hS hl.1 (c_X12_isFarm hXo hq9) (cwA_V 1 hts wa_800 wa_797 wa_798 wa_799 wa_5 rfl rfl nd_X12_isFarm ⟨Nat.le_of_ble_eq_true rfl, Nat.le_of_ble_eq_true rfl⟩) rfl rfl rfl rfl (Nat.le_of_ble_eq_true rfl) dX12_game_7 ⟨Nat.le_of_ble_eq_true rfl, Nat.le_of_ble_eq_true rfl⟩ (fun H locs hP hD hS => ?_)
  refine lv_if_eq (tgt := 30) hx hb dX12_game_10 (by decide) (fun t10 => ?_) (fun t10 => ?_)
  · have hf := (if_pos t10).symm.trans hf
    exact b_X12_game_b30 C hf H locs ls hP hD hS (lv_sub hl [0] rfl)
  · have hf := (if_neg t10).symm.trans hf
    refine lv_aload_n hx hb dX12_game_13 rfl (lv_at hl 0 rfl) ?_
    refine lv_iload_n hx hb dX12_game_14 rfl (lv_at hl 2 rfl) ?_
    obtain ⟨q10, hq10, hf⟩ := bi_s hf
    refine bk_VI (wf := mw) (q0 := 0) (ci := 11) (rest := []) [.int x2] C hP hD hS hl.1 (c_X12_isFarm hXo hq10) (cwA_V 1 hts wa_800 wa_797 wa_798 wa_799 wa_5 rfl rfl nd_X12_isFarm ⟨Nat.le_of_ble_eq_true rfl, Nat.le_of_ble_eq_true rfl⟩) rfl rfl rfl rfl (Nat.le_of_ble_eq_true rfl) dX12_game_15 ⟨Nat.le_of_ble_eq_true rfl, Nat.le_of_ble_eq_true rfl⟩ (fun H locs hP hD hS => ?_)
    refine lv_if_eq (tgt := 30) hx hb dX12_game_18 (by decide) (fun t18 => ?_) (fun t18 => ?_)
    · have hf := (if_pos t18).symm.trans hf
      exact b_X12_game_b30 C hf H locs ls hP hD hS (lv_sub hl [0] rfl)
    · have hf := (if_neg t18).symm.trans hf
      refine lv_iload_n hx hb dX12_game_21 rfl (lv_at hl 3 rfl) ?_
      refine lv_if_lt (tgt := 30) hx hb dX12_game_22 (by decide) (fun t22 => ?_) (fun t22 => ?_)
      · have hf := (if_pos t22).symm.trans hf
        exact b_X12_game_b30 C hf H locs ls hP hD hS (lv_sub hl [0] rfl)
      · have hf := (if_neg t22).symm.trans hf
        refine lv_iload_n hx hb dX12_game_25 rfl (lv_at hl 3 rfl) ?_
        refine lv_iconst (v := (1 : Int32)) hx hb dX12_game_26 (by decide) ?_
        refine lv_icmp_le (tgt := 36) hx hb dX12_game_27 (by decide) (fun t27 => ?_) (fun t27 => ?_)
        · have hf := (if_pos t27).symm.trans hf
          refine lv_iload_n hx hb dX12_game_36 rfl (lv_at hl 1 rfl) ?_
          refine lv_iload_n hx hb dX12_game_37 rfl (lv_at hl 2 rfl) ?_
          refine lv_icmp_ne (tgt := 47) hx hb dX12_game_38 (by decide) (fun t38 => ?_) (fun t38 => ?_)
          · have hf := (if_neg t38).symm.trans hf
            refine lv_aload_n hx hb dX12_game_47 rfl (lv_at hl 0 rfl) ?_
            refine lv_iload_n hx hb dX12_game_48 rfl (lv_at hl 1 rfl) ?_
            obtain ⟨q11, hq11, hf⟩ := bi_s hf
            refine bk_VI (wf := mw) (q0 := 0) (ci := 11) (rest := []) [.int x1] C hP hD hS hl.1 (c_X12_isAsleep hXo hq11) (cwA_V 1 hts wa_943 wa_940 wa_941 wa_942 wa_5 rfl rfl nd_X12_isAsleep ⟨Nat.le_of_ble_eq_true rfl, Nat.le_of_ble_eq_true rfl⟩) rfl rfl rfl rfl (Nat.le_of_ble_eq_true rfl) dX12_game_49 ⟨Nat.le_of_ble_eq_true rfl, Nat.le_of_ble_eq_true rfl⟩ (fun H locs hP hD hS => ?_)
            refine lv_if_ne (tgt := 63) hx hb dX12_game_52 (by decide) (fun t52 => ?_) (fun t52 => ?_)
            · have hf := (if_neg t52).symm.trans hf
              exact b_X12_game_b63 C hf H locs ls hP hD hS (lv_sub hl [] rfl)
            · have hf := (if_pos t52).symm.trans hf
              refine lv_aload_n hx hb dX12_game_55 rfl (lv_at hl 0 rfl) ?_
              refine lv_iload_n hx hb dX12_game_56 rfl (lv_at hl 2 rfl) ?_
              obtain ⟨q12, hq12, hf⟩ := bi_s hf
              refine bk_VI (wf := mw) (q0 := 0) (ci := 11) (rest := []) [.int x2] C hP hD hS hl.1 (c_X12_isAsleep hXo hq12) (cwA_V 1 hts wa_943 wa_940 wa_941 wa_942 wa_5 rfl rfl nd_X12_isAsleep ⟨Nat.le_of_ble_eq_true rfl, Nat.le_of_ble_eq_true rfl⟩) rfl rfl rfl rfl (Nat.le_of_ble_eq_true rfl) dX12_game_57 ⟨Nat.le_of_ble_eq_true rfl, Nat.le_of_ble_eq_true rfl⟩ (fun H locs hP hD hS => ?_)
              refine lv_if_eq (tgt := 65) hx hb dX12_game_60 (by decide) (fun t60 => ?_) (fun t60 => ?_)
              · have hf := (if_pos t60).symm.trans hf
                refine lv_aload_n hx hb dX12_game_65 rfl (lv_at hl 0 rfl) ?_
                refine lv_iload_n hx hb dX12_game_66 rfl (lv_at hl 1 rfl) ?_
                refine lv_iload_n hx hb dX12_game_67 rfl (lv_at hl 2 rfl) ?_
                obtain ⟨q13, hq13, hf⟩ := bi_s hf
                refine bk_VV (wf := mw) (q0 := 0) (ci := 11) (rest := []) [.int x1, .int x2] C hP hD hS hl.1 (c_X12_tellGains hXo hq13) (cwA_V 2 hts wa_1386 wa_1383 wa_1384 wa_1385 wa_5 rfl rfl nd_X12_tellGains ⟨Nat.le_of_ble_eq_true rfl, Nat.le_of_ble_eq_true rfl⟩) rfl rfl rfl rfl (Nat.le_of_ble_eq_true rfl) dX12_game_68 ⟨Nat.le_of_ble_eq_true rfl, Nat.le_of_ble_eq_true rfl⟩ (fun H locs hP hD hS => ?_)
                refine lv_iconst (v := (0 : Int32)) hx hb dX12_game_71 (by decide) ?_
                refine lv_istore (lv' := [(4, .int (0 : Int32)), (0, .ref (g.2.2 0)), (1, .int x1), (2, .int x2), (3, .int x3)]) hx hb dX12_game_72 hl (by decide) rfl (fun ls hl => ?_)
                refine lv_iconst (v := (-1 : Int32)) hx hb dX12_game_74 (by decide) ?_
                refine lv_istore (lv' := [(5, .int (-1 : Int32)), (4, .int (0 : Int32)), (0, .ref (g.2.2 0)), (1, .int x1), (2, .int x2), (3, .int x3)]) hx hb dX12_game_75 hl (by decide) rfl (fun ls hl => ?_)
                refine lv_iconst (v := (0 : Int32)) hx hb dX12_game_77 (by decide) ?_
                refine lv_istore (lv' := [(6, .int (0 : Int32)), (5, .int (-1 : Int32)), (4, .int (0 : Int32)), (0, .ref (g.2.2 0)), (1, .int x1), (2, .int x2), (3, .int x3)]) hx hb dX12_game_78 hl (by decide) rfl (fun ls hl => ?_)
                obtain ⟨z14, hz14, hf⟩ := bi_s hf
                refine lp_X12_game_h80 C hz14 ?_ H locs ls hP hD hS (lv_sub hl [3, 6, 2, 1, 0] rfl)
                intro H locs ls hP hD hS hl
                refine lv_iload_n hx hb dX12_game_173 rfl (lv_at hl 0 rfl) ?_
                refine lv_if_ne (tgt := 182) hx hb dX12_game_174 (by decide) (fun t174 => ?_) (fun t174 => ?_)
                · have hf := (if_neg t174).symm.trans hf
                  refine lv_iload hx hb dX12_game_182 (lv_at hl 2 rfl) ?_
                  cases hf
                  exact bk_iret C hP hD hS rfl dX12_game_184
                · have hf := (if_pos t174).symm.trans hf
                  refine lv_iload hx hb dX12_game_177 (lv_at hl 1 rfl) ?_
                  refine lv_goto (tgt := 184) hx hb dX12_game_179 (by decide) ?_
                  cases hf
                  exact bk_iret C hP hD hS rfl dX12_game_184
              · have hf := (if_neg t60).symm.trans hf
                exact b_X12_game_b63 C hf H locs ls hP hD hS (lv_sub hl [] rfl)
          · have hf := (if_pos t38).symm.trans hf
            refine lv_aload_n hx hb dX12_game_41 rfl (lv_at hl 0 rfl) ?_
            refine lv_iconst (v := (2 : Int32)) hx hb dX12_game_42 (by decide) ?_
            obtain ⟨q15, hq15, hf⟩ := bi_s hf
            refine bk_VI (wf := mw) (q0 := 0) (ci := 11) (rest := []) [.int (2 : Int32)] C hP hD hS hl.1 (c_X12_fail hXo hq15) (cwA_V 1 hts wa_512 wa_509 wa_510 wa_511 wa_5 rfl rfl nd_X12_fail ⟨Nat.le_of_ble_eq_true rfl, Nat.le_of_ble_eq_true rfl⟩) rfl rfl rfl rfl (Nat.le_of_ble_eq_true rfl) dX12_game_43 ⟨Nat.le_of_ble_eq_true rfl, Nat.le_of_ble_eq_true rfl⟩ (fun H locs hP hD hS => ?_)
            cases hf
            exact bk_iret C hP hD hS rfl dX12_game_46
        · have hf := (if_neg t27).symm.trans hf
          exact b_X12_game_b30 C hf H locs ls hP hD hS (lv_sub hl [0] rfl)
theorem c_X12_game {N : Nat} {x1 : Int32} {x2 : Int32} {x3 : Int32} {σ : Sg} {z : Int32 × Sg} (hX : xOK g X) (hf : f_X12_game N x1 x2 x3 σ = some z) : MetI l yX12_game (Cond.code yX12_game cX12_game 7 (some .int) :: wsA) rm_X12_game mw g X [.ref (g.2.2 0), .int x1, .int x2, .int x3] σ z.1 z.2 :=
  MetI_of hX (by decide) (Nat.le_of_ble_eq_true rfl) (fun p e s m args below meth c A C => b_X12_game C hf)
-- X12_drawOf: drawOf(I)I
abbrev rm_X12_drawOf : Room := { frames := 0, cells := 0, slots := 0, locals := 0 }
theorem nd_X12_drawOf : yX12_drawOf.cls ≠ "java/lang/invoke/MethodHandle" ∧ yX12_drawOf.cls ≠ "java/lang/invoke/VarHandle" ∧ (parseMethodDescriptor yX12_drawOf.desc).map (fun d => d.parameters.length) = some 1 := by decide +kernel
def f_X12_drawOf (N : Nat) (x1 : Int32) (σ : Sg) : Option (Int32 × Sg) :=
bd (wr σ 0 47 (((σ 0 47) * (1103515245 : Int32)) + (12345 : Int32))) fun σ1 =>
if x1 = 0 then none else
some (((((σ1 0 47) >>> ((16 : Int32) &&& 31)) &&& (32767 : Int32)) - (((σ1 0 47) >>> ((16 : Int32) &&& 31)) &&& (32767 : Int32)) / x1 * x1), σ1)
set_option maxHeartbeats 4000000 in
set_option maxRecDepth 100000 in
theorem b_X12_drawOf {N : Nat} {x1 : Int32} {σ : Sg} {z : Int32 × Sg} (C : Cx p s m args meth c cX12_drawOf 2 (some .int) RX12 g A X) (hf : f_X12_drawOf N x1 σ = some z) : Bk mw p l e rm_X12_drawOf s m args below meth c 2 g A (MQ below (qI mw g A z.1 z.2) args s 0 0 A) 0 0 0 [(0, .ref (g.2.2 0)), (1, .int x1)] [] σ := by
  obtain ⟨hx, hb, hr, hml, hown, hts, hK, hlocks, hXX, hA, hXo⟩ := id C
  intro H locs ls hP hD hS hl
  unfold f_X12_drawOf at hf
  refine lv_aload_n hx hb dX12_drawOf_0 rfl (lv_at hl 0 rfl) ?_
  refine lv_aload_n hx hb dX12_drawOf_1 rfl (lv_at hl 0 rfl) ?_
  refine bk_get (wf := mw) (q0 := 0) (ci := 11) (k := 47) (v := .int (σ 0 47)) C hP wl_X12 rfl rfl (by decide) wa_1408 rfl rfl dX12_drawOf_2 ?_
  refine lv_ldcw (v := (1103515245 : Int32)) hx hb hown (hts _ wa_1417) dX12_drawOf_5 ?_
  refine lv_imul hx hb dX12_drawOf_8 ?_
  refine lv_sipush (v := (12345 : Int32)) hx hb dX12_drawOf_9 (by decide) ?_
  refine lv_iadd hx hb dX12_drawOf_12 ?_
  obtain ⟨σ1, eσ1, hf⟩ := bd_s hf
  refine bk_put (wf := mw) (σ1 := σ1) (q0 := 0) (ci := 11) (k := 47) (v := .int (((σ 0 47) * (1103515245 : Int32)) + (12345 : Int32))) C hP hD hS wl_X12 tyX12_ok nmX12 rfl rfl (by decide) wa_1408 rfl rfl rfl rfl rfl (Nat.le_of_ble_eq_true rfl) (by rw [eσ1]; exact mw_p0_47 g _ _) dX12_drawOf_13 (fun H locs hP hD hS => ?_)
  refine lv_aload_n hx hb dX12_drawOf_16 rfl (lv_at hl 0 rfl) ?_
  refine bk_get (wf := mw) (q0 := 0) (ci := 11) (k := 47) (v := .int (σ1 0 47)) C hP wl_X12 rfl rfl (by decide) wa_1408 rfl rfl dX12_drawOf_17 ?_
  refine lv_bipush (v := (16 : Int32)) hx hb dX12_drawOf_20 (by decide) ?_
  refine lv_ishr hx hb dX12_drawOf_22 ?_
  refine lv_sipush (v := (32767 : Int32)) hx hb dX12_drawOf_23 (by decide) ?_
  refine lv_iand hx hb dX12_drawOf_26 ?_
  refine lv_iload_n hx hb dX12_drawOf_27 rfl (lv_at hl 1 rfl) ?_
  obtain ⟨g2, hf⟩ := gd_s hf
  refine lv_irem hx hb dX12_drawOf_28 g2 ?_
  cases hf
  exact bk_iret C hP hD hS rfl dX12_drawOf_29
theorem c_X12_drawOf {N : Nat} {x1 : Int32} {σ : Sg} {z : Int32 × Sg} (hX : xOK g X) (hf : f_X12_drawOf N x1 σ = some z) : MetI l yX12_drawOf (Cond.code yX12_drawOf cX12_drawOf 2 (some .int) :: wsA) rm_X12_drawOf mw g X [.ref (g.2.2 0), .int x1] σ z.1 z.2 :=
  MetI_of hX (by decide) (Nat.le_of_ble_eq_true rfl) (fun p e s m args below meth c A C => b_X12_drawOf C hf)
-- X12_something: something()V
abbrev rm_X12_something : Room := { frames := 3, cells := 0, slots := 0, locals := 63 }
theorem nd_X12_something : yX12_something.cls ≠ "java/lang/invoke/MethodHandle" ∧ yX12_something.cls ≠ "java/lang/invoke/VarHandle" ∧ (parseMethodDescriptor yX12_something.desc).map (fun d => d.parameters.length) = some 0 := by decide +kernel
def f_X12_something_b78 (N : Nat) (σ : Sg) : Option (Sg) :=
(f_X12_drawOf N (10 : Int32) σ).bind fun q1 =>
bd (wr (q1.2) 0 32 q1.1) fun σ2 =>
some σ2
set_option maxHeartbeats 4000000 in
set_option maxRecDepth 100000 in
theorem b_X12_something_b78 {N : Nat} {σ : Sg} {z : Sg} (C : Cx p s m args meth c cX12_something 3 none RX12 g A X) (hf : f_X12_something_b78 N σ = some z) : Bk mw p l e rm_X12_something s m args below meth c 3 g A (MQ below (qV mw g A z) args s 0 0 A) 0 0 78 [(0, .ref (g.2.2 0))] [] σ := by
  obtain ⟨hx, hb, hr, hml, hown, hts, hK, hlocks, hXX, hA, hXo⟩ := id C
  intro H locs ls hP hD hS hl
  unfold f_X12_something_b78 at hf
  refine lv_aload_n hx hb dX12_something_78 rfl (lv_at hl 0 rfl) ?_
  refine lv_aload_n hx hb dX12_something_79 rfl (lv_at hl 0 rfl) ?_
  refine lv_bipush (v := (10 : Int32)) hx hb dX12_something_80 (by decide) ?_
  obtain ⟨q1, hq1, hf⟩ := bi_s hf
  refine bk_VI (wf := mw) (q0 := 0) (ci := 11) (rest := [.ref (g.2.2 0)]) [.int (10 : Int32)] C hP hD hS hl.1 (c_X12_drawOf hXo hq1) (cwA_V 1 hts wa_1416 wa_1413 wa_1414 wa_1415 wa_5 rfl rfl nd_X12_drawOf ⟨Nat.le_of_ble_eq_true rfl, Nat.le_of_ble_eq_true rfl⟩) rfl rfl rfl rfl (Nat.le_of_ble_eq_true rfl) dX12_something_82 ⟨Nat.le_of_ble_eq_true rfl, Nat.le_of_ble_eq_true rfl⟩ (fun H locs hP hD hS => ?_)
  obtain ⟨σ2, eσ2, hf⟩ := bd_s hf
  refine bk_put (wf := mw) (σ1 := σ2) (q0 := 0) (ci := 11) (k := 32) (v := .int q1.1) C hP hD hS wl_X12 tyX12_ok nmX12 rfl rfl (by decide) wa_173 rfl rfl rfl rfl rfl (Nat.le_of_ble_eq_true rfl) (by rw [eσ2]; exact mw_p0_32 g _ _) dX12_something_85 (fun H locs hP hD hS => ?_)
  cases hf
  exact bk_vret C hP hD hS rfl dX12_something_88
def f_X12_something_b61 (N : Nat) (x1 : Int32) (x2 : Int32) (σ : Sg) : Option (Sg) :=
if x1 = (2 : Int32) then ((f_X12_drawOf N (21 : Int32) σ).bind fun q3 =>
if (x2 < 0 ∨ 9 ≤ x2.toNatClampNeg) then none else
bd (wr (q3.2) 16 (x2.toNatClampNeg) q3.1) fun σ5 =>
f_X12_something_b78 N σ5)
else (f_X12_something_b78 N σ)
set_option maxHeartbeats 4000000 in
set_option maxRecDepth 100000 in
theorem b_X12_something_b61 {N : Nat} {x1 : Int32} {x2 : Int32} {σ : Sg} {z : Sg} (C : Cx p s m args meth c cX12_something 3 none RX12 g A X) (hf : f_X12_something_b61 N x1 x2 σ = some z) : Bk mw p l e rm_X12_something s m args below meth c 3 g A (MQ below (qV mw g A z) args s 0 0 A) 0 0 61 [(0, .ref (g.2.2 0)), (1, .int x1), (2, .int x2)] [] σ := by
  obtain ⟨hx, hb, hr, hml, hown, hts, hK, hlocks, hXX, hA, hXo⟩ := id C
  intro H locs ls hP hD hS hl
  unfold f_X12_something_b61 at hf
  refine lv_iload_n hx hb dX12_something_61 rfl (lv_at hl 1 rfl) ?_
  refine lv_iconst (v := (2 : Int32)) hx hb dX12_something_62 (by decide) ?_
  refine lv_icmp_ne (tgt := 78) hx hb dX12_something_63 (by decide) (fun t63 => ?_) (fun t63 => ?_)
  · have hf := (if_neg t63).symm.trans hf
    exact b_X12_something_b78 C hf H locs ls hP hD hS (lv_sub hl [0] rfl)
  · have hf := (if_pos t63).symm.trans hf
    refine lv_aload_n hx hb dX12_something_66 rfl (lv_at hl 0 rfl) ?_
    refine bk_get (wf := mw) (q0 := 0) (ci := 11) (k := 26) (v := .ref (g.2.2 16)) C hP wl_X12 rfl rfl (by decide) wa_171 rfl rfl dX12_something_67 ?_
    refine lv_iload_n hx hb dX12_something_70 rfl (lv_at hl 2 rfl) ?_
    refine lv_aload_n hx hb dX12_something_71 rfl (lv_at hl 0 rfl) ?_
    refine lv_bipush (v := (21 : Int32)) hx hb dX12_something_72 (by decide) ?_
    obtain ⟨q3, hq3, hf⟩ := bi_s hf
    refine bk_VI (wf := mw) (q0 := 0) (ci := 11) (rest := [.int x2, .ref (g.2.2 16)]) [.int (21 : Int32)] C hP hD hS hl.1 (c_X12_drawOf hXo hq3) (cwA_V 1 hts wa_1416 wa_1413 wa_1414 wa_1415 wa_5 rfl rfl nd_X12_drawOf ⟨Nat.le_of_ble_eq_true rfl, Nat.le_of_ble_eq_true rfl⟩) rfl rfl rfl rfl (Nat.le_of_ble_eq_true rfl) dX12_something_74 ⟨Nat.le_of_ble_eq_true rfl, Nat.le_of_ble_eq_true rfl⟩ (fun H locs hP hD hS => ?_)
    obtain ⟨g4, hf⟩ := gd_s hf
    obtain ⟨σ5, eσ5, hf⟩ := bd_s hf
    refine bk_iast (wf := mw) (σ1 := σ5) (q0 := 16) (n := 9) (j := x2.toNatClampNeg) C hP hD hS rfl g4 rfl (by rw [eσ5]; exact mw_a16 g _ _ _) dX12_something_77 (fun H locs hP hD hS => ?_)
    exact b_X12_something_b78 C hf H locs ls hP hD hS (lv_sub hl [0] rfl)
def f_X12_something_b51 (N : Nat) (x1 : Int32) (x2 : Int32) (σ : Sg) : Option (Sg) :=
if x1 = (1 : Int32) then ((f_X12_turnOver N x2 σ).bind fun q6 =>
f_X12_something_b61 N x1 x2 q6)
else (f_X12_something_b61 N x1 x2 σ)
set_option maxHeartbeats 4000000 in
set_option maxRecDepth 100000 in
theorem b_X12_something_b51 {N : Nat} {x1 : Int32} {x2 : Int32} {σ : Sg} {z : Sg} (C : Cx p s m args meth c cX12_something 3 none RX12 g A X) (hf : f_X12_something_b51 N x1 x2 σ = some z) : Bk mw p l e rm_X12_something s m args below meth c 3 g A (MQ below (qV mw g A z) args s 0 0 A) 0 0 51 [(0, .ref (g.2.2 0)), (1, .int x1), (2, .int x2)] [] σ := by
  obtain ⟨hx, hb, hr, hml, hown, hts, hK, hlocks, hXX, hA, hXo⟩ := id C
  intro H locs ls hP hD hS hl
  unfold f_X12_something_b51 at hf
  refine lv_iload_n hx hb dX12_something_51 rfl (lv_at hl 1 rfl) ?_
  refine lv_iconst (v := (1 : Int32)) hx hb dX12_something_52 (by decide) ?_
  refine lv_icmp_ne (tgt := 61) hx hb dX12_something_53 (by decide) (fun t53 => ?_) (fun t53 => ?_)
  · have hf := (if_neg t53).symm.trans hf
    exact b_X12_something_b61 C hf H locs ls hP hD hS (lv_sub hl [0, 1, 2] rfl)
  · have hf := (if_pos t53).symm.trans hf
    refine lv_aload_n hx hb dX12_something_56 rfl (lv_at hl 0 rfl) ?_
    refine lv_iload_n hx hb dX12_something_57 rfl (lv_at hl 2 rfl) ?_
    obtain ⟨q6, hq6, hf⟩ := bi_s hf
    refine bk_VV (wf := mw) (q0 := 0) (ci := 11) (rest := []) [.int x2] C hP hD hS hl.1 (c_X12_turnOver hXo hq6) (cwA_V 1 hts wa_966 wa_963 wa_964 wa_965 wa_5 rfl rfl nd_X12_turnOver ⟨Nat.le_of_ble_eq_true rfl, Nat.le_of_ble_eq_true rfl⟩) rfl rfl rfl rfl (Nat.le_of_ble_eq_true rfl) dX12_something_58 ⟨Nat.le_of_ble_eq_true rfl, Nat.le_of_ble_eq_true rfl⟩ (fun H locs hP hD hS => ?_)
    exact b_X12_something_b61 C hf H locs ls hP hD hS (lv_sub hl [0, 1, 2] rfl)
def f_X12_something (N : Nat) (σ : Sg) : Option (Sg) :=
(f_X12_drawOf N (6 : Int32) σ).bind fun q7 =>
bd q7.1 fun v8 =>
if (3 : Int32) ≤ v8 then (f_X12_something_b78 N (q7.2))
else (if ((q7.2) 3 0) ≤ 0 then (f_X12_something_b78 N (q7.2))
else ((f_X12_drawOf N ((q7.2) 3 0) (q7.2)).bind fun q9 =>
bd q9.1 fun v10 =>
if v8 = 0 then ((f_X12_isAsleep N v10 (q9.2)).bind fun q11 =>
if q11.1 = 0 then (if (v10 < 0 ∨ 9 ≤ v10.toNatClampNeg) then none else
bd (wr (q11.2) 13 (v10.toNatClampNeg) (1 : Int32)) fun σ13 =>
f_X12_something_b51 N v8 v10 σ13)
else (f_X12_something_b51 N v8 v10 (q11.2)))
else (f_X12_something_b51 N v8 v10 (q9.2))))
set_option maxHeartbeats 4000000 in
set_option maxRecDepth 100000 in
theorem b_X12_something {N : Nat} {σ : Sg} {z : Sg} (C : Cx p s m args meth c cX12_something 3 none RX12 g A X) (hf : f_X12_something N σ = some z) : Bk mw p l e rm_X12_something s m args below meth c 3 g A (MQ below (qV mw g A z) args s 0 0 A) 0 0 0 [(0, .ref (g.2.2 0))] [] σ := by
  obtain ⟨hx, hb, hr, hml, hown, hts, hK, hlocks, hXX, hA, hXo⟩ := id C
  intro H locs ls hP hD hS hl
  unfold f_X12_something at hf
  refine lv_aload_n hx hb dX12_something_0 rfl (lv_at hl 0 rfl) ?_
  refine lv_bipush (v := (6 : Int32)) hx hb dX12_something_1 (by decide) ?_
  obtain ⟨q7, hq7, hf⟩ := bi_s hf
  refine bk_VI (wf := mw) (q0 := 0) (ci := 11) (rest := []) [.int (6 : Int32)] C hP hD hS hl.1 (c_X12_drawOf hXo hq7) (cwA_V 1 hts wa_1416 wa_1413 wa_1414 wa_1415 wa_5 rfl rfl nd_X12_drawOf ⟨Nat.le_of_ble_eq_true rfl, Nat.le_of_ble_eq_true rfl⟩) rfl rfl rfl rfl (Nat.le_of_ble_eq_true rfl) dX12_something_3 ⟨Nat.le_of_ble_eq_true rfl, Nat.le_of_ble_eq_true rfl⟩ (fun H locs hP hD hS => ?_)
  obtain ⟨v8, ev8, hf⟩ := bd_s hf
  rw [← ev8]
  refine lv_istore_n (lv' := [(1, .int v8), (0, .ref (g.2.2 0))]) hx hb dX12_something_6 rfl hl (by decide) rfl (fun ls hl => ?_)
  refine lv_iload_n hx hb dX12_something_7 rfl (lv_at hl 0 rfl) ?_
  refine lv_iconst (v := (3 : Int32)) hx hb dX12_something_8 (by decide) ?_
  refine lv_icmp_ge (tgt := 78) hx hb dX12_something_9 (by decide) (fun t9 => ?_) (fun t9 => ?_)
  · have hf := (if_pos t9).symm.trans hf
    exact b_X12_something_b78 C hf H locs ls hP hD hS (lv_sub hl [1] rfl)
  · have hf := (if_neg t9).symm.trans hf
    refine lv_aload_n hx hb dX12_something_12 rfl (lv_at hl 1 rfl) ?_
    refine bk_get (wf := mw) (q0 := 0) (ci := 11) (k := 3) (v := .ref (g.2.2 3)) C hP wl_X12 rfl rfl (by decide) wa_157 rfl rfl dX12_something_13 ?_
    refine lv_iconst (v := (0 : Int32)) hx hb dX12_something_16 (by decide) ?_
    refine bk_iald (wf := mw) (q0 := 3) (n := 10) (j := 0) C hP rfl (vin_l (by decide) (by decide)) (by decide) dX12_something_17 ?_
    refine lv_if_le (tgt := 78) hx hb dX12_something_18 (by decide) (fun t18 => ?_) (fun t18 => ?_)
    · have hf := (if_pos t18).symm.trans hf
      exact b_X12_something_b78 C hf H locs ls hP hD hS (lv_sub hl [1] rfl)
    · have hf := (if_neg t18).symm.trans hf
      refine lv_aload_n hx hb dX12_something_21 rfl (lv_at hl 1 rfl) ?_
      refine lv_aload_n hx hb dX12_something_22 rfl (lv_at hl 1 rfl) ?_
      refine bk_get (wf := mw) (q0 := 0) (ci := 11) (k := 3) (v := .ref (g.2.2 3)) C hP wl_X12 rfl rfl (by decide) wa_157 rfl rfl dX12_something_23 ?_
      refine lv_iconst (v := (0 : Int32)) hx hb dX12_something_26 (by decide) ?_
      refine bk_iald (wf := mw) (q0 := 3) (n := 10) (j := 0) C hP rfl (vin_l (by decide) (by decide)) (by decide) dX12_something_27 ?_
      obtain ⟨q9, hq9, hf⟩ := bi_s hf
      refine bk_VI (wf := mw) (q0 := 0) (ci := 11) (rest := []) [.int ((q7.2) 3 0)] C hP hD hS hl.1 (c_X12_drawOf hXo hq9) (cwA_V 1 hts wa_1416 wa_1413 wa_1414 wa_1415 wa_5 rfl rfl nd_X12_drawOf ⟨Nat.le_of_ble_eq_true rfl, Nat.le_of_ble_eq_true rfl⟩) rfl rfl rfl rfl (Nat.le_of_ble_eq_true rfl) dX12_something_28 ⟨Nat.le_of_ble_eq_true rfl, Nat.le_of_ble_eq_true rfl⟩ (fun H locs hP hD hS => ?_)
      obtain ⟨v10, ev10, hf⟩ := bd_s hf
      rw [← ev10]
      refine lv_istore_n (lv' := [(2, .int v10), (1, .int v8), (0, .ref (g.2.2 0))]) hx hb dX12_something_31 rfl hl (by decide) rfl (fun ls hl => ?_)
      refine lv_iload_n hx hb dX12_something_32 rfl (lv_at hl 1 rfl) ?_
      refine lv_if_ne (tgt := 51) hx hb dX12_something_33 (by decide) (fun t33 => ?_) (fun t33 => ?_)
      · have hf := (if_neg t33).symm.trans hf
        exact b_X12_something_b51 C hf H locs ls hP hD hS (lv_sub hl [2, 1, 0] rfl)
      · have hf := (if_pos t33).symm.trans hf
        refine lv_aload_n hx hb dX12_something_36 rfl (lv_at hl 2 rfl) ?_
        refine lv_iload_n hx hb dX12_something_37 rfl (lv_at hl 0 rfl) ?_
        obtain ⟨q11, hq11, hf⟩ := bi_s hf
        refine bk_VI (wf := mw) (q0 := 0) (ci := 11) (rest := []) [.int v10] C hP hD hS hl.1 (c_X12_isAsleep hXo hq11) (cwA_V 1 hts wa_943 wa_940 wa_941 wa_942 wa_5 rfl rfl nd_X12_isAsleep ⟨Nat.le_of_ble_eq_true rfl, Nat.le_of_ble_eq_true rfl⟩) rfl rfl rfl rfl (Nat.le_of_ble_eq_true rfl) dX12_something_38 ⟨Nat.le_of_ble_eq_true rfl, Nat.le_of_ble_eq_true rfl⟩ (fun H locs hP hD hS => ?_)
        refine lv_if_ne (tgt := 51) hx hb dX12_something_41 (by decide) (fun t41 => ?_) (fun t41 => ?_)
        · have hf := (if_neg t41).symm.trans hf
          exact b_X12_something_b51 C hf H locs ls hP hD hS (lv_sub hl [2, 1, 0] rfl)
        · have hf := (if_pos t41).symm.trans hf
          refine lv_aload_n hx hb dX12_something_44 rfl (lv_at hl 2 rfl) ?_
          refine bk_get (wf := mw) (q0 := 0) (ci := 11) (k := 23) (v := .ref (g.2.2 13)) C hP wl_X12 rfl rfl (by decide) wa_168 rfl rfl dX12_something_45 ?_
          refine lv_iload_n hx hb dX12_something_48 rfl (lv_at hl 0 rfl) ?_
          refine lv_iconst (v := (1 : Int32)) hx hb dX12_something_49 (by decide) ?_
          obtain ⟨g12, hf⟩ := gd_s hf
          obtain ⟨σ13, eσ13, hf⟩ := bd_s hf
          refine bk_iast (wf := mw) (σ1 := σ13) (q0 := 13) (n := 9) (j := v10.toNatClampNeg) C hP hD hS rfl g12 rfl (by rw [eσ13]; exact mw_a13 g _ _ _) dX12_something_50 (fun H locs hP hD hS => ?_)
          exact b_X12_something_b51 C hf H locs ls hP hD hS (lv_sub hl [2, 1, 0] rfl)
theorem c_X12_something {N : Nat} {σ : Sg} {z : Sg} (hX : xOK g X) (hf : f_X12_something N σ = some z) : MetV l yX12_something (Cond.code yX12_something cX12_something 3 none :: wsA) rm_X12_something mw g X [.ref (g.2.2 0)] σ z :=
  MetV_of hX (by decide) (Nat.le_of_ble_eq_true rfl) (fun p e s m args below meth c A C => b_X12_something C hf)
-- X12_years: years(III)I
abbrev rm_X12_years : Room := { frames := 6, cells := 0, slots := 0, locals := 138 }
theorem nd_X12_years : yX12_years.cls ≠ "java/lang/invoke/MethodHandle" ∧ yX12_years.cls ≠ "java/lang/invoke/VarHandle" ∧ (parseMethodDescriptor yX12_years.desc).map (fun d => d.parameters.length) = some 3 := by decide +kernel
def s_X12_years_h64 (N : Nat) (x2 : Int32) (x3 : Int32) (x4 : Int32) (x5 : Int32) (x6 : Int32) (σ : Sg) : Option (Nat × Int32 × Int32 × Int32 × Sg) :=
if x2 ≤ x6 then (some (1, x4, x5, 0, σ))
else ((f_X12_something N σ).bind fun q1 =>
(f_X12_aTick N q1).bind fun q2 =>
bd (x4 ||| (q2 0 35)) fun v3 =>
(f_X12_bitsOf N (q2 0 35) q2).bind fun q4 =>
bd (x5 + q4.1) fun v5 =>
bd (x6 + (1 : Int32)) fun v6 =>
some (0, v3, v5, v6, (q4.2)))
set_option maxHeartbeats 4000000 in
set_option maxRecDepth 100000 in
theorem e_X12_years_h64 {N : Nat} {x2 : Int32} {x3 : Int32} {x4 : Int32} {x5 : Int32} {x6 : Int32} {σ : Sg} {z : Nat × Int32 × Int32 × Int32 × Sg} (C : Cx p s m args meth c cX12_years 7 (some .int) RX12 g A X) (hf : s_X12_years_h64 N x2 x3 x4 x5 x6 σ = some z) (k0 : z.1 = 0 → Bk mw p l e rm_X12_years s m args below meth c 7 g A Q 0 0 64 [(0, .ref (g.2.2 0)), (2, .int x2), (3, .int x3), (4, .int z.2.1), (5, .int z.2.2.1), (6, .int z.2.2.2.1)] [] z.2.2.2.2) (k : ¬ z.1 = 0 → Bk mw p l e rm_X12_years s m args below meth c 7 g A Q 0 0 105 [(0, .ref (g.2.2 0)), (3, .int x3), (4, .int z.2.1), (5, .int z.2.2.1)] [] z.2.2.2.2) : Bk mw p l e rm_X12_years s m args below meth c 7 g A Q 0 0 64 [(0, .ref (g.2.2 0)), (2, .int x2), (3, .int x3), (4, .int x4), (5, .int x5), (6, .int x6)] [] σ := by
  obtain ⟨hx, hb, hr, hml, hown, hts, hK, hlocks, hXX, hA, hXo⟩ := id C
  intro H locs ls hP hD hS hl
  unfold s_X12_years_h64 at hf
  refine lv_iload hx hb dX12_years_64 (lv_at hl 5 rfl) ?_
  refine lv_iload_n hx hb dX12_years_66 rfl (lv_at hl 1 rfl) ?_
  refine lv_icmp_ge (tgt := 105) hx hb dX12_years_67 (by decide) (fun t67 => ?_) (fun t67 => ?_)
  · have hf := (if_pos t67).symm.trans hf
    cases hf
    exact (k (show ¬ (1 : Nat) = 0 by decide)) H locs ls hP hD hS (lv_sub hl [0, 2, 3, 4] rfl)
  · have hf := (if_neg t67).symm.trans hf
    refine lv_aload_n hx hb dX12_years_70 rfl (lv_at hl 0 rfl) ?_
    obtain ⟨q1, hq1, hf⟩ := bi_s hf
    refine bk_VV (wf := mw) (q0 := 0) (ci := 11) (rest := []) [] C hP hD hS hl.1 (c_X12_something hXo hq1) (cwA_V 0 hts wa_1412 wa_1409 wa_1410 wa_1411 wa_5 rfl rfl nd_X12_something ⟨Nat.le_of_ble_eq_true rfl, Nat.le_of_ble_eq_true rfl⟩) rfl rfl rfl rfl (Nat.le_of_ble_eq_true rfl) dX12_years_71 ⟨Nat.le_of_ble_eq_true rfl, Nat.le_of_ble_eq_true rfl⟩ (fun H locs hP hD hS => ?_)
    refine lv_aload_n hx hb dX12_years_74 rfl (lv_at hl 0 rfl) ?_
    obtain ⟨q2, hq2, hf⟩ := bi_s hf
    refine bk_VV (wf := mw) (q0 := 0) (ci := 11) (rest := []) [] C hP hD hS hl.1 (c_X12_aTick hXo hq2) (cwA_V 0 hts wa_903 wa_900 wa_901 wa_902 wa_5 rfl rfl nd_X12_aTick ⟨Nat.le_of_ble_eq_true rfl, Nat.le_of_ble_eq_true rfl⟩) rfl rfl rfl rfl (Nat.le_of_ble_eq_true rfl) dX12_years_75 ⟨Nat.le_of_ble_eq_true rfl, Nat.le_of_ble_eq_true rfl⟩ (fun H locs hP hD hS => ?_)
    refine lv_iload hx hb dX12_years_78 (lv_at hl 3 rfl) ?_
    refine lv_aload_n hx hb dX12_years_80 rfl (lv_at hl 0 rfl) ?_
    refine bk_get (wf := mw) (q0 := 0) (ci := 11) (k := 35) (v := .int (q2 0 35)) C hP wl_X12 rfl rfl (by decide) wa_904 rfl rfl dX12_years_81 ?_
    refine lv_ior hx hb dX12_years_84 ?_
    obtain ⟨v3, ev3, hf⟩ := bd_s hf
    rw [← ev3]
    refine lv_istore (lv' := [(4, .int v3), (0, .ref (g.2.2 0)), (2, .int x2), (3, .int x3), (5, .int x5), (6, .int x6)]) hx hb dX12_years_85 hl (by decide) rfl (fun ls hl => ?_)
    refine lv_iload hx hb dX12_years_87 (lv_at hl 4 rfl) ?_
    refine lv_aload_n hx hb dX12_years_89 rfl (lv_at hl 1 rfl) ?_
    refine bk_get (wf := mw) (q0 := 0) (ci := 11) (k := 35) (v := .int (q2 0 35)) C hP wl_X12 rfl rfl (by decide) wa_904 rfl rfl dX12_years_90 ?_
    obtain ⟨q4, hq4, hf⟩ := bi_s hf
    refine bk_SI (wf := mw) (rest := [.int x5]) [.int (q2 0 35)] C hP hD hS hl.1 (c_X12_bitsOf hXo hq4) (cwA_S 1 hts wa_769 wa_767 wa_768 wa_5 rfl rfl nd_X12_bitsOf ⟨Nat.le_of_ble_eq_true rfl, Nat.le_of_ble_eq_true rfl⟩) rfl rfl (Nat.le_of_ble_eq_true rfl) dX12_years_93 ⟨Nat.le_of_ble_eq_true rfl, Nat.le_of_ble_eq_true rfl⟩ (fun H locs hP hD hS => ?_)
    refine lv_iadd hx hb dX12_years_96 ?_
    obtain ⟨v5, ev5, hf⟩ := bd_s hf
    rw [← ev5]
    refine lv_istore (lv' := [(5, .int v5), (4, .int v3), (0, .ref (g.2.2 0)), (2, .int x2), (3, .int x3), (6, .int x6)]) hx hb dX12_years_97 hl (by decide) rfl (fun ls hl => ?_)
    obtain ⟨v6, ev6, hf⟩ := bd_s hf
    refine lv_iinc (v := v6) (lv' := [(6, .int v6), (5, .int v5), (4, .int v3), (0, .ref (g.2.2 0)), (2, .int x2), (3, .int x3)]) hx hb dX12_years_99 hl (k := 5) rfl (by rw [ev6]; rfl) (by decide) rfl (fun ls hl => ?_)
    refine lv_goto (tgt := 64) hx hb dX12_years_102 (by decide) ?_
    cases hf
    exact k0 rfl H locs ls hP hD hS (lv_sub hl [3, 4, 5, 2, 1, 0] rfl)
theorem lp_X12_years_h64 {N : Nat} {n : Nat} {x2 : Int32} {x3 : Int32} {x4 : Int32} {x5 : Int32} {x6 : Int32} {σ : Sg} {z : Nat × Int32 × Int32 × Int32 × Sg} (C : Cx p s m args meth c cX12_years 7 (some .int) RX12 g A X) (hz : it (fun q => s_X12_years_h64 N x2 x3 q.1 q.2.1 q.2.2.1 q.2.2.2) n (x4, x5, x6, σ) = some z) (k : Bk mw p l e rm_X12_years s m args below meth c 7 g A Q 0 0 105 [(0, .ref (g.2.2 0)), (3, .int x3), (4, .int z.2.1), (5, .int z.2.2.1)] [] z.2.2.2.2) : Bk mw p l e rm_X12_years s m args below meth c 7 g A Q 0 0 64 [(0, .ref (g.2.2 0)), (2, .int x2), (3, .int x3), (4, .int x4), (5, .int x5), (6, .int x6)] [] σ :=
  it_W (S := Int32 × Int32 × Int32 × Sg) (fun q => Bk mw p l e rm_X12_years s m args below meth c 7 g A Q 0 0 64 [(0, .ref (g.2.2 0)), (2, .int x2), (3, .int x3), (4, .int q.1), (5, .int q.2.1), (6, .int q.2.2.1)] [] q.2.2.2) (fun z => Bk mw p l e rm_X12_years s m args below meth c 7 g A Q 0 0 105 [(0, .ref (g.2.2 0)), (3, .int x3), (4, .int z.2.1), (5, .int z.2.2.1)] [] z.2.2.2.2) (fun q z hq k0 k => e_X12_years_h64 C hq k0 k) n (x4, x5, x6, σ) z hz k
def f_X12_years_b143 (N : Nat) (t0 : Int32) (σ : Sg) : Option (Int32 × Sg) :=
(f_X12_unpack_21 N (0 : Int32) σ).bind fun q7 =>
some (t0, q7)
set_option maxHeartbeats 4000000 in
set_option maxRecDepth 100000 in
theorem b_X12_years_b143 {N : Nat} {t0 : Int32} {σ : Sg} {z : Int32 × Sg} (C : Cx p s m args meth c cX12_years 7 (some .int) RX12 g A X) (hf : f_X12_years_b143 N t0 σ = some z) : Bk mw p l e rm_X12_years s m args below meth c 7 g A (MQ below (qI mw g A z.1 z.2) args s 0 0 A) 0 0 143 [(0, .ref (g.2.2 0))] [.int t0] σ := by
  obtain ⟨hx, hb, hr, hml, hown, hts, hK, hlocks, hXX, hA, hXo⟩ := id C
  intro H locs ls hP hD hS hl
  unfold f_X12_years_b143 at hf
  refine lv_istore (lv' := [(6, .int t0), (0, .ref (g.2.2 0))]) hx hb dX12_years_143 hl (by decide) rfl (fun ls hl => ?_)
  refine lv_aload_n hx hb dX12_years_145 rfl (lv_at hl 1 rfl) ?_
  refine lv_aload_n hx hb dX12_years_146 rfl (lv_at hl 1 rfl) ?_
  refine bk_get (wf := mw) (q0 := 0) (ci := 11) (k := 37) (v := .ref (g.2.2 21)) C hP wl_X12 rfl rfl (by decide) wa_177 rfl rfl dX12_years_147 ?_
  refine lv_iconst (v := (0 : Int32)) hx hb dX12_years_150 (by decide) ?_
  obtain ⟨q7, hq7, hf⟩ := bi_s hf
  refine bk_VV (wf := mw) (q0 := 0) (ci := 11) (rest := []) [.ref (g.2.2 21), .int (0 : Int32)] C hP hD hS hl.1 (c_X12_unpack_21 hXo hq7) (cwA_V 2 hts wa_1010 wa_1007 wa_1008 wa_1009 wa_5 rfl rfl nd_X12_unpack ⟨Nat.le_of_ble_eq_true rfl, Nat.le_of_ble_eq_true rfl⟩) rfl rfl rfl rfl (Nat.le_of_ble_eq_true rfl) dX12_years_151 ⟨Nat.le_of_ble_eq_true rfl, Nat.le_of_ble_eq_true rfl⟩ (fun H locs hP hD hS => ?_)
  refine lv_iload hx hb dX12_years_154 (lv_at hl 0 rfl) ?_
  cases hf
  exact bk_iret C hP hD hS rfl dX12_years_156
def f_X12_years (N : Nat) (x1 : Int32) (x2 : Int32) (x3 : Int32) (σ : Sg) : Option (Int32 × Sg) :=
bd (wr σ 0 2 (0 : Int32)) fun σ8 =>
(f_X12_isIn N (x3).toInt64 (0 : Int64) (2 : Int64) σ8).bind fun q9 =>
if q9.1 = 0 then ((f_X12_fail N (1 : Int32) (q9.2)).bind fun q17 =>
some (q17.1, (q17.2)))
else ((f_X12_isIn N (x2).toInt64 (0 : Int64) (60 : Int64) (q9.2)).bind fun q10 =>
if q10.1 = 0 then ((f_X12_fail N (2 : Int32) (q10.2)).bind fun q16 =>
some (q16.1, (q16.2)))
else ((f_X12_pack_21 N (0 : Int32) (q10.2)).bind fun q11 =>
bd (wr q11 0 47 x1) fun σ12 =>
(it (fun q => s_X12_years_h64 N x2 x3 q.1 q.2.1 q.2.2.1 q.2.2.2) N ((0 : Int32), (0 : Int32), (0 : Int32), σ12)).bind fun z13 =>
bd (wr (z13.2.2.2.2) 0 32 (-1 : Int32)) fun σ14 =>
if x3 = 0 then (f_X12_years_b143 N (z13.2.2.1) σ14)
else (if x3 = (1 : Int32) then (f_X12_years_b143 N (σ14 0 29) σ14)
else ((f_X12_bitsOf N (z13.2.1) σ14).bind fun q15 =>
f_X12_years_b143 N ((σ14 3 0) - q15.1) (q15.2)))))
set_option maxHeartbeats 4000000 in
set_option maxRecDepth 100000 in
theorem b_X12_years {N : Nat} {x1 : Int32} {x2 : Int32} {x3 : Int32} {σ : Sg} {z : Int32 × Sg} (C : Cx p s m args meth c cX12_years 7 (some .int) RX12 g A X) (hf : f_X12_years N x1 x2 x3 σ = some z) : Bk mw p l e rm_X12_years s m args below meth c 7 g A (MQ below (qI mw g A z.1 z.2) args s 0 0 A) 0 0 0 [(0, .ref (g.2.2 0)), (1, .int x1), (2, .int x2), (3, .int x3)] [] σ := by
  obtain ⟨hx, hb, hr, hml, hown, hts, hK, hlocks, hXX, hA, hXo⟩ := id C
  intro H locs ls hP hD hS hl
  unfold f_X12_years at hf
  refine lv_aload_n hx hb dX12_years_0 rfl (lv_at hl 0 rfl) ?_
  refine lv_iconst (v := (0 : Int32)) hx hb dX12_years_1 (by decide) ?_
  obtain ⟨σ8, eσ8, hf⟩ := bd_s hf
  refine bk_put (wf := mw) (σ1 := σ8) (q0 := 0) (ci := 11) (k := 2) (v := .int (0 : Int32)) C hP hD hS wl_X12 tyX12_ok nmX12 rfl rfl (by decide) wa_205 rfl rfl rfl rfl rfl (Nat.le_of_ble_eq_true rfl) (by rw [eσ8]; exact mw_p0_2 g _ _) dX12_years_2 (fun H locs hP hD hS => ?_)
  refine lv_iload_n hx hb dX12_years_5 rfl (lv_at hl 3 rfl) ?_
  refine lv_i2l hx hb dX12_years_6 rfl ?_
  refine lv_lconst (v := (0 : Int64)) hx hb dX12_years_7 (by decide) ?_
  refine lv_ldc2 (v := (2 : Int64)) hx hb hown (hts _ wa_1305) dX12_years_8 ?_
  obtain ⟨q9, hq9, hf⟩ := bi_s hf
  refine bk_SI (wf := mw) (rest := []) [.long (x3).toInt64, .long (0 : Int64), .long (2 : Int64)] C hP hD hS hl.1 (c_X12_isIn hXo hq9) (cwA_S 3 hts wa_803 wa_801 wa_802 wa_5 rfl rfl nd_X12_isIn ⟨Nat.le_of_ble_eq_true rfl, Nat.le_of_ble_eq_true rfl⟩) rfl rfl (Nat.le_of_ble_eq_true rfl) dX12_years_11 ⟨Nat.le_of_ble_eq_true rfl, Nat.le_of_ble_eq_true rfl⟩ (fun H locs hP hD hS => ?_)
  refine lv_if_ne (tgt := 23) hx hb dX12_years_14 (by decide) (fun t14 => ?_) (fun t14 => ?_)
  · have hf := (if_neg t14).symm.trans hf
    refine lv_iload_n hx hb dX12_years_23 rfl (lv_at hl 2 rfl) ?_
    refine lv_i2l hx hb dX12_years_24 rfl ?_
    refine lv_lconst (v := (0 : Int64)) hx hb dX12_years_25 (by decide) ?_
    refine lv_ldc2 (v := (60 : Int64)) hx hb hown (hts _ wa_1025) dX12_years_26 ?_
    obtain ⟨q10, hq10, hf⟩ := bi_s hf
    refine bk_SI (wf := mw) (rest := []) [.long (x2).toInt64, .long (0 : Int64), .long (60 : Int64)] C hP hD hS hl.1 (c_X12_isIn hXo hq10) (cwA_S 3 hts wa_803 wa_801 wa_802 wa_5 rfl rfl nd_X12_isIn ⟨Nat.le_of_ble_eq_true rfl, Nat.le_of_ble_eq_true rfl⟩) rfl rfl (Nat.le_of_ble_eq_true rfl) dX12_years_29 ⟨Nat.le_of_ble_eq_true rfl, Nat.le_of_ble_eq_true rfl⟩ (fun H locs hP hD hS => ?_)
    refine lv_if_ne (tgt := 41) hx hb dX12_years_32 (by decide) (fun t32 => ?_) (fun t32 => ?_)
    · have hf := (if_neg t32).symm.trans hf
      refine lv_aload_n hx hb dX12_years_41 rfl (lv_at hl 0 rfl) ?_
      refine lv_aload_n hx hb dX12_years_42 rfl (lv_at hl 0 rfl) ?_
      refine bk_get (wf := mw) (q0 := 0) (ci := 11) (k := 37) (v := .ref (g.2.2 21)) C hP wl_X12 rfl rfl (by decide) wa_177 rfl rfl dX12_years_43 ?_
      refine lv_iconst (v := (0 : Int32)) hx hb dX12_years_46 (by decide) ?_
      obtain ⟨q11, hq11, hf⟩ := bi_s hf
      refine bk_VV (wf := mw) (q0 := 0) (ci := 11) (rest := []) [.ref (g.2.2 21), .int (0 : Int32)] C hP hD hS hl.1 (c_X12_pack_21 hXo hq11) (cwA_V 2 hts wa_895 wa_892 wa_893 wa_894 wa_5 rfl rfl nd_X12_pack ⟨Nat.le_of_ble_eq_true rfl, Nat.le_of_ble_eq_true rfl⟩) rfl rfl rfl rfl (Nat.le_of_ble_eq_true rfl) dX12_years_47 ⟨Nat.le_of_ble_eq_true rfl, Nat.le_of_ble_eq_true rfl⟩ (fun H locs hP hD hS => ?_)
      refine lv_aload_n hx hb dX12_years_50 rfl (lv_at hl 0 rfl) ?_
      refine lv_iload_n hx hb dX12_years_51 rfl (lv_at hl 1 rfl) ?_
      obtain ⟨σ12, eσ12, hf⟩ := bd_s hf
      refine bk_put (wf := mw) (σ1 := σ12) (q0 := 0) (ci := 11) (k := 47) (v := .int x1) C hP hD hS wl_X12 tyX12_ok nmX12 rfl rfl (by decide) wa_1408 rfl rfl rfl rfl rfl (Nat.le_of_ble_eq_true rfl) (by rw [eσ12]; exact mw_p0_47 g _ _) dX12_years_52 (fun H locs hP hD hS => ?_)
      refine lv_iconst (v := (0 : Int32)) hx hb dX12_years_55 (by decide) ?_
      refine lv_istore (lv' := [(4, .int (0 : Int32)), (0, .ref (g.2.2 0)), (1, .int x1), (2, .int x2), (3, .int x3)]) hx hb dX12_years_56 hl (by decide) rfl (fun ls hl => ?_)
      refine lv_iconst (v := (0 : Int32)) hx hb dX12_years_58 (by decide) ?_
      refine lv_istore (lv' := [(5, .int (0 : Int32)), (4, .int (0 : Int32)), (0, .ref (g.2.2 0)), (1, .int x1), (2, .int x2), (3, .int x3)]) hx hb dX12_years_59 hl (by decide) rfl (fun ls hl => ?_)
      refine lv_iconst (v := (0 : Int32)) hx hb dX12_years_61 (by decide) ?_
      refine lv_istore (lv' := [(6, .int (0 : Int32)), (5, .int (0 : Int32)), (4, .int (0 : Int32)), (0, .ref (g.2.2 0)), (1, .int x1), (2, .int x2), (3, .int x3)]) hx hb dX12_years_62 hl (by decide) rfl (fun ls hl => ?_)
      obtain ⟨z13, hz13, hf⟩ := bi_s hf
      refine lp_X12_years_h64 C hz13 ?_ H locs ls hP hD hS (lv_sub hl [3, 5, 6, 2, 1, 0] rfl)
      intro H locs ls hP hD hS hl
      refine lv_aload_n hx hb dX12_years_105 rfl (lv_at hl 0 rfl) ?_
      refine lv_iconst (v := (-1 : Int32)) hx hb dX12_years_106 (by decide) ?_
      obtain ⟨σ14, eσ14, hf⟩ := bd_s hf
      refine bk_put (wf := mw) (σ1 := σ14) (q0 := 0) (ci := 11) (k := 32) (v := .int (-1 : Int32)) C hP hD hS wl_X12 tyX12_ok nmX12 rfl rfl (by decide) wa_173 rfl rfl rfl rfl rfl (Nat.le_of_ble_eq_true rfl) (by rw [eσ14]; exact mw_p0_32 g _ _) dX12_years_107 (fun H locs hP hD hS => ?_)
      refine lv_iload_n hx hb dX12_years_110 rfl (lv_at hl 1 rfl) ?_
      refine lv_if_ne (tgt := 119) hx hb dX12_years_111 (by decide) (fun t111 => ?_) (fun t111 => ?_)
      · have hf := (if_neg t111).symm.trans hf
        refine lv_iload_n hx hb dX12_years_119 rfl (lv_at hl 1 rfl) ?_
        refine lv_iconst (v := (1 : Int32)) hx hb dX12_years_120 (by decide) ?_
        refine lv_icmp_ne (tgt := 131) hx hb dX12_years_121 (by decide) (fun t121 => ?_) (fun t121 => ?_)
        · have hf := (if_neg t121).symm.trans hf
          refine lv_aload_n hx hb dX12_years_131 rfl (lv_at hl 0 rfl) ?_
          refine bk_get (wf := mw) (q0 := 0) (ci := 11) (k := 3) (v := .ref (g.2.2 3)) C hP wl_X12 rfl rfl (by decide) wa_157 rfl rfl dX12_years_132 ?_
          refine lv_iconst (v := (0 : Int32)) hx hb dX12_years_135 (by decide) ?_
          refine bk_iald (wf := mw) (q0 := 3) (n := 10) (j := 0) C hP rfl (vin_l (by decide) (by decide)) (by decide) dX12_years_136 ?_
          refine lv_iload hx hb dX12_years_137 (lv_at hl 2 rfl) ?_
          obtain ⟨q15, hq15, hf⟩ := bi_s hf
          refine bk_SI (wf := mw) (rest := [.int (σ14 3 0)]) [.int (z13.2.1)] C hP hD hS hl.1 (c_X12_bitsOf hXo hq15) (cwA_S 1 hts wa_769 wa_767 wa_768 wa_5 rfl rfl nd_X12_bitsOf ⟨Nat.le_of_ble_eq_true rfl, Nat.le_of_ble_eq_true rfl⟩) rfl rfl (Nat.le_of_ble_eq_true rfl) dX12_years_139 ⟨Nat.le_of_ble_eq_true rfl, Nat.le_of_ble_eq_true rfl⟩ (fun H locs hP hD hS => ?_)
          refine lv_isub hx hb dX12_years_142 ?_
          exact b_X12_years_b143 C hf H locs ls hP hD hS (lv_sub hl [0] rfl)
        · have hf := (if_pos t121).symm.trans hf
          refine lv_aload_n hx hb dX12_years_124 rfl (lv_at hl 0 rfl) ?_
          refine bk_get (wf := mw) (q0 := 0) (ci := 11) (k := 29) (v := .int (σ14 0 29)) C hP wl_X12 rfl rfl (by decide) wa_614 rfl rfl dX12_years_125 ?_
          refine lv_goto (tgt := 143) hx hb dX12_years_128 (by decide) ?_
          exact b_X12_years_b143 C hf H locs ls hP hD hS (lv_sub hl [0] rfl)
      · have hf := (if_pos t111).symm.trans hf
        refine lv_iload hx hb dX12_years_114 (lv_at hl 3 rfl) ?_
        refine lv_goto (tgt := 143) hx hb dX12_years_116 (by decide) ?_
        exact b_X12_years_b143 C hf H locs ls hP hD hS (lv_sub hl [0] rfl)
    · have hf := (if_pos t32).symm.trans hf
      refine lv_aload_n hx hb dX12_years_35 rfl (lv_at hl 0 rfl) ?_
      refine lv_iconst (v := (2 : Int32)) hx hb dX12_years_36 (by decide) ?_
      obtain ⟨q16, hq16, hf⟩ := bi_s hf
      refine bk_VI (wf := mw) (q0 := 0) (ci := 11) (rest := []) [.int (2 : Int32)] C hP hD hS hl.1 (c_X12_fail hXo hq16) (cwA_V 1 hts wa_512 wa_509 wa_510 wa_511 wa_5 rfl rfl nd_X12_fail ⟨Nat.le_of_ble_eq_true rfl, Nat.le_of_ble_eq_true rfl⟩) rfl rfl rfl rfl (Nat.le_of_ble_eq_true rfl) dX12_years_37 ⟨Nat.le_of_ble_eq_true rfl, Nat.le_of_ble_eq_true rfl⟩ (fun H locs hP hD hS => ?_)
      cases hf
      exact bk_iret C hP hD hS rfl dX12_years_40
  · have hf := (if_pos t14).symm.trans hf
    refine lv_aload_n hx hb dX12_years_17 rfl (lv_at hl 0 rfl) ?_
    refine lv_iconst (v := (1 : Int32)) hx hb dX12_years_18 (by decide) ?_
    obtain ⟨q17, hq17, hf⟩ := bi_s hf
    refine bk_VI (wf := mw) (q0 := 0) (ci := 11) (rest := []) [.int (1 : Int32)] C hP hD hS hl.1 (c_X12_fail hXo hq17) (cwA_V 1 hts wa_512 wa_509 wa_510 wa_511 wa_5 rfl rfl nd_X12_fail ⟨Nat.le_of_ble_eq_true rfl, Nat.le_of_ble_eq_true rfl⟩) rfl rfl rfl rfl (Nat.le_of_ble_eq_true rfl) dX12_years_19 ⟨Nat.le_of_ble_eq_true rfl, Nat.le_of_ble_eq_true rfl⟩ (fun H locs hP hD hS => ?_)
    cases hf
    exact bk_iret C hP hD hS rfl dX12_years_22
theorem c_X12_years {N : Nat} {x1 : Int32} {x2 : Int32} {x3 : Int32} {σ : Sg} {z : Int32 × Sg} (hX : xOK g X) (hf : f_X12_years N x1 x2 x3 σ = some z) : MetI l yX12_years (Cond.code yX12_years cX12_years 7 (some .int) :: wsA) rm_X12_years mw g X [.ref (g.2.2 0), .int x1, .int x2, .int x3] σ z.1 z.2 :=
  MetI_of hX (by decide) (Nat.le_of_ble_eq_true rfl) (fun p e s m args below meth c A C => b_X12_years C hf)
-- X12_pack_30: pack([II)V
abbrev rm_X12_pack_30 : Room := { frames := 0, cells := 0, slots := 0, locals := 0 }
def s_X12_pack_30_h18 (N : Nat) (x2 : Int32) (x3 : Int32) (σ : Sg) : Option (Nat × Int32 × Sg) :=
if (9 : Int32) ≤ x3 then (some (1, 0, σ))
else (if (x3 < 0 ∨ 9 ≤ x3.toNatClampNeg) then none else
if (((x2 + (2 : Int32)) + x3) < 0 ∨ 38 ≤ ((x2 + (2 : Int32)) + x3).toNatClampNeg) then none else
bd (wr σ 30 (((x2 + (2 : Int32)) + x3).toNatClampNeg) (σ 13 x3.toNatClampNeg)) fun σ3 =>
if (x3 < 0 ∨ 9 ≤ x3.toNatClampNeg) then none else
if ((((x2 + (2 : Int32)) + (9 : Int32)) + x3) < 0 ∨ 38 ≤ (((x2 + (2 : Int32)) + (9 : Int32)) + x3).toNatClampNeg) then none else
bd (wr σ3 30 ((((x2 + (2 : Int32)) + (9 : Int32)) + x3).toNatClampNeg) (σ3 14 x3.toNatClampNeg)) fun σ6 =>
if (x3 < 0 ∨ 9 ≤ x3.toNatClampNeg) then none else
if ((((x2 + (2 : Int32)) + (18 : Int32)) + x3) < 0 ∨ 38 ≤ (((x2 + (2 : Int32)) + (18 : Int32)) + x3).toNatClampNeg) then none else
bd (wr σ6 30 ((((x2 + (2 : Int32)) + (18 : Int32)) + x3).toNatClampNeg) (σ6 15 x3.toNatClampNeg)) fun σ9 =>
if (x3 < 0 ∨ 9 ≤ x3.toNatClampNeg) then none else
if ((((x2 + (2 : Int32)) + (27 : Int32)) + x3) < 0 ∨ 38 ≤ (((x2 + (2 : Int32)) + (27 : Int32)) + x3).toNatClampNeg) then none else
bd (wr σ9 30 ((((x2 + (2 : Int32)) + (27 : Int32)) + x3).toNatClampNeg) (σ9 16 x3.toNatClampNeg)) fun σ12 =>
bd (x3 + (1 : Int32)) fun v13 =>
some (0, v13, σ12))
set_option maxHeartbeats 4000000 in
set_option maxRecDepth 100000 in
theorem e_X12_pack_30_h18 {N : Nat} {x2 : Int32} {x3 : Int32} {σ : Sg} {z : Nat × Int32 × Sg} (C : Cx p s m args meth c cX12_pack 4 none RX12 g A X) (hf : s_X12_pack_30_h18 N x2 x3 σ = some z) (k0 : z.1 = 0 → Bk mw p l e rm_X12_pack_30 s m args below meth c 4 g A Q 0 0 18 [(0, .ref (g.2.2 0)), (1, .ref (g.2.2 30)), (2, .int x2), (3, .int z.2.1)] [] z.2.2) (k : ¬ z.1 = 0 → Bk mw p l e rm_X12_pack_30 s m args below meth c 4 g A Q 0 0 91 [] [] z.2.2) : Bk mw p l e rm_X12_pack_30 s m args below meth c 4 g A Q 0 0 18 [(0, .ref (g.2.2 0)), (1, .ref (g.2.2 30)), (2, .int x2), (3, .int x3)] [] σ := by
  obtain ⟨hx, hb, hr, hml, hown, hts, hK, hlocks, hXX, hA, hXo⟩ := id C
  intro H locs ls hP hD hS hl
  unfold s_X12_pack_30_h18 at hf
  refine lv_iload_n hx hb dX12_pack_18 rfl (lv_at hl 3 rfl) ?_
  refine lv_bipush (v := (9 : Int32)) hx hb dX12_pack_19 (by decide) ?_
  refine lv_icmp_ge (tgt := 91) hx hb dX12_pack_21 (by decide) (fun t21 => ?_) (fun t21 => ?_)
  · have hf := (if_pos t21).symm.trans hf
    cases hf
    exact (k (show ¬ (1 : Nat) = 0 by decide)) H locs ls hP hD hS (lv_sub hl [] rfl)
  · have hf := (if_neg t21).symm.trans hf
    refine lv_aload_n hx hb dX12_pack_24 rfl (lv_at hl 1 rfl) ?_
    refine lv_iload_n hx hb dX12_pack_25 rfl (lv_at hl 2 rfl) ?_
    refine lv_iconst (v := (2 : Int32)) hx hb dX12_pack_26 (by decide) ?_
    refine lv_iadd hx hb dX12_pack_27 ?_
    refine lv_iload_n hx hb dX12_pack_28 rfl (lv_at hl 3 rfl) ?_
    refine lv_iadd hx hb dX12_pack_29 ?_
    refine lv_aload_n hx hb dX12_pack_30 rfl (lv_at hl 0 rfl) ?_
    refine bk_get (wf := mw) (q0 := 0) (ci := 11) (k := 23) (v := .ref (g.2.2 13)) C hP wl_X12 rfl rfl (by decide) wa_168 rfl rfl dX12_pack_31 ?_
    refine lv_iload_n hx hb dX12_pack_34 rfl (lv_at hl 3 rfl) ?_
    obtain ⟨g1, hf⟩ := gd_s hf
    refine bk_iald (wf := mw) (q0 := 13) (n := 9) (j := x3.toNatClampNeg) C hP rfl g1 rfl dX12_pack_35 ?_
    obtain ⟨g2, hf⟩ := gd_s hf
    obtain ⟨σ3, eσ3, hf⟩ := bd_s hf
    refine bk_iast (wf := mw) (σ1 := σ3) (q0 := 30) (n := 38) (j := ((x2 + (2 : Int32)) + x3).toNatClampNeg) C hP hD hS rfl g2 rfl (by rw [eσ3]; exact mw_a30 g _ _ _) dX12_pack_36 (fun H locs hP hD hS => ?_)
    refine lv_aload_n hx hb dX12_pack_37 rfl (lv_at hl 1 rfl) ?_
    refine lv_iload_n hx hb dX12_pack_38 rfl (lv_at hl 2 rfl) ?_
    refine lv_iconst (v := (2 : Int32)) hx hb dX12_pack_39 (by decide) ?_
    refine lv_iadd hx hb dX12_pack_40 ?_
    refine lv_bipush (v := (9 : Int32)) hx hb dX12_pack_41 (by decide) ?_
    refine lv_iadd hx hb dX12_pack_43 ?_
    refine lv_iload_n hx hb dX12_pack_44 rfl (lv_at hl 3 rfl) ?_
    refine lv_iadd hx hb dX12_pack_45 ?_
    refine lv_aload_n hx hb dX12_pack_46 rfl (lv_at hl 0 rfl) ?_
    refine bk_get (wf := mw) (q0 := 0) (ci := 11) (k := 24) (v := .ref (g.2.2 14)) C hP wl_X12 rfl rfl (by decide) wa_169 rfl rfl dX12_pack_47 ?_
    refine lv_iload_n hx hb dX12_pack_50 rfl (lv_at hl 3 rfl) ?_
    obtain ⟨g4, hf⟩ := gd_s hf
    refine bk_iald (wf := mw) (q0 := 14) (n := 9) (j := x3.toNatClampNeg) C hP rfl g4 rfl dX12_pack_51 ?_
    obtain ⟨g5, hf⟩ := gd_s hf
    obtain ⟨σ6, eσ6, hf⟩ := bd_s hf
    refine bk_iast (wf := mw) (σ1 := σ6) (q0 := 30) (n := 38) (j := (((x2 + (2 : Int32)) + (9 : Int32)) + x3).toNatClampNeg) C hP hD hS rfl g5 rfl (by rw [eσ6]; exact mw_a30 g _ _ _) dX12_pack_52 (fun H locs hP hD hS => ?_)
    refine lv_aload_n hx hb dX12_pack_53 rfl (lv_at hl 1 rfl) ?_
    refine lv_iload_n hx hb dX12_pack_54 rfl (lv_at hl 2 rfl) ?_
    refine lv_iconst (v := (2 : Int32)) hx hb dX12_pack_55 (by decide) ?_
    refine lv_iadd hx hb dX12_pack_56 ?_
    refine lv_bipush (v := (18 : Int32)) hx hb dX12_pack_57 (by decide) ?_
    refine lv_iadd hx hb dX12_pack_59 ?_
    refine lv_iload_n hx hb dX12_pack_60 rfl (lv_at hl 3 rfl) ?_
    refine lv_iadd hx hb dX12_pack_61 ?_
    refine lv_aload_n hx hb dX12_pack_62 rfl (lv_at hl 0 rfl) ?_
    refine bk_get (wf := mw) (q0 := 0) (ci := 11) (k := 25) (v := .ref (g.2.2 15)) C hP wl_X12 rfl rfl (by decide) wa_170 rfl rfl dX12_pack_63 ?_
    refine lv_iload_n hx hb dX12_pack_66 rfl (lv_at hl 3 rfl) ?_
    obtain ⟨g7, hf⟩ := gd_s hf
    refine bk_iald (wf := mw) (q0 := 15) (n := 9) (j := x3.toNatClampNeg) C hP rfl g7 rfl dX12_pack_67 ?_
    obtain ⟨g8, hf⟩ := gd_s hf
    obtain ⟨σ9, eσ9, hf⟩ := bd_s hf
    refine bk_iast (wf := mw) (σ1 := σ9) (q0 := 30) (n := 38) (j := (((x2 + (2 : Int32)) + (18 : Int32)) + x3).toNatClampNeg) C hP hD hS rfl g8 rfl (by rw [eσ9]; exact mw_a30 g _ _ _) dX12_pack_68 (fun H locs hP hD hS => ?_)
    refine lv_aload_n hx hb dX12_pack_69 rfl (lv_at hl 1 rfl) ?_
    refine lv_iload_n hx hb dX12_pack_70 rfl (lv_at hl 2 rfl) ?_
    refine lv_iconst (v := (2 : Int32)) hx hb dX12_pack_71 (by decide) ?_
    refine lv_iadd hx hb dX12_pack_72 ?_
    refine lv_bipush (v := (27 : Int32)) hx hb dX12_pack_73 (by decide) ?_
    refine lv_iadd hx hb dX12_pack_75 ?_
    refine lv_iload_n hx hb dX12_pack_76 rfl (lv_at hl 3 rfl) ?_
    refine lv_iadd hx hb dX12_pack_77 ?_
    refine lv_aload_n hx hb dX12_pack_78 rfl (lv_at hl 0 rfl) ?_
    refine bk_get (wf := mw) (q0 := 0) (ci := 11) (k := 26) (v := .ref (g.2.2 16)) C hP wl_X12 rfl rfl (by decide) wa_171 rfl rfl dX12_pack_79 ?_
    refine lv_iload_n hx hb dX12_pack_82 rfl (lv_at hl 3 rfl) ?_
    obtain ⟨g10, hf⟩ := gd_s hf
    refine bk_iald (wf := mw) (q0 := 16) (n := 9) (j := x3.toNatClampNeg) C hP rfl g10 rfl dX12_pack_83 ?_
    obtain ⟨g11, hf⟩ := gd_s hf
    obtain ⟨σ12, eσ12, hf⟩ := bd_s hf
    refine bk_iast (wf := mw) (σ1 := σ12) (q0 := 30) (n := 38) (j := (((x2 + (2 : Int32)) + (27 : Int32)) + x3).toNatClampNeg) C hP hD hS rfl g11 rfl (by rw [eσ12]; exact mw_a30 g _ _ _) dX12_pack_84 (fun H locs hP hD hS => ?_)
    obtain ⟨v13, ev13, hf⟩ := bd_s hf
    refine lv_iinc (v := v13) (lv' := [(3, .int v13), (0, .ref (g.2.2 0)), (1, .ref (g.2.2 30)), (2, .int x2)]) hx hb dX12_pack_85 hl (k := 3) rfl (by rw [ev13]; rfl) (by decide) rfl (fun ls hl => ?_)
    refine lv_goto (tgt := 18) hx hb dX12_pack_88 (by decide) ?_
    cases hf
    exact k0 rfl H locs ls hP hD hS (lv_sub hl [1, 2, 3, 0] rfl)
theorem lp_X12_pack_30_h18 {N : Nat} {n : Nat} {x2 : Int32} {x3 : Int32} {σ : Sg} {z : Nat × Int32 × Sg} (C : Cx p s m args meth c cX12_pack 4 none RX12 g A X) (hz : it (fun q => s_X12_pack_30_h18 N x2 q.1 q.2) n (x3, σ) = some z) (k : Bk mw p l e rm_X12_pack_30 s m args below meth c 4 g A Q 0 0 91 [] [] z.2.2) : Bk mw p l e rm_X12_pack_30 s m args below meth c 4 g A Q 0 0 18 [(0, .ref (g.2.2 0)), (1, .ref (g.2.2 30)), (2, .int x2), (3, .int x3)] [] σ :=
  it_W (S := Int32 × Sg) (fun q => Bk mw p l e rm_X12_pack_30 s m args below meth c 4 g A Q 0 0 18 [(0, .ref (g.2.2 0)), (1, .ref (g.2.2 30)), (2, .int x2), (3, .int q.1)] [] q.2) (fun z => Bk mw p l e rm_X12_pack_30 s m args below meth c 4 g A Q 0 0 91 [] [] z.2.2) (fun q z hq k0 k => e_X12_pack_30_h18 C hq k0 k) n (x3, σ) z hz k
def f_X12_pack_30 (N : Nat) (x2 : Int32) (σ : Sg) : Option (Sg) :=
if (x2 < 0 ∨ 38 ≤ x2.toNatClampNeg) then none else
bd (wr σ 30 (x2.toNatClampNeg) (σ 0 28)) fun σ15 =>
if ((x2 + (1 : Int32)) < 0 ∨ 38 ≤ (x2 + (1 : Int32)).toNatClampNeg) then none else
bd (wr σ15 30 ((x2 + (1 : Int32)).toNatClampNeg) (σ15 0 29)) fun σ17 =>
(it (fun q => s_X12_pack_30_h18 N x2 q.1 q.2) N ((0 : Int32), σ17)).bind fun z18 =>
some (z18.2.2)
set_option maxHeartbeats 4000000 in
set_option maxRecDepth 100000 in
theorem b_X12_pack_30 {N : Nat} {x2 : Int32} {σ : Sg} {z : Sg} (C : Cx p s m args meth c cX12_pack 4 none RX12 g A X) (hf : f_X12_pack_30 N x2 σ = some z) : Bk mw p l e rm_X12_pack_30 s m args below meth c 4 g A (MQ below (qV mw g A z) args s 0 0 A) 0 0 0 [(0, .ref (g.2.2 0)), (1, .ref (g.2.2 30)), (2, .int x2)] [] σ := by
  obtain ⟨hx, hb, hr, hml, hown, hts, hK, hlocks, hXX, hA, hXo⟩ := id C
  intro H locs ls hP hD hS hl
  unfold f_X12_pack_30 at hf
  refine lv_aload_n hx hb dX12_pack_0 rfl (lv_at hl 1 rfl) ?_
  refine lv_iload_n hx hb dX12_pack_1 rfl (lv_at hl 2 rfl) ?_
  refine lv_aload_n hx hb dX12_pack_2 rfl (lv_at hl 0 rfl) ?_
  refine bk_get (wf := mw) (q0 := 0) (ci := 11) (k := 28) (v := .int (σ 0 28)) C hP wl_X12 rfl rfl (by decide) wa_613 rfl rfl dX12_pack_3 ?_
  obtain ⟨g14, hf⟩ := gd_s hf
  obtain ⟨σ15, eσ15, hf⟩ := bd_s hf
  refine bk_iast (wf := mw) (σ1 := σ15) (q0 := 30) (n := 38) (j := x2.toNatClampNeg) C hP hD hS rfl g14 rfl (by rw [eσ15]; exact mw_a30 g _ _ _) dX12_pack_6 (fun H locs hP hD hS => ?_)
  refine lv_aload_n hx hb dX12_pack_7 rfl (lv_at hl 1 rfl) ?_
  refine lv_iload_n hx hb dX12_pack_8 rfl (lv_at hl 2 rfl) ?_
  refine lv_iconst (v := (1 : Int32)) hx hb dX12_pack_9 (by decide) ?_
  refine lv_iadd hx hb dX12_pack_10 ?_
  refine lv_aload_n hx hb dX12_pack_11 rfl (lv_at hl 0 rfl) ?_
  refine bk_get (wf := mw) (q0 := 0) (ci := 11) (k := 29) (v := .int (σ15 0 29)) C hP wl_X12 rfl rfl (by decide) wa_614 rfl rfl dX12_pack_12 ?_
  obtain ⟨g16, hf⟩ := gd_s hf
  obtain ⟨σ17, eσ17, hf⟩ := bd_s hf
  refine bk_iast (wf := mw) (σ1 := σ17) (q0 := 30) (n := 38) (j := (x2 + (1 : Int32)).toNatClampNeg) C hP hD hS rfl g16 rfl (by rw [eσ17]; exact mw_a30 g _ _ _) dX12_pack_15 (fun H locs hP hD hS => ?_)
  refine lv_iconst (v := (0 : Int32)) hx hb dX12_pack_16 (by decide) ?_
  refine lv_istore_n (lv' := [(3, .int (0 : Int32)), (0, .ref (g.2.2 0)), (1, .ref (g.2.2 30)), (2, .int x2)]) hx hb dX12_pack_17 rfl hl (by decide) rfl (fun ls hl => ?_)
  obtain ⟨z18, hz18, hf⟩ := bi_s hf
  refine lp_X12_pack_30_h18 C hz18 ?_ H locs ls hP hD hS (lv_sub hl [1, 2, 3, 0] rfl)
  intro H locs ls hP hD hS hl
  cases hf
  exact bk_vret C hP hD hS rfl dX12_pack_91
theorem c_X12_pack_30 {N : Nat} {x2 : Int32} {σ : Sg} {z : Sg} (hX : xOK g X) (hf : f_X12_pack_30 N x2 σ = some z) : MetV l yX12_pack (Cond.code yX12_pack cX12_pack 4 none :: wsA) rm_X12_pack_30 mw g X [.ref (g.2.2 0), .ref (g.2.2 30), .int x2] σ z :=
  MetV_of hX (by decide) (Nat.le_of_ble_eq_true rfl) (fun p e s m args below meth c A C => b_X12_pack_30 C hf)
-- X12_copyTo_31_17: copyTo([I[I)V
abbrev rm_X12_copyTo_31_17 : Room := { frames := 0, cells := 0, slots := 0, locals := 0 }
theorem nd_X12_copyTo : yX12_copyTo.cls ≠ "java/lang/invoke/MethodHandle" ∧ yX12_copyTo.cls ≠ "java/lang/invoke/VarHandle" ∧ (parseMethodDescriptor yX12_copyTo.desc).map (fun d => d.parameters.length) = some 2 := by decide +kernel
def s_X12_copyTo_31_17_h2 (N : Nat) (x2 : Int32) (σ : Sg) : Option (Nat × Int32 × Sg) :=
if (1520 : Int32) ≤ x2 then (some (1, 0, σ))
else (if (x2 < 0 ∨ 1520 ≤ x2.toNatClampNeg) then none else
if (x2 < 0 ∨ 1520 ≤ x2.toNatClampNeg) then none else
bd (wr σ 31 (x2.toNatClampNeg) (σ 17 x2.toNatClampNeg)) fun σ3 =>
bd (x2 + (1 : Int32)) fun v4 =>
some (0, v4, σ3))
set_option maxHeartbeats 4000000 in
set_option maxRecDepth 100000 in
theorem e_X12_copyTo_31_17_h2 {N : Nat} {x2 : Int32} {σ : Sg} {z : Nat × Int32 × Sg} (C : Cx p s m args meth c cX12_copyTo 3 none RX12 g A X) (hf : s_X12_copyTo_31_17_h2 N x2 σ = some z) (k0 : z.1 = 0 → Bk mw p l e rm_X12_copyTo_31_17 s m args below meth c 3 g A Q 0 0 2 [(0, .ref (g.2.2 31)), (1, .ref (g.2.2 17)), (2, .int z.2.1)] [] z.2.2) (k : ¬ z.1 = 0 → Bk mw p l e rm_X12_copyTo_31_17 s m args below meth c 3 g A Q 0 0 20 [] [] z.2.2) : Bk mw p l e rm_X12_copyTo_31_17 s m args below meth c 3 g A Q 0 0 2 [(0, .ref (g.2.2 31)), (1, .ref (g.2.2 17)), (2, .int x2)] [] σ := by
  obtain ⟨hx, hb, hr, hml, hown, hts, hK, hlocks, hXX, hA, hXo⟩ := id C
  intro H locs ls hP hD hS hl
  unfold s_X12_copyTo_31_17_h2 at hf
  refine lv_iload_n hx hb dX12_copyTo_2 rfl (lv_at hl 2 rfl) ?_
  refine lv_aload_n hx hb dX12_copyTo_3 rfl (lv_at hl 0 rfl) ?_
  refine bk_alen (wf := mw) (q0 := 31) (t0 := 0) (v := (1520 : Int32)) C hP rfl rfl (show Int32.ofNat 1520 = (1520 : Int32) by decide) dX12_copyTo_4 ?_
  refine lv_icmp_ge (tgt := 20) hx hb dX12_copyTo_5 (by decide) (fun t5 => ?_) (fun t5 => ?_)
  · have hf := (if_pos t5).symm.trans hf
    cases hf
    exact (k (show ¬ (1 : Nat) = 0 by decide)) H locs ls hP hD hS (lv_sub hl [] rfl)
  · have hf := (if_neg t5).symm.trans hf
    refine lv_aload_n hx hb dX12_copyTo_8 rfl (lv_at hl 0 rfl) ?_
    refine lv_iload_n hx hb dX12_copyTo_9 rfl (lv_at hl 2 rfl) ?_
    refine lv_aload_n hx hb dX12_copyTo_10 rfl (lv_at hl 1 rfl) ?_
    refine lv_iload_n hx hb dX12_copyTo_11 rfl (lv_at hl 2 rfl) ?_
    obtain ⟨g1, hf⟩ := gd_s hf
    refine bk_iald (wf := mw) (q0 := 17) (n := 1520) (j := x2.toNatClampNeg) C hP rfl g1 rfl dX12_copyTo_12 ?_
    obtain ⟨g2, hf⟩ := gd_s hf
    obtain ⟨σ3, eσ3, hf⟩ := bd_s hf
    refine bk_iast (wf := mw) (σ1 := σ3) (q0 := 31) (n := 1520) (j := x2.toNatClampNeg) C hP hD hS rfl g2 rfl (by rw [eσ3]; exact mw_a31 g _ _ _) dX12_copyTo_13 (fun H locs hP hD hS => ?_)
    obtain ⟨v4, ev4, hf⟩ := bd_s hf
    refine lv_iinc (v := v4) (lv' := [(2, .int v4), (0, .ref (g.2.2 31)), (1, .ref (g.2.2 17))]) hx hb dX12_copyTo_14 hl (k := 2) rfl (by rw [ev4]; rfl) (by decide) rfl (fun ls hl => ?_)
    refine lv_goto (tgt := 2) hx hb dX12_copyTo_17 (by decide) ?_
    cases hf
    exact k0 rfl H locs ls hP hD hS (lv_sub hl [1, 2, 0] rfl)
theorem lp_X12_copyTo_31_17_h2 {N : Nat} {n : Nat} {x2 : Int32} {σ : Sg} {z : Nat × Int32 × Sg} (C : Cx p s m args meth c cX12_copyTo 3 none RX12 g A X) (hz : it (fun q => s_X12_copyTo_31_17_h2 N q.1 q.2) n (x2, σ) = some z) (k : Bk mw p l e rm_X12_copyTo_31_17 s m args below meth c 3 g A Q 0 0 20 [] [] z.2.2) : Bk mw p l e rm_X12_copyTo_31_17 s m args below meth c 3 g A Q 0 0 2 [(0, .ref (g.2.2 31)), (1, .ref (g.2.2 17)), (2, .int x2)] [] σ :=
  it_W (S := Int32 × Sg) (fun q => Bk mw p l e rm_X12_copyTo_31_17 s m args below meth c 3 g A Q 0 0 2 [(0, .ref (g.2.2 31)), (1, .ref (g.2.2 17)), (2, .int q.1)] [] q.2) (fun z => Bk mw p l e rm_X12_copyTo_31_17 s m args below meth c 3 g A Q 0 0 20 [] [] z.2.2) (fun q z hq k0 k => e_X12_copyTo_31_17_h2 C hq k0 k) n (x2, σ) z hz k
def f_X12_copyTo_31_17 (N : Nat) (σ : Sg) : Option (Sg) :=
(it (fun q => s_X12_copyTo_31_17_h2 N q.1 q.2) N ((0 : Int32), σ)).bind fun z5 =>
some (z5.2.2)
set_option maxHeartbeats 4000000 in
set_option maxRecDepth 100000 in
theorem b_X12_copyTo_31_17 {N : Nat} {σ : Sg} {z : Sg} (C : Cx p s m args meth c cX12_copyTo 3 none RX12 g A X) (hf : f_X12_copyTo_31_17 N σ = some z) : Bk mw p l e rm_X12_copyTo_31_17 s m args below meth c 3 g A (MQ below (qV mw g A z) args s 0 0 A) 0 0 0 [(0, .ref (g.2.2 31)), (1, .ref (g.2.2 17))] [] σ := by
  obtain ⟨hx, hb, hr, hml, hown, hts, hK, hlocks, hXX, hA, hXo⟩ := id C
  intro H locs ls hP hD hS hl
  unfold f_X12_copyTo_31_17 at hf
  refine lv_iconst (v := (0 : Int32)) hx hb dX12_copyTo_0 (by decide) ?_
  refine lv_istore_n (lv' := [(2, .int (0 : Int32)), (0, .ref (g.2.2 31)), (1, .ref (g.2.2 17))]) hx hb dX12_copyTo_1 rfl hl (by decide) rfl (fun ls hl => ?_)
  obtain ⟨z5, hz5, hf⟩ := bi_s hf
  refine lp_X12_copyTo_31_17_h2 C hz5 ?_ H locs ls hP hD hS (lv_sub hl [1, 2, 0] rfl)
  intro H locs ls hP hD hS hl
  cases hf
  exact bk_vret C hP hD hS rfl dX12_copyTo_20
theorem c_X12_copyTo_31_17 {N : Nat} {σ : Sg} {z : Sg} (hX : xOK g X) (hf : f_X12_copyTo_31_17 N σ = some z) : MetV l yX12_copyTo (Cond.code yX12_copyTo cX12_copyTo 3 none :: wsA) rm_X12_copyTo_31_17 mw g X [.ref (g.2.2 31), .ref (g.2.2 17)] σ z :=
  MetV_of hX (by decide) (Nat.le_of_ble_eq_true rfl) (fun p e s m args below meth c A C => b_X12_copyTo_31_17 C hf)
-- X12_copyTo_32_24: copyTo([I[I)V
abbrev rm_X12_copyTo_32_24 : Room := { frames := 0, cells := 0, slots := 0, locals := 0 }
def s_X12_copyTo_32_24_h2 (N : Nat) (x2 : Int32) (σ : Sg) : Option (Nat × Int32 × Sg) :=
if (8 : Int32) ≤ x2 then (some (1, 0, σ))
else (if (x2 < 0 ∨ 8 ≤ x2.toNatClampNeg) then none else
if (x2 < 0 ∨ 8 ≤ x2.toNatClampNeg) then none else
bd (wr σ 32 (x2.toNatClampNeg) (σ 24 x2.toNatClampNeg)) fun σ3 =>
bd (x2 + (1 : Int32)) fun v4 =>
some (0, v4, σ3))
set_option maxHeartbeats 4000000 in
set_option maxRecDepth 100000 in
theorem e_X12_copyTo_32_24_h2 {N : Nat} {x2 : Int32} {σ : Sg} {z : Nat × Int32 × Sg} (C : Cx p s m args meth c cX12_copyTo 3 none RX12 g A X) (hf : s_X12_copyTo_32_24_h2 N x2 σ = some z) (k0 : z.1 = 0 → Bk mw p l e rm_X12_copyTo_32_24 s m args below meth c 3 g A Q 0 0 2 [(0, .ref (g.2.2 32)), (1, .ref (g.2.2 24)), (2, .int z.2.1)] [] z.2.2) (k : ¬ z.1 = 0 → Bk mw p l e rm_X12_copyTo_32_24 s m args below meth c 3 g A Q 0 0 20 [] [] z.2.2) : Bk mw p l e rm_X12_copyTo_32_24 s m args below meth c 3 g A Q 0 0 2 [(0, .ref (g.2.2 32)), (1, .ref (g.2.2 24)), (2, .int x2)] [] σ := by
  obtain ⟨hx, hb, hr, hml, hown, hts, hK, hlocks, hXX, hA, hXo⟩ := id C
  intro H locs ls hP hD hS hl
  unfold s_X12_copyTo_32_24_h2 at hf
  refine lv_iload_n hx hb dX12_copyTo_2 rfl (lv_at hl 2 rfl) ?_
  refine lv_aload_n hx hb dX12_copyTo_3 rfl (lv_at hl 0 rfl) ?_
  refine bk_alen (wf := mw) (q0 := 32) (t0 := 0) (v := (8 : Int32)) C hP rfl rfl (show Int32.ofNat 8 = (8 : Int32) by decide) dX12_copyTo_4 ?_
  refine lv_icmp_ge (tgt := 20) hx hb dX12_copyTo_5 (by decide) (fun t5 => ?_) (fun t5 => ?_)
  · have hf := (if_pos t5).symm.trans hf
    cases hf
    exact (k (show ¬ (1 : Nat) = 0 by decide)) H locs ls hP hD hS (lv_sub hl [] rfl)
  · have hf := (if_neg t5).symm.trans hf
    refine lv_aload_n hx hb dX12_copyTo_8 rfl (lv_at hl 0 rfl) ?_
    refine lv_iload_n hx hb dX12_copyTo_9 rfl (lv_at hl 2 rfl) ?_
    refine lv_aload_n hx hb dX12_copyTo_10 rfl (lv_at hl 1 rfl) ?_
    refine lv_iload_n hx hb dX12_copyTo_11 rfl (lv_at hl 2 rfl) ?_
    obtain ⟨g1, hf⟩ := gd_s hf
    refine bk_iald (wf := mw) (q0 := 24) (n := 8) (j := x2.toNatClampNeg) C hP rfl g1 rfl dX12_copyTo_12 ?_
    obtain ⟨g2, hf⟩ := gd_s hf
    obtain ⟨σ3, eσ3, hf⟩ := bd_s hf
    refine bk_iast (wf := mw) (σ1 := σ3) (q0 := 32) (n := 8) (j := x2.toNatClampNeg) C hP hD hS rfl g2 rfl (by rw [eσ3]; exact mw_a32 g _ _ _) dX12_copyTo_13 (fun H locs hP hD hS => ?_)
    obtain ⟨v4, ev4, hf⟩ := bd_s hf
    refine lv_iinc (v := v4) (lv' := [(2, .int v4), (0, .ref (g.2.2 32)), (1, .ref (g.2.2 24))]) hx hb dX12_copyTo_14 hl (k := 2) rfl (by rw [ev4]; rfl) (by decide) rfl (fun ls hl => ?_)
    refine lv_goto (tgt := 2) hx hb dX12_copyTo_17 (by decide) ?_
    cases hf
    exact k0 rfl H locs ls hP hD hS (lv_sub hl [1, 2, 0] rfl)
theorem lp_X12_copyTo_32_24_h2 {N : Nat} {n : Nat} {x2 : Int32} {σ : Sg} {z : Nat × Int32 × Sg} (C : Cx p s m args meth c cX12_copyTo 3 none RX12 g A X) (hz : it (fun q => s_X12_copyTo_32_24_h2 N q.1 q.2) n (x2, σ) = some z) (k : Bk mw p l e rm_X12_copyTo_32_24 s m args below meth c 3 g A Q 0 0 20 [] [] z.2.2) : Bk mw p l e rm_X12_copyTo_32_24 s m args below meth c 3 g A Q 0 0 2 [(0, .ref (g.2.2 32)), (1, .ref (g.2.2 24)), (2, .int x2)] [] σ :=
  it_W (S := Int32 × Sg) (fun q => Bk mw p l e rm_X12_copyTo_32_24 s m args below meth c 3 g A Q 0 0 2 [(0, .ref (g.2.2 32)), (1, .ref (g.2.2 24)), (2, .int q.1)] [] q.2) (fun z => Bk mw p l e rm_X12_copyTo_32_24 s m args below meth c 3 g A Q 0 0 20 [] [] z.2.2) (fun q z hq k0 k => e_X12_copyTo_32_24_h2 C hq k0 k) n (x2, σ) z hz k
def f_X12_copyTo_32_24 (N : Nat) (σ : Sg) : Option (Sg) :=
(it (fun q => s_X12_copyTo_32_24_h2 N q.1 q.2) N ((0 : Int32), σ)).bind fun z5 =>
some (z5.2.2)
set_option maxHeartbeats 4000000 in
set_option maxRecDepth 100000 in
theorem b_X12_copyTo_32_24 {N : Nat} {σ : Sg} {z : Sg} (C : Cx p s m args meth c cX12_copyTo 3 none RX12 g A X) (hf : f_X12_copyTo_32_24 N σ = some z) : Bk mw p l e rm_X12_copyTo_32_24 s m args below meth c 3 g A (MQ below (qV mw g A z) args s 0 0 A) 0 0 0 [(0, .ref (g.2.2 32)), (1, .ref (g.2.2 24))] [] σ := by
  obtain ⟨hx, hb, hr, hml, hown, hts, hK, hlocks, hXX, hA, hXo⟩ := id C
  intro H locs ls hP hD hS hl
  unfold f_X12_copyTo_32_24 at hf
  refine lv_iconst (v := (0 : Int32)) hx hb dX12_copyTo_0 (by decide) ?_
  refine lv_istore_n (lv' := [(2, .int (0 : Int32)), (0, .ref (g.2.2 32)), (1, .ref (g.2.2 24))]) hx hb dX12_copyTo_1 rfl hl (by decide) rfl (fun ls hl => ?_)
  obtain ⟨z5, hz5, hf⟩ := bi_s hf
  refine lp_X12_copyTo_32_24_h2 C hz5 ?_ H locs ls hP hD hS (lv_sub hl [1, 2, 0] rfl)
  intro H locs ls hP hD hS hl
  cases hf
  exact bk_vret C hP hD hS rfl dX12_copyTo_20
theorem c_X12_copyTo_32_24 {N : Nat} {σ : Sg} {z : Sg} (hX : xOK g X) (hf : f_X12_copyTo_32_24 N σ = some z) : MetV l yX12_copyTo (Cond.code yX12_copyTo cX12_copyTo 3 none :: wsA) rm_X12_copyTo_32_24 mw g X [.ref (g.2.2 32), .ref (g.2.2 24)] σ z :=
  MetV_of hX (by decide) (Nat.le_of_ble_eq_true rfl) (fun p e s m args below meth c A C => b_X12_copyTo_32_24 C hf)
-- X12_copyTo_33_25: copyTo([I[I)V
abbrev rm_X12_copyTo_33_25 : Room := { frames := 0, cells := 0, slots := 0, locals := 0 }
def s_X12_copyTo_33_25_h2 (N : Nat) (x2 : Int32) (σ : Sg) : Option (Nat × Int32 × Sg) :=
if (8 : Int32) ≤ x2 then (some (1, 0, σ))
else (if (x2 < 0 ∨ 8 ≤ x2.toNatClampNeg) then none else
if (x2 < 0 ∨ 8 ≤ x2.toNatClampNeg) then none else
bd (wr σ 33 (x2.toNatClampNeg) (σ 25 x2.toNatClampNeg)) fun σ3 =>
bd (x2 + (1 : Int32)) fun v4 =>
some (0, v4, σ3))
set_option maxHeartbeats 4000000 in
set_option maxRecDepth 100000 in
theorem e_X12_copyTo_33_25_h2 {N : Nat} {x2 : Int32} {σ : Sg} {z : Nat × Int32 × Sg} (C : Cx p s m args meth c cX12_copyTo 3 none RX12 g A X) (hf : s_X12_copyTo_33_25_h2 N x2 σ = some z) (k0 : z.1 = 0 → Bk mw p l e rm_X12_copyTo_33_25 s m args below meth c 3 g A Q 0 0 2 [(0, .ref (g.2.2 33)), (1, .ref (g.2.2 25)), (2, .int z.2.1)] [] z.2.2) (k : ¬ z.1 = 0 → Bk mw p l e rm_X12_copyTo_33_25 s m args below meth c 3 g A Q 0 0 20 [] [] z.2.2) : Bk mw p l e rm_X12_copyTo_33_25 s m args below meth c 3 g A Q 0 0 2 [(0, .ref (g.2.2 33)), (1, .ref (g.2.2 25)), (2, .int x2)] [] σ := by
  obtain ⟨hx, hb, hr, hml, hown, hts, hK, hlocks, hXX, hA, hXo⟩ := id C
  intro H locs ls hP hD hS hl
  unfold s_X12_copyTo_33_25_h2 at hf
  refine lv_iload_n hx hb dX12_copyTo_2 rfl (lv_at hl 2 rfl) ?_
  refine lv_aload_n hx hb dX12_copyTo_3 rfl (lv_at hl 0 rfl) ?_
  refine bk_alen (wf := mw) (q0 := 33) (t0 := 0) (v := (8 : Int32)) C hP rfl rfl (show Int32.ofNat 8 = (8 : Int32) by decide) dX12_copyTo_4 ?_
  refine lv_icmp_ge (tgt := 20) hx hb dX12_copyTo_5 (by decide) (fun t5 => ?_) (fun t5 => ?_)
  · have hf := (if_pos t5).symm.trans hf
    cases hf
    exact (k (show ¬ (1 : Nat) = 0 by decide)) H locs ls hP hD hS (lv_sub hl [] rfl)
  · have hf := (if_neg t5).symm.trans hf
    refine lv_aload_n hx hb dX12_copyTo_8 rfl (lv_at hl 0 rfl) ?_
    refine lv_iload_n hx hb dX12_copyTo_9 rfl (lv_at hl 2 rfl) ?_
    refine lv_aload_n hx hb dX12_copyTo_10 rfl (lv_at hl 1 rfl) ?_
    refine lv_iload_n hx hb dX12_copyTo_11 rfl (lv_at hl 2 rfl) ?_
    obtain ⟨g1, hf⟩ := gd_s hf
    refine bk_iald (wf := mw) (q0 := 25) (n := 8) (j := x2.toNatClampNeg) C hP rfl g1 rfl dX12_copyTo_12 ?_
    obtain ⟨g2, hf⟩ := gd_s hf
    obtain ⟨σ3, eσ3, hf⟩ := bd_s hf
    refine bk_iast (wf := mw) (σ1 := σ3) (q0 := 33) (n := 8) (j := x2.toNatClampNeg) C hP hD hS rfl g2 rfl (by rw [eσ3]; exact mw_a33 g _ _ _) dX12_copyTo_13 (fun H locs hP hD hS => ?_)
    obtain ⟨v4, ev4, hf⟩ := bd_s hf
    refine lv_iinc (v := v4) (lv' := [(2, .int v4), (0, .ref (g.2.2 33)), (1, .ref (g.2.2 25))]) hx hb dX12_copyTo_14 hl (k := 2) rfl (by rw [ev4]; rfl) (by decide) rfl (fun ls hl => ?_)
    refine lv_goto (tgt := 2) hx hb dX12_copyTo_17 (by decide) ?_
    cases hf
    exact k0 rfl H locs ls hP hD hS (lv_sub hl [1, 2, 0] rfl)
theorem lp_X12_copyTo_33_25_h2 {N : Nat} {n : Nat} {x2 : Int32} {σ : Sg} {z : Nat × Int32 × Sg} (C : Cx p s m args meth c cX12_copyTo 3 none RX12 g A X) (hz : it (fun q => s_X12_copyTo_33_25_h2 N q.1 q.2) n (x2, σ) = some z) (k : Bk mw p l e rm_X12_copyTo_33_25 s m args below meth c 3 g A Q 0 0 20 [] [] z.2.2) : Bk mw p l e rm_X12_copyTo_33_25 s m args below meth c 3 g A Q 0 0 2 [(0, .ref (g.2.2 33)), (1, .ref (g.2.2 25)), (2, .int x2)] [] σ :=
  it_W (S := Int32 × Sg) (fun q => Bk mw p l e rm_X12_copyTo_33_25 s m args below meth c 3 g A Q 0 0 2 [(0, .ref (g.2.2 33)), (1, .ref (g.2.2 25)), (2, .int q.1)] [] q.2) (fun z => Bk mw p l e rm_X12_copyTo_33_25 s m args below meth c 3 g A Q 0 0 20 [] [] z.2.2) (fun q z hq k0 k => e_X12_copyTo_33_25_h2 C hq k0 k) n (x2, σ) z hz k
def f_X12_copyTo_33_25 (N : Nat) (σ : Sg) : Option (Sg) :=
(it (fun q => s_X12_copyTo_33_25_h2 N q.1 q.2) N ((0 : Int32), σ)).bind fun z5 =>
some (z5.2.2)
set_option maxHeartbeats 4000000 in
set_option maxRecDepth 100000 in
theorem b_X12_copyTo_33_25 {N : Nat} {σ : Sg} {z : Sg} (C : Cx p s m args meth c cX12_copyTo 3 none RX12 g A X) (hf : f_X12_copyTo_33_25 N σ = some z) : Bk mw p l e rm_X12_copyTo_33_25 s m args below meth c 3 g A (MQ below (qV mw g A z) args s 0 0 A) 0 0 0 [(0, .ref (g.2.2 33)), (1, .ref (g.2.2 25))] [] σ := by
  obtain ⟨hx, hb, hr, hml, hown, hts, hK, hlocks, hXX, hA, hXo⟩ := id C
  intro H locs ls hP hD hS hl
  unfold f_X12_copyTo_33_25 at hf
  refine lv_iconst (v := (0 : Int32)) hx hb dX12_copyTo_0 (by decide) ?_
  refine lv_istore_n (lv' := [(2, .int (0 : Int32)), (0, .ref (g.2.2 33)), (1, .ref (g.2.2 25))]) hx hb dX12_copyTo_1 rfl hl (by decide) rfl (fun ls hl => ?_)
  obtain ⟨z5, hz5, hf⟩ := bi_s hf
  refine lp_X12_copyTo_33_25_h2 C hz5 ?_ H locs ls hP hD hS (lv_sub hl [1, 2, 0] rfl)
  intro H locs ls hP hD hS hl
  cases hf
  exact bk_vret C hP hD hS rfl dX12_copyTo_20
theorem c_X12_copyTo_33_25 {N : Nat} {σ : Sg} {z : Sg} (hX : xOK g X) (hf : f_X12_copyTo_33_25 N σ = some z) : MetV l yX12_copyTo (Cond.code yX12_copyTo cX12_copyTo 3 none :: wsA) rm_X12_copyTo_33_25 mw g X [.ref (g.2.2 33), .ref (g.2.2 25)] σ z :=
  MetV_of hX (by decide) (Nat.le_of_ble_eq_true rfl) (fun p e s m args below meth c A C => b_X12_copyTo_33_25 C hf)
-- X12_copyTo_34_11: copyTo([I[I)V
abbrev rm_X12_copyTo_34_11 : Room := { frames := 0, cells := 0, slots := 0, locals := 0 }
def s_X12_copyTo_34_11_h2 (N : Nat) (x2 : Int32) (σ : Sg) : Option (Nat × Int32 × Sg) :=
if (3 : Int32) ≤ x2 then (some (1, 0, σ))
else (if (x2 < 0 ∨ 3 ≤ x2.toNatClampNeg) then none else
if (x2 < 0 ∨ 3 ≤ x2.toNatClampNeg) then none else
bd (wr σ 34 (x2.toNatClampNeg) (σ 11 x2.toNatClampNeg)) fun σ3 =>
bd (x2 + (1 : Int32)) fun v4 =>
some (0, v4, σ3))
set_option maxHeartbeats 4000000 in
set_option maxRecDepth 100000 in
theorem e_X12_copyTo_34_11_h2 {N : Nat} {x2 : Int32} {σ : Sg} {z : Nat × Int32 × Sg} (C : Cx p s m args meth c cX12_copyTo 3 none RX12 g A X) (hf : s_X12_copyTo_34_11_h2 N x2 σ = some z) (k0 : z.1 = 0 → Bk mw p l e rm_X12_copyTo_34_11 s m args below meth c 3 g A Q 0 0 2 [(0, .ref (g.2.2 34)), (1, .ref (g.2.2 11)), (2, .int z.2.1)] [] z.2.2) (k : ¬ z.1 = 0 → Bk mw p l e rm_X12_copyTo_34_11 s m args below meth c 3 g A Q 0 0 20 [] [] z.2.2) : Bk mw p l e rm_X12_copyTo_34_11 s m args below meth c 3 g A Q 0 0 2 [(0, .ref (g.2.2 34)), (1, .ref (g.2.2 11)), (2, .int x2)] [] σ := by
  obtain ⟨hx, hb, hr, hml, hown, hts, hK, hlocks, hXX, hA, hXo⟩ := id C
  intro H locs ls hP hD hS hl
  unfold s_X12_copyTo_34_11_h2 at hf
  refine lv_iload_n hx hb dX12_copyTo_2 rfl (lv_at hl 2 rfl) ?_
  refine lv_aload_n hx hb dX12_copyTo_3 rfl (lv_at hl 0 rfl) ?_
  refine bk_alen (wf := mw) (q0 := 34) (t0 := 0) (v := (3 : Int32)) C hP rfl rfl (show Int32.ofNat 3 = (3 : Int32) by decide) dX12_copyTo_4 ?_
  refine lv_icmp_ge (tgt := 20) hx hb dX12_copyTo_5 (by decide) (fun t5 => ?_) (fun t5 => ?_)
  · have hf := (if_pos t5).symm.trans hf
    cases hf
    exact (k (show ¬ (1 : Nat) = 0 by decide)) H locs ls hP hD hS (lv_sub hl [] rfl)
  · have hf := (if_neg t5).symm.trans hf
    refine lv_aload_n hx hb dX12_copyTo_8 rfl (lv_at hl 0 rfl) ?_
    refine lv_iload_n hx hb dX12_copyTo_9 rfl (lv_at hl 2 rfl) ?_
    refine lv_aload_n hx hb dX12_copyTo_10 rfl (lv_at hl 1 rfl) ?_
    refine lv_iload_n hx hb dX12_copyTo_11 rfl (lv_at hl 2 rfl) ?_
    obtain ⟨g1, hf⟩ := gd_s hf
    refine bk_iald (wf := mw) (q0 := 11) (n := 3) (j := x2.toNatClampNeg) C hP rfl g1 rfl dX12_copyTo_12 ?_
    obtain ⟨g2, hf⟩ := gd_s hf
    obtain ⟨σ3, eσ3, hf⟩ := bd_s hf
    refine bk_iast (wf := mw) (σ1 := σ3) (q0 := 34) (n := 3) (j := x2.toNatClampNeg) C hP hD hS rfl g2 rfl (by rw [eσ3]; exact mw_a34 g _ _ _) dX12_copyTo_13 (fun H locs hP hD hS => ?_)
    obtain ⟨v4, ev4, hf⟩ := bd_s hf
    refine lv_iinc (v := v4) (lv' := [(2, .int v4), (0, .ref (g.2.2 34)), (1, .ref (g.2.2 11))]) hx hb dX12_copyTo_14 hl (k := 2) rfl (by rw [ev4]; rfl) (by decide) rfl (fun ls hl => ?_)
    refine lv_goto (tgt := 2) hx hb dX12_copyTo_17 (by decide) ?_
    cases hf
    exact k0 rfl H locs ls hP hD hS (lv_sub hl [1, 2, 0] rfl)
theorem lp_X12_copyTo_34_11_h2 {N : Nat} {n : Nat} {x2 : Int32} {σ : Sg} {z : Nat × Int32 × Sg} (C : Cx p s m args meth c cX12_copyTo 3 none RX12 g A X) (hz : it (fun q => s_X12_copyTo_34_11_h2 N q.1 q.2) n (x2, σ) = some z) (k : Bk mw p l e rm_X12_copyTo_34_11 s m args below meth c 3 g A Q 0 0 20 [] [] z.2.2) : Bk mw p l e rm_X12_copyTo_34_11 s m args below meth c 3 g A Q 0 0 2 [(0, .ref (g.2.2 34)), (1, .ref (g.2.2 11)), (2, .int x2)] [] σ :=
  it_W (S := Int32 × Sg) (fun q => Bk mw p l e rm_X12_copyTo_34_11 s m args below meth c 3 g A Q 0 0 2 [(0, .ref (g.2.2 34)), (1, .ref (g.2.2 11)), (2, .int q.1)] [] q.2) (fun z => Bk mw p l e rm_X12_copyTo_34_11 s m args below meth c 3 g A Q 0 0 20 [] [] z.2.2) (fun q z hq k0 k => e_X12_copyTo_34_11_h2 C hq k0 k) n (x2, σ) z hz k
def f_X12_copyTo_34_11 (N : Nat) (σ : Sg) : Option (Sg) :=
(it (fun q => s_X12_copyTo_34_11_h2 N q.1 q.2) N ((0 : Int32), σ)).bind fun z5 =>
some (z5.2.2)
set_option maxHeartbeats 4000000 in
set_option maxRecDepth 100000 in
theorem b_X12_copyTo_34_11 {N : Nat} {σ : Sg} {z : Sg} (C : Cx p s m args meth c cX12_copyTo 3 none RX12 g A X) (hf : f_X12_copyTo_34_11 N σ = some z) : Bk mw p l e rm_X12_copyTo_34_11 s m args below meth c 3 g A (MQ below (qV mw g A z) args s 0 0 A) 0 0 0 [(0, .ref (g.2.2 34)), (1, .ref (g.2.2 11))] [] σ := by
  obtain ⟨hx, hb, hr, hml, hown, hts, hK, hlocks, hXX, hA, hXo⟩ := id C
  intro H locs ls hP hD hS hl
  unfold f_X12_copyTo_34_11 at hf
  refine lv_iconst (v := (0 : Int32)) hx hb dX12_copyTo_0 (by decide) ?_
  refine lv_istore_n (lv' := [(2, .int (0 : Int32)), (0, .ref (g.2.2 34)), (1, .ref (g.2.2 11))]) hx hb dX12_copyTo_1 rfl hl (by decide) rfl (fun ls hl => ?_)
  obtain ⟨z5, hz5, hf⟩ := bi_s hf
  refine lp_X12_copyTo_34_11_h2 C hz5 ?_ H locs ls hP hD hS (lv_sub hl [1, 2, 0] rfl)
  intro H locs ls hP hD hS hl
  cases hf
  exact bk_vret C hP hD hS rfl dX12_copyTo_20
theorem c_X12_copyTo_34_11 {N : Nat} {σ : Sg} {z : Sg} (hX : xOK g X) (hf : f_X12_copyTo_34_11 N σ = some z) : MetV l yX12_copyTo (Cond.code yX12_copyTo cX12_copyTo 3 none :: wsA) rm_X12_copyTo_34_11 mw g X [.ref (g.2.2 34), .ref (g.2.2 11)] σ z :=
  MetV_of hX (by decide) (Nat.le_of_ble_eq_true rfl) (fun p e s m args below meth c A C => b_X12_copyTo_34_11 C hf)
-- X12_image: image()V
abbrev rm_X12_image : Room := { frames := 1, cells := 0, slots := 0, locals := 23 }
theorem nd_X12_image : yX12_image.cls ≠ "java/lang/invoke/MethodHandle" ∧ yX12_image.cls ≠ "java/lang/invoke/VarHandle" ∧ (parseMethodDescriptor yX12_image.desc).map (fun d => d.parameters.length) = some 0 := by decide +kernel
def s_X12_image_h70 (N : Nat) (x1 : Int32) (σ : Sg) : Option (Nat × Int32 × Sg) :=
if (8 : Int32) ≤ x1 then (some (1, 0, σ))
else (if (x1 < 0 ∨ 8 ≤ x1.toNatClampNeg) then none else
if (x1 < 0 ∨ 8 ≤ x1.toNatClampNeg) then none else
bd (wr σ 35 (x1.toNatClampNeg) (vp_nar .boolean (σ 27 x1.toNatClampNeg))) fun σ3 =>
bd (x1 + (1 : Int32)) fun v4 =>
some (0, v4, σ3))
set_option maxHeartbeats 4000000 in
set_option maxRecDepth 100000 in
theorem e_X12_image_h70 {N : Nat} {x1 : Int32} {σ : Sg} {z : Nat × Int32 × Sg} (C : Cx p s m args meth c cX12_image 2 none RX12 g A X) (hf : s_X12_image_h70 N x1 σ = some z) (k0 : z.1 = 0 → Bk mw p l e rm_X12_image s m args below meth c 2 g A Q 0 0 70 [(0, .ref (g.2.2 0)), (1, .int z.2.1)] [] z.2.2) (k : ¬ z.1 = 0 → Bk mw p l e rm_X12_image s m args below meth c 2 g A Q 0 0 94 [(0, .ref (g.2.2 0))] [] z.2.2) : Bk mw p l e rm_X12_image s m args below meth c 2 g A Q 0 0 70 [(0, .ref (g.2.2 0)), (1, .int x1)] [] σ := by
  obtain ⟨hx, hb, hr, hml, hown, hts, hK, hlocks, hXX, hA, hXo⟩ := id C
  intro H locs ls hP hD hS hl
  unfold s_X12_image_h70 at hf
  refine lv_iload_n hx hb dX12_image_70 rfl (lv_at hl 1 rfl) ?_
  refine lv_bipush (v := (8 : Int32)) hx hb dX12_image_71 (by decide) ?_
  refine lv_icmp_ge (tgt := 94) hx hb dX12_image_73 (by decide) (fun t73 => ?_) (fun t73 => ?_)
  · have hf := (if_pos t73).symm.trans hf
    cases hf
    exact (k (show ¬ (1 : Nat) = 0 by decide)) H locs ls hP hD hS (lv_sub hl [0] rfl)
  · have hf := (if_neg t73).symm.trans hf
    refine lv_aload_n hx hb dX12_image_76 rfl (lv_at hl 0 rfl) ?_
    refine bk_get (wf := mw) (q0 := 0) (ci := 11) (k := 56) (v := .ref (g.2.2 35)) C hP wl_X12 rfl rfl (by decide) wa_192 rfl rfl dX12_image_77 ?_
    refine lv_iload_n hx hb dX12_image_80 rfl (lv_at hl 1 rfl) ?_
    refine lv_aload_n hx hb dX12_image_81 rfl (lv_at hl 0 rfl) ?_
    refine bk_get (wf := mw) (q0 := 0) (ci := 11) (k := 43) (v := .ref (g.2.2 27)) C hP wl_X12 rfl rfl (by decide) wa_184 rfl rfl dX12_image_82 ?_
    refine lv_iload_n hx hb dX12_image_85 rfl (lv_at hl 1 rfl) ?_
    obtain ⟨g1, hf⟩ := gd_s hf
    refine bk_zald (wf := mw) (q0 := 27) (n := 8) (j := x1.toNatClampNeg) C hP rfl g1 rfl dX12_image_86 ?_
    obtain ⟨g2, hf⟩ := gd_s hf
    obtain ⟨σ3, eσ3, hf⟩ := bd_s hf
    refine bk_zast (wf := mw) (σ1 := σ3) (q0 := 35) (n := 8) (j := x1.toNatClampNeg) C hP hD hS rfl g2 rfl (by rw [eσ3]; exact mw_a35 g _ _ _) dX12_image_87 (fun H locs hP hD hS => ?_)
    obtain ⟨v4, ev4, hf⟩ := bd_s hf
    refine lv_iinc (v := v4) (lv' := [(1, .int v4), (0, .ref (g.2.2 0))]) hx hb dX12_image_88 hl (k := 1) rfl (by rw [ev4]; rfl) (by decide) rfl (fun ls hl => ?_)
    refine lv_goto (tgt := 70) hx hb dX12_image_91 (by decide) ?_
    cases hf
    exact k0 rfl H locs ls hP hD hS (lv_sub hl [1, 0] rfl)
theorem lp_X12_image_h70 {N : Nat} {n : Nat} {x1 : Int32} {σ : Sg} {z : Nat × Int32 × Sg} (C : Cx p s m args meth c cX12_image 2 none RX12 g A X) (hz : it (fun q => s_X12_image_h70 N q.1 q.2) n (x1, σ) = some z) (k : Bk mw p l e rm_X12_image s m args below meth c 2 g A Q 0 0 94 [(0, .ref (g.2.2 0))] [] z.2.2) : Bk mw p l e rm_X12_image s m args below meth c 2 g A Q 0 0 70 [(0, .ref (g.2.2 0)), (1, .int x1)] [] σ :=
  it_W (S := Int32 × Sg) (fun q => Bk mw p l e rm_X12_image s m args below meth c 2 g A Q 0 0 70 [(0, .ref (g.2.2 0)), (1, .int q.1)] [] q.2) (fun z => Bk mw p l e rm_X12_image s m args below meth c 2 g A Q 0 0 94 [(0, .ref (g.2.2 0))] [] z.2.2) (fun q z hq k0 k => e_X12_image_h70 C hq k0 k) n (x1, σ) z hz k
def f_X12_image (N : Nat) (σ : Sg) : Option (Sg) :=
bd (wr σ 0 2 (0 : Int32)) fun σ5 =>
bd (wr σ5 0 48 (1 : Int32)) fun σ6 =>
bd (wr σ6 0 49 (σ6 0 30)) fun σ7 =>
bd (wr σ7 0 50 (σ7 0 31)) fun σ8 =>
(f_X12_pack_30 N (0 : Int32) σ8).bind fun q9 =>
(f_X12_copyTo_31_17 N q9).bind fun q10 =>
(f_X12_copyTo_32_24 N q10).bind fun q11 =>
(f_X12_copyTo_33_25 N q11).bind fun q12 =>
(it (fun q => s_X12_image_h70 N q.1 q.2) N ((0 : Int32), q12)).bind fun z13 =>
(f_X12_copyTo_34_11 N (z13.2.2)).bind fun q14 =>
some q14
set_option maxHeartbeats 4000000 in
set_option maxRecDepth 100000 in
theorem b_X12_image {N : Nat} {σ : Sg} {z : Sg} (C : Cx p s m args meth c cX12_image 2 none RX12 g A X) (hf : f_X12_image N σ = some z) : Bk mw p l e rm_X12_image s m args below meth c 2 g A (MQ below (qV mw g A z) args s 0 0 A) 0 0 0 [(0, .ref (g.2.2 0))] [] σ := by
  obtain ⟨hx, hb, hr, hml, hown, hts, hK, hlocks, hXX, hA, hXo⟩ := id C
  intro H locs ls hP hD hS hl
  unfold f_X12_image at hf
  refine lv_aload_n hx hb dX12_image_0 rfl (lv_at hl 0 rfl) ?_
  refine lv_iconst (v := (0 : Int32)) hx hb dX12_image_1 (by decide) ?_
  obtain ⟨σ5, eσ5, hf⟩ := bd_s hf
  refine bk_put (wf := mw) (σ1 := σ5) (q0 := 0) (ci := 11) (k := 2) (v := .int (0 : Int32)) C hP hD hS wl_X12 tyX12_ok nmX12 rfl rfl (by decide) wa_205 rfl rfl rfl rfl rfl (Nat.le_of_ble_eq_true rfl) (by rw [eσ5]; exact mw_p0_2 g _ _) dX12_image_2 (fun H locs hP hD hS => ?_)
  refine lv_aload_n hx hb dX12_image_5 rfl (lv_at hl 0 rfl) ?_
  refine lv_iconst (v := (1 : Int32)) hx hb dX12_image_6 (by decide) ?_
  obtain ⟨σ6, eσ6, hf⟩ := bd_s hf
  refine bk_put (wf := mw) (σ1 := σ6) (q0 := 0) (ci := 11) (k := 48) (v := .int (1 : Int32)) C hP hD hS wl_X12 tyX12_ok nmX12 rfl rfl (by decide) wa_617 rfl rfl rfl rfl rfl (Nat.le_of_ble_eq_true rfl) (by rw [eσ6]; exact mw_p0_48 g _ _) dX12_image_7 (fun H locs hP hD hS => ?_)
  refine lv_aload_n hx hb dX12_image_10 rfl (lv_at hl 0 rfl) ?_
  refine lv_aload_n hx hb dX12_image_11 rfl (lv_at hl 0 rfl) ?_
  refine bk_get (wf := mw) (q0 := 0) (ci := 11) (k := 30) (v := .int (σ6 0 30)) C hP wl_X12 rfl rfl (by decide) wa_615 rfl rfl dX12_image_12 ?_
  obtain ⟨σ7, eσ7, hf⟩ := bd_s hf
  refine bk_put (wf := mw) (σ1 := σ7) (q0 := 0) (ci := 11) (k := 49) (v := .int (σ6 0 30)) C hP hD hS wl_X12 tyX12_ok nmX12 rfl rfl (by decide) wa_1442 rfl rfl rfl rfl rfl (Nat.le_of_ble_eq_true rfl) (by rw [eσ7]; exact mw_p0_49 g _ _) dX12_image_15 (fun H locs hP hD hS => ?_)
  refine lv_aload_n hx hb dX12_image_18 rfl (lv_at hl 0 rfl) ?_
  refine lv_aload_n hx hb dX12_image_19 rfl (lv_at hl 0 rfl) ?_
  refine bk_get (wf := mw) (q0 := 0) (ci := 11) (k := 31) (v := .int (σ7 0 31)) C hP wl_X12 rfl rfl (by decide) wa_616 rfl rfl dX12_image_20 ?_
  obtain ⟨σ8, eσ8, hf⟩ := bd_s hf
  refine bk_put (wf := mw) (σ1 := σ8) (q0 := 0) (ci := 11) (k := 50) (v := .int (σ7 0 31)) C hP hD hS wl_X12 tyX12_ok nmX12 rfl rfl (by decide) wa_1443 rfl rfl rfl rfl rfl (Nat.le_of_ble_eq_true rfl) (by rw [eσ8]; exact mw_p0_50 g _ _) dX12_image_23 (fun H locs hP hD hS => ?_)
  refine lv_aload_n hx hb dX12_image_26 rfl (lv_at hl 0 rfl) ?_
  refine lv_aload_n hx hb dX12_image_27 rfl (lv_at hl 0 rfl) ?_
  refine bk_get (wf := mw) (q0 := 0) (ci := 11) (k := 51) (v := .ref (g.2.2 30)) C hP wl_X12 rfl rfl (by decide) wa_187 rfl rfl dX12_image_28 ?_
  refine lv_iconst (v := (0 : Int32)) hx hb dX12_image_31 (by decide) ?_
  obtain ⟨q9, hq9, hf⟩ := bi_s hf
  refine bk_VV (wf := mw) (q0 := 0) (ci := 11) (rest := []) [.ref (g.2.2 30), .int (0 : Int32)] C hP hD hS hl.1 (c_X12_pack_30 hXo hq9) (cwA_V 2 hts wa_895 wa_892 wa_893 wa_894 wa_5 rfl rfl nd_X12_pack ⟨Nat.le_of_ble_eq_true rfl, Nat.le_of_ble_eq_true rfl⟩) rfl rfl rfl rfl (Nat.le_of_ble_eq_true rfl) dX12_image_32 ⟨Nat.le_of_ble_eq_true rfl, Nat.le_of_ble_eq_true rfl⟩ (fun H locs hP hD hS => ?_)
  refine lv_aload_n hx hb dX12_image_35 rfl (lv_at hl 0 rfl) ?_
  refine bk_get (wf := mw) (q0 := 0) (ci := 11) (k := 52) (v := .ref (g.2.2 31)) C hP wl_X12 rfl rfl (by decide) wa_188 rfl rfl dX12_image_36 ?_
  refine lv_aload_n hx hb dX12_image_39 rfl (lv_at hl 0 rfl) ?_
  refine bk_get (wf := mw) (q0 := 0) (ci := 11) (k := 27) (v := .ref (g.2.2 17)) C hP wl_X12 rfl rfl (by decide) wa_172 rfl rfl dX12_image_40 ?_
  obtain ⟨q10, hq10, hf⟩ := bi_s hf
  refine bk_SV (wf := mw) (rest := []) [.ref (g.2.2 31), .ref (g.2.2 17)] C hP hD hS hl.1 (c_X12_copyTo_31_17 hXo hq10) (cwA_S 2 hts wa_1446 wa_1444 wa_1445 wa_5 rfl rfl nd_X12_copyTo ⟨Nat.le_of_ble_eq_true rfl, Nat.le_of_ble_eq_true rfl⟩) rfl rfl (Nat.le_of_ble_eq_true rfl) dX12_image_43 ⟨Nat.le_of_ble_eq_true rfl, Nat.le_of_ble_eq_true rfl⟩ (fun H locs hP hD hS => ?_)
  refine lv_aload_n hx hb dX12_image_46 rfl (lv_at hl 0 rfl) ?_
  refine bk_get (wf := mw) (q0 := 0) (ci := 11) (k := 53) (v := .ref (g.2.2 32)) C hP wl_X12 rfl rfl (by decide) wa_189 rfl rfl dX12_image_47 ?_
  refine lv_aload_n hx hb dX12_image_50 rfl (lv_at hl 0 rfl) ?_
  refine bk_get (wf := mw) (q0 := 0) (ci := 11) (k := 40) (v := .ref (g.2.2 24)) C hP wl_X12 rfl rfl (by decide) wa_180 rfl rfl dX12_image_51 ?_
  obtain ⟨q11, hq11, hf⟩ := bi_s hf
  refine bk_SV (wf := mw) (rest := []) [.ref (g.2.2 32), .ref (g.2.2 24)] C hP hD hS hl.1 (c_X12_copyTo_32_24 hXo hq11) (cwA_S 2 hts wa_1446 wa_1444 wa_1445 wa_5 rfl rfl nd_X12_copyTo ⟨Nat.le_of_ble_eq_true rfl, Nat.le_of_ble_eq_true rfl⟩) rfl rfl (Nat.le_of_ble_eq_true rfl) dX12_image_54 ⟨Nat.le_of_ble_eq_true rfl, Nat.le_of_ble_eq_true rfl⟩ (fun H locs hP hD hS => ?_)
  refine lv_aload_n hx hb dX12_image_57 rfl (lv_at hl 0 rfl) ?_
  refine bk_get (wf := mw) (q0 := 0) (ci := 11) (k := 54) (v := .ref (g.2.2 33)) C hP wl_X12 rfl rfl (by decide) wa_190 rfl rfl dX12_image_58 ?_
  refine lv_aload_n hx hb dX12_image_61 rfl (lv_at hl 0 rfl) ?_
  refine bk_get (wf := mw) (q0 := 0) (ci := 11) (k := 41) (v := .ref (g.2.2 25)) C hP wl_X12 rfl rfl (by decide) wa_181 rfl rfl dX12_image_62 ?_
  obtain ⟨q12, hq12, hf⟩ := bi_s hf
  refine bk_SV (wf := mw) (rest := []) [.ref (g.2.2 33), .ref (g.2.2 25)] C hP hD hS hl.1 (c_X12_copyTo_33_25 hXo hq12) (cwA_S 2 hts wa_1446 wa_1444 wa_1445 wa_5 rfl rfl nd_X12_copyTo ⟨Nat.le_of_ble_eq_true rfl, Nat.le_of_ble_eq_true rfl⟩) rfl rfl (Nat.le_of_ble_eq_true rfl) dX12_image_65 ⟨Nat.le_of_ble_eq_true rfl, Nat.le_of_ble_eq_true rfl⟩ (fun H locs hP hD hS => ?_)
  refine lv_iconst (v := (0 : Int32)) hx hb dX12_image_68 (by decide) ?_
  refine lv_istore_n (lv' := [(1, .int (0 : Int32)), (0, .ref (g.2.2 0))]) hx hb dX12_image_69 rfl hl (by decide) rfl (fun ls hl => ?_)
  obtain ⟨z13, hz13, hf⟩ := bi_s hf
  refine lp_X12_image_h70 C hz13 ?_ H locs ls hP hD hS (lv_sub hl [1, 0] rfl)
  intro H locs ls hP hD hS hl
  refine lv_aload_n hx hb dX12_image_94 rfl (lv_at hl 0 rfl) ?_
  refine bk_get (wf := mw) (q0 := 0) (ci := 11) (k := 55) (v := .ref (g.2.2 34)) C hP wl_X12 rfl rfl (by decide) wa_191 rfl rfl dX12_image_95 ?_
  refine lv_aload_n hx hb dX12_image_98 rfl (lv_at hl 0 rfl) ?_
  refine bk_get (wf := mw) (q0 := 0) (ci := 11) (k := 11) (v := .ref (g.2.2 11)) C hP wl_X12 rfl rfl (by decide) wa_165 rfl rfl dX12_image_99 ?_
  obtain ⟨q14, hq14, hf⟩ := bi_s hf
  refine bk_SV (wf := mw) (rest := []) [.ref (g.2.2 34), .ref (g.2.2 11)] C hP hD hS hl.1 (c_X12_copyTo_34_11 hXo hq14) (cwA_S 2 hts wa_1446 wa_1444 wa_1445 wa_5 rfl rfl nd_X12_copyTo ⟨Nat.le_of_ble_eq_true rfl, Nat.le_of_ble_eq_true rfl⟩) rfl rfl (Nat.le_of_ble_eq_true rfl) dX12_image_102 ⟨Nat.le_of_ble_eq_true rfl, Nat.le_of_ble_eq_true rfl⟩ (fun H locs hP hD hS => ?_)
  cases hf
  exact bk_vret C hP hD hS rfl dX12_image_105
theorem c_X12_image {N : Nat} {σ : Sg} {z : Sg} (hX : xOK g X) (hf : f_X12_image N σ = some z) : MetV l yX12_image (Cond.code yX12_image cX12_image 2 none :: wsA) rm_X12_image mw g X [.ref (g.2.2 0)] σ z :=
  MetV_of hX (by decide) (Nat.le_of_ble_eq_true rfl) (fun p e s m args below meth c A C => b_X12_image C hf)
-- X12_unpack_30: unpack([II)V
abbrev rm_X12_unpack_30 : Room := { frames := 0, cells := 0, slots := 0, locals := 0 }
def s_X12_unpack_30_h18 (N : Nat) (x2 : Int32) (x3 : Int32) (σ : Sg) : Option (Nat × Int32 × Sg) :=
if (9 : Int32) ≤ x3 then (some (1, 0, σ))
else (if (((x2 + (2 : Int32)) + x3) < 0 ∨ 38 ≤ ((x2 + (2 : Int32)) + x3).toNatClampNeg) then none else
if (x3 < 0 ∨ 9 ≤ x3.toNatClampNeg) then none else
bd (wr σ 13 (x3.toNatClampNeg) (σ 30 ((x2 + (2 : Int32)) + x3).toNatClampNeg)) fun σ3 =>
if ((((x2 + (2 : Int32)) + (9 : Int32)) + x3) < 0 ∨ 38 ≤ (((x2 + (2 : Int32)) + (9 : Int32)) + x3).toNatClampNeg) then none else
if (x3 < 0 ∨ 9 ≤ x3.toNatClampNeg) then none else
bd (wr σ3 14 (x3.toNatClampNeg) (σ3 30 (((x2 + (2 : Int32)) + (9 : Int32)) + x3).toNatClampNeg)) fun σ6 =>
if ((((x2 + (2 : Int32)) + (18 : Int32)) + x3) < 0 ∨ 38 ≤ (((x2 + (2 : Int32)) + (18 : Int32)) + x3).toNatClampNeg) then none else
if (x3 < 0 ∨ 9 ≤ x3.toNatClampNeg) then none else
bd (wr σ6 15 (x3.toNatClampNeg) (σ6 30 (((x2 + (2 : Int32)) + (18 : Int32)) + x3).toNatClampNeg)) fun σ9 =>
if ((((x2 + (2 : Int32)) + (27 : Int32)) + x3) < 0 ∨ 38 ≤ (((x2 + (2 : Int32)) + (27 : Int32)) + x3).toNatClampNeg) then none else
if (x3 < 0 ∨ 9 ≤ x3.toNatClampNeg) then none else
bd (wr σ9 16 (x3.toNatClampNeg) (σ9 30 (((x2 + (2 : Int32)) + (27 : Int32)) + x3).toNatClampNeg)) fun σ12 =>
bd (x3 + (1 : Int32)) fun v13 =>
some (0, v13, σ12))
set_option maxHeartbeats 4000000 in
set_option maxRecDepth 100000 in
theorem e_X12_unpack_30_h18 {N : Nat} {x2 : Int32} {x3 : Int32} {σ : Sg} {z : Nat × Int32 × Sg} (C : Cx p s m args meth c cX12_unpack 4 none RX12 g A X) (hf : s_X12_unpack_30_h18 N x2 x3 σ = some z) (k0 : z.1 = 0 → Bk mw p l e rm_X12_unpack_30 s m args below meth c 4 g A Q 0 0 18 [(0, .ref (g.2.2 0)), (1, .ref (g.2.2 30)), (2, .int x2), (3, .int z.2.1)] [] z.2.2) (k : ¬ z.1 = 0 → Bk mw p l e rm_X12_unpack_30 s m args below meth c 4 g A Q 0 0 91 [] [] z.2.2) : Bk mw p l e rm_X12_unpack_30 s m args below meth c 4 g A Q 0 0 18 [(0, .ref (g.2.2 0)), (1, .ref (g.2.2 30)), (2, .int x2), (3, .int x3)] [] σ := by
  obtain ⟨hx, hb, hr, hml, hown, hts, hK, hlocks, hXX, hA, hXo⟩ := id C
  intro H locs ls hP hD hS hl
  unfold s_X12_unpack_30_h18 at hf
  refine lv_iload_n hx hb dX12_unpack_18 rfl (lv_at hl 3 rfl) ?_
  refine lv_bipush (v := (9 : Int32)) hx hb dX12_unpack_19 (by decide) ?_
  refine lv_icmp_ge (tgt := 91) hx hb dX12_unpack_21 (by decide) (fun t21 => ?_) (fun t21 => ?_)
  · have hf := (if_pos t21).symm.trans hf
    cases hf
    exact (k (show ¬ (1 : Nat) = 0 by decide)) H locs ls hP hD hS (lv_sub hl [] rfl)
  · have hf := (if_neg t21).symm.trans hf
    refine lv_aload_n hx hb dX12_unpack_24 rfl (lv_at hl 0 rfl) ?_
    refine bk_get (wf := mw) (q0 := 0) (ci := 11) (k := 23) (v := .ref (g.2.2 13)) C hP wl_X12 rfl rfl (by decide) wa_168 rfl rfl dX12_unpack_25 ?_
    refine lv_iload_n hx hb dX12_unpack_28 rfl (lv_at hl 3 rfl) ?_
    refine lv_aload_n hx hb dX12_unpack_29 rfl (lv_at hl 1 rfl) ?_
    refine lv_iload_n hx hb dX12_unpack_30 rfl (lv_at hl 2 rfl) ?_
    refine lv_iconst (v := (2 : Int32)) hx hb dX12_unpack_31 (by decide) ?_
    refine lv_iadd hx hb dX12_unpack_32 ?_
    refine lv_iload_n hx hb dX12_unpack_33 rfl (lv_at hl 3 rfl) ?_
    refine lv_iadd hx hb dX12_unpack_34 ?_
    obtain ⟨g1, hf⟩ := gd_s hf
    refine bk_iald (wf := mw) (q0 := 30) (n := 38) (j := ((x2 + (2 : Int32)) + x3).toNatClampNeg) C hP rfl g1 rfl dX12_unpack_35 ?_
    obtain ⟨g2, hf⟩ := gd_s hf
    obtain ⟨σ3, eσ3, hf⟩ := bd_s hf
    refine bk_iast (wf := mw) (σ1 := σ3) (q0 := 13) (n := 9) (j := x3.toNatClampNeg) C hP hD hS rfl g2 rfl (by rw [eσ3]; exact mw_a13 g _ _ _) dX12_unpack_36 (fun H locs hP hD hS => ?_)
    refine lv_aload_n hx hb dX12_unpack_37 rfl (lv_at hl 0 rfl) ?_
    refine bk_get (wf := mw) (q0 := 0) (ci := 11) (k := 24) (v := .ref (g.2.2 14)) C hP wl_X12 rfl rfl (by decide) wa_169 rfl rfl dX12_unpack_38 ?_
    refine lv_iload_n hx hb dX12_unpack_41 rfl (lv_at hl 3 rfl) ?_
    refine lv_aload_n hx hb dX12_unpack_42 rfl (lv_at hl 1 rfl) ?_
    refine lv_iload_n hx hb dX12_unpack_43 rfl (lv_at hl 2 rfl) ?_
    refine lv_iconst (v := (2 : Int32)) hx hb dX12_unpack_44 (by decide) ?_
    refine lv_iadd hx hb dX12_unpack_45 ?_
    refine lv_bipush (v := (9 : Int32)) hx hb dX12_unpack_46 (by decide) ?_
    refine lv_iadd hx hb dX12_unpack_48 ?_
    refine lv_iload_n hx hb dX12_unpack_49 rfl (lv_at hl 3 rfl) ?_
    refine lv_iadd hx hb dX12_unpack_50 ?_
    obtain ⟨g4, hf⟩ := gd_s hf
    refine bk_iald (wf := mw) (q0 := 30) (n := 38) (j := (((x2 + (2 : Int32)) + (9 : Int32)) + x3).toNatClampNeg) C hP rfl g4 rfl dX12_unpack_51 ?_
    obtain ⟨g5, hf⟩ := gd_s hf
    obtain ⟨σ6, eσ6, hf⟩ := bd_s hf
    refine bk_iast (wf := mw) (σ1 := σ6) (q0 := 14) (n := 9) (j := x3.toNatClampNeg) C hP hD hS rfl g5 rfl (by rw [eσ6]; exact mw_a14 g _ _ _) dX12_unpack_52 (fun H locs hP hD hS => ?_)
    refine lv_aload_n hx hb dX12_unpack_53 rfl (lv_at hl 0 rfl) ?_
    refine bk_get (wf := mw) (q0 := 0) (ci := 11) (k := 25) (v := .ref (g.2.2 15)) C hP wl_X12 rfl rfl (by decide) wa_170 rfl rfl dX12_unpack_54 ?_
    refine lv_iload_n hx hb dX12_unpack_57 rfl (lv_at hl 3 rfl) ?_
    refine lv_aload_n hx hb dX12_unpack_58 rfl (lv_at hl 1 rfl) ?_
    refine lv_iload_n hx hb dX12_unpack_59 rfl (lv_at hl 2 rfl) ?_
    refine lv_iconst (v := (2 : Int32)) hx hb dX12_unpack_60 (by decide) ?_
    refine lv_iadd hx hb dX12_unpack_61 ?_
    refine lv_bipush (v := (18 : Int32)) hx hb dX12_unpack_62 (by decide) ?_
    refine lv_iadd hx hb dX12_unpack_64 ?_
    refine lv_iload_n hx hb dX12_unpack_65 rfl (lv_at hl 3 rfl) ?_
    refine lv_iadd hx hb dX12_unpack_66 ?_
    obtain ⟨g7, hf⟩ := gd_s hf
    refine bk_iald (wf := mw) (q0 := 30) (n := 38) (j := (((x2 + (2 : Int32)) + (18 : Int32)) + x3).toNatClampNeg) C hP rfl g7 rfl dX12_unpack_67 ?_
    obtain ⟨g8, hf⟩ := gd_s hf
    obtain ⟨σ9, eσ9, hf⟩ := bd_s hf
    refine bk_iast (wf := mw) (σ1 := σ9) (q0 := 15) (n := 9) (j := x3.toNatClampNeg) C hP hD hS rfl g8 rfl (by rw [eσ9]; exact mw_a15 g _ _ _) dX12_unpack_68 (fun H locs hP hD hS => ?_)
    refine lv_aload_n hx hb dX12_unpack_69 rfl (lv_at hl 0 rfl) ?_
    refine bk_get (wf := mw) (q0 := 0) (ci := 11) (k := 26) (v := .ref (g.2.2 16)) C hP wl_X12 rfl rfl (by decide) wa_171 rfl rfl dX12_unpack_70 ?_
    refine lv_iload_n hx hb dX12_unpack_73 rfl (lv_at hl 3 rfl) ?_
    refine lv_aload_n hx hb dX12_unpack_74 rfl (lv_at hl 1 rfl) ?_
    refine lv_iload_n hx hb dX12_unpack_75 rfl (lv_at hl 2 rfl) ?_
    refine lv_iconst (v := (2 : Int32)) hx hb dX12_unpack_76 (by decide) ?_
    refine lv_iadd hx hb dX12_unpack_77 ?_
    refine lv_bipush (v := (27 : Int32)) hx hb dX12_unpack_78 (by decide) ?_
    refine lv_iadd hx hb dX12_unpack_80 ?_
    refine lv_iload_n hx hb dX12_unpack_81 rfl (lv_at hl 3 rfl) ?_
    refine lv_iadd hx hb dX12_unpack_82 ?_
    obtain ⟨g10, hf⟩ := gd_s hf
    refine bk_iald (wf := mw) (q0 := 30) (n := 38) (j := (((x2 + (2 : Int32)) + (27 : Int32)) + x3).toNatClampNeg) C hP rfl g10 rfl dX12_unpack_83 ?_
    obtain ⟨g11, hf⟩ := gd_s hf
    obtain ⟨σ12, eσ12, hf⟩ := bd_s hf
    refine bk_iast (wf := mw) (σ1 := σ12) (q0 := 16) (n := 9) (j := x3.toNatClampNeg) C hP hD hS rfl g11 rfl (by rw [eσ12]; exact mw_a16 g _ _ _) dX12_unpack_84 (fun H locs hP hD hS => ?_)
    obtain ⟨v13, ev13, hf⟩ := bd_s hf
    refine lv_iinc (v := v13) (lv' := [(3, .int v13), (0, .ref (g.2.2 0)), (1, .ref (g.2.2 30)), (2, .int x2)]) hx hb dX12_unpack_85 hl (k := 3) rfl (by rw [ev13]; rfl) (by decide) rfl (fun ls hl => ?_)
    refine lv_goto (tgt := 18) hx hb dX12_unpack_88 (by decide) ?_
    cases hf
    exact k0 rfl H locs ls hP hD hS (lv_sub hl [1, 2, 3, 0] rfl)
theorem lp_X12_unpack_30_h18 {N : Nat} {n : Nat} {x2 : Int32} {x3 : Int32} {σ : Sg} {z : Nat × Int32 × Sg} (C : Cx p s m args meth c cX12_unpack 4 none RX12 g A X) (hz : it (fun q => s_X12_unpack_30_h18 N x2 q.1 q.2) n (x3, σ) = some z) (k : Bk mw p l e rm_X12_unpack_30 s m args below meth c 4 g A Q 0 0 91 [] [] z.2.2) : Bk mw p l e rm_X12_unpack_30 s m args below meth c 4 g A Q 0 0 18 [(0, .ref (g.2.2 0)), (1, .ref (g.2.2 30)), (2, .int x2), (3, .int x3)] [] σ :=
  it_W (S := Int32 × Sg) (fun q => Bk mw p l e rm_X12_unpack_30 s m args below meth c 4 g A Q 0 0 18 [(0, .ref (g.2.2 0)), (1, .ref (g.2.2 30)), (2, .int x2), (3, .int q.1)] [] q.2) (fun z => Bk mw p l e rm_X12_unpack_30 s m args below meth c 4 g A Q 0 0 91 [] [] z.2.2) (fun q z hq k0 k => e_X12_unpack_30_h18 C hq k0 k) n (x3, σ) z hz k
def f_X12_unpack_30 (N : Nat) (x2 : Int32) (σ : Sg) : Option (Sg) :=
if (x2 < 0 ∨ 38 ≤ x2.toNatClampNeg) then none else
bd (wr σ 0 28 (σ 30 x2.toNatClampNeg)) fun σ15 =>
if ((x2 + (1 : Int32)) < 0 ∨ 38 ≤ (x2 + (1 : Int32)).toNatClampNeg) then none else
bd (wr σ15 0 29 (σ15 30 (x2 + (1 : Int32)).toNatClampNeg)) fun σ17 =>
(it (fun q => s_X12_unpack_30_h18 N x2 q.1 q.2) N ((0 : Int32), σ17)).bind fun z18 =>
some (z18.2.2)
set_option maxHeartbeats 4000000 in
set_option maxRecDepth 100000 in
theorem b_X12_unpack_30 {N : Nat} {x2 : Int32} {σ : Sg} {z : Sg} (C : Cx p s m args meth c cX12_unpack 4 none RX12 g A X) (hf : f_X12_unpack_30 N x2 σ = some z) : Bk mw p l e rm_X12_unpack_30 s m args below meth c 4 g A (MQ below (qV mw g A z) args s 0 0 A) 0 0 0 [(0, .ref (g.2.2 0)), (1, .ref (g.2.2 30)), (2, .int x2)] [] σ := by
  obtain ⟨hx, hb, hr, hml, hown, hts, hK, hlocks, hXX, hA, hXo⟩ := id C
  intro H locs ls hP hD hS hl
  unfold f_X12_unpack_30 at hf
  refine lv_aload_n hx hb dX12_unpack_0 rfl (lv_at hl 0 rfl) ?_
  refine lv_aload_n hx hb dX12_unpack_1 rfl (lv_at hl 1 rfl) ?_
  refine lv_iload_n hx hb dX12_unpack_2 rfl (lv_at hl 2 rfl) ?_
  obtain ⟨g14, hf⟩ := gd_s hf
  refine bk_iald (wf := mw) (q0 := 30) (n := 38) (j := x2.toNatClampNeg) C hP rfl g14 rfl dX12_unpack_3 ?_
  obtain ⟨σ15, eσ15, hf⟩ := bd_s hf
  refine bk_put (wf := mw) (σ1 := σ15) (q0 := 0) (ci := 11) (k := 28) (v := .int (σ 30 x2.toNatClampNeg)) C hP hD hS wl_X12 tyX12_ok nmX12 rfl rfl (by decide) wa_613 rfl rfl rfl rfl rfl (Nat.le_of_ble_eq_true rfl) (by rw [eσ15]; exact mw_p0_28 g _ _) dX12_unpack_4 (fun H locs hP hD hS => ?_)
  refine lv_aload_n hx hb dX12_unpack_7 rfl (lv_at hl 0 rfl) ?_
  refine lv_aload_n hx hb dX12_unpack_8 rfl (lv_at hl 1 rfl) ?_
  refine lv_iload_n hx hb dX12_unpack_9 rfl (lv_at hl 2 rfl) ?_
  refine lv_iconst (v := (1 : Int32)) hx hb dX12_unpack_10 (by decide) ?_
  refine lv_iadd hx hb dX12_unpack_11 ?_
  obtain ⟨g16, hf⟩ := gd_s hf
  refine bk_iald (wf := mw) (q0 := 30) (n := 38) (j := (x2 + (1 : Int32)).toNatClampNeg) C hP rfl g16 rfl dX12_unpack_12 ?_
  obtain ⟨σ17, eσ17, hf⟩ := bd_s hf
  refine bk_put (wf := mw) (σ1 := σ17) (q0 := 0) (ci := 11) (k := 29) (v := .int (σ15 30 (x2 + (1 : Int32)).toNatClampNeg)) C hP hD hS wl_X12 tyX12_ok nmX12 rfl rfl (by decide) wa_614 rfl rfl rfl rfl rfl (Nat.le_of_ble_eq_true rfl) (by rw [eσ17]; exact mw_p0_29 g _ _) dX12_unpack_13 (fun H locs hP hD hS => ?_)
  refine lv_iconst (v := (0 : Int32)) hx hb dX12_unpack_16 (by decide) ?_
  refine lv_istore_n (lv' := [(3, .int (0 : Int32)), (0, .ref (g.2.2 0)), (1, .ref (g.2.2 30)), (2, .int x2)]) hx hb dX12_unpack_17 rfl hl (by decide) rfl (fun ls hl => ?_)
  obtain ⟨z18, hz18, hf⟩ := bi_s hf
  refine lp_X12_unpack_30_h18 C hz18 ?_ H locs ls hP hD hS (lv_sub hl [1, 2, 3, 0] rfl)
  intro H locs ls hP hD hS hl
  cases hf
  exact bk_vret C hP hD hS rfl dX12_unpack_91
theorem c_X12_unpack_30 {N : Nat} {x2 : Int32} {σ : Sg} {z : Sg} (hX : xOK g X) (hf : f_X12_unpack_30 N x2 σ = some z) : MetV l yX12_unpack (Cond.code yX12_unpack cX12_unpack 4 none :: wsA) rm_X12_unpack_30 mw g X [.ref (g.2.2 0), .ref (g.2.2 30), .int x2] σ z :=
  MetV_of hX (by decide) (Nat.le_of_ble_eq_true rfl) (fun p e s m args below meth c A C => b_X12_unpack_30 C hf)
-- X12_copyTo_17_31: copyTo([I[I)V
abbrev rm_X12_copyTo_17_31 : Room := { frames := 0, cells := 0, slots := 0, locals := 0 }
def s_X12_copyTo_17_31_h2 (N : Nat) (x2 : Int32) (σ : Sg) : Option (Nat × Int32 × Sg) :=
if (1520 : Int32) ≤ x2 then (some (1, 0, σ))
else (if (x2 < 0 ∨ 1520 ≤ x2.toNatClampNeg) then none else
if (x2 < 0 ∨ 1520 ≤ x2.toNatClampNeg) then none else
bd (wr σ 17 (x2.toNatClampNeg) (σ 31 x2.toNatClampNeg)) fun σ3 =>
bd (x2 + (1 : Int32)) fun v4 =>
some (0, v4, σ3))
set_option maxHeartbeats 4000000 in
set_option maxRecDepth 100000 in
theorem e_X12_copyTo_17_31_h2 {N : Nat} {x2 : Int32} {σ : Sg} {z : Nat × Int32 × Sg} (C : Cx p s m args meth c cX12_copyTo 3 none RX12 g A X) (hf : s_X12_copyTo_17_31_h2 N x2 σ = some z) (k0 : z.1 = 0 → Bk mw p l e rm_X12_copyTo_17_31 s m args below meth c 3 g A Q 0 0 2 [(0, .ref (g.2.2 17)), (1, .ref (g.2.2 31)), (2, .int z.2.1)] [] z.2.2) (k : ¬ z.1 = 0 → Bk mw p l e rm_X12_copyTo_17_31 s m args below meth c 3 g A Q 0 0 20 [] [] z.2.2) : Bk mw p l e rm_X12_copyTo_17_31 s m args below meth c 3 g A Q 0 0 2 [(0, .ref (g.2.2 17)), (1, .ref (g.2.2 31)), (2, .int x2)] [] σ := by
  obtain ⟨hx, hb, hr, hml, hown, hts, hK, hlocks, hXX, hA, hXo⟩ := id C
  intro H locs ls hP hD hS hl
  unfold s_X12_copyTo_17_31_h2 at hf
  refine lv_iload_n hx hb dX12_copyTo_2 rfl (lv_at hl 2 rfl) ?_
  refine lv_aload_n hx hb dX12_copyTo_3 rfl (lv_at hl 0 rfl) ?_
  refine bk_alen (wf := mw) (q0 := 17) (t0 := 0) (v := (1520 : Int32)) C hP rfl rfl (show Int32.ofNat 1520 = (1520 : Int32) by decide) dX12_copyTo_4 ?_
  refine lv_icmp_ge (tgt := 20) hx hb dX12_copyTo_5 (by decide) (fun t5 => ?_) (fun t5 => ?_)
  · have hf := (if_pos t5).symm.trans hf
    cases hf
    exact (k (show ¬ (1 : Nat) = 0 by decide)) H locs ls hP hD hS (lv_sub hl [] rfl)
  · have hf := (if_neg t5).symm.trans hf
    refine lv_aload_n hx hb dX12_copyTo_8 rfl (lv_at hl 0 rfl) ?_
    refine lv_iload_n hx hb dX12_copyTo_9 rfl (lv_at hl 2 rfl) ?_
    refine lv_aload_n hx hb dX12_copyTo_10 rfl (lv_at hl 1 rfl) ?_
    refine lv_iload_n hx hb dX12_copyTo_11 rfl (lv_at hl 2 rfl) ?_
    obtain ⟨g1, hf⟩ := gd_s hf
    refine bk_iald (wf := mw) (q0 := 31) (n := 1520) (j := x2.toNatClampNeg) C hP rfl g1 rfl dX12_copyTo_12 ?_
    obtain ⟨g2, hf⟩ := gd_s hf
    obtain ⟨σ3, eσ3, hf⟩ := bd_s hf
    refine bk_iast (wf := mw) (σ1 := σ3) (q0 := 17) (n := 1520) (j := x2.toNatClampNeg) C hP hD hS rfl g2 rfl (by rw [eσ3]; exact mw_a17 g _ _ _) dX12_copyTo_13 (fun H locs hP hD hS => ?_)
    obtain ⟨v4, ev4, hf⟩ := bd_s hf
    refine lv_iinc (v := v4) (lv' := [(2, .int v4), (0, .ref (g.2.2 17)), (1, .ref (g.2.2 31))]) hx hb dX12_copyTo_14 hl (k := 2) rfl (by rw [ev4]; rfl) (by decide) rfl (fun ls hl => ?_)
    refine lv_goto (tgt := 2) hx hb dX12_copyTo_17 (by decide) ?_
    cases hf
    exact k0 rfl H locs ls hP hD hS (lv_sub hl [1, 2, 0] rfl)
theorem lp_X12_copyTo_17_31_h2 {N : Nat} {n : Nat} {x2 : Int32} {σ : Sg} {z : Nat × Int32 × Sg} (C : Cx p s m args meth c cX12_copyTo 3 none RX12 g A X) (hz : it (fun q => s_X12_copyTo_17_31_h2 N q.1 q.2) n (x2, σ) = some z) (k : Bk mw p l e rm_X12_copyTo_17_31 s m args below meth c 3 g A Q 0 0 20 [] [] z.2.2) : Bk mw p l e rm_X12_copyTo_17_31 s m args below meth c 3 g A Q 0 0 2 [(0, .ref (g.2.2 17)), (1, .ref (g.2.2 31)), (2, .int x2)] [] σ :=
  it_W (S := Int32 × Sg) (fun q => Bk mw p l e rm_X12_copyTo_17_31 s m args below meth c 3 g A Q 0 0 2 [(0, .ref (g.2.2 17)), (1, .ref (g.2.2 31)), (2, .int q.1)] [] q.2) (fun z => Bk mw p l e rm_X12_copyTo_17_31 s m args below meth c 3 g A Q 0 0 20 [] [] z.2.2) (fun q z hq k0 k => e_X12_copyTo_17_31_h2 C hq k0 k) n (x2, σ) z hz k
def f_X12_copyTo_17_31 (N : Nat) (σ : Sg) : Option (Sg) :=
(it (fun q => s_X12_copyTo_17_31_h2 N q.1 q.2) N ((0 : Int32), σ)).bind fun z5 =>
some (z5.2.2)
set_option maxHeartbeats 4000000 in
set_option maxRecDepth 100000 in
theorem b_X12_copyTo_17_31 {N : Nat} {σ : Sg} {z : Sg} (C : Cx p s m args meth c cX12_copyTo 3 none RX12 g A X) (hf : f_X12_copyTo_17_31 N σ = some z) : Bk mw p l e rm_X12_copyTo_17_31 s m args below meth c 3 g A (MQ below (qV mw g A z) args s 0 0 A) 0 0 0 [(0, .ref (g.2.2 17)), (1, .ref (g.2.2 31))] [] σ := by
  obtain ⟨hx, hb, hr, hml, hown, hts, hK, hlocks, hXX, hA, hXo⟩ := id C
  intro H locs ls hP hD hS hl
  unfold f_X12_copyTo_17_31 at hf
  refine lv_iconst (v := (0 : Int32)) hx hb dX12_copyTo_0 (by decide) ?_
  refine lv_istore_n (lv' := [(2, .int (0 : Int32)), (0, .ref (g.2.2 17)), (1, .ref (g.2.2 31))]) hx hb dX12_copyTo_1 rfl hl (by decide) rfl (fun ls hl => ?_)
  obtain ⟨z5, hz5, hf⟩ := bi_s hf
  refine lp_X12_copyTo_17_31_h2 C hz5 ?_ H locs ls hP hD hS (lv_sub hl [1, 2, 0] rfl)
  intro H locs ls hP hD hS hl
  cases hf
  exact bk_vret C hP hD hS rfl dX12_copyTo_20
theorem c_X12_copyTo_17_31 {N : Nat} {σ : Sg} {z : Sg} (hX : xOK g X) (hf : f_X12_copyTo_17_31 N σ = some z) : MetV l yX12_copyTo (Cond.code yX12_copyTo cX12_copyTo 3 none :: wsA) rm_X12_copyTo_17_31 mw g X [.ref (g.2.2 17), .ref (g.2.2 31)] σ z :=
  MetV_of hX (by decide) (Nat.le_of_ble_eq_true rfl) (fun p e s m args below meth c A C => b_X12_copyTo_17_31 C hf)
-- X12_copyTo_24_32: copyTo([I[I)V
abbrev rm_X12_copyTo_24_32 : Room := { frames := 0, cells := 0, slots := 0, locals := 0 }
def s_X12_copyTo_24_32_h2 (N : Nat) (x2 : Int32) (σ : Sg) : Option (Nat × Int32 × Sg) :=
if (8 : Int32) ≤ x2 then (some (1, 0, σ))
else (if (x2 < 0 ∨ 8 ≤ x2.toNatClampNeg) then none else
if (x2 < 0 ∨ 8 ≤ x2.toNatClampNeg) then none else
bd (wr σ 24 (x2.toNatClampNeg) (σ 32 x2.toNatClampNeg)) fun σ3 =>
bd (x2 + (1 : Int32)) fun v4 =>
some (0, v4, σ3))
set_option maxHeartbeats 4000000 in
set_option maxRecDepth 100000 in
theorem e_X12_copyTo_24_32_h2 {N : Nat} {x2 : Int32} {σ : Sg} {z : Nat × Int32 × Sg} (C : Cx p s m args meth c cX12_copyTo 3 none RX12 g A X) (hf : s_X12_copyTo_24_32_h2 N x2 σ = some z) (k0 : z.1 = 0 → Bk mw p l e rm_X12_copyTo_24_32 s m args below meth c 3 g A Q 0 0 2 [(0, .ref (g.2.2 24)), (1, .ref (g.2.2 32)), (2, .int z.2.1)] [] z.2.2) (k : ¬ z.1 = 0 → Bk mw p l e rm_X12_copyTo_24_32 s m args below meth c 3 g A Q 0 0 20 [] [] z.2.2) : Bk mw p l e rm_X12_copyTo_24_32 s m args below meth c 3 g A Q 0 0 2 [(0, .ref (g.2.2 24)), (1, .ref (g.2.2 32)), (2, .int x2)] [] σ := by
  obtain ⟨hx, hb, hr, hml, hown, hts, hK, hlocks, hXX, hA, hXo⟩ := id C
  intro H locs ls hP hD hS hl
  unfold s_X12_copyTo_24_32_h2 at hf
  refine lv_iload_n hx hb dX12_copyTo_2 rfl (lv_at hl 2 rfl) ?_
  refine lv_aload_n hx hb dX12_copyTo_3 rfl (lv_at hl 0 rfl) ?_
  refine bk_alen (wf := mw) (q0 := 24) (t0 := 0) (v := (8 : Int32)) C hP rfl rfl (show Int32.ofNat 8 = (8 : Int32) by decide) dX12_copyTo_4 ?_
  refine lv_icmp_ge (tgt := 20) hx hb dX12_copyTo_5 (by decide) (fun t5 => ?_) (fun t5 => ?_)
  · have hf := (if_pos t5).symm.trans hf
    cases hf
    exact (k (show ¬ (1 : Nat) = 0 by decide)) H locs ls hP hD hS (lv_sub hl [] rfl)
  · have hf := (if_neg t5).symm.trans hf
    refine lv_aload_n hx hb dX12_copyTo_8 rfl (lv_at hl 0 rfl) ?_
    refine lv_iload_n hx hb dX12_copyTo_9 rfl (lv_at hl 2 rfl) ?_
    refine lv_aload_n hx hb dX12_copyTo_10 rfl (lv_at hl 1 rfl) ?_
    refine lv_iload_n hx hb dX12_copyTo_11 rfl (lv_at hl 2 rfl) ?_
    obtain ⟨g1, hf⟩ := gd_s hf
    refine bk_iald (wf := mw) (q0 := 32) (n := 8) (j := x2.toNatClampNeg) C hP rfl g1 rfl dX12_copyTo_12 ?_
    obtain ⟨g2, hf⟩ := gd_s hf
    obtain ⟨σ3, eσ3, hf⟩ := bd_s hf
    refine bk_iast (wf := mw) (σ1 := σ3) (q0 := 24) (n := 8) (j := x2.toNatClampNeg) C hP hD hS rfl g2 rfl (by rw [eσ3]; exact mw_a24 g _ _ _) dX12_copyTo_13 (fun H locs hP hD hS => ?_)
    obtain ⟨v4, ev4, hf⟩ := bd_s hf
    refine lv_iinc (v := v4) (lv' := [(2, .int v4), (0, .ref (g.2.2 24)), (1, .ref (g.2.2 32))]) hx hb dX12_copyTo_14 hl (k := 2) rfl (by rw [ev4]; rfl) (by decide) rfl (fun ls hl => ?_)
    refine lv_goto (tgt := 2) hx hb dX12_copyTo_17 (by decide) ?_
    cases hf
    exact k0 rfl H locs ls hP hD hS (lv_sub hl [1, 2, 0] rfl)
theorem lp_X12_copyTo_24_32_h2 {N : Nat} {n : Nat} {x2 : Int32} {σ : Sg} {z : Nat × Int32 × Sg} (C : Cx p s m args meth c cX12_copyTo 3 none RX12 g A X) (hz : it (fun q => s_X12_copyTo_24_32_h2 N q.1 q.2) n (x2, σ) = some z) (k : Bk mw p l e rm_X12_copyTo_24_32 s m args below meth c 3 g A Q 0 0 20 [] [] z.2.2) : Bk mw p l e rm_X12_copyTo_24_32 s m args below meth c 3 g A Q 0 0 2 [(0, .ref (g.2.2 24)), (1, .ref (g.2.2 32)), (2, .int x2)] [] σ :=
  it_W (S := Int32 × Sg) (fun q => Bk mw p l e rm_X12_copyTo_24_32 s m args below meth c 3 g A Q 0 0 2 [(0, .ref (g.2.2 24)), (1, .ref (g.2.2 32)), (2, .int q.1)] [] q.2) (fun z => Bk mw p l e rm_X12_copyTo_24_32 s m args below meth c 3 g A Q 0 0 20 [] [] z.2.2) (fun q z hq k0 k => e_X12_copyTo_24_32_h2 C hq k0 k) n (x2, σ) z hz k
def f_X12_copyTo_24_32 (N : Nat) (σ : Sg) : Option (Sg) :=
(it (fun q => s_X12_copyTo_24_32_h2 N q.1 q.2) N ((0 : Int32), σ)).bind fun z5 =>
some (z5.2.2)
set_option maxHeartbeats 4000000 in
set_option maxRecDepth 100000 in
theorem b_X12_copyTo_24_32 {N : Nat} {σ : Sg} {z : Sg} (C : Cx p s m args meth c cX12_copyTo 3 none RX12 g A X) (hf : f_X12_copyTo_24_32 N σ = some z) : Bk mw p l e rm_X12_copyTo_24_32 s m args below meth c 3 g A (MQ below (qV mw g A z) args s 0 0 A) 0 0 0 [(0, .ref (g.2.2 24)), (1, .ref (g.2.2 32))] [] σ := by
  obtain ⟨hx, hb, hr, hml, hown, hts, hK, hlocks, hXX, hA, hXo⟩ := id C
  intro H locs ls hP hD hS hl
  unfold f_X12_copyTo_24_32 at hf
  refine lv_iconst (v := (0 : Int32)) hx hb dX12_copyTo_0 (by decide) ?_
  refine lv_istore_n (lv' := [(2, .int (0 : Int32)), (0, .ref (g.2.2 24)), (1, .ref (g.2.2 32))]) hx hb dX12_copyTo_1 rfl hl (by decide) rfl (fun ls hl => ?_)
  obtain ⟨z5, hz5, hf⟩ := bi_s hf
  refine lp_X12_copyTo_24_32_h2 C hz5 ?_ H locs ls hP hD hS (lv_sub hl [1, 2, 0] rfl)
  intro H locs ls hP hD hS hl
  cases hf
  exact bk_vret C hP hD hS rfl dX12_copyTo_20
theorem c_X12_copyTo_24_32 {N : Nat} {σ : Sg} {z : Sg} (hX : xOK g X) (hf : f_X12_copyTo_24_32 N σ = some z) : MetV l yX12_copyTo (Cond.code yX12_copyTo cX12_copyTo 3 none :: wsA) rm_X12_copyTo_24_32 mw g X [.ref (g.2.2 24), .ref (g.2.2 32)] σ z :=
  MetV_of hX (by decide) (Nat.le_of_ble_eq_true rfl) (fun p e s m args below meth c A C => b_X12_copyTo_24_32 C hf)
-- X12_copyTo_25_33: copyTo([I[I)V
abbrev rm_X12_copyTo_25_33 : Room := { frames := 0, cells := 0, slots := 0, locals := 0 }
def s_X12_copyTo_25_33_h2 (N : Nat) (x2 : Int32) (σ : Sg) : Option (Nat × Int32 × Sg) :=
if (8 : Int32) ≤ x2 then (some (1, 0, σ))
else (if (x2 < 0 ∨ 8 ≤ x2.toNatClampNeg) then none else
if (x2 < 0 ∨ 8 ≤ x2.toNatClampNeg) then none else
bd (wr σ 25 (x2.toNatClampNeg) (σ 33 x2.toNatClampNeg)) fun σ3 =>
bd (x2 + (1 : Int32)) fun v4 =>
some (0, v4, σ3))
set_option maxHeartbeats 4000000 in
set_option maxRecDepth 100000 in
theorem e_X12_copyTo_25_33_h2 {N : Nat} {x2 : Int32} {σ : Sg} {z : Nat × Int32 × Sg} (C : Cx p s m args meth c cX12_copyTo 3 none RX12 g A X) (hf : s_X12_copyTo_25_33_h2 N x2 σ = some z) (k0 : z.1 = 0 → Bk mw p l e rm_X12_copyTo_25_33 s m args below meth c 3 g A Q 0 0 2 [(0, .ref (g.2.2 25)), (1, .ref (g.2.2 33)), (2, .int z.2.1)] [] z.2.2) (k : ¬ z.1 = 0 → Bk mw p l e rm_X12_copyTo_25_33 s m args below meth c 3 g A Q 0 0 20 [] [] z.2.2) : Bk mw p l e rm_X12_copyTo_25_33 s m args below meth c 3 g A Q 0 0 2 [(0, .ref (g.2.2 25)), (1, .ref (g.2.2 33)), (2, .int x2)] [] σ := by
  obtain ⟨hx, hb, hr, hml, hown, hts, hK, hlocks, hXX, hA, hXo⟩ := id C
  intro H locs ls hP hD hS hl
  unfold s_X12_copyTo_25_33_h2 at hf
  refine lv_iload_n hx hb dX12_copyTo_2 rfl (lv_at hl 2 rfl) ?_
  refine lv_aload_n hx hb dX12_copyTo_3 rfl (lv_at hl 0 rfl) ?_
  refine bk_alen (wf := mw) (q0 := 25) (t0 := 0) (v := (8 : Int32)) C hP rfl rfl (show Int32.ofNat 8 = (8 : Int32) by decide) dX12_copyTo_4 ?_
  refine lv_icmp_ge (tgt := 20) hx hb dX12_copyTo_5 (by decide) (fun t5 => ?_) (fun t5 => ?_)
  · have hf := (if_pos t5).symm.trans hf
    cases hf
    exact (k (show ¬ (1 : Nat) = 0 by decide)) H locs ls hP hD hS (lv_sub hl [] rfl)
  · have hf := (if_neg t5).symm.trans hf
    refine lv_aload_n hx hb dX12_copyTo_8 rfl (lv_at hl 0 rfl) ?_
    refine lv_iload_n hx hb dX12_copyTo_9 rfl (lv_at hl 2 rfl) ?_
    refine lv_aload_n hx hb dX12_copyTo_10 rfl (lv_at hl 1 rfl) ?_
    refine lv_iload_n hx hb dX12_copyTo_11 rfl (lv_at hl 2 rfl) ?_
    obtain ⟨g1, hf⟩ := gd_s hf
    refine bk_iald (wf := mw) (q0 := 33) (n := 8) (j := x2.toNatClampNeg) C hP rfl g1 rfl dX12_copyTo_12 ?_
    obtain ⟨g2, hf⟩ := gd_s hf
    obtain ⟨σ3, eσ3, hf⟩ := bd_s hf
    refine bk_iast (wf := mw) (σ1 := σ3) (q0 := 25) (n := 8) (j := x2.toNatClampNeg) C hP hD hS rfl g2 rfl (by rw [eσ3]; exact mw_a25 g _ _ _) dX12_copyTo_13 (fun H locs hP hD hS => ?_)
    obtain ⟨v4, ev4, hf⟩ := bd_s hf
    refine lv_iinc (v := v4) (lv' := [(2, .int v4), (0, .ref (g.2.2 25)), (1, .ref (g.2.2 33))]) hx hb dX12_copyTo_14 hl (k := 2) rfl (by rw [ev4]; rfl) (by decide) rfl (fun ls hl => ?_)
    refine lv_goto (tgt := 2) hx hb dX12_copyTo_17 (by decide) ?_
    cases hf
    exact k0 rfl H locs ls hP hD hS (lv_sub hl [1, 2, 0] rfl)
theorem lp_X12_copyTo_25_33_h2 {N : Nat} {n : Nat} {x2 : Int32} {σ : Sg} {z : Nat × Int32 × Sg} (C : Cx p s m args meth c cX12_copyTo 3 none RX12 g A X) (hz : it (fun q => s_X12_copyTo_25_33_h2 N q.1 q.2) n (x2, σ) = some z) (k : Bk mw p l e rm_X12_copyTo_25_33 s m args below meth c 3 g A Q 0 0 20 [] [] z.2.2) : Bk mw p l e rm_X12_copyTo_25_33 s m args below meth c 3 g A Q 0 0 2 [(0, .ref (g.2.2 25)), (1, .ref (g.2.2 33)), (2, .int x2)] [] σ :=
  it_W (S := Int32 × Sg) (fun q => Bk mw p l e rm_X12_copyTo_25_33 s m args below meth c 3 g A Q 0 0 2 [(0, .ref (g.2.2 25)), (1, .ref (g.2.2 33)), (2, .int q.1)] [] q.2) (fun z => Bk mw p l e rm_X12_copyTo_25_33 s m args below meth c 3 g A Q 0 0 20 [] [] z.2.2) (fun q z hq k0 k => e_X12_copyTo_25_33_h2 C hq k0 k) n (x2, σ) z hz k
def f_X12_copyTo_25_33 (N : Nat) (σ : Sg) : Option (Sg) :=
(it (fun q => s_X12_copyTo_25_33_h2 N q.1 q.2) N ((0 : Int32), σ)).bind fun z5 =>
some (z5.2.2)
set_option maxHeartbeats 4000000 in
set_option maxRecDepth 100000 in
theorem b_X12_copyTo_25_33 {N : Nat} {σ : Sg} {z : Sg} (C : Cx p s m args meth c cX12_copyTo 3 none RX12 g A X) (hf : f_X12_copyTo_25_33 N σ = some z) : Bk mw p l e rm_X12_copyTo_25_33 s m args below meth c 3 g A (MQ below (qV mw g A z) args s 0 0 A) 0 0 0 [(0, .ref (g.2.2 25)), (1, .ref (g.2.2 33))] [] σ := by
  obtain ⟨hx, hb, hr, hml, hown, hts, hK, hlocks, hXX, hA, hXo⟩ := id C
  intro H locs ls hP hD hS hl
  unfold f_X12_copyTo_25_33 at hf
  refine lv_iconst (v := (0 : Int32)) hx hb dX12_copyTo_0 (by decide) ?_
  refine lv_istore_n (lv' := [(2, .int (0 : Int32)), (0, .ref (g.2.2 25)), (1, .ref (g.2.2 33))]) hx hb dX12_copyTo_1 rfl hl (by decide) rfl (fun ls hl => ?_)
  obtain ⟨z5, hz5, hf⟩ := bi_s hf
  refine lp_X12_copyTo_25_33_h2 C hz5 ?_ H locs ls hP hD hS (lv_sub hl [1, 2, 0] rfl)
  intro H locs ls hP hD hS hl
  cases hf
  exact bk_vret C hP hD hS rfl dX12_copyTo_20
theorem c_X12_copyTo_25_33 {N : Nat} {σ : Sg} {z : Sg} (hX : xOK g X) (hf : f_X12_copyTo_25_33 N σ = some z) : MetV l yX12_copyTo (Cond.code yX12_copyTo cX12_copyTo 3 none :: wsA) rm_X12_copyTo_25_33 mw g X [.ref (g.2.2 25), .ref (g.2.2 33)] σ z :=
  MetV_of hX (by decide) (Nat.le_of_ble_eq_true rfl) (fun p e s m args below meth c A C => b_X12_copyTo_25_33 C hf)
-- X12_copyTo_11_34: copyTo([I[I)V
abbrev rm_X12_copyTo_11_34 : Room := { frames := 0, cells := 0, slots := 0, locals := 0 }
def s_X12_copyTo_11_34_h2 (N : Nat) (x2 : Int32) (σ : Sg) : Option (Nat × Int32 × Sg) :=
if (3 : Int32) ≤ x2 then (some (1, 0, σ))
else (if (x2 < 0 ∨ 3 ≤ x2.toNatClampNeg) then none else
if (x2 < 0 ∨ 3 ≤ x2.toNatClampNeg) then none else
bd (wr σ 11 (x2.toNatClampNeg) (σ 34 x2.toNatClampNeg)) fun σ3 =>
bd (x2 + (1 : Int32)) fun v4 =>
some (0, v4, σ3))
set_option maxHeartbeats 4000000 in
set_option maxRecDepth 100000 in
theorem e_X12_copyTo_11_34_h2 {N : Nat} {x2 : Int32} {σ : Sg} {z : Nat × Int32 × Sg} (C : Cx p s m args meth c cX12_copyTo 3 none RX12 g A X) (hf : s_X12_copyTo_11_34_h2 N x2 σ = some z) (k0 : z.1 = 0 → Bk mw p l e rm_X12_copyTo_11_34 s m args below meth c 3 g A Q 0 0 2 [(0, .ref (g.2.2 11)), (1, .ref (g.2.2 34)), (2, .int z.2.1)] [] z.2.2) (k : ¬ z.1 = 0 → Bk mw p l e rm_X12_copyTo_11_34 s m args below meth c 3 g A Q 0 0 20 [] [] z.2.2) : Bk mw p l e rm_X12_copyTo_11_34 s m args below meth c 3 g A Q 0 0 2 [(0, .ref (g.2.2 11)), (1, .ref (g.2.2 34)), (2, .int x2)] [] σ := by
  obtain ⟨hx, hb, hr, hml, hown, hts, hK, hlocks, hXX, hA, hXo⟩ := id C
  intro H locs ls hP hD hS hl
  unfold s_X12_copyTo_11_34_h2 at hf
  refine lv_iload_n hx hb dX12_copyTo_2 rfl (lv_at hl 2 rfl) ?_
  refine lv_aload_n hx hb dX12_copyTo_3 rfl (lv_at hl 0 rfl) ?_
  refine bk_alen (wf := mw) (q0 := 11) (t0 := 0) (v := (3 : Int32)) C hP rfl rfl (show Int32.ofNat 3 = (3 : Int32) by decide) dX12_copyTo_4 ?_
  refine lv_icmp_ge (tgt := 20) hx hb dX12_copyTo_5 (by decide) (fun t5 => ?_) (fun t5 => ?_)
  · have hf := (if_pos t5).symm.trans hf
    cases hf
    exact (k (show ¬ (1 : Nat) = 0 by decide)) H locs ls hP hD hS (lv_sub hl [] rfl)
  · have hf := (if_neg t5).symm.trans hf
    refine lv_aload_n hx hb dX12_copyTo_8 rfl (lv_at hl 0 rfl) ?_
    refine lv_iload_n hx hb dX12_copyTo_9 rfl (lv_at hl 2 rfl) ?_
    refine lv_aload_n hx hb dX12_copyTo_10 rfl (lv_at hl 1 rfl) ?_
    refine lv_iload_n hx hb dX12_copyTo_11 rfl (lv_at hl 2 rfl) ?_
    obtain ⟨g1, hf⟩ := gd_s hf
    refine bk_iald (wf := mw) (q0 := 34) (n := 3) (j := x2.toNatClampNeg) C hP rfl g1 rfl dX12_copyTo_12 ?_
    obtain ⟨g2, hf⟩ := gd_s hf
    obtain ⟨σ3, eσ3, hf⟩ := bd_s hf
    refine bk_iast (wf := mw) (σ1 := σ3) (q0 := 11) (n := 3) (j := x2.toNatClampNeg) C hP hD hS rfl g2 rfl (by rw [eσ3]; exact mw_a11 g _ _ _) dX12_copyTo_13 (fun H locs hP hD hS => ?_)
    obtain ⟨v4, ev4, hf⟩ := bd_s hf
    refine lv_iinc (v := v4) (lv' := [(2, .int v4), (0, .ref (g.2.2 11)), (1, .ref (g.2.2 34))]) hx hb dX12_copyTo_14 hl (k := 2) rfl (by rw [ev4]; rfl) (by decide) rfl (fun ls hl => ?_)
    refine lv_goto (tgt := 2) hx hb dX12_copyTo_17 (by decide) ?_
    cases hf
    exact k0 rfl H locs ls hP hD hS (lv_sub hl [1, 2, 0] rfl)
theorem lp_X12_copyTo_11_34_h2 {N : Nat} {n : Nat} {x2 : Int32} {σ : Sg} {z : Nat × Int32 × Sg} (C : Cx p s m args meth c cX12_copyTo 3 none RX12 g A X) (hz : it (fun q => s_X12_copyTo_11_34_h2 N q.1 q.2) n (x2, σ) = some z) (k : Bk mw p l e rm_X12_copyTo_11_34 s m args below meth c 3 g A Q 0 0 20 [] [] z.2.2) : Bk mw p l e rm_X12_copyTo_11_34 s m args below meth c 3 g A Q 0 0 2 [(0, .ref (g.2.2 11)), (1, .ref (g.2.2 34)), (2, .int x2)] [] σ :=
  it_W (S := Int32 × Sg) (fun q => Bk mw p l e rm_X12_copyTo_11_34 s m args below meth c 3 g A Q 0 0 2 [(0, .ref (g.2.2 11)), (1, .ref (g.2.2 34)), (2, .int q.1)] [] q.2) (fun z => Bk mw p l e rm_X12_copyTo_11_34 s m args below meth c 3 g A Q 0 0 20 [] [] z.2.2) (fun q z hq k0 k => e_X12_copyTo_11_34_h2 C hq k0 k) n (x2, σ) z hz k
def f_X12_copyTo_11_34 (N : Nat) (σ : Sg) : Option (Sg) :=
(it (fun q => s_X12_copyTo_11_34_h2 N q.1 q.2) N ((0 : Int32), σ)).bind fun z5 =>
some (z5.2.2)
set_option maxHeartbeats 4000000 in
set_option maxRecDepth 100000 in
theorem b_X12_copyTo_11_34 {N : Nat} {σ : Sg} {z : Sg} (C : Cx p s m args meth c cX12_copyTo 3 none RX12 g A X) (hf : f_X12_copyTo_11_34 N σ = some z) : Bk mw p l e rm_X12_copyTo_11_34 s m args below meth c 3 g A (MQ below (qV mw g A z) args s 0 0 A) 0 0 0 [(0, .ref (g.2.2 11)), (1, .ref (g.2.2 34))] [] σ := by
  obtain ⟨hx, hb, hr, hml, hown, hts, hK, hlocks, hXX, hA, hXo⟩ := id C
  intro H locs ls hP hD hS hl
  unfold f_X12_copyTo_11_34 at hf
  refine lv_iconst (v := (0 : Int32)) hx hb dX12_copyTo_0 (by decide) ?_
  refine lv_istore_n (lv' := [(2, .int (0 : Int32)), (0, .ref (g.2.2 11)), (1, .ref (g.2.2 34))]) hx hb dX12_copyTo_1 rfl hl (by decide) rfl (fun ls hl => ?_)
  obtain ⟨z5, hz5, hf⟩ := bi_s hf
  refine lp_X12_copyTo_11_34_h2 C hz5 ?_ H locs ls hP hD hS (lv_sub hl [1, 2, 0] rfl)
  intro H locs ls hP hD hS hl
  cases hf
  exact bk_vret C hP hD hS rfl dX12_copyTo_20
theorem c_X12_copyTo_11_34 {N : Nat} {σ : Sg} {z : Sg} (hX : xOK g X) (hf : f_X12_copyTo_11_34 N σ = some z) : MetV l yX12_copyTo (Cond.code yX12_copyTo cX12_copyTo 3 none :: wsA) rm_X12_copyTo_11_34 mw g X [.ref (g.2.2 11), .ref (g.2.2 34)] σ z :=
  MetV_of hX (by decide) (Nat.le_of_ble_eq_true rfl) (fun p e s m args below meth c A C => b_X12_copyTo_11_34 C hf)
-- X12_restore: restore()Z
abbrev rm_X12_restore : Room := { frames := 1, cells := 0, slots := 0, locals := 23 }
theorem nd_X12_restore : yX12_restore.cls ≠ "java/lang/invoke/MethodHandle" ∧ yX12_restore.cls ≠ "java/lang/invoke/VarHandle" ∧ (parseMethodDescriptor yX12_restore.desc).map (fun d => d.parameters.length) = some 0 := by decide +kernel
def s_X12_restore_h74 (N : Nat) (x1 : Int32) (σ : Sg) : Option (Nat × Int32 × Sg) :=
if (8 : Int32) ≤ x1 then (some (1, 0, σ))
else (if (x1 < 0 ∨ 8 ≤ x1.toNatClampNeg) then none else
if (x1 < 0 ∨ 8 ≤ x1.toNatClampNeg) then none else
bd (wr σ 27 (x1.toNatClampNeg) (vp_nar .boolean (σ 35 x1.toNatClampNeg))) fun σ3 =>
bd (x1 + (1 : Int32)) fun v4 =>
some (0, v4, σ3))
set_option maxHeartbeats 4000000 in
set_option maxRecDepth 100000 in
theorem e_X12_restore_h74 {N : Nat} {x1 : Int32} {σ : Sg} {z : Nat × Int32 × Sg} (C : Cx p s m args meth c cX12_restore 2 (some .boolean) RX12 g A X) (hf : s_X12_restore_h74 N x1 σ = some z) (k0 : z.1 = 0 → Bk mw p l e rm_X12_restore s m args below meth c 2 g A Q 0 0 74 [(0, .ref (g.2.2 0)), (1, .int z.2.1)] [] z.2.2) (k : ¬ z.1 = 0 → Bk mw p l e rm_X12_restore s m args below meth c 2 g A Q 0 0 98 [(0, .ref (g.2.2 0))] [] z.2.2) : Bk mw p l e rm_X12_restore s m args below meth c 2 g A Q 0 0 74 [(0, .ref (g.2.2 0)), (1, .int x1)] [] σ := by
  obtain ⟨hx, hb, hr, hml, hown, hts, hK, hlocks, hXX, hA, hXo⟩ := id C
  intro H locs ls hP hD hS hl
  unfold s_X12_restore_h74 at hf
  refine lv_iload_n hx hb dX12_restore_74 rfl (lv_at hl 1 rfl) ?_
  refine lv_bipush (v := (8 : Int32)) hx hb dX12_restore_75 (by decide) ?_
  refine lv_icmp_ge (tgt := 98) hx hb dX12_restore_77 (by decide) (fun t77 => ?_) (fun t77 => ?_)
  · have hf := (if_pos t77).symm.trans hf
    cases hf
    exact (k (show ¬ (1 : Nat) = 0 by decide)) H locs ls hP hD hS (lv_sub hl [0] rfl)
  · have hf := (if_neg t77).symm.trans hf
    refine lv_aload_n hx hb dX12_restore_80 rfl (lv_at hl 0 rfl) ?_
    refine bk_get (wf := mw) (q0 := 0) (ci := 11) (k := 43) (v := .ref (g.2.2 27)) C hP wl_X12 rfl rfl (by decide) wa_184 rfl rfl dX12_restore_81 ?_
    refine lv_iload_n hx hb dX12_restore_84 rfl (lv_at hl 1 rfl) ?_
    refine lv_aload_n hx hb dX12_restore_85 rfl (lv_at hl 0 rfl) ?_
    refine bk_get (wf := mw) (q0 := 0) (ci := 11) (k := 56) (v := .ref (g.2.2 35)) C hP wl_X12 rfl rfl (by decide) wa_192 rfl rfl dX12_restore_86 ?_
    refine lv_iload_n hx hb dX12_restore_89 rfl (lv_at hl 1 rfl) ?_
    obtain ⟨g1, hf⟩ := gd_s hf
    refine bk_zald (wf := mw) (q0 := 35) (n := 8) (j := x1.toNatClampNeg) C hP rfl g1 rfl dX12_restore_90 ?_
    obtain ⟨g2, hf⟩ := gd_s hf
    obtain ⟨σ3, eσ3, hf⟩ := bd_s hf
    refine bk_zast (wf := mw) (σ1 := σ3) (q0 := 27) (n := 8) (j := x1.toNatClampNeg) C hP hD hS rfl g2 rfl (by rw [eσ3]; exact mw_a27 g _ _ _) dX12_restore_91 (fun H locs hP hD hS => ?_)
    obtain ⟨v4, ev4, hf⟩ := bd_s hf
    refine lv_iinc (v := v4) (lv' := [(1, .int v4), (0, .ref (g.2.2 0))]) hx hb dX12_restore_92 hl (k := 1) rfl (by rw [ev4]; rfl) (by decide) rfl (fun ls hl => ?_)
    refine lv_goto (tgt := 74) hx hb dX12_restore_95 (by decide) ?_
    cases hf
    exact k0 rfl H locs ls hP hD hS (lv_sub hl [1, 0] rfl)
theorem lp_X12_restore_h74 {N : Nat} {n : Nat} {x1 : Int32} {σ : Sg} {z : Nat × Int32 × Sg} (C : Cx p s m args meth c cX12_restore 2 (some .boolean) RX12 g A X) (hz : it (fun q => s_X12_restore_h74 N q.1 q.2) n (x1, σ) = some z) (k : Bk mw p l e rm_X12_restore s m args below meth c 2 g A Q 0 0 98 [(0, .ref (g.2.2 0))] [] z.2.2) : Bk mw p l e rm_X12_restore s m args below meth c 2 g A Q 0 0 74 [(0, .ref (g.2.2 0)), (1, .int x1)] [] σ :=
  it_W (S := Int32 × Sg) (fun q => Bk mw p l e rm_X12_restore s m args below meth c 2 g A Q 0 0 74 [(0, .ref (g.2.2 0)), (1, .int q.1)] [] q.2) (fun z => Bk mw p l e rm_X12_restore s m args below meth c 2 g A Q 0 0 98 [(0, .ref (g.2.2 0))] [] z.2.2) (fun q z hq k0 k => e_X12_restore_h74 C hq k0 k) n (x1, σ) z hz k
def f_X12_restore (N : Nat) (σ : Sg) : Option (Int32 × Sg) :=
bd (wr σ 0 2 (0 : Int32)) fun σ5 =>
if (σ5 0 48) = 0 then (some ((0 : Int32), σ5))
else (bd (wr σ5 0 30 (σ5 0 49)) fun σ6 =>
bd (wr σ6 0 31 (σ6 0 50)) fun σ7 =>
(f_X12_unpack_30 N (0 : Int32) σ7).bind fun q8 =>
(f_X12_copyTo_17_31 N q8).bind fun q9 =>
(f_X12_copyTo_24_32 N q9).bind fun q10 =>
(f_X12_copyTo_25_33 N q10).bind fun q11 =>
(it (fun q => s_X12_restore_h74 N q.1 q.2) N ((0 : Int32), q11)).bind fun z12 =>
(f_X12_copyTo_11_34 N (z12.2.2)).bind fun q13 =>
some ((1 : Int32), q13))
set_option maxHeartbeats 4000000 in
set_option maxRecDepth 100000 in
theorem b_X12_restore {N : Nat} {σ : Sg} {z : Int32 × Sg} (C : Cx p s m args meth c cX12_restore 2 (some .boolean) RX12 g A X) (hf : f_X12_restore N σ = some z) : Bk mw p l e rm_X12_restore s m args below meth c 2 g A (MQ below (qI mw g A z.1 z.2) args s 0 0 A) 0 0 0 [(0, .ref (g.2.2 0))] [] σ := by
  obtain ⟨hx, hb, hr, hml, hown, hts, hK, hlocks, hXX, hA, hXo⟩ := id C
  intro H locs ls hP hD hS hl
  unfold f_X12_restore at hf
  refine lv_aload_n hx hb dX12_restore_0 rfl (lv_at hl 0 rfl) ?_
  refine lv_iconst (v := (0 : Int32)) hx hb dX12_restore_1 (by decide) ?_
  obtain ⟨σ5, eσ5, hf⟩ := bd_s hf
  refine bk_put (wf := mw) (σ1 := σ5) (q0 := 0) (ci := 11) (k := 2) (v := .int (0 : Int32)) C hP hD hS wl_X12 tyX12_ok nmX12 rfl rfl (by decide) wa_205 rfl rfl rfl rfl rfl (Nat.le_of_ble_eq_true rfl) (by rw [eσ5]; exact mw_p0_2 g _ _) dX12_restore_2 (fun H locs hP hD hS => ?_)
  refine lv_aload_n hx hb dX12_restore_5 rfl (lv_at hl 0 rfl) ?_
  refine bk_get (wf := mw) (q0 := 0) (ci := 11) (k := 48) (v := .int (σ5 0 48)) C hP wl_X12 rfl rfl (by decide) wa_617 rfl rfl dX12_restore_6 ?_
  refine lv_if_ne (tgt := 14) hx hb dX12_restore_9 (by decide) (fun t9 => ?_) (fun t9 => ?_)
  · have hf := (if_neg t9).symm.trans hf
    refine lv_aload_n hx hb dX12_restore_14 rfl (lv_at hl 0 rfl) ?_
    refine lv_aload_n hx hb dX12_restore_15 rfl (lv_at hl 0 rfl) ?_
    refine bk_get (wf := mw) (q0 := 0) (ci := 11) (k := 49) (v := .int (σ5 0 49)) C hP wl_X12 rfl rfl (by decide) wa_1442 rfl rfl dX12_restore_16 ?_
    obtain ⟨σ6, eσ6, hf⟩ := bd_s hf
    refine bk_put (wf := mw) (σ1 := σ6) (q0 := 0) (ci := 11) (k := 30) (v := .int (σ5 0 49)) C hP hD hS wl_X12 tyX12_ok nmX12 rfl rfl (by decide) wa_615 rfl rfl rfl rfl rfl (Nat.le_of_ble_eq_true rfl) (by rw [eσ6]; exact mw_p0_30 g _ _) dX12_restore_19 (fun H locs hP hD hS => ?_)
    refine lv_aload_n hx hb dX12_restore_22 rfl (lv_at hl 0 rfl) ?_
    refine lv_aload_n hx hb dX12_restore_23 rfl (lv_at hl 0 rfl) ?_
    refine bk_get (wf := mw) (q0 := 0) (ci := 11) (k := 50) (v := .int (σ6 0 50)) C hP wl_X12 rfl rfl (by decide) wa_1443 rfl rfl dX12_restore_24 ?_
    obtain ⟨σ7, eσ7, hf⟩ := bd_s hf
    refine bk_put (wf := mw) (σ1 := σ7) (q0 := 0) (ci := 11) (k := 31) (v := .int (σ6 0 50)) C hP hD hS wl_X12 tyX12_ok nmX12 rfl rfl (by decide) wa_616 rfl rfl rfl rfl rfl (Nat.le_of_ble_eq_true rfl) (by rw [eσ7]; exact mw_p0_31 g _ _) dX12_restore_27 (fun H locs hP hD hS => ?_)
    refine lv_aload_n hx hb dX12_restore_30 rfl (lv_at hl 0 rfl) ?_
    refine lv_aload_n hx hb dX12_restore_31 rfl (lv_at hl 0 rfl) ?_
    refine bk_get (wf := mw) (q0 := 0) (ci := 11) (k := 51) (v := .ref (g.2.2 30)) C hP wl_X12 rfl rfl (by decide) wa_187 rfl rfl dX12_restore_32 ?_
    refine lv_iconst (v := (0 : Int32)) hx hb dX12_restore_35 (by decide) ?_
    obtain ⟨q8, hq8, hf⟩ := bi_s hf
    refine bk_VV (wf := mw) (q0 := 0) (ci := 11) (rest := []) [.ref (g.2.2 30), .int (0 : Int32)] C hP hD hS hl.1 (c_X12_unpack_30 hXo hq8) (cwA_V 2 hts wa_1010 wa_1007 wa_1008 wa_1009 wa_5 rfl rfl nd_X12_unpack ⟨Nat.le_of_ble_eq_true rfl, Nat.le_of_ble_eq_true rfl⟩) rfl rfl rfl rfl (Nat.le_of_ble_eq_true rfl) dX12_restore_36 ⟨Nat.le_of_ble_eq_true rfl, Nat.le_of_ble_eq_true rfl⟩ (fun H locs hP hD hS => ?_)
    refine lv_aload_n hx hb dX12_restore_39 rfl (lv_at hl 0 rfl) ?_
    refine bk_get (wf := mw) (q0 := 0) (ci := 11) (k := 27) (v := .ref (g.2.2 17)) C hP wl_X12 rfl rfl (by decide) wa_172 rfl rfl dX12_restore_40 ?_
    refine lv_aload_n hx hb dX12_restore_43 rfl (lv_at hl 0 rfl) ?_
    refine bk_get (wf := mw) (q0 := 0) (ci := 11) (k := 52) (v := .ref (g.2.2 31)) C hP wl_X12 rfl rfl (by decide) wa_188 rfl rfl dX12_restore_44 ?_
    obtain ⟨q9, hq9, hf⟩ := bi_s hf
    refine bk_SV (wf := mw) (rest := []) [.ref (g.2.2 17), .ref (g.2.2 31)] C hP hD hS hl.1 (c_X12_copyTo_17_31 hXo hq9) (cwA_S 2 hts wa_1446 wa_1444 wa_1445 wa_5 rfl rfl nd_X12_copyTo ⟨Nat.le_of_ble_eq_true rfl, Nat.le_of_ble_eq_true rfl⟩) rfl rfl (Nat.le_of_ble_eq_true rfl) dX12_restore_47 ⟨Nat.le_of_ble_eq_true rfl, Nat.le_of_ble_eq_true rfl⟩ (fun H locs hP hD hS => ?_)
    refine lv_aload_n hx hb dX12_restore_50 rfl (lv_at hl 0 rfl) ?_
    refine bk_get (wf := mw) (q0 := 0) (ci := 11) (k := 40) (v := .ref (g.2.2 24)) C hP wl_X12 rfl rfl (by decide) wa_180 rfl rfl dX12_restore_51 ?_
    refine lv_aload_n hx hb dX12_restore_54 rfl (lv_at hl 0 rfl) ?_
    refine bk_get (wf := mw) (q0 := 0) (ci := 11) (k := 53) (v := .ref (g.2.2 32)) C hP wl_X12 rfl rfl (by decide) wa_189 rfl rfl dX12_restore_55 ?_
    obtain ⟨q10, hq10, hf⟩ := bi_s hf
    refine bk_SV (wf := mw) (rest := []) [.ref (g.2.2 24), .ref (g.2.2 32)] C hP hD hS hl.1 (c_X12_copyTo_24_32 hXo hq10) (cwA_S 2 hts wa_1446 wa_1444 wa_1445 wa_5 rfl rfl nd_X12_copyTo ⟨Nat.le_of_ble_eq_true rfl, Nat.le_of_ble_eq_true rfl⟩) rfl rfl (Nat.le_of_ble_eq_true rfl) dX12_restore_58 ⟨Nat.le_of_ble_eq_true rfl, Nat.le_of_ble_eq_true rfl⟩ (fun H locs hP hD hS => ?_)
    refine lv_aload_n hx hb dX12_restore_61 rfl (lv_at hl 0 rfl) ?_
    refine bk_get (wf := mw) (q0 := 0) (ci := 11) (k := 41) (v := .ref (g.2.2 25)) C hP wl_X12 rfl rfl (by decide) wa_181 rfl rfl dX12_restore_62 ?_
    refine lv_aload_n hx hb dX12_restore_65 rfl (lv_at hl 0 rfl) ?_
    refine bk_get (wf := mw) (q0 := 0) (ci := 11) (k := 54) (v := .ref (g.2.2 33)) C hP wl_X12 rfl rfl (by decide) wa_190 rfl rfl dX12_restore_66 ?_
    obtain ⟨q11, hq11, hf⟩ := bi_s hf
    refine bk_SV (wf := mw) (rest := []) [.ref (g.2.2 25), .ref (g.2.2 33)] C hP hD hS hl.1 (c_X12_copyTo_25_33 hXo hq11) (cwA_S 2 hts wa_1446 wa_1444 wa_1445 wa_5 rfl rfl nd_X12_copyTo ⟨Nat.le_of_ble_eq_true rfl, Nat.le_of_ble_eq_true rfl⟩) rfl rfl (Nat.le_of_ble_eq_true rfl) dX12_restore_69 ⟨Nat.le_of_ble_eq_true rfl, Nat.le_of_ble_eq_true rfl⟩ (fun H locs hP hD hS => ?_)
    refine lv_iconst (v := (0 : Int32)) hx hb dX12_restore_72 (by decide) ?_
    refine lv_istore_n (lv' := [(1, .int (0 : Int32)), (0, .ref (g.2.2 0))]) hx hb dX12_restore_73 rfl hl (by decide) rfl (fun ls hl => ?_)
    obtain ⟨z12, hz12, hf⟩ := bi_s hf
    refine lp_X12_restore_h74 C hz12 ?_ H locs ls hP hD hS (lv_sub hl [1, 0] rfl)
    intro H locs ls hP hD hS hl
    refine lv_aload_n hx hb dX12_restore_98 rfl (lv_at hl 0 rfl) ?_
    refine bk_get (wf := mw) (q0 := 0) (ci := 11) (k := 11) (v := .ref (g.2.2 11)) C hP wl_X12 rfl rfl (by decide) wa_165 rfl rfl dX12_restore_99 ?_
    refine lv_aload_n hx hb dX12_restore_102 rfl (lv_at hl 0 rfl) ?_
    refine bk_get (wf := mw) (q0 := 0) (ci := 11) (k := 55) (v := .ref (g.2.2 34)) C hP wl_X12 rfl rfl (by decide) wa_191 rfl rfl dX12_restore_103 ?_
    obtain ⟨q13, hq13, hf⟩ := bi_s hf
    refine bk_SV (wf := mw) (rest := []) [.ref (g.2.2 11), .ref (g.2.2 34)] C hP hD hS hl.1 (c_X12_copyTo_11_34 hXo hq13) (cwA_S 2 hts wa_1446 wa_1444 wa_1445 wa_5 rfl rfl nd_X12_copyTo ⟨Nat.le_of_ble_eq_true rfl, Nat.le_of_ble_eq_true rfl⟩) rfl rfl (Nat.le_of_ble_eq_true rfl) dX12_restore_106 ⟨Nat.le_of_ble_eq_true rfl, Nat.le_of_ble_eq_true rfl⟩ (fun H locs hP hD hS => ?_)
    refine lv_iconst (v := (1 : Int32)) hx hb dX12_restore_109 (by decide) ?_
    cases hf
    exact bk_zret C hP hD hS (by decide) rfl dX12_restore_110
  · have hf := (if_pos t9).symm.trans hf
    refine lv_iconst (v := (0 : Int32)) hx hb dX12_restore_12 (by decide) ?_
    cases hf
    exact bk_zret C hP hD hS (by decide) rfl dX12_restore_13
theorem c_X12_restore {N : Nat} {σ : Sg} {z : Int32 × Sg} (hX : xOK g X) (hf : f_X12_restore N σ = some z) : MetI l yX12_restore (Cond.code yX12_restore cX12_restore 2 (some .boolean) :: wsA) rm_X12_restore mw g X [.ref (g.2.2 0)] σ z.1 z.2 :=
  MetI_of hX (by decide) (Nat.le_of_ble_eq_true rfl) (fun p e s m args below meth c A C => b_X12_restore C hf)
end GEN
