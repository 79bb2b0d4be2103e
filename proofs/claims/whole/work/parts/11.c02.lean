section GEN
variable {p : Program} {l : Launch} {e : Env} {s : State} {m : MethodId} {args : Array Value} {below : List Frame} {meth : Method} {c : Code} {g : WG} {A : Nat → Prop} {X : Xt} {Q : State → Prop}
-- X2_step_55_47: step(LNodPost$Sight;I)I
abbrev rm_X2_step_55_47 : Room := { frames := 4, cells := 0, slots := 0, locals := 95 }
theorem nd_X2_step : yX2_step.cls ≠ "java/lang/invoke/MethodHandle" ∧ yX2_step.cls ≠ "java/lang/invoke/VarHandle" ∧ (parseMethodDescriptor yX2_step.desc).map (fun d => d.parameters.length) = some 2 := by decide +kernel
def f_X2_step_55_47_b82 (N : Nat) (x2 : Int32) (x3 : Int32) (x4 : Int32) (σ : Sg) : Option (Nat × Int32 × Sg) :=
bd (x4 + (1 : Int32)) fun v1 =>
some (0, v1, σ)
set_option maxHeartbeats 4000000 in
set_option maxRecDepth 100000 in
theorem b_X2_step_55_47_b82 {N : Nat} {x2 : Int32} {x3 : Int32} {x4 : Int32} {σ : Sg} {z : Nat × Int32 × Sg} (C : Cx p s m args meth c cX2_step 6 (some .int) RX2 g A X) (hf : f_X2_step_55_47_b82 N x2 x3 x4 σ = some z) (k0 : z.1 = 0 → Bk cw p l e rm_X2_step_55_47 s m args below meth c 6 g A Q 0 0 8 [(0, .ref (g.2.2 55)), (1, .ref (g.2.2 47)), (2, .int x2), (3, .int x3), (4, .int z.2.1)] [] z.2.2) (k : ¬ z.1 = 0 → Bk cw p l e rm_X2_step_55_47 s m args below meth c 6 g A Q 0 0 88 [(0, .ref (g.2.2 55)), (3, .int x3)] [] z.2.2) : Bk cw p l e rm_X2_step_55_47 s m args below meth c 6 g A Q 0 0 82 [(0, .ref (g.2.2 55)), (1, .ref (g.2.2 47)), (2, .int x2), (3, .int x3), (4, .int x4)] [] σ := by
  obtain ⟨hx, hb, hr, hml, hown, hts, hK, hlocks, hXX, hA, hXo⟩ := id C
  intro H locs ls hP hD hS hl
  unfold f_X2_step_55_47_b82 at hf
  obtain ⟨v1, ev1, hf⟩ := bd_s hf
  refine lv_iinc (v := v1) (lv' := [(4, .int v1), (0, .ref (g.2.2 55)), (1, .ref (g.2.2 47)), (2, .int x2), (3, .int x3)]) hx hb dX2_step_82 hl (k := 4) rfl (by rw [ev1]; rfl) (by decide) rfl (fun ls hl => ?_)
  refine lv_goto (tgt := 8) hx hb dX2_step_85 (by decide) ?_
  cases hf
  exact k0 rfl H locs ls hP hD hS (lv_sub hl [1, 2, 3, 4, 0] rfl)
def s_X2_step_55_47_h8 (N : Nat) (x2 : Int32) (x3 : Int32) (x4 : Int32) (σ : Sg) : Option (Nat × Int32 × Sg) :=
if (σ 12 0) ≤ x4 then (some (1, 0, σ))
else (if x3 = 0 then (some (1, 0, σ))
else ((f_X6_of_47 N x4 x2 σ).bind fun q2 =>
bd (q2.1 &&& x3) fun v3 =>
if v3 = 0 then (f_X2_step_55_47_b82 N x2 x3 x4 (q2.2))
else ((f_X2_isFree_55 N x4 x3 (q2.2)).bind fun q4 =>
if q4.1 = 0 then (f_X2_step_55_47_b82 N x2 x3 x4 (q4.2))
else ((f_X2_minds_55 N x4 v3 x2 (q4.2)).bind fun q5 =>
if q5.1 = 0 then (f_X2_step_55_47_b82 N x2 x3 x4 (q5.2))
else (if (x4 < 0 ∨ 9 ≤ x4.toNatClampNeg) then none else
if (x4 < 0 ∨ 9 ≤ x4.toNatClampNeg) then none else
bd (wr (q5.2) 57 (x4.toNatClampNeg) ((q5.2) 16 x4.toNatClampNeg)) fun σ8 =>
f_X2_step_55_47_b82 N x2 x3 x4 σ8)))))
set_option maxHeartbeats 4000000 in
set_option maxRecDepth 100000 in
theorem e_X2_step_55_47_h8 {N : Nat} {x2 : Int32} {x3 : Int32} {x4 : Int32} {σ : Sg} {z : Nat × Int32 × Sg} (C : Cx p s m args meth c cX2_step 6 (some .int) RX2 g A X) (hf : s_X2_step_55_47_h8 N x2 x3 x4 σ = some z) (k0 : z.1 = 0 → Bk cw p l e rm_X2_step_55_47 s m args below meth c 6 g A Q 0 0 8 [(0, .ref (g.2.2 55)), (1, .ref (g.2.2 47)), (2, .int x2), (3, .int x3), (4, .int z.2.1)] [] z.2.2) (k : ¬ z.1 = 0 → Bk cw p l e rm_X2_step_55_47 s m args below meth c 6 g A Q 0 0 88 [(0, .ref (g.2.2 55)), (3, .int x3)] [] z.2.2) : Bk cw p l e rm_X2_step_55_47 s m args below meth c 6 g A Q 0 0 8 [(0, .ref (g.2.2 55)), (1, .ref (g.2.2 47)), (2, .int x2), (3, .int x3), (4, .int x4)] [] σ := by
  obtain ⟨hx, hb, hr, hml, hown, hts, hK, hlocks, hXX, hA, hXo⟩ := id C
  intro H locs ls hP hD hS hl
  unfold s_X2_step_55_47_h8 at hf
  refine lv_iload hx hb dX2_step_8 (lv_at hl 4 rfl) ?_
  refine lv_aload_n hx hb dX2_step_10 rfl (lv_at hl 0 rfl) ?_
  refine bk_get (wf := cw) (q0 := 55) (ci := 2) (k := 3) (v := .ref (g.2.2 12)) C hP wl_X2 rfl rfl (by decide) wa_148 rfl rfl dX2_step_11 ?_
  refine bk_get (wf := cw) (q0 := 12) (ci := 8) (k := 0) (v := .int (σ 12 0)) C hP wl_X9 rfl rfl (by decide) wa_840 rfl rfl dX2_step_14 ?_
  refine lv_icmp_ge (tgt := 88) hx hb dX2_step_17 (by decide) (fun t17 => ?_) (fun t17 => ?_)
  · have hf := (if_pos t17).symm.trans hf
    cases hf
    exact (k (show ¬ (1 : Nat) = 0 by decide)) H locs ls hP hD hS (lv_sub hl [0, 3] rfl)
  · have hf := (if_neg t17).symm.trans hf
    refine lv_iload_n hx hb dX2_step_20 rfl (lv_at hl 3 rfl) ?_
    refine lv_if_eq (tgt := 88) hx hb dX2_step_21 (by decide) (fun t21 => ?_) (fun t21 => ?_)
    · have hf := (if_pos t21).symm.trans hf
      cases hf
      exact (k (show ¬ (1 : Nat) = 0 by decide)) H locs ls hP hD hS (lv_sub hl [0, 3] rfl)
    · have hf := (if_neg t21).symm.trans hf
      refine lv_aload_n hx hb dX2_step_24 rfl (lv_at hl 1 rfl) ?_
      refine lv_iload hx hb dX2_step_25 (lv_at hl 4 rfl) ?_
      refine lv_iload_n hx hb dX2_step_27 rfl (lv_at hl 2 rfl) ?_
      obtain ⟨q2, hq2, hf⟩ := bi_s hf
      refine bk_VI (wf := cw) (q0 := 47) (ci := 6) (rest := []) [.int x4, .int x2] C hP hD hS hl.1 (c_X6_of_47 hXo hq2) (cwA_V 2 hts wa_675 wa_851 wa_673 wa_674 wa_32 rfl rfl nd_X6_of ⟨Nat.le_of_ble_eq_true rfl, Nat.le_of_ble_eq_true rfl⟩) rfl rfl rfl rfl (Nat.le_of_ble_eq_true rfl) dX2_step_28 ⟨Nat.le_of_ble_eq_true rfl, Nat.le_of_ble_eq_true rfl⟩ (fun H locs hP hD hS => ?_)
      refine lv_iload_n hx hb dX2_step_31 rfl (lv_at hl 3 rfl) ?_
      refine lv_iand hx hb dX2_step_32 ?_
      obtain ⟨v3, ev3, hf⟩ := bd_s hf
      rw [← ev3]
      refine lv_istore (lv' := [(5, .int v3), (0, .ref (g.2.2 55)), (1, .ref (g.2.2 47)), (2, .int x2), (3, .int x3), (4, .int x4)]) hx hb dX2_step_33 hl (by decide) rfl (fun ls hl => ?_)
      refine lv_iload hx hb dX2_step_35 (lv_at hl 0 rfl) ?_
      refine lv_if_eq (tgt := 82) hx hb dX2_step_37 (by decide) (fun t37 => ?_) (fun t37 => ?_)
      · have hf := (if_pos t37).symm.trans hf
        exact b_X2_step_55_47_b82 C hf k0 k H locs ls hP hD hS (lv_sub hl [1, 2, 3, 4, 5] rfl)
      · have hf := (if_neg t37).symm.trans hf
        refine lv_aload_n hx hb dX2_step_40 rfl (lv_at hl 1 rfl) ?_
        refine lv_iload hx hb dX2_step_41 (lv_at hl 5 rfl) ?_
        refine lv_iload_n hx hb dX2_step_43 rfl (lv_at hl 4 rfl) ?_
        obtain ⟨q4, hq4, hf⟩ := bi_s hf
        refine bk_VI (wf := cw) (q0 := 55) (ci := 2) (rest := []) [.int x4, .int x3] C hP hD hS hl.1 (c_X2_isFree_55 hXo hq4) (cwA_V 2 hts wa_855 wa_852 wa_853 wa_854 wa_41 rfl rfl nd_X2_isFree ⟨Nat.le_of_ble_eq_true rfl, Nat.le_of_ble_eq_true rfl⟩) rfl rfl rfl rfl (Nat.le_of_ble_eq_true rfl) dX2_step_44 ⟨Nat.le_of_ble_eq_true rfl, Nat.le_of_ble_eq_true rfl⟩ (fun H locs hP hD hS => ?_)
        refine lv_if_eq (tgt := 82) hx hb dX2_step_47 (by decide) (fun t47 => ?_) (fun t47 => ?_)
        · have hf := (if_pos t47).symm.trans hf
          exact b_X2_step_55_47_b82 C hf k0 k H locs ls hP hD hS (lv_sub hl [1, 2, 3, 4, 5] rfl)
        · have hf := (if_neg t47).symm.trans hf
          refine lv_aload_n hx hb dX2_step_50 rfl (lv_at hl 1 rfl) ?_
          refine lv_iload hx hb dX2_step_51 (lv_at hl 5 rfl) ?_
          refine lv_iload hx hb dX2_step_53 (lv_at hl 0 rfl) ?_
          refine lv_iload_n hx hb dX2_step_55 rfl (lv_at hl 3 rfl) ?_
          obtain ⟨q5, hq5, hf⟩ := bi_s hf
          refine bk_VI (wf := cw) (q0 := 55) (ci := 2) (rest := []) [.int x4, .int v3, .int x2] C hP hD hS hl.1 (c_X2_minds_55 hXo hq5) (cwA_V 3 hts wa_860 wa_857 wa_858 wa_859 wa_41 rfl rfl nd_X2_minds ⟨Nat.le_of_ble_eq_true rfl, Nat.le_of_ble_eq_true rfl⟩) rfl rfl rfl rfl (Nat.le_of_ble_eq_true rfl) dX2_step_56 ⟨Nat.le_of_ble_eq_true rfl, Nat.le_of_ble_eq_true rfl⟩ (fun H locs hP hD hS => ?_)
          refine lv_if_eq (tgt := 82) hx hb dX2_step_59 (by decide) (fun t59 => ?_) (fun t59 => ?_)
          · have hf := (if_pos t59).symm.trans hf
            exact b_X2_step_55_47_b82 C hf k0 k H locs ls hP hD hS (lv_sub hl [1, 2, 3, 4, 5] rfl)
          · have hf := (if_neg t59).symm.trans hf
            refine lv_aload_n hx hb dX2_step_62 rfl (lv_at hl 1 rfl) ?_
            refine bk_get (wf := cw) (q0 := 55) (ci := 2) (k := 0) (v := .ref (g.2.2 56)) C hP wl_X2 rfl rfl (by decide) wa_144 rfl rfl dX2_step_63 ?_
            refine bk_get (wf := cw) (q0 := 56) (ci := 7) (k := 2) (v := .ref (g.2.2 57)) C hP wl_X7 rfl rfl (by decide) wa_841 rfl rfl dX2_step_66 ?_
            refine lv_iload hx hb dX2_step_69 (lv_at hl 5 rfl) ?_
            refine lv_aload_n hx hb dX2_step_71 rfl (lv_at hl 1 rfl) ?_
            refine bk_get (wf := cw) (q0 := 55) (ci := 2) (k := 3) (v := .ref (g.2.2 12)) C hP wl_X2 rfl rfl (by decide) wa_148 rfl rfl dX2_step_72 ?_
            refine bk_get (wf := cw) (q0 := 12) (ci := 8) (k := 4) (v := .ref (g.2.2 16)) C hP wl_X9 rfl rfl (by decide) wa_842 rfl rfl dX2_step_75 ?_
            refine lv_iload hx hb dX2_step_78 (lv_at hl 5 rfl) ?_
            obtain ⟨g6, hf⟩ := gd_s hf
            refine bk_iald (wf := cw) (q0 := 16) (n := 9) (j := x4.toNatClampNeg) C hP rfl g6 rfl dX2_step_80 ?_
            obtain ⟨g7, hf⟩ := gd_s hf
            obtain ⟨σ8, eσ8, hf⟩ := bd_s hf
            refine bk_iast (wf := cw) (σ1 := σ8) (q0 := 57) (n := 9) (j := x4.toNatClampNeg) C hP hD hS rfl g7 rfl (by rw [eσ8]; exact cw_a57 g _ _ _) dX2_step_81 (fun H locs hP hD hS => ?_)
            exact b_X2_step_55_47_b82 C hf k0 k H locs ls hP hD hS (lv_sub hl [1, 2, 3, 4, 5] rfl)
theorem lp_X2_step_55_47_h8 {N n : Nat} {x2 : Int32} {x3 : Int32} {x4 : Int32} {σ : Sg} {z : Nat × Int32 × Sg} (C : Cx p s m args meth c cX2_step 6 (some .int) RX2 g A X) (hz : it (fun q => s_X2_step_55_47_h8 N x2 x3 q.1 q.2) n (x4, σ) = some z) (k : Bk cw p l e rm_X2_step_55_47 s m args below meth c 6 g A Q 0 0 88 [(0, .ref (g.2.2 55)), (3, .int x3)] [] z.2.2) : Bk cw p l e rm_X2_step_55_47 s m args below meth c 6 g A Q 0 0 8 [(0, .ref (g.2.2 55)), (1, .ref (g.2.2 47)), (2, .int x2), (3, .int x3), (4, .int x4)] [] σ :=
  it_W (S := Int32 × Sg) (fun q => Bk cw p l e rm_X2_step_55_47 s m args below meth c 6 g A Q 0 0 8 [(0, .ref (g.2.2 55)), (1, .ref (g.2.2 47)), (2, .int x2), (3, .int x3), (4, .int q.1)] [] q.2) (fun z => Bk cw p l e rm_X2_step_55_47 s m args below meth c 6 g A Q 0 0 88 [(0, .ref (g.2.2 55)), (3, .int x3)] [] z.2.2) (fun q z hq k0 k => e_X2_step_55_47_h8 C hq k0 k) n (x4, σ) z hz k
def f_X2_step_55_47 (N : Nat) (x2 : Int32) (σ : Sg) : Option (Int32 × Sg) :=
(f_X2_nodAll_55 N σ).bind fun q9 =>
bd q9.1 fun v10 =>
(it (fun q => s_X2_step_55_47_h8 N x2 v10 q.1 q.2) N ((0 : Int32), (q9.2))).bind fun z11 =>
bd (wr (z11.2.2) 56 0 (((z11.2.2) 56 0) + (1 : Int32))) fun σ12 =>
some (v10, σ12)
set_option maxHeartbeats 4000000 in
set_option maxRecDepth 100000 in
theorem b_X2_step_55_47 {N : Nat} {x2 : Int32} {σ : Sg} {z : Int32 × Sg} (C : Cx p s m args meth c cX2_step 6 (some .int) RX2 g A X) (hf : f_X2_step_55_47 N x2 σ = some z) : Bk cw p l e rm_X2_step_55_47 s m args below meth c 6 g A (MQ below (qI cw g A z.1 z.2) args s 0 0 A) 0 0 0 [(0, .ref (g.2.2 55)), (1, .ref (g.2.2 47)), (2, .int x2)] [] σ := by
  obtain ⟨hx, hb, hr, hml, hown, hts, hK, hlocks, hXX, hA, hXo⟩ := id C
  intro H locs ls hP hD hS hl
  unfold f_X2_step_55_47 at hf
  refine lv_aload_n hx hb dX2_step_0 rfl (lv_at hl 0 rfl) ?_
  obtain ⟨q9, hq9, hf⟩ := bi_s hf
  refine bk_VI (wf := cw) (q0 := 55) (ci := 2) (rest := []) [] C hP hD hS hl.1 (c_X2_nodAll_55 hXo hq9) (cwA_V 0 hts wa_846 wa_843 wa_844 wa_845 wa_41 rfl rfl nd_X2_nodAll ⟨Nat.le_of_ble_eq_true rfl, Nat.le_of_ble_eq_true rfl⟩) rfl rfl rfl rfl (Nat.le_of_ble_eq_true rfl) dX2_step_1 ⟨Nat.le_of_ble_eq_true rfl, Nat.le_of_ble_eq_true rfl⟩ (fun H locs hP hD hS => ?_)
  obtain ⟨v10, ev10, hf⟩ := bd_s hf
  rw [← ev10]
  refine lv_istore_n (lv' := [(3, .int v10), (0, .ref (g.2.2 55)), (1, .ref (g.2.2 47)), (2, .int x2)]) hx hb dX2_step_4 rfl hl (by decide) rfl (fun ls hl => ?_)
  refine lv_iconst (v := (0 : Int32)) hx hb dX2_step_5 (by decide) ?_
  refine lv_istore (lv' := [(4, .int (0 : Int32)), (3, .int v10), (0, .ref (g.2.2 55)), (1, .ref (g.2.2 47)), (2, .int x2)]) hx hb dX2_step_6 hl (by decide) rfl (fun ls hl => ?_)
  obtain ⟨z11, hz11, hf⟩ := bi_s hf
  refine lp_X2_step_55_47_h8 C hz11 ?_ H locs ls hP hD hS (lv_sub hl [2, 3, 4, 1, 0] rfl)
  intro H locs ls hP hD hS hl
  refine lv_aload_n hx hb dX2_step_88 rfl (lv_at hl 0 rfl) ?_
  refine bk_get (wf := cw) (q0 := 55) (ci := 2) (k := 0) (v := .ref (g.2.2 56)) C hP wl_X2 rfl rfl (by decide) wa_144 rfl rfl dX2_step_89 ?_
  refine lv_dup hx hb dX2_step_92 rfl ?_
  refine bk_get (wf := cw) (q0 := 56) (ci := 7) (k := 0) (v := .int ((z11.2.2) 56 0)) C hP wl_X7 rfl rfl (by decide) wa_834 rfl rfl dX2_step_93 ?_
  refine lv_iconst (v := (1 : Int32)) hx hb dX2_step_96 (by decide) ?_
  refine lv_iadd hx hb dX2_step_97 ?_
  obtain ⟨σ12, eσ12, hf⟩ := bd_s hf
  refine bk_put (wf := cw) (σ1 := σ12) (q0 := 56) (ci := 7) (k := 0) (v := .int (((z11.2.2) 56 0) + (1 : Int32))) C hP hD hS wl_X7 tyX7_ok nmX7 rfl rfl (by decide) wa_834 rfl rfl rfl rfl rfl (Nat.le_of_ble_eq_true rfl) (by rw [eσ12]; exact cw_p56_0 g _ _) dX2_step_98 (fun H locs hP hD hS => ?_)
  refine lv_iload_n hx hb dX2_step_101 rfl (lv_at hl 1 rfl) ?_
  cases hf
  exact bk_iret C hP hD hS rfl dX2_step_102
theorem c_X2_step_55_47 {N : Nat} {x2 : Int32} {σ : Sg} {z : Int32 × Sg} (hX : xOK g X) (hf : f_X2_step_55_47 N x2 σ = some z) : MetI l yX2_step (Cond.code yX2_step cX2_step 6 (some .int) :: wsA) rm_X2_step_55_47 cw g X [.ref (g.2.2 55), .ref (g.2.2 47), .int x2] σ z.1 z.2 :=
  MetI_of hX (by decide) (Nat.le_of_ble_eq_true rfl) (fun p e s m args below meth c A C => b_X2_step_55_47 C hf)
-- X2_go_55: go()I
abbrev rm_X2_go_55 : Room := { frames := 5, cells := 0, slots := 0, locals := 120 }
theorem nd_X2_go : yX2_go.cls ≠ "java/lang/invoke/MethodHandle" ∧ yX2_go.cls ≠ "java/lang/invoke/VarHandle" ∧ (parseMethodDescriptor yX2_go.desc).map (fun d => d.parameters.length) = some 0 := by decide +kernel
def f_X2_go_55 (N : Nat) (σ : Sg) : Option (Int32 × Sg) :=
(f_X9_mistOf_12 N (σ 56 0) σ).bind fun q1 =>
(f_X2_step_55_47 N q1.1 (q1.2)).bind fun q2 =>
some (q2.1, (q2.2))
set_option maxHeartbeats 4000000 in
set_option maxRecDepth 100000 in
theorem b_X2_go_55 {N : Nat} {σ : Sg} {z : Int32 × Sg} (C : Cx p s m args meth c cX2_go 1 (some .int) RX2 g A X) (hf : f_X2_go_55 N σ = some z) : Bk cw p l e rm_X2_go_55 s m args below meth c 1 g A (MQ below (qI cw g A z.1 z.2) args s 0 0 A) 0 0 0 [(0, .ref (g.2.2 55))] [] σ := by
  obtain ⟨hx, hb, hr, hml, hown, hts, hK, hlocks, hXX, hA, hXo⟩ := id C
  intro H locs ls hP hD hS hl
  unfold f_X2_go_55 at hf
  refine lv_aload_n hx hb dX2_go_0 rfl (lv_at hl 0 rfl) ?_
  refine lv_aload_n hx hb dX2_go_1 rfl (lv_at hl 0 rfl) ?_
  refine bk_get (wf := cw) (q0 := 55) (ci := 2) (k := 4) (v := .ref (g.2.2 47)) C hP wl_X2 rfl rfl (by decide) wa_149 rfl rfl dX2_go_2 ?_
  refine lv_aload_n hx hb dX2_go_5 rfl (lv_at hl 0 rfl) ?_
  refine bk_get (wf := cw) (q0 := 55) (ci := 2) (k := 3) (v := .ref (g.2.2 12)) C hP wl_X2 rfl rfl (by decide) wa_148 rfl rfl dX2_go_6 ?_
  refine lv_aload_n hx hb dX2_go_9 rfl (lv_at hl 0 rfl) ?_
  refine bk_get (wf := cw) (q0 := 55) (ci := 2) (k := 0) (v := .ref (g.2.2 56)) C hP wl_X2 rfl rfl (by decide) wa_144 rfl rfl dX2_go_10 ?_
  refine bk_get (wf := cw) (q0 := 56) (ci := 7) (k := 0) (v := .int (σ 56 0)) C hP wl_X7 rfl rfl (by decide) wa_834 rfl rfl dX2_go_13 ?_
  obtain ⟨q1, hq1, hf⟩ := bi_s hf
  refine bk_VI (wf := cw) (q0 := 12) (ci := 8) (rest := [.ref (g.2.2 47), .ref (g.2.2 55)]) [.int (σ 56 0)] C hP hD hS hl.1 (c_X9_mistOf_12 hXo hq1) (cwA_V 1 hts wa_658 wa_835 wa_656 wa_657 wa_22 rfl rfl nd_X9_mistOf ⟨Nat.le_of_ble_eq_true rfl, Nat.le_of_ble_eq_true rfl⟩) rfl rfl rfl rfl (Nat.le_of_ble_eq_true rfl) dX2_go_16 ⟨Nat.le_of_ble_eq_true rfl, Nat.le_of_ble_eq_true rfl⟩ (fun H locs hP hD hS => ?_)
  obtain ⟨q2, hq2, hf⟩ := bi_s hf
  refine bk_VI (wf := cw) (q0 := 55) (ci := 2) (rest := []) [.ref (g.2.2 47), .int q1.1] C hP hD hS hl.1 (c_X2_step_55_47 hXo hq2) (cwA_V 2 hts wa_839 wa_836 wa_837 wa_838 wa_41 rfl rfl nd_X2_step ⟨Nat.le_of_ble_eq_true rfl, Nat.le_of_ble_eq_true rfl⟩) rfl rfl rfl rfl (Nat.le_of_ble_eq_true rfl) dX2_go_19 ⟨Nat.le_of_ble_eq_true rfl, Nat.le_of_ble_eq_true rfl⟩ (fun H locs hP hD hS => ?_)
  cases hf
  exact bk_iret C hP hD hS rfl dX2_go_22
theorem c_X2_go_55 {N : Nat} {σ : Sg} {z : Int32 × Sg} (hX : xOK g X) (hf : f_X2_go_55 N σ = some z) : MetI l yX2_go (Cond.code yX2_go cX2_go 1 (some .int) :: wsA) rm_X2_go_55 cw g X [.ref (g.2.2 55)] σ z.1 z.2 :=
  MetI_of hX (by decide) (Nat.le_of_ble_eq_true rfl) (fun p e s m args below meth c A C => b_X2_go_55 C hf)
-- X11_refuseAct_0: refuseAct()I
abbrev rm_X11_refuseAct_0 : Room := { frames := 0, cells := 0, slots := 0, locals := 0 }
theorem nd_X11_refuseAct : yX11_refuseAct.cls ≠ "java/lang/invoke/MethodHandle" ∧ yX11_refuseAct.cls ≠ "java/lang/invoke/VarHandle" ∧ (parseMethodDescriptor yX11_refuseAct.desc).map (fun d => d.parameters.length) = some 0 := by decide +kernel
def f_X11_refuseAct_0 (N : Nat) (σ : Sg) : Option (Int32 × Sg) :=
bd (wr σ 33 1 ((σ 33 1) + (1 : Int32))) fun σ1 =>
some ((-1 : Int32), σ1)
set_option maxHeartbeats 4000000 in
set_option maxRecDepth 100000 in
theorem b_X11_refuseAct_0 {N : Nat} {σ : Sg} {z : Int32 × Sg} (C : Cx p s m args meth c cX11_refuseAct 1 (some .int) RX11 g A X) (hf : f_X11_refuseAct_0 N σ = some z) : Bk cw p l e rm_X11_refuseAct_0 s m args below meth c 1 g A (MQ below (qI cw g A z.1 z.2) args s 0 0 A) 0 0 0 [(0, .ref (g.2.2 0))] [] σ := by
  obtain ⟨hx, hb, hr, hml, hown, hts, hK, hlocks, hXX, hA, hXo⟩ := id C
  intro H locs ls hP hD hS hl
  unfold f_X11_refuseAct_0 at hf
  refine lv_aload_n hx hb dX11_refuseAct_0 rfl (lv_at hl 0 rfl) ?_
  refine bk_get (wf := cw) (q0 := 0) (ci := 10) (k := 4) (v := .ref (g.2.2 21)) C hP wl_X11 rfl rfl (by decide) wa_27 rfl rfl dX11_refuseAct_1 ?_
  refine bk_get (wf := cw) (q0 := 21) (ci := 1) (k := 3) (v := .ref (g.2.2 33)) C hP wl_X1 rfl rfl (by decide) wa_218 rfl rfl dX11_refuseAct_4 ?_
  refine lv_iconst (v := (1 : Int32)) hx hb dX11_refuseAct_7 (by decide) ?_
  refine lv_dup2_11 hx hb dX11_refuseAct_8 rfl rfl ?_
  refine bk_iald (wf := cw) (q0 := 33) (n := 3) (j := 1) C hP rfl (vin_l (by decide) (by decide)) (by decide) dX11_refuseAct_9 ?_
  refine lv_iconst (v := (1 : Int32)) hx hb dX11_refuseAct_10 (by decide) ?_
  refine lv_iadd hx hb dX11_refuseAct_11 ?_
  obtain ⟨σ1, eσ1, hf⟩ := bd_s hf
  refine bk_iast (wf := cw) (σ1 := σ1) (q0 := 33) (n := 3) (j := 1) C hP hD hS rfl (vin_l (by decide) (by decide)) (by decide) (by rw [eσ1]; exact cw_a33 g _ _ _) dX11_refuseAct_12 (fun H locs hP hD hS => ?_)
  refine lv_iconst (v := (-1 : Int32)) hx hb dX11_refuseAct_13 (by decide) ?_
  cases hf
  exact bk_iret C hP hD hS rfl dX11_refuseAct_14
theorem c_X11_refuseAct_0 {N : Nat} {σ : Sg} {z : Int32 × Sg} (hX : xOK g X) (hf : f_X11_refuseAct_0 N σ = some z) : MetI l yX11_refuseAct (Cond.code yX11_refuseAct cX11_refuseAct 1 (some .int) :: wsA) rm_X11_refuseAct_0 cw g X [.ref (g.2.2 0)] σ z.1 z.2 :=
  MetI_of hX (by decide) (Nat.le_of_ble_eq_true rfl) (fun p e s m args below meth c A C => b_X11_refuseAct_0 C hf)
-- X7_store_22_28: store([II)V
abbrev rm_X7_store_22_28 : Room := { frames := 0, cells := 0, slots := 0, locals := 0 }
theorem nd_X7_store : yX7_store.cls ≠ "java/lang/invoke/MethodHandle" ∧ yX7_store.cls ≠ "java/lang/invoke/VarHandle" ∧ (parseMethodDescriptor yX7_store.desc).map (fun d => d.parameters.length) = some 2 := by decide +kernel
def s_X7_store_22_28_h32 (N : Nat) (x2 : Int32) (x3 : Int32) (σ : Sg) : Option (Nat × Int32 × Sg) :=
if (9 : Int32) ≤ x3 then (some (1, 0, σ))
else (bd ((x2 + (2 : Int32)) + ((4 : Int32) * x3)) fun v1 =>
if (x3 < 0 ∨ 9 ≤ x3.toNatClampNeg) then none else
if (v1 < 0 ∨ 1520 ≤ v1.toNatClampNeg) then none else
bd (wr σ 28 (v1.toNatClampNeg) (σ 23 x3.toNatClampNeg)) fun σ4 =>
if (x3 < 0 ∨ 9 ≤ x3.toNatClampNeg) then none else
if ((v1 + (1 : Int32)) < 0 ∨ 1520 ≤ (v1 + (1 : Int32)).toNatClampNeg) then none else
bd (wr σ4 28 ((v1 + (1 : Int32)).toNatClampNeg) (σ4 24 x3.toNatClampNeg)) fun σ7 =>
if (x3 < 0 ∨ 9 ≤ x3.toNatClampNeg) then none else
if ((v1 + (2 : Int32)) < 0 ∨ 1520 ≤ (v1 + (2 : Int32)).toNatClampNeg) then none else
bd (wr σ7 28 ((v1 + (2 : Int32)).toNatClampNeg) (σ7 25 x3.toNatClampNeg)) fun σ10 =>
if (x3 < 0 ∨ 9 ≤ x3.toNatClampNeg) then none else
if ((v1 + (3 : Int32)) < 0 ∨ 1520 ≤ (v1 + (3 : Int32)).toNatClampNeg) then none else
bd (wr σ10 28 ((v1 + (3 : Int32)).toNatClampNeg) (σ10 26 x3.toNatClampNeg)) fun σ13 =>
bd (x3 + (1 : Int32)) fun v14 =>
some (0, v14, σ13))
set_option maxHeartbeats 4000000 in
set_option maxRecDepth 100000 in
theorem e_X7_store_22_28_h32 {N : Nat} {x2 : Int32} {x3 : Int32} {σ : Sg} {z : Nat × Int32 × Sg} (C : Cx p s m args meth c cX7_store 5 none RX7 g A X) (hf : s_X7_store_22_28_h32 N x2 x3 σ = some z) (k0 : z.1 = 0 → Bk cw p l e rm_X7_store_22_28 s m args below meth c 5 g A Q 0 0 32 [(0, .ref (g.2.2 22)), (1, .ref (g.2.2 28)), (2, .int x2), (3, .int z.2.1)] [] z.2.2) (k : ¬ z.1 = 0 → Bk cw p l e rm_X7_store_22_28 s m args below meth c 5 g A Q 0 0 99 [] [] z.2.2) : Bk cw p l e rm_X7_store_22_28 s m args below meth c 5 g A Q 0 0 32 [(0, .ref (g.2.2 22)), (1, .ref (g.2.2 28)), (2, .int x2), (3, .int x3)] [] σ := by
  obtain ⟨hx, hb, hr, hml, hown, hts, hK, hlocks, hXX, hA, hXo⟩ := id C
  intro H locs ls hP hD hS hl
  unfold s_X7_store_22_28_h32 at hf
  refine lv_iload_n hx hb dX7_store_32 rfl (lv_at hl 3 rfl) ?_
  refine lv_bipush (v := (9 : Int32)) hx hb dX7_store_33 (by decide) ?_
  refine lv_icmp_ge (tgt := 99) hx hb dX7_store_35 (by decide) (fun t35 => ?_) (fun t35 => ?_)
  · have hf := (if_pos t35).symm.trans hf
    cases hf
    exact (k (show ¬ (1 : Nat) = 0 by decide)) H locs ls hP hD hS (lv_sub hl [] rfl)
  · have hf := (if_neg t35).symm.trans hf
    refine lv_iload_n hx hb dX7_store_38 rfl (lv_at hl 2 rfl) ?_
    refine lv_iconst (v := (2 : Int32)) hx hb dX7_store_39 (by decide) ?_
    refine lv_iadd hx hb dX7_store_40 ?_
    refine lv_iconst (v := (4 : Int32)) hx hb dX7_store_41 (by decide) ?_
    refine lv_iload_n hx hb dX7_store_42 rfl (lv_at hl 3 rfl) ?_
    refine lv_imul hx hb dX7_store_43 ?_
    refine lv_iadd hx hb dX7_store_44 ?_
    obtain ⟨v1, ev1, hf⟩ := bd_s hf
    rw [← ev1]
    refine lv_istore (lv' := [(4, .int v1), (0, .ref (g.2.2 22)), (1, .ref (g.2.2 28)), (2, .int x2), (3, .int x3)]) hx hb dX7_store_45 hl (by decide) rfl (fun ls hl => ?_)
    refine lv_aload_n hx hb dX7_store_47 rfl (lv_at hl 2 rfl) ?_
    refine lv_iload hx hb dX7_store_48 (lv_at hl 0 rfl) ?_
    refine lv_aload_n hx hb dX7_store_50 rfl (lv_at hl 1 rfl) ?_
    refine bk_get (wf := cw) (q0 := 22) (ci := 7) (k := 2) (v := .ref (g.2.2 23)) C hP wl_X7 rfl rfl (by decide) wa_109 rfl rfl dX7_store_51 ?_
    refine lv_iload_n hx hb dX7_store_54 rfl (lv_at hl 4 rfl) ?_
    obtain ⟨g2, hf⟩ := gd_s hf
    refine bk_iald (wf := cw) (q0 := 23) (n := 9) (j := x3.toNatClampNeg) C hP rfl g2 rfl dX7_store_55 ?_
    obtain ⟨g3, hf⟩ := gd_s hf
    obtain ⟨σ4, eσ4, hf⟩ := bd_s hf
    refine bk_iast (wf := cw) (σ1 := σ4) (q0 := 28) (n := 1520) (j := v1.toNatClampNeg) C hP hD hS rfl g3 rfl (by rw [eσ4]; exact cw_a28 g _ _ _) dX7_store_56 (fun H locs hP hD hS => ?_)
    refine lv_aload_n hx hb dX7_store_57 rfl (lv_at hl 2 rfl) ?_
    refine lv_iload hx hb dX7_store_58 (lv_at hl 0 rfl) ?_
    refine lv_iconst (v := (1 : Int32)) hx hb dX7_store_60 (by decide) ?_
    refine lv_iadd hx hb dX7_store_61 ?_
    refine lv_aload_n hx hb dX7_store_62 rfl (lv_at hl 1 rfl) ?_
    refine bk_get (wf := cw) (q0 := 22) (ci := 7) (k := 3) (v := .ref (g.2.2 24)) C hP wl_X7 rfl rfl (by decide) wa_110 rfl rfl dX7_store_63 ?_
    refine lv_iload_n hx hb dX7_store_66 rfl (lv_at hl 4 rfl) ?_
    obtain ⟨g5, hf⟩ := gd_s hf
    refine bk_iald (wf := cw) (q0 := 24) (n := 9) (j := x3.toNatClampNeg) C hP rfl g5 rfl dX7_store_67 ?_
    obtain ⟨g6, hf⟩ := gd_s hf
    obtain ⟨σ7, eσ7, hf⟩ := bd_s hf
    refine bk_iast (wf := cw) (σ1 := σ7) (q0 := 28) (n := 1520) (j := (v1 + (1 : Int32)).toNatClampNeg) C hP hD hS rfl g6 rfl (by rw [eσ7]; exact cw_a28 g _ _ _) dX7_store_68 (fun H locs hP hD hS => ?_)
    refine lv_aload_n hx hb dX7_store_69 rfl (lv_at hl 2 rfl) ?_
    refine lv_iload hx hb dX7_store_70 (lv_at hl 0 rfl) ?_
    refine lv_iconst (v := (2 : Int32)) hx hb dX7_store_72 (by decide) ?_
    refine lv_iadd hx hb dX7_store_73 ?_
    refine lv_aload_n hx hb dX7_store_74 rfl (lv_at hl 1 rfl) ?_
    refine bk_get (wf := cw) (q0 := 22) (ci := 7) (k := 4) (v := .ref (g.2.2 25)) C hP wl_X7 rfl rfl (by decide) wa_111 rfl rfl dX7_store_75 ?_
    refine lv_iload_n hx hb dX7_store_78 rfl (lv_at hl 4 rfl) ?_
    obtain ⟨g8, hf⟩ := gd_s hf
    refine bk_iald (wf := cw) (q0 := 25) (n := 9) (j := x3.toNatClampNeg) C hP rfl g8 rfl dX7_store_79 ?_
    obtain ⟨g9, hf⟩ := gd_s hf
    obtain ⟨σ10, eσ10, hf⟩ := bd_s hf
    refine bk_iast (wf := cw) (σ1 := σ10) (q0 := 28) (n := 1520) (j := (v1 + (2 : Int32)).toNatClampNeg) C hP hD hS rfl g9 rfl (by rw [eσ10]; exact cw_a28 g _ _ _) dX7_store_80 (fun H locs hP hD hS => ?_)
    refine lv_aload_n hx hb dX7_store_81 rfl (lv_at hl 2 rfl) ?_
    refine lv_iload hx hb dX7_store_82 (lv_at hl 0 rfl) ?_
    refine lv_iconst (v := (3 : Int32)) hx hb dX7_store_84 (by decide) ?_
    refine lv_iadd hx hb dX7_store_85 ?_
    refine lv_aload_n hx hb dX7_store_86 rfl (lv_at hl 1 rfl) ?_
    refine bk_get (wf := cw) (q0 := 22) (ci := 7) (k := 5) (v := .ref (g.2.2 26)) C hP wl_X7 rfl rfl (by decide) wa_112 rfl rfl dX7_store_87 ?_
    refine lv_iload_n hx hb dX7_store_90 rfl (lv_at hl 4 rfl) ?_
    obtain ⟨g11, hf⟩ := gd_s hf
    refine bk_iald (wf := cw) (q0 := 26) (n := 9) (j := x3.toNatClampNeg) C hP rfl g11 rfl dX7_store_91 ?_
    obtain ⟨g12, hf⟩ := gd_s hf
    obtain ⟨σ13, eσ13, hf⟩ := bd_s hf
    refine bk_iast (wf := cw) (σ1 := σ13) (q0 := 28) (n := 1520) (j := (v1 + (3 : Int32)).toNatClampNeg) C hP hD hS rfl g12 rfl (by rw [eσ13]; exact cw_a28 g _ _ _) dX7_store_92 (fun H locs hP hD hS => ?_)
    obtain ⟨v14, ev14, hf⟩ := bd_s hf
    refine lv_iinc (v := v14) (lv' := [(3, .int v14), (4, .int v1), (0, .ref (g.2.2 22)), (1, .ref (g.2.2 28)), (2, .int x2)]) hx hb dX7_store_93 hl (k := 4) rfl (by rw [ev14]; rfl) (by decide) rfl (fun ls hl => ?_)
    refine lv_goto (tgt := 32) hx hb dX7_store_96 (by decide) ?_
    cases hf
    exact k0 rfl H locs ls hP hD hS (lv_sub hl [2, 3, 4, 0] rfl)
theorem lp_X7_store_22_28_h32 {N n : Nat} {x2 : Int32} {x3 : Int32} {σ : Sg} {z : Nat × Int32 × Sg} (C : Cx p s m args meth c cX7_store 5 none RX7 g A X) (hz : it (fun q => s_X7_store_22_28_h32 N x2 q.1 q.2) n (x3, σ) = some z) (k : Bk cw p l e rm_X7_store_22_28 s m args below meth c 5 g A Q 0 0 99 [] [] z.2.2) : Bk cw p l e rm_X7_store_22_28 s m args below meth c 5 g A Q 0 0 32 [(0, .ref (g.2.2 22)), (1, .ref (g.2.2 28)), (2, .int x2), (3, .int x3)] [] σ :=
  it_W (S := Int32 × Sg) (fun q => Bk cw p l e rm_X7_store_22_28 s m args below meth c 5 g A Q 0 0 32 [(0, .ref (g.2.2 22)), (1, .ref (g.2.2 28)), (2, .int x2), (3, .int q.1)] [] q.2) (fun z => Bk cw p l e rm_X7_store_22_28 s m args below meth c 5 g A Q 0 0 99 [] [] z.2.2) (fun q z hq k0 k => e_X7_store_22_28_h32 C hq k0 k) n (x3, σ) z hz k
def f_X7_store_22_28 (N : Nat) (x2 : Int32) (σ : Sg) : Option (Sg) :=
if x2 < 0 then (some σ)
else (if x2 ≤ ((1520 : Int32) - (38 : Int32)) then (if (x2 < 0 ∨ 1520 ≤ x2.toNatClampNeg) then none else
bd (wr σ 28 (x2.toNatClampNeg) (σ 22 0)) fun σ16 =>
if ((x2 + (1 : Int32)) < 0 ∨ 1520 ≤ (x2 + (1 : Int32)).toNatClampNeg) then none else
bd (wr σ16 28 ((x2 + (1 : Int32)).toNatClampNeg) (σ16 22 1)) fun σ18 =>
(it (fun q => s_X7_store_22_28_h32 N x2 q.1 q.2) N ((0 : Int32), σ18)).bind fun z19 =>
some (z19.2.2))
else (some σ))
set_option maxHeartbeats 4000000 in
set_option maxRecDepth 100000 in
theorem b_X7_store_22_28 {N : Nat} {x2 : Int32} {σ : Sg} {z : Sg} (C : Cx p s m args meth c cX7_store 5 none RX7 g A X) (hf : f_X7_store_22_28 N x2 σ = some z) : Bk cw p l e rm_X7_store_22_28 s m args below meth c 5 g A (MQ below (qV cw g A z) args s 0 0 A) 0 0 0 [(0, .ref (g.2.2 22)), (1, .ref (g.2.2 28)), (2, .int x2)] [] σ := by
  obtain ⟨hx, hb, hr, hml, hown, hts, hK, hlocks, hXX, hA, hXo⟩ := id C
  intro H locs ls hP hD hS hl
  unfold f_X7_store_22_28 at hf
  refine lv_iload_n hx hb dX7_store_0 rfl (lv_at hl 2 rfl) ?_
  refine lv_if_lt (tgt := 13) hx hb dX7_store_1 (by decide) (fun t1 => ?_) (fun t1 => ?_)
  · have hf := (if_pos t1).symm.trans hf
    cases hf
    exact bk_vret C hP hD hS rfl dX7_store_13
  · have hf := (if_neg t1).symm.trans hf
    refine lv_iload_n hx hb dX7_store_4 rfl (lv_at hl 2 rfl) ?_
    refine lv_aload_n hx hb dX7_store_5 rfl (lv_at hl 1 rfl) ?_
    refine bk_alen (wf := cw) (q0 := 28) (t0 := 0) (v := (1520 : Int32)) C hP rfl rfl (show Int32.ofNat 1520 = (1520 : Int32) by decide) dX7_store_6 ?_
    refine lv_bipush (v := (38 : Int32)) hx hb dX7_store_7 (by decide) ?_
    refine lv_isub hx hb dX7_store_9 ?_
    refine lv_icmp_le (tgt := 14) hx hb dX7_store_10 (by decide) (fun t10 => ?_) (fun t10 => ?_)
    · have hf := (if_pos t10).symm.trans hf
      refine lv_aload_n hx hb dX7_store_14 rfl (lv_at hl 1 rfl) ?_
      refine lv_iload_n hx hb dX7_store_15 rfl (lv_at hl 2 rfl) ?_
      refine lv_aload_n hx hb dX7_store_16 rfl (lv_at hl 0 rfl) ?_
      refine bk_get (wf := cw) (q0 := 22) (ci := 7) (k := 0) (v := .int (σ 22 0)) C hP wl_X7 rfl rfl (by decide) wa_107 rfl rfl dX7_store_17 ?_
      obtain ⟨g15, hf⟩ := gd_s hf
      obtain ⟨σ16, eσ16, hf⟩ := bd_s hf
      refine bk_iast (wf := cw) (σ1 := σ16) (q0 := 28) (n := 1520) (j := x2.toNatClampNeg) C hP hD hS rfl g15 rfl (by rw [eσ16]; exact cw_a28 g _ _ _) dX7_store_20 (fun H locs hP hD hS => ?_)
      refine lv_aload_n hx hb dX7_store_21 rfl (lv_at hl 1 rfl) ?_
      refine lv_iload_n hx hb dX7_store_22 rfl (lv_at hl 2 rfl) ?_
      refine lv_iconst (v := (1 : Int32)) hx hb dX7_store_23 (by decide) ?_
      refine lv_iadd hx hb dX7_store_24 ?_
      refine lv_aload_n hx hb dX7_store_25 rfl (lv_at hl 0 rfl) ?_
      refine bk_get (wf := cw) (q0 := 22) (ci := 7) (k := 1) (v := .int (σ16 22 1)) C hP wl_X7 rfl rfl (by decide) wa_108 rfl rfl dX7_store_26 ?_
      obtain ⟨g17, hf⟩ := gd_s hf
      obtain ⟨σ18, eσ18, hf⟩ := bd_s hf
      refine bk_iast (wf := cw) (σ1 := σ18) (q0 := 28) (n := 1520) (j := (x2 + (1 : Int32)).toNatClampNeg) C hP hD hS rfl g17 rfl (by rw [eσ18]; exact cw_a28 g _ _ _) dX7_store_29 (fun H locs hP hD hS => ?_)
      refine lv_iconst (v := (0 : Int32)) hx hb dX7_store_30 (by decide) ?_
      refine lv_istore_n (lv' := [(3, .int (0 : Int32)), (0, .ref (g.2.2 22)), (1, .ref (g.2.2 28)), (2, .int x2)]) hx hb dX7_store_31 rfl hl (by decide) rfl (fun ls hl => ?_)
      obtain ⟨z19, hz19, hf⟩ := bi_s hf
      refine lp_X7_store_22_28_h32 C hz19 ?_ H locs ls hP hD hS (lv_sub hl [1, 2, 3, 0] rfl)
      intro H locs ls hP hD hS hl
      cases hf
      exact bk_vret C hP hD hS rfl dX7_store_99
    · have hf := (if_neg t10).symm.trans hf
      cases hf
      exact bk_vret C hP hD hS rfl dX7_store_13
theorem c_X7_store_22_28 {N : Nat} {x2 : Int32} {σ : Sg} {z : Sg} (hX : xOK g X) (hf : f_X7_store_22_28 N x2 σ = some z) : MetV l yX7_store (Cond.code yX7_store cX7_store 5 none :: wsA) rm_X7_store_22_28 cw g X [.ref (g.2.2 22), .ref (g.2.2 28), .int x2] σ z :=
  MetV_of hX (by decide) (Nat.le_of_ble_eq_true rfl) (fun p e s m args below meth c A C => b_X7_store_22_28 C hf)
-- X0_keep_27_22: keep(LNodPost$State;)V
abbrev rm_X0_keep_27_22 : Room := { frames := 1, cells := 0, slots := 0, locals := 24 }
theorem nd_X0_keep : yX0_keep.cls ≠ "java/lang/invoke/MethodHandle" ∧ yX0_keep.cls ≠ "java/lang/invoke/VarHandle" ∧ (parseMethodDescriptor yX0_keep.desc).map (fun d => d.parameters.length) = some 1 := by decide +kernel
def f_X0_keep_27_22 (N : Nat) (σ : Sg) : Option (Sg) :=
(f_X7_store_22_28 N ((σ 27 1) * (38 : Int32)) σ).bind fun q1 =>
bd (wr q1 27 1 (((q1 27 1) + (1 : Int32)) - ((q1 27 1) + (1 : Int32)) / (40 : Int32) * (40 : Int32))) fun σ2 =>
bd (wr σ2 27 0 (if (40 : Int32) < ((σ2 27 0) + (1 : Int32)) then (40 : Int32) else ((σ2 27 0) + (1 : Int32)))) fun σ3 =>
some σ3
set_option maxHeartbeats 4000000 in
set_option maxRecDepth 100000 in
theorem b_X0_keep_27_22 {N : Nat} {σ : Sg} {z : Sg} (C : Cx p s m args meth c cX0_keep 2 none RX0 g A X) (hf : f_X0_keep_27_22 N σ = some z) : Bk cw p l e rm_X0_keep_27_22 s m args below meth c 2 g A (MQ below (qV cw g A z) args s 0 0 A) 0 0 0 [(0, .ref (g.2.2 27)), (1, .ref (g.2.2 22))] [] σ := by
  obtain ⟨hx, hb, hr, hml, hown, hts, hK, hlocks, hXX, hA, hXo⟩ := id C
  intro H locs ls hP hD hS hl
  unfold f_X0_keep_27_22 at hf
  refine lv_aload_n hx hb dX0_keep_0 rfl (lv_at hl 1 rfl) ?_
  refine lv_aload_n hx hb dX0_keep_1 rfl (lv_at hl 0 rfl) ?_
  refine bk_get (wf := cw) (q0 := 27) (ci := 0) (k := 2) (v := .ref (g.2.2 28)) C hP wl_X0 rfl rfl (by decide) wa_118 rfl rfl dX0_keep_2 ?_
  refine lv_aload_n hx hb dX0_keep_5 rfl (lv_at hl 0 rfl) ?_
  refine bk_get (wf := cw) (q0 := 27) (ci := 0) (k := 1) (v := .int (σ 27 1)) C hP wl_X0 rfl rfl (by decide) wa_117 rfl rfl dX0_keep_6 ?_
  refine lv_bipush (v := (38 : Int32)) hx hb dX0_keep_9 (by decide) ?_
  refine lv_imul hx hb dX0_keep_11 ?_
  obtain ⟨q1, hq1, hf⟩ := bi_s hf
  refine bk_VV (wf := cw) (q0 := 22) (ci := 7) (rest := []) [.ref (g.2.2 28), .int ((σ 27 1) * (38 : Int32))] C hP hD hS hl.1 (c_X7_store_22_28 hXo hq1) (cwA_V 2 hts wa_821 wa_818 wa_819 wa_820 wa_93 rfl rfl nd_X7_store ⟨Nat.le_of_ble_eq_true rfl, Nat.le_of_ble_eq_true rfl⟩) rfl rfl rfl rfl (Nat.le_of_ble_eq_true rfl) dX0_keep_12 ⟨Nat.le_of_ble_eq_true rfl, Nat.le_of_ble_eq_true rfl⟩ (fun H locs hP hD hS => ?_)
  refine lv_aload_n hx hb dX0_keep_15 rfl (lv_at hl 0 rfl) ?_
  refine lv_aload_n hx hb dX0_keep_16 rfl (lv_at hl 0 rfl) ?_
  refine bk_get (wf := cw) (q0 := 27) (ci := 0) (k := 1) (v := .int (q1 27 1)) C hP wl_X0 rfl rfl (by decide) wa_117 rfl rfl dX0_keep_17 ?_
  refine lv_iconst (v := (1 : Int32)) hx hb dX0_keep_20 (by decide) ?_
  refine lv_iadd hx hb dX0_keep_21 ?_
  refine lv_bipush (v := (40 : Int32)) hx hb dX0_keep_22 (by decide) ?_
  refine lv_irem hx hb dX0_keep_24 (by decide) ?_
  obtain ⟨σ2, eσ2, hf⟩ := bd_s hf
  refine bk_put (wf := cw) (σ1 := σ2) (q0 := 27) (ci := 0) (k := 1) (v := .int (((q1 27 1) + (1 : Int32)) - ((q1 27 1) + (1 : Int32)) / (40 : Int32) * (40 : Int32))) C hP hD hS wl_X0 tyX0_ok nmX0 rfl rfl (by decide) wa_117 rfl rfl rfl rfl rfl (Nat.le_of_ble_eq_true rfl) (by rw [eσ2]; exact cw_p27_1 g _ _) dX0_keep_25 (fun H locs hP hD hS => ?_)
  refine lv_aload_n hx hb dX0_keep_28 rfl (lv_at hl 0 rfl) ?_
  refine lv_aload_n hx hb dX0_keep_29 rfl (lv_at hl 0 rfl) ?_
  refine bk_get (wf := cw) (q0 := 27) (ci := 0) (k := 0) (v := .int (σ2 27 0)) C hP wl_X0 rfl rfl (by decide) wa_116 rfl rfl dX0_keep_30 ?_
  refine lv_iconst (v := (1 : Int32)) hx hb dX0_keep_33 (by decide) ?_
  refine lv_iadd hx hb dX0_keep_34 ?_
  refine lv_bipush (v := (40 : Int32)) hx hb dX0_keep_35 (by decide) ?_
  refine va_mmin hx hb (hml.trans hl.1.symm) hown (hts _ wa_817) (hts _ wa_230) (hts _ wa_231) (hts _ wa_232) (Nat.le_of_ble_eq_true rfl) (Nat.le_of_ble_eq_true rfl) (Nat.le_of_ble_eq_true rfl) (Nat.le_of_ble_eq_true rfl) dX0_keep_37 ?_
  obtain ⟨σ3, eσ3, hf⟩ := bd_s hf
  refine bk_put (wf := cw) (σ1 := σ3) (q0 := 27) (ci := 0) (k := 0) (v := .int (if (40 : Int32) < ((σ2 27 0) + (1 : Int32)) then (40 : Int32) else ((σ2 27 0) + (1 : Int32)))) C hP hD hS wl_X0 tyX0_ok nmX0 rfl rfl (by decide) wa_116 rfl rfl rfl rfl rfl (Nat.le_of_ble_eq_true rfl) (by rw [eσ3]; exact cw_p27_0 g _ _) dX0_keep_40 (fun H locs hP hD hS => ?_)
  cases hf
  exact bk_vret C hP hD hS rfl dX0_keep_43
theorem c_X0_keep_27_22 {N : Nat} {σ : Sg} {z : Sg} (hX : xOK g X) (hf : f_X0_keep_27_22 N σ = some z) : MetV l yX0_keep (Cond.code yX0_keep cX0_keep 2 none :: wsA) rm_X0_keep_27_22 cw g X [.ref (g.2.2 27), .ref (g.2.2 22)] σ z :=
  MetV_of hX (by decide) (Nat.le_of_ble_eq_true rfl) (fun p e s m args below meth c A C => b_X0_keep_27_22 C hf)
-- X11_copyFarms_23_57: copyFarms([I[I)V
abbrev rm_X11_copyFarms_23_57 : Room := { frames := 1, cells := 0, slots := 0, locals := 80 }
theorem nd_X11_copyFarms : yX11_copyFarms.cls ≠ "java/lang/invoke/MethodHandle" ∧ yX11_copyFarms.cls ≠ "java/lang/invoke/VarHandle" ∧ (parseMethodDescriptor yX11_copyFarms.desc).map (fun d => d.parameters.length) = some 2 := by decide +kernel
def f_X11_copyFarms_23_57 (N : Nat) (σ : Sg) : Option (Sg) :=
bd (wrR σ 57 (va_cpy (σ 23) (σ 57) 0 0 9)) fun σ1 =>
some σ1
set_option maxHeartbeats 4000000 in
set_option maxRecDepth 100000 in
theorem b_X11_copyFarms_23_57 {N : Nat} {σ : Sg} {z : Sg} (C : Cx p s m args meth c cX11_copyFarms 2 none RX11 g A X) (hf : f_X11_copyFarms_23_57 N σ = some z) : Bk cw p l e rm_X11_copyFarms_23_57 s m args below meth c 2 g A (MQ below (qV cw g A z) args s 0 0 A) 0 0 0 [(0, .ref (g.2.2 23)), (1, .ref (g.2.2 57))] [] σ := by
  obtain ⟨hx, hb, hr, hml, hown, hts, hK, hlocks, hXX, hA, hXo⟩ := id C
  intro H locs ls hP hD hS hl
  unfold f_X11_copyFarms_23_57 at hf
  refine lv_aload_n hx hb dX11_copyFarms_0 rfl (lv_at hl 0 rfl) ?_
  refine lv_iconst (v := (0 : Int32)) hx hb dX11_copyFarms_1 (by decide) ?_
  refine lv_aload_n hx hb dX11_copyFarms_2 rfl (lv_at hl 1 rfl) ?_
  refine lv_iconst (v := (0 : Int32)) hx hb dX11_copyFarms_3 (by decide) ?_
  refine lv_bipush (v := (9 : Int32)) hx hb dX11_copyFarms_4 (by decide) ?_
  obtain ⟨σ1, eσ1, hf⟩ := bd_s hf
  refine bk_copy (wf := cw) (σ1 := σ1) (q0 := 23) (q1 := 57) (n0 := 9) (n1 := 9) (js := 0) (jd := 0) (jn := 9) C hP hD hS hl.1 wa_446 wa_441 wa_442 wa_443 rfl rfl (by decide) (by decide) (by decide) (by decide) (by decide) (by decide) (Nat.le_of_ble_eq_true rfl) (Nat.le_of_ble_eq_true rfl) (Nat.le_of_ble_eq_true rfl) (Nat.le_of_ble_eq_true rfl) (by rw [eσ1]; exact cw_r57 g _ _) dX11_copyFarms_6 (fun H locs hP hD hS => ?_)
  cases hf
  exact bk_vret C hP hD hS rfl dX11_copyFarms_9
theorem c_X11_copyFarms_23_57 {N : Nat} {σ : Sg} {z : Sg} (hX : xOK g X) (hf : f_X11_copyFarms_23_57 N σ = some z) : MetV l yX11_copyFarms (Cond.code yX11_copyFarms cX11_copyFarms 2 none :: wsA) rm_X11_copyFarms_23_57 cw g X [.ref (g.2.2 23), .ref (g.2.2 57)] σ z :=
  MetV_of hX (by decide) (Nat.le_of_ble_eq_true rfl) (fun p e s m args below meth c A C => b_X11_copyFarms_23_57 C hf)
-- X11_copyFarms_24_58: copyFarms([I[I)V
abbrev rm_X11_copyFarms_24_58 : Room := { frames := 1, cells := 0, slots := 0, locals := 80 }
def f_X11_copyFarms_24_58 (N : Nat) (σ : Sg) : Option (Sg) :=
bd (wrR σ 58 (va_cpy (σ 24) (σ 58) 0 0 9)) fun σ1 =>
some σ1
set_option maxHeartbeats 4000000 in
set_option maxRecDepth 100000 in
theorem b_X11_copyFarms_24_58 {N : Nat} {σ : Sg} {z : Sg} (C : Cx p s m args meth c cX11_copyFarms 2 none RX11 g A X) (hf : f_X11_copyFarms_24_58 N σ = some z) : Bk cw p l e rm_X11_copyFarms_24_58 s m args below meth c 2 g A (MQ below (qV cw g A z) args s 0 0 A) 0 0 0 [(0, .ref (g.2.2 24)), (1, .ref (g.2.2 58))] [] σ := by
  obtain ⟨hx, hb, hr, hml, hown, hts, hK, hlocks, hXX, hA, hXo⟩ := id C
  intro H locs ls hP hD hS hl
  unfold f_X11_copyFarms_24_58 at hf
  refine lv_aload_n hx hb dX11_copyFarms_0 rfl (lv_at hl 0 rfl) ?_
  refine lv_iconst (v := (0 : Int32)) hx hb dX11_copyFarms_1 (by decide) ?_
  refine lv_aload_n hx hb dX11_copyFarms_2 rfl (lv_at hl 1 rfl) ?_
  refine lv_iconst (v := (0 : Int32)) hx hb dX11_copyFarms_3 (by decide) ?_
  refine lv_bipush (v := (9 : Int32)) hx hb dX11_copyFarms_4 (by decide) ?_
  obtain ⟨σ1, eσ1, hf⟩ := bd_s hf
  refine bk_copy (wf := cw) (σ1 := σ1) (q0 := 24) (q1 := 58) (n0 := 9) (n1 := 9) (js := 0) (jd := 0) (jn := 9) C hP hD hS hl.1 wa_446 wa_441 wa_442 wa_443 rfl rfl (by decide) (by decide) (by decide) (by decide) (by decide) (by decide) (Nat.le_of_ble_eq_true rfl) (Nat.le_of_ble_eq_true rfl) (Nat.le_of_ble_eq_true rfl) (Nat.le_of_ble_eq_true rfl) (by rw [eσ1]; exact cw_r58 g _ _) dX11_copyFarms_6 (fun H locs hP hD hS => ?_)
  cases hf
  exact bk_vret C hP hD hS rfl dX11_copyFarms_9
theorem c_X11_copyFarms_24_58 {N : Nat} {σ : Sg} {z : Sg} (hX : xOK g X) (hf : f_X11_copyFarms_24_58 N σ = some z) : MetV l yX11_copyFarms (Cond.code yX11_copyFarms cX11_copyFarms 2 none :: wsA) rm_X11_copyFarms_24_58 cw g X [.ref (g.2.2 24), .ref (g.2.2 58)] σ z :=
  MetV_of hX (by decide) (Nat.le_of_ble_eq_true rfl) (fun p e s m args below meth c A C => b_X11_copyFarms_24_58 C hf)
-- X11_copyFarms_25_59: copyFarms([I[I)V
abbrev rm_X11_copyFarms_25_59 : Room := { frames := 1, cells := 0, slots := 0, locals := 80 }
def f_X11_copyFarms_25_59 (N : Nat) (σ : Sg) : Option (Sg) :=
bd (wrR σ 59 (va_cpy (σ 25) (σ 59) 0 0 9)) fun σ1 =>
some σ1
set_option maxHeartbeats 4000000 in
set_option maxRecDepth 100000 in
theorem b_X11_copyFarms_25_59 {N : Nat} {σ : Sg} {z : Sg} (C : Cx p s m args meth c cX11_copyFarms 2 none RX11 g A X) (hf : f_X11_copyFarms_25_59 N σ = some z) : Bk cw p l e rm_X11_copyFarms_25_59 s m args below meth c 2 g A (MQ below (qV cw g A z) args s 0 0 A) 0 0 0 [(0, .ref (g.2.2 25)), (1, .ref (g.2.2 59))] [] σ := by
  obtain ⟨hx, hb, hr, hml, hown, hts, hK, hlocks, hXX, hA, hXo⟩ := id C
  intro H locs ls hP hD hS hl
  unfold f_X11_copyFarms_25_59 at hf
  refine lv_aload_n hx hb dX11_copyFarms_0 rfl (lv_at hl 0 rfl) ?_
  refine lv_iconst (v := (0 : Int32)) hx hb dX11_copyFarms_1 (by decide) ?_
  refine lv_aload_n hx hb dX11_copyFarms_2 rfl (lv_at hl 1 rfl) ?_
  refine lv_iconst (v := (0 : Int32)) hx hb dX11_copyFarms_3 (by decide) ?_
  refine lv_bipush (v := (9 : Int32)) hx hb dX11_copyFarms_4 (by decide) ?_
  obtain ⟨σ1, eσ1, hf⟩ := bd_s hf
  refine bk_copy (wf := cw) (σ1 := σ1) (q0 := 25) (q1 := 59) (n0 := 9) (n1 := 9) (js := 0) (jd := 0) (jn := 9) C hP hD hS hl.1 wa_446 wa_441 wa_442 wa_443 rfl rfl (by decide) (by decide) (by decide) (by decide) (by decide) (by decide) (Nat.le_of_ble_eq_true rfl) (Nat.le_of_ble_eq_true rfl) (Nat.le_of_ble_eq_true rfl) (Nat.le_of_ble_eq_true rfl) (by rw [eσ1]; exact cw_r59 g _ _) dX11_copyFarms_6 (fun H locs hP hD hS => ?_)
  cases hf
  exact bk_vret C hP hD hS rfl dX11_copyFarms_9
theorem c_X11_copyFarms_25_59 {N : Nat} {σ : Sg} {z : Sg} (hX : xOK g X) (hf : f_X11_copyFarms_25_59 N σ = some z) : MetV l yX11_copyFarms (Cond.code yX11_copyFarms cX11_copyFarms 2 none :: wsA) rm_X11_copyFarms_25_59 cw g X [.ref (g.2.2 25), .ref (g.2.2 59)] σ z :=
  MetV_of hX (by decide) (Nat.le_of_ble_eq_true rfl) (fun p e s m args below meth c A C => b_X11_copyFarms_25_59 C hf)
-- X11_copyFarms_26_60: copyFarms([I[I)V
abbrev rm_X11_copyFarms_26_60 : Room := { frames := 1, cells := 0, slots := 0, locals := 80 }
def f_X11_copyFarms_26_60 (N : Nat) (σ : Sg) : Option (Sg) :=
bd (wrR σ 60 (va_cpy (σ 26) (σ 60) 0 0 9)) fun σ1 =>
some σ1
set_option maxHeartbeats 4000000 in
set_option maxRecDepth 100000 in
theorem b_X11_copyFarms_26_60 {N : Nat} {σ : Sg} {z : Sg} (C : Cx p s m args meth c cX11_copyFarms 2 none RX11 g A X) (hf : f_X11_copyFarms_26_60 N σ = some z) : Bk cw p l e rm_X11_copyFarms_26_60 s m args below meth c 2 g A (MQ below (qV cw g A z) args s 0 0 A) 0 0 0 [(0, .ref (g.2.2 26)), (1, .ref (g.2.2 60))] [] σ := by
  obtain ⟨hx, hb, hr, hml, hown, hts, hK, hlocks, hXX, hA, hXo⟩ := id C
  intro H locs ls hP hD hS hl
  unfold f_X11_copyFarms_26_60 at hf
  refine lv_aload_n hx hb dX11_copyFarms_0 rfl (lv_at hl 0 rfl) ?_
  refine lv_iconst (v := (0 : Int32)) hx hb dX11_copyFarms_1 (by decide) ?_
  refine lv_aload_n hx hb dX11_copyFarms_2 rfl (lv_at hl 1 rfl) ?_
  refine lv_iconst (v := (0 : Int32)) hx hb dX11_copyFarms_3 (by decide) ?_
  refine lv_bipush (v := (9 : Int32)) hx hb dX11_copyFarms_4 (by decide) ?_
  obtain ⟨σ1, eσ1, hf⟩ := bd_s hf
  refine bk_copy (wf := cw) (σ1 := σ1) (q0 := 26) (q1 := 60) (n0 := 9) (n1 := 9) (js := 0) (jd := 0) (jn := 9) C hP hD hS hl.1 wa_446 wa_441 wa_442 wa_443 rfl rfl (by decide) (by decide) (by decide) (by decide) (by decide) (by decide) (Nat.le_of_ble_eq_true rfl) (Nat.le_of_ble_eq_true rfl) (Nat.le_of_ble_eq_true rfl) (Nat.le_of_ble_eq_true rfl) (by rw [eσ1]; exact cw_r60 g _ _) dX11_copyFarms_6 (fun H locs hP hD hS => ?_)
  cases hf
  exact bk_vret C hP hD hS rfl dX11_copyFarms_9
theorem c_X11_copyFarms_26_60 {N : Nat} {σ : Sg} {z : Sg} (hX : xOK g X) (hf : f_X11_copyFarms_26_60 N σ = some z) : MetV l yX11_copyFarms (Cond.code yX11_copyFarms cX11_copyFarms 2 none :: wsA) rm_X11_copyFarms_26_60 cw g X [.ref (g.2.2 26), .ref (g.2.2 60)] σ z :=
  MetV_of hX (by decide) (Nat.le_of_ble_eq_true rfl) (fun p e s m args below meth c A C => b_X11_copyFarms_26_60 C hf)
-- X7_copy_56_22: copy(LNodPost$State;)V
abbrev rm_X7_copy_56_22 : Room := { frames := 2, cells := 0, slots := 0, locals := 101 }
theorem nd_X7_copy : yX7_copy.cls ≠ "java/lang/invoke/MethodHandle" ∧ yX7_copy.cls ≠ "java/lang/invoke/VarHandle" ∧ (parseMethodDescriptor yX7_copy.desc).map (fun d => d.parameters.length) = some 1 := by decide +kernel
def f_X7_copy_56_22 (N : Nat) (σ : Sg) : Option (Sg) :=
bd (wr σ 56 0 (σ 22 0)) fun σ1 =>
bd (wr σ1 56 1 (σ1 22 1)) fun σ2 =>
(f_X11_copyFarms_23_57 N σ2).bind fun q3 =>
(f_X11_copyFarms_24_58 N q3).bind fun q4 =>
(f_X11_copyFarms_25_59 N q4).bind fun q5 =>
(f_X11_copyFarms_26_60 N q5).bind fun q6 =>
some q6
set_option maxHeartbeats 4000000 in
set_option maxRecDepth 100000 in
theorem b_X7_copy_56_22 {N : Nat} {σ : Sg} {z : Sg} (C : Cx p s m args meth c cX7_copy 2 none RX7 g A X) (hf : f_X7_copy_56_22 N σ = some z) : Bk cw p l e rm_X7_copy_56_22 s m args below meth c 2 g A (MQ below (qV cw g A z) args s 0 0 A) 0 0 0 [(0, .ref (g.2.2 56)), (1, .ref (g.2.2 22))] [] σ := by
  obtain ⟨hx, hb, hr, hml, hown, hts, hK, hlocks, hXX, hA, hXo⟩ := id C
  intro H locs ls hP hD hS hl
  unfold f_X7_copy_56_22 at hf
  refine lv_aload_n hx hb dX7_copy_0 rfl (lv_at hl 0 rfl) ?_
  refine lv_aload_n hx hb dX7_copy_1 rfl (lv_at hl 1 rfl) ?_
  refine bk_get (wf := cw) (q0 := 22) (ci := 7) (k := 0) (v := .int (σ 22 0)) C hP wl_X7 rfl rfl (by decide) wa_107 rfl rfl dX7_copy_2 ?_
  obtain ⟨σ1, eσ1, hf⟩ := bd_s hf
  refine bk_put (wf := cw) (σ1 := σ1) (q0 := 56) (ci := 7) (k := 0) (v := .int (σ 22 0)) C hP hD hS wl_X7 tyX7_ok nmX7 rfl rfl (by decide) wa_107 rfl rfl rfl rfl rfl (Nat.le_of_ble_eq_true rfl) (by rw [eσ1]; exact cw_p56_0 g _ _) dX7_copy_5 (fun H locs hP hD hS => ?_)
  refine lv_aload_n hx hb dX7_copy_8 rfl (lv_at hl 0 rfl) ?_
  refine lv_aload_n hx hb dX7_copy_9 rfl (lv_at hl 1 rfl) ?_
  refine bk_get (wf := cw) (q0 := 22) (ci := 7) (k := 1) (v := .int (σ1 22 1)) C hP wl_X7 rfl rfl (by decide) wa_108 rfl rfl dX7_copy_10 ?_
  obtain ⟨σ2, eσ2, hf⟩ := bd_s hf
  refine bk_put (wf := cw) (σ1 := σ2) (q0 := 56) (ci := 7) (k := 1) (v := .int (σ1 22 1)) C hP hD hS wl_X7 tyX7_ok nmX7 rfl rfl (by decide) wa_108 rfl rfl rfl rfl rfl (Nat.le_of_ble_eq_true rfl) (by rw [eσ2]; exact cw_p56_1 g _ _) dX7_copy_13 (fun H locs hP hD hS => ?_)
  refine lv_aload_n hx hb dX7_copy_16 rfl (lv_at hl 1 rfl) ?_
  refine bk_get (wf := cw) (q0 := 22) (ci := 7) (k := 2) (v := .ref (g.2.2 23)) C hP wl_X7 rfl rfl (by decide) wa_109 rfl rfl dX7_copy_17 ?_
  refine lv_aload_n hx hb dX7_copy_20 rfl (lv_at hl 0 rfl) ?_
  refine bk_get (wf := cw) (q0 := 56) (ci := 7) (k := 2) (v := .ref (g.2.2 57)) C hP wl_X7 rfl rfl (by decide) wa_109 rfl rfl dX7_copy_21 ?_
  obtain ⟨q3, hq3, hf⟩ := bi_s hf
  refine bk_NV (wf := cw) (rest := []) [.ref (g.2.2 23), .ref (g.2.2 57)] C hP hD hS hl.1 (c_X11_copyFarms_23_57 hXo hq3) wa_445 wa_444 wa_2 (hXo.2.2.2 _ _ _ hXX).1.1 rfl rfl nd_X11_copyFarms ⟨Nat.le_of_ble_eq_true rfl, Nat.le_of_ble_eq_true rfl⟩ rfl rfl (Nat.le_of_ble_eq_true rfl) dX7_copy_24 ⟨Nat.le_of_ble_eq_true rfl, Nat.le_of_ble_eq_true rfl⟩ (fun H locs hP hD hS => ?_)
  refine lv_aload_n hx hb dX7_copy_27 rfl (lv_at hl 1 rfl) ?_
  refine bk_get (wf := cw) (q0 := 22) (ci := 7) (k := 3) (v := .ref (g.2.2 24)) C hP wl_X7 rfl rfl (by decide) wa_110 rfl rfl dX7_copy_28 ?_
  refine lv_aload_n hx hb dX7_copy_31 rfl (lv_at hl 0 rfl) ?_
  refine bk_get (wf := cw) (q0 := 56) (ci := 7) (k := 3) (v := .ref (g.2.2 58)) C hP wl_X7 rfl rfl (by decide) wa_110 rfl rfl dX7_copy_32 ?_
  obtain ⟨q4, hq4, hf⟩ := bi_s hf
  refine bk_NV (wf := cw) (rest := []) [.ref (g.2.2 24), .ref (g.2.2 58)] C hP hD hS hl.1 (c_X11_copyFarms_24_58 hXo hq4) wa_445 wa_444 wa_2 (hXo.2.2.2 _ _ _ hXX).1.1 rfl rfl nd_X11_copyFarms ⟨Nat.le_of_ble_eq_true rfl, Nat.le_of_ble_eq_true rfl⟩ rfl rfl (Nat.le_of_ble_eq_true rfl) dX7_copy_35 ⟨Nat.le_of_ble_eq_true rfl, Nat.le_of_ble_eq_true rfl⟩ (fun H locs hP hD hS => ?_)
  refine lv_aload_n hx hb dX7_copy_38 rfl (lv_at hl 1 rfl) ?_
  refine bk_get (wf := cw) (q0 := 22) (ci := 7) (k := 4) (v := .ref (g.2.2 25)) C hP wl_X7 rfl rfl (by decide) wa_111 rfl rfl dX7_copy_39 ?_
  refine lv_aload_n hx hb dX7_copy_42 rfl (lv_at hl 0 rfl) ?_
  refine bk_get (wf := cw) (q0 := 56) (ci := 7) (k := 4) (v := .ref (g.2.2 59)) C hP wl_X7 rfl rfl (by decide) wa_111 rfl rfl dX7_copy_43 ?_
  obtain ⟨q5, hq5, hf⟩ := bi_s hf
  refine bk_NV (wf := cw) (rest := []) [.ref (g.2.2 25), .ref (g.2.2 59)] C hP hD hS hl.1 (c_X11_copyFarms_25_59 hXo hq5) wa_445 wa_444 wa_2 (hXo.2.2.2 _ _ _ hXX).1.1 rfl rfl nd_X11_copyFarms ⟨Nat.le_of_ble_eq_true rfl, Nat.le_of_ble_eq_true rfl⟩ rfl rfl (Nat.le_of_ble_eq_true rfl) dX7_copy_46 ⟨Nat.le_of_ble_eq_true rfl, Nat.le_of_ble_eq_true rfl⟩ (fun H locs hP hD hS => ?_)
  refine lv_aload_n hx hb dX7_copy_49 rfl (lv_at hl 1 rfl) ?_
  refine bk_get (wf := cw) (q0 := 22) (ci := 7) (k := 5) (v := .ref (g.2.2 26)) C hP wl_X7 rfl rfl (by decide) wa_112 rfl rfl dX7_copy_50 ?_
  refine lv_aload_n hx hb dX7_copy_53 rfl (lv_at hl 0 rfl) ?_
  refine bk_get (wf := cw) (q0 := 56) (ci := 7) (k := 5) (v := .ref (g.2.2 60)) C hP wl_X7 rfl rfl (by decide) wa_112 rfl rfl dX7_copy_54 ?_
  obtain ⟨q6, hq6, hf⟩ := bi_s hf
  refine bk_NV (wf := cw) (rest := []) [.ref (g.2.2 26), .ref (g.2.2 60)] C hP hD hS hl.1 (c_X11_copyFarms_26_60 hXo hq6) wa_445 wa_444 wa_2 (hXo.2.2.2 _ _ _ hXX).1.1 rfl rfl nd_X11_copyFarms ⟨Nat.le_of_ble_eq_true rfl, Nat.le_of_ble_eq_true rfl⟩ rfl rfl (Nat.le_of_ble_eq_true rfl) dX7_copy_57 ⟨Nat.le_of_ble_eq_true rfl, Nat.le_of_ble_eq_true rfl⟩ (fun H locs hP hD hS => ?_)
  cases hf
  exact bk_vret C hP hD hS rfl dX7_copy_60
theorem c_X7_copy_56_22 {N : Nat} {σ : Sg} {z : Sg} (hX : xOK g X) (hf : f_X7_copy_56_22 N σ = some z) : MetV l yX7_copy (Cond.code yX7_copy cX7_copy 2 none :: wsA) rm_X7_copy_56_22 cw g X [.ref (g.2.2 56), .ref (g.2.2 22)] σ z :=
  MetV_of hX (by decide) (Nat.le_of_ble_eq_true rfl) (fun p e s m args below meth c A C => b_X7_copy_56_22 C hf)
-- X2_start_55_22: start(LNodPost$State;)V
abbrev rm_X2_start_55_22 : Room := { frames := 3, cells := 0, slots := 0, locals := 122 }
theorem nd_X2_start : yX2_start.cls ≠ "java/lang/invoke/MethodHandle" ∧ yX2_start.cls ≠ "java/lang/invoke/VarHandle" ∧ (parseMethodDescriptor yX2_start.desc).map (fun d => d.parameters.length) = some 1 := by decide +kernel
def s_X2_start_55_22_h10 (N : Nat) (x2 : Int32) (σ : Sg) : Option (Nat × Int32 × Sg) :=
if (9 : Int32) ≤ x2 then (some (1, 0, σ))
else (if (x2 < 0 ∨ 9 ≤ x2.toNatClampNeg) then none else
bd (wr σ 61 (x2.toNatClampNeg) (0 : Int32)) fun σ2 =>
bd (x2 + (1 : Int32)) fun v3 =>
some (0, v3, σ2))
set_option maxHeartbeats 4000000 in
set_option maxRecDepth 100000 in
theorem e_X2_start_55_22_h10 {N : Nat} {x2 : Int32} {σ : Sg} {z : Nat × Int32 × Sg} (C : Cx p s m args meth c cX2_start 3 none RX2 g A X) (hf : s_X2_start_55_22_h10 N x2 σ = some z) (k0 : z.1 = 0 → Bk cw p l e rm_X2_start_55_22 s m args below meth c 3 g A Q 0 0 10 [(0, .ref (g.2.2 55)), (2, .int z.2.1)] [] z.2.2) (k : ¬ z.1 = 0 → Bk cw p l e rm_X2_start_55_22 s m args below meth c 3 g A Q 0 0 29 [] [] z.2.2) : Bk cw p l e rm_X2_start_55_22 s m args below meth c 3 g A Q 0 0 10 [(0, .ref (g.2.2 55)), (2, .int x2)] [] σ := by
  obtain ⟨hx, hb, hr, hml, hown, hts, hK, hlocks, hXX, hA, hXo⟩ := id C
  intro H locs ls hP hD hS hl
  unfold s_X2_start_55_22_h10 at hf
  refine lv_iload_n hx hb dX2_start_10 rfl (lv_at hl 1 rfl) ?_
  refine lv_bipush (v := (9 : Int32)) hx hb dX2_start_11 (by decide) ?_
  refine lv_icmp_ge (tgt := 29) hx hb dX2_start_13 (by decide) (fun t13 => ?_) (fun t13 => ?_)
  · have hf := (if_pos t13).symm.trans hf
    cases hf
    exact (k (show ¬ (1 : Nat) = 0 by decide)) H locs ls hP hD hS (lv_sub hl [] rfl)
  · have hf := (if_neg t13).symm.trans hf
    refine lv_aload_n hx hb dX2_start_16 rfl (lv_at hl 0 rfl) ?_
    refine bk_get (wf := cw) (q0 := 55) (ci := 2) (k := 1) (v := .ref (g.2.2 61)) C hP wl_X2 rfl rfl (by decide) wa_145 rfl rfl dX2_start_17 ?_
    refine lv_iload_n hx hb dX2_start_20 rfl (lv_at hl 1 rfl) ?_
    refine lv_iconst (v := (0 : Int32)) hx hb dX2_start_21 (by decide) ?_
    obtain ⟨g1, hf⟩ := gd_s hf
    obtain ⟨σ2, eσ2, hf⟩ := bd_s hf
    refine bk_iast (wf := cw) (σ1 := σ2) (q0 := 61) (n := 9) (j := x2.toNatClampNeg) C hP hD hS rfl g1 rfl (by rw [eσ2]; exact cw_a61 g _ _ _) dX2_start_22 (fun H locs hP hD hS => ?_)
    obtain ⟨v3, ev3, hf⟩ := bd_s hf
    refine lv_iinc (v := v3) (lv' := [(2, .int v3), (0, .ref (g.2.2 55))]) hx hb dX2_start_23 hl (k := 1) rfl (by rw [ev3]; rfl) (by decide) rfl (fun ls hl => ?_)
    refine lv_goto (tgt := 10) hx hb dX2_start_26 (by decide) ?_
    cases hf
    exact k0 rfl H locs ls hP hD hS (lv_sub hl [1, 0] rfl)
theorem lp_X2_start_55_22_h10 {N n : Nat} {x2 : Int32} {σ : Sg} {z : Nat × Int32 × Sg} (C : Cx p s m args meth c cX2_start 3 none RX2 g A X) (hz : it (fun q => s_X2_start_55_22_h10 N q.1 q.2) n (x2, σ) = some z) (k : Bk cw p l e rm_X2_start_55_22 s m args below meth c 3 g A Q 0 0 29 [] [] z.2.2) : Bk cw p l e rm_X2_start_55_22 s m args below meth c 3 g A Q 0 0 10 [(0, .ref (g.2.2 55)), (2, .int x2)] [] σ :=
  it_W (S := Int32 × Sg) (fun q => Bk cw p l e rm_X2_start_55_22 s m args below meth c 3 g A Q 0 0 10 [(0, .ref (g.2.2 55)), (2, .int q.1)] [] q.2) (fun z => Bk cw p l e rm_X2_start_55_22 s m args below meth c 3 g A Q 0 0 29 [] [] z.2.2) (fun q z hq k0 k => e_X2_start_55_22_h10 C hq k0 k) n (x2, σ) z hz k
def f_X2_start_55_22 (N : Nat) (σ : Sg) : Option (Sg) :=
(f_X7_copy_56_22 N σ).bind fun q4 =>
(it (fun q => s_X2_start_55_22_h10 N q.1 q.2) N ((0 : Int32), q4)).bind fun z5 =>
some (z5.2.2)
set_option maxHeartbeats 4000000 in
set_option maxRecDepth 100000 in
theorem b_X2_start_55_22 {N : Nat} {σ : Sg} {z : Sg} (C : Cx p s m args meth c cX2_start 3 none RX2 g A X) (hf : f_X2_start_55_22 N σ = some z) : Bk cw p l e rm_X2_start_55_22 s m args below meth c 3 g A (MQ below (qV cw g A z) args s 0 0 A) 0 0 0 [(0, .ref (g.2.2 55)), (1, .ref (g.2.2 22))] [] σ := by
  obtain ⟨hx, hb, hr, hml, hown, hts, hK, hlocks, hXX, hA, hXo⟩ := id C
  intro H locs ls hP hD hS hl
  unfold f_X2_start_55_22 at hf
  refine lv_aload_n hx hb dX2_start_0 rfl (lv_at hl 0 rfl) ?_
  refine bk_get (wf := cw) (q0 := 55) (ci := 2) (k := 0) (v := .ref (g.2.2 56)) C hP wl_X2 rfl rfl (by decide) wa_144 rfl rfl dX2_start_1 ?_
  refine lv_aload_n hx hb dX2_start_4 rfl (lv_at hl 1 rfl) ?_
  obtain ⟨q4, hq4, hf⟩ := bi_s hf
  refine bk_VV (wf := cw) (q0 := 56) (ci := 7) (rest := []) [.ref (g.2.2 22)] C hP hD hS hl.1 (c_X7_copy_56_22 hXo hq4) (cwA_V 1 hts wa_829 wa_826 wa_827 wa_828 wa_93 rfl rfl nd_X7_copy ⟨Nat.le_of_ble_eq_true rfl, Nat.le_of_ble_eq_true rfl⟩) rfl rfl rfl rfl (Nat.le_of_ble_eq_true rfl) dX2_start_5 ⟨Nat.le_of_ble_eq_true rfl, Nat.le_of_ble_eq_true rfl⟩ (fun H locs hP hD hS => ?_)
  refine lv_iconst (v := (0 : Int32)) hx hb dX2_start_8 (by decide) ?_
  refine lv_istore_n (lv' := [(2, .int (0 : Int32)), (0, .ref (g.2.2 55)), (1, .ref (g.2.2 22))]) hx hb dX2_start_9 rfl hl (by decide) rfl (fun ls hl => ?_)
  obtain ⟨z5, hz5, hf⟩ := bi_s hf
  refine lp_X2_start_55_22_h10 C hz5 ?_ H locs ls hP hD hS (lv_sub hl [1, 0] rfl)
  intro H locs ls hP hD hS hl
  cases hf
  exact bk_vret C hP hD hS rfl dX2_start_29
theorem c_X2_start_55_22 {N : Nat} {σ : Sg} {z : Sg} (hX : xOK g X) (hf : f_X2_start_55_22 N σ = some z) : MetV l yX2_start (Cond.code yX2_start cX2_start 3 none :: wsA) rm_X2_start_55_22 cw g X [.ref (g.2.2 55), .ref (g.2.2 22)] σ z :=
  MetV_of hX (by decide) (Nat.le_of_ble_eq_true rfl) (fun p e s m args below meth c A C => b_X2_start_55_22 C hf)
-- X11_copyFarms_57_23: copyFarms([I[I)V
abbrev rm_X11_copyFarms_57_23 : Room := { frames := 1, cells := 0, slots := 0, locals := 80 }
def f_X11_copyFarms_57_23 (N : Nat) (σ : Sg) : Option (Sg) :=
bd (wrR σ 23 (va_cpy (σ 57) (σ 23) 0 0 9)) fun σ1 =>
some σ1
set_option maxHeartbeats 4000000 in
set_option maxRecDepth 100000 in
theorem b_X11_copyFarms_57_23 {N : Nat} {σ : Sg} {z : Sg} (C : Cx p s m args meth c cX11_copyFarms 2 none RX11 g A X) (hf : f_X11_copyFarms_57_23 N σ = some z) : Bk cw p l e rm_X11_copyFarms_57_23 s m args below meth c 2 g A (MQ below (qV cw g A z) args s 0 0 A) 0 0 0 [(0, .ref (g.2.2 57)), (1, .ref (g.2.2 23))] [] σ := by
  obtain ⟨hx, hb, hr, hml, hown, hts, hK, hlocks, hXX, hA, hXo⟩ := id C
  intro H locs ls hP hD hS hl
  unfold f_X11_copyFarms_57_23 at hf
  refine lv_aload_n hx hb dX11_copyFarms_0 rfl (lv_at hl 0 rfl) ?_
  refine lv_iconst (v := (0 : Int32)) hx hb dX11_copyFarms_1 (by decide) ?_
  refine lv_aload_n hx hb dX11_copyFarms_2 rfl (lv_at hl 1 rfl) ?_
  refine lv_iconst (v := (0 : Int32)) hx hb dX11_copyFarms_3 (by decide) ?_
  refine lv_bipush (v := (9 : Int32)) hx hb dX11_copyFarms_4 (by decide) ?_
  obtain ⟨σ1, eσ1, hf⟩ := bd_s hf
  refine bk_copy (wf := cw) (σ1 := σ1) (q0 := 57) (q1 := 23) (n0 := 9) (n1 := 9) (js := 0) (jd := 0) (jn := 9) C hP hD hS hl.1 wa_446 wa_441 wa_442 wa_443 rfl rfl (by decide) (by decide) (by decide) (by decide) (by decide) (by decide) (Nat.le_of_ble_eq_true rfl) (Nat.le_of_ble_eq_true rfl) (Nat.le_of_ble_eq_true rfl) (Nat.le_of_ble_eq_true rfl) (by rw [eσ1]; exact cw_r23 g _ _) dX11_copyFarms_6 (fun H locs hP hD hS => ?_)
  cases hf
  exact bk_vret C hP hD hS rfl dX11_copyFarms_9
theorem c_X11_copyFarms_57_23 {N : Nat} {σ : Sg} {z : Sg} (hX : xOK g X) (hf : f_X11_copyFarms_57_23 N σ = some z) : MetV l yX11_copyFarms (Cond.code yX11_copyFarms cX11_copyFarms 2 none :: wsA) rm_X11_copyFarms_57_23 cw g X [.ref (g.2.2 57), .ref (g.2.2 23)] σ z :=
  MetV_of hX (by decide) (Nat.le_of_ble_eq_true rfl) (fun p e s m args below meth c A C => b_X11_copyFarms_57_23 C hf)
-- X11_copyFarms_58_24: copyFarms([I[I)V
abbrev rm_X11_copyFarms_58_24 : Room := { frames := 1, cells := 0, slots := 0, locals := 80 }
def f_X11_copyFarms_58_24 (N : Nat) (σ : Sg) : Option (Sg) :=
bd (wrR σ 24 (va_cpy (σ 58) (σ 24) 0 0 9)) fun σ1 =>
some σ1
set_option maxHeartbeats 4000000 in
set_option maxRecDepth 100000 in
theorem b_X11_copyFarms_58_24 {N : Nat} {σ : Sg} {z : Sg} (C : Cx p s m args meth c cX11_copyFarms 2 none RX11 g A X) (hf : f_X11_copyFarms_58_24 N σ = some z) : Bk cw p l e rm_X11_copyFarms_58_24 s m args below meth c 2 g A (MQ below (qV cw g A z) args s 0 0 A) 0 0 0 [(0, .ref (g.2.2 58)), (1, .ref (g.2.2 24))] [] σ := by
  obtain ⟨hx, hb, hr, hml, hown, hts, hK, hlocks, hXX, hA, hXo⟩ := id C
  intro H locs ls hP hD hS hl
  unfold f_X11_copyFarms_58_24 at hf
  refine lv_aload_n hx hb dX11_copyFarms_0 rfl (lv_at hl 0 rfl) ?_
  refine lv_iconst (v := (0 : Int32)) hx hb dX11_copyFarms_1 (by decide) ?_
  refine lv_aload_n hx hb dX11_copyFarms_2 rfl (lv_at hl 1 rfl) ?_
  refine lv_iconst (v := (0 : Int32)) hx hb dX11_copyFarms_3 (by decide) ?_
  refine lv_bipush (v := (9 : Int32)) hx hb dX11_copyFarms_4 (by decide) ?_
  obtain ⟨σ1, eσ1, hf⟩ := bd_s hf
  refine bk_copy (wf := cw) (σ1 := σ1) (q0 := 58) (q1 := 24) (n0 := 9) (n1 := 9) (js := 0) (jd := 0) (jn := 9) C hP hD hS hl.1 wa_446 wa_441 wa_442 wa_443 rfl rfl (by decide) (by decide) (by decide) (by decide) (by decide) (by decide) (Nat.le_of_ble_eq_true rfl) (Nat.le_of_ble_eq_true rfl) (Nat.le_of_ble_eq_true rfl) (Nat.le_of_ble_eq_true rfl) (by rw [eσ1]; exact cw_r24 g _ _) dX11_copyFarms_6 (fun H locs hP hD hS => ?_)
  cases hf
  exact bk_vret C hP hD hS rfl dX11_copyFarms_9
theorem c_X11_copyFarms_58_24 {N : Nat} {σ : Sg} {z : Sg} (hX : xOK g X) (hf : f_X11_copyFarms_58_24 N σ = some z) : MetV l yX11_copyFarms (Cond.code yX11_copyFarms cX11_copyFarms 2 none :: wsA) rm_X11_copyFarms_58_24 cw g X [.ref (g.2.2 58), .ref (g.2.2 24)] σ z :=
  MetV_of hX (by decide) (Nat.le_of_ble_eq_true rfl) (fun p e s m args below meth c A C => b_X11_copyFarms_58_24 C hf)
-- X11_copyFarms_59_25: copyFarms([I[I)V
abbrev rm_X11_copyFarms_59_25 : Room := { frames := 1, cells := 0, slots := 0, locals := 80 }
def f_X11_copyFarms_59_25 (N : Nat) (σ : Sg) : Option (Sg) :=
bd (wrR σ 25 (va_cpy (σ 59) (σ 25) 0 0 9)) fun σ1 =>
some σ1
set_option maxHeartbeats 4000000 in
set_option maxRecDepth 100000 in
theorem b_X11_copyFarms_59_25 {N : Nat} {σ : Sg} {z : Sg} (C : Cx p s m args meth c cX11_copyFarms 2 none RX11 g A X) (hf : f_X11_copyFarms_59_25 N σ = some z) : Bk cw p l e rm_X11_copyFarms_59_25 s m args below meth c 2 g A (MQ below (qV cw g A z) args s 0 0 A) 0 0 0 [(0, .ref (g.2.2 59)), (1, .ref (g.2.2 25))] [] σ := by
  obtain ⟨hx, hb, hr, hml, hown, hts, hK, hlocks, hXX, hA, hXo⟩ := id C
  intro H locs ls hP hD hS hl
  unfold f_X11_copyFarms_59_25 at hf
  refine lv_aload_n hx hb dX11_copyFarms_0 rfl (lv_at hl 0 rfl) ?_
  refine lv_iconst (v := (0 : Int32)) hx hb dX11_copyFarms_1 (by decide) ?_
  refine lv_aload_n hx hb dX11_copyFarms_2 rfl (lv_at hl 1 rfl) ?_
  refine lv_iconst (v := (0 : Int32)) hx hb dX11_copyFarms_3 (by decide) ?_
  refine lv_bipush (v := (9 : Int32)) hx hb dX11_copyFarms_4 (by decide) ?_
  obtain ⟨σ1, eσ1, hf⟩ := bd_s hf
  refine bk_copy (wf := cw) (σ1 := σ1) (q0 := 59) (q1 := 25) (n0 := 9) (n1 := 9) (js := 0) (jd := 0) (jn := 9) C hP hD hS hl.1 wa_446 wa_441 wa_442 wa_443 rfl rfl (by decide) (by decide) (by decide) (by decide) (by decide) (by decide) (Nat.le_of_ble_eq_true rfl) (Nat.le_of_ble_eq_true rfl) (Nat.le_of_ble_eq_true rfl) (Nat.le_of_ble_eq_true rfl) (by rw [eσ1]; exact cw_r25 g _ _) dX11_copyFarms_6 (fun H locs hP hD hS => ?_)
  cases hf
  exact bk_vret C hP hD hS rfl dX11_copyFarms_9
theorem c_X11_copyFarms_59_25 {N : Nat} {σ : Sg} {z : Sg} (hX : xOK g X) (hf : f_X11_copyFarms_59_25 N σ = some z) : MetV l yX11_copyFarms (Cond.code yX11_copyFarms cX11_copyFarms 2 none :: wsA) rm_X11_copyFarms_59_25 cw g X [.ref (g.2.2 59), .ref (g.2.2 25)] σ z :=
  MetV_of hX (by decide) (Nat.le_of_ble_eq_true rfl) (fun p e s m args below meth c A C => b_X11_copyFarms_59_25 C hf)
-- X11_copyFarms_60_26: copyFarms([I[I)V
abbrev rm_X11_copyFarms_60_26 : Room := { frames := 1, cells := 0, slots := 0, locals := 80 }
def f_X11_copyFarms_60_26 (N : Nat) (σ : Sg) : Option (Sg) :=
bd (wrR σ 26 (va_cpy (σ 60) (σ 26) 0 0 9)) fun σ1 =>
some σ1
set_option maxHeartbeats 4000000 in
set_option maxRecDepth 100000 in
theorem b_X11_copyFarms_60_26 {N : Nat} {σ : Sg} {z : Sg} (C : Cx p s m args meth c cX11_copyFarms 2 none RX11 g A X) (hf : f_X11_copyFarms_60_26 N σ = some z) : Bk cw p l e rm_X11_copyFarms_60_26 s m args below meth c 2 g A (MQ below (qV cw g A z) args s 0 0 A) 0 0 0 [(0, .ref (g.2.2 60)), (1, .ref (g.2.2 26))] [] σ := by
  obtain ⟨hx, hb, hr, hml, hown, hts, hK, hlocks, hXX, hA, hXo⟩ := id C
  intro H locs ls hP hD hS hl
  unfold f_X11_copyFarms_60_26 at hf
  refine lv_aload_n hx hb dX11_copyFarms_0 rfl (lv_at hl 0 rfl) ?_
  refine lv_iconst (v := (0 : Int32)) hx hb dX11_copyFarms_1 (by decide) ?_
  refine lv_aload_n hx hb dX11_copyFarms_2 rfl (lv_at hl 1 rfl) ?_
  refine lv_iconst (v := (0 : Int32)) hx hb dX11_copyFarms_3 (by decide) ?_
  refine lv_bipush (v := (9 : Int32)) hx hb dX11_copyFarms_4 (by decide) ?_
  obtain ⟨σ1, eσ1, hf⟩ := bd_s hf
  refine bk_copy (wf := cw) (σ1 := σ1) (q0 := 60) (q1 := 26) (n0 := 9) (n1 := 9) (js := 0) (jd := 0) (jn := 9) C hP hD hS hl.1 wa_446 wa_441 wa_442 wa_443 rfl rfl (by decide) (by decide) (by decide) (by decide) (by decide) (by decide) (Nat.le_of_ble_eq_true rfl) (Nat.le_of_ble_eq_true rfl) (Nat.le_of_ble_eq_true rfl) (Nat.le_of_ble_eq_true rfl) (by rw [eσ1]; exact cw_r26 g _ _) dX11_copyFarms_6 (fun H locs hP hD hS => ?_)
  cases hf
  exact bk_vret C hP hD hS rfl dX11_copyFarms_9
theorem c_X11_copyFarms_60_26 {N : Nat} {σ : Sg} {z : Sg} (hX : xOK g X) (hf : f_X11_copyFarms_60_26 N σ = some z) : MetV l yX11_copyFarms (Cond.code yX11_copyFarms cX11_copyFarms 2 none :: wsA) rm_X11_copyFarms_60_26 cw g X [.ref (g.2.2 60), .ref (g.2.2 26)] σ z :=
  MetV_of hX (by decide) (Nat.le_of_ble_eq_true rfl) (fun p e s m args below meth c A C => b_X11_copyFarms_60_26 C hf)
-- X7_copy_22_56: copy(LNodPost$State;)V
abbrev rm_X7_copy_22_56 : Room := { frames := 2, cells := 0, slots := 0, locals := 101 }
def f_X7_copy_22_56 (N : Nat) (σ : Sg) : Option (Sg) :=
bd (wr σ 22 0 (σ 56 0)) fun σ1 =>
bd (wr σ1 22 1 (σ1 56 1)) fun σ2 =>
(f_X11_copyFarms_57_23 N σ2).bind fun q3 =>
(f_X11_copyFarms_58_24 N q3).bind fun q4 =>
(f_X11_copyFarms_59_25 N q4).bind fun q5 =>
(f_X11_copyFarms_60_26 N q5).bind fun q6 =>
some q6
set_option maxHeartbeats 4000000 in
set_option maxRecDepth 100000 in
theorem b_X7_copy_22_56 {N : Nat} {σ : Sg} {z : Sg} (C : Cx p s m args meth c cX7_copy 2 none RX7 g A X) (hf : f_X7_copy_22_56 N σ = some z) : Bk cw p l e rm_X7_copy_22_56 s m args below meth c 2 g A (MQ below (qV cw g A z) args s 0 0 A) 0 0 0 [(0, .ref (g.2.2 22)), (1, .ref (g.2.2 56))] [] σ := by
  obtain ⟨hx, hb, hr, hml, hown, hts, hK, hlocks, hXX, hA, hXo⟩ := id C
  intro H locs ls hP hD hS hl
  unfold f_X7_copy_22_56 at hf
  refine lv_aload_n hx hb dX7_copy_0 rfl (lv_at hl 0 rfl) ?_
  refine lv_aload_n hx hb dX7_copy_1 rfl (lv_at hl 1 rfl) ?_
  refine bk_get (wf := cw) (q0 := 56) (ci := 7) (k := 0) (v := .int (σ 56 0)) C hP wl_X7 rfl rfl (by decide) wa_107 rfl rfl dX7_copy_2 ?_
  obtain ⟨σ1, eσ1, hf⟩ := bd_s hf
  refine bk_put (wf := cw) (σ1 := σ1) (q0 := 22) (ci := 7) (k := 0) (v := .int (σ 56 0)) C hP hD hS wl_X7 tyX7_ok nmX7 rfl rfl (by decide) wa_107 rfl rfl rfl rfl rfl (Nat.le_of_ble_eq_true rfl) (by rw [eσ1]; exact cw_p22_0 g _ _) dX7_copy_5 (fun H locs hP hD hS => ?_)
  refine lv_aload_n hx hb dX7_copy_8 rfl (lv_at hl 0 rfl) ?_
  refine lv_aload_n hx hb dX7_copy_9 rfl (lv_at hl 1 rfl) ?_
  refine bk_get (wf := cw) (q0 := 56) (ci := 7) (k := 1) (v := .int (σ1 56 1)) C hP wl_X7 rfl rfl (by decide) wa_108 rfl rfl dX7_copy_10 ?_
  obtain ⟨σ2, eσ2, hf⟩ := bd_s hf
  refine bk_put (wf := cw) (σ1 := σ2) (q0 := 22) (ci := 7) (k := 1) (v := .int (σ1 56 1)) C hP hD hS wl_X7 tyX7_ok nmX7 rfl rfl (by decide) wa_108 rfl rfl rfl rfl rfl (Nat.le_of_ble_eq_true rfl) (by rw [eσ2]; exact cw_p22_1 g _ _) dX7_copy_13 (fun H locs hP hD hS => ?_)
  refine lv_aload_n hx hb dX7_copy_16 rfl (lv_at hl 1 rfl) ?_
  refine bk_get (wf := cw) (q0 := 56) (ci := 7) (k := 2) (v := .ref (g.2.2 57)) C hP wl_X7 rfl rfl (by decide) wa_109 rfl rfl dX7_copy_17 ?_
  refine lv_aload_n hx hb dX7_copy_20 rfl (lv_at hl 0 rfl) ?_
  refine bk_get (wf := cw) (q0 := 22) (ci := 7) (k := 2) (v := .ref (g.2.2 23)) C hP wl_X7 rfl rfl (by decide) wa_109 rfl rfl dX7_copy_21 ?_
  obtain ⟨q3, hq3, hf⟩ := bi_s hf
  refine bk_NV (wf := cw) (rest := []) [.ref (g.2.2 57), .ref (g.2.2 23)] C hP hD hS hl.1 (c_X11_copyFarms_57_23 hXo hq3) wa_445 wa_444 wa_2 (hXo.2.2.2 _ _ _ hXX).1.1 rfl rfl nd_X11_copyFarms ⟨Nat.le_of_ble_eq_true rfl, Nat.le_of_ble_eq_true rfl⟩ rfl rfl (Nat.le_of_ble_eq_true rfl) dX7_copy_24 ⟨Nat.le_of_ble_eq_true rfl, Nat.le_of_ble_eq_true rfl⟩ (fun H locs hP hD hS => ?_)
  refine lv_aload_n hx hb dX7_copy_27 rfl (lv_at hl 1 rfl) ?_
  refine bk_get (wf := cw) (q0 := 56) (ci := 7) (k := 3) (v := .ref (g.2.2 58)) C hP wl_X7 rfl rfl (by decide) wa_110 rfl rfl dX7_copy_28 ?_
  refine lv_aload_n hx hb dX7_copy_31 rfl (lv_at hl 0 rfl) ?_
  refine bk_get (wf := cw) (q0 := 22) (ci := 7) (k := 3) (v := .ref (g.2.2 24)) C hP wl_X7 rfl rfl (by decide) wa_110 rfl rfl dX7_copy_32 ?_
  obtain ⟨q4, hq4, hf⟩ := bi_s hf
  refine bk_NV (wf := cw) (rest := []) [.ref (g.2.2 58), .ref (g.2.2 24)] C hP hD hS hl.1 (c_X11_copyFarms_58_24 hXo hq4) wa_445 wa_444 wa_2 (hXo.2.2.2 _ _ _ hXX).1.1 rfl rfl nd_X11_copyFarms ⟨Nat.le_of_ble_eq_true rfl, Nat.le_of_ble_eq_true rfl⟩ rfl rfl (Nat.le_of_ble_eq_true rfl) dX7_copy_35 ⟨Nat.le_of_ble_eq_true rfl, Nat.le_of_ble_eq_true rfl⟩ (fun H locs hP hD hS => ?_)
  refine lv_aload_n hx hb dX7_copy_38 rfl (lv_at hl 1 rfl) ?_
  refine bk_get (wf := cw) (q0 := 56) (ci := 7) (k := 4) (v := .ref (g.2.2 59)) C hP wl_X7 rfl rfl (by decide) wa_111 rfl rfl dX7_copy_39 ?_
  refine lv_aload_n hx hb dX7_copy_42 rfl (lv_at hl 0 rfl) ?_
  refine bk_get (wf := cw) (q0 := 22) (ci := 7) (k := 4) (v := .ref (g.2.2 25)) C hP wl_X7 rfl rfl (by decide) wa_111 rfl rfl dX7_copy_43 ?_
  obtain ⟨q5, hq5, hf⟩ := bi_s hf
  refine bk_NV (wf := cw) (rest := []) [.ref (g.2.2 59), .ref (g.2.2 25)] C hP hD hS hl.1 (c_X11_copyFarms_59_25 hXo hq5) wa_445 wa_444 wa_2 (hXo.2.2.2 _ _ _ hXX).1.1 rfl rfl nd_X11_copyFarms ⟨Nat.le_of_ble_eq_true rfl, Nat.le_of_ble_eq_true rfl⟩ rfl rfl (Nat.le_of_ble_eq_true rfl) dX7_copy_46 ⟨Nat.le_of_ble_eq_true rfl, Nat.le_of_ble_eq_true rfl⟩ (fun H locs hP hD hS => ?_)
  refine lv_aload_n hx hb dX7_copy_49 rfl (lv_at hl 1 rfl) ?_
  refine bk_get (wf := cw) (q0 := 56) (ci := 7) (k := 5) (v := .ref (g.2.2 60)) C hP wl_X7 rfl rfl (by decide) wa_112 rfl rfl dX7_copy_50 ?_
  refine lv_aload_n hx hb dX7_copy_53 rfl (lv_at hl 0 rfl) ?_
  refine bk_get (wf := cw) (q0 := 22) (ci := 7) (k := 5) (v := .ref (g.2.2 26)) C hP wl_X7 rfl rfl (by decide) wa_112 rfl rfl dX7_copy_54 ?_
  obtain ⟨q6, hq6, hf⟩ := bi_s hf
  refine bk_NV (wf := cw) (rest := []) [.ref (g.2.2 60), .ref (g.2.2 26)] C hP hD hS hl.1 (c_X11_copyFarms_60_26 hXo hq6) wa_445 wa_444 wa_2 (hXo.2.2.2 _ _ _ hXX).1.1 rfl rfl nd_X11_copyFarms ⟨Nat.le_of_ble_eq_true rfl, Nat.le_of_ble_eq_true rfl⟩ rfl rfl (Nat.le_of_ble_eq_true rfl) dX7_copy_57 ⟨Nat.le_of_ble_eq_true rfl, Nat.le_of_ble_eq_true rfl⟩ (fun H locs hP hD hS => ?_)
  cases hf
  exact bk_vret C hP hD hS rfl dX7_copy_60
theorem c_X7_copy_22_56 {N : Nat} {σ : Sg} {z : Sg} (hX : xOK g X) (hf : f_X7_copy_22_56 N σ = some z) : MetV l yX7_copy (Cond.code yX7_copy cX7_copy 2 none :: wsA) rm_X7_copy_22_56 cw g X [.ref (g.2.2 22), .ref (g.2.2 56)] σ z :=
  MetV_of hX (by decide) (Nat.le_of_ble_eq_true rfl) (fun p e s m args below meth c A C => b_X7_copy_22_56 C hf)
-- X11_ticks_0: ticks(I)I
abbrev rm_X11_ticks_0 : Room := { frames := 6, cells := 0, slots := 0, locals := 144 }
theorem nd_X11_ticks : yX11_ticks.cls ≠ "java/lang/invoke/MethodHandle" ∧ yX11_ticks.cls ≠ "java/lang/invoke/VarHandle" ∧ (parseMethodDescriptor yX11_ticks.desc).map (fun d => d.parameters.length) = some 1 := by decide +kernel
def s_X11_ticks_0_h67 (N : Nat) (x1 : Int32) (x2 : Int32) (σ : Sg) : Option (Nat × Int32 × Sg) :=
if x1 ≤ x2 then (some (1, 0, σ))
else ((f_X2_go_55 N σ).bind fun q1 =>
bd (x2 + (1 : Int32)) fun v2 =>
some (0, v2, (q1.2)))
set_option maxHeartbeats 4000000 in
set_option maxRecDepth 100000 in
theorem e_X11_ticks_0_h67 {N : Nat} {x1 : Int32} {x2 : Int32} {σ : Sg} {z : Nat × Int32 × Sg} (C : Cx p s m args meth c cX11_ticks 3 (some .int) RX11 g A X) (hf : s_X11_ticks_0_h67 N x1 x2 σ = some z) (k0 : z.1 = 0 → Bk cw p l e rm_X11_ticks_0 s m args below meth c 3 g A Q 0 0 67 [(0, .ref (g.2.2 0)), (1, .int x1), (2, .int z.2.1)] [] z.2.2) (k : ¬ z.1 = 0 → Bk cw p l e rm_X11_ticks_0 s m args below meth c 3 g A Q 0 0 86 [(0, .ref (g.2.2 0))] [] z.2.2) : Bk cw p l e rm_X11_ticks_0 s m args below meth c 3 g A Q 0 0 67 [(0, .ref (g.2.2 0)), (1, .int x1), (2, .int x2)] [] σ := by
  obtain ⟨hx, hb, hr, hml, hown, hts, hK, hlocks, hXX, hA, hXo⟩ := id C
  intro H locs ls hP hD hS hl
  unfold s_X11_ticks_0_h67 at hf
  refine lv_iload_n hx hb dX11_ticks_67 rfl (lv_at hl 2 rfl) ?_
  refine lv_iload_n hx hb dX11_ticks_68 rfl (lv_at hl 1 rfl) ?_
  refine lv_icmp_ge (tgt := 86) hx hb dX11_ticks_69 (by decide) (fun t69 => ?_) (fun t69 => ?_)
  · have hf := (if_pos t69).symm.trans hf
    cases hf
    exact (k (show ¬ (1 : Nat) = 0 by decide)) H locs ls hP hD hS (lv_sub hl [0] rfl)
  · have hf := (if_neg t69).symm.trans hf
    refine lv_aload_n hx hb dX11_ticks_72 rfl (lv_at hl 0 rfl) ?_
    refine bk_get (wf := cw) (q0 := 0) (ci := 10) (k := 10) (v := .ref (g.2.2 55)) C hP wl_X11 rfl rfl (by decide) wa_42 rfl rfl dX11_ticks_73 ?_
    obtain ⟨q1, hq1, hf⟩ := bi_s hf
    refine bk_VI (wf := cw) (q0 := 55) (ci := 2) (rest := []) [] C hP hD hS hl.1 (c_X2_go_55 hXo hq1) (cwA_V 0 hts wa_833 wa_830 wa_831 wa_832 wa_41 rfl rfl nd_X2_go ⟨Nat.le_of_ble_eq_true rfl, Nat.le_of_ble_eq_true rfl⟩) rfl rfl rfl rfl (Nat.le_of_ble_eq_true rfl) dX11_ticks_76 ⟨Nat.le_of_ble_eq_true rfl, Nat.le_of_ble_eq_true rfl⟩ (fun H locs hP hD hS => ?_)
    refine lv_pop hx hb dX11_ticks_79 rfl ?_
    obtain ⟨v2, ev2, hf⟩ := bd_s hf
    refine lv_iinc (v := v2) (lv' := [(2, .int v2), (0, .ref (g.2.2 0)), (1, .int x1)]) hx hb dX11_ticks_80 hl (k := 2) rfl (by rw [ev2]; rfl) (by decide) rfl (fun ls hl => ?_)
    refine lv_goto (tgt := 67) hx hb dX11_ticks_83 (by decide) ?_
    cases hf
    exact k0 rfl H locs ls hP hD hS (lv_sub hl [1, 2, 0] rfl)
theorem lp_X11_ticks_0_h67 {N n : Nat} {x1 : Int32} {x2 : Int32} {σ : Sg} {z : Nat × Int32 × Sg} (C : Cx p s m args meth c cX11_ticks 3 (some .int) RX11 g A X) (hz : it (fun q => s_X11_ticks_0_h67 N x1 q.1 q.2) n (x2, σ) = some z) (k : Bk cw p l e rm_X11_ticks_0 s m args below meth c 3 g A Q 0 0 86 [(0, .ref (g.2.2 0))] [] z.2.2) : Bk cw p l e rm_X11_ticks_0 s m args below meth c 3 g A Q 0 0 67 [(0, .ref (g.2.2 0)), (1, .int x1), (2, .int x2)] [] σ :=
  it_W (S := Int32 × Sg) (fun q => Bk cw p l e rm_X11_ticks_0 s m args below meth c 3 g A Q 0 0 67 [(0, .ref (g.2.2 0)), (1, .int x1), (2, .int q.1)] [] q.2) (fun z => Bk cw p l e rm_X11_ticks_0 s m args below meth c 3 g A Q 0 0 86 [(0, .ref (g.2.2 0))] [] z.2.2) (fun q z hq k0 k => e_X11_ticks_0_h67 C hq k0 k) n (x2, σ) z hz k
def f_X11_ticks_0_b29 (N : Nat) (σ : Sg) : Option (Int32 × Sg) :=
(f_X11_refuseAct_0 N σ).bind fun q3 =>
some (q3.1, (q3.2))
set_option maxHeartbeats 4000000 in
set_option maxRecDepth 100000 in
theorem b_X11_ticks_0_b29 {N : Nat} {σ : Sg} {z : Int32 × Sg} (C : Cx p s m args meth c cX11_ticks 3 (some .int) RX11 g A X) (hf : f_X11_ticks_0_b29 N σ = some z) : Bk cw p l e rm_X11_ticks_0 s m args below meth c 3 g A (MQ below (qI cw g A z.1 z.2) args s 0 0 A) 0 0 29 [(0, .ref (g.2.2 0))] [] σ := by
  obtain ⟨hx, hb, hr, hml, hown, hts, hK, hlocks, hXX, hA, hXo⟩ := id C
  intro H locs ls hP hD hS hl
  unfold f_X11_ticks_0_b29 at hf
  refine lv_aload_n hx hb dX11_ticks_29 rfl (lv_at hl 0 rfl) ?_
  obtain ⟨q3, hq3, hf⟩ := bi_s hf
  refine bk_VI (wf := cw) (q0 := 0) (ci := 10) (rest := []) [] C hP hD hS hl.1 (c_X11_refuseAct_0 hXo hq3) (cwA_V 0 hts wa_812 wa_809 wa_810 wa_811 wa_2 rfl rfl nd_X11_refuseAct ⟨Nat.le_of_ble_eq_true rfl, Nat.le_of_ble_eq_true rfl⟩) rfl rfl rfl rfl (Nat.le_of_ble_eq_true rfl) dX11_ticks_30 ⟨Nat.le_of_ble_eq_true rfl, Nat.le_of_ble_eq_true rfl⟩ (fun H locs hP hD hS => ?_)
  cases hf
  exact bk_iret C hP hD hS rfl dX11_ticks_33
def f_X11_ticks_0 (N : Nat) (x1 : Int32) (σ : Sg) : Option (Int32 × Sg) :=
if x1 < (1 : Int32) then (f_X11_ticks_0_b29 N σ)
else (if (20 : Int32) < x1 then (f_X11_ticks_0_b29 N σ)
else (if ((σ 22 0) + x1) ≤ (999 : Int32) then ((f_X0_keep_27_22 N σ).bind fun q4 =>
(f_X2_start_55_22 N q4).bind fun q5 =>
(it (fun q => s_X11_ticks_0_h67 N x1 q.1 q.2) N ((0 : Int32), q5)).bind fun z6 =>
(f_X7_copy_22_56 N (z6.2.2)).bind fun q7 =>
some ((q7 22 0), q7))
else (f_X11_ticks_0_b29 N σ)))
set_option maxHeartbeats 4000000 in
set_option maxRecDepth 100000 in
theorem b_X11_ticks_0 {N : Nat} {x1 : Int32} {σ : Sg} {z : Int32 × Sg} (C : Cx p s m args meth c cX11_ticks 3 (some .int) RX11 g A X) (hf : f_X11_ticks_0 N x1 σ = some z) : Bk cw p l e rm_X11_ticks_0 s m args below meth c 3 g A (MQ below (qI cw g A z.1 z.2) args s 0 0 A) 0 0 0 [(0, .ref (g.2.2 0)), (1, .int x1)] [] σ := by
  obtain ⟨hx, hb, hr, hml, hown, hts, hK, hlocks, hXX, hA, hXo⟩ := id C
  intro H locs ls hP hD hS hl
  unfold f_X11_ticks_0 at hf
  refine lv_iload_n hx hb dX11_ticks_0 rfl (lv_at hl 1 rfl) ?_
  refine lv_iconst (v := (1 : Int32)) hx hb dX11_ticks_1 (by decide) ?_
  refine lv_icmp_lt (tgt := 29) hx hb dX11_ticks_2 (by decide) (fun t2 => ?_) (fun t2 => ?_)
  · have hf := (if_pos t2).symm.trans hf
    exact b_X11_ticks_0_b29 C hf H locs ls hP hD hS (lv_sub hl [0] rfl)
  · have hf := (if_neg t2).symm.trans hf
    refine lv_iload_n hx hb dX11_ticks_5 rfl (lv_at hl 1 rfl) ?_
    refine lv_bipush (v := (20 : Int32)) hx hb dX11_ticks_6 (by decide) ?_
    refine lv_icmp_gt (tgt := 29) hx hb dX11_ticks_8 (by decide) (fun t8 => ?_) (fun t8 => ?_)
    · have hf := (if_pos t8).symm.trans hf
      exact b_X11_ticks_0_b29 C hf H locs ls hP hD hS (lv_sub hl [0] rfl)
    · have hf := (if_neg t8).symm.trans hf
      refine lv_aload_n hx hb dX11_ticks_11 rfl (lv_at hl 0 rfl) ?_
      refine bk_get (wf := cw) (q0 := 0) (ci := 10) (k := 4) (v := .ref (g.2.2 21)) C hP wl_X11 rfl rfl (by decide) wa_27 rfl rfl dX11_ticks_12 ?_
      refine bk_get (wf := cw) (q0 := 21) (ci := 1) (k := 0) (v := .ref (g.2.2 22)) C hP wl_X1 rfl rfl (by decide) wa_221 rfl rfl dX11_ticks_15 ?_
      refine bk_get (wf := cw) (q0 := 22) (ci := 7) (k := 0) (v := .int (σ 22 0)) C hP wl_X7 rfl rfl (by decide) wa_645 rfl rfl dX11_ticks_18 ?_
      refine lv_iload_n hx hb dX11_ticks_21 rfl (lv_at hl 1 rfl) ?_
      refine lv_iadd hx hb dX11_ticks_22 ?_
      refine lv_sipush (v := (999 : Int32)) hx hb dX11_ticks_23 (by decide) ?_
      refine lv_icmp_le (tgt := 34) hx hb dX11_ticks_26 (by decide) (fun t26 => ?_) (fun t26 => ?_)
      · have hf := (if_pos t26).symm.trans hf
        refine lv_aload_n hx hb dX11_ticks_34 rfl (lv_at hl 0 rfl) ?_
        refine bk_get (wf := cw) (q0 := 0) (ci := 10) (k := 4) (v := .ref (g.2.2 21)) C hP wl_X11 rfl rfl (by decide) wa_27 rfl rfl dX11_ticks_35 ?_
        refine bk_get (wf := cw) (q0 := 21) (ci := 1) (k := 1) (v := .ref (g.2.2 27)) C hP wl_X1 rfl rfl (by decide) wa_222 rfl rfl dX11_ticks_38 ?_
        refine lv_aload_n hx hb dX11_ticks_41 rfl (lv_at hl 0 rfl) ?_
        refine bk_get (wf := cw) (q0 := 0) (ci := 10) (k := 4) (v := .ref (g.2.2 21)) C hP wl_X11 rfl rfl (by decide) wa_27 rfl rfl dX11_ticks_42 ?_
        refine bk_get (wf := cw) (q0 := 21) (ci := 1) (k := 0) (v := .ref (g.2.2 22)) C hP wl_X1 rfl rfl (by decide) wa_221 rfl rfl dX11_ticks_45 ?_
        obtain ⟨q4, hq4, hf⟩ := bi_s hf
        refine bk_VV (wf := cw) (q0 := 27) (ci := 0) (rest := []) [.ref (g.2.2 22)] C hP hD hS hl.1 (c_X0_keep_27_22 hXo hq4) (cwA_V 1 hts wa_816 wa_813 wa_814 wa_815 wa_97 rfl rfl nd_X0_keep ⟨Nat.le_of_ble_eq_true rfl, Nat.le_of_ble_eq_true rfl⟩) rfl rfl rfl rfl (Nat.le_of_ble_eq_true rfl) dX11_ticks_48 ⟨Nat.le_of_ble_eq_true rfl, Nat.le_of_ble_eq_true rfl⟩ (fun H locs hP hD hS => ?_)
        refine lv_aload_n hx hb dX11_ticks_51 rfl (lv_at hl 0 rfl) ?_
        refine bk_get (wf := cw) (q0 := 0) (ci := 10) (k := 10) (v := .ref (g.2.2 55)) C hP wl_X11 rfl rfl (by decide) wa_42 rfl rfl dX11_ticks_52 ?_
        refine lv_aload_n hx hb dX11_ticks_55 rfl (lv_at hl 0 rfl) ?_
        refine bk_get (wf := cw) (q0 := 0) (ci := 10) (k := 4) (v := .ref (g.2.2 21)) C hP wl_X11 rfl rfl (by decide) wa_27 rfl rfl dX11_ticks_56 ?_
        refine bk_get (wf := cw) (q0 := 21) (ci := 1) (k := 0) (v := .ref (g.2.2 22)) C hP wl_X1 rfl rfl (by decide) wa_221 rfl rfl dX11_ticks_59 ?_
        obtain ⟨q5, hq5, hf⟩ := bi_s hf
        refine bk_VV (wf := cw) (q0 := 55) (ci := 2) (rest := []) [.ref (g.2.2 22)] C hP hD hS hl.1 (c_X2_start_55_22 hXo hq5) (cwA_V 1 hts wa_825 wa_822 wa_823 wa_824 wa_41 rfl rfl nd_X2_start ⟨Nat.le_of_ble_eq_true rfl, Nat.le_of_ble_eq_true rfl⟩) rfl rfl rfl rfl (Nat.le_of_ble_eq_true rfl) dX11_ticks_62 ⟨Nat.le_of_ble_eq_true rfl, Nat.le_of_ble_eq_true rfl⟩ (fun H locs hP hD hS => ?_)
        refine lv_iconst (v := (0 : Int32)) hx hb dX11_ticks_65 (by decide) ?_
        refine lv_istore_n (lv' := [(2, .int (0 : Int32)), (0, .ref (g.2.2 0)), (1, .int x1)]) hx hb dX11_ticks_66 rfl hl (by decide) rfl (fun ls hl => ?_)
        obtain ⟨z6, hz6, hf⟩ := bi_s hf
        refine lp_X11_ticks_0_h67 C hz6 ?_ H locs ls hP hD hS (lv_sub hl [1, 2, 0] rfl)
        intro H locs ls hP hD hS hl
        refine lv_aload_n hx hb dX11_ticks_86 rfl (lv_at hl 0 rfl) ?_
        refine bk_get (wf := cw) (q0 := 0) (ci := 10) (k := 4) (v := .ref (g.2.2 21)) C hP wl_X11 rfl rfl (by decide) wa_27 rfl rfl dX11_ticks_87 ?_
        refine bk_get (wf := cw) (q0 := 21) (ci := 1) (k := 0) (v := .ref (g.2.2 22)) C hP wl_X1 rfl rfl (by decide) wa_221 rfl rfl dX11_ticks_90 ?_
        refine lv_aload_n hx hb dX11_ticks_93 rfl (lv_at hl 0 rfl) ?_
        refine bk_get (wf := cw) (q0 := 0) (ci := 10) (k := 10) (v := .ref (g.2.2 55)) C hP wl_X11 rfl rfl (by decide) wa_42 rfl rfl dX11_ticks_94 ?_
        refine bk_get (wf := cw) (q0 := 55) (ci := 2) (k := 0) (v := .ref (g.2.2 56)) C hP wl_X2 rfl rfl (by decide) wa_808 rfl rfl dX11_ticks_97 ?_
        obtain ⟨q7, hq7, hf⟩ := bi_s hf
        refine bk_VV (wf := cw) (q0 := 22) (ci := 7) (rest := []) [.ref (g.2.2 56)] C hP hD hS hl.1 (c_X7_copy_22_56 hXo hq7) (cwA_V 1 hts wa_829 wa_878 wa_827 wa_828 wa_93 rfl rfl nd_X7_copy ⟨Nat.le_of_ble_eq_true rfl, Nat.le_of_ble_eq_true rfl⟩) rfl rfl rfl rfl (Nat.le_of_ble_eq_true rfl) dX11_ticks_100 ⟨Nat.le_of_ble_eq_true rfl, Nat.le_of_ble_eq_true rfl⟩ (fun H locs hP hD hS => ?_)
        refine lv_aload_n hx hb dX11_ticks_103 rfl (lv_at hl 0 rfl) ?_
        refine bk_get (wf := cw) (q0 := 0) (ci := 10) (k := 4) (v := .ref (g.2.2 21)) C hP wl_X11 rfl rfl (by decide) wa_27 rfl rfl dX11_ticks_104 ?_
        refine bk_get (wf := cw) (q0 := 21) (ci := 1) (k := 0) (v := .ref (g.2.2 22)) C hP wl_X1 rfl rfl (by decide) wa_221 rfl rfl dX11_ticks_107 ?_
        refine bk_get (wf := cw) (q0 := 22) (ci := 7) (k := 0) (v := .int (q7 22 0)) C hP wl_X7 rfl rfl (by decide) wa_645 rfl rfl dX11_ticks_110 ?_
        cases hf
        exact bk_iret C hP hD hS rfl dX11_ticks_113
      · have hf := (if_neg t26).symm.trans hf
        exact b_X11_ticks_0_b29 C hf H locs ls hP hD hS (lv_sub hl [0] rfl)
theorem c_X11_ticks_0 {N : Nat} {x1 : Int32} {σ : Sg} {z : Int32 × Sg} (hX : xOK g X) (hf : f_X11_ticks_0 N x1 σ = some z) : MetI l yX11_ticks (Cond.code yX11_ticks cX11_ticks 3 (some .int) :: wsA) rm_X11_ticks_0 cw g X [.ref (g.2.2 0), .int x1] σ z.1 z.2 :=
  MetI_of hX (by decide) (Nat.le_of_ble_eq_true rfl) (fun p e s m args below meth c A C => b_X11_ticks_0 C hf)
-- X7_sleeps_22: sleeps(I)Z
abbrev rm_X7_sleeps_22 : Room := { frames := 0, cells := 0, slots := 0, locals := 0 }
theorem nd_X7_sleeps : yX7_sleeps.cls ≠ "java/lang/invoke/MethodHandle" ∧ yX7_sleeps.cls ≠ "java/lang/invoke/VarHandle" ∧ (parseMethodDescriptor yX7_sleeps.desc).map (fun d => d.parameters.length) = some 1 := by decide +kernel
def f_X7_sleeps_22 (N : Nat) (x1 : Int32) (σ : Sg) : Option (Int32 × Sg) :=
if (((σ 22 1) >>> (x1 &&& 31)) &&& (1 : Int32)) = (1 : Int32) then (some ((1 : Int32), σ))
else (some ((0 : Int32), σ))
set_option maxHeartbeats 4000000 in
set_option maxRecDepth 100000 in
theorem b_X7_sleeps_22 {N : Nat} {x1 : Int32} {σ : Sg} {z : Int32 × Sg} (C : Cx p s m args meth c cX7_sleeps 2 (some .boolean) RX7 g A X) (hf : f_X7_sleeps_22 N x1 σ = some z) : Bk cw p l e rm_X7_sleeps_22 s m args below meth c 2 g A (MQ below (qI cw g A z.1 z.2) args s 0 0 A) 0 0 0 [(0, .ref (g.2.2 22)), (1, .int x1)] [] σ := by
  obtain ⟨hx, hb, hr, hml, hown, hts, hK, hlocks, hXX, hA, hXo⟩ := id C
  intro H locs ls hP hD hS hl
  unfold f_X7_sleeps_22 at hf
  refine lv_aload_n hx hb dX7_sleeps_0 rfl (lv_at hl 0 rfl) ?_
  refine bk_get (wf := cw) (q0 := 22) (ci := 7) (k := 1) (v := .int (σ 22 1)) C hP wl_X7 rfl rfl (by decide) wa_108 rfl rfl dX7_sleeps_1 ?_
  refine lv_iload_n hx hb dX7_sleeps_4 rfl (lv_at hl 1 rfl) ?_
  refine lv_ishr hx hb dX7_sleeps_5 ?_
  refine lv_iconst (v := (1 : Int32)) hx hb dX7_sleeps_6 (by decide) ?_
  refine lv_iand hx hb dX7_sleeps_7 ?_
  refine lv_iconst (v := (1 : Int32)) hx hb dX7_sleeps_8 (by decide) ?_
  refine lv_icmp_ne (tgt := 16) hx hb dX7_sleeps_9 (by decide) (fun t9 => ?_) (fun t9 => ?_)
  · have hf := (if_neg t9).symm.trans hf
    refine lv_iconst (v := (0 : Int32)) hx hb dX7_sleeps_16 (by decide) ?_
    cases hf
    exact bk_zret C hP hD hS (by decide) rfl dX7_sleeps_17
  · have hf := (if_pos t9).symm.trans hf
    refine lv_iconst (v := (1 : Int32)) hx hb dX7_sleeps_12 (by decide) ?_
    refine lv_goto (tgt := 17) hx hb dX7_sleeps_13 (by decide) ?_
    cases hf
    exact bk_zret C hP hD hS (by decide) rfl dX7_sleeps_17
theorem c_X7_sleeps_22 {N : Nat} {x1 : Int32} {σ : Sg} {z : Int32 × Sg} (hX : xOK g X) (hf : f_X7_sleeps_22 N x1 σ = some z) : MetI l yX7_sleeps (Cond.code yX7_sleeps cX7_sleeps 2 (some .boolean) :: wsA) rm_X7_sleeps_22 cw g X [.ref (g.2.2 22), .int x1] σ z.1 z.2 :=
  MetI_of hX (by decide) (Nat.le_of_ble_eq_true rfl) (fun p e s m args below meth c A C => b_X7_sleeps_22 C hf)
-- X7_startNod_22: startNod(I)V
abbrev rm_X7_startNod_22 : Room := { frames := 1, cells := 0, slots := 0, locals := 21 }
theorem nd_X7_startNod : yX7_startNod.cls ≠ "java/lang/invoke/MethodHandle" ∧ yX7_startNod.cls ≠ "java/lang/invoke/VarHandle" ∧ (parseMethodDescriptor yX7_startNod.desc).map (fun d => d.parameters.length) = some 1 := by decide +kernel
def f_X7_startNod_22 (N : Nat) (x1 : Int32) (σ : Sg) : Option (Sg) :=
(f_X7_sleeps_22 N x1 σ).bind fun q1 =>
if q1.1 = 0 then (if (x1 < 0 ∨ 9 ≤ x1.toNatClampNeg) then none else
bd (wr (q1.2) 23 (x1.toNatClampNeg) (1 : Int32)) fun σ3 =>
some σ3)
else (some (q1.2))
set_option maxHeartbeats 4000000 in
set_option maxRecDepth 100000 in
theorem b_X7_startNod_22 {N : Nat} {x1 : Int32} {σ : Sg} {z : Sg} (C : Cx p s m args meth c cX7_startNod 2 none RX7 g A X) (hf : f_X7_startNod_22 N x1 σ = some z) : Bk cw p l e rm_X7_startNod_22 s m args below meth c 2 g A (MQ below (qV cw g A z) args s 0 0 A) 0 0 0 [(0, .ref (g.2.2 22)), (1, .int x1)] [] σ := by
  obtain ⟨hx, hb, hr, hml, hown, hts, hK, hlocks, hXX, hA, hXo⟩ := id C
  intro H locs ls hP hD hS hl
  unfold f_X7_startNod_22 at hf
  refine lv_aload_n hx hb dX7_startNod_0 rfl (lv_at hl 0 rfl) ?_
  refine lv_iload_n hx hb dX7_startNod_1 rfl (lv_at hl 1 rfl) ?_
  obtain ⟨q1, hq1, hf⟩ := bi_s hf
  refine bk_VI (wf := cw) (q0 := 22) (ci := 7) (rest := []) [.int x1] C hP hD hS hl.1 (c_X7_sleeps_22 hXo hq1) (cwA_V 1 hts wa_926 wa_931 wa_924 wa_925 wa_93 rfl rfl nd_X7_sleeps ⟨Nat.le_of_ble_eq_true rfl, Nat.le_of_ble_eq_true rfl⟩) rfl rfl rfl rfl (Nat.le_of_ble_eq_true rfl) dX7_startNod_2 ⟨Nat.le_of_ble_eq_true rfl, Nat.le_of_ble_eq_true rfl⟩ (fun H locs hP hD hS => ?_)
  refine lv_if_ne (tgt := 15) hx hb dX7_startNod_5 (by decide) (fun t5 => ?_) (fun t5 => ?_)
  · have hf := (if_neg t5).symm.trans hf
    cases hf
    exact bk_vret C hP hD hS rfl dX7_startNod_15
  · have hf := (if_pos t5).symm.trans hf
    refine lv_aload_n hx hb dX7_startNod_8 rfl (lv_at hl 0 rfl) ?_
    refine bk_get (wf := cw) (q0 := 22) (ci := 7) (k := 2) (v := .ref (g.2.2 23)) C hP wl_X7 rfl rfl (by decide) wa_109 rfl rfl dX7_startNod_9 ?_
    refine lv_iload_n hx hb dX7_startNod_12 rfl (lv_at hl 1 rfl) ?_
    refine lv_iconst (v := (1 : Int32)) hx hb dX7_startNod_13 (by decide) ?_
    obtain ⟨g2, hf⟩ := gd_s hf
    obtain ⟨σ3, eσ3, hf⟩ := bd_s hf
    refine bk_iast (wf := cw) (σ1 := σ3) (q0 := 23) (n := 9) (j := x1.toNatClampNeg) C hP hD hS rfl g2 rfl (by rw [eσ3]; exact cw_a23 g _ _ _) dX7_startNod_14 (fun H locs hP hD hS => ?_)
    cases hf
    exact bk_vret C hP hD hS rfl dX7_startNod_15
theorem c_X7_startNod_22 {N : Nat} {x1 : Int32} {σ : Sg} {z : Sg} (hX : xOK g X) (hf : f_X7_startNod_22 N x1 σ = some z) : MetV l yX7_startNod (Cond.code yX7_startNod cX7_startNod 2 none :: wsA) rm_X7_startNod_22 cw g X [.ref (g.2.2 22), .int x1] σ z :=
  MetV_of hX (by decide) (Nat.le_of_ble_eq_true rfl) (fun p e s m args below meth c A C => b_X7_startNod_22 C hf)
-- X11_begin_0: begin(I)Z
abbrev rm_X11_begin_0 : Room := { frames := 7, cells := 1, slots := 6, locals := 111 }
theorem nd_X11_begin : yX11_begin.cls ≠ "java/lang/invoke/MethodHandle" ∧ yX11_begin.cls ≠ "java/lang/invoke/VarHandle" ∧ (parseMethodDescriptor yX11_begin.desc).map (fun d => d.parameters.length) = some 1 := by decide +kernel
def f_X11_begin_0 (N : Nat) (x1 : Int32) (σ : Sg) : Option (Zt) :=
(f_X11_needFarm_0 N x1 σ).bind fun q1 =>
if q1.1 = 0 then ((f_X7_sleeps_22 N x1 (q1.2.2)).bind fun q2 =>
if q2.1 = 0 then ((f_X0_keep_27_22 N (q2.2)).bind fun q3 =>
(f_X7_startNod_22 N x1 q3).bind fun q4 =>
some (0, (1 : Int32), q4))
else ((f_X11_refuseAct_0 N (q2.2)).bind fun q5 =>
some (0, (0 : Int32), (q5.2))))
else some (q1.1, 0, q1.2.2)
set_option maxHeartbeats 4000000 in
set_option maxRecDepth 100000 in
theorem b_X11_begin_0 {N : Nat} {x1 : Int32} {σ : Sg} {z : Zt} (C : Cx p s m args meth c cX11_begin 2 (some .boolean) RX11 g A X) (hex : ∀ x ∈ c.exceptionTable.toList, False) (hst : l.stackTraces = false) (hf : f_X11_begin_0 N x1 σ = some z) : Bk cw p l e rm_X11_begin_0 s m args below meth c 2 g A (vx_MQ below (qTi cw g A z) (xT cw g A z) args s 1 6 A) 0 0 0 [(0, .ref (g.2.2 0)), (1, .int x1)] [] σ := by
  obtain ⟨hx, hb, hr, hml, hown, hts, hK, hlocks, hXX, hA, hXo⟩ := id C
  intro H locs ls hP hD hS hl
  unfold f_X11_begin_0 at hf
  refine lv_aload_n hx hb dX11_begin_0 rfl (lv_at hl 0 rfl) ?_
  refine lv_iload_n hx hb dX11_begin_1 rfl (lv_at hl 1 rfl) ?_
  obtain ⟨q1, hq1, hf⟩ := bi_s hf
  refine bk_TV (wf := cw) (q0 := 0) (ci := 10) (rest := []) [.int x1] C hex hP hD hS hl.1 (c_X11_needFarm_0 hXo hst hq1) (cwA_V 1 hts wa_791 wa_788 wa_789 wa_790 wa_2 rfl rfl nd_X11_needFarm ⟨Nat.le_of_ble_eq_true rfl, Nat.le_of_ble_eq_true rfl⟩) rfl rfl rfl rfl (Nat.le_of_ble_eq_true rfl) dX11_begin_2 ⟨Nat.le_of_ble_eq_true rfl, Nat.le_of_ble_eq_true rfl⟩ ⟨Nat.le_of_ble_eq_true rfl, Nat.le_of_ble_eq_true rfl⟩ (fun h0 => by have hf := (if_neg h0).symm.trans hf; cases hf; exact ⟨rfl, rfl⟩) (fun h0 H locs hP hD hS => ?_)
  have hf := (if_pos h0).symm.trans hf
  refine lv_aload_n hx hb dX11_begin_5 rfl (lv_at hl 0 rfl) ?_
  refine bk_get (wf := cw) (q0 := 0) (ci := 10) (k := 4) (v := .ref (g.2.2 21)) C hP wl_X11 rfl rfl (by decide) wa_27 rfl rfl dX11_begin_6 ?_
  refine bk_get (wf := cw) (q0 := 21) (ci := 1) (k := 0) (v := .ref (g.2.2 22)) C hP wl_X1 rfl rfl (by decide) wa_221 rfl rfl dX11_begin_9 ?_
  refine lv_iload_n hx hb dX11_begin_12 rfl (lv_at hl 1 rfl) ?_
  obtain ⟨q2, hq2, hf⟩ := bi_s hf
  refine bk_VI (wf := cw) (q0 := 22) (ci := 7) (rest := []) [.int x1] C hP hD hS hl.1 (c_X7_sleeps_22 hXo hq2) (cwA_V 1 hts wa_926 wa_923 wa_924 wa_925 wa_93 rfl rfl nd_X7_sleeps ⟨Nat.le_of_ble_eq_true rfl, Nat.le_of_ble_eq_true rfl⟩) rfl rfl rfl rfl (Nat.le_of_ble_eq_true rfl) dX11_begin_13 ⟨Nat.le_of_ble_eq_true rfl, Nat.le_of_ble_eq_true rfl⟩ (fun H locs hP hD hS => ?_)
  refine lv_if_eq (tgt := 26) hx hb dX11_begin_16 (by decide) (fun t16 => ?_) (fun t16 => ?_)
  · have hf := (if_pos t16).symm.trans hf
    refine lv_aload_n hx hb dX11_begin_26 rfl (lv_at hl 0 rfl) ?_
    refine bk_get (wf := cw) (q0 := 0) (ci := 10) (k := 4) (v := .ref (g.2.2 21)) C hP wl_X11 rfl rfl (by decide) wa_27 rfl rfl dX11_begin_27 ?_
    refine bk_get (wf := cw) (q0 := 21) (ci := 1) (k := 1) (v := .ref (g.2.2 27)) C hP wl_X1 rfl rfl (by decide) wa_222 rfl rfl dX11_begin_30 ?_
    refine lv_aload_n hx hb dX11_begin_33 rfl (lv_at hl 0 rfl) ?_
    refine bk_get (wf := cw) (q0 := 0) (ci := 10) (k := 4) (v := .ref (g.2.2 21)) C hP wl_X11 rfl rfl (by decide) wa_27 rfl rfl dX11_begin_34 ?_
    refine bk_get (wf := cw) (q0 := 21) (ci := 1) (k := 0) (v := .ref (g.2.2 22)) C hP wl_X1 rfl rfl (by decide) wa_221 rfl rfl dX11_begin_37 ?_
    obtain ⟨q3, hq3, hf⟩ := bi_s hf
    refine bk_VV (wf := cw) (q0 := 27) (ci := 0) (rest := []) [.ref (g.2.2 22)] C hP hD hS hl.1 (c_X0_keep_27_22 hXo hq3) (cwA_V 1 hts wa_816 wa_813 wa_814 wa_815 wa_97 rfl rfl nd_X0_keep ⟨Nat.le_of_ble_eq_true rfl, Nat.le_of_ble_eq_true rfl⟩) rfl rfl rfl rfl (Nat.le_of_ble_eq_true rfl) dX11_begin_40 ⟨Nat.le_of_ble_eq_true rfl, Nat.le_of_ble_eq_true rfl⟩ (fun H locs hP hD hS => ?_)
    refine lv_aload_n hx hb dX11_begin_43 rfl (lv_at hl 0 rfl) ?_
    refine bk_get (wf := cw) (q0 := 0) (ci := 10) (k := 4) (v := .ref (g.2.2 21)) C hP wl_X11 rfl rfl (by decide) wa_27 rfl rfl dX11_begin_44 ?_
    refine bk_get (wf := cw) (q0 := 21) (ci := 1) (k := 0) (v := .ref (g.2.2 22)) C hP wl_X1 rfl rfl (by decide) wa_221 rfl rfl dX11_begin_47 ?_
    refine lv_iload_n hx hb dX11_begin_50 rfl (lv_at hl 1 rfl) ?_
    obtain ⟨q4, hq4, hf⟩ := bi_s hf
    refine bk_VV (wf := cw) (q0 := 22) (ci := 7) (rest := []) [.int x1] C hP hD hS hl.1 (c_X7_startNod_22 hXo hq4) (cwA_V 1 hts wa_930 wa_927 wa_928 wa_929 wa_93 rfl rfl nd_X7_startNod ⟨Nat.le_of_ble_eq_true rfl, Nat.le_of_ble_eq_true rfl⟩) rfl rfl rfl rfl (Nat.le_of_ble_eq_true rfl) dX11_begin_51 ⟨Nat.le_of_ble_eq_true rfl, Nat.le_of_ble_eq_true rfl⟩ (fun H locs hP hD hS => ?_)
    refine lv_iconst (v := (1 : Int32)) hx hb dX11_begin_54 (by decide) ?_
    exact bk_zretT C hP hD hS (by decide) hf (Nat.le_of_ble_eq_true rfl) (Nat.le_of_ble_eq_true rfl) dX11_begin_55
  · have hf := (if_neg t16).symm.trans hf
    refine lv_aload_n hx hb dX11_begin_19 rfl (lv_at hl 0 rfl) ?_
    obtain ⟨q5, hq5, hf⟩ := bi_s hf
    refine bk_VI (wf := cw) (q0 := 0) (ci := 10) (rest := []) [] C hP hD hS hl.1 (c_X11_refuseAct_0 hXo hq5) (cwA_V 0 hts wa_812 wa_809 wa_810 wa_811 wa_2 rfl rfl nd_X11_refuseAct ⟨Nat.le_of_ble_eq_true rfl, Nat.le_of_ble_eq_true rfl⟩) rfl rfl rfl rfl (Nat.le_of_ble_eq_true rfl) dX11_begin_20 ⟨Nat.le_of_ble_eq_true rfl, Nat.le_of_ble_eq_true rfl⟩ (fun H locs hP hD hS => ?_)
    refine lv_pop hx hb dX11_begin_23 rfl ?_
    refine lv_iconst (v := (0 : Int32)) hx hb dX11_begin_24 (by decide) ?_
    exact bk_zretT C hP hD hS (by decide) hf (Nat.le_of_ble_eq_true rfl) (Nat.le_of_ble_eq_true rfl) dX11_begin_25
theorem c_X11_begin_0 {N : Nat} {x1 : Int32} {σ : Sg} {z : Zt} (hX : xOK g X) (hst : l.stackTraces = false) (hf : f_X11_begin_0 N x1 σ = some z) : MetTi l yX11_begin (Cond.code yX11_begin cX11_begin 2 (some .boolean) :: wsA) rm_X11_begin_0 1 6 cw g X [.ref (g.2.2 0), .int x1] σ z :=
  MetTi_of hX (by decide) (Nat.le_of_ble_eq_true rfl) (fun p e s m args below meth c A C hex => b_X11_begin_0 C hex hst hf)
-- X7_turnSleep_22: turnSleep(I)V
abbrev rm_X7_turnSleep_22 : Room := { frames := 0, cells := 0, slots := 0, locals := 0 }
theorem nd_X7_turnSleep : yX7_turnSleep.cls ≠ "java/lang/invoke/MethodHandle" ∧ yX7_turnSleep.cls ≠ "java/lang/invoke/VarHandle" ∧ (parseMethodDescriptor yX7_turnSleep.desc).map (fun d => d.parameters.length) = some 1 := by decide +kernel
def f_X7_turnSleep_22 (N : Nat) (x1 : Int32) (σ : Sg) : Option (Sg) :=
bd (wr σ 22 1 ((σ 22 1) ^^^ ((1 : Int32) <<< (x1 &&& 31)))) fun σ1 =>
if (x1 < 0 ∨ 9 ≤ x1.toNatClampNeg) then none else
bd (wr σ1 23 (x1.toNatClampNeg) (0 : Int32)) fun σ3 =>
some σ3
set_option maxHeartbeats 4000000 in
set_option maxRecDepth 100000 in
theorem b_X7_turnSleep_22 {N : Nat} {x1 : Int32} {σ : Sg} {z : Sg} (C : Cx p s m args meth c cX7_turnSleep 2 none RX7 g A X) (hf : f_X7_turnSleep_22 N x1 σ = some z) : Bk cw p l e rm_X7_turnSleep_22 s m args below meth c 2 g A (MQ below (qV cw g A z) args s 0 0 A) 0 0 0 [(0, .ref (g.2.2 22)), (1, .int x1)] [] σ := by
  obtain ⟨hx, hb, hr, hml, hown, hts, hK, hlocks, hXX, hA, hXo⟩ := id C
  intro H locs ls hP hD hS hl
  unfold f_X7_turnSleep_22 at hf
  refine lv_aload_n hx hb dX7_turnSleep_0 rfl (lv_at hl 0 rfl) ?_
  refine lv_dup hx hb dX7_turnSleep_1 rfl ?_
  refine bk_get (wf := cw) (q0 := 22) (ci := 7) (k := 1) (v := .int (σ 22 1)) C hP wl_X7 rfl rfl (by decide) wa_108 rfl rfl dX7_turnSleep_2 ?_
  refine lv_iconst (v := (1 : Int32)) hx hb dX7_turnSleep_5 (by decide) ?_
  refine lv_iload_n hx hb dX7_turnSleep_6 rfl (lv_at hl 1 rfl) ?_
  refine lv_ishl hx hb dX7_turnSleep_7 ?_
  refine lv_ixor hx hb dX7_turnSleep_8 ?_
  obtain ⟨σ1, eσ1, hf⟩ := bd_s hf
  refine bk_put (wf := cw) (σ1 := σ1) (q0 := 22) (ci := 7) (k := 1) (v := .int ((σ 22 1) ^^^ ((1 : Int32) <<< (x1 &&& 31)))) C hP hD hS wl_X7 tyX7_ok nmX7 rfl rfl (by decide) wa_108 rfl rfl rfl rfl rfl (Nat.le_of_ble_eq_true rfl) (by rw [eσ1]; exact cw_p22_1 g _ _) dX7_turnSleep_9 (fun H locs hP hD hS => ?_)
  refine lv_aload_n hx hb dX7_turnSleep_12 rfl (lv_at hl 0 rfl) ?_
  refine bk_get (wf := cw) (q0 := 22) (ci := 7) (k := 2) (v := .ref (g.2.2 23)) C hP wl_X7 rfl rfl (by decide) wa_109 rfl rfl dX7_turnSleep_13 ?_
  refine lv_iload_n hx hb dX7_turnSleep_16 rfl (lv_at hl 1 rfl) ?_
  refine lv_iconst (v := (0 : Int32)) hx hb dX7_turnSleep_17 (by decide) ?_
  obtain ⟨g2, hf⟩ := gd_s hf
  obtain ⟨σ3, eσ3, hf⟩ := bd_s hf
  refine bk_iast (wf := cw) (σ1 := σ3) (q0 := 23) (n := 9) (j := x1.toNatClampNeg) C hP hD hS rfl g2 rfl (by rw [eσ3]; exact cw_a23 g _ _ _) dX7_turnSleep_18 (fun H locs hP hD hS => ?_)
  cases hf
  exact bk_vret C hP hD hS rfl dX7_turnSleep_19
theorem c_X7_turnSleep_22 {N : Nat} {x1 : Int32} {σ : Sg} {z : Sg} (hX : xOK g X) (hf : f_X7_turnSleep_22 N x1 σ = some z) : MetV l yX7_turnSleep (Cond.code yX7_turnSleep cX7_turnSleep 2 none :: wsA) rm_X7_turnSleep_22 cw g X [.ref (g.2.2 22), .int x1] σ z :=
  MetV_of hX (by decide) (Nat.le_of_ble_eq_true rfl) (fun p e s m args below meth c A C => b_X7_turnSleep_22 C hf)
-- X11_sleep_0: sleep(IZ)Z
abbrev rm_X11_sleep_0 : Room := { frames := 7, cells := 1, slots := 6, locals := 111 }
theorem nd_X11_sleep : yX11_sleep.cls ≠ "java/lang/invoke/MethodHandle" ∧ yX11_sleep.cls ≠ "java/lang/invoke/VarHandle" ∧ (parseMethodDescriptor yX11_sleep.desc).map (fun d => d.parameters.length) = some 2 := by decide +kernel
def f_X11_sleep_0 (N : Nat) (x1 : Int32) (x2 : Int32) (σ : Sg) : Option (Zt) :=
(f_X11_needFarm_0 N x1 σ).bind fun q1 =>
if q1.1 = 0 then ((f_X7_sleeps_22 N x1 (q1.2.2)).bind fun q2 =>
if q2.1 = x2 then ((f_X11_refuseAct_0 N (q2.2)).bind fun q5 =>
some (0, (0 : Int32), (q5.2)))
else ((f_X0_keep_27_22 N (q2.2)).bind fun q3 =>
(f_X7_turnSleep_22 N x1 q3).bind fun q4 =>
some (0, (1 : Int32), q4)))
else some (q1.1, 0, q1.2.2)
set_option maxHeartbeats 4000000 in
set_option maxRecDepth 100000 in
theorem b_X11_sleep_0 {N : Nat} {x1 : Int32} {x2 : Int32} {σ : Sg} {z : Zt} (C : Cx p s m args meth c cX11_sleep 3 (some .boolean) RX11 g A X) (hex : ∀ x ∈ c.exceptionTable.toList, False) (hst : l.stackTraces = false) (hf : f_X11_sleep_0 N x1 x2 σ = some z) : Bk cw p l e rm_X11_sleep_0 s m args below meth c 3 g A (vx_MQ below (qTi cw g A z) (xT cw g A z) args s 1 6 A) 0 0 0 [(0, .ref (g.2.2 0)), (1, .int x1), (2, .int x2)] [] σ := by
  obtain ⟨hx, hb, hr, hml, hown, hts, hK, hlocks, hXX, hA, hXo⟩ := id C
  intro H locs ls hP hD hS hl
  unfold f_X11_sleep_0 at hf
  refine lv_aload_n hx hb dX11_sleep_0 rfl (lv_at hl 0 rfl) ?_
  refine lv_iload_n hx hb dX11_sleep_1 rfl (lv_at hl 1 rfl) ?_
  obtain ⟨q1, hq1, hf⟩ := bi_s hf
  refine bk_TV (wf := cw) (q0 := 0) (ci := 10) (rest := []) [.int x1] C hex hP hD hS hl.1 (c_X11_needFarm_0 hXo hst hq1) (cwA_V 1 hts wa_791 wa_788 wa_789 wa_790 wa_2 rfl rfl nd_X11_needFarm ⟨Nat.le_of_ble_eq_true rfl, Nat.le_of_ble_eq_true rfl⟩) rfl rfl rfl rfl (Nat.le_of_ble_eq_true rfl) dX11_sleep_2 ⟨Nat.le_of_ble_eq_true rfl, Nat.le_of_ble_eq_true rfl⟩ ⟨Nat.le_of_ble_eq_true rfl, Nat.le_of_ble_eq_true rfl⟩ (fun h0 => by have hf := (if_neg h0).symm.trans hf; cases hf; exact ⟨rfl, rfl⟩) (fun h0 H locs hP hD hS => ?_)
  have hf := (if_pos h0).symm.trans hf
  refine lv_aload_n hx hb dX11_sleep_5 rfl (lv_at hl 0 rfl) ?_
  refine bk_get (wf := cw) (q0 := 0) (ci := 10) (k := 4) (v := .ref (g.2.2 21)) C hP wl_X11 rfl rfl (by decide) wa_27 rfl rfl dX11_sleep_6 ?_
  refine bk_get (wf := cw) (q0 := 21) (ci := 1) (k := 0) (v := .ref (g.2.2 22)) C hP wl_X1 rfl rfl (by decide) wa_221 rfl rfl dX11_sleep_9 ?_
  refine lv_iload_n hx hb dX11_sleep_12 rfl (lv_at hl 1 rfl) ?_
  obtain ⟨q2, hq2, hf⟩ := bi_s hf
  refine bk_VI (wf := cw) (q0 := 22) (ci := 7) (rest := []) [.int x1] C hP hD hS hl.1 (c_X7_sleeps_22 hXo hq2) (cwA_V 1 hts wa_926 wa_923 wa_924 wa_925 wa_93 rfl rfl nd_X7_sleeps ⟨Nat.le_of_ble_eq_true rfl, Nat.le_of_ble_eq_true rfl⟩) rfl rfl rfl rfl (Nat.le_of_ble_eq_true rfl) dX11_sleep_13 ⟨Nat.le_of_ble_eq_true rfl, Nat.le_of_ble_eq_true rfl⟩ (fun H locs hP hD hS => ?_)
  refine lv_iload_n hx hb dX11_sleep_16 rfl (lv_at hl 2 rfl) ?_
  refine lv_icmp_ne (tgt := 27) hx hb dX11_sleep_17 (by decide) (fun t17 => ?_) (fun t17 => ?_)
  · have hf := (if_neg t17).symm.trans hf
    refine lv_aload_n hx hb dX11_sleep_27 rfl (lv_at hl 0 rfl) ?_
    refine bk_get (wf := cw) (q0 := 0) (ci := 10) (k := 4) (v := .ref (g.2.2 21)) C hP wl_X11 rfl rfl (by decide) wa_27 rfl rfl dX11_sleep_28 ?_
    refine bk_get (wf := cw) (q0 := 21) (ci := 1) (k := 1) (v := .ref (g.2.2 27)) C hP wl_X1 rfl rfl (by decide) wa_222 rfl rfl dX11_sleep_31 ?_
    refine lv_aload_n hx hb dX11_sleep_34 rfl (lv_at hl 0 rfl) ?_
    refine bk_get (wf := cw) (q0 := 0) (ci := 10) (k := 4) (v := .ref (g.2.2 21)) C hP wl_X11 rfl rfl (by decide) wa_27 rfl rfl dX11_sleep_35 ?_
    refine bk_get (wf := cw) (q0 := 21) (ci := 1) (k := 0) (v := .ref (g.2.2 22)) C hP wl_X1 rfl rfl (by decide) wa_221 rfl rfl dX11_sleep_38 ?_
    obtain ⟨q3, hq3, hf⟩ := bi_s hf
    refine bk_VV (wf := cw) (q0 := 27) (ci := 0) (rest := []) [.ref (g.2.2 22)] C hP hD hS hl.1 (c_X0_keep_27_22 hXo hq3) (cwA_V 1 hts wa_816 wa_813 wa_814 wa_815 wa_97 rfl rfl nd_X0_keep ⟨Nat.le_of_ble_eq_true rfl, Nat.le_of_ble_eq_true rfl⟩) rfl rfl rfl rfl (Nat.le_of_ble_eq_true rfl) dX11_sleep_41 ⟨Nat.le_of_ble_eq_true rfl, Nat.le_of_ble_eq_true rfl⟩ (fun H locs hP hD hS => ?_)
    refine lv_aload_n hx hb dX11_sleep_44 rfl (lv_at hl 0 rfl) ?_
    refine bk_get (wf := cw) (q0 := 0) (ci := 10) (k := 4) (v := .ref (g.2.2 21)) C hP wl_X11 rfl rfl (by decide) wa_27 rfl rfl dX11_sleep_45 ?_
    refine bk_get (wf := cw) (q0 := 21) (ci := 1) (k := 0) (v := .ref (g.2.2 22)) C hP wl_X1 rfl rfl (by decide) wa_221 rfl rfl dX11_sleep_48 ?_
    refine lv_iload_n hx hb dX11_sleep_51 rfl (lv_at hl 1 rfl) ?_
    obtain ⟨q4, hq4, hf⟩ := bi_s hf
    refine bk_VV (wf := cw) (q0 := 22) (ci := 7) (rest := []) [.int x1] C hP hD hS hl.1 (c_X7_turnSleep_22 hXo hq4) (cwA_V 1 hts wa_958 wa_955 wa_956 wa_957 wa_93 rfl rfl nd_X7_turnSleep ⟨Nat.le_of_ble_eq_true rfl, Nat.le_of_ble_eq_true rfl⟩) rfl rfl rfl rfl (Nat.le_of_ble_eq_true rfl) dX11_sleep_52 ⟨Nat.le_of_ble_eq_true rfl, Nat.le_of_ble_eq_true rfl⟩ (fun H locs hP hD hS => ?_)
    refine lv_iconst (v := (1 : Int32)) hx hb dX11_sleep_55 (by decide) ?_
    exact bk_zretT C hP hD hS (by decide) hf (Nat.le_of_ble_eq_true rfl) (Nat.le_of_ble_eq_true rfl) dX11_sleep_56
  · have hf := (if_pos t17).symm.trans hf
    refine lv_aload_n hx hb dX11_sleep_20 rfl (lv_at hl 0 rfl) ?_
    obtain ⟨q5, hq5, hf⟩ := bi_s hf
    refine bk_VI (wf := cw) (q0 := 0) (ci := 10) (rest := []) [] C hP hD hS hl.1 (c_X11_refuseAct_0 hXo hq5) (cwA_V 0 hts wa_812 wa_809 wa_810 wa_811 wa_2 rfl rfl nd_X11_refuseAct ⟨Nat.le_of_ble_eq_true rfl, Nat.le_of_ble_eq_true rfl⟩) rfl rfl rfl rfl (Nat.le_of_ble_eq_true rfl) dX11_sleep_21 ⟨Nat.le_of_ble_eq_true rfl, Nat.le_of_ble_eq_true rfl⟩ (fun H locs hP hD hS => ?_)
    refine lv_pop hx hb dX11_sleep_24 rfl ?_
    refine lv_iconst (v := (0 : Int32)) hx hb dX11_sleep_25 (by decide) ?_
    exact bk_zretT C hP hD hS (by decide) hf (Nat.le_of_ble_eq_true rfl) (Nat.le_of_ble_eq_true rfl) dX11_sleep_26
theorem c_X11_sleep_0 {N : Nat} {x1 : Int32} {x2 : Int32} {σ : Sg} {z : Zt} (hX : xOK g X) (hst : l.stackTraces = false) (hf : f_X11_sleep_0 N x1 x2 σ = some z) : MetTi l yX11_sleep (Cond.code yX11_sleep cX11_sleep 3 (some .boolean) :: wsA) rm_X11_sleep_0 1 6 cw g X [.ref (g.2.2 0), .int x1, .int x2] σ z :=
  MetTi_of hX (by decide) (Nat.le_of_ble_eq_true rfl) (fun p e s m args below meth c A C hex => b_X11_sleep_0 C hex hst hf)
-- X6_inTheWay_47: inTheWay(II)I
abbrev rm_X6_inTheWay_47 : Room := { frames := 0, cells := 0, slots := 0, locals := 0 }
theorem nd_X6_inTheWay : yX6_inTheWay.cls ≠ "java/lang/invoke/MethodHandle" ∧ yX6_inTheWay.cls ≠ "java/lang/invoke/VarHandle" ∧ (parseMethodDescriptor yX6_inTheWay.desc).map (fun d => d.parameters.length) = some 2 := by decide +kernel
def f_X6_inTheWay_47_b157 (N : Nat) (x3 : Int32) (x4 : Int32) (x5 : Int32) (x6 : Int32) (σ : Sg) : Option (Nat × Int32 × Int32 × Sg) :=
bd (x6 + (1 : Int32)) fun v1 =>
some (0, x5, v1, σ)
set_option maxHeartbeats 4000000 in
set_option maxRecDepth 100000 in
theorem b_X6_inTheWay_47_b157 {N : Nat} {x3 : Int32} {x4 : Int32} {x5 : Int32} {x6 : Int32} {σ : Sg} {z : Nat × Int32 × Int32 × Sg} (C : Cx p s m args meth c cX6_inTheWay 9 (some .int) RX6 g A X) (hf : f_X6_inTheWay_47_b157 N x3 x4 x5 x6 σ = some z) (k0 : z.1 = 0 → Bk cw p l e rm_X6_inTheWay_47 s m args below meth c 9 g A Q 0 0 45 [(0, .ref (g.2.2 47)), (3, .int x3), (4, .int x4), (5, .int z.2.1), (6, .int z.2.2.1)] [] z.2.2.2) (k : ¬ z.1 = 0 → Bk cw p l e rm_X6_inTheWay_47 s m args below meth c 9 g A Q 0 0 163 [(5, .int z.2.1)] [] z.2.2.2) : Bk cw p l e rm_X6_inTheWay_47 s m args below meth c 9 g A Q 0 0 157 [(0, .ref (g.2.2 47)), (3, .int x3), (4, .int x4), (5, .int x5), (6, .int x6)] [] σ := by
  obtain ⟨hx, hb, hr, hml, hown, hts, hK, hlocks, hXX, hA, hXo⟩ := id C
  intro H locs ls hP hD hS hl
  unfold f_X6_inTheWay_47_b157 at hf
  obtain ⟨v1, ev1, hf⟩ := bd_s hf
  refine lv_iinc (v := v1) (lv' := [(6, .int v1), (0, .ref (g.2.2 47)), (3, .int x3), (4, .int x4), (5, .int x5)]) hx hb dX6_inTheWay_157 hl (k := 4) rfl (by rw [ev1]; rfl) (by decide) rfl (fun ls hl => ?_)
  refine lv_goto (tgt := 45) hx hb dX6_inTheWay_160 (by decide) ?_
  cases hf
  exact k0 rfl H locs ls hP hD hS (lv_sub hl [1, 2, 3, 4, 0] rfl)
def s_X6_inTheWay_47_h45 (N : Nat) (x3 : Int32) (x4 : Int32) (x5 : Int32) (x6 : Int32) (σ : Sg) : Option (Nat × Int32 × Int32 × Sg) :=
if (σ 12 0) ≤ x6 then (some (1, x5, 0, σ))
else (if (x6 < 0 ∨ 9 ≤ x6.toNatClampNeg) then none else
if (x3 < 0 ∨ 9 ≤ x3.toNatClampNeg) then none else
bd ((σ 13 x6.toNatClampNeg) - (σ 13 x3.toNatClampNeg)) fun v4 =>
if (x4 < 0 ∨ 9 ≤ x4.toNatClampNeg) then none else
if (x6 < 0 ∨ 9 ≤ x6.toNatClampNeg) then none else
bd ((σ 13 x4.toNatClampNeg) - (σ 13 x6.toNatClampNeg)) fun v7 =>
if v4 ≤ 0 then (f_X6_inTheWay_47_b157 N x3 x4 x5 x6 σ)
else (if v7 ≤ 0 then (f_X6_inTheWay_47_b157 N x3 x4 x5 x6 σ)
else (if (x6 < 0 ∨ 9 ≤ x6.toNatClampNeg) then none else
if (x3 < 0 ∨ 9 ≤ x3.toNatClampNeg) then none else
if (x4 < 0 ∨ 9 ≤ x4.toNatClampNeg) then none else
if ((σ 48 x6.toNatClampNeg) * (v4 + v7)) < (((σ 48 x3.toNatClampNeg) * v7) + ((σ 48 x4.toNatClampNeg) * v4)) then (f_X6_inTheWay_47_b157 N x3 x4 x5 x6 σ)
else (bd (x5 ||| ((1 : Int32) <<< (x6 &&& 31))) fun v11 =>
f_X6_inTheWay_47_b157 N x3 x4 v11 x6 σ))))
set_option maxHeartbeats 4000000 in
set_option maxRecDepth 100000 in
theorem e_X6_inTheWay_47_h45 {N : Nat} {x3 : Int32} {x4 : Int32} {x5 : Int32} {x6 : Int32} {σ : Sg} {z : Nat × Int32 × Int32 × Sg} (C : Cx p s m args meth c cX6_inTheWay 9 (some .int) RX6 g A X) (hf : s_X6_inTheWay_47_h45 N x3 x4 x5 x6 σ = some z) (k0 : z.1 = 0 → Bk cw p l e rm_X6_inTheWay_47 s m args below meth c 9 g A Q 0 0 45 [(0, .ref (g.2.2 47)), (3, .int x3), (4, .int x4), (5, .int z.2.1), (6, .int z.2.2.1)] [] z.2.2.2) (k : ¬ z.1 = 0 → Bk cw p l e rm_X6_inTheWay_47 s m args below meth c 9 g A Q 0 0 163 [(5, .int z.2.1)] [] z.2.2.2) : Bk cw p l e rm_X6_inTheWay_47 s m args below meth c 9 g A Q 0 0 45 [(0, .ref (g.2.2 47)), (3, .int x3), (4, .int x4), (5, .int x5), (6, .int x6)] [] σ := by
  obtain ⟨hx, hb, hr, hml, hown, hts, hK, hlocks, hXX, hA, hXo⟩ := id C
  intro H locs ls hP hD hS hl
  unfold s_X6_inTheWay_47_h45 at hf
  refine lv_iload hx hb dX6_inTheWay_45 (lv_at hl 4 rfl) ?_
  refine lv_aload_n hx hb dX6_inTheWay_47 rfl (lv_at hl 0 rfl) ?_
  refine bk_get (wf := cw) (q0 := 47) (ci := 6) (k := 1) (v := .ref (g.2.2 12)) C hP wl_X6 rfl rfl (by decide) wa_132 rfl rfl dX6_inTheWay_48 ?_
  refine bk_get (wf := cw) (q0 := 12) (ci := 8) (k := 0) (v := .int (σ 12 0)) C hP wl_X9 rfl rfl (by decide) wa_473 rfl rfl dX6_inTheWay_51 ?_
  refine lv_icmp_ge (tgt := 163) hx hb dX6_inTheWay_54 (by decide) (fun t54 => ?_) (fun t54 => ?_)
  · have hf := (if_pos t54).symm.trans hf
    cases hf
    exact (k (show ¬ (1 : Nat) = 0 by decide)) H locs ls hP hD hS (lv_sub hl [3] rfl)
  · have hf := (if_neg t54).symm.trans hf
    refine lv_aload_n hx hb dX6_inTheWay_57 rfl (lv_at hl 0 rfl) ?_
    refine bk_get (wf := cw) (q0 := 47) (ci := 6) (k := 1) (v := .ref (g.2.2 12)) C hP wl_X6 rfl rfl (by decide) wa_132 rfl rfl dX6_inTheWay_58 ?_
    refine bk_get (wf := cw) (q0 := 12) (ci := 8) (k := 1) (v := .ref (g.2.2 13)) C hP wl_X9 rfl rfl (by decide) wa_483 rfl rfl dX6_inTheWay_61 ?_
    refine lv_iload hx hb dX6_inTheWay_64 (lv_at hl 4 rfl) ?_
    obtain ⟨g2, hf⟩ := gd_s hf
    refine bk_iald (wf := cw) (q0 := 13) (n := 9) (j := x6.toNatClampNeg) C hP rfl g2 rfl dX6_inTheWay_66 ?_
    refine lv_aload_n hx hb dX6_inTheWay_67 rfl (lv_at hl 0 rfl) ?_
    refine bk_get (wf := cw) (q0 := 47) (ci := 6) (k := 1) (v := .ref (g.2.2 12)) C hP wl_X6 rfl rfl (by decide) wa_132 rfl rfl dX6_inTheWay_68 ?_
    refine bk_get (wf := cw) (q0 := 12) (ci := 8) (k := 1) (v := .ref (g.2.2 13)) C hP wl_X9 rfl rfl (by decide) wa_483 rfl rfl dX6_inTheWay_71 ?_
    refine lv_iload_n hx hb dX6_inTheWay_74 rfl (lv_at hl 1 rfl) ?_
    obtain ⟨g3, hf⟩ := gd_s hf
    refine bk_iald (wf := cw) (q0 := 13) (n := 9) (j := x3.toNatClampNeg) C hP rfl g3 rfl dX6_inTheWay_75 ?_
    refine lv_isub hx hb dX6_inTheWay_76 ?_
    obtain ⟨v4, ev4, hf⟩ := bd_s hf
    rw [← ev4]
    refine lv_istore (lv' := [(7, .int v4), (0, .ref (g.2.2 47)), (3, .int x3), (4, .int x4), (5, .int x5), (6, .int x6)]) hx hb dX6_inTheWay_77 hl (by decide) rfl (fun ls hl => ?_)
    refine lv_aload_n hx hb dX6_inTheWay_79 rfl (lv_at hl 1 rfl) ?_
    refine bk_get (wf := cw) (q0 := 47) (ci := 6) (k := 1) (v := .ref (g.2.2 12)) C hP wl_X6 rfl rfl (by decide) wa_132 rfl rfl dX6_inTheWay_80 ?_
    refine bk_get (wf := cw) (q0 := 12) (ci := 8) (k := 1) (v := .ref (g.2.2 13)) C hP wl_X9 rfl rfl (by decide) wa_483 rfl rfl dX6_inTheWay_83 ?_
    refine lv_iload hx hb dX6_inTheWay_86 (lv_at hl 3 rfl) ?_
    obtain ⟨g5, hf⟩ := gd_s hf
    refine bk_iald (wf := cw) (q0 := 13) (n := 9) (j := x4.toNatClampNeg) C hP rfl g5 rfl dX6_inTheWay_88 ?_
    refine lv_aload_n hx hb dX6_inTheWay_89 rfl (lv_at hl 1 rfl) ?_
    refine bk_get (wf := cw) (q0 := 47) (ci := 6) (k := 1) (v := .ref (g.2.2 12)) C hP wl_X6 rfl rfl (by decide) wa_132 rfl rfl dX6_inTheWay_90 ?_
    refine bk_get (wf := cw) (q0 := 12) (ci := 8) (k := 1) (v := .ref (g.2.2 13)) C hP wl_X9 rfl rfl (by decide) wa_483 rfl rfl dX6_inTheWay_93 ?_
    refine lv_iload hx hb dX6_inTheWay_96 (lv_at hl 5 rfl) ?_
    obtain ⟨g6, hf⟩ := gd_s hf
    refine bk_iald (wf := cw) (q0 := 13) (n := 9) (j := x6.toNatClampNeg) C hP rfl g6 rfl dX6_inTheWay_98 ?_
    refine lv_isub hx hb dX6_inTheWay_99 ?_
    obtain ⟨v7, ev7, hf⟩ := bd_s hf
    rw [← ev7]
    refine lv_istore (lv' := [(8, .int v7), (7, .int v4), (0, .ref (g.2.2 47)), (3, .int x3), (4, .int x4), (5, .int x5), (6, .int x6)]) hx hb dX6_inTheWay_100 hl (by decide) rfl (fun ls hl => ?_)
    refine lv_iload hx hb dX6_inTheWay_102 (lv_at hl 1 rfl) ?_
    refine lv_if_le (tgt := 157) hx hb dX6_inTheWay_104 (by decide) (fun t104 => ?_) (fun t104 => ?_)
    · have hf := (if_pos t104).symm.trans hf
      exact b_X6_inTheWay_47_b157 C hf k0 k H locs ls hP hD hS (lv_sub hl [2, 3, 4, 5, 6] rfl)
    · have hf := (if_neg t104).symm.trans hf
      refine lv_iload hx hb dX6_inTheWay_107 (lv_at hl 0 rfl) ?_
      refine lv_if_le (tgt := 157) hx hb dX6_inTheWay_109 (by decide) (fun t109 => ?_) (fun t109 => ?_)
      · have hf := (if_pos t109).symm.trans hf
        exact b_X6_inTheWay_47_b157 C hf k0 k H locs ls hP hD hS (lv_sub hl [2, 3, 4, 5, 6] rfl)
      · have hf := (if_neg t109).symm.trans hf
        refine lv_aload_n hx hb dX6_inTheWay_112 rfl (lv_at hl 2 rfl) ?_
        refine bk_get (wf := cw) (q0 := 47) (ci := 6) (k := 0) (v := .ref (g.2.2 48)) C hP wl_X6 rfl rfl (by decide) wa_130 rfl rfl dX6_inTheWay_113 ?_
        refine lv_iload hx hb dX6_inTheWay_116 (lv_at hl 6 rfl) ?_
        obtain ⟨g8, hf⟩ := gd_s hf
        refine bk_iald (wf := cw) (q0 := 48) (n := 9) (j := x6.toNatClampNeg) C hP rfl g8 rfl dX6_inTheWay_118 ?_
        refine lv_iload hx hb dX6_inTheWay_119 (lv_at hl 1 rfl) ?_
        refine lv_iload hx hb dX6_inTheWay_121 (lv_at hl 0 rfl) ?_
        refine lv_iadd hx hb dX6_inTheWay_123 ?_
        refine lv_imul hx hb dX6_inTheWay_124 ?_
        refine lv_aload_n hx hb dX6_inTheWay_125 rfl (lv_at hl 2 rfl) ?_
        refine bk_get (wf := cw) (q0 := 47) (ci := 6) (k := 0) (v := .ref (g.2.2 48)) C hP wl_X6 rfl rfl (by decide) wa_130 rfl rfl dX6_inTheWay_126 ?_
        refine lv_iload_n hx hb dX6_inTheWay_129 rfl (lv_at hl 3 rfl) ?_
        obtain ⟨g9, hf⟩ := gd_s hf
        refine bk_iald (wf := cw) (q0 := 48) (n := 9) (j := x3.toNatClampNeg) C hP rfl g9 rfl dX6_inTheWay_130 ?_
        refine lv_iload hx hb dX6_inTheWay_131 (lv_at hl 0 rfl) ?_
        refine lv_imul hx hb dX6_inTheWay_133 ?_
        refine lv_aload_n hx hb dX6_inTheWay_134 rfl (lv_at hl 2 rfl) ?_
        refine bk_get (wf := cw) (q0 := 47) (ci := 6) (k := 0) (v := .ref (g.2.2 48)) C hP wl_X6 rfl rfl (by decide) wa_130 rfl rfl dX6_inTheWay_135 ?_
        refine lv_iload hx hb dX6_inTheWay_138 (lv_at hl 4 rfl) ?_
        obtain ⟨g10, hf⟩ := gd_s hf
        refine bk_iald (wf := cw) (q0 := 48) (n := 9) (j := x4.toNatClampNeg) C hP rfl g10 rfl dX6_inTheWay_140 ?_
        refine lv_iload hx hb dX6_inTheWay_141 (lv_at hl 1 rfl) ?_
        refine lv_imul hx hb dX6_inTheWay_143 ?_
        refine lv_iadd hx hb dX6_inTheWay_144 ?_
        refine lv_icmp_lt (tgt := 157) hx hb dX6_inTheWay_145 (by decide) (fun t145 => ?_) (fun t145 => ?_)
        · have hf := (if_pos t145).symm.trans hf
          exact b_X6_inTheWay_47_b157 C hf k0 k H locs ls hP hD hS (lv_sub hl [2, 3, 4, 5, 6] rfl)
        · have hf := (if_neg t145).symm.trans hf
          refine lv_iload hx hb dX6_inTheWay_148 (lv_at hl 5 rfl) ?_
          refine lv_iconst (v := (1 : Int32)) hx hb dX6_inTheWay_150 (by decide) ?_
          refine lv_iload hx hb dX6_inTheWay_151 (lv_at hl 6 rfl) ?_
          refine lv_ishl hx hb dX6_inTheWay_153 ?_
          refine lv_ior hx hb dX6_inTheWay_154 ?_
          obtain ⟨v11, ev11, hf⟩ := bd_s hf
          rw [← ev11]
          refine lv_istore (lv' := [(5, .int v11), (8, .int v7), (7, .int v4), (0, .ref (g.2.2 47)), (3, .int x3), (4, .int x4), (6, .int x6)]) hx hb dX6_inTheWay_155 hl (by decide) rfl (fun ls hl => ?_)
          exact b_X6_inTheWay_47_b157 C hf k0 k H locs ls hP hD hS (lv_sub hl [3, 4, 5, 0, 6] rfl)
theorem lp_X6_inTheWay_47_h45 {N n : Nat} {x3 : Int32} {x4 : Int32} {x5 : Int32} {x6 : Int32} {σ : Sg} {z : Nat × Int32 × Int32 × Sg} (C : Cx p s m args meth c cX6_inTheWay 9 (some .int) RX6 g A X) (hz : it (fun q => s_X6_inTheWay_47_h45 N x3 x4 q.1 q.2.1 q.2.2) n (x5, x6, σ) = some z) (k : Bk cw p l e rm_X6_inTheWay_47 s m args below meth c 9 g A Q 0 0 163 [(5, .int z.2.1)] [] z.2.2.2) : Bk cw p l e rm_X6_inTheWay_47 s m args below meth c 9 g A Q 0 0 45 [(0, .ref (g.2.2 47)), (3, .int x3), (4, .int x4), (5, .int x5), (6, .int x6)] [] σ :=
  it_W (S := Int32 × Int32 × Sg) (fun q => Bk cw p l e rm_X6_inTheWay_47 s m args below meth c 9 g A Q 0 0 45 [(0, .ref (g.2.2 47)), (3, .int x3), (4, .int x4), (5, .int q.1), (6, .int q.2.1)] [] q.2.2) (fun z => Bk cw p l e rm_X6_inTheWay_47 s m args below meth c 9 g A Q 0 0 163 [(5, .int z.2.1)] [] z.2.2.2) (fun q z hq k0 k => e_X6_inTheWay_47_h45 C hq k0 k) n (x5, x6, σ) z hz k
def f_X6_inTheWay_47_b37 (N : Nat) (x3 : Int32) (t0 : Int32) (σ : Sg) : Option (Int32 × Sg) :=
(it (fun q => s_X6_inTheWay_47_h45 N x3 t0 q.1 q.2.1 q.2.2) N ((0 : Int32), (0 : Int32), σ)).bind fun z12 =>
some ((z12.2.1), (z12.2.2.2))
set_option maxHeartbeats 4000000 in
set_option maxRecDepth 100000 in
theorem b_X6_inTheWay_47_b37 {N : Nat} {x3 : Int32} {t0 : Int32} {σ : Sg} {z : Int32 × Sg} (C : Cx p s m args meth c cX6_inTheWay 9 (some .int) RX6 g A X) (hf : f_X6_inTheWay_47_b37 N x3 t0 σ = some z) : Bk cw p l e rm_X6_inTheWay_47 s m args below meth c 9 g A (MQ below (qI cw g A z.1 z.2) args s 0 0 A) 0 0 37 [(0, .ref (g.2.2 47)), (3, .int x3)] [.int t0] σ := by
  obtain ⟨hx, hb, hr, hml, hown, hts, hK, hlocks, hXX, hA, hXo⟩ := id C
  intro H locs ls hP hD hS hl
  unfold f_X6_inTheWay_47_b37 at hf
  refine lv_istore (lv' := [(4, .int t0), (0, .ref (g.2.2 47)), (3, .int x3)]) hx hb dX6_inTheWay_37 hl (by decide) rfl (fun ls hl => ?_)
  refine lv_iconst (v := (0 : Int32)) hx hb dX6_inTheWay_39 (by decide) ?_
  refine lv_istore (lv' := [(5, .int (0 : Int32)), (4, .int t0), (0, .ref (g.2.2 47)), (3, .int x3)]) hx hb dX6_inTheWay_40 hl (by decide) rfl (fun ls hl => ?_)
  refine lv_iconst (v := (0 : Int32)) hx hb dX6_inTheWay_42 (by decide) ?_
  refine lv_istore (lv' := [(6, .int (0 : Int32)), (5, .int (0 : Int32)), (4, .int t0), (0, .ref (g.2.2 47)), (3, .int x3)]) hx hb dX6_inTheWay_43 hl (by decide) rfl (fun ls hl => ?_)
  obtain ⟨z12, hz12, hf⟩ := bi_s hf
  refine lp_X6_inTheWay_47_h45 C hz12 ?_ H locs ls hP hD hS (lv_sub hl [3, 4, 2, 1, 0] rfl)
  intro H locs ls hP hD hS hl
  refine lv_iload hx hb dX6_inTheWay_163 (lv_at hl 0 rfl) ?_
  cases hf
  exact bk_iret C hP hD hS rfl dX6_inTheWay_165
def f_X6_inTheWay_47_b26 (N : Nat) (x1 : Int32) (x2 : Int32) (t0 : Int32) (σ : Sg) : Option (Int32 × Sg) :=
if t0 = x1 then (f_X6_inTheWay_47_b37 N t0 x2 σ)
else (f_X6_inTheWay_47_b37 N t0 x1 σ)
set_option maxHeartbeats 4000000 in
set_option maxRecDepth 100000 in
theorem b_X6_inTheWay_47_b26 {N : Nat} {x1 : Int32} {x2 : Int32} {t0 : Int32} {σ : Sg} {z : Int32 × Sg} (C : Cx p s m args meth c cX6_inTheWay 9 (some .int) RX6 g A X) (hf : f_X6_inTheWay_47_b26 N x1 x2 t0 σ = some z) : Bk cw p l e rm_X6_inTheWay_47 s m args below meth c 9 g A (MQ below (qI cw g A z.1 z.2) args s 0 0 A) 0 0 26 [(0, .ref (g.2.2 47)), (1, .int x1), (2, .int x2)] [.int t0] σ := by
  obtain ⟨hx, hb, hr, hml, hown, hts, hK, hlocks, hXX, hA, hXo⟩ := id C
  intro H locs ls hP hD hS hl
  unfold f_X6_inTheWay_47_b26 at hf
  refine lv_istore_n (lv' := [(3, .int t0), (0, .ref (g.2.2 47)), (1, .int x1), (2, .int x2)]) hx hb dX6_inTheWay_26 rfl hl (by decide) rfl (fun ls hl => ?_)
  refine lv_iload_n hx hb dX6_inTheWay_27 rfl (lv_at hl 0 rfl) ?_
  refine lv_iload_n hx hb dX6_inTheWay_28 rfl (lv_at hl 2 rfl) ?_
  refine lv_icmp_ne (tgt := 36) hx hb dX6_inTheWay_29 (by decide) (fun t29 => ?_) (fun t29 => ?_)
  · have hf := (if_neg t29).symm.trans hf
    refine lv_iload_n hx hb dX6_inTheWay_36 rfl (lv_at hl 2 rfl) ?_
    exact b_X6_inTheWay_47_b37 C hf H locs ls hP hD hS (lv_sub hl [1, 0] rfl)
  · have hf := (if_pos t29).symm.trans hf
    refine lv_iload_n hx hb dX6_inTheWay_32 rfl (lv_at hl 3 rfl) ?_
    refine lv_goto (tgt := 37) hx hb dX6_inTheWay_33 (by decide) ?_
    exact b_X6_inTheWay_47_b37 C hf H locs ls hP hD hS (lv_sub hl [1, 0] rfl)
def f_X6_inTheWay_47 (N : Nat) (x1 : Int32) (x2 : Int32) (σ : Sg) : Option (Int32 × Sg) :=
if (x1 < 0 ∨ 9 ≤ x1.toNatClampNeg) then none else
if (x2 < 0 ∨ 9 ≤ x2.toNatClampNeg) then none else
if (σ 13 x2.toNatClampNeg) ≤ (σ 13 x1.toNatClampNeg) then (f_X6_inTheWay_47_b26 N x1 x2 x2 σ)
else (f_X6_inTheWay_47_b26 N x1 x2 x1 σ)
set_option maxHeartbeats 4000000 in
set_option maxRecDepth 100000 in
theorem b_X6_inTheWay_47 {N : Nat} {x1 : Int32} {x2 : Int32} {σ : Sg} {z : Int32 × Sg} (C : Cx p s m args meth c cX6_inTheWay 9 (some .int) RX6 g A X) (hf : f_X6_inTheWay_47 N x1 x2 σ = some z) : Bk cw p l e rm_X6_inTheWay_47 s m args below meth c 9 g A (MQ below (qI cw g A z.1 z.2) args s 0 0 A) 0 0 0 [(0, .ref (g.2.2 47)), (1, .int x1), (2, .int x2)] [] σ := by
  obtain ⟨hx, hb, hr, hml, hown, hts, hK, hlocks, hXX, hA, hXo⟩ := id C
  intro H locs ls hP hD hS hl
  unfold f_X6_inTheWay_47 at hf
  refine lv_aload_n hx hb dX6_inTheWay_0 rfl (lv_at hl 0 rfl) ?_
  refine bk_get (wf := cw) (q0 := 47) (ci := 6) (k := 1) (v := .ref (g.2.2 12)) C hP wl_X6 rfl rfl (by decide) wa_132 rfl rfl dX6_inTheWay_1 ?_
  refine bk_get (wf := cw) (q0 := 12) (ci := 8) (k := 1) (v := .ref (g.2.2 13)) C hP wl_X9 rfl rfl (by decide) wa_483 rfl rfl dX6_inTheWay_4 ?_
  refine lv_iload_n hx hb dX6_inTheWay_7 rfl (lv_at hl 1 rfl) ?_
  obtain ⟨g13, hf⟩ := gd_s hf
  refine bk_iald (wf := cw) (q0 := 13) (n := 9) (j := x1.toNatClampNeg) C hP rfl g13 rfl dX6_inTheWay_8 ?_
  refine lv_aload_n hx hb dX6_inTheWay_9 rfl (lv_at hl 0 rfl) ?_
  refine bk_get (wf := cw) (q0 := 47) (ci := 6) (k := 1) (v := .ref (g.2.2 12)) C hP wl_X6 rfl rfl (by decide) wa_132 rfl rfl dX6_inTheWay_10 ?_
  refine bk_get (wf := cw) (q0 := 12) (ci := 8) (k := 1) (v := .ref (g.2.2 13)) C hP wl_X9 rfl rfl (by decide) wa_483 rfl rfl dX6_inTheWay_13 ?_
  refine lv_iload_n hx hb dX6_inTheWay_16 rfl (lv_at hl 2 rfl) ?_
  obtain ⟨g14, hf⟩ := gd_s hf
  refine bk_iald (wf := cw) (q0 := 13) (n := 9) (j := x2.toNatClampNeg) C hP rfl g14 rfl dX6_inTheWay_17 ?_
  refine lv_icmp_ge (tgt := 25) hx hb dX6_inTheWay_18 (by decide) (fun t18 => ?_) (fun t18 => ?_)
  · have hf := (if_pos t18).symm.trans hf
    refine lv_iload_n hx hb dX6_inTheWay_25 rfl (lv_at hl 2 rfl) ?_
    exact b_X6_inTheWay_47_b26 C hf H locs ls hP hD hS (lv_sub hl [0, 1, 2] rfl)
  · have hf := (if_neg t18).symm.trans hf
    refine lv_iload_n hx hb dX6_inTheWay_21 rfl (lv_at hl 1 rfl) ?_
    refine lv_goto (tgt := 26) hx hb dX6_inTheWay_22 (by decide) ?_
    exact b_X6_inTheWay_47_b26 C hf H locs ls hP hD hS (lv_sub hl [0, 1, 2] rfl)
theorem c_X6_inTheWay_47 {N : Nat} {x1 : Int32} {x2 : Int32} {σ : Sg} {z : Int32 × Sg} (hX : xOK g X) (hf : f_X6_inTheWay_47 N x1 x2 σ = some z) : MetI l yX6_inTheWay (Cond.code yX6_inTheWay cX6_inTheWay 9 (some .int) :: wsA) rm_X6_inTheWay_47 cw g X [.ref (g.2.2 47), .int x1, .int x2] σ z.1 z.2 :=
  MetI_of hX (by decide) (Nat.le_of_ble_eq_true rfl) (fun p e s m args below meth c A C => b_X6_inTheWay_47 C hf)
-- X6_isNear_47: isNear(III)Z
abbrev rm_X6_isNear_47 : Room := { frames := 2, cells := 0, slots := 0, locals := 46 }
theorem nd_X6_isNear : yX6_isNear.cls ≠ "java/lang/invoke/MethodHandle" ∧ yX6_isNear.cls ≠ "java/lang/invoke/VarHandle" ∧ (parseMethodDescriptor yX6_isNear.desc).map (fun d => d.parameters.length) = some 3 := by decide +kernel
def f_X6_isNear_47 (N : Nat) (x1 : Int32) (x2 : Int32) (x3 : Int32) (σ : Sg) : Option (Int32 × Sg) :=
(f_X9_away_12 N x1 x2 σ).bind fun q1 =>
if (((q1.2) 12 6) - ((9 : Int32) * x3)) < q1.1 then (some ((0 : Int32), (q1.2)))
else (some ((1 : Int32), (q1.2)))
set_option maxHeartbeats 4000000 in
set_option maxRecDepth 100000 in
theorem b_X6_isNear_47 {N : Nat} {x1 : Int32} {x2 : Int32} {x3 : Int32} {σ : Sg} {z : Int32 × Sg} (C : Cx p s m args meth c cX6_isNear 4 (some .boolean) RX6 g A X) (hf : f_X6_isNear_47 N x1 x2 x3 σ = some z) : Bk cw p l e rm_X6_isNear_47 s m args below meth c 4 g A (MQ below (qI cw g A z.1 z.2) args s 0 0 A) 0 0 0 [(0, .ref (g.2.2 47)), (1, .int x1), (2, .int x2), (3, .int x3)] [] σ := by
  obtain ⟨hx, hb, hr, hml, hown, hts, hK, hlocks, hXX, hA, hXo⟩ := id C
  intro H locs ls hP hD hS hl
  unfold f_X6_isNear_47 at hf
  refine lv_aload_n hx hb dX6_isNear_0 rfl (lv_at hl 0 rfl) ?_
  refine bk_get (wf := cw) (q0 := 47) (ci := 6) (k := 1) (v := .ref (g.2.2 12)) C hP wl_X6 rfl rfl (by decide) wa_132 rfl rfl dX6_isNear_1 ?_
  refine lv_iload_n hx hb dX6_isNear_4 rfl (lv_at hl 1 rfl) ?_
  refine lv_iload_n hx hb dX6_isNear_5 rfl (lv_at hl 2 rfl) ?_
  obtain ⟨q1, hq1, hf⟩ := bi_s hf
  refine bk_VI (wf := cw) (q0 := 12) (ci := 8) (rest := []) [.int x1, .int x2] C hP hD hS hl.1 (c_X9_away_12 hXo hq1) (cwA_V 2 hts wa_496 wa_493 wa_494 wa_495 wa_22 rfl rfl nd_X9_away ⟨Nat.le_of_ble_eq_true rfl, Nat.le_of_ble_eq_true rfl⟩) rfl rfl rfl rfl (Nat.le_of_ble_eq_true rfl) dX6_isNear_6 ⟨Nat.le_of_ble_eq_true rfl, Nat.le_of_ble_eq_true rfl⟩ (fun H locs hP hD hS => ?_)
  refine lv_aload_n hx hb dX6_isNear_9 rfl (lv_at hl 0 rfl) ?_
  refine bk_get (wf := cw) (q0 := 47) (ci := 6) (k := 1) (v := .ref (g.2.2 12)) C hP wl_X6 rfl rfl (by decide) wa_132 rfl rfl dX6_isNear_10 ?_
  refine bk_get (wf := cw) (q0 := 12) (ci := 8) (k := 6) (v := .int ((q1.2) 12 6)) C hP wl_X9 rfl rfl (by decide) wa_492 rfl rfl dX6_isNear_13 ?_
  refine lv_bipush (v := (9 : Int32)) hx hb dX6_isNear_16 (by decide) ?_
  refine lv_iload_n hx hb dX6_isNear_18 rfl (lv_at hl 3 rfl) ?_
  refine lv_imul hx hb dX6_isNear_19 ?_
  refine lv_isub hx hb dX6_isNear_20 ?_
  refine lv_icmp_gt (tgt := 28) hx hb dX6_isNear_21 (by decide) (fun t21 => ?_) (fun t21 => ?_)
  · have hf := (if_pos t21).symm.trans hf
    refine lv_iconst (v := (0 : Int32)) hx hb dX6_isNear_28 (by decide) ?_
    cases hf
    exact bk_zret C hP hD hS (by decide) rfl dX6_isNear_29
  · have hf := (if_neg t21).symm.trans hf
    refine lv_iconst (v := (1 : Int32)) hx hb dX6_isNear_24 (by decide) ?_
    refine lv_goto (tgt := 29) hx hb dX6_isNear_25 (by decide) ?_
    cases hf
    exact bk_zret C hP hD hS (by decide) rfl dX6_isNear_29
theorem c_X6_isNear_47 {N : Nat} {x1 : Int32} {x2 : Int32} {x3 : Int32} {σ : Sg} {z : Int32 × Sg} (hX : xOK g X) (hf : f_X6_isNear_47 N x1 x2 x3 σ = some z) : MetI l yX6_isNear (Cond.code yX6_isNear cX6_isNear 4 (some .boolean) :: wsA) rm_X6_isNear_47 cw g X [.ref (g.2.2 47), .int x1, .int x2, .int x3] σ z.1 z.2 :=
  MetI_of hX (by decide) (Nat.le_of_ble_eq_true rfl) (fun p e s m args below meth c A C => b_X6_isNear_47 C hf)
-- X6_mark_47: mark(II)V
abbrev rm_X6_mark_47 : Room := { frames := 3, cells := 0, slots := 0, locals := 69 }
theorem nd_X6_mark : yX6_mark.cls ≠ "java/lang/invoke/MethodHandle" ∧ yX6_mark.cls ≠ "java/lang/invoke/VarHandle" ∧ (parseMethodDescriptor yX6_mark.desc).map (fun d => d.parameters.length) = some 2 := by decide +kernel
def s_X6_mark_47_h2 (N : Nat) (x1 : Int32) (x2 : Int32) (x3 : Int32) (σ : Sg) : Option (Nat × Int32 × Sg) :=
if (9 : Int32) < x3 then (some (1, 0, σ))
else ((f_X6_isNear_47 N x1 x2 x3 σ).bind fun q1 =>
if q1.1 = 0 then (some (1, 0, (q1.2)))
else (if (((x3 * (9 : Int32)) + x1) < 0 ∨ 90 ≤ ((x3 * (9 : Int32)) + x1).toNatClampNeg) then none else
if (((x3 * (9 : Int32)) + x1) < 0 ∨ 90 ≤ ((x3 * (9 : Int32)) + x1).toNatClampNeg) then none else
bd (wr (q1.2) 49 (((x3 * (9 : Int32)) + x1).toNatClampNeg) (((q1.2) 49 ((x3 * (9 : Int32)) + x1).toNatClampNeg) ||| ((1 : Int32) <<< (x2 &&& 31)))) fun σ4 =>
if (((x3 * (9 : Int32)) + x2) < 0 ∨ 90 ≤ ((x3 * (9 : Int32)) + x2).toNatClampNeg) then none else
if (((x3 * (9 : Int32)) + x2) < 0 ∨ 90 ≤ ((x3 * (9 : Int32)) + x2).toNatClampNeg) then none else
bd (wr σ4 49 (((x3 * (9 : Int32)) + x2).toNatClampNeg) ((σ4 49 ((x3 * (9 : Int32)) + x2).toNatClampNeg) ||| ((1 : Int32) <<< (x1 &&& 31)))) fun σ7 =>
bd (x3 + (1 : Int32)) fun v8 =>
some (0, v8, σ7)))
set_option maxHeartbeats 4000000 in
set_option maxRecDepth 100000 in
theorem e_X6_mark_47_h2 {N : Nat} {x1 : Int32} {x2 : Int32} {x3 : Int32} {σ : Sg} {z : Nat × Int32 × Sg} (C : Cx p s m args meth c cX6_mark 4 none RX6 g A X) (hf : s_X6_mark_47_h2 N x1 x2 x3 σ = some z) (k0 : z.1 = 0 → Bk cw p l e rm_X6_mark_47 s m args below meth c 4 g A Q 0 0 2 [(0, .ref (g.2.2 47)), (1, .int x1), (2, .int x2), (3, .int z.2.1)] [] z.2.2) (k : ¬ z.1 = 0 → Bk cw p l e rm_X6_mark_47 s m args below meth c 4 g A Q 0 0 58 [] [] z.2.2) : Bk cw p l e rm_X6_mark_47 s m args below meth c 4 g A Q 0 0 2 [(0, .ref (g.2.2 47)), (1, .int x1), (2, .int x2), (3, .int x3)] [] σ := by
  obtain ⟨hx, hb, hr, hml, hown, hts, hK, hlocks, hXX, hA, hXo⟩ := id C
  intro H locs ls hP hD hS hl
  unfold s_X6_mark_47_h2 at hf
  refine lv_iload_n hx hb dX6_mark_2 rfl (lv_at hl 3 rfl) ?_
  refine lv_bipush (v := (9 : Int32)) hx hb dX6_mark_3 (by decide) ?_
  refine lv_icmp_gt (tgt := 58) hx hb dX6_mark_5 (by decide) (fun t5 => ?_) (fun t5 => ?_)
  · have hf := (if_pos t5).symm.trans hf
    cases hf
    exact (k (show ¬ (1 : Nat) = 0 by decide)) H locs ls hP hD hS (lv_sub hl [] rfl)
  · have hf := (if_neg t5).symm.trans hf
    refine lv_aload_n hx hb dX6_mark_8 rfl (lv_at hl 0 rfl) ?_
    refine lv_iload_n hx hb dX6_mark_9 rfl (lv_at hl 1 rfl) ?_
    refine lv_iload_n hx hb dX6_mark_10 rfl (lv_at hl 2 rfl) ?_
    refine lv_iload_n hx hb dX6_mark_11 rfl (lv_at hl 3 rfl) ?_
    obtain ⟨q1, hq1, hf⟩ := bi_s hf
    refine bk_VI (wf := cw) (q0 := 47) (ci := 6) (rest := []) [.int x1, .int x2, .int x3] C hP hD hS hl.1 (c_X6_isNear_47 hXo hq1) (cwA_V 3 hts wa_491 wa_488 wa_489 wa_490 wa_32 rfl rfl nd_X6_isNear ⟨Nat.le_of_ble_eq_true rfl, Nat.le_of_ble_eq_true rfl⟩) rfl rfl rfl rfl (Nat.le_of_ble_eq_true rfl) dX6_mark_12 ⟨Nat.le_of_ble_eq_true rfl, Nat.le_of_ble_eq_true rfl⟩ (fun H locs hP hD hS => ?_)
    refine lv_if_eq (tgt := 58) hx hb dX6_mark_15 (by decide) (fun t15 => ?_) (fun t15 => ?_)
    · have hf := (if_pos t15).symm.trans hf
      cases hf
      exact (k (show ¬ (1 : Nat) = 0 by decide)) H locs ls hP hD hS (lv_sub hl [] rfl)
    · have hf := (if_neg t15).symm.trans hf
      refine lv_aload_n hx hb dX6_mark_18 rfl (lv_at hl 0 rfl) ?_
      refine bk_get (wf := cw) (q0 := 47) (ci := 6) (k := 2) (v := .ref (g.2.2 49)) C hP wl_X6 rfl rfl (by decide) wa_131 rfl rfl dX6_mark_19 ?_
      refine lv_iload_n hx hb dX6_mark_22 rfl (lv_at hl 3 rfl) ?_
      refine lv_bipush (v := (9 : Int32)) hx hb dX6_mark_23 (by decide) ?_
      refine lv_imul hx hb dX6_mark_25 ?_
      refine lv_iload_n hx hb dX6_mark_26 rfl (lv_at hl 1 rfl) ?_
      refine lv_iadd hx hb dX6_mark_27 ?_
      refine lv_dup2_11 hx hb dX6_mark_28 rfl rfl ?_
      obtain ⟨g2, hf⟩ := gd_s hf
      refine bk_iald (wf := cw) (q0 := 49) (n := 90) (j := ((x3 * (9 : Int32)) + x1).toNatClampNeg) C hP rfl g2 rfl dX6_mark_29 ?_
      refine lv_iconst (v := (1 : Int32)) hx hb dX6_mark_30 (by decide) ?_
      refine lv_iload_n hx hb dX6_mark_31 rfl (lv_at hl 2 rfl) ?_
      refine lv_ishl hx hb dX6_mark_32 ?_
      refine lv_ior hx hb dX6_mark_33 ?_
      obtain ⟨g3, hf⟩ := gd_s hf
      obtain ⟨σ4, eσ4, hf⟩ := bd_s hf
      refine bk_iast (wf := cw) (σ1 := σ4) (q0 := 49) (n := 90) (j := ((x3 * (9 : Int32)) + x1).toNatClampNeg) C hP hD hS rfl g3 rfl (by rw [eσ4]; exact cw_a49 g _ _ _) dX6_mark_34 (fun H locs hP hD hS => ?_)
      refine lv_aload_n hx hb dX6_mark_35 rfl (lv_at hl 0 rfl) ?_
      refine bk_get (wf := cw) (q0 := 47) (ci := 6) (k := 2) (v := .ref (g.2.2 49)) C hP wl_X6 rfl rfl (by decide) wa_131 rfl rfl dX6_mark_36 ?_
      refine lv_iload_n hx hb dX6_mark_39 rfl (lv_at hl 3 rfl) ?_
      refine lv_bipush (v := (9 : Int32)) hx hb dX6_mark_40 (by decide) ?_
      refine lv_imul hx hb dX6_mark_42 ?_
      refine lv_iload_n hx hb dX6_mark_43 rfl (lv_at hl 2 rfl) ?_
      refine lv_iadd hx hb dX6_mark_44 ?_
      refine lv_dup2_11 hx hb dX6_mark_45 rfl rfl ?_
      obtain ⟨g5, hf⟩ := gd_s hf
      refine bk_iald (wf := cw) (q0 := 49) (n := 90) (j := ((x3 * (9 : Int32)) + x2).toNatClampNeg) C hP rfl g5 rfl dX6_mark_46 ?_
      refine lv_iconst (v := (1 : Int32)) hx hb dX6_mark_47 (by decide) ?_
      refine lv_iload_n hx hb dX6_mark_48 rfl (lv_at hl 1 rfl) ?_
      refine lv_ishl hx hb dX6_mark_49 ?_
      refine lv_ior hx hb dX6_mark_50 ?_
      obtain ⟨g6, hf⟩ := gd_s hf
      obtain ⟨σ7, eσ7, hf⟩ := bd_s hf
      refine bk_iast (wf := cw) (σ1 := σ7) (q0 := 49) (n := 90) (j := ((x3 * (9 : Int32)) + x2).toNatClampNeg) C hP hD hS rfl g6 rfl (by rw [eσ7]; exact cw_a49 g _ _ _) dX6_mark_51 (fun H locs hP hD hS => ?_)
      obtain ⟨v8, ev8, hf⟩ := bd_s hf
      refine lv_iinc (v := v8) (lv' := [(3, .int v8), (0, .ref (g.2.2 47)), (1, .int x1), (2, .int x2)]) hx hb dX6_mark_52 hl (k := 3) rfl (by rw [ev8]; rfl) (by decide) rfl (fun ls hl => ?_)
      refine lv_goto (tgt := 2) hx hb dX6_mark_55 (by decide) ?_
      cases hf
      exact k0 rfl H locs ls hP hD hS (lv_sub hl [1, 2, 3, 0] rfl)
theorem lp_X6_mark_47_h2 {N n : Nat} {x1 : Int32} {x2 : Int32} {x3 : Int32} {σ : Sg} {z : Nat × Int32 × Sg} (C : Cx p s m args meth c cX6_mark 4 none RX6 g A X) (hz : it (fun q => s_X6_mark_47_h2 N x1 x2 q.1 q.2) n (x3, σ) = some z) (k : Bk cw p l e rm_X6_mark_47 s m args below meth c 4 g A Q 0 0 58 [] [] z.2.2) : Bk cw p l e rm_X6_mark_47 s m args below meth c 4 g A Q 0 0 2 [(0, .ref (g.2.2 47)), (1, .int x1), (2, .int x2), (3, .int x3)] [] σ :=
  it_W (S := Int32 × Sg) (fun q => Bk cw p l e rm_X6_mark_47 s m args below meth c 4 g A Q 0 0 2 [(0, .ref (g.2.2 47)), (1, .int x1), (2, .int x2), (3, .int q.1)] [] q.2) (fun z => Bk cw p l e rm_X6_mark_47 s m args below meth c 4 g A Q 0 0 58 [] [] z.2.2) (fun q z hq k0 k => e_X6_mark_47_h2 C hq k0 k) n (x3, σ) z hz k
def f_X6_mark_47 (N : Nat) (x1 : Int32) (x2 : Int32) (σ : Sg) : Option (Sg) :=
(it (fun q => s_X6_mark_47_h2 N x1 x2 q.1 q.2) N ((0 : Int32), σ)).bind fun z9 =>
some (z9.2.2)
set_option maxHeartbeats 4000000 in
set_option maxRecDepth 100000 in
theorem b_X6_mark_47 {N : Nat} {x1 : Int32} {x2 : Int32} {σ : Sg} {z : Sg} (C : Cx p s m args meth c cX6_mark 4 none RX6 g A X) (hf : f_X6_mark_47 N x1 x2 σ = some z) : Bk cw p l e rm_X6_mark_47 s m args below meth c 4 g A (MQ below (qV cw g A z) args s 0 0 A) 0 0 0 [(0, .ref (g.2.2 47)), (1, .int x1), (2, .int x2)] [] σ := by
  obtain ⟨hx, hb, hr, hml, hown, hts, hK, hlocks, hXX, hA, hXo⟩ := id C
  intro H locs ls hP hD hS hl
  unfold f_X6_mark_47 at hf
  refine lv_iconst (v := (0 : Int32)) hx hb dX6_mark_0 (by decide) ?_
  refine lv_istore_n (lv' := [(3, .int (0 : Int32)), (0, .ref (g.2.2 47)), (1, .int x1), (2, .int x2)]) hx hb dX6_mark_1 rfl hl (by decide) rfl (fun ls hl => ?_)
  obtain ⟨z9, hz9, hf⟩ := bi_s hf
  refine lp_X6_mark_47_h2 C hz9 ?_ H locs ls hP hD hS (lv_sub hl [1, 2, 3, 0] rfl)
  intro H locs ls hP hD hS hl
  cases hf
  exact bk_vret C hP hD hS rfl dX6_mark_58
theorem c_X6_mark_47 {N : Nat} {x1 : Int32} {x2 : Int32} {σ : Sg} {z : Sg} (hX : xOK g X) (hf : f_X6_mark_47 N x1 x2 σ = some z) : MetV l yX6_mark (Cond.code yX6_mark cX6_mark 4 none :: wsA) rm_X6_mark_47 cw g X [.ref (g.2.2 47), .int x1, .int x2] σ z :=
  MetV_of hX (by decide) (Nat.le_of_ble_eq_true rfl) (fun p e s m args below meth c A C => b_X6_mark_47 C hf)
-- X6_takeTops_47_26: takeTops([I)V
abbrev rm_X6_takeTops_47_26 : Room := { frames := 0, cells := 0, slots := 0, locals := 0 }
theorem nd_X6_takeTops : yX6_takeTops.cls ≠ "java/lang/invoke/MethodHandle" ∧ yX6_takeTops.cls ≠ "java/lang/invoke/VarHandle" ∧ (parseMethodDescriptor yX6_takeTops.desc).map (fun d => d.parameters.length) = some 1 := by decide +kernel
def s_X6_takeTops_47_26_h2 (N : Nat) (x2 : Int32) (σ : Sg) : Option (Nat × Int32 × Sg) :=
if (9 : Int32) ≤ x2 then (some (1, 0, σ))
else (if (9 : Int32) ≤ x2 then (some (1, 0, σ))
else (if (x2 < 0 ∨ 9 ≤ x2.toNatClampNeg) then none else
if (x2 < 0 ∨ 9 ≤ x2.toNatClampNeg) then none else
if (x2 < 0 ∨ 9 ≤ x2.toNatClampNeg) then none else
bd (wr σ 48 (x2.toNatClampNeg) ((σ 14 x2.toNatClampNeg) + (σ 26 x2.toNatClampNeg))) fun σ4 =>
bd (x2 + (1 : Int32)) fun v5 =>
some (0, v5, σ4)))
set_option maxHeartbeats 4000000 in
set_option maxRecDepth 100000 in
theorem e_X6_takeTops_47_26_h2 {N : Nat} {x2 : Int32} {σ : Sg} {z : Nat × Int32 × Sg} (C : Cx p s m args meth c cX6_takeTops 3 none RX6 g A X) (hf : s_X6_takeTops_47_26_h2 N x2 σ = some z) (k0 : z.1 = 0 → Bk cw p l e rm_X6_takeTops_47_26 s m args below meth c 3 g A Q 0 0 2 [(0, .ref (g.2.2 47)), (1, .ref (g.2.2 26)), (2, .int z.2.1)] [] z.2.2) (k : ¬ z.1 = 0 → Bk cw p l e rm_X6_takeTops_47_26 s m args below meth c 3 g A Q 0 0 39 [] [] z.2.2) : Bk cw p l e rm_X6_takeTops_47_26 s m args below meth c 3 g A Q 0 0 2 [(0, .ref (g.2.2 47)), (1, .ref (g.2.2 26)), (2, .int x2)] [] σ := by
  obtain ⟨hx, hb, hr, hml, hown, hts, hK, hlocks, hXX, hA, hXo⟩ := id C
  intro H locs ls hP hD hS hl
  unfold s_X6_takeTops_47_26_h2 at hf
  refine lv_iload_n hx hb dX6_takeTops_2 rfl (lv_at hl 2 rfl) ?_
  refine lv_bipush (v := (9 : Int32)) hx hb dX6_takeTops_3 (by decide) ?_
  refine lv_icmp_ge (tgt := 39) hx hb dX6_takeTops_5 (by decide) (fun t5 => ?_) (fun t5 => ?_)
  · have hf := (if_pos t5).symm.trans hf
    cases hf
    exact (k (show ¬ (1 : Nat) = 0 by decide)) H locs ls hP hD hS (lv_sub hl [] rfl)
  · have hf := (if_neg t5).symm.trans hf
    refine lv_iload_n hx hb dX6_takeTops_8 rfl (lv_at hl 2 rfl) ?_
    refine lv_aload_n hx hb dX6_takeTops_9 rfl (lv_at hl 1 rfl) ?_
    refine bk_alen (wf := cw) (q0 := 26) (t0 := 0) (v := (9 : Int32)) C hP rfl rfl (show Int32.ofNat 9 = (9 : Int32) by decide) dX6_takeTops_10 ?_
    refine lv_icmp_ge (tgt := 39) hx hb dX6_takeTops_11 (by decide) (fun t11 => ?_) (fun t11 => ?_)
    · have hf := (if_pos t11).symm.trans hf
      cases hf
      exact (k (show ¬ (1 : Nat) = 0 by decide)) H locs ls hP hD hS (lv_sub hl [] rfl)
    · have hf := (if_neg t11).symm.trans hf
      refine lv_aload_n hx hb dX6_takeTops_14 rfl (lv_at hl 0 rfl) ?_
      refine bk_get (wf := cw) (q0 := 47) (ci := 6) (k := 0) (v := .ref (g.2.2 48)) C hP wl_X6 rfl rfl (by decide) wa_130 rfl rfl dX6_takeTops_15 ?_
      refine lv_iload_n hx hb dX6_takeTops_18 rfl (lv_at hl 2 rfl) ?_
      refine lv_aload_n hx hb dX6_takeTops_19 rfl (lv_at hl 0 rfl) ?_
      refine bk_get (wf := cw) (q0 := 47) (ci := 6) (k := 1) (v := .ref (g.2.2 12)) C hP wl_X6 rfl rfl (by decide) wa_132 rfl rfl dX6_takeTops_20 ?_
      refine bk_get (wf := cw) (q0 := 12) (ci := 8) (k := 2) (v := .ref (g.2.2 14)) C hP wl_X9 rfl rfl (by decide) wa_478 rfl rfl dX6_takeTops_23 ?_
      refine lv_iload_n hx hb dX6_takeTops_26 rfl (lv_at hl 2 rfl) ?_
      obtain ⟨g1, hf⟩ := gd_s hf
      refine bk_iald (wf := cw) (q0 := 14) (n := 9) (j := x2.toNatClampNeg) C hP rfl g1 rfl dX6_takeTops_27 ?_
      refine lv_aload_n hx hb dX6_takeTops_28 rfl (lv_at hl 1 rfl) ?_
      refine lv_iload_n hx hb dX6_takeTops_29 rfl (lv_at hl 2 rfl) ?_
      obtain ⟨g2, hf⟩ := gd_s hf
      refine bk_iald (wf := cw) (q0 := 26) (n := 9) (j := x2.toNatClampNeg) C hP rfl g2 rfl dX6_takeTops_30 ?_
      refine lv_iadd hx hb dX6_takeTops_31 ?_
      obtain ⟨g3, hf⟩ := gd_s hf
      obtain ⟨σ4, eσ4, hf⟩ := bd_s hf
      refine bk_iast (wf := cw) (σ1 := σ4) (q0 := 48) (n := 9) (j := x2.toNatClampNeg) C hP hD hS rfl g3 rfl (by rw [eσ4]; exact cw_a48 g _ _ _) dX6_takeTops_32 (fun H locs hP hD hS => ?_)
      obtain ⟨v5, ev5, hf⟩ := bd_s hf
      refine lv_iinc (v := v5) (lv' := [(2, .int v5), (0, .ref (g.2.2 47)), (1, .ref (g.2.2 26))]) hx hb dX6_takeTops_33 hl (k := 2) rfl (by rw [ev5]; rfl) (by decide) rfl (fun ls hl => ?_)
      refine lv_goto (tgt := 2) hx hb dX6_takeTops_36 (by decide) ?_
      cases hf
      exact k0 rfl H locs ls hP hD hS (lv_sub hl [1, 2, 0] rfl)
theorem lp_X6_takeTops_47_26_h2 {N n : Nat} {x2 : Int32} {σ : Sg} {z : Nat × Int32 × Sg} (C : Cx p s m args meth c cX6_takeTops 3 none RX6 g A X) (hz : it (fun q => s_X6_takeTops_47_26_h2 N q.1 q.2) n (x2, σ) = some z) (k : Bk cw p l e rm_X6_takeTops_47_26 s m args below meth c 3 g A Q 0 0 39 [] [] z.2.2) : Bk cw p l e rm_X6_takeTops_47_26 s m args below meth c 3 g A Q 0 0 2 [(0, .ref (g.2.2 47)), (1, .ref (g.2.2 26)), (2, .int x2)] [] σ :=
  it_W (S := Int32 × Sg) (fun q => Bk cw p l e rm_X6_takeTops_47_26 s m args below meth c 3 g A Q 0 0 2 [(0, .ref (g.2.2 47)), (1, .ref (g.2.2 26)), (2, .int q.1)] [] q.2) (fun z => Bk cw p l e rm_X6_takeTops_47_26 s m args below meth c 3 g A Q 0 0 39 [] [] z.2.2) (fun q z hq k0 k => e_X6_takeTops_47_26_h2 C hq k0 k) n (x2, σ) z hz k
def f_X6_takeTops_47_26 (N : Nat) (σ : Sg) : Option (Sg) :=
(it (fun q => s_X6_takeTops_47_26_h2 N q.1 q.2) N ((0 : Int32), σ)).bind fun z6 =>
some (z6.2.2)
set_option maxHeartbeats 4000000 in
set_option maxRecDepth 100000 in
theorem b_X6_takeTops_47_26 {N : Nat} {σ : Sg} {z : Sg} (C : Cx p s m args meth c cX6_takeTops 3 none RX6 g A X) (hf : f_X6_takeTops_47_26 N σ = some z) : Bk cw p l e rm_X6_takeTops_47_26 s m args below meth c 3 g A (MQ below (qV cw g A z) args s 0 0 A) 0 0 0 [(0, .ref (g.2.2 47)), (1, .ref (g.2.2 26))] [] σ := by
  obtain ⟨hx, hb, hr, hml, hown, hts, hK, hlocks, hXX, hA, hXo⟩ := id C
  intro H locs ls hP hD hS hl
  unfold f_X6_takeTops_47_26 at hf
  refine lv_iconst (v := (0 : Int32)) hx hb dX6_takeTops_0 (by decide) ?_
  refine lv_istore_n (lv' := [(2, .int (0 : Int32)), (0, .ref (g.2.2 47)), (1, .ref (g.2.2 26))]) hx hb dX6_takeTops_1 rfl hl (by decide) rfl (fun ls hl => ?_)
  obtain ⟨z6, hz6, hf⟩ := bi_s hf
  refine lp_X6_takeTops_47_26_h2 C hz6 ?_ H locs ls hP hD hS (lv_sub hl [1, 2, 0] rfl)
  intro H locs ls hP hD hS hl
  cases hf
  exact bk_vret C hP hD hS rfl dX6_takeTops_39
theorem c_X6_takeTops_47_26 {N : Nat} {σ : Sg} {z : Sg} (hX : xOK g X) (hf : f_X6_takeTops_47_26 N σ = some z) : MetV l yX6_takeTops (Cond.code yX6_takeTops cX6_takeTops 3 none :: wsA) rm_X6_takeTops_47_26 cw g X [.ref (g.2.2 47), .ref (g.2.2 26)] σ z :=
  MetV_of hX (by decide) (Nat.le_of_ble_eq_true rfl) (fun p e s m args below meth c A C => b_X6_takeTops_47_26 C hf)
-- X6_build_47_26: build([I)V
abbrev rm_X6_build_47_26 : Room := { frames := 4, cells := 0, slots := 0, locals := 92 }
theorem nd_X6_build : yX6_build.cls ≠ "java/lang/invoke/MethodHandle" ∧ yX6_build.cls ≠ "java/lang/invoke/VarHandle" ∧ (parseMethodDescriptor yX6_build.desc).map (fun d => d.parameters.length) = some 1 := by decide +kernel
def f_X6_build_47_26_b64 (N : Nat) (x2 : Int32) (x3 : Int32) (σ : Sg) : Option (Nat × Int32 × Sg) :=
bd (x3 + (1 : Int32)) fun v1 =>
some (0, v1, σ)
set_option maxHeartbeats 4000000 in
set_option maxRecDepth 100000 in
theorem b_X6_build_47_26_b64 {N : Nat} {x2 : Int32} {x3 : Int32} {σ : Sg} {z : Nat × Int32 × Sg} (C : Cx p s m args meth c cX6_build 4 none RX6 g A X) (hf : f_X6_build_47_26_b64 N x2 x3 σ = some z) (k0 : z.1 = 0 → Bk cw p l e rm_X6_build_47_26 s m args below meth c 4 g A Q 0 0 44 [(0, .ref (g.2.2 47)), (2, .int x2), (3, .int z.2.1)] [] z.2.2) (k : ¬ z.1 = 0 → Bk cw p l e rm_X6_build_47_26 s m args below meth c 4 g A Q 0 0 70 [(0, .ref (g.2.2 47)), (2, .int x2)] [] z.2.2) : Bk cw p l e rm_X6_build_47_26 s m args below meth c 4 g A Q 0 0 64 [(0, .ref (g.2.2 47)), (2, .int x2), (3, .int x3)] [] σ := by
  obtain ⟨hx, hb, hr, hml, hown, hts, hK, hlocks, hXX, hA, hXo⟩ := id C
  intro H locs ls hP hD hS hl
  unfold f_X6_build_47_26_b64 at hf
  obtain ⟨v1, ev1, hf⟩ := bd_s hf
  refine lv_iinc (v := v1) (lv' := [(3, .int v1), (0, .ref (g.2.2 47)), (2, .int x2)]) hx hb dX6_build_64 hl (k := 2) rfl (by rw [ev1]; rfl) (by decide) rfl (fun ls hl => ?_)
  refine lv_goto (tgt := 44) hx hb dX6_build_67 (by decide) ?_
  cases hf
  exact k0 rfl H locs ls hP hD hS (lv_sub hl [1, 2, 0] rfl)
def s_X6_build_47_26_h44 (N : Nat) (x2 : Int32) (x3 : Int32) (σ : Sg) : Option (Nat × Int32 × Sg) :=
if x2 ≤ x3 then (some (1, 0, σ))
else ((f_X6_inTheWay_47 N x2 x3 σ).bind fun q2 =>
if q2.1 = 0 then ((f_X6_mark_47 N x2 x3 (q2.2)).bind fun q3 =>
f_X6_build_47_26_b64 N x2 x3 q3)
else (f_X6_build_47_26_b64 N x2 x3 (q2.2)))
set_option maxHeartbeats 4000000 in
set_option maxRecDepth 100000 in
theorem e_X6_build_47_26_h44 {N : Nat} {x2 : Int32} {x3 : Int32} {σ : Sg} {z : Nat × Int32 × Sg} (C : Cx p s m args meth c cX6_build 4 none RX6 g A X) (hf : s_X6_build_47_26_h44 N x2 x3 σ = some z) (k0 : z.1 = 0 → Bk cw p l e rm_X6_build_47_26 s m args below meth c 4 g A Q 0 0 44 [(0, .ref (g.2.2 47)), (2, .int x2), (3, .int z.2.1)] [] z.2.2) (k : ¬ z.1 = 0 → Bk cw p l e rm_X6_build_47_26 s m args below meth c 4 g A Q 0 0 70 [(0, .ref (g.2.2 47)), (2, .int x2)] [] z.2.2) : Bk cw p l e rm_X6_build_47_26 s m args below meth c 4 g A Q 0 0 44 [(0, .ref (g.2.2 47)), (2, .int x2), (3, .int x3)] [] σ := by
  obtain ⟨hx, hb, hr, hml, hown, hts, hK, hlocks, hXX, hA, hXo⟩ := id C
  intro H locs ls hP hD hS hl
  unfold s_X6_build_47_26_h44 at hf
  refine lv_iload_n hx hb dX6_build_44 rfl (lv_at hl 2 rfl) ?_
  refine lv_iload_n hx hb dX6_build_45 rfl (lv_at hl 1 rfl) ?_
  refine lv_icmp_ge (tgt := 70) hx hb dX6_build_46 (by decide) (fun t46 => ?_) (fun t46 => ?_)
  · have hf := (if_pos t46).symm.trans hf
    cases hf
    exact (k (show ¬ (1 : Nat) = 0 by decide)) H locs ls hP hD hS (lv_sub hl [0, 1] rfl)
  · have hf := (if_neg t46).symm.trans hf
    refine lv_aload_n hx hb dX6_build_49 rfl (lv_at hl 0 rfl) ?_
    refine lv_iload_n hx hb dX6_build_50 rfl (lv_at hl 1 rfl) ?_
    refine lv_iload_n hx hb dX6_build_51 rfl (lv_at hl 2 rfl) ?_
    obtain ⟨q2, hq2, hf⟩ := bi_s hf
    refine bk_VI (wf := cw) (q0 := 47) (ci := 6) (rest := []) [.int x2, .int x3] C hP hD hS hl.1 (c_X6_inTheWay_47 hXo hq2) (cwA_V 2 hts wa_482 wa_479 wa_480 wa_481 wa_32 rfl rfl nd_X6_inTheWay ⟨Nat.le_of_ble_eq_true rfl, Nat.le_of_ble_eq_true rfl⟩) rfl rfl rfl rfl (Nat.le_of_ble_eq_true rfl) dX6_build_52 ⟨Nat.le_of_ble_eq_true rfl, Nat.le_of_ble_eq_true rfl⟩ (fun H locs hP hD hS => ?_)
    refine lv_if_ne (tgt := 64) hx hb dX6_build_55 (by decide) (fun t55 => ?_) (fun t55 => ?_)
    · have hf := (if_neg t55).symm.trans hf
      exact b_X6_build_47_26_b64 C hf k0 k H locs ls hP hD hS (lv_sub hl [0, 1, 2] rfl)
    · have hf := (if_pos t55).symm.trans hf
      refine lv_aload_n hx hb dX6_build_58 rfl (lv_at hl 0 rfl) ?_
      refine lv_iload_n hx hb dX6_build_59 rfl (lv_at hl 1 rfl) ?_
      refine lv_iload_n hx hb dX6_build_60 rfl (lv_at hl 2 rfl) ?_
      obtain ⟨q3, hq3, hf⟩ := bi_s hf
      refine bk_VV (wf := cw) (q0 := 47) (ci := 6) (rest := []) [.int x2, .int x3] C hP hD hS hl.1 (c_X6_mark_47 hXo hq3) (cwA_V 2 hts wa_487 wa_484 wa_485 wa_486 wa_32 rfl rfl nd_X6_mark ⟨Nat.le_of_ble_eq_true rfl, Nat.le_of_ble_eq_true rfl⟩) rfl rfl rfl rfl (Nat.le_of_ble_eq_true rfl) dX6_build_61 ⟨Nat.le_of_ble_eq_true rfl, Nat.le_of_ble_eq_true rfl⟩ (fun H locs hP hD hS => ?_)
      exact b_X6_build_47_26_b64 C hf k0 k H locs ls hP hD hS (lv_sub hl [0, 1, 2] rfl)
theorem lp_X6_build_47_26_h44 {N n : Nat} {x2 : Int32} {x3 : Int32} {σ : Sg} {z : Nat × Int32 × Sg} (C : Cx p s m args meth c cX6_build 4 none RX6 g A X) (hz : it (fun q => s_X6_build_47_26_h44 N x2 q.1 q.2) n (x3, σ) = some z) (k : Bk cw p l e rm_X6_build_47_26 s m args below meth c 4 g A Q 0 0 70 [(0, .ref (g.2.2 47)), (2, .int x2)] [] z.2.2) : Bk cw p l e rm_X6_build_47_26 s m args below meth c 4 g A Q 0 0 44 [(0, .ref (g.2.2 47)), (2, .int x2), (3, .int x3)] [] σ :=
  it_W (S := Int32 × Sg) (fun q => Bk cw p l e rm_X6_build_47_26 s m args below meth c 4 g A Q 0 0 44 [(0, .ref (g.2.2 47)), (2, .int x2), (3, .int q.1)] [] q.2) (fun z => Bk cw p l e rm_X6_build_47_26 s m args below meth c 4 g A Q 0 0 70 [(0, .ref (g.2.2 47)), (2, .int x2)] [] z.2.2) (fun q z hq k0 k => e_X6_build_47_26_h44 C hq k0 k) n (x3, σ) z hz k
def s_X6_build_47_26_h31 (N : Nat) (x2 : Int32) (σ : Sg) : Option (Nat × Int32 × Sg) :=
if (σ 12 0) ≤ x2 then (some (1, 0, σ))
else ((it (fun q => s_X6_build_47_26_h44 N x2 q.1 q.2) N ((0 : Int32), σ)).bind fun z4 =>
bd (x2 + (1 : Int32)) fun v5 =>
some (0, v5, (z4.2.2)))
set_option maxHeartbeats 4000000 in
set_option maxRecDepth 100000 in
theorem e_X6_build_47_26_h31 {N : Nat} {x2 : Int32} {σ : Sg} {z : Nat × Int32 × Sg} (C : Cx p s m args meth c cX6_build 4 none RX6 g A X) (hf : s_X6_build_47_26_h31 N x2 σ = some z) (k0 : z.1 = 0 → Bk cw p l e rm_X6_build_47_26 s m args below meth c 4 g A Q 0 0 31 [(0, .ref (g.2.2 47)), (2, .int z.2.1)] [] z.2.2) (k : ¬ z.1 = 0 → Bk cw p l e rm_X6_build_47_26 s m args below meth c 4 g A Q 0 0 76 [] [] z.2.2) : Bk cw p l e rm_X6_build_47_26 s m args below meth c 4 g A Q 0 0 31 [(0, .ref (g.2.2 47)), (2, .int x2)] [] σ := by
  obtain ⟨hx, hb, hr, hml, hown, hts, hK, hlocks, hXX, hA, hXo⟩ := id C
  intro H locs ls hP hD hS hl
  unfold s_X6_build_47_26_h31 at hf
  refine lv_iload_n hx hb dX6_build_31 rfl (lv_at hl 1 rfl) ?_
  refine lv_aload_n hx hb dX6_build_32 rfl (lv_at hl 0 rfl) ?_
  refine bk_get (wf := cw) (q0 := 47) (ci := 6) (k := 1) (v := .ref (g.2.2 12)) C hP wl_X6 rfl rfl (by decide) wa_132 rfl rfl dX6_build_33 ?_
  refine bk_get (wf := cw) (q0 := 12) (ci := 8) (k := 0) (v := .int (σ 12 0)) C hP wl_X9 rfl rfl (by decide) wa_473 rfl rfl dX6_build_36 ?_
  refine lv_icmp_ge (tgt := 76) hx hb dX6_build_39 (by decide) (fun t39 => ?_) (fun t39 => ?_)
  · have hf := (if_pos t39).symm.trans hf
    cases hf
    exact (k (show ¬ (1 : Nat) = 0 by decide)) H locs ls hP hD hS (lv_sub hl [] rfl)
  · have hf := (if_neg t39).symm.trans hf
    refine lv_iconst (v := (0 : Int32)) hx hb dX6_build_42 (by decide) ?_
    refine lv_istore_n (lv' := [(3, .int (0 : Int32)), (0, .ref (g.2.2 47)), (2, .int x2)]) hx hb dX6_build_43 rfl hl (by decide) rfl (fun ls hl => ?_)
    obtain ⟨z4, hz4, hf⟩ := bi_s hf
    refine lp_X6_build_47_26_h44 C hz4 ?_ H locs ls hP hD hS (lv_sub hl [1, 2, 0] rfl)
    intro H locs ls hP hD hS hl
    obtain ⟨v5, ev5, hf⟩ := bd_s hf
    refine lv_iinc (v := v5) (lv' := [(2, .int v5), (0, .ref (g.2.2 47))]) hx hb dX6_build_70 hl (k := 1) rfl (by rw [ev5]; rfl) (by decide) rfl (fun ls hl => ?_)
    refine lv_goto (tgt := 31) hx hb dX6_build_73 (by decide) ?_
    cases hf
    exact k0 rfl H locs ls hP hD hS (lv_sub hl [1, 0] rfl)
theorem lp_X6_build_47_26_h31 {N n : Nat} {x2 : Int32} {σ : Sg} {z : Nat × Int32 × Sg} (C : Cx p s m args meth c cX6_build 4 none RX6 g A X) (hz : it (fun q => s_X6_build_47_26_h31 N q.1 q.2) n (x2, σ) = some z) (k : Bk cw p l e rm_X6_build_47_26 s m args below meth c 4 g A Q 0 0 76 [] [] z.2.2) : Bk cw p l e rm_X6_build_47_26 s m args below meth c 4 g A Q 0 0 31 [(0, .ref (g.2.2 47)), (2, .int x2)] [] σ :=
  it_W (S := Int32 × Sg) (fun q => Bk cw p l e rm_X6_build_47_26 s m args below meth c 4 g A Q 0 0 31 [(0, .ref (g.2.2 47)), (2, .int q.1)] [] q.2) (fun z => Bk cw p l e rm_X6_build_47_26 s m args below meth c 4 g A Q 0 0 76 [] [] z.2.2) (fun q z hq k0 k => e_X6_build_47_26_h31 C hq k0 k) n (x2, σ) z hz k
def s_X6_build_47_26_h7 (N : Nat) (x2 : Int32) (σ : Sg) : Option (Nat × Int32 × Sg) :=
if (90 : Int32) ≤ x2 then (some (1, 0, σ))
else (if (x2 < 0 ∨ 90 ≤ x2.toNatClampNeg) then none else
bd (wr σ 49 (x2.toNatClampNeg) (0 : Int32)) fun σ7 =>
bd (x2 + (1 : Int32)) fun v8 =>
some (0, v8, σ7))
set_option maxHeartbeats 4000000 in
set_option maxRecDepth 100000 in
theorem e_X6_build_47_26_h7 {N : Nat} {x2 : Int32} {σ : Sg} {z : Nat × Int32 × Sg} (C : Cx p s m args meth c cX6_build 4 none RX6 g A X) (hf : s_X6_build_47_26_h7 N x2 σ = some z) (k0 : z.1 = 0 → Bk cw p l e rm_X6_build_47_26 s m args below meth c 4 g A Q 0 0 7 [(0, .ref (g.2.2 47)), (2, .int z.2.1)] [] z.2.2) (k : ¬ z.1 = 0 → Bk cw p l e rm_X6_build_47_26 s m args below meth c 4 g A Q 0 0 29 [(0, .ref (g.2.2 47))] [] z.2.2) : Bk cw p l e rm_X6_build_47_26 s m args below meth c 4 g A Q 0 0 7 [(0, .ref (g.2.2 47)), (2, .int x2)] [] σ := by
  obtain ⟨hx, hb, hr, hml, hown, hts, hK, hlocks, hXX, hA, hXo⟩ := id C
  intro H locs ls hP hD hS hl
  unfold s_X6_build_47_26_h7 at hf
  refine lv_iload_n hx hb dX6_build_7 rfl (lv_at hl 1 rfl) ?_
  refine lv_aload_n hx hb dX6_build_8 rfl (lv_at hl 0 rfl) ?_
  refine bk_get (wf := cw) (q0 := 47) (ci := 6) (k := 2) (v := .ref (g.2.2 49)) C hP wl_X6 rfl rfl (by decide) wa_131 rfl rfl dX6_build_9 ?_
  refine bk_alen (wf := cw) (q0 := 49) (t0 := 0) (v := (90 : Int32)) C hP rfl rfl (show Int32.ofNat 90 = (90 : Int32) by decide) dX6_build_12 ?_
  refine lv_icmp_ge (tgt := 29) hx hb dX6_build_13 (by decide) (fun t13 => ?_) (fun t13 => ?_)
  · have hf := (if_pos t13).symm.trans hf
    cases hf
    exact (k (show ¬ (1 : Nat) = 0 by decide)) H locs ls hP hD hS (lv_sub hl [0] rfl)
  · have hf := (if_neg t13).symm.trans hf
    refine lv_aload_n hx hb dX6_build_16 rfl (lv_at hl 0 rfl) ?_
    refine bk_get (wf := cw) (q0 := 47) (ci := 6) (k := 2) (v := .ref (g.2.2 49)) C hP wl_X6 rfl rfl (by decide) wa_131 rfl rfl dX6_build_17 ?_
    refine lv_iload_n hx hb dX6_build_20 rfl (lv_at hl 1 rfl) ?_
    refine lv_iconst (v := (0 : Int32)) hx hb dX6_build_21 (by decide) ?_
    obtain ⟨g6, hf⟩ := gd_s hf
    obtain ⟨σ7, eσ7, hf⟩ := bd_s hf
    refine bk_iast (wf := cw) (σ1 := σ7) (q0 := 49) (n := 90) (j := x2.toNatClampNeg) C hP hD hS rfl g6 rfl (by rw [eσ7]; exact cw_a49 g _ _ _) dX6_build_22 (fun H locs hP hD hS => ?_)
    obtain ⟨v8, ev8, hf⟩ := bd_s hf
    refine lv_iinc (v := v8) (lv' := [(2, .int v8), (0, .ref (g.2.2 47))]) hx hb dX6_build_23 hl (k := 1) rfl (by rw [ev8]; rfl) (by decide) rfl (fun ls hl => ?_)
    refine lv_goto (tgt := 7) hx hb dX6_build_26 (by decide) ?_
    cases hf
    exact k0 rfl H locs ls hP hD hS (lv_sub hl [1, 0] rfl)
theorem lp_X6_build_47_26_h7 {N n : Nat} {x2 : Int32} {σ : Sg} {z : Nat × Int32 × Sg} (C : Cx p s m args meth c cX6_build 4 none RX6 g A X) (hz : it (fun q => s_X6_build_47_26_h7 N q.1 q.2) n (x2, σ) = some z) (k : Bk cw p l e rm_X6_build_47_26 s m args below meth c 4 g A Q 0 0 29 [(0, .ref (g.2.2 47))] [] z.2.2) : Bk cw p l e rm_X6_build_47_26 s m args below meth c 4 g A Q 0 0 7 [(0, .ref (g.2.2 47)), (2, .int x2)] [] σ :=
  it_W (S := Int32 × Sg) (fun q => Bk cw p l e rm_X6_build_47_26 s m args below meth c 4 g A Q 0 0 7 [(0, .ref (g.2.2 47)), (2, .int q.1)] [] q.2) (fun z => Bk cw p l e rm_X6_build_47_26 s m args below meth c 4 g A Q 0 0 29 [(0, .ref (g.2.2 47))] [] z.2.2) (fun q z hq k0 k => e_X6_build_47_26_h7 C hq k0 k) n (x2, σ) z hz k
def f_X6_build_47_26 (N : Nat) (σ : Sg) : Option (Sg) :=
(f_X6_takeTops_47_26 N σ).bind fun q9 =>
(it (fun q => s_X6_build_47_26_h7 N q.1 q.2) N ((0 : Int32), q9)).bind fun z10 =>
(it (fun q => s_X6_build_47_26_h31 N q.1 q.2) N ((0 : Int32), (z10.2.2))).bind fun z11 =>
some (z11.2.2)
set_option maxHeartbeats 4000000 in
set_option maxRecDepth 100000 in
theorem b_X6_build_47_26 {N : Nat} {σ : Sg} {z : Sg} (C : Cx p s m args meth c cX6_build 4 none RX6 g A X) (hf : f_X6_build_47_26 N σ = some z) : Bk cw p l e rm_X6_build_47_26 s m args below meth c 4 g A (MQ below (qV cw g A z) args s 0 0 A) 0 0 0 [(0, .ref (g.2.2 47)), (1, .ref (g.2.2 26))] [] σ := by
  obtain ⟨hx, hb, hr, hml, hown, hts, hK, hlocks, hXX, hA, hXo⟩ := id C
  intro H locs ls hP hD hS hl
  unfold f_X6_build_47_26 at hf
  refine lv_aload_n hx hb dX6_build_0 rfl (lv_at hl 0 rfl) ?_
  refine lv_aload_n hx hb dX6_build_1 rfl (lv_at hl 1 rfl) ?_
  obtain ⟨q9, hq9, hf⟩ := bi_s hf
  refine bk_VV (wf := cw) (q0 := 47) (ci := 6) (rest := []) [.ref (g.2.2 26)] C hP hD hS hl.1 (c_X6_takeTops_47_26 hXo hq9) (cwA_V 1 hts wa_477 wa_474 wa_475 wa_476 wa_32 rfl rfl nd_X6_takeTops ⟨Nat.le_of_ble_eq_true rfl, Nat.le_of_ble_eq_true rfl⟩) rfl rfl rfl rfl (Nat.le_of_ble_eq_true rfl) dX6_build_2 ⟨Nat.le_of_ble_eq_true rfl, Nat.le_of_ble_eq_true rfl⟩ (fun H locs hP hD hS => ?_)
  refine lv_iconst (v := (0 : Int32)) hx hb dX6_build_5 (by decide) ?_
  refine lv_istore_n (lv' := [(2, .int (0 : Int32)), (0, .ref (g.2.2 47)), (1, .ref (g.2.2 26))]) hx hb dX6_build_6 rfl hl (by decide) rfl (fun ls hl => ?_)
  obtain ⟨z10, hz10, hf⟩ := bi_s hf
  refine lp_X6_build_47_26_h7 C hz10 ?_ H locs ls hP hD hS (lv_sub hl [1, 0] rfl)
  intro H locs ls hP hD hS hl
  refine lv_iconst (v := (0 : Int32)) hx hb dX6_build_29 (by decide) ?_
  refine lv_istore_n (lv' := [(2, .int (0 : Int32)), (0, .ref (g.2.2 47))]) hx hb dX6_build_30 rfl hl (by decide) rfl (fun ls hl => ?_)
  obtain ⟨z11, hz11, hf⟩ := bi_s hf
  refine lp_X6_build_47_26_h31 C hz11 ?_ H locs ls hP hD hS (lv_sub hl [1, 0] rfl)
  intro H locs ls hP hD hS hl
  cases hf
  exact bk_vret C hP hD hS rfl dX6_build_76
theorem c_X6_build_47_26 {N : Nat} {σ : Sg} {z : Sg} (hX : xOK g X) (hf : f_X6_build_47_26 N σ = some z) : MetV l yX6_build (Cond.code yX6_build cX6_build 4 none :: wsA) rm_X6_build_47_26 cw g X [.ref (g.2.2 47), .ref (g.2.2 26)] σ z :=
  MetV_of hX (by decide) (Nat.le_of_ble_eq_true rfl) (fun p e s m args below meth c A C => b_X6_build_47_26 C hf)
-- X11_hat_0: hat(II)I
abbrev rm_X11_hat_0 : Room := { frames := 7, cells := 1, slots := 6, locals := 115 }
theorem nd_X11_hat : yX11_hat.cls ≠ "java/lang/invoke/MethodHandle" ∧ yX11_hat.cls ≠ "java/lang/invoke/VarHandle" ∧ (parseMethodDescriptor yX11_hat.desc).map (fun d => d.parameters.length) = some 2 := by decide +kernel
def f_X11_hat_0_b15 (N : Nat) (σ : Sg) : Option (Zt) :=
(f_X11_refuseAct_0 N σ).bind fun q1 =>
some (0, q1.1, (q1.2))
set_option maxHeartbeats 4000000 in
set_option maxRecDepth 100000 in
theorem b_X11_hat_0_b15 {N : Nat} {σ : Sg} {z : Zt} (C : Cx p s m args meth c cX11_hat 4 (some .int) RX11 g A X) (hex : ∀ x ∈ c.exceptionTable.toList, False) (hst : l.stackTraces = false) (hf : f_X11_hat_0_b15 N σ = some z) : Bk cw p l e rm_X11_hat_0 s m args below meth c 4 g A (vx_MQ below (qTi cw g A z) (xT cw g A z) args s 1 6 A) 1 6 15 [(0, .ref (g.2.2 0))] [] σ := by
  obtain ⟨hx, hb, hr, hml, hown, hts, hK, hlocks, hXX, hA, hXo⟩ := id C
  intro H locs ls hP hD hS hl
  unfold f_X11_hat_0_b15 at hf
  refine lv_aload_n hx hb dX11_hat_15 rfl (lv_at hl 0 rfl) ?_
  obtain ⟨q1, hq1, hf⟩ := bi_s hf
  refine bk_VI (wf := cw) (q0 := 0) (ci := 10) (rest := []) [] C hP hD hS hl.1 (c_X11_refuseAct_0 hXo hq1) (cwA_V 0 hts wa_812 wa_809 wa_810 wa_811 wa_2 rfl rfl nd_X11_refuseAct ⟨Nat.le_of_ble_eq_true rfl, Nat.le_of_ble_eq_true rfl⟩) rfl rfl rfl rfl (Nat.le_of_ble_eq_true rfl) dX11_hat_16 ⟨Nat.le_of_ble_eq_true rfl, Nat.le_of_ble_eq_true rfl⟩ (fun H locs hP hD hS => ?_)
  exact bk_iretT C hP hD hS hf (Nat.le_of_ble_eq_true rfl) (Nat.le_of_ble_eq_true rfl) dX11_hat_19
def f_X11_hat_0 (N : Nat) (x1 : Int32) (x2 : Int32) (σ : Sg) : Option (Zt) :=
(f_X11_needFarm_0 N x1 σ).bind fun q2 =>
if q2.1 = 0 then (if x2 < 0 then (f_X11_hat_0_b15 N (q2.2.2))
else (if x2 ≤ (20 : Int32) then ((f_X0_keep_27_22 N (q2.2.2)).bind fun q3 =>
if (x1 < 0 ∨ 9 ≤ x1.toNatClampNeg) then none else
bd (q3 26 x1.toNatClampNeg) fun v5 =>
if (x1 < 0 ∨ 9 ≤ x1.toNatClampNeg) then none else
bd (wr q3 26 (x1.toNatClampNeg) x2) fun σ7 =>
(f_X6_build_47_26 N σ7).bind fun q8 =>
some (0, v5, q8))
else (f_X11_hat_0_b15 N (q2.2.2))))
else some (q2.1, 0, q2.2.2)
set_option maxHeartbeats 4000000 in
set_option maxRecDepth 100000 in
theorem b_X11_hat_0 {N : Nat} {x1 : Int32} {x2 : Int32} {σ : Sg} {z : Zt} (C : Cx p s m args meth c cX11_hat 4 (some .int) RX11 g A X) (hex : ∀ x ∈ c.exceptionTable.toList, False) (hst : l.stackTraces = false) (hf : f_X11_hat_0 N x1 x2 σ = some z) : Bk cw p l e rm_X11_hat_0 s m args below meth c 4 g A (vx_MQ below (qTi cw g A z) (xT cw g A z) args s 1 6 A) 0 0 0 [(0, .ref (g.2.2 0)), (1, .int x1), (2, .int x2)] [] σ := by
  obtain ⟨hx, hb, hr, hml, hown, hts, hK, hlocks, hXX, hA, hXo⟩ := id C
  intro H locs ls hP hD hS hl
  unfold f_X11_hat_0 at hf
  refine lv_aload_n hx hb dX11_hat_0 rfl (lv_at hl 0 rfl) ?_
  refine lv_iload_n hx hb dX11_hat_1 rfl (lv_at hl 1 rfl) ?_
  obtain ⟨q2, hq2, hf⟩ := bi_s hf
  refine bk_TV (wf := cw) (q0 := 0) (ci := 10) (rest := []) [.int x1] C hex hP hD hS hl.1 (c_X11_needFarm_0 hXo hst hq2) (cwA_V 1 hts wa_791 wa_788 wa_789 wa_790 wa_2 rfl rfl nd_X11_needFarm ⟨Nat.le_of_ble_eq_true rfl, Nat.le_of_ble_eq_true rfl⟩) rfl rfl rfl rfl (Nat.le_of_ble_eq_true rfl) dX11_hat_2 ⟨Nat.le_of_ble_eq_true rfl, Nat.le_of_ble_eq_true rfl⟩ ⟨Nat.le_of_ble_eq_true rfl, Nat.le_of_ble_eq_true rfl⟩ (fun h0 => by have hf := (if_neg h0).symm.trans hf; cases hf; exact ⟨rfl, rfl⟩) (fun h0 H locs hP hD hS => ?_)
  have hf := (if_pos h0).symm.trans hf
  refine lv_iload_n hx hb dX11_hat_5 rfl (lv_at hl 2 rfl) ?_
  refine lv_if_lt (tgt := 15) hx hb dX11_hat_6 (by decide) (fun t6 => ?_) (fun t6 => ?_)
  · have hf := (if_pos t6).symm.trans hf
    exact b_X11_hat_0_b15 C hex hst hf H locs ls hP hD hS (lv_sub hl [0] rfl)
  · have hf := (if_neg t6).symm.trans hf
    refine lv_iload_n hx hb dX11_hat_9 rfl (lv_at hl 2 rfl) ?_
    refine lv_bipush (v := (20 : Int32)) hx hb dX11_hat_10 (by decide) ?_
    refine lv_icmp_le (tgt := 20) hx hb dX11_hat_12 (by decide) (fun t12 => ?_) (fun t12 => ?_)
    · have hf := (if_pos t12).symm.trans hf
      refine lv_aload_n hx hb dX11_hat_20 rfl (lv_at hl 0 rfl) ?_
      refine bk_get (wf := cw) (q0 := 0) (ci := 10) (k := 4) (v := .ref (g.2.2 21)) C hP wl_X11 rfl rfl (by decide) wa_27 rfl rfl dX11_hat_21 ?_
      refine bk_get (wf := cw) (q0 := 21) (ci := 1) (k := 1) (v := .ref (g.2.2 27)) C hP wl_X1 rfl rfl (by decide) wa_222 rfl rfl dX11_hat_24 ?_
      refine lv_aload_n hx hb dX11_hat_27 rfl (lv_at hl 0 rfl) ?_
      refine bk_get (wf := cw) (q0 := 0) (ci := 10) (k := 4) (v := .ref (g.2.2 21)) C hP wl_X11 rfl rfl (by decide) wa_27 rfl rfl dX11_hat_28 ?_
      refine bk_get (wf := cw) (q0 := 21) (ci := 1) (k := 0) (v := .ref (g.2.2 22)) C hP wl_X1 rfl rfl (by decide) wa_221 rfl rfl dX11_hat_31 ?_
      obtain ⟨q3, hq3, hf⟩ := bi_s hf
      refine bk_VV (wf := cw) (q0 := 27) (ci := 0) (rest := []) [.ref (g.2.2 22)] C hP hD hS hl.1 (c_X0_keep_27_22 hXo hq3) (cwA_V 1 hts wa_816 wa_813 wa_814 wa_815 wa_97 rfl rfl nd_X0_keep ⟨Nat.le_of_ble_eq_true rfl, Nat.le_of_ble_eq_true rfl⟩) rfl rfl rfl rfl (Nat.le_of_ble_eq_true rfl) dX11_hat_34 ⟨Nat.le_of_ble_eq_true rfl, Nat.le_of_ble_eq_true rfl⟩ (fun H locs hP hD hS => ?_)
      refine lv_aload_n hx hb dX11_hat_37 rfl (lv_at hl 0 rfl) ?_
      refine bk_get (wf := cw) (q0 := 0) (ci := 10) (k := 4) (v := .ref (g.2.2 21)) C hP wl_X11 rfl rfl (by decide) wa_27 rfl rfl dX11_hat_38 ?_
      refine bk_get (wf := cw) (q0 := 21) (ci := 1) (k := 0) (v := .ref (g.2.2 22)) C hP wl_X1 rfl rfl (by decide) wa_221 rfl rfl dX11_hat_41 ?_
      refine bk_get (wf := cw) (q0 := 22) (ci := 7) (k := 5) (v := .ref (g.2.2 26)) C hP wl_X7 rfl rfl (by decide) wa_224 rfl rfl dX11_hat_44 ?_
      refine lv_iload_n hx hb dX11_hat_47 rfl (lv_at hl 1 rfl) ?_
      obtain ⟨g4, hf⟩ := gd_s hf
      refine bk_iald (wf := cw) (q0 := 26) (n := 9) (j := x1.toNatClampNeg) C hP rfl g4 rfl dX11_hat_48 ?_
      obtain ⟨v5, ev5, hf⟩ := bd_s hf
      rw [← ev5]
      refine lv_istore_n (lv' := [(3, .int v5), (0, .ref (g.2.2 0)), (1, .int x1), (2, .int x2)]) hx hb dX11_hat_49 rfl hl (by decide) rfl (fun ls hl => ?_)
      refine lv_aload_n hx hb dX11_hat_50 rfl (lv_at hl 1 rfl) ?_
      refine bk_get (wf := cw) (q0 := 0) (ci := 10) (k := 4) (v := .ref (g.2.2 21)) C hP wl_X11 rfl rfl (by decide) wa_27 rfl rfl dX11_hat_51 ?_
      refine bk_get (wf := cw) (q0 := 21) (ci := 1) (k := 0) (v := .ref (g.2.2 22)) C hP wl_X1 rfl rfl (by decide) wa_221 rfl rfl dX11_hat_54 ?_
      refine bk_get (wf := cw) (q0 := 22) (ci := 7) (k := 5) (v := .ref (g.2.2 26)) C hP wl_X7 rfl rfl (by decide) wa_224 rfl rfl dX11_hat_57 ?_
      refine lv_iload_n hx hb dX11_hat_60 rfl (lv_at hl 2 rfl) ?_
      refine lv_iload_n hx hb dX11_hat_61 rfl (lv_at hl 3 rfl) ?_
      obtain ⟨g6, hf⟩ := gd_s hf
      obtain ⟨σ7, eσ7, hf⟩ := bd_s hf
      refine bk_iast (wf := cw) (σ1 := σ7) (q0 := 26) (n := 9) (j := x1.toNatClampNeg) C hP hD hS rfl g6 rfl (by rw [eσ7]; exact cw_a26 g _ _ _) dX11_hat_62 (fun H locs hP hD hS => ?_)
      refine lv_aload_n hx hb dX11_hat_63 rfl (lv_at hl 1 rfl) ?_
      refine bk_get (wf := cw) (q0 := 0) (ci := 10) (k := 7) (v := .ref (g.2.2 47)) C hP wl_X11 rfl rfl (by decide) wa_33 rfl rfl dX11_hat_64 ?_
      refine lv_aload_n hx hb dX11_hat_67 rfl (lv_at hl 1 rfl) ?_
      refine bk_get (wf := cw) (q0 := 0) (ci := 10) (k := 4) (v := .ref (g.2.2 21)) C hP wl_X11 rfl rfl (by decide) wa_27 rfl rfl dX11_hat_68 ?_
      refine bk_get (wf := cw) (q0 := 21) (ci := 1) (k := 0) (v := .ref (g.2.2 22)) C hP wl_X1 rfl rfl (by decide) wa_221 rfl rfl dX11_hat_71 ?_
      refine bk_get (wf := cw) (q0 := 22) (ci := 7) (k := 5) (v := .ref (g.2.2 26)) C hP wl_X7 rfl rfl (by decide) wa_224 rfl rfl dX11_hat_74 ?_
      obtain ⟨q8, hq8, hf⟩ := bi_s hf
      refine bk_VV (wf := cw) (q0 := 47) (ci := 6) (rest := []) [.ref (g.2.2 26)] C hP hD hS hl.1 (c_X6_build_47_26 hXo hq8) (cwA_V 1 hts wa_472 wa_469 wa_470 wa_471 wa_32 rfl rfl nd_X6_build ⟨Nat.le_of_ble_eq_true rfl, Nat.le_of_ble_eq_true rfl⟩) rfl rfl rfl rfl (Nat.le_of_ble_eq_true rfl) dX11_hat_77 ⟨Nat.le_of_ble_eq_true rfl, Nat.le_of_ble_eq_true rfl⟩ (fun H locs hP hD hS => ?_)
      refine lv_iload_n hx hb dX11_hat_80 rfl (lv_at hl 0 rfl) ?_
      exact bk_iretT C hP hD hS hf (Nat.le_of_ble_eq_true rfl) (Nat.le_of_ble_eq_true rfl) dX11_hat_81
    · have hf := (if_neg t12).symm.trans hf
      exact b_X11_hat_0_b15 C hex hst hf H locs ls hP hD hS (lv_sub hl [0] rfl)
theorem c_X11_hat_0 {N : Nat} {x1 : Int32} {x2 : Int32} {σ : Sg} {z : Zt} (hX : xOK g X) (hst : l.stackTraces = false) (hf : f_X11_hat_0 N x1 x2 σ = some z) : MetTi l yX11_hat (Cond.code yX11_hat cX11_hat 4 (some .int) :: wsA) rm_X11_hat_0 1 6 cw g X [.ref (g.2.2 0), .int x1, .int x2] σ z :=
  MetTi_of hX (by decide) (Nat.le_of_ble_eq_true rfl) (fun p e s m args below meth c A C hex => b_X11_hat_0 C hex hst hf)
-- X7_quiet_22: quiet()V
abbrev rm_X7_quiet_22 : Room := { frames := 0, cells := 0, slots := 0, locals := 0 }
theorem nd_X7_quiet : yX7_quiet.cls ≠ "java/lang/invoke/MethodHandle" ∧ yX7_quiet.cls ≠ "java/lang/invoke/VarHandle" ∧ (parseMethodDescriptor yX7_quiet.desc).map (fun d => d.parameters.length) = some 0 := by decide +kernel
def s_X7_quiet_22_h2 (N : Nat) (x1 : Int32) (σ : Sg) : Option (Nat × Int32 × Sg) :=
if (9 : Int32) ≤ x1 then (some (1, 0, σ))
else (if (x1 < 0 ∨ 9 ≤ x1.toNatClampNeg) then none else
bd (wr σ 23 (x1.toNatClampNeg) (0 : Int32)) fun σ2 =>
bd (x1 + (1 : Int32)) fun v3 =>
some (0, v3, σ2))
set_option maxHeartbeats 4000000 in
set_option maxRecDepth 100000 in
theorem e_X7_quiet_22_h2 {N : Nat} {x1 : Int32} {σ : Sg} {z : Nat × Int32 × Sg} (C : Cx p s m args meth c cX7_quiet 2 none RX7 g A X) (hf : s_X7_quiet_22_h2 N x1 σ = some z) (k0 : z.1 = 0 → Bk cw p l e rm_X7_quiet_22 s m args below meth c 2 g A Q 0 0 2 [(0, .ref (g.2.2 22)), (1, .int z.2.1)] [] z.2.2) (k : ¬ z.1 = 0 → Bk cw p l e rm_X7_quiet_22 s m args below meth c 2 g A Q 0 0 21 [] [] z.2.2) : Bk cw p l e rm_X7_quiet_22 s m args below meth c 2 g A Q 0 0 2 [(0, .ref (g.2.2 22)), (1, .int x1)] [] σ := by
  obtain ⟨hx, hb, hr, hml, hown, hts, hK, hlocks, hXX, hA, hXo⟩ := id C
  intro H locs ls hP hD hS hl
  unfold s_X7_quiet_22_h2 at hf
  refine lv_iload_n hx hb dX7_quiet_2 rfl (lv_at hl 1 rfl) ?_
  refine lv_bipush (v := (9 : Int32)) hx hb dX7_quiet_3 (by decide) ?_
  refine lv_icmp_ge (tgt := 21) hx hb dX7_quiet_5 (by decide) (fun t5 => ?_) (fun t5 => ?_)
  · have hf := (if_pos t5).symm.trans hf
    cases hf
    exact (k (show ¬ (1 : Nat) = 0 by decide)) H locs ls hP hD hS (lv_sub hl [] rfl)
  · have hf := (if_neg t5).symm.trans hf
    refine lv_aload_n hx hb dX7_quiet_8 rfl (lv_at hl 0 rfl) ?_
    refine bk_get (wf := cw) (q0 := 22) (ci := 7) (k := 2) (v := .ref (g.2.2 23)) C hP wl_X7 rfl rfl (by decide) wa_109 rfl rfl dX7_quiet_9 ?_
    refine lv_iload_n hx hb dX7_quiet_12 rfl (lv_at hl 1 rfl) ?_
    refine lv_iconst (v := (0 : Int32)) hx hb dX7_quiet_13 (by decide) ?_
    obtain ⟨g1, hf⟩ := gd_s hf
    obtain ⟨σ2, eσ2, hf⟩ := bd_s hf
    refine bk_iast (wf := cw) (σ1 := σ2) (q0 := 23) (n := 9) (j := x1.toNatClampNeg) C hP hD hS rfl g1 rfl (by rw [eσ2]; exact cw_a23 g _ _ _) dX7_quiet_14 (fun H locs hP hD hS => ?_)
    obtain ⟨v3, ev3, hf⟩ := bd_s hf
    refine lv_iinc (v := v3) (lv' := [(1, .int v3), (0, .ref (g.2.2 22))]) hx hb dX7_quiet_15 hl (k := 1) rfl (by rw [ev3]; rfl) (by decide) rfl (fun ls hl => ?_)
    refine lv_goto (tgt := 2) hx hb dX7_quiet_18 (by decide) ?_
    cases hf
    exact k0 rfl H locs ls hP hD hS (lv_sub hl [1, 0] rfl)
theorem lp_X7_quiet_22_h2 {N n : Nat} {x1 : Int32} {σ : Sg} {z : Nat × Int32 × Sg} (C : Cx p s m args meth c cX7_quiet 2 none RX7 g A X) (hz : it (fun q => s_X7_quiet_22_h2 N q.1 q.2) n (x1, σ) = some z) (k : Bk cw p l e rm_X7_quiet_22 s m args below meth c 2 g A Q 0 0 21 [] [] z.2.2) : Bk cw p l e rm_X7_quiet_22 s m args below meth c 2 g A Q 0 0 2 [(0, .ref (g.2.2 22)), (1, .int x1)] [] σ :=
  it_W (S := Int32 × Sg) (fun q => Bk cw p l e rm_X7_quiet_22 s m args below meth c 2 g A Q 0 0 2 [(0, .ref (g.2.2 22)), (1, .int q.1)] [] q.2) (fun z => Bk cw p l e rm_X7_quiet_22 s m args below meth c 2 g A Q 0 0 21 [] [] z.2.2) (fun q z hq k0 k => e_X7_quiet_22_h2 C hq k0 k) n (x1, σ) z hz k
def f_X7_quiet_22 (N : Nat) (σ : Sg) : Option (Sg) :=
(it (fun q => s_X7_quiet_22_h2 N q.1 q.2) N ((0 : Int32), σ)).bind fun z4 =>
some (z4.2.2)
set_option maxHeartbeats 4000000 in
set_option maxRecDepth 100000 in
theorem b_X7_quiet_22 {N : Nat} {σ : Sg} {z : Sg} (C : Cx p s m args meth c cX7_quiet 2 none RX7 g A X) (hf : f_X7_quiet_22 N σ = some z) : Bk cw p l e rm_X7_quiet_22 s m args below meth c 2 g A (MQ below (qV cw g A z) args s 0 0 A) 0 0 0 [(0, .ref (g.2.2 22))] [] σ := by
  obtain ⟨hx, hb, hr, hml, hown, hts, hK, hlocks, hXX, hA, hXo⟩ := id C
  intro H locs ls hP hD hS hl
  unfold f_X7_quiet_22 at hf
  refine lv_iconst (v := (0 : Int32)) hx hb dX7_quiet_0 (by decide) ?_
  refine lv_istore_n (lv' := [(1, .int (0 : Int32)), (0, .ref (g.2.2 22))]) hx hb dX7_quiet_1 rfl hl (by decide) rfl (fun ls hl => ?_)
  obtain ⟨z4, hz4, hf⟩ := bi_s hf
  refine lp_X7_quiet_22_h2 C hz4 ?_ H locs ls hP hD hS (lv_sub hl [1, 0] rfl)
  intro H locs ls hP hD hS hl
  cases hf
  exact bk_vret C hP hD hS rfl dX7_quiet_21
theorem c_X7_quiet_22 {N : Nat} {σ : Sg} {z : Sg} (hX : xOK g X) (hf : f_X7_quiet_22 N σ = some z) : MetV l yX7_quiet (Cond.code yX7_quiet cX7_quiet 2 none :: wsA) rm_X7_quiet_22 cw g X [.ref (g.2.2 22)] σ z :=
  MetV_of hX (by decide) (Nat.le_of_ble_eq_true rfl) (fun p e s m args below meth c A C => b_X7_quiet_22 C hf)
-- X11_hush_0: hush()I
abbrev rm_X11_hush_0 : Room := { frames := 2, cells := 0, slots := 0, locals := 45 }
theorem nd_X11_hush : yX11_hush.cls ≠ "java/lang/invoke/MethodHandle" ∧ yX11_hush.cls ≠ "java/lang/invoke/VarHandle" ∧ (parseMethodDescriptor yX11_hush.desc).map (fun d => d.parameters.length) = some 0 := by decide +kernel
def f_X11_hush_0 (N : Nat) (σ : Sg) : Option (Int32 × Sg) :=
(f_X7_whoWaits_22 N σ).bind fun q1 =>
bd q1.1 fun v2 =>
if v2 = 0 then ((f_X11_refuseAct_0 N (q1.2)).bind fun q5 =>
some (q5.1, (q5.2)))
else ((f_X0_keep_27_22 N (q1.2)).bind fun q3 =>
(f_X7_quiet_22 N q3).bind fun q4 =>
some (v2, q4))
set_option maxHeartbeats 4000000 in
set_option maxRecDepth 100000 in
theorem b_X11_hush_0 {N : Nat} {σ : Sg} {z : Int32 × Sg} (C : Cx p s m args meth c cX11_hush 2 (some .int) RX11 g A X) (hf : f_X11_hush_0 N σ = some z) : Bk cw p l e rm_X11_hush_0 s m args below meth c 2 g A (MQ below (qI cw g A z.1 z.2) args s 0 0 A) 0 0 0 [(0, .ref (g.2.2 0))] [] σ := by
  obtain ⟨hx, hb, hr, hml, hown, hts, hK, hlocks, hXX, hA, hXo⟩ := id C
  intro H locs ls hP hD hS hl
  unfold f_X11_hush_0 at hf
  refine lv_aload_n hx hb dX11_hush_0 rfl (lv_at hl 0 rfl) ?_
  refine bk_get (wf := cw) (q0 := 0) (ci := 10) (k := 4) (v := .ref (g.2.2 21)) C hP wl_X11 rfl rfl (by decide) wa_27 rfl rfl dX11_hush_1 ?_
  refine bk_get (wf := cw) (q0 := 21) (ci := 1) (k := 0) (v := .ref (g.2.2 22)) C hP wl_X1 rfl rfl (by decide) wa_221 rfl rfl dX11_hush_4 ?_
  obtain ⟨q1, hq1, hf⟩ := bi_s hf
  refine bk_VI (wf := cw) (q0 := 22) (ci := 7) (rest := []) [] C hP hD hS hl.1 (c_X7_whoWaits_22 hXo hq1) (cwA_V 0 hts wa_662 wa_659 wa_660 wa_661 wa_93 rfl rfl nd_X7_whoWaits ⟨Nat.le_of_ble_eq_true rfl, Nat.le_of_ble_eq_true rfl⟩) rfl rfl rfl rfl (Nat.le_of_ble_eq_true rfl) dX11_hush_7 ⟨Nat.le_of_ble_eq_true rfl, Nat.le_of_ble_eq_true rfl⟩ (fun H locs hP hD hS => ?_)
  obtain ⟨v2, ev2, hf⟩ := bd_s hf
  rw [← ev2]
  refine lv_istore_n (lv' := [(1, .int v2), (0, .ref (g.2.2 0))]) hx hb dX11_hush_10 rfl hl (by decide) rfl (fun ls hl => ?_)
  refine lv_iload_n hx hb dX11_hush_11 rfl (lv_at hl 0 rfl) ?_
  refine lv_if_ne (tgt := 20) hx hb dX11_hush_12 (by decide) (fun t12 => ?_) (fun t12 => ?_)
  · have hf := (if_neg t12).symm.trans hf
    refine lv_aload_n hx hb dX11_hush_20 rfl (lv_at hl 1 rfl) ?_
    refine bk_get (wf := cw) (q0 := 0) (ci := 10) (k := 4) (v := .ref (g.2.2 21)) C hP wl_X11 rfl rfl (by decide) wa_27 rfl rfl dX11_hush_21 ?_
    refine bk_get (wf := cw) (q0 := 21) (ci := 1) (k := 1) (v := .ref (g.2.2 27)) C hP wl_X1 rfl rfl (by decide) wa_222 rfl rfl dX11_hush_24 ?_
    refine lv_aload_n hx hb dX11_hush_27 rfl (lv_at hl 1 rfl) ?_
    refine bk_get (wf := cw) (q0 := 0) (ci := 10) (k := 4) (v := .ref (g.2.2 21)) C hP wl_X11 rfl rfl (by decide) wa_27 rfl rfl dX11_hush_28 ?_
    refine bk_get (wf := cw) (q0 := 21) (ci := 1) (k := 0) (v := .ref (g.2.2 22)) C hP wl_X1 rfl rfl (by decide) wa_221 rfl rfl dX11_hush_31 ?_
    obtain ⟨q3, hq3, hf⟩ := bi_s hf
    refine bk_VV (wf := cw) (q0 := 27) (ci := 0) (rest := []) [.ref (g.2.2 22)] C hP hD hS hl.1 (c_X0_keep_27_22 hXo hq3) (cwA_V 1 hts wa_816 wa_813 wa_814 wa_815 wa_97 rfl rfl nd_X0_keep ⟨Nat.le_of_ble_eq_true rfl, Nat.le_of_ble_eq_true rfl⟩) rfl rfl rfl rfl (Nat.le_of_ble_eq_true rfl) dX11_hush_34 ⟨Nat.le_of_ble_eq_true rfl, Nat.le_of_ble_eq_true rfl⟩ (fun H locs hP hD hS => ?_)
    refine lv_aload_n hx hb dX11_hush_37 rfl (lv_at hl 1 rfl) ?_
    refine bk_get (wf := cw) (q0 := 0) (ci := 10) (k := 4) (v := .ref (g.2.2 21)) C hP wl_X11 rfl rfl (by decide) wa_27 rfl rfl dX11_hush_38 ?_
    refine bk_get (wf := cw) (q0 := 21) (ci := 1) (k := 0) (v := .ref (g.2.2 22)) C hP wl_X1 rfl rfl (by decide) wa_221 rfl rfl dX11_hush_41 ?_
    obtain ⟨q4, hq4, hf⟩ := bi_s hf
    refine bk_VV (wf := cw) (q0 := 22) (ci := 7) (rest := []) [] C hP hD hS hl.1 (c_X7_quiet_22 hXo hq4) (cwA_V 0 hts wa_460 wa_982 wa_458 wa_459 wa_93 rfl rfl nd_X7_quiet ⟨Nat.le_of_ble_eq_true rfl, Nat.le_of_ble_eq_true rfl⟩) rfl rfl rfl rfl (Nat.le_of_ble_eq_true rfl) dX11_hush_44 ⟨Nat.le_of_ble_eq_true rfl, Nat.le_of_ble_eq_true rfl⟩ (fun H locs hP hD hS => ?_)
    refine lv_iload_n hx hb dX11_hush_47 rfl (lv_at hl 0 rfl) ?_
    cases hf
    exact bk_iret C hP hD hS rfl dX11_hush_48
  · have hf := (if_pos t12).symm.trans hf
    refine lv_aload_n hx hb dX11_hush_15 rfl (lv_at hl 1 rfl) ?_
    obtain ⟨q5, hq5, hf⟩ := bi_s hf
    refine bk_VI (wf := cw) (q0 := 0) (ci := 10) (rest := []) [] C hP hD hS hl.1 (c_X11_refuseAct_0 hXo hq5) (cwA_V 0 hts wa_812 wa_809 wa_810 wa_811 wa_2 rfl rfl nd_X11_refuseAct ⟨Nat.le_of_ble_eq_true rfl, Nat.le_of_ble_eq_true rfl⟩) rfl rfl rfl rfl (Nat.le_of_ble_eq_true rfl) dX11_hush_16 ⟨Nat.le_of_ble_eq_true rfl, Nat.le_of_ble_eq_true rfl⟩ (fun H locs hP hD hS => ?_)
    cases hf
    exact bk_iret C hP hD hS rfl dX11_hush_19
theorem c_X11_hush_0 {N : Nat} {σ : Sg} {z : Int32 × Sg} (hX : xOK g X) (hf : f_X11_hush_0 N σ = some z) : MetI l yX11_hush (Cond.code yX11_hush cX11_hush 2 (some .int) :: wsA) rm_X11_hush_0 cw g X [.ref (g.2.2 0)] σ z.1 z.2 :=
  MetI_of hX (by decide) (Nat.le_of_ble_eq_true rfl) (fun p e s m args below meth c A C => b_X11_hush_0 C hf)
-- X7_load_22_28: load([II)V
abbrev rm_X7_load_22_28 : Room := { frames := 0, cells := 0, slots := 0, locals := 0 }
theorem nd_X7_load : yX7_load.cls ≠ "java/lang/invoke/MethodHandle" ∧ yX7_load.cls ≠ "java/lang/invoke/VarHandle" ∧ (parseMethodDescriptor yX7_load.desc).map (fun d => d.parameters.length) = some 2 := by decide +kernel
def s_X7_load_22_28_h32 (N : Nat) (x2 : Int32) (x3 : Int32) (σ : Sg) : Option (Nat × Int32 × Sg) :=
if (9 : Int32) ≤ x3 then (some (1, 0, σ))
else (bd ((x2 + (2 : Int32)) + ((4 : Int32) * x3)) fun v1 =>
if (v1 < 0 ∨ 1520 ≤ v1.toNatClampNeg) then none else
if (x3 < 0 ∨ 9 ≤ x3.toNatClampNeg) then none else
bd (wr σ 23 (x3.toNatClampNeg) (σ 28 v1.toNatClampNeg)) fun σ4 =>
if ((v1 + (1 : Int32)) < 0 ∨ 1520 ≤ (v1 + (1 : Int32)).toNatClampNeg) then none else
if (x3 < 0 ∨ 9 ≤ x3.toNatClampNeg) then none else
bd (wr σ4 24 (x3.toNatClampNeg) (σ4 28 (v1 + (1 : Int32)).toNatClampNeg)) fun σ7 =>
if ((v1 + (2 : Int32)) < 0 ∨ 1520 ≤ (v1 + (2 : Int32)).toNatClampNeg) then none else
if (x3 < 0 ∨ 9 ≤ x3.toNatClampNeg) then none else
bd (wr σ7 25 (x3.toNatClampNeg) (σ7 28 (v1 + (2 : Int32)).toNatClampNeg)) fun σ10 =>
if ((v1 + (3 : Int32)) < 0 ∨ 1520 ≤ (v1 + (3 : Int32)).toNatClampNeg) then none else
if (x3 < 0 ∨ 9 ≤ x3.toNatClampNeg) then none else
bd (wr σ10 26 (x3.toNatClampNeg) (σ10 28 (v1 + (3 : Int32)).toNatClampNeg)) fun σ13 =>
bd (x3 + (1 : Int32)) fun v14 =>
some (0, v14, σ13))
set_option maxHeartbeats 4000000 in
set_option maxRecDepth 100000 in
theorem e_X7_load_22_28_h32 {N : Nat} {x2 : Int32} {x3 : Int32} {σ : Sg} {z : Nat × Int32 × Sg} (C : Cx p s m args meth c cX7_load 5 none RX7 g A X) (hf : s_X7_load_22_28_h32 N x2 x3 σ = some z) (k0 : z.1 = 0 → Bk cw p l e rm_X7_load_22_28 s m args below meth c 5 g A Q 0 0 32 [(0, .ref (g.2.2 22)), (1, .ref (g.2.2 28)), (2, .int x2), (3, .int z.2.1)] [] z.2.2) (k : ¬ z.1 = 0 → Bk cw p l e rm_X7_load_22_28 s m args below meth c 5 g A Q 0 0 99 [] [] z.2.2) : Bk cw p l e rm_X7_load_22_28 s m args below meth c 5 g A Q 0 0 32 [(0, .ref (g.2.2 22)), (1, .ref (g.2.2 28)), (2, .int x2), (3, .int x3)] [] σ := by
  obtain ⟨hx, hb, hr, hml, hown, hts, hK, hlocks, hXX, hA, hXo⟩ := id C
  intro H locs ls hP hD hS hl
  unfold s_X7_load_22_28_h32 at hf
  refine lv_iload_n hx hb dX7_load_32 rfl (lv_at hl 3 rfl) ?_
  refine lv_bipush (v := (9 : Int32)) hx hb dX7_load_33 (by decide) ?_
  refine lv_icmp_ge (tgt := 99) hx hb dX7_load_35 (by decide) (fun t35 => ?_) (fun t35 => ?_)
  · have hf := (if_pos t35).symm.trans hf
    cases hf
    exact (k (show ¬ (1 : Nat) = 0 by decide)) H locs ls hP hD hS (lv_sub hl [] rfl)
  · have hf := (if_neg t35).symm.trans hf
    refine lv_iload_n hx hb dX7_load_38 rfl (lv_at hl 2 rfl) ?_
    refine lv_iconst (v := (2 : Int32)) hx hb dX7_load_39 (by decide) ?_
    refine lv_iadd hx hb dX7_load_40 ?_
    refine lv_iconst (v := (4 : Int32)) hx hb dX7_load_41 (by decide) ?_
    refine lv_iload_n hx hb dX7_load_42 rfl (lv_at hl 3 rfl) ?_
    refine lv_imul hx hb dX7_load_43 ?_
    refine lv_iadd hx hb dX7_load_44 ?_
    obtain ⟨v1, ev1, hf⟩ := bd_s hf
    rw [← ev1]
    refine lv_istore (lv' := [(4, .int v1), (0, .ref (g.2.2 22)), (1, .ref (g.2.2 28)), (2, .int x2), (3, .int x3)]) hx hb dX7_load_45 hl (by decide) rfl (fun ls hl => ?_)
    refine lv_aload_n hx hb dX7_load_47 rfl (lv_at hl 1 rfl) ?_
    refine bk_get (wf := cw) (q0 := 22) (ci := 7) (k := 2) (v := .ref (g.2.2 23)) C hP wl_X7 rfl rfl (by decide) wa_109 rfl rfl dX7_load_48 ?_
    refine lv_iload_n hx hb dX7_load_51 rfl (lv_at hl 4 rfl) ?_
    refine lv_aload_n hx hb dX7_load_52 rfl (lv_at hl 2 rfl) ?_
    refine lv_iload hx hb dX7_load_53 (lv_at hl 0 rfl) ?_
    obtain ⟨g2, hf⟩ := gd_s hf
    refine bk_iald (wf := cw) (q0 := 28) (n := 1520) (j := v1.toNatClampNeg) C hP rfl g2 rfl dX7_load_55 ?_
    obtain ⟨g3, hf⟩ := gd_s hf
    obtain ⟨σ4, eσ4, hf⟩ := bd_s hf
    refine bk_iast (wf := cw) (σ1 := σ4) (q0 := 23) (n := 9) (j := x3.toNatClampNeg) C hP hD hS rfl g3 rfl (by rw [eσ4]; exact cw_a23 g _ _ _) dX7_load_56 (fun H locs hP hD hS => ?_)
    refine lv_aload_n hx hb dX7_load_57 rfl (lv_at hl 1 rfl) ?_
    refine bk_get (wf := cw) (q0 := 22) (ci := 7) (k := 3) (v := .ref (g.2.2 24)) C hP wl_X7 rfl rfl (by decide) wa_110 rfl rfl dX7_load_58 ?_
    refine lv_iload_n hx hb dX7_load_61 rfl (lv_at hl 4 rfl) ?_
    refine lv_aload_n hx hb dX7_load_62 rfl (lv_at hl 2 rfl) ?_
    refine lv_iload hx hb dX7_load_63 (lv_at hl 0 rfl) ?_
    refine lv_iconst (v := (1 : Int32)) hx hb dX7_load_65 (by decide) ?_
    refine lv_iadd hx hb dX7_load_66 ?_
    obtain ⟨g5, hf⟩ := gd_s hf
    refine bk_iald (wf := cw) (q0 := 28) (n := 1520) (j := (v1 + (1 : Int32)).toNatClampNeg) C hP rfl g5 rfl dX7_load_67 ?_
    obtain ⟨g6, hf⟩ := gd_s hf
    obtain ⟨σ7, eσ7, hf⟩ := bd_s hf
    refine bk_iast (wf := cw) (σ1 := σ7) (q0 := 24) (n := 9) (j := x3.toNatClampNeg) C hP hD hS rfl g6 rfl (by rw [eσ7]; exact cw_a24 g _ _ _) dX7_load_68 (fun H locs hP hD hS => ?_)
    refine lv_aload_n hx hb dX7_load_69 rfl (lv_at hl 1 rfl) ?_
    refine bk_get (wf := cw) (q0 := 22) (ci := 7) (k := 4) (v := .ref (g.2.2 25)) C hP wl_X7 rfl rfl (by decide) wa_111 rfl rfl dX7_load_70 ?_
    refine lv_iload_n hx hb dX7_load_73 rfl (lv_at hl 4 rfl) ?_
    refine lv_aload_n hx hb dX7_load_74 rfl (lv_at hl 2 rfl) ?_
    refine lv_iload hx hb dX7_load_75 (lv_at hl 0 rfl) ?_
    refine lv_iconst (v := (2 : Int32)) hx hb dX7_load_77 (by decide) ?_
    refine lv_iadd hx hb dX7_load_78 ?_
    obtain ⟨g8, hf⟩ := gd_s hf
    refine bk_iald (wf := cw) (q0 := 28) (n := 1520) (j := (v1 + (2 : Int32)).toNatClampNeg) C hP rfl g8 rfl dX7_load_79 ?_
    obtain ⟨g9, hf⟩ := gd_s hf
    obtain ⟨σ10, eσ10, hf⟩ := bd_s hf
    refine bk_iast (wf := cw) (σ1 := σ10) (q0 := 25) (n := 9) (j := x3.toNatClampNeg) C hP hD hS rfl g9 rfl (by rw [eσ10]; exact cw_a25 g _ _ _) dX7_load_80 (fun H locs hP hD hS => ?_)
    refine lv_aload_n hx hb dX7_load_81 rfl (lv_at hl 1 rfl) ?_
    refine bk_get (wf := cw) (q0 := 22) (ci := 7) (k := 5) (v := .ref (g.2.2 26)) C hP wl_X7 rfl rfl (by decide) wa_112 rfl rfl dX7_load_82 ?_
    refine lv_iload_n hx hb dX7_load_85 rfl (lv_at hl 4 rfl) ?_
    refine lv_aload_n hx hb dX7_load_86 rfl (lv_at hl 2 rfl) ?_
    refine lv_iload hx hb dX7_load_87 (lv_at hl 0 rfl) ?_
    refine lv_iconst (v := (3 : Int32)) hx hb dX7_load_89 (by decide) ?_
    refine lv_iadd hx hb dX7_load_90 ?_
    obtain ⟨g11, hf⟩ := gd_s hf
    refine bk_iald (wf := cw) (q0 := 28) (n := 1520) (j := (v1 + (3 : Int32)).toNatClampNeg) C hP rfl g11 rfl dX7_load_91 ?_
    obtain ⟨g12, hf⟩ := gd_s hf
    obtain ⟨σ13, eσ13, hf⟩ := bd_s hf
    refine bk_iast (wf := cw) (σ1 := σ13) (q0 := 26) (n := 9) (j := x3.toNatClampNeg) C hP hD hS rfl g12 rfl (by rw [eσ13]; exact cw_a26 g _ _ _) dX7_load_92 (fun H locs hP hD hS => ?_)
    obtain ⟨v14, ev14, hf⟩ := bd_s hf
    refine lv_iinc (v := v14) (lv' := [(3, .int v14), (4, .int v1), (0, .ref (g.2.2 22)), (1, .ref (g.2.2 28)), (2, .int x2)]) hx hb dX7_load_93 hl (k := 4) rfl (by rw [ev14]; rfl) (by decide) rfl (fun ls hl => ?_)
    refine lv_goto (tgt := 32) hx hb dX7_load_96 (by decide) ?_
    cases hf
    exact k0 rfl H locs ls hP hD hS (lv_sub hl [2, 3, 4, 0] rfl)
theorem lp_X7_load_22_28_h32 {N n : Nat} {x2 : Int32} {x3 : Int32} {σ : Sg} {z : Nat × Int32 × Sg} (C : Cx p s m args meth c cX7_load 5 none RX7 g A X) (hz : it (fun q => s_X7_load_22_28_h32 N x2 q.1 q.2) n (x3, σ) = some z) (k : Bk cw p l e rm_X7_load_22_28 s m args below meth c 5 g A Q 0 0 99 [] [] z.2.2) : Bk cw p l e rm_X7_load_22_28 s m args below meth c 5 g A Q 0 0 32 [(0, .ref (g.2.2 22)), (1, .ref (g.2.2 28)), (2, .int x2), (3, .int x3)] [] σ :=
  it_W (S := Int32 × Sg) (fun q => Bk cw p l e rm_X7_load_22_28 s m args below meth c 5 g A Q 0 0 32 [(0, .ref (g.2.2 22)), (1, .ref (g.2.2 28)), (2, .int x2), (3, .int q.1)] [] q.2) (fun z => Bk cw p l e rm_X7_load_22_28 s m args below meth c 5 g A Q 0 0 99 [] [] z.2.2) (fun q z hq k0 k => e_X7_load_22_28_h32 C hq k0 k) n (x3, σ) z hz k
def f_X7_load_22_28 (N : Nat) (x2 : Int32) (σ : Sg) : Option (Sg) :=
if x2 < 0 then (some σ)
else (if x2 ≤ ((1520 : Int32) - (38 : Int32)) then (if (x2 < 0 ∨ 1520 ≤ x2.toNatClampNeg) then none else
bd (wr σ 22 0 (σ 28 x2.toNatClampNeg)) fun σ16 =>
if ((x2 + (1 : Int32)) < 0 ∨ 1520 ≤ (x2 + (1 : Int32)).toNatClampNeg) then none else
bd (wr σ16 22 1 (σ16 28 (x2 + (1 : Int32)).toNatClampNeg)) fun σ18 =>
(it (fun q => s_X7_load_22_28_h32 N x2 q.1 q.2) N ((0 : Int32), σ18)).bind fun z19 =>
some (z19.2.2))
else (some σ))
set_option maxHeartbeats 4000000 in
set_option maxRecDepth 100000 in
theorem b_X7_load_22_28 {N : Nat} {x2 : Int32} {σ : Sg} {z : Sg} (C : Cx p s m args meth c cX7_load 5 none RX7 g A X) (hf : f_X7_load_22_28 N x2 σ = some z) : Bk cw p l e rm_X7_load_22_28 s m args below meth c 5 g A (MQ below (qV cw g A z) args s 0 0 A) 0 0 0 [(0, .ref (g.2.2 22)), (1, .ref (g.2.2 28)), (2, .int x2)] [] σ := by
  obtain ⟨hx, hb, hr, hml, hown, hts, hK, hlocks, hXX, hA, hXo⟩ := id C
  intro H locs ls hP hD hS hl
  unfold f_X7_load_22_28 at hf
  refine lv_iload_n hx hb dX7_load_0 rfl (lv_at hl 2 rfl) ?_
  refine lv_if_lt (tgt := 13) hx hb dX7_load_1 (by decide) (fun t1 => ?_) (fun t1 => ?_)
  · have hf := (if_pos t1).symm.trans hf
    cases hf
    exact bk_vret C hP hD hS rfl dX7_load_13
  · have hf := (if_neg t1).symm.trans hf
    refine lv_iload_n hx hb dX7_load_4 rfl (lv_at hl 2 rfl) ?_
    refine lv_aload_n hx hb dX7_load_5 rfl (lv_at hl 1 rfl) ?_
    refine bk_alen (wf := cw) (q0 := 28) (t0 := 0) (v := (1520 : Int32)) C hP rfl rfl (show Int32.ofNat 1520 = (1520 : Int32) by decide) dX7_load_6 ?_
    refine lv_bipush (v := (38 : Int32)) hx hb dX7_load_7 (by decide) ?_
    refine lv_isub hx hb dX7_load_9 ?_
    refine lv_icmp_le (tgt := 14) hx hb dX7_load_10 (by decide) (fun t10 => ?_) (fun t10 => ?_)
    · have hf := (if_pos t10).symm.trans hf
      refine lv_aload_n hx hb dX7_load_14 rfl (lv_at hl 0 rfl) ?_
      refine lv_aload_n hx hb dX7_load_15 rfl (lv_at hl 1 rfl) ?_
      refine lv_iload_n hx hb dX7_load_16 rfl (lv_at hl 2 rfl) ?_
      obtain ⟨g15, hf⟩ := gd_s hf
      refine bk_iald (wf := cw) (q0 := 28) (n := 1520) (j := x2.toNatClampNeg) C hP rfl g15 rfl dX7_load_17 ?_
      obtain ⟨σ16, eσ16, hf⟩ := bd_s hf
      refine bk_put (wf := cw) (σ1 := σ16) (q0 := 22) (ci := 7) (k := 0) (v := .int (σ 28 x2.toNatClampNeg)) C hP hD hS wl_X7 tyX7_ok nmX7 rfl rfl (by decide) wa_107 rfl rfl rfl rfl rfl (Nat.le_of_ble_eq_true rfl) (by rw [eσ16]; exact cw_p22_0 g _ _) dX7_load_18 (fun H locs hP hD hS => ?_)
      refine lv_aload_n hx hb dX7_load_21 rfl (lv_at hl 0 rfl) ?_
      refine lv_aload_n hx hb dX7_load_22 rfl (lv_at hl 1 rfl) ?_
      refine lv_iload_n hx hb dX7_load_23 rfl (lv_at hl 2 rfl) ?_
      refine lv_iconst (v := (1 : Int32)) hx hb dX7_load_24 (by decide) ?_
      refine lv_iadd hx hb dX7_load_25 ?_
      obtain ⟨g17, hf⟩ := gd_s hf
      refine bk_iald (wf := cw) (q0 := 28) (n := 1520) (j := (x2 + (1 : Int32)).toNatClampNeg) C hP rfl g17 rfl dX7_load_26 ?_
      obtain ⟨σ18, eσ18, hf⟩ := bd_s hf
      refine bk_put (wf := cw) (σ1 := σ18) (q0 := 22) (ci := 7) (k := 1) (v := .int (σ16 28 (x2 + (1 : Int32)).toNatClampNeg)) C hP hD hS wl_X7 tyX7_ok nmX7 rfl rfl (by decide) wa_108 rfl rfl rfl rfl rfl (Nat.le_of_ble_eq_true rfl) (by rw [eσ18]; exact cw_p22_1 g _ _) dX7_load_27 (fun H locs hP hD hS => ?_)
      refine lv_iconst (v := (0 : Int32)) hx hb dX7_load_30 (by decide) ?_
      refine lv_istore_n (lv' := [(3, .int (0 : Int32)), (0, .ref (g.2.2 22)), (1, .ref (g.2.2 28)), (2, .int x2)]) hx hb dX7_load_31 rfl hl (by decide) rfl (fun ls hl => ?_)
      obtain ⟨z19, hz19, hf⟩ := bi_s hf
      refine lp_X7_load_22_28_h32 C hz19 ?_ H locs ls hP hD hS (lv_sub hl [1, 2, 3, 0] rfl)
      intro H locs ls hP hD hS hl
      cases hf
      exact bk_vret C hP hD hS rfl dX7_load_99
    · have hf := (if_neg t10).symm.trans hf
      cases hf
      exact bk_vret C hP hD hS rfl dX7_load_13
theorem c_X7_load_22_28 {N : Nat} {x2 : Int32} {σ : Sg} {z : Sg} (hX : xOK g X) (hf : f_X7_load_22_28 N x2 σ = some z) : MetV l yX7_load (Cond.code yX7_load cX7_load 5 none :: wsA) rm_X7_load_22_28 cw g X [.ref (g.2.2 22), .ref (g.2.2 28), .int x2] σ z :=
  MetV_of hX (by decide) (Nat.le_of_ble_eq_true rfl) (fun p e s m args below meth c A C => b_X7_load_22_28 C hf)
-- X0_takeBack_27_22: takeBack(LNodPost$State;)Z
abbrev rm_X0_takeBack_27_22 : Room := { frames := 1, cells := 0, slots := 0, locals := 24 }
theorem nd_X0_takeBack : yX0_takeBack.cls ≠ "java/lang/invoke/MethodHandle" ∧ yX0_takeBack.cls ≠ "java/lang/invoke/VarHandle" ∧ (parseMethodDescriptor yX0_takeBack.desc).map (fun d => d.parameters.length) = some 1 := by decide +kernel
def f_X0_takeBack_27_22 (N : Nat) (σ : Sg) : Option (Int32 × Sg) :=
if (σ 27 0) = 0 then (some ((0 : Int32), σ))
else (bd (wr σ 27 1 ((((σ 27 1) + (40 : Int32)) - (1 : Int32)) - (((σ 27 1) + (40 : Int32)) - (1 : Int32)) / (40 : Int32) * (40 : Int32))) fun σ1 =>
bd (wr σ1 27 0 ((σ1 27 0) - (1 : Int32))) fun σ2 =>
(f_X7_load_22_28 N ((σ2 27 1) * (38 : Int32)) σ2).bind fun q3 =>
some ((1 : Int32), q3))
set_option maxHeartbeats 4000000 in
set_option maxRecDepth 100000 in
theorem b_X0_takeBack_27_22 {N : Nat} {σ : Sg} {z : Int32 × Sg} (C : Cx p s m args meth c cX0_takeBack 2 (some .boolean) RX0 g A X) (hf : f_X0_takeBack_27_22 N σ = some z) : Bk cw p l e rm_X0_takeBack_27_22 s m args below meth c 2 g A (MQ below (qI cw g A z.1 z.2) args s 0 0 A) 0 0 0 [(0, .ref (g.2.2 27)), (1, .ref (g.2.2 22))] [] σ := by
  obtain ⟨hx, hb, hr, hml, hown, hts, hK, hlocks, hXX, hA, hXo⟩ := id C
  intro H locs ls hP hD hS hl
  unfold f_X0_takeBack_27_22 at hf
  refine lv_aload_n hx hb dX0_takeBack_0 rfl (lv_at hl 0 rfl) ?_
  refine bk_get (wf := cw) (q0 := 27) (ci := 0) (k := 0) (v := .int (σ 27 0)) C hP wl_X0 rfl rfl (by decide) wa_116 rfl rfl dX0_takeBack_1 ?_
  refine lv_if_ne (tgt := 9) hx hb dX0_takeBack_4 (by decide) (fun t4 => ?_) (fun t4 => ?_)
  · have hf := (if_neg t4).symm.trans hf
    refine lv_aload_n hx hb dX0_takeBack_9 rfl (lv_at hl 0 rfl) ?_
    refine lv_aload_n hx hb dX0_takeBack_10 rfl (lv_at hl 0 rfl) ?_
    refine bk_get (wf := cw) (q0 := 27) (ci := 0) (k := 1) (v := .int (σ 27 1)) C hP wl_X0 rfl rfl (by decide) wa_117 rfl rfl dX0_takeBack_11 ?_
    refine lv_bipush (v := (40 : Int32)) hx hb dX0_takeBack_14 (by decide) ?_
    refine lv_iadd hx hb dX0_takeBack_16 ?_
    refine lv_iconst (v := (1 : Int32)) hx hb dX0_takeBack_17 (by decide) ?_
    refine lv_isub hx hb dX0_takeBack_18 ?_
    refine lv_bipush (v := (40 : Int32)) hx hb dX0_takeBack_19 (by decide) ?_
    refine lv_irem hx hb dX0_takeBack_21 (by decide) ?_
    obtain ⟨σ1, eσ1, hf⟩ := bd_s hf
    refine bk_put (wf := cw) (σ1 := σ1) (q0 := 27) (ci := 0) (k := 1) (v := .int ((((σ 27 1) + (40 : Int32)) - (1 : Int32)) - (((σ 27 1) + (40 : Int32)) - (1 : Int32)) / (40 : Int32) * (40 : Int32))) C hP hD hS wl_X0 tyX0_ok nmX0 rfl rfl (by decide) wa_117 rfl rfl rfl rfl rfl (Nat.le_of_ble_eq_true rfl) (by rw [eσ1]; exact cw_p27_1 g _ _) dX0_takeBack_22 (fun H locs hP hD hS => ?_)
    refine lv_aload_n hx hb dX0_takeBack_25 rfl (lv_at hl 0 rfl) ?_
    refine lv_dup hx hb dX0_takeBack_26 rfl ?_
    refine bk_get (wf := cw) (q0 := 27) (ci := 0) (k := 0) (v := .int (σ1 27 0)) C hP wl_X0 rfl rfl (by decide) wa_116 rfl rfl dX0_takeBack_27 ?_
    refine lv_iconst (v := (1 : Int32)) hx hb dX0_takeBack_30 (by decide) ?_
    refine lv_isub hx hb dX0_takeBack_31 ?_
    obtain ⟨σ2, eσ2, hf⟩ := bd_s hf
    refine bk_put (wf := cw) (σ1 := σ2) (q0 := 27) (ci := 0) (k := 0) (v := .int ((σ1 27 0) - (1 : Int32))) C hP hD hS wl_X0 tyX0_ok nmX0 rfl rfl (by decide) wa_116 rfl rfl rfl rfl rfl (Nat.le_of_ble_eq_true rfl) (by rw [eσ2]; exact cw_p27_0 g _ _) dX0_takeBack_32 (fun H locs hP hD hS => ?_)
    refine lv_aload_n hx hb dX0_takeBack_35 rfl (lv_at hl 1 rfl) ?_
    refine lv_aload_n hx hb dX0_takeBack_36 rfl (lv_at hl 0 rfl) ?_
    refine bk_get (wf := cw) (q0 := 27) (ci := 0) (k := 2) (v := .ref (g.2.2 28)) C hP wl_X0 rfl rfl (by decide) wa_118 rfl rfl dX0_takeBack_37 ?_
    refine lv_aload_n hx hb dX0_takeBack_40 rfl (lv_at hl 0 rfl) ?_
    refine bk_get (wf := cw) (q0 := 27) (ci := 0) (k := 1) (v := .int (σ2 27 1)) C hP wl_X0 rfl rfl (by decide) wa_117 rfl rfl dX0_takeBack_41 ?_
    refine lv_bipush (v := (38 : Int32)) hx hb dX0_takeBack_44 (by decide) ?_
    refine lv_imul hx hb dX0_takeBack_46 ?_
    obtain ⟨q3, hq3, hf⟩ := bi_s hf
    refine bk_VV (wf := cw) (q0 := 22) (ci := 7) (rest := []) [.ref (g.2.2 28), .int ((σ2 27 1) * (38 : Int32))] C hP hD hS hl.1 (c_X7_load_22_28 hXo hq3) (cwA_V 2 hts wa_1002 wa_999 wa_1000 wa_1001 wa_93 rfl rfl nd_X7_load ⟨Nat.le_of_ble_eq_true rfl, Nat.le_of_ble_eq_true rfl⟩) rfl rfl rfl rfl (Nat.le_of_ble_eq_true rfl) dX0_takeBack_47 ⟨Nat.le_of_ble_eq_true rfl, Nat.le_of_ble_eq_true rfl⟩ (fun H locs hP hD hS => ?_)
    refine lv_iconst (v := (1 : Int32)) hx hb dX0_takeBack_50 (by decide) ?_
    cases hf
    exact bk_zret C hP hD hS (by decide) rfl dX0_takeBack_51
  · have hf := (if_pos t4).symm.trans hf
    refine lv_iconst (v := (0 : Int32)) hx hb dX0_takeBack_7 (by decide) ?_
    cases hf
    exact bk_zret C hP hD hS (by decide) rfl dX0_takeBack_8
theorem c_X0_takeBack_27_22 {N : Nat} {σ : Sg} {z : Int32 × Sg} (hX : xOK g X) (hf : f_X0_takeBack_27_22 N σ = some z) : MetI l yX0_takeBack (Cond.code yX0_takeBack cX0_takeBack 2 (some .boolean) :: wsA) rm_X0_takeBack_27_22 cw g X [.ref (g.2.2 27), .ref (g.2.2 22)] σ z.1 z.2 :=
  MetI_of hX (by decide) (Nat.le_of_ble_eq_true rfl) (fun p e s m args below meth c A C => b_X0_takeBack_27_22 C hf)
-- X11_undo_0: undo()I
abbrev rm_X11_undo_0 : Room := { frames := 5, cells := 0, slots := 0, locals := 115 }
theorem nd_X11_undo : yX11_undo.cls ≠ "java/lang/invoke/MethodHandle" ∧ yX11_undo.cls ≠ "java/lang/invoke/VarHandle" ∧ (parseMethodDescriptor yX11_undo.desc).map (fun d => d.parameters.length) = some 0 := by decide +kernel
def f_X11_undo_0 (N : Nat) (σ : Sg) : Option (Int32 × Sg) :=
(f_X0_takeBack_27_22 N σ).bind fun q1 =>
if q1.1 = 0 then (some ((-1 : Int32), (q1.2)))
else ((f_X6_build_47_26 N (q1.2)).bind fun q2 =>
some ((q2 27 0), q2))
set_option maxHeartbeats 4000000 in
set_option maxRecDepth 100000 in
theorem b_X11_undo_0 {N : Nat} {σ : Sg} {z : Int32 × Sg} (C : Cx p s m args meth c cX11_undo 1 (some .int) RX11 g A X) (hf : f_X11_undo_0 N σ = some z) : Bk cw p l e rm_X11_undo_0 s m args below meth c 1 g A (MQ below (qI cw g A z.1 z.2) args s 0 0 A) 0 0 0 [(0, .ref (g.2.2 0))] [] σ := by
  obtain ⟨hx, hb, hr, hml, hown, hts, hK, hlocks, hXX, hA, hXo⟩ := id C
  intro H locs ls hP hD hS hl
  unfold f_X11_undo_0 at hf
  refine lv_aload_n hx hb dX11_undo_0 rfl (lv_at hl 0 rfl) ?_
  refine bk_get (wf := cw) (q0 := 0) (ci := 10) (k := 4) (v := .ref (g.2.2 21)) C hP wl_X11 rfl rfl (by decide) wa_27 rfl rfl dX11_undo_1 ?_
  refine bk_get (wf := cw) (q0 := 21) (ci := 1) (k := 1) (v := .ref (g.2.2 27)) C hP wl_X1 rfl rfl (by decide) wa_222 rfl rfl dX11_undo_4 ?_
  refine lv_aload_n hx hb dX11_undo_7 rfl (lv_at hl 0 rfl) ?_
  refine bk_get (wf := cw) (q0 := 0) (ci := 10) (k := 4) (v := .ref (g.2.2 21)) C hP wl_X11 rfl rfl (by decide) wa_27 rfl rfl dX11_undo_8 ?_
  refine bk_get (wf := cw) (q0 := 21) (ci := 1) (k := 0) (v := .ref (g.2.2 22)) C hP wl_X1 rfl rfl (by decide) wa_221 rfl rfl dX11_undo_11 ?_
  obtain ⟨q1, hq1, hf⟩ := bi_s hf
  refine bk_VI (wf := cw) (q0 := 27) (ci := 0) (rest := []) [.ref (g.2.2 22)] C hP hD hS hl.1 (c_X0_takeBack_27_22 hXo hq1) (cwA_V 1 hts wa_998 wa_995 wa_996 wa_997 wa_97 rfl rfl nd_X0_takeBack ⟨Nat.le_of_ble_eq_true rfl, Nat.le_of_ble_eq_true rfl⟩) rfl rfl rfl rfl (Nat.le_of_ble_eq_true rfl) dX11_undo_14 ⟨Nat.le_of_ble_eq_true rfl, Nat.le_of_ble_eq_true rfl⟩ (fun H locs hP hD hS => ?_)
  refine lv_if_ne (tgt := 22) hx hb dX11_undo_17 (by decide) (fun t17 => ?_) (fun t17 => ?_)
  · have hf := (if_neg t17).symm.trans hf
    refine lv_aload_n hx hb dX11_undo_22 rfl (lv_at hl 0 rfl) ?_
    refine bk_get (wf := cw) (q0 := 0) (ci := 10) (k := 7) (v := .ref (g.2.2 47)) C hP wl_X11 rfl rfl (by decide) wa_33 rfl rfl dX11_undo_23 ?_
    refine lv_aload_n hx hb dX11_undo_26 rfl (lv_at hl 0 rfl) ?_
    refine bk_get (wf := cw) (q0 := 0) (ci := 10) (k := 4) (v := .ref (g.2.2 21)) C hP wl_X11 rfl rfl (by decide) wa_27 rfl rfl dX11_undo_27 ?_
    refine bk_get (wf := cw) (q0 := 21) (ci := 1) (k := 0) (v := .ref (g.2.2 22)) C hP wl_X1 rfl rfl (by decide) wa_221 rfl rfl dX11_undo_30 ?_
    refine bk_get (wf := cw) (q0 := 22) (ci := 7) (k := 5) (v := .ref (g.2.2 26)) C hP wl_X7 rfl rfl (by decide) wa_224 rfl rfl dX11_undo_33 ?_
    obtain ⟨q2, hq2, hf⟩ := bi_s hf
    refine bk_VV (wf := cw) (q0 := 47) (ci := 6) (rest := []) [.ref (g.2.2 26)] C hP hD hS hl.1 (c_X6_build_47_26 hXo hq2) (cwA_V 1 hts wa_472 wa_469 wa_470 wa_471 wa_32 rfl rfl nd_X6_build ⟨Nat.le_of_ble_eq_true rfl, Nat.le_of_ble_eq_true rfl⟩) rfl rfl rfl rfl (Nat.le_of_ble_eq_true rfl) dX11_undo_36 ⟨Nat.le_of_ble_eq_true rfl, Nat.le_of_ble_eq_true rfl⟩ (fun H locs hP hD hS => ?_)
    refine lv_aload_n hx hb dX11_undo_39 rfl (lv_at hl 0 rfl) ?_
    refine bk_get (wf := cw) (q0 := 0) (ci := 10) (k := 4) (v := .ref (g.2.2 21)) C hP wl_X11 rfl rfl (by decide) wa_27 rfl rfl dX11_undo_40 ?_
    refine bk_get (wf := cw) (q0 := 21) (ci := 1) (k := 1) (v := .ref (g.2.2 27)) C hP wl_X1 rfl rfl (by decide) wa_222 rfl rfl dX11_undo_43 ?_
    refine bk_get (wf := cw) (q0 := 27) (ci := 0) (k := 0) (v := .int (q2 27 0)) C hP wl_X0 rfl rfl (by decide) wa_649 rfl rfl dX11_undo_46 ?_
    cases hf
    exact bk_iret C hP hD hS rfl dX11_undo_49
  · have hf := (if_pos t17).symm.trans hf
    refine lv_iconst (v := (-1 : Int32)) hx hb dX11_undo_20 (by decide) ?_
    cases hf
    exact bk_iret C hP hD hS rfl dX11_undo_21
theorem c_X11_undo_0 {N : Nat} {σ : Sg} {z : Int32 × Sg} (hX : xOK g X) (hf : f_X11_undo_0 N σ = some z) : MetI l yX11_undo (Cond.code yX11_undo cX11_undo 1 (some .int) :: wsA) rm_X11_undo_0 cw g X [.ref (g.2.2 0)] σ z.1 z.2 :=
  MetI_of hX (by decide) (Nat.le_of_ble_eq_true rfl) (fun p e s m args below meth c A C => b_X11_undo_0 C hf)
-- X11_nodding_0: nodding(I)I
abbrev rm_X11_nodding_0 : Room := { frames := 7, cells := 1, slots := 6, locals := 144 }
theorem nd_X11_nodding : yX11_nodding.cls ≠ "java/lang/invoke/MethodHandle" ∧ yX11_nodding.cls ≠ "java/lang/invoke/VarHandle" ∧ (parseMethodDescriptor yX11_nodding.desc).map (fun d => d.parameters.length) = some 1 := by decide +kernel
def s_X11_nodding_0_h25 (N : Nat) (x1 : Int32) (x2 : Int32) (x3 : Int32) (σ : Sg) : Option (Nat × Int32 × Int32 × Sg) :=
if x1 < x3 then (some (1, x2, 0, σ))
else ((f_X2_go_55 N σ).bind fun q1 =>
bd q1.1 fun v2 =>
bd (x3 + (1 : Int32)) fun v3 =>
some (0, v2, v3, (q1.2)))
set_option maxHeartbeats 4000000 in
set_option maxRecDepth 100000 in
theorem e_X11_nodding_0_h25 {N : Nat} {x1 : Int32} {x2 : Int32} {x3 : Int32} {σ : Sg} {z : Nat × Int32 × Int32 × Sg} (C : Cx p s m args meth c cX11_nodding 4 (some .int) RX11 g A X) (hex : ∀ x ∈ c.exceptionTable.toList, False) (hst : l.stackTraces = false) (hf : s_X11_nodding_0_h25 N x1 x2 x3 σ = some z) (k0 : z.1 = 0 → Bk cw p l e rm_X11_nodding_0 s m args below meth c 4 g A Q 1 6 25 [(0, .ref (g.2.2 0)), (1, .int x1), (2, .int z.2.1), (3, .int z.2.2.1)] [] z.2.2.2) (k : ¬ z.1 = 0 → Bk cw p l e rm_X11_nodding_0 s m args below meth c 4 g A Q 1 6 44 [(2, .int z.2.1)] [] z.2.2.2) : Bk cw p l e rm_X11_nodding_0 s m args below meth c 4 g A Q 1 6 25 [(0, .ref (g.2.2 0)), (1, .int x1), (2, .int x2), (3, .int x3)] [] σ := by
  obtain ⟨hx, hb, hr, hml, hown, hts, hK, hlocks, hXX, hA, hXo⟩ := id C
  intro H locs ls hP hD hS hl
  unfold s_X11_nodding_0_h25 at hf
  refine lv_iload_n hx hb dX11_nodding_25 rfl (lv_at hl 3 rfl) ?_
  refine lv_iload_n hx hb dX11_nodding_26 rfl (lv_at hl 1 rfl) ?_
  refine lv_icmp_gt (tgt := 44) hx hb dX11_nodding_27 (by decide) (fun t27 => ?_) (fun t27 => ?_)
  · have hf := (if_pos t27).symm.trans hf
    cases hf
    exact (k (show ¬ (1 : Nat) = 0 by decide)) H locs ls hP hD hS (lv_sub hl [2] rfl)
  · have hf := (if_neg t27).symm.trans hf
    refine lv_aload_n hx hb dX11_nodding_30 rfl (lv_at hl 0 rfl) ?_
    refine bk_get (wf := cw) (q0 := 0) (ci := 10) (k := 10) (v := .ref (g.2.2 55)) C hP wl_X11 rfl rfl (by decide) wa_42 rfl rfl dX11_nodding_31 ?_
    obtain ⟨q1, hq1, hf⟩ := bi_s hf
    refine bk_VI (wf := cw) (q0 := 55) (ci := 2) (rest := []) [] C hP hD hS hl.1 (c_X2_go_55 hXo hq1) (cwA_V 0 hts wa_833 wa_830 wa_831 wa_832 wa_41 rfl rfl nd_X2_go ⟨Nat.le_of_ble_eq_true rfl, Nat.le_of_ble_eq_true rfl⟩) rfl rfl rfl rfl (Nat.le_of_ble_eq_true rfl) dX11_nodding_34 ⟨Nat.le_of_ble_eq_true rfl, Nat.le_of_ble_eq_true rfl⟩ (fun H locs hP hD hS => ?_)
    obtain ⟨v2, ev2, hf⟩ := bd_s hf
    rw [← ev2]
    refine lv_istore_n (lv' := [(2, .int v2), (0, .ref (g.2.2 0)), (1, .int x1), (3, .int x3)]) hx hb dX11_nodding_37 rfl hl (by decide) rfl (fun ls hl => ?_)
    obtain ⟨v3, ev3, hf⟩ := bd_s hf
    refine lv_iinc (v := v3) (lv' := [(3, .int v3), (2, .int v2), (0, .ref (g.2.2 0)), (1, .int x1)]) hx hb dX11_nodding_38 hl (k := 3) rfl (by rw [ev3]; rfl) (by decide) rfl (fun ls hl => ?_)
    refine lv_goto (tgt := 25) hx hb dX11_nodding_41 (by decide) ?_
    cases hf
    exact k0 rfl H locs ls hP hD hS (lv_sub hl [2, 3, 1, 0] rfl)
theorem lp_X11_nodding_0_h25 {N n : Nat} {x1 : Int32} {x2 : Int32} {x3 : Int32} {σ : Sg} {z : Nat × Int32 × Int32 × Sg} (C : Cx p s m args meth c cX11_nodding 4 (some .int) RX11 g A X) (hex : ∀ x ∈ c.exceptionTable.toList, False) (hst : l.stackTraces = false) (hz : it (fun q => s_X11_nodding_0_h25 N x1 q.1 q.2.1 q.2.2) n (x2, x3, σ) = some z) (k : Bk cw p l e rm_X11_nodding_0 s m args below meth c 4 g A Q 1 6 44 [(2, .int z.2.1)] [] z.2.2.2) : Bk cw p l e rm_X11_nodding_0 s m args below meth c 4 g A Q 1 6 25 [(0, .ref (g.2.2 0)), (1, .int x1), (2, .int x2), (3, .int x3)] [] σ :=
  it_W (S := Int32 × Int32 × Sg) (fun q => Bk cw p l e rm_X11_nodding_0 s m args below meth c 4 g A Q 1 6 25 [(0, .ref (g.2.2 0)), (1, .int x1), (2, .int q.1), (3, .int q.2.1)] [] q.2.2) (fun z => Bk cw p l e rm_X11_nodding_0 s m args below meth c 4 g A Q 1 6 44 [(2, .int z.2.1)] [] z.2.2.2) (fun q z hq k0 k => e_X11_nodding_0_h25 C hex hst hq k0 k) n (x2, x3, σ) z hz k
def f_X11_nodding_0 (N : Nat) (x1 : Int32) (σ : Sg) : Option (Zt) :=
(f_X11_needWithin N x1 (1 : Int32) (60 : Int32) σ).bind fun q4 =>
if q4.1 = 0 then ((f_X2_start_55_22 N (q4.2.2)).bind fun q5 =>
(it (fun q => s_X11_nodding_0_h25 N x1 q.1 q.2.1 q.2.2) N ((0 : Int32), (1 : Int32), q5)).bind fun z6 =>
some (0, (z6.2.1), (z6.2.2.2)))
else some (q4.1, 0, q4.2.2)
set_option maxHeartbeats 4000000 in
set_option maxRecDepth 100000 in
theorem b_X11_nodding_0 {N : Nat} {x1 : Int32} {σ : Sg} {z : Zt} (C : Cx p s m args meth c cX11_nodding 4 (some .int) RX11 g A X) (hex : ∀ x ∈ c.exceptionTable.toList, False) (hst : l.stackTraces = false) (hf : f_X11_nodding_0 N x1 σ = some z) : Bk cw p l e rm_X11_nodding_0 s m args below meth c 4 g A (vx_MQ below (qTi cw g A z) (xT cw g A z) args s 1 6 A) 0 0 0 [(0, .ref (g.2.2 0)), (1, .int x1)] [] σ := by
  obtain ⟨hx, hb, hr, hml, hown, hts, hK, hlocks, hXX, hA, hXo⟩ := id C
  intro H locs ls hP hD hS hl
  unfold f_X11_nodding_0 at hf
  refine lv_iload_n hx hb dX11_nodding_0 rfl (lv_at hl 1 rfl) ?_
  refine lv_iconst (v := (1 : Int32)) hx hb dX11_nodding_1 (by decide) ?_
  refine lv_bipush (v := (60 : Int32)) hx hb dX11_nodding_2 (by decide) ?_
  obtain ⟨q4, hq4, hf⟩ := bi_s hf
  refine bk_TS (wf := cw) (rest := []) [.int x1, .int (1 : Int32), .int (60 : Int32)] C hex hP hD hS hl.1 (c_X11_needWithin hXo hst hq4) (cwA_S 3 hts wa_1020 wa_1018 wa_1019 wa_2 rfl rfl nd_X11_needWithin ⟨Nat.le_of_ble_eq_true rfl, Nat.le_of_ble_eq_true rfl⟩) rfl rfl (Nat.le_of_ble_eq_true rfl) dX11_nodding_4 ⟨Nat.le_of_ble_eq_true rfl, Nat.le_of_ble_eq_true rfl⟩ ⟨Nat.le_of_ble_eq_true rfl, Nat.le_of_ble_eq_true rfl⟩ (fun h0 => by have hf := (if_neg h0).symm.trans hf; cases hf; exact ⟨rfl, rfl⟩) (fun h0 H locs hP hD hS => ?_)
  have hf := (if_pos h0).symm.trans hf
  refine lv_aload_n hx hb dX11_nodding_7 rfl (lv_at hl 0 rfl) ?_
  refine bk_get (wf := cw) (q0 := 0) (ci := 10) (k := 10) (v := .ref (g.2.2 55)) C hP wl_X11 rfl rfl (by decide) wa_42 rfl rfl dX11_nodding_8 ?_
  refine lv_aload_n hx hb dX11_nodding_11 rfl (lv_at hl 0 rfl) ?_
  refine bk_get (wf := cw) (q0 := 0) (ci := 10) (k := 4) (v := .ref (g.2.2 21)) C hP wl_X11 rfl rfl (by decide) wa_27 rfl rfl dX11_nodding_12 ?_
  refine bk_get (wf := cw) (q0 := 21) (ci := 1) (k := 0) (v := .ref (g.2.2 22)) C hP wl_X1 rfl rfl (by decide) wa_221 rfl rfl dX11_nodding_15 ?_
  obtain ⟨q5, hq5, hf⟩ := bi_s hf
  refine bk_VV (wf := cw) (q0 := 55) (ci := 2) (rest := []) [.ref (g.2.2 22)] C hP hD hS hl.1 (c_X2_start_55_22 hXo hq5) (cwA_V 1 hts wa_825 wa_822 wa_823 wa_824 wa_41 rfl rfl nd_X2_start ⟨Nat.le_of_ble_eq_true rfl, Nat.le_of_ble_eq_true rfl⟩) rfl rfl rfl rfl (Nat.le_of_ble_eq_true rfl) dX11_nodding_18 ⟨Nat.le_of_ble_eq_true rfl, Nat.le_of_ble_eq_true rfl⟩ (fun H locs hP hD hS => ?_)
  refine lv_iconst (v := (0 : Int32)) hx hb dX11_nodding_21 (by decide) ?_
  refine lv_istore_n (lv' := [(2, .int (0 : Int32)), (0, .ref (g.2.2 0)), (1, .int x1)]) hx hb dX11_nodding_22 rfl hl (by decide) rfl (fun ls hl => ?_)
  refine lv_iconst (v := (1 : Int32)) hx hb dX11_nodding_23 (by decide) ?_
  refine lv_istore_n (lv' := [(3, .int (1 : Int32)), (2, .int (0 : Int32)), (0, .ref (g.2.2 0)), (1, .int x1)]) hx hb dX11_nodding_24 rfl hl (by decide) rfl (fun ls hl => ?_)
  obtain ⟨z6, hz6, hf⟩ := bi_s hf
  refine lp_X11_nodding_0_h25 C hex hst hz6 ?_ H locs ls hP hD hS (lv_sub hl [2, 3, 1, 0] rfl)
  intro H locs ls hP hD hS hl
  refine lv_iload_n hx hb dX11_nodding_44 rfl (lv_at hl 0 rfl) ?_
  exact bk_iretT C hP hD hS hf (Nat.le_of_ble_eq_true rfl) (Nat.le_of_ble_eq_true rfl) dX11_nodding_45
theorem c_X11_nodding_0 {N : Nat} {x1 : Int32} {σ : Sg} {z : Zt} (hX : xOK g X) (hst : l.stackTraces = false) (hf : f_X11_nodding_0 N x1 σ = some z) : MetTi l yX11_nodding (Cond.code yX11_nodding cX11_nodding 4 (some .int) :: wsA) rm_X11_nodding_0 1 6 cw g X [.ref (g.2.2 0), .int x1] σ z :=
  MetTi_of hX (by decide) (Nat.le_of_ble_eq_true rfl) (fun p e s m args below meth c A C hex => b_X11_nodding_0 C hex hst hf)
-- X11_then_0: then(III)I
abbrev rm_X11_then_0 : Room := { frames := 7, cells := 3, slots := 18, locals := 144 }
theorem nd_X11_then : yX11_then.cls ≠ "java/lang/invoke/MethodHandle" ∧ yX11_then.cls ≠ "java/lang/invoke/VarHandle" ∧ (parseMethodDescriptor yX11_then.desc).map (fun d => d.parameters.length) = some 3 := by decide +kernel
def s_X11_then_0_h34 (N : Nat) (x1 : Int32) (x2 : Int32) (x3 : Int32) (x4 : Int32) (σ : Sg) : Option (Nat × Int32 × Sg) :=
if x2 < x4 then (some (1, 0, σ))
else ((f_X2_go_55 N σ).bind fun q1 =>
bd (x4 + (1 : Int32)) fun v2 =>
some (0, v2, (q1.2)))
set_option maxHeartbeats 4000000 in
set_option maxRecDepth 100000 in
theorem e_X11_then_0_h34 {N : Nat} {x1 : Int32} {x2 : Int32} {x3 : Int32} {x4 : Int32} {σ : Sg} {z : Nat × Int32 × Sg} (C : Cx p s m args meth c cX11_then 5 (some .int) RX11 g A X) (hex : ∀ x ∈ c.exceptionTable.toList, False) (hst : l.stackTraces = false) (hf : s_X11_then_0_h34 N x1 x2 x3 x4 σ = some z) (k0 : z.1 = 0 → Bk cw p l e rm_X11_then_0 s m args below meth c 5 g A Q 3 18 34 [(0, .ref (g.2.2 0)), (1, .int x1), (2, .int x2), (3, .int x3), (4, .int z.2.1)] [] z.2.2) (k : ¬ z.1 = 0 → Bk cw p l e rm_X11_then_0 s m args below meth c 5 g A Q 3 18 54 [(0, .ref (g.2.2 0)), (1, .int x1), (3, .int x3)] [] z.2.2) : Bk cw p l e rm_X11_then_0 s m args below meth c 5 g A Q 3 18 34 [(0, .ref (g.2.2 0)), (1, .int x1), (2, .int x2), (3, .int x3), (4, .int x4)] [] σ := by
  obtain ⟨hx, hb, hr, hml, hown, hts, hK, hlocks, hXX, hA, hXo⟩ := id C
  intro H locs ls hP hD hS hl
  unfold s_X11_then_0_h34 at hf
  refine lv_iload hx hb dX11_then_34 (lv_at hl 4 rfl) ?_
  refine lv_iload_n hx hb dX11_then_36 rfl (lv_at hl 2 rfl) ?_
  refine lv_icmp_gt (tgt := 54) hx hb dX11_then_37 (by decide) (fun t37 => ?_) (fun t37 => ?_)
  · have hf := (if_pos t37).symm.trans hf
    cases hf
    exact (k (show ¬ (1 : Nat) = 0 by decide)) H locs ls hP hD hS (lv_sub hl [0, 1, 3] rfl)
  · have hf := (if_neg t37).symm.trans hf
    refine lv_aload_n hx hb dX11_then_40 rfl (lv_at hl 0 rfl) ?_
    refine bk_get (wf := cw) (q0 := 0) (ci := 10) (k := 10) (v := .ref (g.2.2 55)) C hP wl_X11 rfl rfl (by decide) wa_42 rfl rfl dX11_then_41 ?_
    obtain ⟨q1, hq1, hf⟩ := bi_s hf
    refine bk_VI (wf := cw) (q0 := 55) (ci := 2) (rest := []) [] C hP hD hS hl.1 (c_X2_go_55 hXo hq1) (cwA_V 0 hts wa_833 wa_830 wa_831 wa_832 wa_41 rfl rfl nd_X2_go ⟨Nat.le_of_ble_eq_true rfl, Nat.le_of_ble_eq_true rfl⟩) rfl rfl rfl rfl (Nat.le_of_ble_eq_true rfl) dX11_then_44 ⟨Nat.le_of_ble_eq_true rfl, Nat.le_of_ble_eq_true rfl⟩ (fun H locs hP hD hS => ?_)
    refine lv_pop hx hb dX11_then_47 rfl ?_
    obtain ⟨v2, ev2, hf⟩ := bd_s hf
    refine lv_iinc (v := v2) (lv' := [(4, .int v2), (0, .ref (g.2.2 0)), (1, .int x1), (2, .int x2), (3, .int x3)]) hx hb dX11_then_48 hl (k := 4) rfl (by rw [ev2]; rfl) (by decide) rfl (fun ls hl => ?_)
    refine lv_goto (tgt := 34) hx hb dX11_then_51 (by decide) ?_
    cases hf
    exact k0 rfl H locs ls hP hD hS (lv_sub hl [1, 2, 3, 4, 0] rfl)
theorem lp_X11_then_0_h34 {N n : Nat} {x1 : Int32} {x2 : Int32} {x3 : Int32} {x4 : Int32} {σ : Sg} {z : Nat × Int32 × Sg} (C : Cx p s m args meth c cX11_then 5 (some .int) RX11 g A X) (hex : ∀ x ∈ c.exceptionTable.toList, False) (hst : l.stackTraces = false) (hz : it (fun q => s_X11_then_0_h34 N x1 x2 x3 q.1 q.2) n (x4, σ) = some z) (k : Bk cw p l e rm_X11_then_0 s m args below meth c 5 g A Q 3 18 54 [(0, .ref (g.2.2 0)), (1, .int x1), (3, .int x3)] [] z.2.2) : Bk cw p l e rm_X11_then_0 s m args below meth c 5 g A Q 3 18 34 [(0, .ref (g.2.2 0)), (1, .int x1), (2, .int x2), (3, .int x3), (4, .int x4)] [] σ :=
  it_W (S := Int32 × Sg) (fun q => Bk cw p l e rm_X11_then_0 s m args below meth c 5 g A Q 3 18 34 [(0, .ref (g.2.2 0)), (1, .int x1), (2, .int x2), (3, .int x3), (4, .int q.1)] [] q.2) (fun z => Bk cw p l e rm_X11_then_0 s m args below meth c 5 g A Q 3 18 54 [(0, .ref (g.2.2 0)), (1, .int x1), (3, .int x3)] [] z.2.2) (fun q z hq k0 k => e_X11_then_0_h34 C hex hst hq k0 k) n (x4, σ) z hz k
def f_X11_then_0 (N : Nat) (x1 : Int32) (x2 : Int32) (x3 : Int32) (σ : Sg) : Option (Zt) :=
(f_X11_needFarm_0 N x1 σ).bind fun q3 =>
if q3.1 = 0 then ((f_X11_needWhat N x3 (1 : Int32) (q3.2.2)).bind fun q4 =>
if q4.1 = 0 then ((f_X11_needWithin N x2 (0 : Int32) (60 : Int32) (q4.2.2)).bind fun q5 =>
if q5.1 = 0 then ((f_X2_start_55_22 N (q5.2.2)).bind fun q6 =>
(it (fun q => s_X11_then_0_h34 N x1 x2 x3 q.1 q.2) N ((1 : Int32), q6)).bind fun z7 =>
if x3 = 0 then (if (x1 < 0 ∨ 9 ≤ x1.toNatClampNeg) then none else
some (0, ((z7.2.2) 57 x1.toNatClampNeg), (z7.2.2)))
else (if (x1 < 0 ∨ 9 ≤ x1.toNatClampNeg) then none else
some (0, ((z7.2.2) 59 x1.toNatClampNeg), (z7.2.2))))
else some (q5.1, 0, q5.2.2))
else some (q4.1, 0, q4.2.2))
else some (q3.1, 0, q3.2.2)
set_option maxHeartbeats 4000000 in
set_option maxRecDepth 100000 in
theorem b_X11_then_0 {N : Nat} {x1 : Int32} {x2 : Int32} {x3 : Int32} {σ : Sg} {z : Zt} (C : Cx p s m args meth c cX11_then 5 (some .int) RX11 g A X) (hex : ∀ x ∈ c.exceptionTable.toList, False) (hst : l.stackTraces = false) (hf : f_X11_then_0 N x1 x2 x3 σ = some z) : Bk cw p l e rm_X11_then_0 s m args below meth c 5 g A (vx_MQ below (qTi cw g A z) (xT cw g A z) args s 3 18 A) 0 0 0 [(0, .ref (g.2.2 0)), (1, .int x1), (2, .int x2), (3, .int x3)] [] σ := by
  obtain ⟨hx, hb, hr, hml, hown, hts, hK, hlocks, hXX, hA, hXo⟩ := id C
  intro H locs ls hP hD hS hl
  unfold f_X11_then_0 at hf
  refine lv_aload_n hx hb dX11_then_0 rfl (lv_at hl 0 rfl) ?_
  refine lv_iload_n hx hb dX11_then_1 rfl (lv_at hl 1 rfl) ?_
  obtain ⟨q3, hq3, hf⟩ := bi_s hf
  refine bk_TV (wf := cw) (q0 := 0) (ci := 10) (rest := []) [.int x1] C hex hP hD hS hl.1 (c_X11_needFarm_0 hXo hst hq3) (cwA_V 1 hts wa_791 wa_788 wa_789 wa_790 wa_2 rfl rfl nd_X11_needFarm ⟨Nat.le_of_ble_eq_true rfl, Nat.le_of_ble_eq_true rfl⟩) rfl rfl rfl rfl (Nat.le_of_ble_eq_true rfl) dX11_then_2 ⟨Nat.le_of_ble_eq_true rfl, Nat.le_of_ble_eq_true rfl⟩ ⟨Nat.le_of_ble_eq_true rfl, Nat.le_of_ble_eq_true rfl⟩ (fun h0 => by have hf := (if_neg h0).symm.trans hf; cases hf; exact ⟨rfl, rfl⟩) (fun h0 H locs hP hD hS => ?_)
  have hf := (if_pos h0).symm.trans hf
  refine lv_iload_n hx hb dX11_then_5 rfl (lv_at hl 3 rfl) ?_
  refine lv_iconst (v := (1 : Int32)) hx hb dX11_then_6 (by decide) ?_
  obtain ⟨q4, hq4, hf⟩ := bi_s hf
  refine bk_TS (wf := cw) (rest := []) [.int x3, .int (1 : Int32)] C hex hP hD hS hl.1 (c_X11_needWhat hXo hst hq4) (cwA_S 2 hts wa_1035 wa_1033 wa_1034 wa_2 rfl rfl nd_X11_needWhat ⟨Nat.le_of_ble_eq_true rfl, Nat.le_of_ble_eq_true rfl⟩) rfl rfl (Nat.le_of_ble_eq_true rfl) dX11_then_7 ⟨Nat.le_of_ble_eq_true rfl, Nat.le_of_ble_eq_true rfl⟩ ⟨Nat.le_of_ble_eq_true rfl, Nat.le_of_ble_eq_true rfl⟩ (fun h0 => by have hf := (if_neg h0).symm.trans hf; cases hf; exact ⟨rfl, rfl⟩) (fun h0 H locs hP hD hS => ?_)
  have hf := (if_pos h0).symm.trans hf
  refine lv_iload_n hx hb dX11_then_10 rfl (lv_at hl 2 rfl) ?_
  refine lv_iconst (v := (0 : Int32)) hx hb dX11_then_11 (by decide) ?_
  refine lv_bipush (v := (60 : Int32)) hx hb dX11_then_12 (by decide) ?_
  obtain ⟨q5, hq5, hf⟩ := bi_s hf
  refine bk_TS (wf := cw) (rest := []) [.int x2, .int (0 : Int32), .int (60 : Int32)] C hex hP hD hS hl.1 (c_X11_needWithin hXo hst hq5) (cwA_S 3 hts wa_1020 wa_1018 wa_1019 wa_2 rfl rfl nd_X11_needWithin ⟨Nat.le_of_ble_eq_true rfl, Nat.le_of_ble_eq_true rfl⟩) rfl rfl (Nat.le_of_ble_eq_true rfl) dX11_then_14 ⟨Nat.le_of_ble_eq_true rfl, Nat.le_of_ble_eq_true rfl⟩ ⟨Nat.le_of_ble_eq_true rfl, Nat.le_of_ble_eq_true rfl⟩ (fun h0 => by have hf := (if_neg h0).symm.trans hf; cases hf; exact ⟨rfl, rfl⟩) (fun h0 H locs hP hD hS => ?_)
  have hf := (if_pos h0).symm.trans hf
  refine lv_aload_n hx hb dX11_then_17 rfl (lv_at hl 0 rfl) ?_
  refine bk_get (wf := cw) (q0 := 0) (ci := 10) (k := 10) (v := .ref (g.2.2 55)) C hP wl_X11 rfl rfl (by decide) wa_42 rfl rfl dX11_then_18 ?_
  refine lv_aload_n hx hb dX11_then_21 rfl (lv_at hl 0 rfl) ?_
  refine bk_get (wf := cw) (q0 := 0) (ci := 10) (k := 4) (v := .ref (g.2.2 21)) C hP wl_X11 rfl rfl (by decide) wa_27 rfl rfl dX11_then_22 ?_
  refine bk_get (wf := cw) (q0 := 21) (ci := 1) (k := 0) (v := .ref (g.2.2 22)) C hP wl_X1 rfl rfl (by decide) wa_221 rfl rfl dX11_then_25 ?_
  obtain ⟨q6, hq6, hf⟩ := bi_s hf
  refine bk_VV (wf := cw) (q0 := 55) (ci := 2) (rest := []) [.ref (g.2.2 22)] C hP hD hS hl.1 (c_X2_start_55_22 hXo hq6) (cwA_V 1 hts wa_825 wa_822 wa_823 wa_824 wa_41 rfl rfl nd_X2_start ⟨Nat.le_of_ble_eq_true rfl, Nat.le_of_ble_eq_true rfl⟩) rfl rfl rfl rfl (Nat.le_of_ble_eq_true rfl) dX11_then_28 ⟨Nat.le_of_ble_eq_true rfl, Nat.le_of_ble_eq_true rfl⟩ (fun H locs hP hD hS => ?_)
  refine lv_iconst (v := (1 : Int32)) hx hb dX11_then_31 (by decide) ?_
  refine lv_istore (lv' := [(4, .int (1 : Int32)), (0, .ref (g.2.2 0)), (1, .int x1), (2, .int x2), (3, .int x3)]) hx hb dX11_then_32 hl (by decide) rfl (fun ls hl => ?_)
  obtain ⟨z7, hz7, hf⟩ := bi_s hf
  refine lp_X11_then_0_h34 C hex hst hz7 ?_ H locs ls hP hD hS (lv_sub hl [1, 2, 3, 4, 0] rfl)
  intro H locs ls hP hD hS hl
  refine lv_iload_n hx hb dX11_then_54 rfl (lv_at hl 2 rfl) ?_
  refine lv_if_ne (tgt := 73) hx hb dX11_then_55 (by decide) (fun t55 => ?_) (fun t55 => ?_)
  · have hf := (if_neg t55).symm.trans hf
    refine lv_aload_n hx hb dX11_then_73 rfl (lv_at hl 0 rfl) ?_
    refine bk_get (wf := cw) (q0 := 0) (ci := 10) (k := 10) (v := .ref (g.2.2 55)) C hP wl_X11 rfl rfl (by decide) wa_42 rfl rfl dX11_then_74 ?_
    refine bk_get (wf := cw) (q0 := 55) (ci := 2) (k := 0) (v := .ref (g.2.2 56)) C hP wl_X2 rfl rfl (by decide) wa_808 rfl rfl dX11_then_77 ?_
    refine bk_get (wf := cw) (q0 := 56) (ci := 7) (k := 4) (v := .ref (g.2.2 59)) C hP wl_X7 rfl rfl (by decide) wa_786 rfl rfl dX11_then_80 ?_
    refine lv_iload_n hx hb dX11_then_83 rfl (lv_at hl 1 rfl) ?_
    obtain ⟨g8, hf⟩ := gd_s hf
    refine bk_iald (wf := cw) (q0 := 59) (n := 9) (j := x1.toNatClampNeg) C hP rfl g8 rfl dX11_then_84 ?_
    exact bk_iretT C hP hD hS hf (Nat.le_of_ble_eq_true rfl) (Nat.le_of_ble_eq_true rfl) dX11_then_85
  · have hf := (if_pos t55).symm.trans hf
    refine lv_aload_n hx hb dX11_then_58 rfl (lv_at hl 0 rfl) ?_
    refine bk_get (wf := cw) (q0 := 0) (ci := 10) (k := 10) (v := .ref (g.2.2 55)) C hP wl_X11 rfl rfl (by decide) wa_42 rfl rfl dX11_then_59 ?_
    refine bk_get (wf := cw) (q0 := 55) (ci := 2) (k := 0) (v := .ref (g.2.2 56)) C hP wl_X2 rfl rfl (by decide) wa_808 rfl rfl dX11_then_62 ?_
    refine bk_get (wf := cw) (q0 := 56) (ci := 7) (k := 2) (v := .ref (g.2.2 57)) C hP wl_X7 rfl rfl (by decide) wa_784 rfl rfl dX11_then_65 ?_
    refine lv_iload_n hx hb dX11_then_68 rfl (lv_at hl 1 rfl) ?_
    obtain ⟨g9, hf⟩ := gd_s hf
    refine bk_iald (wf := cw) (q0 := 57) (n := 9) (j := x1.toNatClampNeg) C hP rfl g9 rfl dX11_then_69 ?_
    refine lv_goto (tgt := 85) hx hb dX11_then_70 (by decide) ?_
    exact bk_iretT C hP hD hS hf (Nat.le_of_ble_eq_true rfl) (Nat.le_of_ble_eq_true rfl) dX11_then_85
theorem c_X11_then_0 {N : Nat} {x1 : Int32} {x2 : Int32} {x3 : Int32} {σ : Sg} {z : Zt} (hX : xOK g X) (hst : l.stackTraces = false) (hf : f_X11_then_0 N x1 x2 x3 σ = some z) : MetTi l yX11_then (Cond.code yX11_then cX11_then 5 (some .int) :: wsA) rm_X11_then_0 3 18 cw g X [.ref (g.2.2 0), .int x1, .int x2, .int x3] σ z :=
  MetTi_of hX (by decide) (Nat.le_of_ble_eq_true rfl) (fun p e s m args below meth c A C hex => b_X11_then_0 C hex hst hf)
end GEN
