section GEN
variable {p : Program} {l : Launch} {e : Env} {s : State} {m : MethodId} {args : Array Value} {below : List Frame} {meth : Method} {c : Code} {g : WG} {A : Nat → Prop} {X : Xt} {Q : State → Prop}
-- X12_thrown: thrown()I
abbrev rm_X12_thrown : Room := { frames := 0, cells := 0, slots := 0, locals := 0 }
theorem nd_X12_thrown : yX12_thrown.cls ≠ "java/lang/invoke/MethodHandle" ∧ yX12_thrown.cls ≠ "java/lang/invoke/VarHandle" ∧ (parseMethodDescriptor yX12_thrown.desc).map (fun d => d.parameters.length) = some 0 := by decide +kernel
def f_X12_thrown (N : Nat) (σ : Sg) : Option (Int32 × Sg) :=
some ((σ 0 2), σ)
set_option maxHeartbeats 4000000 in
set_option maxRecDepth 100000 in
theorem b_X12_thrown {N : Nat} {σ : Sg} {z : Int32 × Sg} (C : Cx p s m args meth c cX12_thrown 1 (some .int) RX12 g A X) (hf : f_X12_thrown N σ = some z) : Bk mw p l e rm_X12_thrown s m args below meth c 1 g A (MQ below (qI mw g A z.1 z.2) args s 0 0 A) 0 0 0 [(0, .ref (g.2.2 0))] [] σ := by
  obtain ⟨hx, hb, hr, hml, hown, hts, hK, hlocks, hXX, hA, hXo⟩ := id C
  intro H locs ls hP hD hS hl
  unfold f_X12_thrown at hf
  refine lv_aload_n hx hb dX12_thrown_0 rfl (lv_at hl 0 rfl) ?_
  refine bk_get (wf := mw) (q0 := 0) (ci := 11) (k := 2) (v := .int (σ 0 2)) C hP wl_X12 rfl rfl (by decide) wa_205 rfl rfl dX12_thrown_1 ?_
  cases hf
  exact bk_iret C hP hD hS rfl dX12_thrown_4
theorem c_X12_thrown {N : Nat} {σ : Sg} {z : Int32 × Sg} (hX : xOK g X) (hf : f_X12_thrown N σ = some z) : MetI l yX12_thrown (Cond.code yX12_thrown cX12_thrown 1 (some .int) :: wsA) rm_X12_thrown mw g X [.ref (g.2.2 0)] σ z.1 z.2 :=
  MetI_of hX (by decide) (Nat.le_of_ble_eq_true rfl) (fun p e s m args below meth c A C => b_X12_thrown C hf)
-- X12_fail: fail(I)I
abbrev rm_X12_fail : Room := { frames := 0, cells := 0, slots := 0, locals := 0 }
theorem nd_X12_fail : yX12_fail.cls ≠ "java/lang/invoke/MethodHandle" ∧ yX12_fail.cls ≠ "java/lang/invoke/VarHandle" ∧ (parseMethodDescriptor yX12_fail.desc).map (fun d => d.parameters.length) = some 1 := by decide +kernel
def f_X12_fail (N : Nat) (x1 : Int32) (σ : Sg) : Option (Int32 × Sg) :=
bd (wr σ 0 2 x1) fun σ1 =>
some ((0 : Int32), σ1)
set_option maxHeartbeats 4000000 in
set_option maxRecDepth 100000 in
theorem b_X12_fail {N : Nat} {x1 : Int32} {σ : Sg} {z : Int32 × Sg} (C : Cx p s m args meth c cX12_fail 2 (some .int) RX12 g A X) (hf : f_X12_fail N x1 σ = some z) : Bk mw p l e rm_X12_fail s m args below meth c 2 g A (MQ below (qI mw g A z.1 z.2) args s 0 0 A) 0 0 0 [(0, .ref (g.2.2 0)), (1, .int x1)] [] σ := by
  obtain ⟨hx, hb, hr, hml, hown, hts, hK, hlocks, hXX, hA, hXo⟩ := id C
  intro H locs ls hP hD hS hl
  unfold f_X12_fail at hf
  refine lv_aload_n hx hb dX12_fail_0 rfl (lv_at hl 0 rfl) ?_
  refine lv_iload_n hx hb dX12_fail_1 rfl (lv_at hl 1 rfl) ?_
  obtain ⟨σ1, eσ1, hf⟩ := bd_s hf
  refine bk_put (wf := mw) (σ1 := σ1) (q0 := 0) (ci := 11) (k := 2) (v := .int x1) C hP hD hS wl_X12 tyX12_ok nmX12 rfl rfl (by decide) wa_205 rfl rfl rfl rfl rfl (Nat.le_of_ble_eq_true rfl) (by rw [eσ1]; exact mw_p0_2 g _ _) dX12_fail_2 (fun H locs hP hD hS => ?_)
  refine lv_iconst (v := (0 : Int32)) hx hb dX12_fail_5 (by decide) ?_
  cases hf
  exact bk_iret C hP hD hS rfl dX12_fail_6
theorem c_X12_fail {N : Nat} {x1 : Int32} {σ : Sg} {z : Int32 × Sg} (hX : xOK g X) (hf : f_X12_fail N x1 σ = some z) : MetI l yX12_fail (Cond.code yX12_fail cX12_fail 2 (some .int) :: wsA) rm_X12_fail mw g X [.ref (g.2.2 0), .int x1] σ z.1 z.2 :=
  MetI_of hX (by decide) (Nat.le_of_ble_eq_true rfl) (fun p e s m args below meth c A C => b_X12_fail C hf)
-- X12_failing: failing(I)Z
abbrev rm_X12_failing : Room := { frames := 0, cells := 0, slots := 0, locals := 0 }
theorem nd_X12_failing : yX12_failing.cls ≠ "java/lang/invoke/MethodHandle" ∧ yX12_failing.cls ≠ "java/lang/invoke/VarHandle" ∧ (parseMethodDescriptor yX12_failing.desc).map (fun d => d.parameters.length) = some 1 := by decide +kernel
def f_X12_failing (N : Nat) (x1 : Int32) (σ : Sg) : Option (Int32 × Sg) :=
bd (wr σ 0 2 x1) fun σ1 =>
some ((0 : Int32), σ1)
set_option maxHeartbeats 4000000 in
set_option maxRecDepth 100000 in
theorem b_X12_failing {N : Nat} {x1 : Int32} {σ : Sg} {z : Int32 × Sg} (C : Cx p s m args meth c cX12_failing 2 (some .boolean) RX12 g A X) (hf : f_X12_failing N x1 σ = some z) : Bk mw p l e rm_X12_failing s m args below meth c 2 g A (MQ below (qI mw g A z.1 z.2) args s 0 0 A) 0 0 0 [(0, .ref (g.2.2 0)), (1, .int x1)] [] σ := by
  obtain ⟨hx, hb, hr, hml, hown, hts, hK, hlocks, hXX, hA, hXo⟩ := id C
  intro H locs ls hP hD hS hl
  unfold f_X12_failing at hf
  refine lv_aload_n hx hb dX12_failing_0 rfl (lv_at hl 0 rfl) ?_
  refine lv_iload_n hx hb dX12_failing_1 rfl (lv_at hl 1 rfl) ?_
  obtain ⟨σ1, eσ1, hf⟩ := bd_s hf
  refine bk_put (wf := mw) (σ1 := σ1) (q0 := 0) (ci := 11) (k := 2) (v := .int x1) C hP hD hS wl_X12 tyX12_ok nmX12 rfl rfl (by decide) wa_205 rfl rfl rfl rfl rfl (Nat.le_of_ble_eq_true rfl) (by rw [eσ1]; exact mw_p0_2 g _ _) dX12_failing_2 (fun H locs hP hD hS => ?_)
  refine lv_iconst (v := (0 : Int32)) hx hb dX12_failing_5 (by decide) ?_
  cases hf
  exact bk_zret C hP hD hS (by decide) rfl dX12_failing_6
theorem c_X12_failing {N : Nat} {x1 : Int32} {σ : Sg} {z : Int32 × Sg} (hX : xOK g X) (hf : f_X12_failing N x1 σ = some z) : MetI l yX12_failing (Cond.code yX12_failing cX12_failing 2 (some .boolean) :: wsA) rm_X12_failing mw g X [.ref (g.2.2 0), .int x1] σ z.1 z.2 :=
  MetI_of hX (by decide) (Nat.le_of_ble_eq_true rfl) (fun p e s m args below meth c A C => b_X12_failing C hf)
-- X12_isIn: isIn(JJJ)Z
abbrev rm_X12_isIn : Room := { frames := 0, cells := 0, slots := 0, locals := 0 }
theorem nd_X12_isIn : yX12_isIn.cls ≠ "java/lang/invoke/MethodHandle" ∧ yX12_isIn.cls ≠ "java/lang/invoke/VarHandle" ∧ (parseMethodDescriptor yX12_isIn.desc).map (fun d => d.parameters.length) = some 3 := by decide +kernel
def f_X12_isIn_b17 (N : Nat) (σ : Sg) : Option (Int32 × Sg) :=
some ((0 : Int32), σ)
set_option maxHeartbeats 4000000 in
set_option maxRecDepth 100000 in
theorem b_X12_isIn_b17 {N : Nat} {σ : Sg} {z : Int32 × Sg} (C : Cx p s m args meth c cX12_isIn 6 (some .boolean) RX12 g A X) (hf : f_X12_isIn_b17 N σ = some z) : Bk mw p l e rm_X12_isIn s m args below meth c 6 g A (MQ below (qI mw g A z.1 z.2) args s 0 0 A) 0 0 17 [] [] σ := by
  obtain ⟨hx, hb, hr, hml, hown, hts, hK, hlocks, hXX, hA, hXo⟩ := id C
  intro H locs ls hP hD hS hl
  unfold f_X12_isIn_b17 at hf
  refine lv_iconst (v := (0 : Int32)) hx hb dX12_isIn_17 (by decide) ?_
  cases hf
  exact bk_zret C hP hD hS (by decide) rfl dX12_isIn_18
def f_X12_isIn (N : Nat) (x0 : Int64) (x2 : Int64) (x4 : Int64) (σ : Sg) : Option (Int32 × Sg) :=
if (lg_cmp x0 x2) < 0 then (f_X12_isIn_b17 N σ)
else (if 0 < (lg_cmp x0 x4) then (f_X12_isIn_b17 N σ)
else (some ((1 : Int32), σ)))
set_option maxHeartbeats 4000000 in
set_option maxRecDepth 100000 in
theorem b_X12_isIn {N : Nat} {x0 : Int64} {x2 : Int64} {x4 : Int64} {σ : Sg} {z : Int32 × Sg} (C : Cx p s m args meth c cX12_isIn 6 (some .boolean) RX12 g A X) (hf : f_X12_isIn N x0 x2 x4 σ = some z) : Bk mw p l e rm_X12_isIn s m args below meth c 6 g A (MQ below (qI mw g A z.1 z.2) args s 0 0 A) 0 0 0 [(0, .long x0), (2, .long x2), (4, .long x4)] [] σ := by
  obtain ⟨hx, hb, hr, hml, hown, hts, hK, hlocks, hXX, hA, hXo⟩ := id C
  intro H locs ls hP hD hS hl
  unfold f_X12_isIn at hf
  refine lv_lload_n hx hb dX12_isIn_0 rfl (lv_at hl 0 rfl) ?_
  refine lv_lload_n hx hb dX12_isIn_1 rfl (lv_at hl 1 rfl) ?_
  refine W.lcmp hx hb dX12_isIn_2 ?_
  refine lv_if_lt (tgt := 17) hx hb dX12_isIn_3 (by decide) (fun t3 => ?_) (fun t3 => ?_)
  · have hf := (if_pos t3).symm.trans hf
    exact b_X12_isIn_b17 C hf H locs ls hP hD hS (lv_sub hl [] rfl)
  · have hf := (if_neg t3).symm.trans hf
    refine lv_lload_n hx hb dX12_isIn_6 rfl (lv_at hl 0 rfl) ?_
    refine lv_lload hx hb dX12_isIn_7 (lv_at hl 2 rfl) ?_
    refine W.lcmp hx hb dX12_isIn_9 ?_
    refine lv_if_gt (tgt := 17) hx hb dX12_isIn_10 (by decide) (fun t10 => ?_) (fun t10 => ?_)
    · have hf := (if_pos t10).symm.trans hf
      exact b_X12_isIn_b17 C hf H locs ls hP hD hS (lv_sub hl [] rfl)
    · have hf := (if_neg t10).symm.trans hf
      refine lv_iconst (v := (1 : Int32)) hx hb dX12_isIn_13 (by decide) ?_
      refine lv_goto (tgt := 18) hx hb dX12_isIn_14 (by decide) ?_
      cases hf
      exact bk_zret C hP hD hS (by decide) rfl dX12_isIn_18
theorem c_X12_isIn {N : Nat} {x0 : Int64} {x2 : Int64} {x4 : Int64} {σ : Sg} {z : Int32 × Sg} (hX : xOK g X) (hf : f_X12_isIn N x0 x2 x4 σ = some z) : MetI l yX12_isIn (Cond.code yX12_isIn cX12_isIn 6 (some .boolean) :: wsA) rm_X12_isIn mw g X [.long x0, .long x2, .long x4] σ z.1 z.2 :=
  MetI_of hX (by decide) (Nat.le_of_ble_eq_true rfl) (fun p e s m args below meth c A C => b_X12_isIn C hf)
-- X12_isOf: isOf(II)Z
abbrev rm_X12_isOf : Room := { frames := 0, cells := 0, slots := 0, locals := 0 }
theorem nd_X12_isOf : yX12_isOf.cls ≠ "java/lang/invoke/MethodHandle" ∧ yX12_isOf.cls ≠ "java/lang/invoke/VarHandle" ∧ (parseMethodDescriptor yX12_isOf.desc).map (fun d => d.parameters.length) = some 2 := by decide +kernel
def f_X12_isOf (N : Nat) (x0 : Int32) (x1 : Int32) (σ : Sg) : Option (Int32 × Sg) :=
if ((x0 >>> (x1 &&& 31)) &&& (1 : Int32)) = (1 : Int32) then (some ((1 : Int32), σ))
else (some ((0 : Int32), σ))
set_option maxHeartbeats 4000000 in
set_option maxRecDepth 100000 in
theorem b_X12_isOf {N : Nat} {x0 : Int32} {x1 : Int32} {σ : Sg} {z : Int32 × Sg} (C : Cx p s m args meth c cX12_isOf 2 (some .boolean) RX12 g A X) (hf : f_X12_isOf N x0 x1 σ = some z) : Bk mw p l e rm_X12_isOf s m args below meth c 2 g A (MQ below (qI mw g A z.1 z.2) args s 0 0 A) 0 0 0 [(0, .int x0), (1, .int x1)] [] σ := by
  obtain ⟨hx, hb, hr, hml, hown, hts, hK, hlocks, hXX, hA, hXo⟩ := id C
  intro H locs ls hP hD hS hl
  unfold f_X12_isOf at hf
  refine lv_iload_n hx hb dX12_isOf_0 rfl (lv_at hl 0 rfl) ?_
  refine lv_iload_n hx hb dX12_isOf_1 rfl (lv_at hl 1 rfl) ?_
  refine lv_ishr hx hb dX12_isOf_2 ?_
  refine lv_iconst (v := (1 : Int32)) hx hb dX12_isOf_3 (by decide) ?_
  refine lv_iand hx hb dX12_isOf_4 ?_
  refine lv_iconst (v := (1 : Int32)) hx hb dX12_isOf_5 (by decide) ?_
  refine lv_icmp_ne (tgt := 13) hx hb dX12_isOf_6 (by decide) (fun t6 => ?_) (fun t6 => ?_)
  · have hf := (if_neg t6).symm.trans hf
    refine lv_iconst (v := (0 : Int32)) hx hb dX12_isOf_13 (by decide) ?_
    cases hf
    exact bk_zret C hP hD hS (by decide) rfl dX12_isOf_14
  · have hf := (if_pos t6).symm.trans hf
    refine lv_iconst (v := (1 : Int32)) hx hb dX12_isOf_9 (by decide) ?_
    refine lv_goto (tgt := 14) hx hb dX12_isOf_10 (by decide) ?_
    cases hf
    exact bk_zret C hP hD hS (by decide) rfl dX12_isOf_14
theorem c_X12_isOf {N : Nat} {x0 : Int32} {x1 : Int32} {σ : Sg} {z : Int32 × Sg} (hX : xOK g X) (hf : f_X12_isOf N x0 x1 σ = some z) : MetI l yX12_isOf (Cond.code yX12_isOf cX12_isOf 2 (some .boolean) :: wsA) rm_X12_isOf mw g X [.int x0, .int x1] σ z.1 z.2 :=
  MetI_of hX (by decide) (Nat.le_of_ble_eq_true rfl) (fun p e s m args below meth c A C => b_X12_isOf C hf)
-- X12_bitsOf: bitsOf(I)I
abbrev rm_X12_bitsOf : Room := { frames := 0, cells := 0, slots := 0, locals := 0 }
theorem nd_X12_bitsOf : yX12_bitsOf.cls ≠ "java/lang/invoke/MethodHandle" ∧ yX12_bitsOf.cls ≠ "java/lang/invoke/VarHandle" ∧ (parseMethodDescriptor yX12_bitsOf.desc).map (fun d => d.parameters.length) = some 1 := by decide +kernel
def s_X12_bitsOf_h4 (N : Nat) (x1 : Int32) (x2 : Int32) (σ : Sg) : Option (Nat × Int32 × Int32 × Sg) :=
if x2 = 0 then (some (1, x1, 0, σ))
else (bd (x1 + (1 : Int32)) fun v1 =>
bd (x2 &&& (x2 - (1 : Int32))) fun v2 =>
some (0, v1, v2, σ))
set_option maxHeartbeats 4000000 in
set_option maxRecDepth 100000 in
theorem e_X12_bitsOf_h4 {N : Nat} {x1 : Int32} {x2 : Int32} {σ : Sg} {z : Nat × Int32 × Int32 × Sg} (C : Cx p s m args meth c cX12_bitsOf 3 (some .int) RX12 g A X) (hf : s_X12_bitsOf_h4 N x1 x2 σ = some z) (k0 : z.1 = 0 → Bk mw p l e rm_X12_bitsOf s m args below meth c 3 g A Q 0 0 4 [(1, .int z.2.1), (2, .int z.2.2.1)] [] z.2.2.2) (k : ¬ z.1 = 0 → Bk mw p l e rm_X12_bitsOf s m args below meth c 3 g A Q 0 0 20 [(1, .int z.2.1)] [] z.2.2.2) : Bk mw p l e rm_X12_bitsOf s m args below meth c 3 g A Q 0 0 4 [(1, .int x1), (2, .int x2)] [] σ := by
  obtain ⟨hx, hb, hr, hml, hown, hts, hK, hlocks, hXX, hA, hXo⟩ := id C
  intro H locs ls hP hD hS hl
  unfold s_X12_bitsOf_h4 at hf
  refine lv_iload_n hx hb dX12_bitsOf_4 rfl (lv_at hl 1 rfl) ?_
  refine lv_if_eq (tgt := 20) hx hb dX12_bitsOf_5 (by decide) (fun t5 => ?_) (fun t5 => ?_)
  · have hf := (if_pos t5).symm.trans hf
    cases hf
    exact (k (show ¬ (1 : Nat) = 0 by decide)) H locs ls hP hD hS (lv_sub hl [0] rfl)
  · have hf := (if_neg t5).symm.trans hf
    obtain ⟨v1, ev1, hf⟩ := bd_s hf
    refine lv_iinc (v := v1) (lv' := [(1, .int v1), (2, .int x2)]) hx hb dX12_bitsOf_8 hl (k := 0) rfl (by rw [ev1]; rfl) (by decide) rfl (fun ls hl => ?_)
    refine lv_iload_n hx hb dX12_bitsOf_11 rfl (lv_at hl 1 rfl) ?_
    refine lv_iload_n hx hb dX12_bitsOf_12 rfl (lv_at hl 1 rfl) ?_
    refine lv_iconst (v := (1 : Int32)) hx hb dX12_bitsOf_13 (by decide) ?_
    refine lv_isub hx hb dX12_bitsOf_14 ?_
    refine lv_iand hx hb dX12_bitsOf_15 ?_
    obtain ⟨v2, ev2, hf⟩ := bd_s hf
    rw [← ev2]
    refine lv_istore_n (lv' := [(2, .int v2), (1, .int v1)]) hx hb dX12_bitsOf_16 rfl hl (by decide) rfl (fun ls hl => ?_)
    refine lv_goto (tgt := 4) hx hb dX12_bitsOf_17 (by decide) ?_
    cases hf
    exact k0 rfl H locs ls hP hD hS (lv_sub hl [1, 0] rfl)
theorem lp_X12_bitsOf_h4 {N : Nat} {n : Nat} {x1 : Int32} {x2 : Int32} {σ : Sg} {z : Nat × Int32 × Int32 × Sg} (C : Cx p s m args meth c cX12_bitsOf 3 (some .int) RX12 g A X) (hz : it (fun q => s_X12_bitsOf_h4 N q.1 q.2.1 q.2.2) n (x1, x2, σ) = some z) (k : Bk mw p l e rm_X12_bitsOf s m args below meth c 3 g A Q 0 0 20 [(1, .int z.2.1)] [] z.2.2.2) : Bk mw p l e rm_X12_bitsOf s m args below meth c 3 g A Q 0 0 4 [(1, .int x1), (2, .int x2)] [] σ :=
  it_W (S := Int32 × Int32 × Sg) (fun q => Bk mw p l e rm_X12_bitsOf s m args below meth c 3 g A Q 0 0 4 [(1, .int q.1), (2, .int q.2.1)] [] q.2.2) (fun z => Bk mw p l e rm_X12_bitsOf s m args below meth c 3 g A Q 0 0 20 [(1, .int z.2.1)] [] z.2.2.2) (fun q z hq k0 k => e_X12_bitsOf_h4 C hq k0 k) n (x1, x2, σ) z hz k
def f_X12_bitsOf (N : Nat) (x0 : Int32) (σ : Sg) : Option (Int32 × Sg) :=
(it (fun q => s_X12_bitsOf_h4 N q.1 q.2.1 q.2.2) N ((0 : Int32), x0, σ)).bind fun z3 =>
some ((z3.2.1), (z3.2.2.2))
set_option maxHeartbeats 4000000 in
set_option maxRecDepth 100000 in
theorem b_X12_bitsOf {N : Nat} {x0 : Int32} {σ : Sg} {z : Int32 × Sg} (C : Cx p s m args meth c cX12_bitsOf 3 (some .int) RX12 g A X) (hf : f_X12_bitsOf N x0 σ = some z) : Bk mw p l e rm_X12_bitsOf s m args below meth c 3 g A (MQ below (qI mw g A z.1 z.2) args s 0 0 A) 0 0 0 [(0, .int x0)] [] σ := by
  obtain ⟨hx, hb, hr, hml, hown, hts, hK, hlocks, hXX, hA, hXo⟩ := id C
  intro H locs ls hP hD hS hl
  unfold f_X12_bitsOf at hf
  refine lv_iconst (v := (0 : Int32)) hx hb dX12_bitsOf_0 (by decide) ?_
  refine lv_istore_n (lv' := [(1, .int (0 : Int32)), (0, .int x0)]) hx hb dX12_bitsOf_1 rfl hl (by decide) rfl (fun ls hl => ?_)
  refine lv_iload_n hx hb dX12_bitsOf_2 rfl (lv_at hl 1 rfl) ?_
  refine lv_istore_n (lv' := [(2, .int x0), (1, .int (0 : Int32)), (0, .int x0)]) hx hb dX12_bitsOf_3 rfl hl (by decide) rfl (fun ls hl => ?_)
  obtain ⟨z3, hz3, hf⟩ := bi_s hf
  refine lp_X12_bitsOf_h4 C hz3 ?_ H locs ls hP hD hS (lv_sub hl [1, 0] rfl)
  intro H locs ls hP hD hS hl
  refine lv_iload_n hx hb dX12_bitsOf_20 rfl (lv_at hl 0 rfl) ?_
  cases hf
  exact bk_iret C hP hD hS rfl dX12_bitsOf_21
theorem c_X12_bitsOf {N : Nat} {x0 : Int32} {σ : Sg} {z : Int32 × Sg} (hX : xOK g X) (hf : f_X12_bitsOf N x0 σ = some z) : MetI l yX12_bitsOf (Cond.code yX12_bitsOf cX12_bitsOf 3 (some .int) :: wsA) rm_X12_bitsOf mw g X [.int x0] σ z.1 z.2 :=
  MetI_of hX (by decide) (Nat.le_of_ble_eq_true rfl) (fun p e s m args below meth c A C => b_X12_bitsOf C hf)
-- X12_isFarm: isFarm(I)Z
abbrev rm_X12_isFarm : Room := { frames := 1, cells := 0, slots := 0, locals := 25 }
theorem nd_X12_isFarm : yX12_isFarm.cls ≠ "java/lang/invoke/MethodHandle" ∧ yX12_isFarm.cls ≠ "java/lang/invoke/VarHandle" ∧ (parseMethodDescriptor yX12_isFarm.desc).map (fun d => d.parameters.length) = some 1 := by decide +kernel
def f_X12_isFarm (N : Nat) (x1 : Int32) (σ : Sg) : Option (Int32 × Sg) :=
(f_X12_isIn N (x1).toInt64 (0 : Int64) (((σ 3 0) - (1 : Int32))).toInt64 σ).bind fun q1 =>
if ¬ (q1.1 = 0 ∨ q1.1 = 1) then none else some (q1.1, (q1.2))
set_option maxHeartbeats 4000000 in
set_option maxRecDepth 100000 in
theorem b_X12_isFarm {N : Nat} {x1 : Int32} {σ : Sg} {z : Int32 × Sg} (C : Cx p s m args meth c cX12_isFarm 2 (some .boolean) RX12 g A X) (hf : f_X12_isFarm N x1 σ = some z) : Bk mw p l e rm_X12_isFarm s m args below meth c 2 g A (MQ below (qI mw g A z.1 z.2) args s 0 0 A) 0 0 0 [(0, .ref (g.2.2 0)), (1, .int x1)] [] σ := by
  obtain ⟨hx, hb, hr, hml, hown, hts, hK, hlocks, hXX, hA, hXo⟩ := id C
  intro H locs ls hP hD hS hl
  unfold f_X12_isFarm at hf
  refine lv_iload_n hx hb dX12_isFarm_0 rfl (lv_at hl 1 rfl) ?_
  refine lv_i2l hx hb dX12_isFarm_1 rfl ?_
  refine lv_lconst (v := (0 : Int64)) hx hb dX12_isFarm_2 (by decide) ?_
  refine lv_aload_n hx hb dX12_isFarm_3 rfl (lv_at hl 0 rfl) ?_
  refine bk_get (wf := mw) (q0 := 0) (ci := 11) (k := 3) (v := .ref (g.2.2 3)) C hP wl_X12 rfl rfl (by decide) wa_157 rfl rfl dX12_isFarm_4 ?_
  refine lv_iconst (v := (0 : Int32)) hx hb dX12_isFarm_7 (by decide) ?_
  refine bk_iald (wf := mw) (q0 := 3) (n := 10) (j := 0) C hP rfl (vin_l (by decide) (by decide)) (by decide) dX12_isFarm_8 ?_
  refine lv_iconst (v := (1 : Int32)) hx hb dX12_isFarm_9 (by decide) ?_
  refine lv_isub hx hb dX12_isFarm_10 ?_
  refine lv_i2l hx hb dX12_isFarm_11 rfl ?_
  obtain ⟨q1, hq1, hf⟩ := bi_s hf
  refine bk_SI (wf := mw) (rest := []) [.long (x1).toInt64, .long (0 : Int64), .long (((σ 3 0) - (1 : Int32))).toInt64] C hP hD hS hl.1 (c_X12_isIn hXo hq1) (cwA_S 3 hts wa_803 wa_801 wa_802 wa_5 rfl rfl nd_X12_isIn ⟨Nat.le_of_ble_eq_true rfl, Nat.le_of_ble_eq_true rfl⟩) rfl rfl (Nat.le_of_ble_eq_true rfl) dX12_isFarm_12 ⟨Nat.le_of_ble_eq_true rfl, Nat.le_of_ble_eq_true rfl⟩ (fun H locs hP hD hS => ?_)
  obtain ⟨g2, hf⟩ := gd_s hf
  cases hf
  exact bk_zret C hP hD hS (Decidable.not_not.mp g2) rfl dX12_isFarm_15
theorem c_X12_isFarm {N : Nat} {x1 : Int32} {σ : Sg} {z : Int32 × Sg} (hX : xOK g X) (hf : f_X12_isFarm N x1 σ = some z) : MetI l yX12_isFarm (Cond.code yX12_isFarm cX12_isFarm 2 (some .boolean) :: wsA) rm_X12_isFarm mw g X [.ref (g.2.2 0), .int x1] σ z.1 z.2 :=
  MetI_of hX (by decide) (Nat.le_of_ble_eq_true rfl) (fun p e s m args below meth c A C => b_X12_isFarm C hf)
-- X12_all: all()I
abbrev rm_X12_all : Room := { frames := 0, cells := 0, slots := 0, locals := 0 }
theorem nd_X12_all : yX12_all.cls ≠ "java/lang/invoke/MethodHandle" ∧ yX12_all.cls ≠ "java/lang/invoke/VarHandle" ∧ (parseMethodDescriptor yX12_all.desc).map (fun d => d.parameters.length) = some 0 := by decide +kernel
def f_X12_all (N : Nat) (σ : Sg) : Option (Int32 × Sg) :=
some ((((1 : Int32) <<< ((σ 3 0) &&& 31)) - (1 : Int32)), σ)
set_option maxHeartbeats 4000000 in
set_option maxRecDepth 100000 in
theorem b_X12_all {N : Nat} {σ : Sg} {z : Int32 × Sg} (C : Cx p s m args meth c cX12_all 1 (some .int) RX12 g A X) (hf : f_X12_all N σ = some z) : Bk mw p l e rm_X12_all s m args below meth c 1 g A (MQ below (qI mw g A z.1 z.2) args s 0 0 A) 0 0 0 [(0, .ref (g.2.2 0))] [] σ := by
  obtain ⟨hx, hb, hr, hml, hown, hts, hK, hlocks, hXX, hA, hXo⟩ := id C
  intro H locs ls hP hD hS hl
  unfold f_X12_all at hf
  refine lv_iconst (v := (1 : Int32)) hx hb dX12_all_0 (by decide) ?_
  refine lv_aload_n hx hb dX12_all_1 rfl (lv_at hl 0 rfl) ?_
  refine bk_get (wf := mw) (q0 := 0) (ci := 11) (k := 3) (v := .ref (g.2.2 3)) C hP wl_X12 rfl rfl (by decide) wa_157 rfl rfl dX12_all_2 ?_
  refine lv_iconst (v := (0 : Int32)) hx hb dX12_all_5 (by decide) ?_
  refine bk_iald (wf := mw) (q0 := 3) (n := 10) (j := 0) C hP rfl (vin_l (by decide) (by decide)) (by decide) dX12_all_6 ?_
  refine lv_ishl hx hb dX12_all_7 ?_
  refine lv_iconst (v := (1 : Int32)) hx hb dX12_all_8 (by decide) ?_
  refine lv_isub hx hb dX12_all_9 ?_
  cases hf
  exact bk_iret C hP hD hS rfl dX12_all_10
theorem c_X12_all {N : Nat} {σ : Sg} {z : Int32 × Sg} (hX : xOK g X) (hf : f_X12_all N σ = some z) : MetI l yX12_all (Cond.code yX12_all cX12_all 1 (some .int) :: wsA) rm_X12_all mw g X [.ref (g.2.2 0)] σ z.1 z.2 :=
  MetI_of hX (by decide) (Nat.le_of_ble_eq_true rfl) (fun p e s m args below meth c A C => b_X12_all C hf)
-- X12_feed: feed(IIIII)I
abbrev rm_X12_feed : Room := { frames := 0, cells := 0, slots := 0, locals := 0 }
theorem nd_X12_feed : yX12_feed.cls ≠ "java/lang/invoke/MethodHandle" ∧ yX12_feed.cls ≠ "java/lang/invoke/VarHandle" ∧ (parseMethodDescriptor yX12_feed.desc).map (fun d => d.parameters.length) = some 5 := by decide +kernel
def f_X12_feed_b76 (N : Nat) (x1 : Int32) (x2 : Int32) (x3 : Int32) (x4 : Int32) (x5 : Int32) (x6 : Int32) (t0 : Int32) (σ : Sg) : Option (Nat × Int32 × Sg) :=
if ((σ 0 13) < 0 ∨ 700 ≤ (σ 0 13).toNatClampNeg) then none else
bd (wr σ 12 ((σ 0 13).toNatClampNeg) ((t0 >>> (((24 : Int32) - ((8 : Int32) * (x6 - x6 / (4 : Int32) * (4 : Int32)))) &&& 31)) &&& (255 : Int32))) fun σ2 =>
bd (wr σ2 0 13 ((σ2 0 13) + (1 : Int32))) fun σ3 =>
bd (x6 + (1 : Int32)) fun v4 =>
some (0, v4, σ3)
set_option maxHeartbeats 4000000 in
set_option maxRecDepth 100000 in
theorem b_X12_feed_b76 {N : Nat} {x1 : Int32} {x2 : Int32} {x3 : Int32} {x4 : Int32} {x5 : Int32} {x6 : Int32} {t0 : Int32} {σ : Sg} {z : Nat × Int32 × Sg} (C : Cx p s m args meth c cX12_feed 8 (some .int) RX12 g A X) (hf : f_X12_feed_b76 N x1 x2 x3 x4 x5 x6 t0 σ = some z) (k0 : z.1 = 0 → Bk mw p l e rm_X12_feed s m args below meth c 8 g A Q 0 0 23 [(0, .ref (g.2.2 0)), (1, .int x1), (2, .int x2), (3, .int x3), (4, .int x4), (5, .int x5), (6, .int z.2.1)] [] z.2.2) (k : ¬ z.1 = 0 → Bk mw p l e rm_X12_feed s m args below meth c 8 g A Q 0 0 120 [(0, .ref (g.2.2 0))] [] z.2.2) : Bk mw p l e rm_X12_feed s m args below meth c 8 g A Q 0 0 76 [(0, .ref (g.2.2 0)), (1, .int x1), (2, .int x2), (3, .int x3), (4, .int x4), (5, .int x5), (6, .int x6)] [.int t0] σ := by
  obtain ⟨hx, hb, hr, hml, hown, hts, hK, hlocks, hXX, hA, hXo⟩ := id C
  intro H locs ls hP hD hS hl
  unfold f_X12_feed_b76 at hf
  refine lv_istore (lv' := [(7, .int t0), (0, .ref (g.2.2 0)), (1, .int x1), (2, .int x2), (3, .int x3), (4, .int x4), (5, .int x5), (6, .int x6)]) hx hb dX12_feed_76 hl (by decide) rfl (fun ls hl => ?_)
  refine lv_aload_n hx hb dX12_feed_78 rfl (lv_at hl 1 rfl) ?_
  refine bk_get (wf := mw) (q0 := 0) (ci := 11) (k := 12) (v := .ref (g.2.2 12)) C hP wl_X12 rfl rfl (by decide) wa_166 rfl rfl dX12_feed_79 ?_
  refine lv_aload_n hx hb dX12_feed_82 rfl (lv_at hl 1 rfl) ?_
  refine bk_get (wf := mw) (q0 := 0) (ci := 11) (k := 13) (v := .int (σ 0 13)) C hP wl_X12 rfl rfl (by decide) wa_206 rfl rfl dX12_feed_83 ?_
  refine lv_iload hx hb dX12_feed_86 (lv_at hl 0 rfl) ?_
  refine lv_bipush (v := (24 : Int32)) hx hb dX12_feed_88 (by decide) ?_
  refine lv_bipush (v := (8 : Int32)) hx hb dX12_feed_90 (by decide) ?_
  refine lv_iload hx hb dX12_feed_92 (lv_at hl 7 rfl) ?_
  refine lv_iconst (v := (4 : Int32)) hx hb dX12_feed_94 (by decide) ?_
  refine lv_irem hx hb dX12_feed_95 (by decide) ?_
  refine lv_imul hx hb dX12_feed_96 ?_
  refine lv_isub hx hb dX12_feed_97 ?_
  refine lv_ishr hx hb dX12_feed_98 ?_
  refine lv_sipush (v := (255 : Int32)) hx hb dX12_feed_99 (by decide) ?_
  refine lv_iand hx hb dX12_feed_102 ?_
  obtain ⟨g1, hf⟩ := gd_s hf
  obtain ⟨σ2, eσ2, hf⟩ := bd_s hf
  refine bk_iast (wf := mw) (σ1 := σ2) (q0 := 12) (n := 700) (j := (σ 0 13).toNatClampNeg) C hP hD hS rfl g1 rfl (by rw [eσ2]; exact mw_a12 g _ _ _) dX12_feed_103 (fun H locs hP hD hS => ?_)
  refine lv_aload_n hx hb dX12_feed_104 rfl (lv_at hl 1 rfl) ?_
  refine lv_dup hx hb dX12_feed_105 rfl ?_
  refine bk_get (wf := mw) (q0 := 0) (ci := 11) (k := 13) (v := .int (σ2 0 13)) C hP wl_X12 rfl rfl (by decide) wa_206 rfl rfl dX12_feed_106 ?_
  refine lv_iconst (v := (1 : Int32)) hx hb dX12_feed_109 (by decide) ?_
  refine lv_iadd hx hb dX12_feed_110 ?_
  obtain ⟨σ3, eσ3, hf⟩ := bd_s hf
  refine bk_put (wf := mw) (σ1 := σ3) (q0 := 0) (ci := 11) (k := 13) (v := .int ((σ2 0 13) + (1 : Int32))) C hP hD hS wl_X12 tyX12_ok nmX12 rfl rfl (by decide) wa_206 rfl rfl rfl rfl rfl (Nat.le_of_ble_eq_true rfl) (by rw [eσ3]; exact mw_p0_13 g _ _) dX12_feed_111 (fun H locs hP hD hS => ?_)
  obtain ⟨v4, ev4, hf⟩ := bd_s hf
  refine lv_iinc (v := v4) (lv' := [(6, .int v4), (7, .int t0), (0, .ref (g.2.2 0)), (1, .int x1), (2, .int x2), (3, .int x3), (4, .int x4), (5, .int x5)]) hx hb dX12_feed_114 hl (k := 7) rfl (by rw [ev4]; rfl) (by decide) rfl (fun ls hl => ?_)
  refine lv_goto (tgt := 23) hx hb dX12_feed_117 (by decide) ?_
  cases hf
  exact k0 rfl H locs ls hP hD hS (lv_sub hl [2, 3, 4, 5, 6, 7, 0] rfl)
def s_X12_feed_h23 (N : Nat) (x1 : Int32) (x2 : Int32) (x3 : Int32) (x4 : Int32) (x5 : Int32) (x6 : Int32) (σ : Sg) : Option (Nat × Int32 × Sg) :=
if (20 : Int32) ≤ x6 then (some (1, 0, σ))
else (if (4 : Int32) ≤ x6 then (if (8 : Int32) ≤ x6 then (if (12 : Int32) ≤ x6 then (if (16 : Int32) ≤ x6 then (f_X12_feed_b76 N x1 x2 x3 x4 x5 x6 x5 σ)
else (f_X12_feed_b76 N x1 x2 x3 x4 x5 x6 x4 σ))
else (f_X12_feed_b76 N x1 x2 x3 x4 x5 x6 x3 σ))
else (f_X12_feed_b76 N x1 x2 x3 x4 x5 x6 x2 σ))
else (f_X12_feed_b76 N x1 x2 x3 x4 x5 x6 x1 σ))
set_option maxHeartbeats 4000000 in
set_option maxRecDepth 100000 in
theorem e_X12_feed_h23 {N : Nat} {x1 : Int32} {x2 : Int32} {x3 : Int32} {x4 : Int32} {x5 : Int32} {x6 : Int32} {σ : Sg} {z : Nat × Int32 × Sg} (C : Cx p s m args meth c cX12_feed 8 (some .int) RX12 g A X) (hf : s_X12_feed_h23 N x1 x2 x3 x4 x5 x6 σ = some z) (k0 : z.1 = 0 → Bk mw p l e rm_X12_feed s m args below meth c 8 g A Q 0 0 23 [(0, .ref (g.2.2 0)), (1, .int x1), (2, .int x2), (3, .int x3), (4, .int x4), (5, .int x5), (6, .int z.2.1)] [] z.2.2) (k : ¬ z.1 = 0 → Bk mw p l e rm_X12_feed s m args below meth c 8 g A Q 0 0 120 [(0, .ref (g.2.2 0))] [] z.2.2) : Bk mw p l e rm_X12_feed s m args below meth c 8 g A Q 0 0 23 [(0, .ref (g.2.2 0)), (1, .int x1), (2, .int x2), (3, .int x3), (4, .int x4), (5, .int x5), (6, .int x6)] [] σ := by
  obtain ⟨hx, hb, hr, hml, hown, hts, hK, hlocks, hXX, hA, hXo⟩ := id C
  intro H locs ls hP hD hS hl
  unfold s_X12_feed_h23 at hf
  refine lv_iload hx hb dX12_feed_23 (lv_at hl 6 rfl) ?_
  refine lv_bipush (v := (20 : Int32)) hx hb dX12_feed_25 (by decide) ?_
  refine lv_icmp_ge (tgt := 120) hx hb dX12_feed_27 (by decide) (fun t27 => ?_) (fun t27 => ?_)
  · have hf := (if_pos t27).symm.trans hf
    cases hf
    exact (k (show ¬ (1 : Nat) = 0 by decide)) H locs ls hP hD hS (lv_sub hl [0] rfl)
  · have hf := (if_neg t27).symm.trans hf
    refine lv_iload hx hb dX12_feed_30 (lv_at hl 6 rfl) ?_
    refine lv_iconst (v := (4 : Int32)) hx hb dX12_feed_32 (by decide) ?_
    refine lv_icmp_ge (tgt := 40) hx hb dX12_feed_33 (by decide) (fun t33 => ?_) (fun t33 => ?_)
    · have hf := (if_pos t33).symm.trans hf
      refine lv_iload hx hb dX12_feed_40 (lv_at hl 6 rfl) ?_
      refine lv_bipush (v := (8 : Int32)) hx hb dX12_feed_42 (by decide) ?_
      refine lv_icmp_ge (tgt := 51) hx hb dX12_feed_44 (by decide) (fun t44 => ?_) (fun t44 => ?_)
      · have hf := (if_pos t44).symm.trans hf
        refine lv_iload hx hb dX12_feed_51 (lv_at hl 6 rfl) ?_
        refine lv_bipush (v := (12 : Int32)) hx hb dX12_feed_53 (by decide) ?_
        refine lv_icmp_ge (tgt := 62) hx hb dX12_feed_55 (by decide) (fun t55 => ?_) (fun t55 => ?_)
        · have hf := (if_pos t55).symm.trans hf
          refine lv_iload hx hb dX12_feed_62 (lv_at hl 6 rfl) ?_
          refine lv_bipush (v := (16 : Int32)) hx hb dX12_feed_64 (by decide) ?_
          refine lv_icmp_ge (tgt := 74) hx hb dX12_feed_66 (by decide) (fun t66 => ?_) (fun t66 => ?_)
          · have hf := (if_pos t66).symm.trans hf
            refine lv_iload hx hb dX12_feed_74 (lv_at hl 5 rfl) ?_
            exact b_X12_feed_b76 C hf k0 k H locs ls hP hD hS (lv_sub hl [0, 1, 2, 3, 4, 5, 6] rfl)
          · have hf := (if_neg t66).symm.trans hf
            refine lv_iload hx hb dX12_feed_69 (lv_at hl 4 rfl) ?_
            refine lv_goto (tgt := 76) hx hb dX12_feed_71 (by decide) ?_
            exact b_X12_feed_b76 C hf k0 k H locs ls hP hD hS (lv_sub hl [0, 1, 2, 3, 4, 5, 6] rfl)
        · have hf := (if_neg t55).symm.trans hf
          refine lv_iload_n hx hb dX12_feed_58 rfl (lv_at hl 3 rfl) ?_
          refine lv_goto (tgt := 76) hx hb dX12_feed_59 (by decide) ?_
          exact b_X12_feed_b76 C hf k0 k H locs ls hP hD hS (lv_sub hl [0, 1, 2, 3, 4, 5, 6] rfl)
      · have hf := (if_neg t44).symm.trans hf
        refine lv_iload_n hx hb dX12_feed_47 rfl (lv_at hl 2 rfl) ?_
        refine lv_goto (tgt := 76) hx hb dX12_feed_48 (by decide) ?_
        exact b_X12_feed_b76 C hf k0 k H locs ls hP hD hS (lv_sub hl [0, 1, 2, 3, 4, 5, 6] rfl)
    · have hf := (if_neg t33).symm.trans hf
      refine lv_iload_n hx hb dX12_feed_36 rfl (lv_at hl 1 rfl) ?_
      refine lv_goto (tgt := 76) hx hb dX12_feed_37 (by decide) ?_
      exact b_X12_feed_b76 C hf k0 k H locs ls hP hD hS (lv_sub hl [0, 1, 2, 3, 4, 5, 6] rfl)
theorem lp_X12_feed_h23 {N : Nat} {n : Nat} {x1 : Int32} {x2 : Int32} {x3 : Int32} {x4 : Int32} {x5 : Int32} {x6 : Int32} {σ : Sg} {z : Nat × Int32 × Sg} (C : Cx p s m args meth c cX12_feed 8 (some .int) RX12 g A X) (hz : it (fun q => s_X12_feed_h23 N x1 x2 x3 x4 x5 q.1 q.2) n (x6, σ) = some z) (k : Bk mw p l e rm_X12_feed s m args below meth c 8 g A Q 0 0 120 [(0, .ref (g.2.2 0))] [] z.2.2) : Bk mw p l e rm_X12_feed s m args below meth c 8 g A Q 0 0 23 [(0, .ref (g.2.2 0)), (1, .int x1), (2, .int x2), (3, .int x3), (4, .int x4), (5, .int x5), (6, .int x6)] [] σ :=
  it_W (S := Int32 × Sg) (fun q => Bk mw p l e rm_X12_feed s m args below meth c 8 g A Q 0 0 23 [(0, .ref (g.2.2 0)), (1, .int x1), (2, .int x2), (3, .int x3), (4, .int x4), (5, .int x5), (6, .int q.1)] [] q.2) (fun z => Bk mw p l e rm_X12_feed s m args below meth c 8 g A Q 0 0 120 [(0, .ref (g.2.2 0))] [] z.2.2) (fun q z hq k0 k => e_X12_feed_h23 C hq k0 k) n (x6, σ) z hz k
def f_X12_feed (N : Nat) (x1 : Int32) (x2 : Int32) (x3 : Int32) (x4 : Int32) (x5 : Int32) (σ : Sg) : Option (Int32 × Sg) :=
bd (wr σ 0 2 (0 : Int32)) fun σ5 =>
if ((σ5 0 13) + (20 : Int32)) ≤ (700 : Int32) then ((it (fun q => s_X12_feed_h23 N x1 x2 x3 x4 x5 q.1 q.2) N ((0 : Int32), σ5)).bind fun z6 =>
some (((z6.2.2) 0 13), (z6.2.2)))
else (some ((-1 : Int32), σ5))
set_option maxHeartbeats 4000000 in
set_option maxRecDepth 100000 in
theorem b_X12_feed {N : Nat} {x1 : Int32} {x2 : Int32} {x3 : Int32} {x4 : Int32} {x5 : Int32} {σ : Sg} {z : Int32 × Sg} (C : Cx p s m args meth c cX12_feed 8 (some .int) RX12 g A X) (hf : f_X12_feed N x1 x2 x3 x4 x5 σ = some z) : Bk mw p l e rm_X12_feed s m args below meth c 8 g A (MQ below (qI mw g A z.1 z.2) args s 0 0 A) 0 0 0 [(0, .ref (g.2.2 0)), (1, .int x1), (2, .int x2), (3, .int x3), (4, .int x4), (5, .int x5)] [] σ := by
  obtain ⟨hx, hb, hr, hml, hown, hts, hK, hlocks, hXX, hA, hXo⟩ := id C
  intro H locs ls hP hD hS hl
  unfold f_X12_feed at hf
  refine lv_aload_n hx hb dX12_feed_0 rfl (lv_at hl 0 rfl) ?_
  refine lv_iconst (v := (0 : Int32)) hx hb dX12_feed_1 (by decide) ?_
  obtain ⟨σ5, eσ5, hf⟩ := bd_s hf
  refine bk_put (wf := mw) (σ1 := σ5) (q0 := 0) (ci := 11) (k := 2) (v := .int (0 : Int32)) C hP hD hS wl_X12 tyX12_ok nmX12 rfl rfl (by decide) wa_205 rfl rfl rfl rfl rfl (Nat.le_of_ble_eq_true rfl) (by rw [eσ5]; exact mw_p0_2 g _ _) dX12_feed_2 (fun H locs hP hD hS => ?_)
  refine lv_aload_n hx hb dX12_feed_5 rfl (lv_at hl 0 rfl) ?_
  refine bk_get (wf := mw) (q0 := 0) (ci := 11) (k := 13) (v := .int (σ5 0 13)) C hP wl_X12 rfl rfl (by decide) wa_206 rfl rfl dX12_feed_6 ?_
  refine lv_bipush (v := (20 : Int32)) hx hb dX12_feed_9 (by decide) ?_
  refine lv_iadd hx hb dX12_feed_11 ?_
  refine lv_sipush (v := (700 : Int32)) hx hb dX12_feed_12 (by decide) ?_
  refine lv_icmp_le (tgt := 20) hx hb dX12_feed_15 (by decide) (fun t15 => ?_) (fun t15 => ?_)
  · have hf := (if_pos t15).symm.trans hf
    refine lv_iconst (v := (0 : Int32)) hx hb dX12_feed_20 (by decide) ?_
    refine lv_istore (lv' := [(6, .int (0 : Int32)), (0, .ref (g.2.2 0)), (1, .int x1), (2, .int x2), (3, .int x3), (4, .int x4), (5, .int x5)]) hx hb dX12_feed_21 hl (by decide) rfl (fun ls hl => ?_)
    obtain ⟨z6, hz6, hf⟩ := bi_s hf
    refine lp_X12_feed_h23 C hz6 ?_ H locs ls hP hD hS (lv_sub hl [1, 2, 3, 4, 5, 6, 0] rfl)
    intro H locs ls hP hD hS hl
    refine lv_aload_n hx hb dX12_feed_120 rfl (lv_at hl 0 rfl) ?_
    refine bk_get (wf := mw) (q0 := 0) (ci := 11) (k := 13) (v := .int ((z6.2.2) 0 13)) C hP wl_X12 rfl rfl (by decide) wa_206 rfl rfl dX12_feed_121 ?_
    cases hf
    exact bk_iret C hP hD hS rfl dX12_feed_124
  · have hf := (if_neg t15).symm.trans hf
    refine lv_iconst (v := (-1 : Int32)) hx hb dX12_feed_18 (by decide) ?_
    cases hf
    exact bk_iret C hP hD hS rfl dX12_feed_19
theorem c_X12_feed {N : Nat} {x1 : Int32} {x2 : Int32} {x3 : Int32} {x4 : Int32} {x5 : Int32} {σ : Sg} {z : Int32 × Sg} (hX : xOK g X) (hf : f_X12_feed N x1 x2 x3 x4 x5 σ = some z) : MetI l yX12_feed (Cond.code yX12_feed cX12_feed 8 (some .int) :: wsA) rm_X12_feed mw g X [.ref (g.2.2 0), .int x1, .int x2, .int x3, .int x4, .int x5] σ z.1 z.2 :=
  MetI_of hX (by decide) (Nat.le_of_ble_eq_true rfl) (fun p e s m args below meth c A C => b_X12_feed C hf)
-- X12_byteAt: byteAt(I)I
abbrev rm_X12_byteAt : Room := { frames := 0, cells := 0, slots := 0, locals := 0 }
theorem nd_X12_byteAt : yX12_byteAt.cls ≠ "java/lang/invoke/MethodHandle" ∧ yX12_byteAt.cls ≠ "java/lang/invoke/VarHandle" ∧ (parseMethodDescriptor yX12_byteAt.desc).map (fun d => d.parameters.length) = some 1 := by decide +kernel
def f_X12_byteAt (N : Nat) (x1 : Int32) (σ : Sg) : Option (Int32 × Sg) :=
if (σ 0 15) ≤ x1 then (some ((-1 : Int32), σ))
else (if (x1 < 0 ∨ 700 ≤ x1.toNatClampNeg) then none else
some ((σ 12 x1.toNatClampNeg), σ))
set_option maxHeartbeats 4000000 in
set_option maxRecDepth 100000 in
theorem b_X12_byteAt {N : Nat} {x1 : Int32} {σ : Sg} {z : Int32 × Sg} (C : Cx p s m args meth c cX12_byteAt 2 (some .int) RX12 g A X) (hf : f_X12_byteAt N x1 σ = some z) : Bk mw p l e rm_X12_byteAt s m args below meth c 2 g A (MQ below (qI mw g A z.1 z.2) args s 0 0 A) 0 0 0 [(0, .ref (g.2.2 0)), (1, .int x1)] [] σ := by
  obtain ⟨hx, hb, hr, hml, hown, hts, hK, hlocks, hXX, hA, hXo⟩ := id C
  intro H locs ls hP hD hS hl
  unfold f_X12_byteAt at hf
  refine lv_iload_n hx hb dX12_byteAt_0 rfl (lv_at hl 1 rfl) ?_
  refine lv_aload_n hx hb dX12_byteAt_1 rfl (lv_at hl 0 rfl) ?_
  refine bk_get (wf := mw) (q0 := 0) (ci := 11) (k := 15) (v := .int (σ 0 15)) C hP wl_X12 rfl rfl (by decide) wa_504 rfl rfl dX12_byteAt_2 ?_
  refine lv_icmp_ge (tgt := 17) hx hb dX12_byteAt_5 (by decide) (fun t5 => ?_) (fun t5 => ?_)
  · have hf := (if_pos t5).symm.trans hf
    refine lv_iconst (v := (-1 : Int32)) hx hb dX12_byteAt_17 (by decide) ?_
    cases hf
    exact bk_iret C hP hD hS rfl dX12_byteAt_18
  · have hf := (if_neg t5).symm.trans hf
    refine lv_aload_n hx hb dX12_byteAt_8 rfl (lv_at hl 0 rfl) ?_
    refine bk_get (wf := mw) (q0 := 0) (ci := 11) (k := 12) (v := .ref (g.2.2 12)) C hP wl_X12 rfl rfl (by decide) wa_166 rfl rfl dX12_byteAt_9 ?_
    refine lv_iload_n hx hb dX12_byteAt_12 rfl (lv_at hl 1 rfl) ?_
    obtain ⟨g1, hf⟩ := gd_s hf
    refine bk_iald (wf := mw) (q0 := 12) (n := 700) (j := x1.toNatClampNeg) C hP rfl g1 rfl dX12_byteAt_13 ?_
    refine lv_goto (tgt := 18) hx hb dX12_byteAt_14 (by decide) ?_
    cases hf
    exact bk_iret C hP hD hS rfl dX12_byteAt_18
theorem c_X12_byteAt {N : Nat} {x1 : Int32} {σ : Sg} {z : Int32 × Sg} (hX : xOK g X) (hf : f_X12_byteAt N x1 σ = some z) : MetI l yX12_byteAt (Cond.code yX12_byteAt cX12_byteAt 2 (some .int) :: wsA) rm_X12_byteAt mw g X [.ref (g.2.2 0), .int x1] σ z.1 z.2 :=
  MetI_of hX (by decide) (Nat.le_of_ble_eq_true rfl) (fun p e s m args below meth c A C => b_X12_byteAt C hf)
-- X12_isLetter: isLetter(I)Z
abbrev rm_X12_isLetter : Room := { frames := 0, cells := 0, slots := 0, locals := 0 }
theorem nd_X12_isLetter : yX12_isLetter.cls ≠ "java/lang/invoke/MethodHandle" ∧ yX12_isLetter.cls ≠ "java/lang/invoke/VarHandle" ∧ (parseMethodDescriptor yX12_isLetter.desc).map (fun d => d.parameters.length) = some 1 := by decide +kernel
def f_X12_isLetter_b16 (N : Nat) (σ : Sg) : Option (Int32 × Sg) :=
some ((0 : Int32), σ)
set_option maxHeartbeats 4000000 in
set_option maxRecDepth 100000 in
theorem b_X12_isLetter_b16 {N : Nat} {σ : Sg} {z : Int32 × Sg} (C : Cx p s m args meth c cX12_isLetter 1 (some .boolean) RX12 g A X) (hf : f_X12_isLetter_b16 N σ = some z) : Bk mw p l e rm_X12_isLetter s m args below meth c 1 g A (MQ below (qI mw g A z.1 z.2) args s 0 0 A) 0 0 16 [] [] σ := by
  obtain ⟨hx, hb, hr, hml, hown, hts, hK, hlocks, hXX, hA, hXo⟩ := id C
  intro H locs ls hP hD hS hl
  unfold f_X12_isLetter_b16 at hf
  refine lv_iconst (v := (0 : Int32)) hx hb dX12_isLetter_16 (by decide) ?_
  cases hf
  exact bk_zret C hP hD hS (by decide) rfl dX12_isLetter_17
def f_X12_isLetter (N : Nat) (x0 : Int32) (σ : Sg) : Option (Int32 × Sg) :=
if x0 < (97 : Int32) then (f_X12_isLetter_b16 N σ)
else (if (122 : Int32) < x0 then (f_X12_isLetter_b16 N σ)
else (some ((1 : Int32), σ)))
set_option maxHeartbeats 4000000 in
set_option maxRecDepth 100000 in
theorem b_X12_isLetter {N : Nat} {x0 : Int32} {σ : Sg} {z : Int32 × Sg} (C : Cx p s m args meth c cX12_isLetter 1 (some .boolean) RX12 g A X) (hf : f_X12_isLetter N x0 σ = some z) : Bk mw p l e rm_X12_isLetter s m args below meth c 1 g A (MQ below (qI mw g A z.1 z.2) args s 0 0 A) 0 0 0 [(0, .int x0)] [] σ := by
  obtain ⟨hx, hb, hr, hml, hown, hts, hK, hlocks, hXX, hA, hXo⟩ := id C
  intro H locs ls hP hD hS hl
  unfold f_X12_isLetter at hf
  refine lv_iload_n hx hb dX12_isLetter_0 rfl (lv_at hl 0 rfl) ?_
  refine lv_bipush (v := (97 : Int32)) hx hb dX12_isLetter_1 (by decide) ?_
  refine lv_icmp_lt (tgt := 16) hx hb dX12_isLetter_3 (by decide) (fun t3 => ?_) (fun t3 => ?_)
  · have hf := (if_pos t3).symm.trans hf
    exact b_X12_isLetter_b16 C hf H locs ls hP hD hS (lv_sub hl [] rfl)
  · have hf := (if_neg t3).symm.trans hf
    refine lv_iload_n hx hb dX12_isLetter_6 rfl (lv_at hl 0 rfl) ?_
    refine lv_bipush (v := (122 : Int32)) hx hb dX12_isLetter_7 (by decide) ?_
    refine lv_icmp_gt (tgt := 16) hx hb dX12_isLetter_9 (by decide) (fun t9 => ?_) (fun t9 => ?_)
    · have hf := (if_pos t9).symm.trans hf
      exact b_X12_isLetter_b16 C hf H locs ls hP hD hS (lv_sub hl [] rfl)
    · have hf := (if_neg t9).symm.trans hf
      refine lv_iconst (v := (1 : Int32)) hx hb dX12_isLetter_12 (by decide) ?_
      refine lv_goto (tgt := 17) hx hb dX12_isLetter_13 (by decide) ?_
      cases hf
      exact bk_zret C hP hD hS (by decide) rfl dX12_isLetter_17
theorem c_X12_isLetter {N : Nat} {x0 : Int32} {σ : Sg} {z : Int32 × Sg} (hX : xOK g X) (hf : f_X12_isLetter N x0 σ = some z) : MetI l yX12_isLetter (Cond.code yX12_isLetter cX12_isLetter 1 (some .boolean) :: wsA) rm_X12_isLetter mw g X [.int x0] σ z.1 z.2 :=
  MetI_of hX (by decide) (Nat.le_of_ble_eq_true rfl) (fun p e s m args below meth c A C => b_X12_isLetter C hf)
-- X12_isDigit: isDigit(I)Z
abbrev rm_X12_isDigit : Room := { frames := 0, cells := 0, slots := 0, locals := 0 }
theorem nd_X12_isDigit : yX12_isDigit.cls ≠ "java/lang/invoke/MethodHandle" ∧ yX12_isDigit.cls ≠ "java/lang/invoke/VarHandle" ∧ (parseMethodDescriptor yX12_isDigit.desc).map (fun d => d.parameters.length) = some 1 := by decide +kernel
def f_X12_isDigit_b16 (N : Nat) (σ : Sg) : Option (Int32 × Sg) :=
some ((0 : Int32), σ)
set_option maxHeartbeats 4000000 in
set_option maxRecDepth 100000 in
theorem b_X12_isDigit_b16 {N : Nat} {σ : Sg} {z : Int32 × Sg} (C : Cx p s m args meth c cX12_isDigit 1 (some .boolean) RX12 g A X) (hf : f_X12_isDigit_b16 N σ = some z) : Bk mw p l e rm_X12_isDigit s m args below meth c 1 g A (MQ below (qI mw g A z.1 z.2) args s 0 0 A) 0 0 16 [] [] σ := by
  obtain ⟨hx, hb, hr, hml, hown, hts, hK, hlocks, hXX, hA, hXo⟩ := id C
  intro H locs ls hP hD hS hl
  unfold f_X12_isDigit_b16 at hf
  refine lv_iconst (v := (0 : Int32)) hx hb dX12_isDigit_16 (by decide) ?_
  cases hf
  exact bk_zret C hP hD hS (by decide) rfl dX12_isDigit_17
def f_X12_isDigit (N : Nat) (x0 : Int32) (σ : Sg) : Option (Int32 × Sg) :=
if x0 < (48 : Int32) then (f_X12_isDigit_b16 N σ)
else (if (57 : Int32) < x0 then (f_X12_isDigit_b16 N σ)
else (some ((1 : Int32), σ)))
set_option maxHeartbeats 4000000 in
set_option maxRecDepth 100000 in
theorem b_X12_isDigit {N : Nat} {x0 : Int32} {σ : Sg} {z : Int32 × Sg} (C : Cx p s m args meth c cX12_isDigit 1 (some .boolean) RX12 g A X) (hf : f_X12_isDigit N x0 σ = some z) : Bk mw p l e rm_X12_isDigit s m args below meth c 1 g A (MQ below (qI mw g A z.1 z.2) args s 0 0 A) 0 0 0 [(0, .int x0)] [] σ := by
  obtain ⟨hx, hb, hr, hml, hown, hts, hK, hlocks, hXX, hA, hXo⟩ := id C
  intro H locs ls hP hD hS hl
  unfold f_X12_isDigit at hf
  refine lv_iload_n hx hb dX12_isDigit_0 rfl (lv_at hl 0 rfl) ?_
  refine lv_bipush (v := (48 : Int32)) hx hb dX12_isDigit_1 (by decide) ?_
  refine lv_icmp_lt (tgt := 16) hx hb dX12_isDigit_3 (by decide) (fun t3 => ?_) (fun t3 => ?_)
  · have hf := (if_pos t3).symm.trans hf
    exact b_X12_isDigit_b16 C hf H locs ls hP hD hS (lv_sub hl [] rfl)
  · have hf := (if_neg t3).symm.trans hf
    refine lv_iload_n hx hb dX12_isDigit_6 rfl (lv_at hl 0 rfl) ?_
    refine lv_bipush (v := (57 : Int32)) hx hb dX12_isDigit_7 (by decide) ?_
    refine lv_icmp_gt (tgt := 16) hx hb dX12_isDigit_9 (by decide) (fun t9 => ?_) (fun t9 => ?_)
    · have hf := (if_pos t9).symm.trans hf
      exact b_X12_isDigit_b16 C hf H locs ls hP hD hS (lv_sub hl [] rfl)
    · have hf := (if_neg t9).symm.trans hf
      refine lv_iconst (v := (1 : Int32)) hx hb dX12_isDigit_12 (by decide) ?_
      refine lv_goto (tgt := 17) hx hb dX12_isDigit_13 (by decide) ?_
      cases hf
      exact bk_zret C hP hD hS (by decide) rfl dX12_isDigit_17
theorem c_X12_isDigit {N : Nat} {x0 : Int32} {σ : Sg} {z : Int32 × Sg} (hX : xOK g X) (hf : f_X12_isDigit N x0 σ = some z) : MetI l yX12_isDigit (Cond.code yX12_isDigit cX12_isDigit 1 (some .boolean) :: wsA) rm_X12_isDigit mw g X [.int x0] σ z.1 z.2 :=
  MetI_of hX (by decide) (Nat.le_of_ble_eq_true rfl) (fun p e s m args below meth c A C => b_X12_isDigit C hf)
-- X12_isMark: isMark(I)Z
abbrev rm_X12_isMark : Room := { frames := 0, cells := 0, slots := 0, locals := 0 }
theorem nd_X12_isMark : yX12_isMark.cls ≠ "java/lang/invoke/MethodHandle" ∧ yX12_isMark.cls ≠ "java/lang/invoke/VarHandle" ∧ (parseMethodDescriptor yX12_isMark.desc).map (fun d => d.parameters.length) = some 1 := by decide +kernel
def f_X12_isMark_b54 (N : Nat) (σ : Sg) : Option (Int32 × Sg) :=
some ((1 : Int32), σ)
set_option maxHeartbeats 4000000 in
set_option maxRecDepth 100000 in
theorem b_X12_isMark_b54 {N : Nat} {σ : Sg} {z : Int32 × Sg} (C : Cx p s m args meth c cX12_isMark 1 (some .boolean) RX12 g A X) (hf : f_X12_isMark_b54 N σ = some z) : Bk mw p l e rm_X12_isMark s m args below meth c 1 g A (MQ below (qI mw g A z.1 z.2) args s 0 0 A) 0 0 54 [] [] σ := by
  obtain ⟨hx, hb, hr, hml, hown, hts, hK, hlocks, hXX, hA, hXo⟩ := id C
  intro H locs ls hP hD hS hl
  unfold f_X12_isMark_b54 at hf
  refine lv_iconst (v := (1 : Int32)) hx hb dX12_isMark_54 (by decide) ?_
  refine lv_goto (tgt := 59) hx hb dX12_isMark_55 (by decide) ?_
  cases hf
  exact bk_zret C hP hD hS (by decide) rfl dX12_isMark_59
def f_X12_isMark (N : Nat) (x0 : Int32) (σ : Sg) : Option (Int32 × Sg) :=
if x0 = (59 : Int32) then (f_X12_isMark_b54 N σ)
else (if x0 = (40 : Int32) then (f_X12_isMark_b54 N σ)
else (if x0 = (41 : Int32) then (f_X12_isMark_b54 N σ)
else (if x0 = (43 : Int32) then (f_X12_isMark_b54 N σ)
else (if x0 = (45 : Int32) then (f_X12_isMark_b54 N σ)
else (if x0 = (42 : Int32) then (f_X12_isMark_b54 N σ)
else (if x0 = (47 : Int32) then (f_X12_isMark_b54 N σ)
else (if x0 = (60 : Int32) then (f_X12_isMark_b54 N σ)
else (if x0 = (61 : Int32) then (f_X12_isMark_b54 N σ)
else (some ((0 : Int32), σ))))))))))
set_option maxHeartbeats 4000000 in
set_option maxRecDepth 100000 in
theorem b_X12_isMark {N : Nat} {x0 : Int32} {σ : Sg} {z : Int32 × Sg} (C : Cx p s m args meth c cX12_isMark 1 (some .boolean) RX12 g A X) (hf : f_X12_isMark N x0 σ = some z) : Bk mw p l e rm_X12_isMark s m args below meth c 1 g A (MQ below (qI mw g A z.1 z.2) args s 0 0 A) 0 0 0 [(0, .int x0)] [] σ := by
  obtain ⟨hx, hb, hr, hml, hown, hts, hK, hlocks, hXX, hA, hXo⟩ := id C
  intro H locs ls hP hD hS hl
  unfold f_X12_isMark at hf
  refine lv_iload_n hx hb dX12_isMark_0 rfl (lv_at hl 0 rfl) ?_
  refine lv_bipush (v := (59 : Int32)) hx hb dX12_isMark_1 (by decide) ?_
  refine lv_icmp_eq (tgt := 54) hx hb dX12_isMark_3 (by decide) (fun t3 => ?_) (fun t3 => ?_)
  · have hf := (if_pos t3).symm.trans hf
    exact b_X12_isMark_b54 C hf H locs ls hP hD hS (lv_sub hl [] rfl)
  · have hf := (if_neg t3).symm.trans hf
    refine lv_iload_n hx hb dX12_isMark_6 rfl (lv_at hl 0 rfl) ?_
    refine lv_bipush (v := (40 : Int32)) hx hb dX12_isMark_7 (by decide) ?_
    refine lv_icmp_eq (tgt := 54) hx hb dX12_isMark_9 (by decide) (fun t9 => ?_) (fun t9 => ?_)
    · have hf := (if_pos t9).symm.trans hf
      exact b_X12_isMark_b54 C hf H locs ls hP hD hS (lv_sub hl [] rfl)
    · have hf := (if_neg t9).symm.trans hf
      refine lv_iload_n hx hb dX12_isMark_12 rfl (lv_at hl 0 rfl) ?_
      refine lv_bipush (v := (41 : Int32)) hx hb dX12_isMark_13 (by decide) ?_
      refine lv_icmp_eq (tgt := 54) hx hb dX12_isMark_15 (by decide) (fun t15 => ?_) (fun t15 => ?_)
      · have hf := (if_pos t15).symm.trans hf
        exact b_X12_isMark_b54 C hf H locs ls hP hD hS (lv_sub hl [] rfl)
      · have hf := (if_neg t15).symm.trans hf
        refine lv_iload_n hx hb dX12_isMark_18 rfl (lv_at hl 0 rfl) ?_
        refine lv_bipush (v := (43 : Int32)) hx hb dX12_isMark_19 (by decide) ?_
        refine lv_icmp_eq (tgt := 54) hx hb dX12_isMark_21 (by decide) (fun t21 => ?_) (fun t21 => ?_)
        · have hf := (if_pos t21).symm.trans hf
          exact b_X12_isMark_b54 C hf H locs ls hP hD hS (lv_sub hl [] rfl)
        · have hf := (if_neg t21).symm.trans hf
          refine lv_iload_n hx hb dX12_isMark_24 rfl (lv_at hl 0 rfl) ?_
          refine lv_bipush (v := (45 : Int32)) hx hb dX12_isMark_25 (by decide) ?_
          refine lv_icmp_eq (tgt := 54) hx hb dX12_isMark_27 (by decide) (fun t27 => ?_) (fun t27 => ?_)
          · have hf := (if_pos t27).symm.trans hf
            exact b_X12_isMark_b54 C hf H locs ls hP hD hS (lv_sub hl [] rfl)
          · have hf := (if_neg t27).symm.trans hf
            refine lv_iload_n hx hb dX12_isMark_30 rfl (lv_at hl 0 rfl) ?_
            refine lv_bipush (v := (42 : Int32)) hx hb dX12_isMark_31 (by decide) ?_
            refine lv_icmp_eq (tgt := 54) hx hb dX12_isMark_33 (by decide) (fun t33 => ?_) (fun t33 => ?_)
            · have hf := (if_pos t33).symm.trans hf
              exact b_X12_isMark_b54 C hf H locs ls hP hD hS (lv_sub hl [] rfl)
            · have hf := (if_neg t33).symm.trans hf
              refine lv_iload_n hx hb dX12_isMark_36 rfl (lv_at hl 0 rfl) ?_
              refine lv_bipush (v := (47 : Int32)) hx hb dX12_isMark_37 (by decide) ?_
              refine lv_icmp_eq (tgt := 54) hx hb dX12_isMark_39 (by decide) (fun t39 => ?_) (fun t39 => ?_)
              · have hf := (if_pos t39).symm.trans hf
                exact b_X12_isMark_b54 C hf H locs ls hP hD hS (lv_sub hl [] rfl)
              · have hf := (if_neg t39).symm.trans hf
                refine lv_iload_n hx hb dX12_isMark_42 rfl (lv_at hl 0 rfl) ?_
                refine lv_bipush (v := (60 : Int32)) hx hb dX12_isMark_43 (by decide) ?_
                refine lv_icmp_eq (tgt := 54) hx hb dX12_isMark_45 (by decide) (fun t45 => ?_) (fun t45 => ?_)
                · have hf := (if_pos t45).symm.trans hf
                  exact b_X12_isMark_b54 C hf H locs ls hP hD hS (lv_sub hl [] rfl)
                · have hf := (if_neg t45).symm.trans hf
                  refine lv_iload_n hx hb dX12_isMark_48 rfl (lv_at hl 0 rfl) ?_
                  refine lv_bipush (v := (61 : Int32)) hx hb dX12_isMark_49 (by decide) ?_
                  refine lv_icmp_ne (tgt := 58) hx hb dX12_isMark_51 (by decide) (fun t51 => ?_) (fun t51 => ?_)
                  · have hf := (if_neg t51).symm.trans hf
                    refine lv_iconst (v := (0 : Int32)) hx hb dX12_isMark_58 (by decide) ?_
                    cases hf
                    exact bk_zret C hP hD hS (by decide) rfl dX12_isMark_59
                  · have hf := (if_pos t51).symm.trans hf
                    exact b_X12_isMark_b54 C hf H locs ls hP hD hS (lv_sub hl [] rfl)
theorem c_X12_isMark {N : Nat} {x0 : Int32} {σ : Sg} {z : Int32 × Sg} (hX : xOK g X) (hf : f_X12_isMark N x0 σ = some z) : MetI l yX12_isMark (Cond.code yX12_isMark cX12_isMark 1 (some .boolean) :: wsA) rm_X12_isMark mw g X [.int x0] σ z.1 z.2 :=
  MetI_of hX (by decide) (Nat.le_of_ble_eq_true rfl) (fun p e s m args below meth c A C => b_X12_isMark C hf)
-- X12_stepOn: stepOn()V
abbrev rm_X12_stepOn : Room := { frames := 1, cells := 0, slots := 0, locals := 24 }
theorem nd_X12_stepOn : yX12_stepOn.cls ≠ "java/lang/invoke/MethodHandle" ∧ yX12_stepOn.cls ≠ "java/lang/invoke/VarHandle" ∧ (parseMethodDescriptor yX12_stepOn.desc).map (fun d => d.parameters.length) = some 0 := by decide +kernel
def s_X12_stepOn_h123 (N : Nat) (σ : Sg) : Option (Nat × Sg) :=
(f_X12_byteAt N (σ 0 14) σ).bind fun q1 =>
(f_X12_isDigit N q1.1 (q1.2)).bind fun q2 =>
if q2.1 = 0 then (some (1, (q2.2)))
else ((f_X12_byteAt N ((q2.2) 0 14) (q2.2)).bind fun q3 =>
bd (wr (q3.2) 0 17 (if ((((10 : Int32) * ((q2.2) 0 17)) + q3.1) - (48 : Int32)) < (100000 : Int32) then ((((10 : Int32) * ((q2.2) 0 17)) + q3.1) - (48 : Int32)) else (100000 : Int32))) fun σ4 =>
bd (wr σ4 0 14 ((σ4 0 14) + (1 : Int32))) fun σ5 =>
some (0, σ5))
set_option maxHeartbeats 4000000 in
set_option maxRecDepth 100000 in
theorem e_X12_stepOn_h123 {N : Nat} {σ : Sg} {z : Nat × Sg} (C : Cx p s m args meth c cX12_stepOn 2 none RX12 g A X) (hf : s_X12_stepOn_h123 N σ = some z) (k0 : z.1 = 0 → Bk mw p l e rm_X12_stepOn s m args below meth c 2 g A Q 0 0 123 [(0, .ref (g.2.2 0))] [] z.2) (k : ¬ z.1 = 0 → Bk mw p l e rm_X12_stepOn s m args below meth c 2 g A Q 0 0 178 [(0, .ref (g.2.2 0))] [] z.2) : Bk mw p l e rm_X12_stepOn s m args below meth c 2 g A Q 0 0 123 [(0, .ref (g.2.2 0))] [] σ := by
  obtain ⟨hx, hb, hr, hml, hown, hts, hK, hlocks, hXX, hA, hXo⟩ := id C
  intro H locs ls hP hD hS hl
  unfold s_X12_stepOn_h123 at hf
  refine lv_aload_n hx hb dX12_stepOn_123 rfl (lv_at hl 0 rfl) ?_
  refine lv_aload_n hx hb dX12_stepOn_124 rfl (lv_at hl 0 rfl) ?_
  refine bk_get (wf := mw) (q0 := 0) (ci := 11) (k := 14) (v := .int (σ 0 14)) C hP wl_X12 rfl rfl (by decide) wa_505 rfl rfl dX12_stepOn_125 ?_
  obtain ⟨q1, hq1, hf⟩ := bi_s hf
  refine bk_VI (wf := mw) (q0 := 0) (ci := 11) (rest := []) [.int (σ 0 14)] C hP hD hS hl.1 (c_X12_byteAt hXo hq1) (cwA_V 1 hts wa_525 wa_522 wa_523 wa_524 wa_5 rfl rfl nd_X12_byteAt ⟨Nat.le_of_ble_eq_true rfl, Nat.le_of_ble_eq_true rfl⟩) rfl rfl rfl rfl (Nat.le_of_ble_eq_true rfl) dX12_stepOn_128 ⟨Nat.le_of_ble_eq_true rfl, Nat.le_of_ble_eq_true rfl⟩ (fun H locs hP hD hS => ?_)
  obtain ⟨q2, hq2, hf⟩ := bi_s hf
  refine bk_SI (wf := mw) (rest := []) [.int q1.1] C hP hD hS hl.1 (c_X12_isDigit hXo hq2) (cwA_S 1 hts wa_531 wa_529 wa_530 wa_5 rfl rfl nd_X12_isDigit ⟨Nat.le_of_ble_eq_true rfl, Nat.le_of_ble_eq_true rfl⟩) rfl rfl (Nat.le_of_ble_eq_true rfl) dX12_stepOn_131 ⟨Nat.le_of_ble_eq_true rfl, Nat.le_of_ble_eq_true rfl⟩ (fun H locs hP hD hS => ?_)
  refine lv_if_eq (tgt := 178) hx hb dX12_stepOn_134 (by decide) (fun t134 => ?_) (fun t134 => ?_)
  · have hf := (if_pos t134).symm.trans hf
    cases hf
    exact (k (show ¬ (1 : Nat) = 0 by decide)) H locs ls hP hD hS (lv_sub hl [0] rfl)
  · have hf := (if_neg t134).symm.trans hf
    refine lv_aload_n hx hb dX12_stepOn_137 rfl (lv_at hl 0 rfl) ?_
    refine lv_ldc (v := (100000 : Int32)) hx hb hown (hts _ wa_519) dX12_stepOn_138 ?_
    refine lv_bipush (v := (10 : Int32)) hx hb dX12_stepOn_140 (by decide) ?_
    refine lv_aload_n hx hb dX12_stepOn_142 rfl (lv_at hl 0 rfl) ?_
    refine bk_get (wf := mw) (q0 := 0) (ci := 11) (k := 17) (v := .int ((q2.2) 0 17)) C hP wl_X12 rfl rfl (by decide) wa_518 rfl rfl dX12_stepOn_143 ?_
    refine lv_imul hx hb dX12_stepOn_146 ?_
    refine lv_aload_n hx hb dX12_stepOn_147 rfl (lv_at hl 0 rfl) ?_
    refine lv_aload_n hx hb dX12_stepOn_148 rfl (lv_at hl 0 rfl) ?_
    refine bk_get (wf := mw) (q0 := 0) (ci := 11) (k := 14) (v := .int ((q2.2) 0 14)) C hP wl_X12 rfl rfl (by decide) wa_505 rfl rfl dX12_stepOn_149 ?_
    obtain ⟨q3, hq3, hf⟩ := bi_s hf
    refine bk_VI (wf := mw) (q0 := 0) (ci := 11) (rest := [.int ((10 : Int32) * ((q2.2) 0 17)), .int (100000 : Int32), .ref (g.2.2 0)]) [.int ((q2.2) 0 14)] C hP hD hS hl.1 (c_X12_byteAt hXo hq3) (cwA_V 1 hts wa_525 wa_522 wa_523 wa_524 wa_5 rfl rfl nd_X12_byteAt ⟨Nat.le_of_ble_eq_true rfl, Nat.le_of_ble_eq_true rfl⟩) rfl rfl rfl rfl (Nat.le_of_ble_eq_true rfl) dX12_stepOn_152 ⟨Nat.le_of_ble_eq_true rfl, Nat.le_of_ble_eq_true rfl⟩ (fun H locs hP hD hS => ?_)
    refine lv_iadd hx hb dX12_stepOn_155 ?_
    refine lv_bipush (v := (48 : Int32)) hx hb dX12_stepOn_156 (by decide) ?_
    refine lv_isub hx hb dX12_stepOn_158 ?_
    refine va_mmin hx hb (hml.trans hl.1.symm) hown (hts _ wa_520) (hts _ wa_230) (hts _ wa_231) (hts _ wa_232) (Nat.le_of_ble_eq_true rfl) (Nat.le_of_ble_eq_true rfl) (Nat.le_of_ble_eq_true rfl) (Nat.le_of_ble_eq_true rfl) dX12_stepOn_159 ?_
    obtain ⟨σ4, eσ4, hf⟩ := bd_s hf
    refine bk_put (wf := mw) (σ1 := σ4) (q0 := 0) (ci := 11) (k := 17) (v := .int (if ((((10 : Int32) * ((q2.2) 0 17)) + q3.1) - (48 : Int32)) < (100000 : Int32) then ((((10 : Int32) * ((q2.2) 0 17)) + q3.1) - (48 : Int32)) else (100000 : Int32))) C hP hD hS wl_X12 tyX12_ok nmX12 rfl rfl (by decide) wa_518 rfl rfl rfl rfl rfl (Nat.le_of_ble_eq_true rfl) (by rw [eσ4]; exact mw_p0_17 g _ _) dX12_stepOn_162 (fun H locs hP hD hS => ?_)
    refine lv_aload_n hx hb dX12_stepOn_165 rfl (lv_at hl 0 rfl) ?_
    refine lv_dup hx hb dX12_stepOn_166 rfl ?_
    refine bk_get (wf := mw) (q0 := 0) (ci := 11) (k := 14) (v := .int (σ4 0 14)) C hP wl_X12 rfl rfl (by decide) wa_505 rfl rfl dX12_stepOn_167 ?_
    refine lv_iconst (v := (1 : Int32)) hx hb dX12_stepOn_170 (by decide) ?_
    refine lv_iadd hx hb dX12_stepOn_171 ?_
    obtain ⟨σ5, eσ5, hf⟩ := bd_s hf
    refine bk_put (wf := mw) (σ1 := σ5) (q0 := 0) (ci := 11) (k := 14) (v := .int ((σ4 0 14) + (1 : Int32))) C hP hD hS wl_X12 tyX12_ok nmX12 rfl rfl (by decide) wa_505 rfl rfl rfl rfl rfl (Nat.le_of_ble_eq_true rfl) (by rw [eσ5]; exact mw_p0_14 g _ _) dX12_stepOn_172 (fun H locs hP hD hS => ?_)
    refine lv_goto (tgt := 123) hx hb dX12_stepOn_175 (by decide) ?_
    cases hf
    exact k0 rfl H locs ls hP hD hS (lv_sub hl [0] rfl)
theorem lp_X12_stepOn_h123 {N : Nat} {n : Nat} {σ : Sg} {z : Nat × Sg} (C : Cx p s m args meth c cX12_stepOn 2 none RX12 g A X) (hz : it (fun q => s_X12_stepOn_h123 N q) n (σ) = some z) (k : Bk mw p l e rm_X12_stepOn s m args below meth c 2 g A Q 0 0 178 [(0, .ref (g.2.2 0))] [] z.2) : Bk mw p l e rm_X12_stepOn s m args below meth c 2 g A Q 0 0 123 [(0, .ref (g.2.2 0))] [] σ :=
  it_W (S := Sg) (fun q => Bk mw p l e rm_X12_stepOn s m args below meth c 2 g A Q 0 0 123 [(0, .ref (g.2.2 0))] [] q) (fun z => Bk mw p l e rm_X12_stepOn s m args below meth c 2 g A Q 0 0 178 [(0, .ref (g.2.2 0))] [] z.2) (fun q z hq k0 k => e_X12_stepOn_h123 C hq k0 k) n (σ) z hz k
def s_X12_stepOn_h76 (N : Nat) (σ : Sg) : Option (Nat × Sg) :=
(f_X12_byteAt N (σ 0 14) σ).bind fun q6 =>
(f_X12_isLetter N q6.1 (q6.2)).bind fun q7 =>
if q7.1 = 0 then (some (1, (q7.2)))
else (bd (wr (q7.2) 0 14 (((q7.2) 0 14) + (1 : Int32))) fun σ8 =>
some (0, σ8))
set_option maxHeartbeats 4000000 in
set_option maxRecDepth 100000 in
theorem e_X12_stepOn_h76 {N : Nat} {σ : Sg} {z : Nat × Sg} (C : Cx p s m args meth c cX12_stepOn 2 none RX12 g A X) (hf : s_X12_stepOn_h76 N σ = some z) (k0 : z.1 = 0 → Bk mw p l e rm_X12_stepOn s m args below meth c 2 g A Q 0 0 76 [(0, .ref (g.2.2 0))] [] z.2) (k : ¬ z.1 = 0 → Bk mw p l e rm_X12_stepOn s m args below meth c 2 g A Q 0 0 103 [(0, .ref (g.2.2 0))] [] z.2) : Bk mw p l e rm_X12_stepOn s m args below meth c 2 g A Q 0 0 76 [(0, .ref (g.2.2 0))] [] σ := by
  obtain ⟨hx, hb, hr, hml, hown, hts, hK, hlocks, hXX, hA, hXo⟩ := id C
  intro H locs ls hP hD hS hl
  unfold s_X12_stepOn_h76 at hf
  refine lv_aload_n hx hb dX12_stepOn_76 rfl (lv_at hl 0 rfl) ?_
  refine lv_aload_n hx hb dX12_stepOn_77 rfl (lv_at hl 0 rfl) ?_
  refine bk_get (wf := mw) (q0 := 0) (ci := 11) (k := 14) (v := .int (σ 0 14)) C hP wl_X12 rfl rfl (by decide) wa_505 rfl rfl dX12_stepOn_78 ?_
  obtain ⟨q6, hq6, hf⟩ := bi_s hf
  refine bk_VI (wf := mw) (q0 := 0) (ci := 11) (rest := []) [.int (σ 0 14)] C hP hD hS hl.1 (c_X12_byteAt hXo hq6) (cwA_V 1 hts wa_525 wa_522 wa_523 wa_524 wa_5 rfl rfl nd_X12_byteAt ⟨Nat.le_of_ble_eq_true rfl, Nat.le_of_ble_eq_true rfl⟩) rfl rfl rfl rfl (Nat.le_of_ble_eq_true rfl) dX12_stepOn_81 ⟨Nat.le_of_ble_eq_true rfl, Nat.le_of_ble_eq_true rfl⟩ (fun H locs hP hD hS => ?_)
  obtain ⟨q7, hq7, hf⟩ := bi_s hf
  refine bk_SI (wf := mw) (rest := []) [.int q6.1] C hP hD hS hl.1 (c_X12_isLetter hXo hq7) (cwA_S 1 hts wa_528 wa_526 wa_527 wa_5 rfl rfl nd_X12_isLetter ⟨Nat.le_of_ble_eq_true rfl, Nat.le_of_ble_eq_true rfl⟩) rfl rfl (Nat.le_of_ble_eq_true rfl) dX12_stepOn_84 ⟨Nat.le_of_ble_eq_true rfl, Nat.le_of_ble_eq_true rfl⟩ (fun H locs hP hD hS => ?_)
  refine lv_if_eq (tgt := 103) hx hb dX12_stepOn_87 (by decide) (fun t87 => ?_) (fun t87 => ?_)
  · have hf := (if_pos t87).symm.trans hf
    cases hf
    exact (k (show ¬ (1 : Nat) = 0 by decide)) H locs ls hP hD hS (lv_sub hl [0] rfl)
  · have hf := (if_neg t87).symm.trans hf
    refine lv_aload_n hx hb dX12_stepOn_90 rfl (lv_at hl 0 rfl) ?_
    refine lv_dup hx hb dX12_stepOn_91 rfl ?_
    refine bk_get (wf := mw) (q0 := 0) (ci := 11) (k := 14) (v := .int ((q7.2) 0 14)) C hP wl_X12 rfl rfl (by decide) wa_505 rfl rfl dX12_stepOn_92 ?_
    refine lv_iconst (v := (1 : Int32)) hx hb dX12_stepOn_95 (by decide) ?_
    refine lv_iadd hx hb dX12_stepOn_96 ?_
    obtain ⟨σ8, eσ8, hf⟩ := bd_s hf
    refine bk_put (wf := mw) (σ1 := σ8) (q0 := 0) (ci := 11) (k := 14) (v := .int (((q7.2) 0 14) + (1 : Int32))) C hP hD hS wl_X12 tyX12_ok nmX12 rfl rfl (by decide) wa_505 rfl rfl rfl rfl rfl (Nat.le_of_ble_eq_true rfl) (by rw [eσ8]; exact mw_p0_14 g _ _) dX12_stepOn_97 (fun H locs hP hD hS => ?_)
    refine lv_goto (tgt := 76) hx hb dX12_stepOn_100 (by decide) ?_
    cases hf
    exact k0 rfl H locs ls hP hD hS (lv_sub hl [0] rfl)
theorem lp_X12_stepOn_h76 {N : Nat} {n : Nat} {σ : Sg} {z : Nat × Sg} (C : Cx p s m args meth c cX12_stepOn 2 none RX12 g A X) (hz : it (fun q => s_X12_stepOn_h76 N q) n (σ) = some z) (k : Bk mw p l e rm_X12_stepOn s m args below meth c 2 g A Q 0 0 103 [(0, .ref (g.2.2 0))] [] z.2) : Bk mw p l e rm_X12_stepOn s m args below meth c 2 g A Q 0 0 76 [(0, .ref (g.2.2 0))] [] σ :=
  it_W (S := Sg) (fun q => Bk mw p l e rm_X12_stepOn s m args below meth c 2 g A Q 0 0 76 [(0, .ref (g.2.2 0))] [] q) (fun z => Bk mw p l e rm_X12_stepOn s m args below meth c 2 g A Q 0 0 103 [(0, .ref (g.2.2 0))] [] z.2) (fun q z hq k0 k => e_X12_stepOn_h76 C hq k0 k) n (σ) z hz k
def f_X12_stepOn_b26 (N : Nat) (σ : Sg) : Option (Nat × Sg) :=
bd (wr σ 0 14 ((σ 0 14) + (1 : Int32))) fun σ9 =>
some (0, σ9)
set_option maxHeartbeats 4000000 in
set_option maxRecDepth 100000 in
theorem b_X12_stepOn_b26 {N : Nat} {σ : Sg} {z : Nat × Sg} (C : Cx p s m args meth c cX12_stepOn 2 none RX12 g A X) (hf : f_X12_stepOn_b26 N σ = some z) (k0 : z.1 = 0 → Bk mw p l e rm_X12_stepOn s m args below meth c 2 g A Q 0 0 0 [(0, .ref (g.2.2 0))] [] z.2) (k : ¬ z.1 = 0 → Bk mw p l e rm_X12_stepOn s m args below meth c 2 g A Q 0 0 39 [(0, .ref (g.2.2 0))] [] z.2) : Bk mw p l e rm_X12_stepOn s m args below meth c 2 g A Q 0 0 26 [(0, .ref (g.2.2 0))] [] σ := by
  obtain ⟨hx, hb, hr, hml, hown, hts, hK, hlocks, hXX, hA, hXo⟩ := id C
  intro H locs ls hP hD hS hl
  unfold f_X12_stepOn_b26 at hf
  refine lv_aload_n hx hb dX12_stepOn_26 rfl (lv_at hl 0 rfl) ?_
  refine lv_dup hx hb dX12_stepOn_27 rfl ?_
  refine bk_get (wf := mw) (q0 := 0) (ci := 11) (k := 14) (v := .int (σ 0 14)) C hP wl_X12 rfl rfl (by decide) wa_505 rfl rfl dX12_stepOn_28 ?_
  refine lv_iconst (v := (1 : Int32)) hx hb dX12_stepOn_31 (by decide) ?_
  refine lv_iadd hx hb dX12_stepOn_32 ?_
  obtain ⟨σ9, eσ9, hf⟩ := bd_s hf
  refine bk_put (wf := mw) (σ1 := σ9) (q0 := 0) (ci := 11) (k := 14) (v := .int ((σ 0 14) + (1 : Int32))) C hP hD hS wl_X12 tyX12_ok nmX12 rfl rfl (by decide) wa_505 rfl rfl rfl rfl rfl (Nat.le_of_ble_eq_true rfl) (by rw [eσ9]; exact mw_p0_14 g _ _) dX12_stepOn_33 (fun H locs hP hD hS => ?_)
  refine lv_goto (tgt := 0) hx hb dX12_stepOn_36 (by decide) ?_
  cases hf
  exact k0 rfl H locs ls hP hD hS (lv_sub hl [0] rfl)
def s_X12_stepOn_h0 (N : Nat) (σ : Sg) : Option (Nat × Sg) :=
(f_X12_byteAt N (σ 0 14) σ).bind fun q10 =>
if q10.1 = (32 : Int32) then (f_X12_stepOn_b26 N (q10.2))
else ((f_X12_byteAt N ((q10.2) 0 14) (q10.2)).bind fun q11 =>
if q11.1 = (10 : Int32) then (f_X12_stepOn_b26 N (q11.2))
else (some (1, (q11.2))))
set_option maxHeartbeats 4000000 in
set_option maxRecDepth 100000 in
theorem e_X12_stepOn_h0 {N : Nat} {σ : Sg} {z : Nat × Sg} (C : Cx p s m args meth c cX12_stepOn 2 none RX12 g A X) (hf : s_X12_stepOn_h0 N σ = some z) (k0 : z.1 = 0 → Bk mw p l e rm_X12_stepOn s m args below meth c 2 g A Q 0 0 0 [(0, .ref (g.2.2 0))] [] z.2) (k : ¬ z.1 = 0 → Bk mw p l e rm_X12_stepOn s m args below meth c 2 g A Q 0 0 39 [(0, .ref (g.2.2 0))] [] z.2) : Bk mw p l e rm_X12_stepOn s m args below meth c 2 g A Q 0 0 0 [(0, .ref (g.2.2 0))] [] σ := by
  obtain ⟨hx, hb, hr, hml, hown, hts, hK, hlocks, hXX, hA, hXo⟩ := id C
  intro H locs ls hP hD hS hl
  unfold s_X12_stepOn_h0 at hf
  refine lv_aload_n hx hb dX12_stepOn_0 rfl (lv_at hl 0 rfl) ?_
  refine lv_aload_n hx hb dX12_stepOn_1 rfl (lv_at hl 0 rfl) ?_
  refine bk_get (wf := mw) (q0 := 0) (ci := 11) (k := 14) (v := .int (σ 0 14)) C hP wl_X12 rfl rfl (by decide) wa_505 rfl rfl dX12_stepOn_2 ?_
  obtain ⟨q10, hq10, hf⟩ := bi_s hf
  refine bk_VI (wf := mw) (q0 := 0) (ci := 11) (rest := []) [.int (σ 0 14)] C hP hD hS hl.1 (c_X12_byteAt hXo hq10) (cwA_V 1 hts wa_525 wa_522 wa_523 wa_524 wa_5 rfl rfl nd_X12_byteAt ⟨Nat.le_of_ble_eq_true rfl, Nat.le_of_ble_eq_true rfl⟩) rfl rfl rfl rfl (Nat.le_of_ble_eq_true rfl) dX12_stepOn_5 ⟨Nat.le_of_ble_eq_true rfl, Nat.le_of_ble_eq_true rfl⟩ (fun H locs hP hD hS => ?_)
  refine lv_bipush (v := (32 : Int32)) hx hb dX12_stepOn_8 (by decide) ?_
  refine lv_icmp_eq (tgt := 26) hx hb dX12_stepOn_10 (by decide) (fun t10 => ?_) (fun t10 => ?_)
  · have hf := (if_pos t10).symm.trans hf
    exact b_X12_stepOn_b26 C hf k0 k H locs ls hP hD hS (lv_sub hl [0] rfl)
  · have hf := (if_neg t10).symm.trans hf
    refine lv_aload_n hx hb dX12_stepOn_13 rfl (lv_at hl 0 rfl) ?_
    refine lv_aload_n hx hb dX12_stepOn_14 rfl (lv_at hl 0 rfl) ?_
    refine bk_get (wf := mw) (q0 := 0) (ci := 11) (k := 14) (v := .int ((q10.2) 0 14)) C hP wl_X12 rfl rfl (by decide) wa_505 rfl rfl dX12_stepOn_15 ?_
    obtain ⟨q11, hq11, hf⟩ := bi_s hf
    refine bk_VI (wf := mw) (q0 := 0) (ci := 11) (rest := []) [.int ((q10.2) 0 14)] C hP hD hS hl.1 (c_X12_byteAt hXo hq11) (cwA_V 1 hts wa_525 wa_522 wa_523 wa_524 wa_5 rfl rfl nd_X12_byteAt ⟨Nat.le_of_ble_eq_true rfl, Nat.le_of_ble_eq_true rfl⟩) rfl rfl rfl rfl (Nat.le_of_ble_eq_true rfl) dX12_stepOn_18 ⟨Nat.le_of_ble_eq_true rfl, Nat.le_of_ble_eq_true rfl⟩ (fun H locs hP hD hS => ?_)
    refine lv_bipush (v := (10 : Int32)) hx hb dX12_stepOn_21 (by decide) ?_
    refine lv_icmp_ne (tgt := 39) hx hb dX12_stepOn_23 (by decide) (fun t23 => ?_) (fun t23 => ?_)
    · have hf := (if_neg t23).symm.trans hf
      cases hf
      exact (k (show ¬ (1 : Nat) = 0 by decide)) H locs ls hP hD hS (lv_sub hl [0] rfl)
    · have hf := (if_pos t23).symm.trans hf
      exact b_X12_stepOn_b26 C hf k0 k H locs ls hP hD hS (lv_sub hl [0] rfl)
theorem lp_X12_stepOn_h0 {N : Nat} {n : Nat} {σ : Sg} {z : Nat × Sg} (C : Cx p s m args meth c cX12_stepOn 2 none RX12 g A X) (hz : it (fun q => s_X12_stepOn_h0 N q) n (σ) = some z) (k : Bk mw p l e rm_X12_stepOn s m args below meth c 2 g A Q 0 0 39 [(0, .ref (g.2.2 0))] [] z.2) : Bk mw p l e rm_X12_stepOn s m args below meth c 2 g A Q 0 0 0 [(0, .ref (g.2.2 0))] [] σ :=
  it_W (S := Sg) (fun q => Bk mw p l e rm_X12_stepOn s m args below meth c 2 g A Q 0 0 0 [(0, .ref (g.2.2 0))] [] q) (fun z => Bk mw p l e rm_X12_stepOn s m args below meth c 2 g A Q 0 0 39 [(0, .ref (g.2.2 0))] [] z.2) (fun q z hq k0 k => e_X12_stepOn_h0 C hq k0 k) n (σ) z hz k
def f_X12_stepOn_b212 (N : Nat) (σ : Sg) : Option (Sg) :=
bd (wr σ 0 19 (σ 0 14)) fun σ12 =>
some σ12
set_option maxHeartbeats 4000000 in
set_option maxRecDepth 100000 in
theorem b_X12_stepOn_b212 {N : Nat} {σ : Sg} {z : Sg} (C : Cx p s m args meth c cX12_stepOn 2 none RX12 g A X) (hf : f_X12_stepOn_b212 N σ = some z) : Bk mw p l e rm_X12_stepOn s m args below meth c 2 g A (MQ below (qV mw g A z) args s 0 0 A) 0 0 212 [(0, .ref (g.2.2 0))] [] σ := by
  obtain ⟨hx, hb, hr, hml, hown, hts, hK, hlocks, hXX, hA, hXo⟩ := id C
  intro H locs ls hP hD hS hl
  unfold f_X12_stepOn_b212 at hf
  refine lv_aload_n hx hb dX12_stepOn_212 rfl (lv_at hl 0 rfl) ?_
  refine lv_aload_n hx hb dX12_stepOn_213 rfl (lv_at hl 0 rfl) ?_
  refine bk_get (wf := mw) (q0 := 0) (ci := 11) (k := 14) (v := .int (σ 0 14)) C hP wl_X12 rfl rfl (by decide) wa_505 rfl rfl dX12_stepOn_214 ?_
  obtain ⟨σ12, eσ12, hf⟩ := bd_s hf
  refine bk_put (wf := mw) (σ1 := σ12) (q0 := 0) (ci := 11) (k := 19) (v := .int (σ 0 14)) C hP hD hS wl_X12 tyX12_ok nmX12 rfl rfl (by decide) wa_521 rfl rfl rfl rfl rfl (Nat.le_of_ble_eq_true rfl) (by rw [eσ12]; exact mw_p0_19 g _ _) dX12_stepOn_217 (fun H locs hP hD hS => ?_)
  cases hf
  exact bk_vret C hP hD hS rfl dX12_stepOn_220
def f_X12_stepOn_b209 (N : Nat) (t1 : Int32) (σ : Sg) : Option (Sg) :=
bd (wr σ 0 16 t1) fun σ13 =>
f_X12_stepOn_b212 N σ13
set_option maxHeartbeats 4000000 in
set_option maxRecDepth 100000 in
theorem b_X12_stepOn_b209 {N : Nat} {t1 : Int32} {σ : Sg} {z : Sg} (C : Cx p s m args meth c cX12_stepOn 2 none RX12 g A X) (hf : f_X12_stepOn_b209 N t1 σ = some z) : Bk mw p l e rm_X12_stepOn s m args below meth c 2 g A (MQ below (qV mw g A z) args s 0 0 A) 0 0 209 [(0, .ref (g.2.2 0))] [.int t1, .ref (g.2.2 0)] σ := by
  obtain ⟨hx, hb, hr, hml, hown, hts, hK, hlocks, hXX, hA, hXo⟩ := id C
  intro H locs ls hP hD hS hl
  unfold f_X12_stepOn_b209 at hf
  obtain ⟨σ13, eσ13, hf⟩ := bd_s hf
  refine bk_put (wf := mw) (σ1 := σ13) (q0 := 0) (ci := 11) (k := 16) (v := .int t1) C hP hD hS wl_X12 tyX12_ok nmX12 rfl rfl (by decide) wa_507 rfl rfl rfl rfl rfl (Nat.le_of_ble_eq_true rfl) (by rw [eσ13]; exact mw_p0_16 g _ _) dX12_stepOn_209 (fun H locs hP hD hS => ?_)
  exact b_X12_stepOn_b212 C hf H locs ls hP hD hS (lv_sub hl [0] rfl)
def f_X12_stepOn (N : Nat) (σ : Sg) : Option (Sg) :=
(it (fun q => s_X12_stepOn_h0 N q) N (σ)).bind fun z14 =>
bd (wr (z14.2) 0 18 ((z14.2) 0 14)) fun σ15 =>
(f_X12_byteAt N (σ15 0 14) σ15).bind fun q16 =>
bd q16.1 fun v17 =>
if v17 = (-1 : Int32) then (bd (wr (q16.2) 0 16 (0 : Int32)) fun σ27 =>
f_X12_stepOn_b212 N σ27)
else ((f_X12_isLetter N v17 (q16.2)).bind fun q18 =>
if q18.1 = 0 then ((f_X12_isDigit N v17 (q18.2)).bind fun q19 =>
if q19.1 = 0 then (bd (wr (q19.2) 0 14 (((q19.2) 0 14) + (1 : Int32))) fun σ20 =>
(f_X12_isMark N v17 σ20).bind fun q21 =>
if q21.1 = 0 then (f_X12_stepOn_b209 N (4 : Int32) (q21.2))
else (f_X12_stepOn_b209 N (3 : Int32) (q21.2)))
else (bd (wr (q19.2) 0 17 (0 : Int32)) fun σ22 =>
(it (fun q => s_X12_stepOn_h123 N q) N (σ22)).bind fun z23 =>
bd (wr (z23.2) 0 16 (2 : Int32)) fun σ24 =>
f_X12_stepOn_b212 N σ24))
else ((it (fun q => s_X12_stepOn_h76 N q) N ((q18.2))).bind fun z25 =>
bd (wr (z25.2) 0 16 (1 : Int32)) fun σ26 =>
f_X12_stepOn_b212 N σ26))
set_option maxHeartbeats 4000000 in
set_option maxRecDepth 100000 in
theorem b_X12_stepOn {N : Nat} {σ : Sg} {z : Sg} (C : Cx p s m args meth c cX12_stepOn 2 none RX12 g A X) (hf : f_X12_stepOn N σ = some z) : Bk mw p l e rm_X12_stepOn s m args below meth c 2 g A (MQ below (qV mw g A z) args s 0 0 A) 0 0 0 [(0, .ref (g.2.2 0))] [] σ := by
  obtain ⟨hx, hb, hr, hml, hown, hts, hK, hlocks, hXX, hA, hXo⟩ := id C
  intro H locs ls hP hD hS hl
  unfold f_X12_stepOn at hf
  obtain ⟨z14, hz14, hf⟩ := bi_s hf
  refine lp_X12_stepOn_h0 C hz14 ?_ H locs ls hP hD hS (lv_sub hl [0] rfl)
  intro H locs ls hP hD hS hl
  refine lv_aload_n hx hb dX12_stepOn_39 rfl (lv_at hl 0 rfl) ?_
  refine lv_aload_n hx hb dX12_stepOn_40 rfl (lv_at hl 0 rfl) ?_
  refine bk_get (wf := mw) (q0 := 0) (ci := 11) (k := 14) (v := .int ((z14.2) 0 14)) C hP wl_X12 rfl rfl (by decide) wa_505 rfl rfl dX12_stepOn_41 ?_
  obtain ⟨σ15, eσ15, hf⟩ := bd_s hf
  refine bk_put (wf := mw) (σ1 := σ15) (q0 := 0) (ci := 11) (k := 18) (v := .int ((z14.2) 0 14)) C hP hD hS wl_X12 tyX12_ok nmX12 rfl rfl (by decide) wa_517 rfl rfl rfl rfl rfl (Nat.le_of_ble_eq_true rfl) (by rw [eσ15]; exact mw_p0_18 g _ _) dX12_stepOn_44 (fun H locs hP hD hS => ?_)
  refine lv_aload_n hx hb dX12_stepOn_47 rfl (lv_at hl 0 rfl) ?_
  refine lv_aload_n hx hb dX12_stepOn_48 rfl (lv_at hl 0 rfl) ?_
  refine bk_get (wf := mw) (q0 := 0) (ci := 11) (k := 14) (v := .int (σ15 0 14)) C hP wl_X12 rfl rfl (by decide) wa_505 rfl rfl dX12_stepOn_49 ?_
  obtain ⟨q16, hq16, hf⟩ := bi_s hf
  refine bk_VI (wf := mw) (q0 := 0) (ci := 11) (rest := []) [.int (σ15 0 14)] C hP hD hS hl.1 (c_X12_byteAt hXo hq16) (cwA_V 1 hts wa_525 wa_522 wa_523 wa_524 wa_5 rfl rfl nd_X12_byteAt ⟨Nat.le_of_ble_eq_true rfl, Nat.le_of_ble_eq_true rfl⟩) rfl rfl rfl rfl (Nat.le_of_ble_eq_true rfl) dX12_stepOn_52 ⟨Nat.le_of_ble_eq_true rfl, Nat.le_of_ble_eq_true rfl⟩ (fun H locs hP hD hS => ?_)
  obtain ⟨v17, ev17, hf⟩ := bd_s hf
  rw [← ev17]
  refine lv_istore_n (lv' := [(1, .int v17), (0, .ref (g.2.2 0))]) hx hb dX12_stepOn_55 rfl hl (by decide) rfl (fun ls hl => ?_)
  refine lv_iload_n hx hb dX12_stepOn_56 rfl (lv_at hl 0 rfl) ?_
  refine lv_iconst (v := (-1 : Int32)) hx hb dX12_stepOn_57 (by decide) ?_
  refine lv_icmp_ne (tgt := 69) hx hb dX12_stepOn_58 (by decide) (fun t58 => ?_) (fun t58 => ?_)
  · have hf := (if_neg t58).symm.trans hf
    refine lv_iload_n hx hb dX12_stepOn_69 rfl (lv_at hl 0 rfl) ?_
    obtain ⟨q18, hq18, hf⟩ := bi_s hf
    refine bk_SI (wf := mw) (rest := []) [.int v17] C hP hD hS hl.1 (c_X12_isLetter hXo hq18) (cwA_S 1 hts wa_528 wa_526 wa_527 wa_5 rfl rfl nd_X12_isLetter ⟨Nat.le_of_ble_eq_true rfl, Nat.le_of_ble_eq_true rfl⟩) rfl rfl (Nat.le_of_ble_eq_true rfl) dX12_stepOn_70 ⟨Nat.le_of_ble_eq_true rfl, Nat.le_of_ble_eq_true rfl⟩ (fun H locs hP hD hS => ?_)
    refine lv_if_eq (tgt := 111) hx hb dX12_stepOn_73 (by decide) (fun t73 => ?_) (fun t73 => ?_)
    · have hf := (if_pos t73).symm.trans hf
      refine lv_iload_n hx hb dX12_stepOn_111 rfl (lv_at hl 0 rfl) ?_
      obtain ⟨q19, hq19, hf⟩ := bi_s hf
      refine bk_SI (wf := mw) (rest := []) [.int v17] C hP hD hS hl.1 (c_X12_isDigit hXo hq19) (cwA_S 1 hts wa_531 wa_529 wa_530 wa_5 rfl rfl nd_X12_isDigit ⟨Nat.le_of_ble_eq_true rfl, Nat.le_of_ble_eq_true rfl⟩) rfl rfl (Nat.le_of_ble_eq_true rfl) dX12_stepOn_112 ⟨Nat.le_of_ble_eq_true rfl, Nat.le_of_ble_eq_true rfl⟩ (fun H locs hP hD hS => ?_)
      refine lv_if_eq (tgt := 186) hx hb dX12_stepOn_115 (by decide) (fun t115 => ?_) (fun t115 => ?_)
      · have hf := (if_pos t115).symm.trans hf
        refine lv_aload_n hx hb dX12_stepOn_186 rfl (lv_at hl 1 rfl) ?_
        refine lv_dup hx hb dX12_stepOn_187 rfl ?_
        refine bk_get (wf := mw) (q0 := 0) (ci := 11) (k := 14) (v := .int ((q19.2) 0 14)) C hP wl_X12 rfl rfl (by decide) wa_505 rfl rfl dX12_stepOn_188 ?_
        refine lv_iconst (v := (1 : Int32)) hx hb dX12_stepOn_191 (by decide) ?_
        refine lv_iadd hx hb dX12_stepOn_192 ?_
        obtain ⟨σ20, eσ20, hf⟩ := bd_s hf
        refine bk_put (wf := mw) (σ1 := σ20) (q0 := 0) (ci := 11) (k := 14) (v := .int (((q19.2) 0 14) + (1 : Int32))) C hP hD hS wl_X12 tyX12_ok nmX12 rfl rfl (by decide) wa_505 rfl rfl rfl rfl rfl (Nat.le_of_ble_eq_true rfl) (by rw [eσ20]; exact mw_p0_14 g _ _) dX12_stepOn_193 (fun H locs hP hD hS => ?_)
        refine lv_aload_n hx hb dX12_stepOn_196 rfl (lv_at hl 1 rfl) ?_
        refine lv_iload_n hx hb dX12_stepOn_197 rfl (lv_at hl 0 rfl) ?_
        obtain ⟨q21, hq21, hf⟩ := bi_s hf
        refine bk_SI (wf := mw) (rest := [.ref (g.2.2 0)]) [.int v17] C hP hD hS hl.1 (c_X12_isMark hXo hq21) (cwA_S 1 hts wa_534 wa_532 wa_533 wa_5 rfl rfl nd_X12_isMark ⟨Nat.le_of_ble_eq_true rfl, Nat.le_of_ble_eq_true rfl⟩) rfl rfl (Nat.le_of_ble_eq_true rfl) dX12_stepOn_198 ⟨Nat.le_of_ble_eq_true rfl, Nat.le_of_ble_eq_true rfl⟩ (fun H locs hP hD hS => ?_)
        refine lv_if_eq (tgt := 208) hx hb dX12_stepOn_201 (by decide) (fun t201 => ?_) (fun t201 => ?_)
        · have hf := (if_pos t201).symm.trans hf
          refine lv_iconst (v := (4 : Int32)) hx hb dX12_stepOn_208 (by decide) ?_
          exact b_X12_stepOn_b209 C hf H locs ls hP hD hS (lv_sub hl [1] rfl)
        · have hf := (if_neg t201).symm.trans hf
          refine lv_iconst (v := (3 : Int32)) hx hb dX12_stepOn_204 (by decide) ?_
          refine lv_goto (tgt := 209) hx hb dX12_stepOn_205 (by decide) ?_
          exact b_X12_stepOn_b209 C hf H locs ls hP hD hS (lv_sub hl [1] rfl)
      · have hf := (if_neg t115).symm.trans hf
        refine lv_aload_n hx hb dX12_stepOn_118 rfl (lv_at hl 1 rfl) ?_
        refine lv_iconst (v := (0 : Int32)) hx hb dX12_stepOn_119 (by decide) ?_
        obtain ⟨σ22, eσ22, hf⟩ := bd_s hf
        refine bk_put (wf := mw) (σ1 := σ22) (q0 := 0) (ci := 11) (k := 17) (v := .int (0 : Int32)) C hP hD hS wl_X12 tyX12_ok nmX12 rfl rfl (by decide) wa_518 rfl rfl rfl rfl rfl (Nat.le_of_ble_eq_true rfl) (by rw [eσ22]; exact mw_p0_17 g _ _) dX12_stepOn_120 (fun H locs hP hD hS => ?_)
        obtain ⟨z23, hz23, hf⟩ := bi_s hf
        refine lp_X12_stepOn_h123 C hz23 ?_ H locs ls hP hD hS (lv_sub hl [1] rfl)
        intro H locs ls hP hD hS hl
        refine lv_aload_n hx hb dX12_stepOn_178 rfl (lv_at hl 0 rfl) ?_
        refine lv_iconst (v := (2 : Int32)) hx hb dX12_stepOn_179 (by decide) ?_
        obtain ⟨σ24, eσ24, hf⟩ := bd_s hf
        refine bk_put (wf := mw) (σ1 := σ24) (q0 := 0) (ci := 11) (k := 16) (v := .int (2 : Int32)) C hP hD hS wl_X12 tyX12_ok nmX12 rfl rfl (by decide) wa_507 rfl rfl rfl rfl rfl (Nat.le_of_ble_eq_true rfl) (by rw [eσ24]; exact mw_p0_16 g _ _) dX12_stepOn_180 (fun H locs hP hD hS => ?_)
        refine lv_goto (tgt := 212) hx hb dX12_stepOn_183 (by decide) ?_
        exact b_X12_stepOn_b212 C hf H locs ls hP hD hS (lv_sub hl [0] rfl)
    · have hf := (if_neg t73).symm.trans hf
      obtain ⟨z25, hz25, hf⟩ := bi_s hf
      refine lp_X12_stepOn_h76 C hz25 ?_ H locs ls hP hD hS (lv_sub hl [1] rfl)
      intro H locs ls hP hD hS hl
      refine lv_aload_n hx hb dX12_stepOn_103 rfl (lv_at hl 0 rfl) ?_
      refine lv_iconst (v := (1 : Int32)) hx hb dX12_stepOn_104 (by decide) ?_
      obtain ⟨σ26, eσ26, hf⟩ := bd_s hf
      refine bk_put (wf := mw) (σ1 := σ26) (q0 := 0) (ci := 11) (k := 16) (v := .int (1 : Int32)) C hP hD hS wl_X12 tyX12_ok nmX12 rfl rfl (by decide) wa_507 rfl rfl rfl rfl rfl (Nat.le_of_ble_eq_true rfl) (by rw [eσ26]; exact mw_p0_16 g _ _) dX12_stepOn_105 (fun H locs hP hD hS => ?_)
      refine lv_goto (tgt := 212) hx hb dX12_stepOn_108 (by decide) ?_
      exact b_X12_stepOn_b212 C hf H locs ls hP hD hS (lv_sub hl [0] rfl)
  · have hf := (if_pos t58).symm.trans hf
    refine lv_aload_n hx hb dX12_stepOn_61 rfl (lv_at hl 1 rfl) ?_
    refine lv_iconst (v := (0 : Int32)) hx hb dX12_stepOn_62 (by decide) ?_
    obtain ⟨σ27, eσ27, hf⟩ := bd_s hf
    refine bk_put (wf := mw) (σ1 := σ27) (q0 := 0) (ci := 11) (k := 16) (v := .int (0 : Int32)) C hP hD hS wl_X12 tyX12_ok nmX12 rfl rfl (by decide) wa_507 rfl rfl rfl rfl rfl (Nat.le_of_ble_eq_true rfl) (by rw [eσ27]; exact mw_p0_16 g _ _) dX12_stepOn_63 (fun H locs hP hD hS => ?_)
    refine lv_goto (tgt := 212) hx hb dX12_stepOn_66 (by decide) ?_
    exact b_X12_stepOn_b212 C hf H locs ls hP hD hS (lv_sub hl [1] rfl)
theorem c_X12_stepOn {N : Nat} {σ : Sg} {z : Sg} (hX : xOK g X) (hf : f_X12_stepOn N σ = some z) : MetV l yX12_stepOn (Cond.code yX12_stepOn cX12_stepOn 2 none :: wsA) rm_X12_stepOn mw g X [.ref (g.2.2 0)] σ z :=
  MetV_of hX (by decide) (Nat.le_of_ble_eq_true rfl) (fun p e s m args below meth c A C => b_X12_stepOn C hf)
-- X12_wrong: wrong(I)V
abbrev rm_X12_wrong : Room := { frames := 0, cells := 0, slots := 0, locals := 0 }
theorem nd_X12_wrong : yX12_wrong.cls ≠ "java/lang/invoke/MethodHandle" ∧ yX12_wrong.cls ≠ "java/lang/invoke/VarHandle" ∧ (parseMethodDescriptor yX12_wrong.desc).map (fun d => d.parameters.length) = some 1 := by decide +kernel
def f_X12_wrong (N : Nat) (x1 : Int32) (σ : Sg) : Option (Sg) :=
if (σ 0 20) = 0 then (bd (wr σ 0 20 x1) fun σ1 =>
bd (wr σ1 0 21 (σ1 0 18)) fun σ2 =>
some σ2)
else (some σ)
set_option maxHeartbeats 4000000 in
set_option maxRecDepth 100000 in
theorem b_X12_wrong {N : Nat} {x1 : Int32} {σ : Sg} {z : Sg} (C : Cx p s m args meth c cX12_wrong 2 none RX12 g A X) (hf : f_X12_wrong N x1 σ = some z) : Bk mw p l e rm_X12_wrong s m args below meth c 2 g A (MQ below (qV mw g A z) args s 0 0 A) 0 0 0 [(0, .ref (g.2.2 0)), (1, .int x1)] [] σ := by
  obtain ⟨hx, hb, hr, hml, hown, hts, hK, hlocks, hXX, hA, hXo⟩ := id C
  intro H locs ls hP hD hS hl
  unfold f_X12_wrong at hf
  refine lv_aload_n hx hb dX12_wrong_0 rfl (lv_at hl 0 rfl) ?_
  refine bk_get (wf := mw) (q0 := 0) (ci := 11) (k := 20) (v := .int (σ 0 20)) C hP wl_X12 rfl rfl (by decide) wa_506 rfl rfl dX12_wrong_1 ?_
  refine lv_if_eq (tgt := 8) hx hb dX12_wrong_4 (by decide) (fun t4 => ?_) (fun t4 => ?_)
  · have hf := (if_pos t4).symm.trans hf
    refine lv_aload_n hx hb dX12_wrong_8 rfl (lv_at hl 0 rfl) ?_
    refine lv_iload_n hx hb dX12_wrong_9 rfl (lv_at hl 1 rfl) ?_
    obtain ⟨σ1, eσ1, hf⟩ := bd_s hf
    refine bk_put (wf := mw) (σ1 := σ1) (q0 := 0) (ci := 11) (k := 20) (v := .int x1) C hP hD hS wl_X12 tyX12_ok nmX12 rfl rfl (by decide) wa_506 rfl rfl rfl rfl rfl (Nat.le_of_ble_eq_true rfl) (by rw [eσ1]; exact mw_p0_20 g _ _) dX12_wrong_10 (fun H locs hP hD hS => ?_)
    refine lv_aload_n hx hb dX12_wrong_13 rfl (lv_at hl 0 rfl) ?_
    refine lv_aload_n hx hb dX12_wrong_14 rfl (lv_at hl 0 rfl) ?_
    refine bk_get (wf := mw) (q0 := 0) (ci := 11) (k := 18) (v := .int (σ1 0 18)) C hP wl_X12 rfl rfl (by decide) wa_517 rfl rfl dX12_wrong_15 ?_
    obtain ⟨σ2, eσ2, hf⟩ := bd_s hf
    refine bk_put (wf := mw) (σ1 := σ2) (q0 := 0) (ci := 11) (k := 21) (v := .int (σ1 0 18)) C hP hD hS wl_X12 tyX12_ok nmX12 rfl rfl (by decide) wa_508 rfl rfl rfl rfl rfl (Nat.le_of_ble_eq_true rfl) (by rw [eσ2]; exact mw_p0_21 g _ _) dX12_wrong_18 (fun H locs hP hD hS => ?_)
    cases hf
    exact bk_vret C hP hD hS rfl dX12_wrong_21
  · have hf := (if_neg t4).symm.trans hf
    cases hf
    exact bk_vret C hP hD hS rfl dX12_wrong_7
theorem c_X12_wrong {N : Nat} {x1 : Int32} {σ : Sg} {z : Sg} (hX : xOK g X) (hf : f_X12_wrong N x1 σ = some z) : MetV l yX12_wrong (Cond.code yX12_wrong cX12_wrong 2 none :: wsA) rm_X12_wrong mw g X [.ref (g.2.2 0), .int x1] σ z :=
  MetV_of hX (by decide) (Nat.le_of_ble_eq_true rfl) (fun p e s m args below meth c A C => b_X12_wrong C hf)
-- X12_isMarked: isMarked(I)Z
abbrev rm_X12_isMarked : Room := { frames := 0, cells := 0, slots := 0, locals := 0 }
theorem nd_X12_isMarked : yX12_isMarked.cls ≠ "java/lang/invoke/MethodHandle" ∧ yX12_isMarked.cls ≠ "java/lang/invoke/VarHandle" ∧ (parseMethodDescriptor yX12_isMarked.desc).map (fun d => d.parameters.length) = some 1 := by decide +kernel
def f_X12_isMarked_b32 (N : Nat) (σ : Sg) : Option (Int32 × Sg) :=
some ((0 : Int32), σ)
set_option maxHeartbeats 4000000 in
set_option maxRecDepth 100000 in
theorem b_X12_isMarked_b32 {N : Nat} {σ : Sg} {z : Int32 × Sg} (C : Cx p s m args meth c cX12_isMarked 2 (some .boolean) RX12 g A X) (hf : f_X12_isMarked_b32 N σ = some z) : Bk mw p l e rm_X12_isMarked s m args below meth c 2 g A (MQ below (qI mw g A z.1 z.2) args s 0 0 A) 0 0 32 [] [] σ := by
  obtain ⟨hx, hb, hr, hml, hown, hts, hK, hlocks, hXX, hA, hXo⟩ := id C
  intro H locs ls hP hD hS hl
  unfold f_X12_isMarked_b32 at hf
  refine lv_iconst (v := (0 : Int32)) hx hb dX12_isMarked_32 (by decide) ?_
  cases hf
  exact bk_zret C hP hD hS (by decide) rfl dX12_isMarked_33
def f_X12_isMarked (N : Nat) (x1 : Int32) (σ : Sg) : Option (Int32 × Sg) :=
if (σ 0 20) = 0 then (if (σ 0 16) = (3 : Int32) then (if ((σ 0 18) < 0 ∨ 700 ≤ (σ 0 18).toNatClampNeg) then none else
if (σ 12 (σ 0 18).toNatClampNeg) = x1 then (some ((1 : Int32), σ))
else (f_X12_isMarked_b32 N σ))
else (f_X12_isMarked_b32 N σ))
else (f_X12_isMarked_b32 N σ)
set_option maxHeartbeats 4000000 in
set_option maxRecDepth 100000 in
theorem b_X12_isMarked {N : Nat} {x1 : Int32} {σ : Sg} {z : Int32 × Sg} (C : Cx p s m args meth c cX12_isMarked 2 (some .boolean) RX12 g A X) (hf : f_X12_isMarked N x1 σ = some z) : Bk mw p l e rm_X12_isMarked s m args below meth c 2 g A (MQ below (qI mw g A z.1 z.2) args s 0 0 A) 0 0 0 [(0, .ref (g.2.2 0)), (1, .int x1)] [] σ := by
  obtain ⟨hx, hb, hr, hml, hown, hts, hK, hlocks, hXX, hA, hXo⟩ := id C
  intro H locs ls hP hD hS hl
  unfold f_X12_isMarked at hf
  refine lv_aload_n hx hb dX12_isMarked_0 rfl (lv_at hl 0 rfl) ?_
  refine bk_get (wf := mw) (q0 := 0) (ci := 11) (k := 20) (v := .int (σ 0 20)) C hP wl_X12 rfl rfl (by decide) wa_506 rfl rfl dX12_isMarked_1 ?_
  refine lv_if_ne (tgt := 32) hx hb dX12_isMarked_4 (by decide) (fun t4 => ?_) (fun t4 => ?_)
  · have hf := (if_neg t4).symm.trans hf
    exact b_X12_isMarked_b32 C hf H locs ls hP hD hS (lv_sub hl [] rfl)
  · have hf := (if_pos t4).symm.trans hf
    refine lv_aload_n hx hb dX12_isMarked_7 rfl (lv_at hl 0 rfl) ?_
    refine bk_get (wf := mw) (q0 := 0) (ci := 11) (k := 16) (v := .int (σ 0 16)) C hP wl_X12 rfl rfl (by decide) wa_507 rfl rfl dX12_isMarked_8 ?_
    refine lv_iconst (v := (3 : Int32)) hx hb dX12_isMarked_11 (by decide) ?_
    refine lv_icmp_ne (tgt := 32) hx hb dX12_isMarked_12 (by decide) (fun t12 => ?_) (fun t12 => ?_)
    · have hf := (if_neg t12).symm.trans hf
      exact b_X12_isMarked_b32 C hf H locs ls hP hD hS (lv_sub hl [] rfl)
    · have hf := (if_pos t12).symm.trans hf
      refine lv_aload_n hx hb dX12_isMarked_15 rfl (lv_at hl 0 rfl) ?_
      refine bk_get (wf := mw) (q0 := 0) (ci := 11) (k := 12) (v := .ref (g.2.2 12)) C hP wl_X12 rfl rfl (by decide) wa_166 rfl rfl dX12_isMarked_16 ?_
      refine lv_aload_n hx hb dX12_isMarked_19 rfl (lv_at hl 0 rfl) ?_
      refine bk_get (wf := mw) (q0 := 0) (ci := 11) (k := 18) (v := .int (σ 0 18)) C hP wl_X12 rfl rfl (by decide) wa_517 rfl rfl dX12_isMarked_20 ?_
      obtain ⟨g1, hf⟩ := gd_s hf
      refine bk_iald (wf := mw) (q0 := 12) (n := 700) (j := (σ 0 18).toNatClampNeg) C hP rfl g1 rfl dX12_isMarked_23 ?_
      refine lv_iload_n hx hb dX12_isMarked_24 rfl (lv_at hl 1 rfl) ?_
      refine lv_icmp_ne (tgt := 32) hx hb dX12_isMarked_25 (by decide) (fun t25 => ?_) (fun t25 => ?_)
      · have hf := (if_neg t25).symm.trans hf
        exact b_X12_isMarked_b32 C hf H locs ls hP hD hS (lv_sub hl [] rfl)
      · have hf := (if_pos t25).symm.trans hf
        refine lv_iconst (v := (1 : Int32)) hx hb dX12_isMarked_28 (by decide) ?_
        refine lv_goto (tgt := 33) hx hb dX12_isMarked_29 (by decide) ?_
        cases hf
        exact bk_zret C hP hD hS (by decide) rfl dX12_isMarked_33
theorem c_X12_isMarked {N : Nat} {x1 : Int32} {σ : Sg} {z : Int32 × Sg} (hX : xOK g X) (hf : f_X12_isMarked N x1 σ = some z) : MetI l yX12_isMarked (Cond.code yX12_isMarked cX12_isMarked 2 (some .boolean) :: wsA) rm_X12_isMarked mw g X [.ref (g.2.2 0), .int x1] σ z.1 z.2 :=
  MetI_of hX (by decide) (Nat.le_of_ble_eq_true rfl) (fun p e s m args below meth c A C => b_X12_isMarked C hf)
-- X12_mark: mark(I)V
abbrev rm_X12_mark : Room := { frames := 2, cells := 0, slots := 0, locals := 45 }
theorem nd_X12_mark : yX12_mark.cls ≠ "java/lang/invoke/MethodHandle" ∧ yX12_mark.cls ≠ "java/lang/invoke/VarHandle" ∧ (parseMethodDescriptor yX12_mark.desc).map (fun d => d.parameters.length) = some 1 := by decide +kernel
def f_X12_mark_b20 (N : Nat) (σ : Sg) : Option (Sg) :=
if (σ 0 20) = 0 then ((f_X12_stepOn N σ).bind fun q1 =>
some q1)
else (some σ)
set_option maxHeartbeats 4000000 in
set_option maxRecDepth 100000 in
theorem b_X12_mark_b20 {N : Nat} {σ : Sg} {z : Sg} (C : Cx p s m args meth c cX12_mark 2 none RX12 g A X) (hf : f_X12_mark_b20 N σ = some z) : Bk mw p l e rm_X12_mark s m args below meth c 2 g A (MQ below (qV mw g A z) args s 0 0 A) 0 0 20 [(0, .ref (g.2.2 0))] [] σ := by
  obtain ⟨hx, hb, hr, hml, hown, hts, hK, hlocks, hXX, hA, hXo⟩ := id C
  intro H locs ls hP hD hS hl
  unfold f_X12_mark_b20 at hf
  refine lv_aload_n hx hb dX12_mark_20 rfl (lv_at hl 0 rfl) ?_
  refine bk_get (wf := mw) (q0 := 0) (ci := 11) (k := 20) (v := .int (σ 0 20)) C hP wl_X12 rfl rfl (by decide) wa_506 rfl rfl dX12_mark_21 ?_
  refine lv_if_ne (tgt := 31) hx hb dX12_mark_24 (by decide) (fun t24 => ?_) (fun t24 => ?_)
  · have hf := (if_neg t24).symm.trans hf
    cases hf
    exact bk_vret C hP hD hS rfl dX12_mark_31
  · have hf := (if_pos t24).symm.trans hf
    refine lv_aload_n hx hb dX12_mark_27 rfl (lv_at hl 0 rfl) ?_
    obtain ⟨q1, hq1, hf⟩ := bi_s hf
    refine bk_VV (wf := mw) (q0 := 0) (ci := 11) (rest := []) [] C hP hD hS hl.1 (c_X12_stepOn hXo hq1) (cwA_V 0 hts wa_516 wa_513 wa_514 wa_515 wa_5 rfl rfl nd_X12_stepOn ⟨Nat.le_of_ble_eq_true rfl, Nat.le_of_ble_eq_true rfl⟩) rfl rfl rfl rfl (Nat.le_of_ble_eq_true rfl) dX12_mark_28 ⟨Nat.le_of_ble_eq_true rfl, Nat.le_of_ble_eq_true rfl⟩ (fun H locs hP hD hS => ?_)
    cases hf
    exact bk_vret C hP hD hS rfl dX12_mark_31
def f_X12_mark (N : Nat) (x1 : Int32) (σ : Sg) : Option (Sg) :=
if (σ 0 20) = 0 then ((f_X12_isMarked N x1 σ).bind fun q2 =>
if q2.1 = 0 then ((f_X12_wrong N (1 : Int32) (q2.2)).bind fun q3 =>
f_X12_mark_b20 N q3)
else (f_X12_mark_b20 N (q2.2)))
else (f_X12_mark_b20 N σ)
set_option maxHeartbeats 4000000 in
set_option maxRecDepth 100000 in
theorem b_X12_mark {N : Nat} {x1 : Int32} {σ : Sg} {z : Sg} (C : Cx p s m args meth c cX12_mark 2 none RX12 g A X) (hf : f_X12_mark N x1 σ = some z) : Bk mw p l e rm_X12_mark s m args below meth c 2 g A (MQ below (qV mw g A z) args s 0 0 A) 0 0 0 [(0, .ref (g.2.2 0)), (1, .int x1)] [] σ := by
  obtain ⟨hx, hb, hr, hml, hown, hts, hK, hlocks, hXX, hA, hXo⟩ := id C
  intro H locs ls hP hD hS hl
  unfold f_X12_mark at hf
  refine lv_aload_n hx hb dX12_mark_0 rfl (lv_at hl 0 rfl) ?_
  refine bk_get (wf := mw) (q0 := 0) (ci := 11) (k := 20) (v := .int (σ 0 20)) C hP wl_X12 rfl rfl (by decide) wa_506 rfl rfl dX12_mark_1 ?_
  refine lv_if_ne (tgt := 20) hx hb dX12_mark_4 (by decide) (fun t4 => ?_) (fun t4 => ?_)
  · have hf := (if_neg t4).symm.trans hf
    exact b_X12_mark_b20 C hf H locs ls hP hD hS (lv_sub hl [0] rfl)
  · have hf := (if_pos t4).symm.trans hf
    refine lv_aload_n hx hb dX12_mark_7 rfl (lv_at hl 0 rfl) ?_
    refine lv_iload_n hx hb dX12_mark_8 rfl (lv_at hl 1 rfl) ?_
    obtain ⟨q2, hq2, hf⟩ := bi_s hf
    refine bk_VI (wf := mw) (q0 := 0) (ci := 11) (rest := []) [.int x1] C hP hD hS hl.1 (c_X12_isMarked hXo hq2) (cwA_V 1 hts wa_576 wa_573 wa_574 wa_575 wa_5 rfl rfl nd_X12_isMarked ⟨Nat.le_of_ble_eq_true rfl, Nat.le_of_ble_eq_true rfl⟩) rfl rfl rfl rfl (Nat.le_of_ble_eq_true rfl) dX12_mark_9 ⟨Nat.le_of_ble_eq_true rfl, Nat.le_of_ble_eq_true rfl⟩ (fun H locs hP hD hS => ?_)
    refine lv_if_ne (tgt := 20) hx hb dX12_mark_12 (by decide) (fun t12 => ?_) (fun t12 => ?_)
    · have hf := (if_neg t12).symm.trans hf
      exact b_X12_mark_b20 C hf H locs ls hP hD hS (lv_sub hl [0] rfl)
    · have hf := (if_pos t12).symm.trans hf
      refine lv_aload_n hx hb dX12_mark_15 rfl (lv_at hl 0 rfl) ?_
      refine lv_iconst (v := (1 : Int32)) hx hb dX12_mark_16 (by decide) ?_
      obtain ⟨q3, hq3, hf⟩ := bi_s hf
      refine bk_VV (wf := mw) (q0 := 0) (ci := 11) (rest := []) [.int (1 : Int32)] C hP hD hS hl.1 (c_X12_wrong hXo hq3) (cwA_V 1 hts wa_552 wa_549 wa_550 wa_551 wa_5 rfl rfl nd_X12_wrong ⟨Nat.le_of_ble_eq_true rfl, Nat.le_of_ble_eq_true rfl⟩) rfl rfl rfl rfl (Nat.le_of_ble_eq_true rfl) dX12_mark_17 ⟨Nat.le_of_ble_eq_true rfl, Nat.le_of_ble_eq_true rfl⟩ (fun H locs hP hD hS => ?_)
      exact b_X12_mark_b20 C hf H locs ls hP hD hS (lv_sub hl [0] rfl)
theorem c_X12_mark {N : Nat} {x1 : Int32} {σ : Sg} {z : Sg} (hX : xOK g X) (hf : f_X12_mark N x1 σ = some z) : MetV l yX12_mark (Cond.code yX12_mark cX12_mark 2 none :: wsA) rm_X12_mark mw g X [.ref (g.2.2 0), .int x1] σ z :=
  MetV_of hX (by decide) (Nat.le_of_ble_eq_true rfl) (fun p e s m args below meth c A C => b_X12_mark C hf)
-- X12_numberNow: numberNow(II)I
abbrev rm_X12_numberNow : Room := { frames := 1, cells := 0, slots := 0, locals := 21 }
theorem nd_X12_numberNow : yX12_numberNow.cls ≠ "java/lang/invoke/MethodHandle" ∧ yX12_numberNow.cls ≠ "java/lang/invoke/VarHandle" ∧ (parseMethodDescriptor yX12_numberNow.desc).map (fun d => d.parameters.length) = some 2 := by decide +kernel
def f_X12_numberNow_b59 (N : Nat) (σ : Sg) : Option (Int32 × Sg) :=
if (σ 0 20) = 0 then (some ((σ 0 17), σ))
else (some ((0 : Int32), σ))
set_option maxHeartbeats 4000000 in
set_option maxRecDepth 100000 in
theorem b_X12_numberNow_b59 {N : Nat} {σ : Sg} {z : Int32 × Sg} (C : Cx p s m args meth c cX12_numberNow 3 (some .int) RX12 g A X) (hf : f_X12_numberNow_b59 N σ = some z) : Bk mw p l e rm_X12_numberNow s m args below meth c 3 g A (MQ below (qI mw g A z.1 z.2) args s 0 0 A) 0 0 59 [(0, .ref (g.2.2 0))] [] σ := by
  obtain ⟨hx, hb, hr, hml, hown, hts, hK, hlocks, hXX, hA, hXo⟩ := id C
  intro H locs ls hP hD hS hl
  unfold f_X12_numberNow_b59 at hf
  refine lv_aload_n hx hb dX12_numberNow_59 rfl (lv_at hl 0 rfl) ?_
  refine bk_get (wf := mw) (q0 := 0) (ci := 11) (k := 20) (v := .int (σ 0 20)) C hP wl_X12 rfl rfl (by decide) wa_506 rfl rfl dX12_numberNow_60 ?_
  refine lv_if_ne (tgt := 73) hx hb dX12_numberNow_63 (by decide) (fun t63 => ?_) (fun t63 => ?_)
  · have hf := (if_neg t63).symm.trans hf
    refine lv_iconst (v := (0 : Int32)) hx hb dX12_numberNow_73 (by decide) ?_
    cases hf
    exact bk_iret C hP hD hS rfl dX12_numberNow_74
  · have hf := (if_pos t63).symm.trans hf
    refine lv_aload_n hx hb dX12_numberNow_66 rfl (lv_at hl 0 rfl) ?_
    refine bk_get (wf := mw) (q0 := 0) (ci := 11) (k := 17) (v := .int (σ 0 17)) C hP wl_X12 rfl rfl (by decide) wa_518 rfl rfl dX12_numberNow_67 ?_
    refine lv_goto (tgt := 74) hx hb dX12_numberNow_70 (by decide) ?_
    cases hf
    exact bk_iret C hP hD hS rfl dX12_numberNow_74
def f_X12_numberNow_b54 (N : Nat) (σ : Sg) : Option (Int32 × Sg) :=
(f_X12_wrong N (2 : Int32) σ).bind fun q1 =>
f_X12_numberNow_b59 N q1
set_option maxHeartbeats 4000000 in
set_option maxRecDepth 100000 in
theorem b_X12_numberNow_b54 {N : Nat} {σ : Sg} {z : Int32 × Sg} (C : Cx p s m args meth c cX12_numberNow 3 (some .int) RX12 g A X) (hf : f_X12_numberNow_b54 N σ = some z) : Bk mw p l e rm_X12_numberNow s m args below meth c 3 g A (MQ below (qI mw g A z.1 z.2) args s 0 0 A) 0 0 54 [(0, .ref (g.2.2 0))] [] σ := by
  obtain ⟨hx, hb, hr, hml, hown, hts, hK, hlocks, hXX, hA, hXo⟩ := id C
  intro H locs ls hP hD hS hl
  unfold f_X12_numberNow_b54 at hf
  refine lv_aload_n hx hb dX12_numberNow_54 rfl (lv_at hl 0 rfl) ?_
  refine lv_iconst (v := (2 : Int32)) hx hb dX12_numberNow_55 (by decide) ?_
  obtain ⟨q1, hq1, hf⟩ := bi_s hf
  refine bk_VV (wf := mw) (q0 := 0) (ci := 11) (rest := []) [.int (2 : Int32)] C hP hD hS hl.1 (c_X12_wrong hXo hq1) (cwA_V 1 hts wa_552 wa_549 wa_550 wa_551 wa_5 rfl rfl nd_X12_wrong ⟨Nat.le_of_ble_eq_true rfl, Nat.le_of_ble_eq_true rfl⟩) rfl rfl rfl rfl (Nat.le_of_ble_eq_true rfl) dX12_numberNow_56 ⟨Nat.le_of_ble_eq_true rfl, Nat.le_of_ble_eq_true rfl⟩ (fun H locs hP hD hS => ?_)
  exact b_X12_numberNow_b59 C hf H locs ls hP hD hS (lv_sub hl [0] rfl)
def f_X12_numberNow (N : Nat) (x1 : Int32) (x2 : Int32) (σ : Sg) : Option (Int32 × Sg) :=
if (σ 0 20) = 0 then (if (σ 0 16) = (2 : Int32) then (if (4 : Int32) < ((σ 0 19) - (σ 0 18)) then (f_X12_numberNow_b54 N σ)
else (if (σ 0 17) < x1 then (f_X12_numberNow_b54 N σ)
else (if (σ 0 17) ≤ x2 then (f_X12_numberNow_b59 N σ)
else (f_X12_numberNow_b54 N σ))))
else ((f_X12_wrong N (1 : Int32) σ).bind fun q2 =>
f_X12_numberNow_b59 N q2))
else (some ((0 : Int32), σ))
set_option maxHeartbeats 4000000 in
set_option maxRecDepth 100000 in
theorem b_X12_numberNow {N : Nat} {x1 : Int32} {x2 : Int32} {σ : Sg} {z : Int32 × Sg} (C : Cx p s m args meth c cX12_numberNow 3 (some .int) RX12 g A X) (hf : f_X12_numberNow N x1 x2 σ = some z) : Bk mw p l e rm_X12_numberNow s m args below meth c 3 g A (MQ below (qI mw g A z.1 z.2) args s 0 0 A) 0 0 0 [(0, .ref (g.2.2 0)), (1, .int x1), (2, .int x2)] [] σ := by
  obtain ⟨hx, hb, hr, hml, hown, hts, hK, hlocks, hXX, hA, hXo⟩ := id C
  intro H locs ls hP hD hS hl
  unfold f_X12_numberNow at hf
  refine lv_aload_n hx hb dX12_numberNow_0 rfl (lv_at hl 0 rfl) ?_
  refine bk_get (wf := mw) (q0 := 0) (ci := 11) (k := 20) (v := .int (σ 0 20)) C hP wl_X12 rfl rfl (by decide) wa_506 rfl rfl dX12_numberNow_1 ?_
  refine lv_if_eq (tgt := 9) hx hb dX12_numberNow_4 (by decide) (fun t4 => ?_) (fun t4 => ?_)
  · have hf := (if_pos t4).symm.trans hf
    refine lv_aload_n hx hb dX12_numberNow_9 rfl (lv_at hl 0 rfl) ?_
    refine bk_get (wf := mw) (q0 := 0) (ci := 11) (k := 16) (v := .int (σ 0 16)) C hP wl_X12 rfl rfl (by decide) wa_507 rfl rfl dX12_numberNow_10 ?_
    refine lv_iconst (v := (2 : Int32)) hx hb dX12_numberNow_13 (by decide) ?_
    refine lv_icmp_eq (tgt := 25) hx hb dX12_numberNow_14 (by decide) (fun t14 => ?_) (fun t14 => ?_)
    · have hf := (if_pos t14).symm.trans hf
      refine lv_aload_n hx hb dX12_numberNow_25 rfl (lv_at hl 0 rfl) ?_
      refine bk_get (wf := mw) (q0 := 0) (ci := 11) (k := 19) (v := .int (σ 0 19)) C hP wl_X12 rfl rfl (by decide) wa_521 rfl rfl dX12_numberNow_26 ?_
      refine lv_aload_n hx hb dX12_numberNow_29 rfl (lv_at hl 0 rfl) ?_
      refine bk_get (wf := mw) (q0 := 0) (ci := 11) (k := 18) (v := .int (σ 0 18)) C hP wl_X12 rfl rfl (by decide) wa_517 rfl rfl dX12_numberNow_30 ?_
      refine lv_isub hx hb dX12_numberNow_33 ?_
      refine lv_iconst (v := (4 : Int32)) hx hb dX12_numberNow_34 (by decide) ?_
      refine lv_icmp_gt (tgt := 54) hx hb dX12_numberNow_35 (by decide) (fun t35 => ?_) (fun t35 => ?_)
      · have hf := (if_pos t35).symm.trans hf
        exact b_X12_numberNow_b54 C hf H locs ls hP hD hS (lv_sub hl [0] rfl)
      · have hf := (if_neg t35).symm.trans hf
        refine lv_aload_n hx hb dX12_numberNow_38 rfl (lv_at hl 0 rfl) ?_
        refine bk_get (wf := mw) (q0 := 0) (ci := 11) (k := 17) (v := .int (σ 0 17)) C hP wl_X12 rfl rfl (by decide) wa_518 rfl rfl dX12_numberNow_39 ?_
        refine lv_iload_n hx hb dX12_numberNow_42 rfl (lv_at hl 1 rfl) ?_
        refine lv_icmp_lt (tgt := 54) hx hb dX12_numberNow_43 (by decide) (fun t43 => ?_) (fun t43 => ?_)
        · have hf := (if_pos t43).symm.trans hf
          exact b_X12_numberNow_b54 C hf H locs ls hP hD hS (lv_sub hl [0] rfl)
        · have hf := (if_neg t43).symm.trans hf
          refine lv_aload_n hx hb dX12_numberNow_46 rfl (lv_at hl 0 rfl) ?_
          refine bk_get (wf := mw) (q0 := 0) (ci := 11) (k := 17) (v := .int (σ 0 17)) C hP wl_X12 rfl rfl (by decide) wa_518 rfl rfl dX12_numberNow_47 ?_
          refine lv_iload_n hx hb dX12_numberNow_50 rfl (lv_at hl 2 rfl) ?_
          refine lv_icmp_le (tgt := 59) hx hb dX12_numberNow_51 (by decide) (fun t51 => ?_) (fun t51 => ?_)
          · have hf := (if_pos t51).symm.trans hf
            exact b_X12_numberNow_b59 C hf H locs ls hP hD hS (lv_sub hl [0] rfl)
          · have hf := (if_neg t51).symm.trans hf
            exact b_X12_numberNow_b54 C hf H locs ls hP hD hS (lv_sub hl [0] rfl)
    · have hf := (if_neg t14).symm.trans hf
      refine lv_aload_n hx hb dX12_numberNow_17 rfl (lv_at hl 0 rfl) ?_
      refine lv_iconst (v := (1 : Int32)) hx hb dX12_numberNow_18 (by decide) ?_
      obtain ⟨q2, hq2, hf⟩ := bi_s hf
      refine bk_VV (wf := mw) (q0 := 0) (ci := 11) (rest := []) [.int (1 : Int32)] C hP hD hS hl.1 (c_X12_wrong hXo hq2) (cwA_V 1 hts wa_552 wa_549 wa_550 wa_551 wa_5 rfl rfl nd_X12_wrong ⟨Nat.le_of_ble_eq_true rfl, Nat.le_of_ble_eq_true rfl⟩) rfl rfl rfl rfl (Nat.le_of_ble_eq_true rfl) dX12_numberNow_19 ⟨Nat.le_of_ble_eq_true rfl, Nat.le_of_ble_eq_true rfl⟩ (fun H locs hP hD hS => ?_)
      refine lv_goto (tgt := 59) hx hb dX12_numberNow_22 (by decide) ?_
      exact b_X12_numberNow_b59 C hf H locs ls hP hD hS (lv_sub hl [0] rfl)
  · have hf := (if_neg t4).symm.trans hf
    refine lv_iconst (v := (0 : Int32)) hx hb dX12_numberNow_7 (by decide) ?_
    cases hf
    exact bk_iret C hP hD hS rfl dX12_numberNow_8
theorem c_X12_numberNow {N : Nat} {x1 : Int32} {x2 : Int32} {σ : Sg} {z : Int32 × Sg} (hX : xOK g X) (hf : f_X12_numberNow N x1 x2 σ = some z) : MetI l yX12_numberNow (Cond.code yX12_numberNow cX12_numberNow 3 (some .int) :: wsA) rm_X12_numberNow mw g X [.ref (g.2.2 0), .int x1, .int x2] σ z.1 z.2 :=
  MetI_of hX (by decide) (Nat.le_of_ble_eq_true rfl) (fun p e s m args below meth c A C => b_X12_numberNow C hf)
-- X12_readNumber: readNumber(II)I
abbrev rm_X12_readNumber : Room := { frames := 2, cells := 0, slots := 0, locals := 45 }
theorem nd_X12_readNumber : yX12_readNumber.cls ≠ "java/lang/invoke/MethodHandle" ∧ yX12_readNumber.cls ≠ "java/lang/invoke/VarHandle" ∧ (parseMethodDescriptor yX12_readNumber.desc).map (fun d => d.parameters.length) = some 2 := by decide +kernel
def f_X12_readNumber_b18 (N : Nat) (x3 : Int32) (σ : Sg) : Option (Int32 × Sg) :=
some (x3, σ)
set_option maxHeartbeats 4000000 in
set_option maxRecDepth 100000 in
theorem b_X12_readNumber_b18 {N : Nat} {x3 : Int32} {σ : Sg} {z : Int32 × Sg} (C : Cx p s m args meth c cX12_readNumber 4 (some .int) RX12 g A X) (hf : f_X12_readNumber_b18 N x3 σ = some z) : Bk mw p l e rm_X12_readNumber s m args below meth c 4 g A (MQ below (qI mw g A z.1 z.2) args s 0 0 A) 0 0 18 [(3, .int x3)] [] σ := by
  obtain ⟨hx, hb, hr, hml, hown, hts, hK, hlocks, hXX, hA, hXo⟩ := id C
  intro H locs ls hP hD hS hl
  unfold f_X12_readNumber_b18 at hf
  refine lv_iload_n hx hb dX12_readNumber_18 rfl (lv_at hl 0 rfl) ?_
  cases hf
  exact bk_iret C hP hD hS rfl dX12_readNumber_19
def f_X12_readNumber (N : Nat) (x1 : Int32) (x2 : Int32) (σ : Sg) : Option (Int32 × Sg) :=
(f_X12_numberNow N x1 x2 σ).bind fun q1 =>
bd q1.1 fun v2 =>
if ((q1.2) 0 20) = 0 then ((f_X12_stepOn N (q1.2)).bind fun q3 =>
f_X12_readNumber_b18 N v2 q3)
else (f_X12_readNumber_b18 N v2 (q1.2))
set_option maxHeartbeats 4000000 in
set_option maxRecDepth 100000 in
theorem b_X12_readNumber {N : Nat} {x1 : Int32} {x2 : Int32} {σ : Sg} {z : Int32 × Sg} (C : Cx p s m args meth c cX12_readNumber 4 (some .int) RX12 g A X) (hf : f_X12_readNumber N x1 x2 σ = some z) : Bk mw p l e rm_X12_readNumber s m args below meth c 4 g A (MQ below (qI mw g A z.1 z.2) args s 0 0 A) 0 0 0 [(0, .ref (g.2.2 0)), (1, .int x1), (2, .int x2)] [] σ := by
  obtain ⟨hx, hb, hr, hml, hown, hts, hK, hlocks, hXX, hA, hXo⟩ := id C
  intro H locs ls hP hD hS hl
  unfold f_X12_readNumber at hf
  refine lv_aload_n hx hb dX12_readNumber_0 rfl (lv_at hl 0 rfl) ?_
  refine lv_iload_n hx hb dX12_readNumber_1 rfl (lv_at hl 1 rfl) ?_
  refine lv_iload_n hx hb dX12_readNumber_2 rfl (lv_at hl 2 rfl) ?_
  obtain ⟨q1, hq1, hf⟩ := bi_s hf
  refine bk_VI (wf := mw) (q0 := 0) (ci := 11) (rest := []) [.int x1, .int x2] C hP hD hS hl.1 (c_X12_numberNow hXo hq1) (cwA_V 2 hts wa_568 wa_565 wa_566 wa_567 wa_5 rfl rfl nd_X12_numberNow ⟨Nat.le_of_ble_eq_true rfl, Nat.le_of_ble_eq_true rfl⟩) rfl rfl rfl rfl (Nat.le_of_ble_eq_true rfl) dX12_readNumber_3 ⟨Nat.le_of_ble_eq_true rfl, Nat.le_of_ble_eq_true rfl⟩ (fun H locs hP hD hS => ?_)
  obtain ⟨v2, ev2, hf⟩ := bd_s hf
  rw [← ev2]
  refine lv_istore_n (lv' := [(3, .int v2), (0, .ref (g.2.2 0)), (1, .int x1), (2, .int x2)]) hx hb dX12_readNumber_6 rfl hl (by decide) rfl (fun ls hl => ?_)
  refine lv_aload_n hx hb dX12_readNumber_7 rfl (lv_at hl 1 rfl) ?_
  refine bk_get (wf := mw) (q0 := 0) (ci := 11) (k := 20) (v := .int ((q1.2) 0 20)) C hP wl_X12 rfl rfl (by decide) wa_506 rfl rfl dX12_readNumber_8 ?_
  refine lv_if_ne (tgt := 18) hx hb dX12_readNumber_11 (by decide) (fun t11 => ?_) (fun t11 => ?_)
  · have hf := (if_neg t11).symm.trans hf
    exact b_X12_readNumber_b18 C hf H locs ls hP hD hS (lv_sub hl [0] rfl)
  · have hf := (if_pos t11).symm.trans hf
    refine lv_aload_n hx hb dX12_readNumber_14 rfl (lv_at hl 1 rfl) ?_
    obtain ⟨q3, hq3, hf⟩ := bi_s hf
    refine bk_VV (wf := mw) (q0 := 0) (ci := 11) (rest := []) [] C hP hD hS hl.1 (c_X12_stepOn hXo hq3) (cwA_V 0 hts wa_516 wa_513 wa_514 wa_515 wa_5 rfl rfl nd_X12_stepOn ⟨Nat.le_of_ble_eq_true rfl, Nat.le_of_ble_eq_true rfl⟩) rfl rfl rfl rfl (Nat.le_of_ble_eq_true rfl) dX12_readNumber_15 ⟨Nat.le_of_ble_eq_true rfl, Nat.le_of_ble_eq_true rfl⟩ (fun H locs hP hD hS => ?_)
    exact b_X12_readNumber_b18 C hf H locs ls hP hD hS (lv_sub hl [0] rfl)
theorem c_X12_readNumber {N : Nat} {x1 : Int32} {x2 : Int32} {σ : Sg} {z : Int32 × Sg} (hX : xOK g X) (hf : f_X12_readNumber N x1 x2 σ = some z) : MetI l yX12_readNumber (Cond.code yX12_readNumber cX12_readNumber 4 (some .int) :: wsA) rm_X12_readNumber mw g X [.ref (g.2.2 0), .int x1, .int x2] σ z.1 z.2 :=
  MetI_of hX (by decide) (Nat.le_of_ble_eq_true rfl) (fun p e s m args below meth c A C => b_X12_readNumber C hf)
-- X12_lay: lay(I)V
abbrev rm_X12_lay : Room := { frames := 0, cells := 0, slots := 0, locals := 0 }
theorem nd_X12_lay : yX12_lay.cls ≠ "java/lang/invoke/MethodHandle" ∧ yX12_lay.cls ≠ "java/lang/invoke/VarHandle" ∧ (parseMethodDescriptor yX12_lay.desc).map (fun d => d.parameters.length) = some 1 := by decide +kernel
def f_X12_lay (N : Nat) (x1 : Int32) (σ : Sg) : Option (Sg) :=
if (σ 0 20) = 0 then (if (((700 : Int32) + (σ 3 9)) < 0 ∨ 1400 ≤ ((700 : Int32) + (σ 3 9)).toNatClampNeg) then none else
bd (wr σ 10 (((700 : Int32) + (σ 3 9)).toNatClampNeg) x1) fun σ2 =>
bd (wr σ2 3 9 ((σ2 3 9) + (1 : Int32))) fun σ3 =>
some σ3)
else (some σ)
set_option maxHeartbeats 4000000 in
set_option maxRecDepth 100000 in
theorem b_X12_lay {N : Nat} {x1 : Int32} {σ : Sg} {z : Sg} (C : Cx p s m args meth c cX12_lay 2 none RX12 g A X) (hf : f_X12_lay N x1 σ = some z) : Bk mw p l e rm_X12_lay s m args below meth c 2 g A (MQ below (qV mw g A z) args s 0 0 A) 0 0 0 [(0, .ref (g.2.2 0)), (1, .int x1)] [] σ := by
  obtain ⟨hx, hb, hr, hml, hown, hts, hK, hlocks, hXX, hA, hXo⟩ := id C
  intro H locs ls hP hD hS hl
  unfold f_X12_lay at hf
  refine lv_aload_n hx hb dX12_lay_0 rfl (lv_at hl 0 rfl) ?_
  refine bk_get (wf := mw) (q0 := 0) (ci := 11) (k := 20) (v := .int (σ 0 20)) C hP wl_X12 rfl rfl (by decide) wa_506 rfl rfl dX12_lay_1 ?_
  refine lv_if_eq (tgt := 8) hx hb dX12_lay_4 (by decide) (fun t4 => ?_) (fun t4 => ?_)
  · have hf := (if_pos t4).symm.trans hf
    refine lv_aload_n hx hb dX12_lay_8 rfl (lv_at hl 0 rfl) ?_
    refine bk_get (wf := mw) (q0 := 0) (ci := 11) (k := 10) (v := .ref (g.2.2 10)) C hP wl_X12 rfl rfl (by decide) wa_164 rfl rfl dX12_lay_9 ?_
    refine lv_sipush (v := (700 : Int32)) hx hb dX12_lay_12 (by decide) ?_
    refine lv_aload_n hx hb dX12_lay_15 rfl (lv_at hl 0 rfl) ?_
    refine bk_get (wf := mw) (q0 := 0) (ci := 11) (k := 3) (v := .ref (g.2.2 3)) C hP wl_X12 rfl rfl (by decide) wa_157 rfl rfl dX12_lay_16 ?_
    refine lv_bipush (v := (9 : Int32)) hx hb dX12_lay_19 (by decide) ?_
    refine bk_iald (wf := mw) (q0 := 3) (n := 10) (j := 9) C hP rfl (vin_l (by decide) (by decide)) (by decide) dX12_lay_21 ?_
    refine lv_iadd hx hb dX12_lay_22 ?_
    refine lv_iload_n hx hb dX12_lay_23 rfl (lv_at hl 1 rfl) ?_
    obtain ⟨g1, hf⟩ := gd_s hf
    obtain ⟨σ2, eσ2, hf⟩ := bd_s hf
    refine bk_iast (wf := mw) (σ1 := σ2) (q0 := 10) (n := 1400) (j := ((700 : Int32) + (σ 3 9)).toNatClampNeg) C hP hD hS rfl g1 rfl (by rw [eσ2]; exact mw_a10 g _ _ _) dX12_lay_24 (fun H locs hP hD hS => ?_)
    refine lv_aload_n hx hb dX12_lay_25 rfl (lv_at hl 0 rfl) ?_
    refine bk_get (wf := mw) (q0 := 0) (ci := 11) (k := 3) (v := .ref (g.2.2 3)) C hP wl_X12 rfl rfl (by decide) wa_157 rfl rfl dX12_lay_26 ?_
    refine lv_bipush (v := (9 : Int32)) hx hb dX12_lay_29 (by decide) ?_
    refine lv_dup2_11 hx hb dX12_lay_31 rfl rfl ?_
    refine bk_iald (wf := mw) (q0 := 3) (n := 10) (j := 9) C hP rfl (vin_l (by decide) (by decide)) (by decide) dX12_lay_32 ?_
    refine lv_iconst (v := (1 : Int32)) hx hb dX12_lay_33 (by decide) ?_
    refine lv_iadd hx hb dX12_lay_34 ?_
    obtain ⟨σ3, eσ3, hf⟩ := bd_s hf
    refine bk_iast (wf := mw) (σ1 := σ3) (q0 := 3) (n := 10) (j := 9) C hP hD hS rfl (vin_l (by decide) (by decide)) (by decide) (by rw [eσ3]; exact mw_a3 g _ _ _) dX12_lay_35 (fun H locs hP hD hS => ?_)
    cases hf
    exact bk_vret C hP hD hS rfl dX12_lay_36
  · have hf := (if_neg t4).symm.trans hf
    cases hf
    exact bk_vret C hP hD hS rfl dX12_lay_7
theorem c_X12_lay {N : Nat} {x1 : Int32} {σ : Sg} {z : Sg} (hX : xOK g X) (hf : f_X12_lay N x1 σ = some z) : MetV l yX12_lay (Cond.code yX12_lay cX12_lay 2 none :: wsA) rm_X12_lay mw g X [.ref (g.2.2 0), .int x1] σ z :=
  MetV_of hX (by decide) (Nat.le_of_ble_eq_true rfl) (fun p e s m args below meth c A C => b_X12_lay C hf)
-- X12_is: is(Ljava/lang/String;)Z
abbrev rm_X12_is : Room := { frames := 4, cells := 0, slots := 0, locals := 85 }
theorem nd_X12_is : yX12_is.cls ≠ "java/lang/invoke/MethodHandle" ∧ yX12_is.cls ≠ "java/lang/invoke/VarHandle" ∧ (parseMethodDescriptor yX12_is.desc).map (fun d => d.parameters.length) = some 1 := by decide +kernel
def f_X12_is_b75 (N : Nat) (x1 : Nat) (x3 : Int32) (t0 : Int32) (σ : Sg) : Option (Nat × Int32 × Int32 × Sg) :=
bd (x3 + (1 : Int32)) fun v1 =>
some (0, t0, v1, σ)
set_option maxHeartbeats 4000000 in
set_option maxRecDepth 100000 in
theorem b_X12_is_b75 {N : Nat} {x1 : Nat} {x3 : Int32} {t0 : Int32} {σ : Sg} {z : Nat × Int32 × Int32 × Sg} (C : Cx p s m args meth c cX12_is 4 (some .boolean) RX12 g A X) (hf : f_X12_is_b75 N x1 x3 t0 σ = some z) (k0 : z.1 = 0 → Bk mw p l e rm_X12_is s m args below meth c 4 g A Q 0 0 39 [(0, .ref (g.2.2 0)), (1, .ref (g.2.2 (100 + x1))), (2, .int z.2.1), (3, .int z.2.2.1)] [] z.2.2.2) (k : ¬ z.1 = 0 → Bk mw p l e rm_X12_is s m args below meth c 4 g A Q 0 0 82 [(2, .int z.2.1)] [] z.2.2.2) : Bk mw p l e rm_X12_is s m args below meth c 4 g A Q 0 0 75 [(0, .ref (g.2.2 0)), (1, .ref (g.2.2 (100 + x1))), (3, .int x3)] [.int t0] σ := by
  obtain ⟨hx, hb, hr, hml, hown, hts, hK, hlocks, hXX, hA, hXo⟩ := id C
  intro H locs ls hP hD hS hl
  unfold f_X12_is_b75 at hf
  refine lv_istore_n (lv' := [(2, .int t0), (0, .ref (g.2.2 0)), (1, .ref (g.2.2 (100 + x1))), (3, .int x3)]) hx hb dX12_is_75 rfl hl (by decide) rfl (fun ls hl => ?_)
  obtain ⟨v1, ev1, hf⟩ := bd_s hf
  refine lv_iinc (v := v1) (lv' := [(3, .int v1), (2, .int t0), (0, .ref (g.2.2 0)), (1, .ref (g.2.2 (100 + x1)))]) hx hb dX12_is_76 hl (k := 3) rfl (by rw [ev1]; rfl) (by decide) rfl (fun ls hl => ?_)
  refine lv_goto (tgt := 39) hx hb dX12_is_79 (by decide) ?_
  cases hf
  exact k0 rfl H locs ls hP hD hS (lv_sub hl [2, 3, 1, 0] rfl)
def s_X12_is_h39 (N : Nat) (x1 : Nat) (x2 : Int32) (x3 : Int32) (σ : Sg) : Option (Nat × Int32 × Int32 × Sg) :=
if x2 = 0 then (some (1, x2, 0, σ))
else (if ¬ (x1 < 41) then none else
if (nI (tlen x1)) ≤ x3 then (some (1, x2, 0, σ))
else (if ¬ (x1 < 41) then none else
if (x3 < 0 ∨ tlen x1 ≤ x3.toNatClampNeg) then none else
if (((σ 0 18) + x3) < 0 ∨ 700 ≤ ((σ 0 18) + x3).toNatClampNeg) then none else
if (tch x1 x3.toNatClampNeg) = (σ 12 ((σ 0 18) + x3).toNatClampNeg) then (f_X12_is_b75 N x1 x3 (1 : Int32) σ)
else (f_X12_is_b75 N x1 x3 (0 : Int32) σ)))
set_option maxHeartbeats 4000000 in
set_option maxRecDepth 100000 in
theorem e_X12_is_h39 {N : Nat} {x1 : Nat} {x2 : Int32} {x3 : Int32} {σ : Sg} {z : Nat × Int32 × Int32 × Sg} (C : Cx p s m args meth c cX12_is 4 (some .boolean) RX12 g A X) (hf : s_X12_is_h39 N x1 x2 x3 σ = some z) (k0 : z.1 = 0 → Bk mw p l e rm_X12_is s m args below meth c 4 g A Q 0 0 39 [(0, .ref (g.2.2 0)), (1, .ref (g.2.2 (100 + x1))), (2, .int z.2.1), (3, .int z.2.2.1)] [] z.2.2.2) (k : ¬ z.1 = 0 → Bk mw p l e rm_X12_is s m args below meth c 4 g A Q 0 0 82 [(2, .int z.2.1)] [] z.2.2.2) : Bk mw p l e rm_X12_is s m args below meth c 4 g A Q 0 0 39 [(0, .ref (g.2.2 0)), (1, .ref (g.2.2 (100 + x1))), (2, .int x2), (3, .int x3)] [] σ := by
  obtain ⟨hx, hb, hr, hml, hown, hts, hK, hlocks, hXX, hA, hXo⟩ := id C
  intro H locs ls hP hD hS hl
  unfold s_X12_is_h39 at hf
  refine lv_iload_n hx hb dX12_is_39 rfl (lv_at hl 2 rfl) ?_
  refine lv_if_eq (tgt := 82) hx hb dX12_is_40 (by decide) (fun t40 => ?_) (fun t40 => ?_)
  · have hf := (if_pos t40).symm.trans hf
    cases hf
    exact (k (show ¬ (1 : Nat) = 0 by decide)) H locs ls hP hD hS (lv_sub hl [2] rfl)
  · have hf := (if_neg t40).symm.trans hf
    refine lv_iload_n hx hb dX12_is_43 rfl (lv_at hl 3 rfl) ?_
    refine lv_aload_n hx hb dX12_is_44 rfl (lv_at hl 1 rfl) ?_
    obtain ⟨g2, hf⟩ := gd_s hf
    refine bk_VIr (wf := mw) (rest := [.int x3]) [] C hP hD hS hl.1 (c_length (Decidable.not_not.mp g2) hXo) (cwA_V 0 hts wa_276 wa_547 wa_274 wa_275 wa_270 rfl rfl nd_J0_length_8abf5 ⟨Nat.le_of_ble_eq_true rfl, Nat.le_of_ble_eq_true rfl⟩) ((hXo.2.2.2 _ _ _ hXX).2.2.2.2.1 _ (Decidable.not_not.mp g2)).1 rfl rfl (Nat.le_of_ble_eq_true rfl) dX12_is_45 ⟨Nat.le_of_ble_eq_true rfl, Nat.le_of_ble_eq_true rfl⟩ (fun H locs hP hD hS => ?_)
    refine lv_icmp_ge (tgt := 82) hx hb dX12_is_48 (by decide) (fun t48 => ?_) (fun t48 => ?_)
    · have hf := (if_pos t48).symm.trans hf
      cases hf
      exact (k (show ¬ (1 : Nat) = 0 by decide)) H locs ls hP hD hS (lv_sub hl [2] rfl)
    · have hf := (if_neg t48).symm.trans hf
      refine lv_aload_n hx hb dX12_is_51 rfl (lv_at hl 1 rfl) ?_
      refine lv_iload_n hx hb dX12_is_52 rfl (lv_at hl 3 rfl) ?_
      obtain ⟨g3, hf⟩ := gd_s hf
      obtain ⟨g4, hf⟩ := gd_s hf
      refine bk_VIr (wf := mw) (rest := []) [.int x3] C hP hD hS hl.1 (c_charAt (Decidable.not_not.mp g3) g4 hXo) (cwA_V 1 hts wa_286 wa_548 wa_284 wa_285 wa_270 rfl rfl nd_J0_charAt_5068e ⟨Nat.le_of_ble_eq_true rfl, Nat.le_of_ble_eq_true rfl⟩) ((hXo.2.2.2 _ _ _ hXX).2.2.2.2.1 _ (Decidable.not_not.mp g3)).1 rfl rfl (Nat.le_of_ble_eq_true rfl) dX12_is_53 ⟨Nat.le_of_ble_eq_true rfl, Nat.le_of_ble_eq_true rfl⟩ (fun H locs hP hD hS => ?_)
      refine lv_aload_n hx hb dX12_is_56 rfl (lv_at hl 0 rfl) ?_
      refine bk_get (wf := mw) (q0 := 0) (ci := 11) (k := 12) (v := .ref (g.2.2 12)) C hP wl_X12 rfl rfl (by decide) wa_166 rfl rfl dX12_is_57 ?_
      refine lv_aload_n hx hb dX12_is_60 rfl (lv_at hl 0 rfl) ?_
      refine bk_get (wf := mw) (q0 := 0) (ci := 11) (k := 18) (v := .int (σ 0 18)) C hP wl_X12 rfl rfl (by decide) wa_517 rfl rfl dX12_is_61 ?_
      refine lv_iload_n hx hb dX12_is_64 rfl (lv_at hl 3 rfl) ?_
      refine lv_iadd hx hb dX12_is_65 ?_
      obtain ⟨g5, hf⟩ := gd_s hf
      refine bk_iald (wf := mw) (q0 := 12) (n := 700) (j := ((σ 0 18) + x3).toNatClampNeg) C hP rfl g5 rfl dX12_is_66 ?_
      refine lv_icmp_ne (tgt := 74) hx hb dX12_is_67 (by decide) (fun t67 => ?_) (fun t67 => ?_)
      · have hf := (if_neg t67).symm.trans hf
        refine lv_iconst (v := (0 : Int32)) hx hb dX12_is_74 (by decide) ?_
        exact b_X12_is_b75 C hf k0 k H locs ls hP hD hS (lv_sub hl [0, 1, 3] rfl)
      · have hf := (if_pos t67).symm.trans hf
        refine lv_iconst (v := (1 : Int32)) hx hb dX12_is_70 (by decide) ?_
        refine lv_goto (tgt := 75) hx hb dX12_is_71 (by decide) ?_
        exact b_X12_is_b75 C hf k0 k H locs ls hP hD hS (lv_sub hl [0, 1, 3] rfl)
theorem lp_X12_is_h39 {N : Nat} {n : Nat} {x1 : Nat} {x2 : Int32} {x3 : Int32} {σ : Sg} {z : Nat × Int32 × Int32 × Sg} (C : Cx p s m args meth c cX12_is 4 (some .boolean) RX12 g A X) (hz : it (fun q => s_X12_is_h39 N x1 q.1 q.2.1 q.2.2) n (x2, x3, σ) = some z) (k : Bk mw p l e rm_X12_is s m args below meth c 4 g A Q 0 0 82 [(2, .int z.2.1)] [] z.2.2.2) : Bk mw p l e rm_X12_is s m args below meth c 4 g A Q 0 0 39 [(0, .ref (g.2.2 0)), (1, .ref (g.2.2 (100 + x1))), (2, .int x2), (3, .int x3)] [] σ :=
  it_W (S := Int32 × Int32 × Sg) (fun q => Bk mw p l e rm_X12_is s m args below meth c 4 g A Q 0 0 39 [(0, .ref (g.2.2 0)), (1, .ref (g.2.2 (100 + x1))), (2, .int q.1), (3, .int q.2.1)] [] q.2.2) (fun z => Bk mw p l e rm_X12_is s m args below meth c 4 g A Q 0 0 82 [(2, .int z.2.1)] [] z.2.2.2) (fun q z hq k0 k => e_X12_is_h39 C hq k0 k) n (x2, x3, σ) z hz k
def f_X12_is_b36 (N : Nat) (x1 : Nat) (t0 : Int32) (σ : Sg) : Option (Int32 × Sg) :=
(it (fun q => s_X12_is_h39 N x1 q.1 q.2.1 q.2.2) N (t0, (0 : Int32), σ)).bind fun z6 =>
if ¬ ((z6.2.1) = 0 ∨ (z6.2.1) = 1) then none else some ((z6.2.1), (z6.2.2.2))
set_option maxHeartbeats 4000000 in
set_option maxRecDepth 100000 in
theorem b_X12_is_b36 {N : Nat} {x1 : Nat} {t0 : Int32} {σ : Sg} {z : Int32 × Sg} (C : Cx p s m args meth c cX12_is 4 (some .boolean) RX12 g A X) (hf : f_X12_is_b36 N x1 t0 σ = some z) : Bk mw p l e rm_X12_is s m args below meth c 4 g A (MQ below (qI mw g A z.1 z.2) args s 0 0 A) 0 0 36 [(0, .ref (g.2.2 0)), (1, .ref (g.2.2 (100 + x1)))] [.int t0] σ := by
  obtain ⟨hx, hb, hr, hml, hown, hts, hK, hlocks, hXX, hA, hXo⟩ := id C
  intro H locs ls hP hD hS hl
  unfold f_X12_is_b36 at hf
  refine lv_istore_n (lv' := [(2, .int t0), (0, .ref (g.2.2 0)), (1, .ref (g.2.2 (100 + x1)))]) hx hb dX12_is_36 rfl hl (by decide) rfl (fun ls hl => ?_)
  refine lv_iconst (v := (0 : Int32)) hx hb dX12_is_37 (by decide) ?_
  refine lv_istore_n (lv' := [(3, .int (0 : Int32)), (2, .int t0), (0, .ref (g.2.2 0)), (1, .ref (g.2.2 (100 + x1)))]) hx hb dX12_is_38 rfl hl (by decide) rfl (fun ls hl => ?_)
  obtain ⟨z6, hz6, hf⟩ := bi_s hf
  refine lp_X12_is_h39 C hz6 ?_ H locs ls hP hD hS (lv_sub hl [2, 3, 1, 0] rfl)
  intro H locs ls hP hD hS hl
  refine lv_iload_n hx hb dX12_is_82 rfl (lv_at hl 0 rfl) ?_
  obtain ⟨g7, hf⟩ := gd_s hf
  cases hf
  exact bk_zret C hP hD hS (Decidable.not_not.mp g7) rfl dX12_is_83
def f_X12_is_b35 (N : Nat) (x1 : Nat) (σ : Sg) : Option (Int32 × Sg) :=
f_X12_is_b36 N x1 (0 : Int32) σ
set_option maxHeartbeats 4000000 in
set_option maxRecDepth 100000 in
theorem b_X12_is_b35 {N : Nat} {x1 : Nat} {σ : Sg} {z : Int32 × Sg} (C : Cx p s m args meth c cX12_is 4 (some .boolean) RX12 g A X) (hf : f_X12_is_b35 N x1 σ = some z) : Bk mw p l e rm_X12_is s m args below meth c 4 g A (MQ below (qI mw g A z.1 z.2) args s 0 0 A) 0 0 35 [(0, .ref (g.2.2 0)), (1, .ref (g.2.2 (100 + x1)))] [] σ := by
  obtain ⟨hx, hb, hr, hml, hown, hts, hK, hlocks, hXX, hA, hXo⟩ := id C
  intro H locs ls hP hD hS hl
  unfold f_X12_is_b35 at hf
  refine lv_iconst (v := (0 : Int32)) hx hb dX12_is_35 (by decide) ?_
  exact b_X12_is_b36 C hf H locs ls hP hD hS (lv_sub hl [0, 1] rfl)
def f_X12_is (N : Nat) (x1 : Nat) (σ : Sg) : Option (Int32 × Sg) :=
if (σ 0 20) = 0 then (if (σ 0 16) = (1 : Int32) then (if ¬ (x1 < 41) then none else
if (nI (tlen x1)) = ((σ 0 19) - (σ 0 18)) then (f_X12_is_b36 N x1 (1 : Int32) σ)
else (f_X12_is_b35 N x1 σ))
else (f_X12_is_b35 N x1 σ))
else (f_X12_is_b35 N x1 σ)
set_option maxHeartbeats 4000000 in
set_option maxRecDepth 100000 in
theorem b_X12_is {N : Nat} {x1 : Nat} {σ : Sg} {z : Int32 × Sg} (C : Cx p s m args meth c cX12_is 4 (some .boolean) RX12 g A X) (hf : f_X12_is N x1 σ = some z) : Bk mw p l e rm_X12_is s m args below meth c 4 g A (MQ below (qI mw g A z.1 z.2) args s 0 0 A) 0 0 0 [(0, .ref (g.2.2 0)), (1, .ref (g.2.2 (100 + x1)))] [] σ := by
  obtain ⟨hx, hb, hr, hml, hown, hts, hK, hlocks, hXX, hA, hXo⟩ := id C
  intro H locs ls hP hD hS hl
  unfold f_X12_is at hf
  refine lv_aload_n hx hb dX12_is_0 rfl (lv_at hl 0 rfl) ?_
  refine bk_get (wf := mw) (q0 := 0) (ci := 11) (k := 20) (v := .int (σ 0 20)) C hP wl_X12 rfl rfl (by decide) wa_506 rfl rfl dX12_is_1 ?_
  refine lv_if_ne (tgt := 35) hx hb dX12_is_4 (by decide) (fun t4 => ?_) (fun t4 => ?_)
  · have hf := (if_neg t4).symm.trans hf
    exact b_X12_is_b35 C hf H locs ls hP hD hS (lv_sub hl [0, 1] rfl)
  · have hf := (if_pos t4).symm.trans hf
    refine lv_aload_n hx hb dX12_is_7 rfl (lv_at hl 0 rfl) ?_
    refine bk_get (wf := mw) (q0 := 0) (ci := 11) (k := 16) (v := .int (σ 0 16)) C hP wl_X12 rfl rfl (by decide) wa_507 rfl rfl dX12_is_8 ?_
    refine lv_iconst (v := (1 : Int32)) hx hb dX12_is_11 (by decide) ?_
    refine lv_icmp_ne (tgt := 35) hx hb dX12_is_12 (by decide) (fun t12 => ?_) (fun t12 => ?_)
    · have hf := (if_neg t12).symm.trans hf
      exact b_X12_is_b35 C hf H locs ls hP hD hS (lv_sub hl [0, 1] rfl)
    · have hf := (if_pos t12).symm.trans hf
      refine lv_aload_n hx hb dX12_is_15 rfl (lv_at hl 1 rfl) ?_
      obtain ⟨g8, hf⟩ := gd_s hf
      refine bk_VIr (wf := mw) (rest := []) [] C hP hD hS hl.1 (c_length (Decidable.not_not.mp g8) hXo) (cwA_V 0 hts wa_276 wa_547 wa_274 wa_275 wa_270 rfl rfl nd_J0_length_8abf5 ⟨Nat.le_of_ble_eq_true rfl, Nat.le_of_ble_eq_true rfl⟩) ((hXo.2.2.2 _ _ _ hXX).2.2.2.2.1 _ (Decidable.not_not.mp g8)).1 rfl rfl (Nat.le_of_ble_eq_true rfl) dX12_is_16 ⟨Nat.le_of_ble_eq_true rfl, Nat.le_of_ble_eq_true rfl⟩ (fun H locs hP hD hS => ?_)
      refine lv_aload_n hx hb dX12_is_19 rfl (lv_at hl 0 rfl) ?_
      refine bk_get (wf := mw) (q0 := 0) (ci := 11) (k := 19) (v := .int (σ 0 19)) C hP wl_X12 rfl rfl (by decide) wa_521 rfl rfl dX12_is_20 ?_
      refine lv_aload_n hx hb dX12_is_23 rfl (lv_at hl 0 rfl) ?_
      refine bk_get (wf := mw) (q0 := 0) (ci := 11) (k := 18) (v := .int (σ 0 18)) C hP wl_X12 rfl rfl (by decide) wa_517 rfl rfl dX12_is_24 ?_
      refine lv_isub hx hb dX12_is_27 ?_
      refine lv_icmp_ne (tgt := 35) hx hb dX12_is_28 (by decide) (fun t28 => ?_) (fun t28 => ?_)
      · have hf := (if_neg t28).symm.trans hf
        exact b_X12_is_b35 C hf H locs ls hP hD hS (lv_sub hl [0, 1] rfl)
      · have hf := (if_pos t28).symm.trans hf
        refine lv_iconst (v := (1 : Int32)) hx hb dX12_is_31 (by decide) ?_
        refine lv_goto (tgt := 36) hx hb dX12_is_32 (by decide) ?_
        exact b_X12_is_b36 C hf H locs ls hP hD hS (lv_sub hl [0, 1] rfl)
theorem c_X12_is {N : Nat} {x1 : Nat} {σ : Sg} {z : Int32 × Sg} (hX : xOK g X) (hf : f_X12_is N x1 σ = some z) : MetI l yX12_is (Cond.code yX12_is cX12_is 4 (some .boolean) :: wsA) rm_X12_is mw g X [.ref (g.2.2 0), .ref (g.2.2 (100 + x1))] σ z.1 z.2 :=
  MetI_of hX (by decide) (Nat.le_of_ble_eq_true rfl) (fun p e s m args below meth c A C => b_X12_is C hf)
-- X12_which_2: which([Ljava/lang/String;)I
abbrev rm_X12_which_2 : Room := { frames := 5, cells := 0, slots := 0, locals := 108 }
theorem nd_X12_which : yX12_which.cls ≠ "java/lang/invoke/MethodHandle" ∧ yX12_which.cls ≠ "java/lang/invoke/VarHandle" ∧ (parseMethodDescriptor yX12_which.desc).map (fun d => d.parameters.length) = some 1 := by decide +kernel
def s_X12_which_2_h2 (N : Nat) (x2 : Int32) (σ : Sg) : Option (Nat × Int32 × Sg) :=
if (6 : Int32) ≤ x2 then (some (2, 0, σ))
else (if (x2 < 0 ∨ 6 ≤ x2.toNatClampNeg) then none else
(f_X12_is N (2 + x2.toNatClampNeg) σ).bind fun q2 =>
if q2.1 = 0 then (bd (x2 + (1 : Int32)) fun v3 =>
some (0, v3, (q2.2)))
else (some (1, x2, (q2.2))))
set_option maxHeartbeats 4000000 in
set_option maxRecDepth 100000 in
theorem e_X12_which_2_h2 {N : Nat} {x2 : Int32} {σ : Sg} {z : Nat × Int32 × Sg} (C : Cx p s m args meth c cX12_which 3 (some .int) RX12 g A X) (hf : s_X12_which_2_h2 N x2 σ = some z) (k0 : z.1 = 0 → Bk mw p l e rm_X12_which_2 s m args below meth c 3 g A Q 0 0 2 [(0, .ref (g.2.2 0)), (1, .ref (g.2.2 2)), (2, .int z.2.1)] [] z.2.2) (k : ¬ z.1 = 0 → ((z.1 = 1 → Bk mw p l e rm_X12_which_2 s m args below meth c 3 g A Q 0 0 18 [(2, .int z.2.1)] [] z.2.2) ∧ (¬ z.1 = 1 → Bk mw p l e rm_X12_which_2 s m args below meth c 3 g A Q 0 0 26 [] [] z.2.2))) : Bk mw p l e rm_X12_which_2 s m args below meth c 3 g A Q 0 0 2 [(0, .ref (g.2.2 0)), (1, .ref (g.2.2 2)), (2, .int x2)] [] σ := by
  obtain ⟨hx, hb, hr, hml, hown, hts, hK, hlocks, hXX, hA, hXo⟩ := id C
  intro H locs ls hP hD hS hl
  unfold s_X12_which_2_h2 at hf
  refine lv_iload_n hx hb dX12_which_2 rfl (lv_at hl 2 rfl) ?_
  refine lv_aload_n hx hb dX12_which_3 rfl (lv_at hl 1 rfl) ?_
  refine bk_alen (wf := mw) (q0 := 2) (t0 := 3) (v := (6 : Int32)) C hP rfl rfl (show Int32.ofNat 6 = (6 : Int32) by decide) dX12_which_4 ?_
  refine lv_icmp_ge (tgt := 26) hx hb dX12_which_5 (by decide) (fun t5 => ?_) (fun t5 => ?_)
  · have hf := (if_pos t5).symm.trans hf
    cases hf
    exact ((k (show ¬ (2 : Nat) = 0 by decide)).2 (show ¬ (2 : Nat) = 1 by decide)) H locs ls hP hD hS (lv_sub hl [] rfl)
  · have hf := (if_neg t5).symm.trans hf
    refine lv_aload_n hx hb dX12_which_8 rfl (lv_at hl 0 rfl) ?_
    refine lv_aload_n hx hb dX12_which_9 rfl (lv_at hl 1 rfl) ?_
    refine lv_iload_n hx hb dX12_which_10 rfl (lv_at hl 2 rfl) ?_
    obtain ⟨g1, hf⟩ := gd_s hf
    refine bk_sald (wf := mw) (q0 := 2) (n := 6) (off := 2) C hP rfl g1 dX12_which_11 ?_
    obtain ⟨q2, hq2, hf⟩ := bi_s hf
    refine bk_VI (wf := mw) (q0 := 0) (ci := 11) (rest := []) [.ref (g.2.2 (100 + (2 + x2.toNatClampNeg)))] C hP hD hS hl.1 (c_X12_is hXo hq2) (cwA_V 1 hts wa_546 wa_543 wa_544 wa_545 wa_5 rfl rfl nd_X12_is ⟨Nat.le_of_ble_eq_true rfl, Nat.le_of_ble_eq_true rfl⟩) rfl rfl rfl rfl (Nat.le_of_ble_eq_true rfl) dX12_which_12 ⟨Nat.le_of_ble_eq_true rfl, Nat.le_of_ble_eq_true rfl⟩ (fun H locs hP hD hS => ?_)
    refine lv_if_eq (tgt := 20) hx hb dX12_which_15 (by decide) (fun t15 => ?_) (fun t15 => ?_)
    · have hf := (if_pos t15).symm.trans hf
      obtain ⟨v3, ev3, hf⟩ := bd_s hf
      refine lv_iinc (v := v3) (lv' := [(2, .int v3), (0, .ref (g.2.2 0)), (1, .ref (g.2.2 2))]) hx hb dX12_which_20 hl (k := 2) rfl (by rw [ev3]; rfl) (by decide) rfl (fun ls hl => ?_)
      refine lv_goto (tgt := 2) hx hb dX12_which_23 (by decide) ?_
      cases hf
      exact k0 rfl H locs ls hP hD hS (lv_sub hl [1, 2, 0] rfl)
    · have hf := (if_neg t15).symm.trans hf
      cases hf
      exact ((k (show ¬ (1 : Nat) = 0 by decide)).1 rfl) H locs ls hP hD hS (lv_sub hl [2] rfl)
theorem lp_X12_which_2_h2 {N : Nat} {n : Nat} {x2 : Int32} {σ : Sg} {z : Nat × Int32 × Sg} (C : Cx p s m args meth c cX12_which 3 (some .int) RX12 g A X) (hz : it (fun q => s_X12_which_2_h2 N q.1 q.2) n (x2, σ) = some z) (k : ((z.1 = 1 → Bk mw p l e rm_X12_which_2 s m args below meth c 3 g A Q 0 0 18 [(2, .int z.2.1)] [] z.2.2) ∧ (¬ z.1 = 1 → Bk mw p l e rm_X12_which_2 s m args below meth c 3 g A Q 0 0 26 [] [] z.2.2))) : Bk mw p l e rm_X12_which_2 s m args below meth c 3 g A Q 0 0 2 [(0, .ref (g.2.2 0)), (1, .ref (g.2.2 2)), (2, .int x2)] [] σ :=
  it_W (S := Int32 × Sg) (fun q => Bk mw p l e rm_X12_which_2 s m args below meth c 3 g A Q 0 0 2 [(0, .ref (g.2.2 0)), (1, .ref (g.2.2 2)), (2, .int q.1)] [] q.2) (fun z => ((z.1 = 1 → Bk mw p l e rm_X12_which_2 s m args below meth c 3 g A Q 0 0 18 [(2, .int z.2.1)] [] z.2.2) ∧ (¬ z.1 = 1 → Bk mw p l e rm_X12_which_2 s m args below meth c 3 g A Q 0 0 26 [] [] z.2.2))) (fun q z hq k0 k => e_X12_which_2_h2 C hq k0 k) n (x2, σ) z hz k
def f_X12_which_2 (N : Nat) (σ : Sg) : Option (Int32 × Sg) :=
(it (fun q => s_X12_which_2_h2 N q.1 q.2) N ((0 : Int32), σ)).bind fun z4 =>
if z4.1 = 1 then (some ((z4.2.1), (z4.2.2)))
else (some ((-1 : Int32), (z4.2.2)))
set_option maxHeartbeats 4000000 in
set_option maxRecDepth 100000 in
theorem b_X12_which_2 {N : Nat} {σ : Sg} {z : Int32 × Sg} (C : Cx p s m args meth c cX12_which 3 (some .int) RX12 g A X) (hf : f_X12_which_2 N σ = some z) : Bk mw p l e rm_X12_which_2 s m args below meth c 3 g A (MQ below (qI mw g A z.1 z.2) args s 0 0 A) 0 0 0 [(0, .ref (g.2.2 0)), (1, .ref (g.2.2 2))] [] σ := by
  obtain ⟨hx, hb, hr, hml, hown, hts, hK, hlocks, hXX, hA, hXo⟩ := id C
  intro H locs ls hP hD hS hl
  unfold f_X12_which_2 at hf
  refine lv_iconst (v := (0 : Int32)) hx hb dX12_which_0 (by decide) ?_
  refine lv_istore_n (lv' := [(2, .int (0 : Int32)), (0, .ref (g.2.2 0)), (1, .ref (g.2.2 2))]) hx hb dX12_which_1 rfl hl (by decide) rfl (fun ls hl => ?_)
  obtain ⟨z4, hz4, hf⟩ := bi_s hf
  refine lp_X12_which_2_h2 C hz4 ⟨fun t0 => ?_, fun t0 => ?_⟩ H locs ls hP hD hS (lv_sub hl [1, 2, 0] rfl)
  · have hf := (if_pos t0).symm.trans hf
    intro H locs ls hP hD hS hl
    refine lv_iload_n hx hb dX12_which_18 rfl (lv_at hl 0 rfl) ?_
    cases hf
    exact bk_iret C hP hD hS rfl dX12_which_19
  · have hf := (if_neg t0).symm.trans hf
    intro H locs ls hP hD hS hl
    refine lv_iconst (v := (-1 : Int32)) hx hb dX12_which_26 (by decide) ?_
    cases hf
    exact bk_iret C hP hD hS rfl dX12_which_27
theorem c_X12_which_2 {N : Nat} {σ : Sg} {z : Int32 × Sg} (hX : xOK g X) (hf : f_X12_which_2 N σ = some z) : MetI l yX12_which (Cond.code yX12_which cX12_which 3 (some .int) :: wsA) rm_X12_which_2 mw g X [.ref (g.2.2 0), .ref (g.2.2 2)] σ z.1 z.2 :=
  MetI_of hX (by decide) (Nat.le_of_ble_eq_true rfl) (fun p e s m args below meth c A C => b_X12_which_2 C hf)
abbrev rm_X12_readPart (d : Nat) : Room := { frames := 20 * d + 6, cells := 0, slots := 0, locals := 400 * d + 130 }
theorem nd_X12_readPart : yX12_readPart.cls ≠ "java/lang/invoke/MethodHandle" ∧ yX12_readPart.cls ≠ "java/lang/invoke/VarHandle" ∧ (parseMethodDescriptor yX12_readPart.desc).map (fun d => d.parameters.length) = some 1 := by decide +kernel
abbrev rm_X12_readProduct (d : Nat) : Room := { frames := 20 * d + 7, cells := 0, slots := 0, locals := 400 * d + 152 }
theorem nd_X12_readProduct : yX12_readProduct.cls ≠ "java/lang/invoke/MethodHandle" ∧ yX12_readProduct.cls ≠ "java/lang/invoke/VarHandle" ∧ (parseMethodDescriptor yX12_readProduct.desc).map (fun d => d.parameters.length) = some 1 := by decide +kernel
abbrev rm_X12_readSum (d : Nat) : Room := { frames := 20 * d + 8, cells := 0, slots := 0, locals := 400 * d + 174 }
theorem nd_X12_readSum : yX12_readSum.cls ≠ "java/lang/invoke/MethodHandle" ∧ yX12_readSum.cls ≠ "java/lang/invoke/VarHandle" ∧ (parseMethodDescriptor yX12_readSum.desc).map (fun d => d.parameters.length) = some 1 := by decide +kernel
abbrev rm_X12_readNot (d : Nat) : Room := { frames := 20 * d + 9, cells := 0, slots := 0, locals := 400 * d + 196 }
theorem nd_X12_readNot : yX12_readNot.cls ≠ "java/lang/invoke/MethodHandle" ∧ yX12_readNot.cls ≠ "java/lang/invoke/VarHandle" ∧ (parseMethodDescriptor yX12_readNot.desc).map (fun d => d.parameters.length) = some 1 := by decide +kernel
abbrev rm_X12_readAnd (d : Nat) : Room := { frames := 20 * d + 10, cells := 0, slots := 0, locals := 400 * d + 219 }
theorem nd_X12_readAnd : yX12_readAnd.cls ≠ "java/lang/invoke/MethodHandle" ∧ yX12_readAnd.cls ≠ "java/lang/invoke/VarHandle" ∧ (parseMethodDescriptor yX12_readAnd.desc).map (fun d => d.parameters.length) = some 1 := by decide +kernel
abbrev rm_X12_readExpression (d : Nat) : Room := { frames := 20 * d + 11, cells := 0, slots := 0, locals := 400 * d + 240 }
theorem nd_X12_readExpression : yX12_readExpression.cls ≠ "java/lang/invoke/MethodHandle" ∧ yX12_readExpression.cls ≠ "java/lang/invoke/VarHandle" ∧ (parseMethodDescriptor yX12_readExpression.desc).map (fun d => d.parameters.length) = some 1 := by decide +kernel
-- X12_readPart: readPart(I)V
def f_X12_readPart_b56 (N : Nat) (rec : Int32 → Sg → Option Sg) (x2 : Int32) (σ : Sg) : Option (Sg) :=
(f_X12_lay N ((-1 : Int32) - x2) σ).bind fun q1 =>
if (q1 0 20) = 0 then ((f_X12_stepOn N q1).bind fun q2 =>
some q2)
else (some q1)
set_option maxHeartbeats 4000000 in
set_option maxRecDepth 100000 in
theorem b_X12_readPart_b56 {N d : Nat} {rec : Int32 → Sg → Option Sg} {x2 : Int32} {σ : Sg} {z : Sg} (C : Cx p s m args meth c cX12_readPart 3 none RX12 g A X) (hrec : ∀ (x : Int32) (σ : Sg) (z : Sg), rec x σ = some z → MetV l yX12_readExpression (Cond.code yX12_readExpression cX12_readExpression 3 none :: wsA) (rm_X12_readExpression d) mw g X [.ref (g.2.2 0), .int x] σ z) (hf : f_X12_readPart_b56 N rec x2 σ = some z) : Bk mw p l e (rm_X12_readPart (d + 1)) s m args below meth c 3 g A (MQ below (qV mw g A z) args s 0 0 A) 0 0 56 [(0, .ref (g.2.2 0)), (2, .int x2)] [] σ := by
  obtain ⟨hx, hb, hr, hml, hown, hts, hK, hlocks, hXX, hA, hXo⟩ := id C
  intro H locs ls hP hD hS hl
  unfold f_X12_readPart_b56 at hf
  refine lv_aload_n hx hb dX12_readPart_56 rfl (lv_at hl 0 rfl) ?_
  refine lv_iconst (v := (-1 : Int32)) hx hb dX12_readPart_57 (by decide) ?_
  refine lv_iload_n hx hb dX12_readPart_58 rfl (lv_at hl 1 rfl) ?_
  refine lv_isub hx hb dX12_readPart_59 ?_
  obtain ⟨q1, hq1, hf⟩ := bi_s hf
  refine bk_VV (wf := mw) (q0 := 0) (ci := 11) (rest := []) [.int ((-1 : Int32) - x2)] C hP hD hS hl.1 (c_X12_lay hXo hq1) (cwA_V 1 hts wa_583 wa_580 wa_581 wa_582 wa_5 rfl rfl nd_X12_lay ⟨by dsimp only [rm_X12_lay, rm_X12_readPart]; omega, by dsimp only [rm_X12_lay, rm_X12_readPart]; omega⟩) rfl rfl rfl rfl (Nat.le_of_ble_eq_true rfl) dX12_readPart_60 ⟨Nat.zero_le _, Nat.zero_le _⟩ (fun H locs hP hD hS => ?_)
  refine lv_aload_n hx hb dX12_readPart_63 rfl (lv_at hl 0 rfl) ?_
  refine bk_get (wf := mw) (q0 := 0) (ci := 11) (k := 20) (v := .int (q1 0 20)) C hP wl_X12 rfl rfl (by decide) wa_506 rfl rfl dX12_readPart_64 ?_
  refine lv_if_ne (tgt := 74) hx hb dX12_readPart_67 (by decide) (fun t67 => ?_) (fun t67 => ?_)
  · have hf := (if_neg t67).symm.trans hf
    cases hf
    exact bk_vret C hP hD hS rfl dX12_readPart_74
  · have hf := (if_pos t67).symm.trans hf
    refine lv_aload_n hx hb dX12_readPart_70 rfl (lv_at hl 0 rfl) ?_
    obtain ⟨q2, hq2, hf⟩ := bi_s hf
    refine bk_VV (wf := mw) (q0 := 0) (ci := 11) (rest := []) [] C hP hD hS hl.1 (c_X12_stepOn hXo hq2) (cwA_V 0 hts wa_516 wa_513 wa_514 wa_515 wa_5 rfl rfl nd_X12_stepOn ⟨by dsimp only [rm_X12_stepOn, rm_X12_readPart]; omega, by dsimp only [rm_X12_stepOn, rm_X12_readPart]; omega⟩) rfl rfl rfl rfl (Nat.le_of_ble_eq_true rfl) dX12_readPart_71 ⟨Nat.zero_le _, Nat.zero_le _⟩ (fun H locs hP hD hS => ?_)
    cases hf
    exact bk_vret C hP hD hS rfl dX12_readPart_74
def f_X12_readPart (N : Nat) (rec : Int32 → Sg → Option Sg) (x1 : Int32) (σ : Sg) : Option (Sg) :=
if (σ 0 20) = 0 then (if (σ 0 16) = (2 : Int32) then ((f_X12_readNumber N (0 : Int32) (9999 : Int32) σ).bind fun q9 =>
(f_X12_lay N q9.1 (q9.2)).bind fun q10 =>
some q10)
else (if (σ 0 16) = (1 : Int32) then ((f_X12_which_2 N σ).bind fun q6 =>
bd q6.1 fun v7 =>
if v7 = (-1 : Int32) then ((f_X12_wrong N (3 : Int32) (q6.2)).bind fun q8 =>
f_X12_readPart_b56 N rec v7 q8)
else (f_X12_readPart_b56 N rec v7 (q6.2)))
else ((f_X12_mark N (40 : Int32) σ).bind fun q3 =>
(rec (x1 + (1 : Int32)) q3).bind fun q4 =>
(f_X12_mark N (41 : Int32) q4).bind fun q5 =>
some q5)))
else (some σ)
set_option maxHeartbeats 4000000 in
set_option maxRecDepth 100000 in
theorem b_X12_readPart {N d : Nat} {rec : Int32 → Sg → Option Sg} {x1 : Int32} {σ : Sg} {z : Sg} (C : Cx p s m args meth c cX12_readPart 3 none RX12 g A X) (hrec : ∀ (x : Int32) (σ : Sg) (z : Sg), rec x σ = some z → MetV l yX12_readExpression (Cond.code yX12_readExpression cX12_readExpression 3 none :: wsA) (rm_X12_readExpression d) mw g X [.ref (g.2.2 0), .int x] σ z) (hf : f_X12_readPart N rec x1 σ = some z) : Bk mw p l e (rm_X12_readPart (d + 1)) s m args below meth c 3 g A (MQ below (qV mw g A z) args s 0 0 A) 0 0 0 [(0, .ref (g.2.2 0)), (1, .int x1)] [] σ := by
  obtain ⟨hx, hb, hr, hml, hown, hts, hK, hlocks, hXX, hA, hXo⟩ := id C
  intro H locs ls hP hD hS hl
  unfold f_X12_readPart at hf
  refine lv_aload_n hx hb dX12_readPart_0 rfl (lv_at hl 0 rfl) ?_
  refine bk_get (wf := mw) (q0 := 0) (ci := 11) (k := 20) (v := .int (σ 0 20)) C hP wl_X12 rfl rfl (by decide) wa_506 rfl rfl dX12_readPart_1 ?_
  refine lv_if_eq (tgt := 8) hx hb dX12_readPart_4 (by decide) (fun t4 => ?_) (fun t4 => ?_)
  · have hf := (if_pos t4).symm.trans hf
    refine lv_aload_n hx hb dX12_readPart_8 rfl (lv_at hl 0 rfl) ?_
    refine bk_get (wf := mw) (q0 := 0) (ci := 11) (k := 16) (v := .int (σ 0 16)) C hP wl_X12 rfl rfl (by decide) wa_507 rfl rfl dX12_readPart_9 ?_
    refine lv_iconst (v := (2 : Int32)) hx hb dX12_readPart_12 (by decide) ?_
    refine lv_icmp_ne (tgt := 29) hx hb dX12_readPart_13 (by decide) (fun t13 => ?_) (fun t13 => ?_)
    · have hf := (if_neg t13).symm.trans hf
      refine lv_aload_n hx hb dX12_readPart_29 rfl (lv_at hl 0 rfl) ?_
      refine bk_get (wf := mw) (q0 := 0) (ci := 11) (k := 16) (v := .int (σ 0 16)) C hP wl_X12 rfl rfl (by decide) wa_507 rfl rfl dX12_readPart_30 ?_
      refine lv_iconst (v := (1 : Int32)) hx hb dX12_readPart_33 (by decide) ?_
      refine lv_icmp_ne (tgt := 75) hx hb dX12_readPart_34 (by decide) (fun t34 => ?_) (fun t34 => ?_)
      · have hf := (if_neg t34).symm.trans hf
        refine lv_aload_n hx hb dX12_readPart_75 rfl (lv_at hl 0 rfl) ?_
        refine lv_bipush (v := (40 : Int32)) hx hb dX12_readPart_76 (by decide) ?_
        obtain ⟨q3, hq3, hf⟩ := bi_s hf
        refine bk_VV (wf := mw) (q0 := 0) (ci := 11) (rest := []) [.int (40 : Int32)] C hP hD hS hl.1 (c_X12_mark hXo hq3) (cwA_V 1 hts wa_596 wa_593 wa_594 wa_595 wa_5 rfl rfl nd_X12_mark ⟨by dsimp only [rm_X12_mark, rm_X12_readPart]; omega, by dsimp only [rm_X12_mark, rm_X12_readPart]; omega⟩) rfl rfl rfl rfl (Nat.le_of_ble_eq_true rfl) dX12_readPart_78 ⟨Nat.zero_le _, Nat.zero_le _⟩ (fun H locs hP hD hS => ?_)
        refine lv_aload_n hx hb dX12_readPart_81 rfl (lv_at hl 0 rfl) ?_
        refine lv_iload_n hx hb dX12_readPart_82 rfl (lv_at hl 1 rfl) ?_
        refine lv_iconst (v := (1 : Int32)) hx hb dX12_readPart_83 (by decide) ?_
        refine lv_iadd hx hb dX12_readPart_84 ?_
        obtain ⟨q4, hq4, hf⟩ := bi_s hf
        refine bk_VV (wf := mw) (q0 := 0) (ci := 11) (rest := []) [.int (x1 + (1 : Int32))] C hP hD hS hl.1 (hrec _ _ _ hq4) (cwA_V 1 hts wa_572 wa_569 wa_570 wa_571 wa_5 rfl rfl nd_X12_readExpression ⟨by dsimp only [rm_X12_readExpression, rm_X12_readPart]; omega, by dsimp only [rm_X12_readExpression, rm_X12_readPart]; omega⟩) rfl rfl rfl rfl (Nat.le_of_ble_eq_true rfl) dX12_readPart_85 ⟨Nat.zero_le _, Nat.zero_le _⟩ (fun H locs hP hD hS => ?_)
        refine lv_aload_n hx hb dX12_readPart_88 rfl (lv_at hl 0 rfl) ?_
        refine lv_bipush (v := (41 : Int32)) hx hb dX12_readPart_89 (by decide) ?_
        obtain ⟨q5, hq5, hf⟩ := bi_s hf
        refine bk_VV (wf := mw) (q0 := 0) (ci := 11) (rest := []) [.int (41 : Int32)] C hP hD hS hl.1 (c_X12_mark hXo hq5) (cwA_V 1 hts wa_596 wa_593 wa_594 wa_595 wa_5 rfl rfl nd_X12_mark ⟨by dsimp only [rm_X12_mark, rm_X12_readPart]; omega, by dsimp only [rm_X12_mark, rm_X12_readPart]; omega⟩) rfl rfl rfl rfl (Nat.le_of_ble_eq_true rfl) dX12_readPart_91 ⟨Nat.zero_le _, Nat.zero_le _⟩ (fun H locs hP hD hS => ?_)
        cases hf
        exact bk_vret C hP hD hS rfl dX12_readPart_94
      · have hf := (if_pos t34).symm.trans hf
        refine lv_aload_n hx hb dX12_readPart_37 rfl (lv_at hl 0 rfl) ?_
        refine lv_aload_n hx hb dX12_readPart_38 rfl (lv_at hl 0 rfl) ?_
        refine bk_get (wf := mw) (q0 := 0) (ci := 11) (k := 1) (v := .ref (g.2.2 2)) C hP wl_X12 rfl rfl (by decide) wa_156 rfl rfl dX12_readPart_39 ?_
        obtain ⟨q6, hq6, hf⟩ := bi_s hf
        refine bk_VI (wf := mw) (q0 := 0) (ci := 11) (rest := []) [.ref (g.2.2 2)] C hP hD hS hl.1 (c_X12_which_2 hXo hq6) (cwA_V 1 hts wa_542 wa_539 wa_540 wa_541 wa_5 rfl rfl nd_X12_which ⟨by dsimp only [rm_X12_which_2, rm_X12_readPart]; omega, by dsimp only [rm_X12_which_2, rm_X12_readPart]; omega⟩) rfl rfl rfl rfl (Nat.le_of_ble_eq_true rfl) dX12_readPart_42 ⟨Nat.zero_le _, Nat.zero_le _⟩ (fun H locs hP hD hS => ?_)
        obtain ⟨v7, ev7, hf⟩ := bd_s hf
        rw [← ev7]
        refine lv_istore_n (lv' := [(2, .int v7), (0, .ref (g.2.2 0)), (1, .int x1)]) hx hb dX12_readPart_45 rfl hl (by decide) rfl (fun ls hl => ?_)
        refine lv_iload_n hx hb dX12_readPart_46 rfl (lv_at hl 0 rfl) ?_
        refine lv_iconst (v := (-1 : Int32)) hx hb dX12_readPart_47 (by decide) ?_
        refine lv_icmp_ne (tgt := 56) hx hb dX12_readPart_48 (by decide) (fun t48 => ?_) (fun t48 => ?_)
        · have hf := (if_neg t48).symm.trans hf
          exact b_X12_readPart_b56 C hrec hf H locs ls hP hD hS (lv_sub hl [1, 0] rfl)
        · have hf := (if_pos t48).symm.trans hf
          refine lv_aload_n hx hb dX12_readPart_51 rfl (lv_at hl 1 rfl) ?_
          refine lv_iconst (v := (3 : Int32)) hx hb dX12_readPart_52 (by decide) ?_
          obtain ⟨q8, hq8, hf⟩ := bi_s hf
          refine bk_VV (wf := mw) (q0 := 0) (ci := 11) (rest := []) [.int (3 : Int32)] C hP hD hS hl.1 (c_X12_wrong hXo hq8) (cwA_V 1 hts wa_552 wa_549 wa_550 wa_551 wa_5 rfl rfl nd_X12_wrong ⟨by dsimp only [rm_X12_wrong, rm_X12_readPart]; omega, by dsimp only [rm_X12_wrong, rm_X12_readPart]; omega⟩) rfl rfl rfl rfl (Nat.le_of_ble_eq_true rfl) dX12_readPart_53 ⟨Nat.zero_le _, Nat.zero_le _⟩ (fun H locs hP hD hS => ?_)
          exact b_X12_readPart_b56 C hrec hf H locs ls hP hD hS (lv_sub hl [1, 0] rfl)
    · have hf := (if_pos t13).symm.trans hf
      refine lv_aload_n hx hb dX12_readPart_16 rfl (lv_at hl 0 rfl) ?_
      refine lv_aload_n hx hb dX12_readPart_17 rfl (lv_at hl 0 rfl) ?_
      refine lv_iconst (v := (0 : Int32)) hx hb dX12_readPart_18 (by decide) ?_
      refine lv_sipush (v := (9999 : Int32)) hx hb dX12_readPart_19 (by decide) ?_
      obtain ⟨q9, hq9, hf⟩ := bi_s hf
      refine bk_VI (wf := mw) (q0 := 0) (ci := 11) (rest := [.ref (g.2.2 0)]) [.int (0 : Int32), .int (9999 : Int32)] C hP hD hS hl.1 (c_X12_readNumber hXo hq9) (cwA_V 2 hts wa_564 wa_561 wa_562 wa_563 wa_5 rfl rfl nd_X12_readNumber ⟨by dsimp only [rm_X12_readNumber, rm_X12_readPart]; omega, by dsimp only [rm_X12_readNumber, rm_X12_readPart]; omega⟩) rfl rfl rfl rfl (Nat.le_of_ble_eq_true rfl) dX12_readPart_22 ⟨Nat.zero_le _, Nat.zero_le _⟩ (fun H locs hP hD hS => ?_)
      obtain ⟨q10, hq10, hf⟩ := bi_s hf
      refine bk_VV (wf := mw) (q0 := 0) (ci := 11) (rest := []) [.int q9.1] C hP hD hS hl.1 (c_X12_lay hXo hq10) (cwA_V 1 hts wa_583 wa_580 wa_581 wa_582 wa_5 rfl rfl nd_X12_lay ⟨by dsimp only [rm_X12_lay, rm_X12_readPart]; omega, by dsimp only [rm_X12_lay, rm_X12_readPart]; omega⟩) rfl rfl rfl rfl (Nat.le_of_ble_eq_true rfl) dX12_readPart_25 ⟨Nat.zero_le _, Nat.zero_le _⟩ (fun H locs hP hD hS => ?_)
      cases hf
      exact bk_vret C hP hD hS rfl dX12_readPart_28
  · have hf := (if_neg t4).symm.trans hf
    cases hf
    exact bk_vret C hP hD hS rfl dX12_readPart_7
theorem c_X12_readPart {N d : Nat} {rec : Int32 → Sg → Option Sg} {x1 : Int32} {σ : Sg} {z : Sg} (hX : xOK g X) (hrec : ∀ (x : Int32) (σ : Sg) (z : Sg), rec x σ = some z → MetV l yX12_readExpression (Cond.code yX12_readExpression cX12_readExpression 3 none :: wsA) (rm_X12_readExpression d) mw g X [.ref (g.2.2 0), .int x] σ z) (hf : f_X12_readPart N rec x1 σ = some z) : MetV l yX12_readPart (Cond.code yX12_readPart cX12_readPart 3 none :: wsA) (rm_X12_readPart (d + 1)) mw g X [.ref (g.2.2 0), .int x1] σ z :=
  MetV_of hX (by decide) (Nat.le_of_ble_eq_true rfl) (fun p e s m args below meth c A C => b_X12_readPart C hrec hf)
-- X12_readProduct: readProduct(I)V
def f_X12_readProduct_b39 (N : Nat) (rec : Int32 → Sg → Option Sg) (x1 : Int32) (t0 : Int32) (σ : Sg) : Option (Nat × Sg) :=
(f_X12_stepOn N σ).bind fun q1 =>
(f_X12_readPart N rec x1 q1).bind fun q2 =>
(f_X12_lay N t0 q2).bind fun q3 =>
some (0, q3)
set_option maxHeartbeats 4000000 in
set_option maxRecDepth 100000 in
theorem b_X12_readProduct_b39 {N d : Nat} {rec : Int32 → Sg → Option Sg} {x1 : Int32} {t0 : Int32} {σ : Sg} {z : Nat × Sg} (C : Cx p s m args meth c cX12_readProduct 3 none RX12 g A X) (hrec : ∀ (x : Int32) (σ : Sg) (z : Sg), rec x σ = some z → MetV l yX12_readExpression (Cond.code yX12_readExpression cX12_readExpression 3 none :: wsA) (rm_X12_readExpression d) mw g X [.ref (g.2.2 0), .int x] σ z) (hf : f_X12_readProduct_b39 N rec x1 t0 σ = some z) (k0 : z.1 = 0 → Bk mw p l e (rm_X12_readProduct (d + 1)) s m args below meth c 3 g A Q 0 0 5 [(0, .ref (g.2.2 0)), (1, .int x1)] [] z.2) (k : ¬ z.1 = 0 → Bk mw p l e (rm_X12_readProduct (d + 1)) s m args below meth c 3 g A Q 0 0 57 [] [] z.2) : Bk mw p l e (rm_X12_readProduct (d + 1)) s m args below meth c 3 g A Q 0 0 39 [(0, .ref (g.2.2 0)), (1, .int x1)] [.int t0] σ := by
  obtain ⟨hx, hb, hr, hml, hown, hts, hK, hlocks, hXX, hA, hXo⟩ := id C
  intro H locs ls hP hD hS hl
  unfold f_X12_readProduct_b39 at hf
  refine lv_istore_n (lv' := [(2, .int t0), (0, .ref (g.2.2 0)), (1, .int x1)]) hx hb dX12_readProduct_39 rfl hl (by decide) rfl (fun ls hl => ?_)
  refine lv_aload_n hx hb dX12_readProduct_40 rfl (lv_at hl 1 rfl) ?_
  obtain ⟨q1, hq1, hf⟩ := bi_s hf
  refine bk_VV (wf := mw) (q0 := 0) (ci := 11) (rest := []) [] C hP hD hS hl.1 (c_X12_stepOn hXo hq1) (cwA_V 0 hts wa_516 wa_513 wa_514 wa_515 wa_5 rfl rfl nd_X12_stepOn ⟨by dsimp only [rm_X12_stepOn, rm_X12_readProduct]; omega, by dsimp only [rm_X12_stepOn, rm_X12_readProduct]; omega⟩) rfl rfl rfl rfl (Nat.le_of_ble_eq_true rfl) dX12_readProduct_41 ⟨Nat.zero_le _, Nat.zero_le _⟩ (fun H locs hP hD hS => ?_)
  refine lv_aload_n hx hb dX12_readProduct_44 rfl (lv_at hl 1 rfl) ?_
  refine lv_iload_n hx hb dX12_readProduct_45 rfl (lv_at hl 2 rfl) ?_
  obtain ⟨q2, hq2, hf⟩ := bi_s hf
  refine bk_VV (wf := mw) (q0 := 0) (ci := 11) (rest := []) [.int x1] C hP hD hS hl.1 (c_X12_readPart hXo hrec hq2) (cwA_V 1 hts wa_592 wa_598 wa_599 wa_600 wa_5 rfl rfl nd_X12_readPart ⟨by dsimp only [rm_X12_readPart, rm_X12_readProduct]; omega, by dsimp only [rm_X12_readPart, rm_X12_readProduct]; omega⟩) rfl rfl rfl rfl (Nat.le_of_ble_eq_true rfl) dX12_readProduct_46 ⟨Nat.zero_le _, Nat.zero_le _⟩ (fun H locs hP hD hS => ?_)
  refine lv_aload_n hx hb dX12_readProduct_49 rfl (lv_at hl 1 rfl) ?_
  refine lv_iload_n hx hb dX12_readProduct_50 rfl (lv_at hl 0 rfl) ?_
  obtain ⟨q3, hq3, hf⟩ := bi_s hf
  refine bk_VV (wf := mw) (q0 := 0) (ci := 11) (rest := []) [.int t0] C hP hD hS hl.1 (c_X12_lay hXo hq3) (cwA_V 1 hts wa_583 wa_580 wa_581 wa_582 wa_5 rfl rfl nd_X12_lay ⟨by dsimp only [rm_X12_lay, rm_X12_readProduct]; omega, by dsimp only [rm_X12_lay, rm_X12_readProduct]; omega⟩) rfl rfl rfl rfl (Nat.le_of_ble_eq_true rfl) dX12_readProduct_51 ⟨Nat.zero_le _, Nat.zero_le _⟩ (fun H locs hP hD hS => ?_)
  refine lv_goto (tgt := 5) hx hb dX12_readProduct_54 (by decide) ?_
  cases hf
  exact k0 rfl H locs ls hP hD hS (lv_sub hl [1, 2] rfl)
def f_X12_readProduct_b23 (N : Nat) (rec : Int32 → Sg → Option Sg) (x1 : Int32) (σ : Sg) : Option (Nat × Sg) :=
(f_X12_isMarked N (42 : Int32) σ).bind fun q4 =>
if q4.1 = 0 then (f_X12_readProduct_b39 N rec x1 (-23 : Int32) (q4.2))
else (f_X12_readProduct_b39 N rec x1 (-22 : Int32) (q4.2))
set_option maxHeartbeats 4000000 in
set_option maxRecDepth 100000 in
theorem b_X12_readProduct_b23 {N d : Nat} {rec : Int32 → Sg → Option Sg} {x1 : Int32} {σ : Sg} {z : Nat × Sg} (C : Cx p s m args meth c cX12_readProduct 3 none RX12 g A X) (hrec : ∀ (x : Int32) (σ : Sg) (z : Sg), rec x σ = some z → MetV l yX12_readExpression (Cond.code yX12_readExpression cX12_readExpression 3 none :: wsA) (rm_X12_readExpression d) mw g X [.ref (g.2.2 0), .int x] σ z) (hf : f_X12_readProduct_b23 N rec x1 σ = some z) (k0 : z.1 = 0 → Bk mw p l e (rm_X12_readProduct (d + 1)) s m args below meth c 3 g A Q 0 0 5 [(0, .ref (g.2.2 0)), (1, .int x1)] [] z.2) (k : ¬ z.1 = 0 → Bk mw p l e (rm_X12_readProduct (d + 1)) s m args below meth c 3 g A Q 0 0 57 [] [] z.2) : Bk mw p l e (rm_X12_readProduct (d + 1)) s m args below meth c 3 g A Q 0 0 23 [(0, .ref (g.2.2 0)), (1, .int x1)] [] σ := by
  obtain ⟨hx, hb, hr, hml, hown, hts, hK, hlocks, hXX, hA, hXo⟩ := id C
  intro H locs ls hP hD hS hl
  unfold f_X12_readProduct_b23 at hf
  refine lv_aload_n hx hb dX12_readProduct_23 rfl (lv_at hl 0 rfl) ?_
  refine lv_bipush (v := (42 : Int32)) hx hb dX12_readProduct_24 (by decide) ?_
  obtain ⟨q4, hq4, hf⟩ := bi_s hf
  refine bk_VI (wf := mw) (q0 := 0) (ci := 11) (rest := []) [.int (42 : Int32)] C hP hD hS hl.1 (c_X12_isMarked hXo hq4) (cwA_V 1 hts wa_576 wa_573 wa_574 wa_575 wa_5 rfl rfl nd_X12_isMarked ⟨by dsimp only [rm_X12_isMarked, rm_X12_readProduct]; omega, by dsimp only [rm_X12_isMarked, rm_X12_readProduct]; omega⟩) rfl rfl rfl rfl (Nat.le_of_ble_eq_true rfl) dX12_readProduct_26 ⟨Nat.zero_le _, Nat.zero_le _⟩ (fun H locs hP hD hS => ?_)
  refine lv_if_eq (tgt := 37) hx hb dX12_readProduct_29 (by decide) (fun t29 => ?_) (fun t29 => ?_)
  · have hf := (if_pos t29).symm.trans hf
    refine lv_bipush (v := (-23 : Int32)) hx hb dX12_readProduct_37 (by decide) ?_
    exact b_X12_readProduct_b39 C hrec hf k0 k H locs ls hP hD hS (lv_sub hl [0, 1] rfl)
  · have hf := (if_neg t29).symm.trans hf
    refine lv_bipush (v := (-22 : Int32)) hx hb dX12_readProduct_32 (by decide) ?_
    refine lv_goto (tgt := 39) hx hb dX12_readProduct_34 (by decide) ?_
    exact b_X12_readProduct_b39 C hrec hf k0 k H locs ls hP hD hS (lv_sub hl [0, 1] rfl)
def s_X12_readProduct_h5 (N : Nat) (rec : Int32 → Sg → Option Sg) (x1 : Int32) (σ : Sg) : Option (Nat × Sg) :=
(f_X12_isMarked N (42 : Int32) σ).bind fun q5 =>
if q5.1 = 0 then ((f_X12_isMarked N (47 : Int32) (q5.2)).bind fun q6 =>
if q6.1 = 0 then (some (1, (q6.2)))
else (f_X12_readProduct_b23 N rec x1 (q6.2)))
else (f_X12_readProduct_b23 N rec x1 (q5.2))
set_option maxHeartbeats 4000000 in
set_option maxRecDepth 100000 in
theorem e_X12_readProduct_h5 {N d : Nat} {rec : Int32 → Sg → Option Sg} {x1 : Int32} {σ : Sg} {z : Nat × Sg} (C : Cx p s m args meth c cX12_readProduct 3 none RX12 g A X) (hrec : ∀ (x : Int32) (σ : Sg) (z : Sg), rec x σ = some z → MetV l yX12_readExpression (Cond.code yX12_readExpression cX12_readExpression 3 none :: wsA) (rm_X12_readExpression d) mw g X [.ref (g.2.2 0), .int x] σ z) (hf : s_X12_readProduct_h5 N rec x1 σ = some z) (k0 : z.1 = 0 → Bk mw p l e (rm_X12_readProduct (d + 1)) s m args below meth c 3 g A Q 0 0 5 [(0, .ref (g.2.2 0)), (1, .int x1)] [] z.2) (k : ¬ z.1 = 0 → Bk mw p l e (rm_X12_readProduct (d + 1)) s m args below meth c 3 g A Q 0 0 57 [] [] z.2) : Bk mw p l e (rm_X12_readProduct (d + 1)) s m args below meth c 3 g A Q 0 0 5 [(0, .ref (g.2.2 0)), (1, .int x1)] [] σ := by
  obtain ⟨hx, hb, hr, hml, hown, hts, hK, hlocks, hXX, hA, hXo⟩ := id C
  intro H locs ls hP hD hS hl
  unfold s_X12_readProduct_h5 at hf
  refine lv_aload_n hx hb dX12_readProduct_5 rfl (lv_at hl 0 rfl) ?_
  refine lv_bipush (v := (42 : Int32)) hx hb dX12_readProduct_6 (by decide) ?_
  obtain ⟨q5, hq5, hf⟩ := bi_s hf
  refine bk_VI (wf := mw) (q0 := 0) (ci := 11) (rest := []) [.int (42 : Int32)] C hP hD hS hl.1 (c_X12_isMarked hXo hq5) (cwA_V 1 hts wa_576 wa_573 wa_574 wa_575 wa_5 rfl rfl nd_X12_isMarked ⟨by dsimp only [rm_X12_isMarked, rm_X12_readProduct]; omega, by dsimp only [rm_X12_isMarked, rm_X12_readProduct]; omega⟩) rfl rfl rfl rfl (Nat.le_of_ble_eq_true rfl) dX12_readProduct_8 ⟨Nat.zero_le _, Nat.zero_le _⟩ (fun H locs hP hD hS => ?_)
  refine lv_if_ne (tgt := 23) hx hb dX12_readProduct_11 (by decide) (fun t11 => ?_) (fun t11 => ?_)
  · have hf := (if_neg t11).symm.trans hf
    exact b_X12_readProduct_b23 C hrec hf k0 k H locs ls hP hD hS (lv_sub hl [0, 1] rfl)
  · have hf := (if_pos t11).symm.trans hf
    refine lv_aload_n hx hb dX12_readProduct_14 rfl (lv_at hl 0 rfl) ?_
    refine lv_bipush (v := (47 : Int32)) hx hb dX12_readProduct_15 (by decide) ?_
    obtain ⟨q6, hq6, hf⟩ := bi_s hf
    refine bk_VI (wf := mw) (q0 := 0) (ci := 11) (rest := []) [.int (47 : Int32)] C hP hD hS hl.1 (c_X12_isMarked hXo hq6) (cwA_V 1 hts wa_576 wa_573 wa_574 wa_575 wa_5 rfl rfl nd_X12_isMarked ⟨by dsimp only [rm_X12_isMarked, rm_X12_readProduct]; omega, by dsimp only [rm_X12_isMarked, rm_X12_readProduct]; omega⟩) rfl rfl rfl rfl (Nat.le_of_ble_eq_true rfl) dX12_readProduct_17 ⟨Nat.zero_le _, Nat.zero_le _⟩ (fun H locs hP hD hS => ?_)
    refine lv_if_eq (tgt := 57) hx hb dX12_readProduct_20 (by decide) (fun t20 => ?_) (fun t20 => ?_)
    · have hf := (if_pos t20).symm.trans hf
      cases hf
      exact (k (show ¬ (1 : Nat) = 0 by decide)) H locs ls hP hD hS (lv_sub hl [] rfl)
    · have hf := (if_neg t20).symm.trans hf
      exact b_X12_readProduct_b23 C hrec hf k0 k H locs ls hP hD hS (lv_sub hl [0, 1] rfl)
theorem lp_X12_readProduct_h5 {N d : Nat} {rec : Int32 → Sg → Option Sg} {n : Nat} {x1 : Int32} {σ : Sg} {z : Nat × Sg} (C : Cx p s m args meth c cX12_readProduct 3 none RX12 g A X) (hrec : ∀ (x : Int32) (σ : Sg) (z : Sg), rec x σ = some z → MetV l yX12_readExpression (Cond.code yX12_readExpression cX12_readExpression 3 none :: wsA) (rm_X12_readExpression d) mw g X [.ref (g.2.2 0), .int x] σ z) (hz : it (fun q => s_X12_readProduct_h5 N rec x1 q) n (σ) = some z) (k : Bk mw p l e (rm_X12_readProduct (d + 1)) s m args below meth c 3 g A Q 0 0 57 [] [] z.2) : Bk mw p l e (rm_X12_readProduct (d + 1)) s m args below meth c 3 g A Q 0 0 5 [(0, .ref (g.2.2 0)), (1, .int x1)] [] σ :=
  it_W (S := Sg) (fun q => Bk mw p l e (rm_X12_readProduct (d + 1)) s m args below meth c 3 g A Q 0 0 5 [(0, .ref (g.2.2 0)), (1, .int x1)] [] q) (fun z => Bk mw p l e (rm_X12_readProduct (d + 1)) s m args below meth c 3 g A Q 0 0 57 [] [] z.2) (fun q z hq k0 k => e_X12_readProduct_h5 C hrec hq k0 k) n (σ) z hz k
def f_X12_readProduct (N : Nat) (rec : Int32 → Sg → Option Sg) (x1 : Int32) (σ : Sg) : Option (Sg) :=
(f_X12_readPart N rec x1 σ).bind fun q7 =>
(it (fun q => s_X12_readProduct_h5 N rec x1 q) N (q7)).bind fun z8 =>
some (z8.2)
set_option maxHeartbeats 4000000 in
set_option maxRecDepth 100000 in
theorem b_X12_readProduct {N d : Nat} {rec : Int32 → Sg → Option Sg} {x1 : Int32} {σ : Sg} {z : Sg} (C : Cx p s m args meth c cX12_readProduct 3 none RX12 g A X) (hrec : ∀ (x : Int32) (σ : Sg) (z : Sg), rec x σ = some z → MetV l yX12_readExpression (Cond.code yX12_readExpression cX12_readExpression 3 none :: wsA) (rm_X12_readExpression d) mw g X [.ref (g.2.2 0), .int x] σ z) (hf : f_X12_readProduct N rec x1 σ = some z) : Bk mw p l e (rm_X12_readProduct (d + 1)) s m args below meth c 3 g A (MQ below (qV mw g A z) args s 0 0 A) 0 0 0 [(0, .ref (g.2.2 0)), (1, .int x1)] [] σ := by
  obtain ⟨hx, hb, hr, hml, hown, hts, hK, hlocks, hXX, hA, hXo⟩ := id C
  intro H locs ls hP hD hS hl
  unfold f_X12_readProduct at hf
  refine lv_aload_n hx hb dX12_readProduct_0 rfl (lv_at hl 0 rfl) ?_
  refine lv_iload_n hx hb dX12_readProduct_1 rfl (lv_at hl 1 rfl) ?_
  obtain ⟨q7, hq7, hf⟩ := bi_s hf
  refine bk_VV (wf := mw) (q0 := 0) (ci := 11) (rest := []) [.int x1] C hP hD hS hl.1 (c_X12_readPart hXo hrec hq7) (cwA_V 1 hts wa_592 wa_598 wa_599 wa_600 wa_5 rfl rfl nd_X12_readPart ⟨by dsimp only [rm_X12_readPart, rm_X12_readProduct]; omega, by dsimp only [rm_X12_readPart, rm_X12_readProduct]; omega⟩) rfl rfl rfl rfl (Nat.le_of_ble_eq_true rfl) dX12_readProduct_2 ⟨Nat.zero_le _, Nat.zero_le _⟩ (fun H locs hP hD hS => ?_)
  obtain ⟨z8, hz8, hf⟩ := bi_s hf
  refine lp_X12_readProduct_h5 C hrec hz8 ?_ H locs ls hP hD hS (lv_sub hl [0, 1] rfl)
  intro H locs ls hP hD hS hl
  cases hf
  exact bk_vret C hP hD hS rfl dX12_readProduct_57
theorem c_X12_readProduct {N d : Nat} {rec : Int32 → Sg → Option Sg} {x1 : Int32} {σ : Sg} {z : Sg} (hX : xOK g X) (hrec : ∀ (x : Int32) (σ : Sg) (z : Sg), rec x σ = some z → MetV l yX12_readExpression (Cond.code yX12_readExpression cX12_readExpression 3 none :: wsA) (rm_X12_readExpression d) mw g X [.ref (g.2.2 0), .int x] σ z) (hf : f_X12_readProduct N rec x1 σ = some z) : MetV l yX12_readProduct (Cond.code yX12_readProduct cX12_readProduct 3 none :: wsA) (rm_X12_readProduct (d + 1)) mw g X [.ref (g.2.2 0), .int x1] σ z :=
  MetV_of hX (by decide) (Nat.le_of_ble_eq_true rfl) (fun p e s m args below meth c A C => b_X12_readProduct C hrec hf)
-- X12_readSum: readSum(I)V
def f_X12_readSum_b39 (N : Nat) (rec : Int32 → Sg → Option Sg) (x1 : Int32) (t0 : Int32) (σ : Sg) : Option (Nat × Sg) :=
(f_X12_stepOn N σ).bind fun q1 =>
(f_X12_readProduct N rec x1 q1).bind fun q2 =>
(f_X12_lay N t0 q2).bind fun q3 =>
some (0, q3)
set_option maxHeartbeats 4000000 in
set_option maxRecDepth 100000 in
theorem b_X12_readSum_b39 {N d : Nat} {rec : Int32 → Sg → Option Sg} {x1 : Int32} {t0 : Int32} {σ : Sg} {z : Nat × Sg} (C : Cx p s m args meth c cX12_readSum 3 none RX12 g A X) (hrec : ∀ (x : Int32) (σ : Sg) (z : Sg), rec x σ = some z → MetV l yX12_readExpression (Cond.code yX12_readExpression cX12_readExpression 3 none :: wsA) (rm_X12_readExpression d) mw g X [.ref (g.2.2 0), .int x] σ z) (hf : f_X12_readSum_b39 N rec x1 t0 σ = some z) (k0 : z.1 = 0 → Bk mw p l e (rm_X12_readSum (d + 1)) s m args below meth c 3 g A Q 0 0 5 [(0, .ref (g.2.2 0)), (1, .int x1)] [] z.2) (k : ¬ z.1 = 0 → Bk mw p l e (rm_X12_readSum (d + 1)) s m args below meth c 3 g A Q 0 0 57 [] [] z.2) : Bk mw p l e (rm_X12_readSum (d + 1)) s m args below meth c 3 g A Q 0 0 39 [(0, .ref (g.2.2 0)), (1, .int x1)] [.int t0] σ := by
  obtain ⟨hx, hb, hr, hml, hown, hts, hK, hlocks, hXX, hA, hXo⟩ := id C
  intro H locs ls hP hD hS hl
  unfold f_X12_readSum_b39 at hf
  refine lv_istore_n (lv' := [(2, .int t0), (0, .ref (g.2.2 0)), (1, .int x1)]) hx hb dX12_readSum_39 rfl hl (by decide) rfl (fun ls hl => ?_)
  refine lv_aload_n hx hb dX12_readSum_40 rfl (lv_at hl 1 rfl) ?_
  obtain ⟨q1, hq1, hf⟩ := bi_s hf
  refine bk_VV (wf := mw) (q0 := 0) (ci := 11) (rest := []) [] C hP hD hS hl.1 (c_X12_stepOn hXo hq1) (cwA_V 0 hts wa_516 wa_513 wa_514 wa_515 wa_5 rfl rfl nd_X12_stepOn ⟨by dsimp only [rm_X12_stepOn, rm_X12_readSum]; omega, by dsimp only [rm_X12_stepOn, rm_X12_readSum]; omega⟩) rfl rfl rfl rfl (Nat.le_of_ble_eq_true rfl) dX12_readSum_41 ⟨Nat.zero_le _, Nat.zero_le _⟩ (fun H locs hP hD hS => ?_)
  refine lv_aload_n hx hb dX12_readSum_44 rfl (lv_at hl 1 rfl) ?_
  refine lv_iload_n hx hb dX12_readSum_45 rfl (lv_at hl 2 rfl) ?_
  obtain ⟨q2, hq2, hf⟩ := bi_s hf
  refine bk_VV (wf := mw) (q0 := 0) (ci := 11) (rest := []) [.int x1] C hP hD hS hl.1 (c_X12_readProduct hXo hrec hq2) (cwA_V 1 hts wa_597 wa_602 wa_603 wa_604 wa_5 rfl rfl nd_X12_readProduct ⟨by dsimp only [rm_X12_readProduct, rm_X12_readSum]; omega, by dsimp only [rm_X12_readProduct, rm_X12_readSum]; omega⟩) rfl rfl rfl rfl (Nat.le_of_ble_eq_true rfl) dX12_readSum_46 ⟨Nat.zero_le _, Nat.zero_le _⟩ (fun H locs hP hD hS => ?_)
  refine lv_aload_n hx hb dX12_readSum_49 rfl (lv_at hl 1 rfl) ?_
  refine lv_iload_n hx hb dX12_readSum_50 rfl (lv_at hl 0 rfl) ?_
  obtain ⟨q3, hq3, hf⟩ := bi_s hf
  refine bk_VV (wf := mw) (q0 := 0) (ci := 11) (rest := []) [.int t0] C hP hD hS hl.1 (c_X12_lay hXo hq3) (cwA_V 1 hts wa_583 wa_580 wa_581 wa_582 wa_5 rfl rfl nd_X12_lay ⟨by dsimp only [rm_X12_lay, rm_X12_readSum]; omega, by dsimp only [rm_X12_lay, rm_X12_readSum]; omega⟩) rfl rfl rfl rfl (Nat.le_of_ble_eq_true rfl) dX12_readSum_51 ⟨Nat.zero_le _, Nat.zero_le _⟩ (fun H locs hP hD hS => ?_)
  refine lv_goto (tgt := 5) hx hb dX12_readSum_54 (by decide) ?_
  cases hf
  exact k0 rfl H locs ls hP hD hS (lv_sub hl [1, 2] rfl)
def f_X12_readSum_b23 (N : Nat) (rec : Int32 → Sg → Option Sg) (x1 : Int32) (σ : Sg) : Option (Nat × Sg) :=
(f_X12_isMarked N (43 : Int32) σ).bind fun q4 =>
if q4.1 = 0 then (f_X12_readSum_b39 N rec x1 (-21 : Int32) (q4.2))
else (f_X12_readSum_b39 N rec x1 (-20 : Int32) (q4.2))
set_option maxHeartbeats 4000000 in
set_option maxRecDepth 100000 in
theorem b_X12_readSum_b23 {N d : Nat} {rec : Int32 → Sg → Option Sg} {x1 : Int32} {σ : Sg} {z : Nat × Sg} (C : Cx p s m args meth c cX12_readSum 3 none RX12 g A X) (hrec : ∀ (x : Int32) (σ : Sg) (z : Sg), rec x σ = some z → MetV l yX12_readExpression (Cond.code yX12_readExpression cX12_readExpression 3 none :: wsA) (rm_X12_readExpression d) mw g X [.ref (g.2.2 0), .int x] σ z) (hf : f_X12_readSum_b23 N rec x1 σ = some z) (k0 : z.1 = 0 → Bk mw p l e (rm_X12_readSum (d + 1)) s m args below meth c 3 g A Q 0 0 5 [(0, .ref (g.2.2 0)), (1, .int x1)] [] z.2) (k : ¬ z.1 = 0 → Bk mw p l e (rm_X12_readSum (d + 1)) s m args below meth c 3 g A Q 0 0 57 [] [] z.2) : Bk mw p l e (rm_X12_readSum (d + 1)) s m args below meth c 3 g A Q 0 0 23 [(0, .ref (g.2.2 0)), (1, .int x1)] [] σ := by
  obtain ⟨hx, hb, hr, hml, hown, hts, hK, hlocks, hXX, hA, hXo⟩ := id C
  intro H locs ls hP hD hS hl
  unfold f_X12_readSum_b23 at hf
  refine lv_aload_n hx hb dX12_readSum_23 rfl (lv_at hl 0 rfl) ?_
  refine lv_bipush (v := (43 : Int32)) hx hb dX12_readSum_24 (by decide) ?_
  obtain ⟨q4, hq4, hf⟩ := bi_s hf
  refine bk_VI (wf := mw) (q0 := 0) (ci := 11) (rest := []) [.int (43 : Int32)] C hP hD hS hl.1 (c_X12_isMarked hXo hq4) (cwA_V 1 hts wa_576 wa_573 wa_574 wa_575 wa_5 rfl rfl nd_X12_isMarked ⟨by dsimp only [rm_X12_isMarked, rm_X12_readSum]; omega, by dsimp only [rm_X12_isMarked, rm_X12_readSum]; omega⟩) rfl rfl rfl rfl (Nat.le_of_ble_eq_true rfl) dX12_readSum_26 ⟨Nat.zero_le _, Nat.zero_le _⟩ (fun H locs hP hD hS => ?_)
  refine lv_if_eq (tgt := 37) hx hb dX12_readSum_29 (by decide) (fun t29 => ?_) (fun t29 => ?_)
  · have hf := (if_pos t29).symm.trans hf
    refine lv_bipush (v := (-21 : Int32)) hx hb dX12_readSum_37 (by decide) ?_
    exact b_X12_readSum_b39 C hrec hf k0 k H locs ls hP hD hS (lv_sub hl [0, 1] rfl)
  · have hf := (if_neg t29).symm.trans hf
    refine lv_bipush (v := (-20 : Int32)) hx hb dX12_readSum_32 (by decide) ?_
    refine lv_goto (tgt := 39) hx hb dX12_readSum_34 (by decide) ?_
    exact b_X12_readSum_b39 C hrec hf k0 k H locs ls hP hD hS (lv_sub hl [0, 1] rfl)
def s_X12_readSum_h5 (N : Nat) (rec : Int32 → Sg → Option Sg) (x1 : Int32) (σ : Sg) : Option (Nat × Sg) :=
(f_X12_isMarked N (43 : Int32) σ).bind fun q5 =>
if q5.1 = 0 then ((f_X12_isMarked N (45 : Int32) (q5.2)).bind fun q6 =>
if q6.1 = 0 then (some (1, (q6.2)))
else (f_X12_readSum_b23 N rec x1 (q6.2)))
else (f_X12_readSum_b23 N rec x1 (q5.2))
set_option maxHeartbeats 4000000 in
set_option maxRecDepth 100000 in
theorem e_X12_readSum_h5 {N d : Nat} {rec : Int32 → Sg → Option Sg} {x1 : Int32} {σ : Sg} {z : Nat × Sg} (C : Cx p s m args meth c cX12_readSum 3 none RX12 g A X) (hrec : ∀ (x : Int32) (σ : Sg) (z : Sg), rec x σ = some z → MetV l yX12_readExpression (Cond.code yX12_readExpression cX12_readExpression 3 none :: wsA) (rm_X12_readExpression d) mw g X [.ref (g.2.2 0), .int x] σ z) (hf : s_X12_readSum_h5 N rec x1 σ = some z) (k0 : z.1 = 0 → Bk mw p l e (rm_X12_readSum (d + 1)) s m args below meth c 3 g A Q 0 0 5 [(0, .ref (g.2.2 0)), (1, .int x1)] [] z.2) (k : ¬ z.1 = 0 → Bk mw p l e (rm_X12_readSum (d + 1)) s m args below meth c 3 g A Q 0 0 57 [] [] z.2) : Bk mw p l e (rm_X12_readSum (d + 1)) s m args below meth c 3 g A Q 0 0 5 [(0, .ref (g.2.2 0)), (1, .int x1)] [] σ := by
  obtain ⟨hx, hb, hr, hml, hown, hts, hK, hlocks, hXX, hA, hXo⟩ := id C
  intro H locs ls hP hD hS hl
  unfold s_X12_readSum_h5 at hf
  refine lv_aload_n hx hb dX12_readSum_5 rfl (lv_at hl 0 rfl) ?_
  refine lv_bipush (v := (43 : Int32)) hx hb dX12_readSum_6 (by decide) ?_
  obtain ⟨q5, hq5, hf⟩ := bi_s hf
  refine bk_VI (wf := mw) (q0 := 0) (ci := 11) (rest := []) [.int (43 : Int32)] C hP hD hS hl.1 (c_X12_isMarked hXo hq5) (cwA_V 1 hts wa_576 wa_573 wa_574 wa_575 wa_5 rfl rfl nd_X12_isMarked ⟨by dsimp only [rm_X12_isMarked, rm_X12_readSum]; omega, by dsimp only [rm_X12_isMarked, rm_X12_readSum]; omega⟩) rfl rfl rfl rfl (Nat.le_of_ble_eq_true rfl) dX12_readSum_8 ⟨Nat.zero_le _, Nat.zero_le _⟩ (fun H locs hP hD hS => ?_)
  refine lv_if_ne (tgt := 23) hx hb dX12_readSum_11 (by decide) (fun t11 => ?_) (fun t11 => ?_)
  · have hf := (if_neg t11).symm.trans hf
    exact b_X12_readSum_b23 C hrec hf k0 k H locs ls hP hD hS (lv_sub hl [0, 1] rfl)
  · have hf := (if_pos t11).symm.trans hf
    refine lv_aload_n hx hb dX12_readSum_14 rfl (lv_at hl 0 rfl) ?_
    refine lv_bipush (v := (45 : Int32)) hx hb dX12_readSum_15 (by decide) ?_
    obtain ⟨q6, hq6, hf⟩ := bi_s hf
    refine bk_VI (wf := mw) (q0 := 0) (ci := 11) (rest := []) [.int (45 : Int32)] C hP hD hS hl.1 (c_X12_isMarked hXo hq6) (cwA_V 1 hts wa_576 wa_573 wa_574 wa_575 wa_5 rfl rfl nd_X12_isMarked ⟨by dsimp only [rm_X12_isMarked, rm_X12_readSum]; omega, by dsimp only [rm_X12_isMarked, rm_X12_readSum]; omega⟩) rfl rfl rfl rfl (Nat.le_of_ble_eq_true rfl) dX12_readSum_17 ⟨Nat.zero_le _, Nat.zero_le _⟩ (fun H locs hP hD hS => ?_)
    refine lv_if_eq (tgt := 57) hx hb dX12_readSum_20 (by decide) (fun t20 => ?_) (fun t20 => ?_)
    · have hf := (if_pos t20).symm.trans hf
      cases hf
      exact (k (show ¬ (1 : Nat) = 0 by decide)) H locs ls hP hD hS (lv_sub hl [] rfl)
    · have hf := (if_neg t20).symm.trans hf
      exact b_X12_readSum_b23 C hrec hf k0 k H locs ls hP hD hS (lv_sub hl [0, 1] rfl)
theorem lp_X12_readSum_h5 {N d : Nat} {rec : Int32 → Sg → Option Sg} {n : Nat} {x1 : Int32} {σ : Sg} {z : Nat × Sg} (C : Cx p s m args meth c cX12_readSum 3 none RX12 g A X) (hrec : ∀ (x : Int32) (σ : Sg) (z : Sg), rec x σ = some z → MetV l yX12_readExpression (Cond.code yX12_readExpression cX12_readExpression 3 none :: wsA) (rm_X12_readExpression d) mw g X [.ref (g.2.2 0), .int x] σ z) (hz : it (fun q => s_X12_readSum_h5 N rec x1 q) n (σ) = some z) (k : Bk mw p l e (rm_X12_readSum (d + 1)) s m args below meth c 3 g A Q 0 0 57 [] [] z.2) : Bk mw p l e (rm_X12_readSum (d + 1)) s m args below meth c 3 g A Q 0 0 5 [(0, .ref (g.2.2 0)), (1, .int x1)] [] σ :=
  it_W (S := Sg) (fun q => Bk mw p l e (rm_X12_readSum (d + 1)) s m args below meth c 3 g A Q 0 0 5 [(0, .ref (g.2.2 0)), (1, .int x1)] [] q) (fun z => Bk mw p l e (rm_X12_readSum (d + 1)) s m args below meth c 3 g A Q 0 0 57 [] [] z.2) (fun q z hq k0 k => e_X12_readSum_h5 C hrec hq k0 k) n (σ) z hz k
def f_X12_readSum (N : Nat) (rec : Int32 → Sg → Option Sg) (x1 : Int32) (σ : Sg) : Option (Sg) :=
(f_X12_readProduct N rec x1 σ).bind fun q7 =>
(it (fun q => s_X12_readSum_h5 N rec x1 q) N (q7)).bind fun z8 =>
some (z8.2)
set_option maxHeartbeats 4000000 in
set_option maxRecDepth 100000 in
theorem b_X12_readSum {N d : Nat} {rec : Int32 → Sg → Option Sg} {x1 : Int32} {σ : Sg} {z : Sg} (C : Cx p s m args meth c cX12_readSum 3 none RX12 g A X) (hrec : ∀ (x : Int32) (σ : Sg) (z : Sg), rec x σ = some z → MetV l yX12_readExpression (Cond.code yX12_readExpression cX12_readExpression 3 none :: wsA) (rm_X12_readExpression d) mw g X [.ref (g.2.2 0), .int x] σ z) (hf : f_X12_readSum N rec x1 σ = some z) : Bk mw p l e (rm_X12_readSum (d + 1)) s m args below meth c 3 g A (MQ below (qV mw g A z) args s 0 0 A) 0 0 0 [(0, .ref (g.2.2 0)), (1, .int x1)] [] σ := by
  obtain ⟨hx, hb, hr, hml, hown, hts, hK, hlocks, hXX, hA, hXo⟩ := id C
  intro H locs ls hP hD hS hl
  unfold f_X12_readSum at hf
  refine lv_aload_n hx hb dX12_readSum_0 rfl (lv_at hl 0 rfl) ?_
  refine lv_iload_n hx hb dX12_readSum_1 rfl (lv_at hl 1 rfl) ?_
  obtain ⟨q7, hq7, hf⟩ := bi_s hf
  refine bk_VV (wf := mw) (q0 := 0) (ci := 11) (rest := []) [.int x1] C hP hD hS hl.1 (c_X12_readProduct hXo hrec hq7) (cwA_V 1 hts wa_597 wa_602 wa_603 wa_604 wa_5 rfl rfl nd_X12_readProduct ⟨by dsimp only [rm_X12_readProduct, rm_X12_readSum]; omega, by dsimp only [rm_X12_readProduct, rm_X12_readSum]; omega⟩) rfl rfl rfl rfl (Nat.le_of_ble_eq_true rfl) dX12_readSum_2 ⟨Nat.zero_le _, Nat.zero_le _⟩ (fun H locs hP hD hS => ?_)
  obtain ⟨z8, hz8, hf⟩ := bi_s hf
  refine lp_X12_readSum_h5 C hrec hz8 ?_ H locs ls hP hD hS (lv_sub hl [0, 1] rfl)
  intro H locs ls hP hD hS hl
  cases hf
  exact bk_vret C hP hD hS rfl dX12_readSum_57
theorem c_X12_readSum {N d : Nat} {rec : Int32 → Sg → Option Sg} {x1 : Int32} {σ : Sg} {z : Sg} (hX : xOK g X) (hrec : ∀ (x : Int32) (σ : Sg) (z : Sg), rec x σ = some z → MetV l yX12_readExpression (Cond.code yX12_readExpression cX12_readExpression 3 none :: wsA) (rm_X12_readExpression d) mw g X [.ref (g.2.2 0), .int x] σ z) (hf : f_X12_readSum N rec x1 σ = some z) : MetV l yX12_readSum (Cond.code yX12_readSum cX12_readSum 3 none :: wsA) (rm_X12_readSum (d + 1)) mw g X [.ref (g.2.2 0), .int x1] σ z :=
  MetV_of hX (by decide) (Nat.le_of_ble_eq_true rfl) (fun p e s m args below meth c A C => b_X12_readSum C hrec hf)
-- X12_readNot: readNot(I)V
def s_X12_readNot_h95 (N : Nat) (rec : Int32 → Sg → Option Sg) (x2 : Int32) (x3 : Int32) (σ : Sg) : Option (Nat × Int32 × Sg) :=
if x2 ≤ x3 then (some (1, 0, σ))
else ((f_X12_lay N (-28 : Int32) σ).bind fun q1 =>
bd (x3 + (1 : Int32)) fun v2 =>
some (0, v2, q1))
set_option maxHeartbeats 4000000 in
set_option maxRecDepth 100000 in
theorem e_X12_readNot_h95 {N d : Nat} {rec : Int32 → Sg → Option Sg} {x2 : Int32} {x3 : Int32} {σ : Sg} {z : Nat × Int32 × Sg} (C : Cx p s m args meth c cX12_readNot 4 none RX12 g A X) (hrec : ∀ (x : Int32) (σ : Sg) (z : Sg), rec x σ = some z → MetV l yX12_readExpression (Cond.code yX12_readExpression cX12_readExpression 3 none :: wsA) (rm_X12_readExpression d) mw g X [.ref (g.2.2 0), .int x] σ z) (hf : s_X12_readNot_h95 N rec x2 x3 σ = some z) (k0 : z.1 = 0 → Bk mw p l e (rm_X12_readNot (d + 1)) s m args below meth c 4 g A Q 0 0 95 [(0, .ref (g.2.2 0)), (2, .int x2), (3, .int z.2.1)] [] z.2.2) (k : ¬ z.1 = 0 → Bk mw p l e (rm_X12_readNot (d + 1)) s m args below meth c 4 g A Q 0 0 112 [] [] z.2.2) : Bk mw p l e (rm_X12_readNot (d + 1)) s m args below meth c 4 g A Q 0 0 95 [(0, .ref (g.2.2 0)), (2, .int x2), (3, .int x3)] [] σ := by
  obtain ⟨hx, hb, hr, hml, hown, hts, hK, hlocks, hXX, hA, hXo⟩ := id C
  intro H locs ls hP hD hS hl
  unfold s_X12_readNot_h95 at hf
  refine lv_iload_n hx hb dX12_readNot_95 rfl (lv_at hl 2 rfl) ?_
  refine lv_iload_n hx hb dX12_readNot_96 rfl (lv_at hl 1 rfl) ?_
  refine lv_icmp_ge (tgt := 112) hx hb dX12_readNot_97 (by decide) (fun t97 => ?_) (fun t97 => ?_)
  · have hf := (if_pos t97).symm.trans hf
    cases hf
    exact (k (show ¬ (1 : Nat) = 0 by decide)) H locs ls hP hD hS (lv_sub hl [] rfl)
  · have hf := (if_neg t97).symm.trans hf
    refine lv_aload_n hx hb dX12_readNot_100 rfl (lv_at hl 0 rfl) ?_
    refine lv_bipush (v := (-28 : Int32)) hx hb dX12_readNot_101 (by decide) ?_
    obtain ⟨q1, hq1, hf⟩ := bi_s hf
    refine bk_VV (wf := mw) (q0 := 0) (ci := 11) (rest := []) [.int (-28 : Int32)] C hP hD hS hl.1 (c_X12_lay hXo hq1) (cwA_V 1 hts wa_583 wa_580 wa_581 wa_582 wa_5 rfl rfl nd_X12_lay ⟨by dsimp only [rm_X12_lay, rm_X12_readNot]; omega, by dsimp only [rm_X12_lay, rm_X12_readNot]; omega⟩) rfl rfl rfl rfl (Nat.le_of_ble_eq_true rfl) dX12_readNot_103 ⟨Nat.zero_le _, Nat.zero_le _⟩ (fun H locs hP hD hS => ?_)
    obtain ⟨v2, ev2, hf⟩ := bd_s hf
    refine lv_iinc (v := v2) (lv' := [(3, .int v2), (0, .ref (g.2.2 0)), (2, .int x2)]) hx hb dX12_readNot_106 hl (k := 2) rfl (by rw [ev2]; rfl) (by decide) rfl (fun ls hl => ?_)
    refine lv_goto (tgt := 95) hx hb dX12_readNot_109 (by decide) ?_
    cases hf
    exact k0 rfl H locs ls hP hD hS (lv_sub hl [1, 2, 0] rfl)
theorem lp_X12_readNot_h95 {N d : Nat} {rec : Int32 → Sg → Option Sg} {n : Nat} {x2 : Int32} {x3 : Int32} {σ : Sg} {z : Nat × Int32 × Sg} (C : Cx p s m args meth c cX12_readNot 4 none RX12 g A X) (hrec : ∀ (x : Int32) (σ : Sg) (z : Sg), rec x σ = some z → MetV l yX12_readExpression (Cond.code yX12_readExpression cX12_readExpression 3 none :: wsA) (rm_X12_readExpression d) mw g X [.ref (g.2.2 0), .int x] σ z) (hz : it (fun q => s_X12_readNot_h95 N rec x2 q.1 q.2) n (x3, σ) = some z) (k : Bk mw p l e (rm_X12_readNot (d + 1)) s m args below meth c 4 g A Q 0 0 112 [] [] z.2.2) : Bk mw p l e (rm_X12_readNot (d + 1)) s m args below meth c 4 g A Q 0 0 95 [(0, .ref (g.2.2 0)), (2, .int x2), (3, .int x3)] [] σ :=
  it_W (S := Int32 × Sg) (fun q => Bk mw p l e (rm_X12_readNot (d + 1)) s m args below meth c 4 g A Q 0 0 95 [(0, .ref (g.2.2 0)), (2, .int x2), (3, .int q.1)] [] q.2) (fun z => Bk mw p l e (rm_X12_readNot (d + 1)) s m args below meth c 4 g A Q 0 0 112 [] [] z.2.2) (fun q z hq k0 k => e_X12_readNot_h95 C hrec hq k0 k) n (x3, σ) z hz k
def f_X12_readNot_b22 (N : Nat) (rec : Int32 → Sg → Option Sg) (x1 : Int32) (x2 : Int32) (σ : Sg) : Option (Nat × Int32 × Sg) :=
bd (x2 + (1 : Int32)) fun v3 =>
if (σ 0 20) = 0 then ((f_X12_stepOn N σ).bind fun q4 =>
some (0, v3, q4))
else (some (0, v3, σ))
set_option maxHeartbeats 4000000 in
set_option maxRecDepth 100000 in
theorem b_X12_readNot_b22 {N d : Nat} {rec : Int32 → Sg → Option Sg} {x1 : Int32} {x2 : Int32} {σ : Sg} {z : Nat × Int32 × Sg} (C : Cx p s m args meth c cX12_readNot 4 none RX12 g A X) (hrec : ∀ (x : Int32) (σ : Sg) (z : Sg), rec x σ = some z → MetV l yX12_readExpression (Cond.code yX12_readExpression cX12_readExpression 3 none :: wsA) (rm_X12_readExpression d) mw g X [.ref (g.2.2 0), .int x] σ z) (hf : f_X12_readNot_b22 N rec x1 x2 σ = some z) (k0 : z.1 = 0 → Bk mw p l e (rm_X12_readNot (d + 1)) s m args below meth c 4 g A Q 0 0 2 [(0, .ref (g.2.2 0)), (1, .int x1), (2, .int z.2.1)] [] z.2.2) (k : ¬ z.1 = 0 → Bk mw p l e (rm_X12_readNot (d + 1)) s m args below meth c 4 g A Q 0 0 39 [(0, .ref (g.2.2 0)), (1, .int x1), (2, .int z.2.1)] [] z.2.2) : Bk mw p l e (rm_X12_readNot (d + 1)) s m args below meth c 4 g A Q 0 0 22 [(0, .ref (g.2.2 0)), (1, .int x1), (2, .int x2)] [] σ := by
  obtain ⟨hx, hb, hr, hml, hown, hts, hK, hlocks, hXX, hA, hXo⟩ := id C
  intro H locs ls hP hD hS hl
  unfold f_X12_readNot_b22 at hf
  obtain ⟨v3, ev3, hf⟩ := bd_s hf
  refine lv_iinc (v := v3) (lv' := [(2, .int v3), (0, .ref (g.2.2 0)), (1, .int x1)]) hx hb dX12_readNot_22 hl (k := 2) rfl (by rw [ev3]; rfl) (by decide) rfl (fun ls hl => ?_)
  refine lv_aload_n hx hb dX12_readNot_25 rfl (lv_at hl 1 rfl) ?_
  refine bk_get (wf := mw) (q0 := 0) (ci := 11) (k := 20) (v := .int (σ 0 20)) C hP wl_X12 rfl rfl (by decide) wa_506 rfl rfl dX12_readNot_26 ?_
  refine lv_if_ne (tgt := 2) hx hb dX12_readNot_29 (by decide) (fun t29 => ?_) (fun t29 => ?_)
  · have hf := (if_neg t29).symm.trans hf
    cases hf
    exact k0 rfl H locs ls hP hD hS (lv_sub hl [1, 2, 0] rfl)
  · have hf := (if_pos t29).symm.trans hf
    refine lv_aload_n hx hb dX12_readNot_32 rfl (lv_at hl 1 rfl) ?_
    obtain ⟨q4, hq4, hf⟩ := bi_s hf
    refine bk_VV (wf := mw) (q0 := 0) (ci := 11) (rest := []) [] C hP hD hS hl.1 (c_X12_stepOn hXo hq4) (cwA_V 0 hts wa_516 wa_513 wa_514 wa_515 wa_5 rfl rfl nd_X12_stepOn ⟨by dsimp only [rm_X12_stepOn, rm_X12_readNot]; omega, by dsimp only [rm_X12_stepOn, rm_X12_readNot]; omega⟩) rfl rfl rfl rfl (Nat.le_of_ble_eq_true rfl) dX12_readNot_33 ⟨Nat.zero_le _, Nat.zero_le _⟩ (fun H locs hP hD hS => ?_)
    refine lv_goto (tgt := 2) hx hb dX12_readNot_36 (by decide) ?_
    cases hf
    exact k0 rfl H locs ls hP hD hS (lv_sub hl [1, 2, 0] rfl)
def s_X12_readNot_h2 (N : Nat) (rec : Int32 → Sg → Option Sg) (x1 : Int32) (x2 : Int32) (σ : Sg) : Option (Nat × Int32 × Sg) :=
(f_X12_is N 8 σ).bind fun q5 =>
if q5.1 = 0 then (some (1, x2, (q5.2)))
else (if x2 = (6 : Int32) then ((f_X12_wrong N (2 : Int32) (q5.2)).bind fun q6 =>
f_X12_readNot_b22 N rec x1 x2 q6)
else (f_X12_readNot_b22 N rec x1 x2 (q5.2)))
set_option maxHeartbeats 4000000 in
set_option maxRecDepth 100000 in
theorem e_X12_readNot_h2 {N d : Nat} {rec : Int32 → Sg → Option Sg} {x1 : Int32} {x2 : Int32} {σ : Sg} {z : Nat × Int32 × Sg} (C : Cx p s m args meth c cX12_readNot 4 none RX12 g A X) (hrec : ∀ (x : Int32) (σ : Sg) (z : Sg), rec x σ = some z → MetV l yX12_readExpression (Cond.code yX12_readExpression cX12_readExpression 3 none :: wsA) (rm_X12_readExpression d) mw g X [.ref (g.2.2 0), .int x] σ z) (hf : s_X12_readNot_h2 N rec x1 x2 σ = some z) (k0 : z.1 = 0 → Bk mw p l e (rm_X12_readNot (d + 1)) s m args below meth c 4 g A Q 0 0 2 [(0, .ref (g.2.2 0)), (1, .int x1), (2, .int z.2.1)] [] z.2.2) (k : ¬ z.1 = 0 → Bk mw p l e (rm_X12_readNot (d + 1)) s m args below meth c 4 g A Q 0 0 39 [(0, .ref (g.2.2 0)), (1, .int x1), (2, .int z.2.1)] [] z.2.2) : Bk mw p l e (rm_X12_readNot (d + 1)) s m args below meth c 4 g A Q 0 0 2 [(0, .ref (g.2.2 0)), (1, .int x1), (2, .int x2)] [] σ := by
  obtain ⟨hx, hb, hr, hml, hown, hts, hK, hlocks, hXX, hA, hXo⟩ := id C
  intro H locs ls hP hD hS hl
  unfold s_X12_readNot_h2 at hf
  refine lv_aload_n hx hb dX12_readNot_2 rfl (lv_at hl 0 rfl) ?_
  refine va_ldcS (q := g.2.2 (100 + 8)) hx hb hown ((hXo.2.2.2 _ _ _ hXX).2.2.2.2.2.2.2.2.2 (244, "not", 8) (by decide)) dX12_readNot_3 ?_
  obtain ⟨q5, hq5, hf⟩ := bi_s hf
  refine bk_VI (wf := mw) (q0 := 0) (ci := 11) (rest := []) [.ref (g.2.2 (100 + 8))] C hP hD hS hl.1 (c_X12_is hXo hq5) (cwA_V 1 hts wa_546 wa_543 wa_544 wa_545 wa_5 rfl rfl nd_X12_is ⟨by dsimp only [rm_X12_is, rm_X12_readNot]; omega, by dsimp only [rm_X12_is, rm_X12_readNot]; omega⟩) rfl rfl rfl rfl (Nat.le_of_ble_eq_true rfl) dX12_readNot_5 ⟨Nat.zero_le _, Nat.zero_le _⟩ (fun H locs hP hD hS => ?_)
  refine lv_if_eq (tgt := 39) hx hb dX12_readNot_8 (by decide) (fun t8 => ?_) (fun t8 => ?_)
  · have hf := (if_pos t8).symm.trans hf
    cases hf
    exact (k (show ¬ (1 : Nat) = 0 by decide)) H locs ls hP hD hS (lv_sub hl [0, 1, 2] rfl)
  · have hf := (if_neg t8).symm.trans hf
    refine lv_iload_n hx hb dX12_readNot_11 rfl (lv_at hl 2 rfl) ?_
    refine lv_bipush (v := (6 : Int32)) hx hb dX12_readNot_12 (by decide) ?_
    refine lv_icmp_ne (tgt := 22) hx hb dX12_readNot_14 (by decide) (fun t14 => ?_) (fun t14 => ?_)
    · have hf := (if_neg t14).symm.trans hf
      exact b_X12_readNot_b22 C hrec hf k0 k H locs ls hP hD hS (lv_sub hl [0, 1, 2] rfl)
    · have hf := (if_pos t14).symm.trans hf
      refine lv_aload_n hx hb dX12_readNot_17 rfl (lv_at hl 0 rfl) ?_
      refine lv_iconst (v := (2 : Int32)) hx hb dX12_readNot_18 (by decide) ?_
      obtain ⟨q6, hq6, hf⟩ := bi_s hf
      refine bk_VV (wf := mw) (q0 := 0) (ci := 11) (rest := []) [.int (2 : Int32)] C hP hD hS hl.1 (c_X12_wrong hXo hq6) (cwA_V 1 hts wa_552 wa_549 wa_550 wa_551 wa_5 rfl rfl nd_X12_wrong ⟨by dsimp only [rm_X12_wrong, rm_X12_readNot]; omega, by dsimp only [rm_X12_wrong, rm_X12_readNot]; omega⟩) rfl rfl rfl rfl (Nat.le_of_ble_eq_true rfl) dX12_readNot_19 ⟨Nat.zero_le _, Nat.zero_le _⟩ (fun H locs hP hD hS => ?_)
      exact b_X12_readNot_b22 C hrec hf k0 k H locs ls hP hD hS (lv_sub hl [0, 1, 2] rfl)
theorem lp_X12_readNot_h2 {N d : Nat} {rec : Int32 → Sg → Option Sg} {n : Nat} {x1 : Int32} {x2 : Int32} {σ : Sg} {z : Nat × Int32 × Sg} (C : Cx p s m args meth c cX12_readNot 4 none RX12 g A X) (hrec : ∀ (x : Int32) (σ : Sg) (z : Sg), rec x σ = some z → MetV l yX12_readExpression (Cond.code yX12_readExpression cX12_readExpression 3 none :: wsA) (rm_X12_readExpression d) mw g X [.ref (g.2.2 0), .int x] σ z) (hz : it (fun q => s_X12_readNot_h2 N rec x1 q.1 q.2) n (x2, σ) = some z) (k : Bk mw p l e (rm_X12_readNot (d + 1)) s m args below meth c 4 g A Q 0 0 39 [(0, .ref (g.2.2 0)), (1, .int x1), (2, .int z.2.1)] [] z.2.2) : Bk mw p l e (rm_X12_readNot (d + 1)) s m args below meth c 4 g A Q 0 0 2 [(0, .ref (g.2.2 0)), (1, .int x1), (2, .int x2)] [] σ :=
  it_W (S := Int32 × Sg) (fun q => Bk mw p l e (rm_X12_readNot (d + 1)) s m args below meth c 4 g A Q 0 0 2 [(0, .ref (g.2.2 0)), (1, .int x1), (2, .int q.1)] [] q.2) (fun z => Bk mw p l e (rm_X12_readNot (d + 1)) s m args below meth c 4 g A Q 0 0 39 [(0, .ref (g.2.2 0)), (1, .int x1), (2, .int z.2.1)] [] z.2.2) (fun q z hq k0 k => e_X12_readNot_h2 C hrec hq k0 k) n (x2, σ) z hz k
def f_X12_readNot_b93 (N : Nat) (rec : Int32 → Sg → Option Sg) (x2 : Int32) (σ : Sg) : Option (Sg) :=
(it (fun q => s_X12_readNot_h95 N rec x2 q.1 q.2) N ((0 : Int32), σ)).bind fun z7 =>
some (z7.2.2)
set_option maxHeartbeats 4000000 in
set_option maxRecDepth 100000 in
theorem b_X12_readNot_b93 {N d : Nat} {rec : Int32 → Sg → Option Sg} {x2 : Int32} {σ : Sg} {z : Sg} (C : Cx p s m args meth c cX12_readNot 4 none RX12 g A X) (hrec : ∀ (x : Int32) (σ : Sg) (z : Sg), rec x σ = some z → MetV l yX12_readExpression (Cond.code yX12_readExpression cX12_readExpression 3 none :: wsA) (rm_X12_readExpression d) mw g X [.ref (g.2.2 0), .int x] σ z) (hf : f_X12_readNot_b93 N rec x2 σ = some z) : Bk mw p l e (rm_X12_readNot (d + 1)) s m args below meth c 4 g A (MQ below (qV mw g A z) args s 0 0 A) 0 0 93 [(0, .ref (g.2.2 0)), (2, .int x2)] [] σ := by
  obtain ⟨hx, hb, hr, hml, hown, hts, hK, hlocks, hXX, hA, hXo⟩ := id C
  intro H locs ls hP hD hS hl
  unfold f_X12_readNot_b93 at hf
  refine lv_iconst (v := (0 : Int32)) hx hb dX12_readNot_93 (by decide) ?_
  refine lv_istore_n (lv' := [(3, .int (0 : Int32)), (0, .ref (g.2.2 0)), (2, .int x2)]) hx hb dX12_readNot_94 rfl hl (by decide) rfl (fun ls hl => ?_)
  obtain ⟨z7, hz7, hf⟩ := bi_s hf
  refine lp_X12_readNot_h95 C hrec hz7 ?_ H locs ls hP hD hS (lv_sub hl [1, 2, 0] rfl)
  intro H locs ls hP hD hS hl
  cases hf
  exact bk_vret C hP hD hS rfl dX12_readNot_112
def f_X12_readNot_b78 (N : Nat) (rec : Int32 → Sg → Option Sg) (x1 : Int32) (x2 : Int32) (t0 : Int32) (σ : Sg) : Option (Sg) :=
(f_X12_stepOn N σ).bind fun q8 =>
(f_X12_readSum N rec x1 q8).bind fun q9 =>
(f_X12_lay N t0 q9).bind fun q10 =>
f_X12_readNot_b93 N rec x2 q10
set_option maxHeartbeats 4000000 in
set_option maxRecDepth 100000 in
theorem b_X12_readNot_b78 {N d : Nat} {rec : Int32 → Sg → Option Sg} {x1 : Int32} {x2 : Int32} {t0 : Int32} {σ : Sg} {z : Sg} (C : Cx p s m args meth c cX12_readNot 4 none RX12 g A X) (hrec : ∀ (x : Int32) (σ : Sg) (z : Sg), rec x σ = some z → MetV l yX12_readExpression (Cond.code yX12_readExpression cX12_readExpression 3 none :: wsA) (rm_X12_readExpression d) mw g X [.ref (g.2.2 0), .int x] σ z) (hf : f_X12_readNot_b78 N rec x1 x2 t0 σ = some z) : Bk mw p l e (rm_X12_readNot (d + 1)) s m args below meth c 4 g A (MQ below (qV mw g A z) args s 0 0 A) 0 0 78 [(0, .ref (g.2.2 0)), (1, .int x1), (2, .int x2)] [.int t0] σ := by
  obtain ⟨hx, hb, hr, hml, hown, hts, hK, hlocks, hXX, hA, hXo⟩ := id C
  intro H locs ls hP hD hS hl
  unfold f_X12_readNot_b78 at hf
  refine lv_istore_n (lv' := [(3, .int t0), (0, .ref (g.2.2 0)), (1, .int x1), (2, .int x2)]) hx hb dX12_readNot_78 rfl hl (by decide) rfl (fun ls hl => ?_)
  refine lv_aload_n hx hb dX12_readNot_79 rfl (lv_at hl 1 rfl) ?_
  obtain ⟨q8, hq8, hf⟩ := bi_s hf
  refine bk_VV (wf := mw) (q0 := 0) (ci := 11) (rest := []) [] C hP hD hS hl.1 (c_X12_stepOn hXo hq8) (cwA_V 0 hts wa_516 wa_513 wa_514 wa_515 wa_5 rfl rfl nd_X12_stepOn ⟨by dsimp only [rm_X12_stepOn, rm_X12_readNot]; omega, by dsimp only [rm_X12_stepOn, rm_X12_readNot]; omega⟩) rfl rfl rfl rfl (Nat.le_of_ble_eq_true rfl) dX12_readNot_80 ⟨Nat.zero_le _, Nat.zero_le _⟩ (fun H locs hP hD hS => ?_)
  refine lv_aload_n hx hb dX12_readNot_83 rfl (lv_at hl 1 rfl) ?_
  refine lv_iload_n hx hb dX12_readNot_84 rfl (lv_at hl 2 rfl) ?_
  obtain ⟨q9, hq9, hf⟩ := bi_s hf
  refine bk_VV (wf := mw) (q0 := 0) (ci := 11) (rest := []) [.int x1] C hP hD hS hl.1 (c_X12_readSum hXo hrec hq9) (cwA_V 1 hts wa_601 wa_589 wa_590 wa_591 wa_5 rfl rfl nd_X12_readSum ⟨by dsimp only [rm_X12_readSum, rm_X12_readNot]; omega, by dsimp only [rm_X12_readSum, rm_X12_readNot]; omega⟩) rfl rfl rfl rfl (Nat.le_of_ble_eq_true rfl) dX12_readNot_85 ⟨Nat.zero_le _, Nat.zero_le _⟩ (fun H locs hP hD hS => ?_)
  refine lv_aload_n hx hb dX12_readNot_88 rfl (lv_at hl 1 rfl) ?_
  refine lv_iload_n hx hb dX12_readNot_89 rfl (lv_at hl 0 rfl) ?_
  obtain ⟨q10, hq10, hf⟩ := bi_s hf
  refine bk_VV (wf := mw) (q0 := 0) (ci := 11) (rest := []) [.int t0] C hP hD hS hl.1 (c_X12_lay hXo hq10) (cwA_V 1 hts wa_583 wa_580 wa_581 wa_582 wa_5 rfl rfl nd_X12_lay ⟨by dsimp only [rm_X12_lay, rm_X12_readNot]; omega, by dsimp only [rm_X12_lay, rm_X12_readNot]; omega⟩) rfl rfl rfl rfl (Nat.le_of_ble_eq_true rfl) dX12_readNot_90 ⟨Nat.zero_le _, Nat.zero_le _⟩ (fun H locs hP hD hS => ?_)
  exact b_X12_readNot_b93 C hrec hf H locs ls hP hD hS (lv_sub hl [1, 3] rfl)
def f_X12_readNot_b62 (N : Nat) (rec : Int32 → Sg → Option Sg) (x1 : Int32) (x2 : Int32) (σ : Sg) : Option (Sg) :=
(f_X12_isMarked N (60 : Int32) σ).bind fun q11 =>
if q11.1 = 0 then (f_X12_readNot_b78 N rec x1 x2 (-25 : Int32) (q11.2))
else (f_X12_readNot_b78 N rec x1 x2 (-24 : Int32) (q11.2))
set_option maxHeartbeats 4000000 in
set_option maxRecDepth 100000 in
theorem b_X12_readNot_b62 {N d : Nat} {rec : Int32 → Sg → Option Sg} {x1 : Int32} {x2 : Int32} {σ : Sg} {z : Sg} (C : Cx p s m args meth c cX12_readNot 4 none RX12 g A X) (hrec : ∀ (x : Int32) (σ : Sg) (z : Sg), rec x σ = some z → MetV l yX12_readExpression (Cond.code yX12_readExpression cX12_readExpression 3 none :: wsA) (rm_X12_readExpression d) mw g X [.ref (g.2.2 0), .int x] σ z) (hf : f_X12_readNot_b62 N rec x1 x2 σ = some z) : Bk mw p l e (rm_X12_readNot (d + 1)) s m args below meth c 4 g A (MQ below (qV mw g A z) args s 0 0 A) 0 0 62 [(0, .ref (g.2.2 0)), (1, .int x1), (2, .int x2)] [] σ := by
  obtain ⟨hx, hb, hr, hml, hown, hts, hK, hlocks, hXX, hA, hXo⟩ := id C
  intro H locs ls hP hD hS hl
  unfold f_X12_readNot_b62 at hf
  refine lv_aload_n hx hb dX12_readNot_62 rfl (lv_at hl 0 rfl) ?_
  refine lv_bipush (v := (60 : Int32)) hx hb dX12_readNot_63 (by decide) ?_
  obtain ⟨q11, hq11, hf⟩ := bi_s hf
  refine bk_VI (wf := mw) (q0 := 0) (ci := 11) (rest := []) [.int (60 : Int32)] C hP hD hS hl.1 (c_X12_isMarked hXo hq11) (cwA_V 1 hts wa_576 wa_573 wa_574 wa_575 wa_5 rfl rfl nd_X12_isMarked ⟨by dsimp only [rm_X12_isMarked, rm_X12_readNot]; omega, by dsimp only [rm_X12_isMarked, rm_X12_readNot]; omega⟩) rfl rfl rfl rfl (Nat.le_of_ble_eq_true rfl) dX12_readNot_65 ⟨Nat.zero_le _, Nat.zero_le _⟩ (fun H locs hP hD hS => ?_)
  refine lv_if_eq (tgt := 76) hx hb dX12_readNot_68 (by decide) (fun t68 => ?_) (fun t68 => ?_)
  · have hf := (if_pos t68).symm.trans hf
    refine lv_bipush (v := (-25 : Int32)) hx hb dX12_readNot_76 (by decide) ?_
    exact b_X12_readNot_b78 C hrec hf H locs ls hP hD hS (lv_sub hl [0, 1, 2] rfl)
  · have hf := (if_neg t68).symm.trans hf
    refine lv_bipush (v := (-24 : Int32)) hx hb dX12_readNot_71 (by decide) ?_
    refine lv_goto (tgt := 78) hx hb dX12_readNot_73 (by decide) ?_
    exact b_X12_readNot_b78 C hrec hf H locs ls hP hD hS (lv_sub hl [0, 1, 2] rfl)
def f_X12_readNot (N : Nat) (rec : Int32 → Sg → Option Sg) (x1 : Int32) (σ : Sg) : Option (Sg) :=
(it (fun q => s_X12_readNot_h2 N rec x1 q.1 q.2) N ((0 : Int32), σ)).bind fun z12 =>
(f_X12_readSum N rec x1 (z12.2.2)).bind fun q13 =>
(f_X12_isMarked N (60 : Int32) q13).bind fun q14 =>
if q14.1 = 0 then ((f_X12_isMarked N (61 : Int32) (q14.2)).bind fun q15 =>
if q15.1 = 0 then (f_X12_readNot_b93 N rec (z12.2.1) (q15.2))
else (f_X12_readNot_b62 N rec x1 (z12.2.1) (q15.2)))
else (f_X12_readNot_b62 N rec x1 (z12.2.1) (q14.2))
set_option maxHeartbeats 4000000 in
set_option maxRecDepth 100000 in
theorem b_X12_readNot {N d : Nat} {rec : Int32 → Sg → Option Sg} {x1 : Int32} {σ : Sg} {z : Sg} (C : Cx p s m args meth c cX12_readNot 4 none RX12 g A X) (hrec : ∀ (x : Int32) (σ : Sg) (z : Sg), rec x σ = some z → MetV l yX12_readExpression (Cond.code yX12_readExpression cX12_readExpression 3 none :: wsA) (rm_X12_readExpression d) mw g X [.ref (g.2.2 0), .int x] σ z) (hf : f_X12_readNot N rec x1 σ = some z) : Bk mw p l e (rm_X12_readNot (d + 1)) s m args below meth c 4 g A (MQ below (qV mw g A z) args s 0 0 A) 0 0 0 [(0, .ref (g.2.2 0)), (1, .int x1)] [] σ := by
  obtain ⟨hx, hb, hr, hml, hown, hts, hK, hlocks, hXX, hA, hXo⟩ := id C
  intro H locs ls hP hD hS hl
  unfold f_X12_readNot at hf
  refine lv_iconst (v := (0 : Int32)) hx hb dX12_readNot_0 (by decide) ?_
  refine lv_istore_n (lv' := [(2, .int (0 : Int32)), (0, .ref (g.2.2 0)), (1, .int x1)]) hx hb dX12_readNot_1 rfl hl (by decide) rfl (fun ls hl => ?_)
  obtain ⟨z12, hz12, hf⟩ := bi_s hf
  refine lp_X12_readNot_h2 C hrec hz12 ?_ H locs ls hP hD hS (lv_sub hl [1, 2, 0] rfl)
  intro H locs ls hP hD hS hl
  refine lv_aload_n hx hb dX12_readNot_39 rfl (lv_at hl 0 rfl) ?_
  refine lv_iload_n hx hb dX12_readNot_40 rfl (lv_at hl 1 rfl) ?_
  obtain ⟨q13, hq13, hf⟩ := bi_s hf
  refine bk_VV (wf := mw) (q0 := 0) (ci := 11) (rest := []) [.int x1] C hP hD hS hl.1 (c_X12_readSum hXo hrec hq13) (cwA_V 1 hts wa_601 wa_589 wa_590 wa_591 wa_5 rfl rfl nd_X12_readSum ⟨by dsimp only [rm_X12_readSum, rm_X12_readNot]; omega, by dsimp only [rm_X12_readSum, rm_X12_readNot]; omega⟩) rfl rfl rfl rfl (Nat.le_of_ble_eq_true rfl) dX12_readNot_41 ⟨Nat.zero_le _, Nat.zero_le _⟩ (fun H locs hP hD hS => ?_)
  refine lv_aload_n hx hb dX12_readNot_44 rfl (lv_at hl 0 rfl) ?_
  refine lv_bipush (v := (60 : Int32)) hx hb dX12_readNot_45 (by decide) ?_
  obtain ⟨q14, hq14, hf⟩ := bi_s hf
  refine bk_VI (wf := mw) (q0 := 0) (ci := 11) (rest := []) [.int (60 : Int32)] C hP hD hS hl.1 (c_X12_isMarked hXo hq14) (cwA_V 1 hts wa_576 wa_573 wa_574 wa_575 wa_5 rfl rfl nd_X12_isMarked ⟨by dsimp only [rm_X12_isMarked, rm_X12_readNot]; omega, by dsimp only [rm_X12_isMarked, rm_X12_readNot]; omega⟩) rfl rfl rfl rfl (Nat.le_of_ble_eq_true rfl) dX12_readNot_47 ⟨Nat.zero_le _, Nat.zero_le _⟩ (fun H locs hP hD hS => ?_)
  refine lv_if_ne (tgt := 62) hx hb dX12_readNot_50 (by decide) (fun t50 => ?_) (fun t50 => ?_)
  · have hf := (if_neg t50).symm.trans hf
    exact b_X12_readNot_b62 C hrec hf H locs ls hP hD hS (lv_sub hl [0, 1, 2] rfl)
  · have hf := (if_pos t50).symm.trans hf
    refine lv_aload_n hx hb dX12_readNot_53 rfl (lv_at hl 0 rfl) ?_
    refine lv_bipush (v := (61 : Int32)) hx hb dX12_readNot_54 (by decide) ?_
    obtain ⟨q15, hq15, hf⟩ := bi_s hf
    refine bk_VI (wf := mw) (q0 := 0) (ci := 11) (rest := []) [.int (61 : Int32)] C hP hD hS hl.1 (c_X12_isMarked hXo hq15) (cwA_V 1 hts wa_576 wa_573 wa_574 wa_575 wa_5 rfl rfl nd_X12_isMarked ⟨by dsimp only [rm_X12_isMarked, rm_X12_readNot]; omega, by dsimp only [rm_X12_isMarked, rm_X12_readNot]; omega⟩) rfl rfl rfl rfl (Nat.le_of_ble_eq_true rfl) dX12_readNot_56 ⟨Nat.zero_le _, Nat.zero_le _⟩ (fun H locs hP hD hS => ?_)
    refine lv_if_eq (tgt := 93) hx hb dX12_readNot_59 (by decide) (fun t59 => ?_) (fun t59 => ?_)
    · have hf := (if_pos t59).symm.trans hf
      exact b_X12_readNot_b93 C hrec hf H locs ls hP hD hS (lv_sub hl [0, 2] rfl)
    · have hf := (if_neg t59).symm.trans hf
      exact b_X12_readNot_b62 C hrec hf H locs ls hP hD hS (lv_sub hl [0, 1, 2] rfl)
theorem c_X12_readNot {N d : Nat} {rec : Int32 → Sg → Option Sg} {x1 : Int32} {σ : Sg} {z : Sg} (hX : xOK g X) (hrec : ∀ (x : Int32) (σ : Sg) (z : Sg), rec x σ = some z → MetV l yX12_readExpression (Cond.code yX12_readExpression cX12_readExpression 3 none :: wsA) (rm_X12_readExpression d) mw g X [.ref (g.2.2 0), .int x] σ z) (hf : f_X12_readNot N rec x1 σ = some z) : MetV l yX12_readNot (Cond.code yX12_readNot cX12_readNot 4 none :: wsA) (rm_X12_readNot (d + 1)) mw g X [.ref (g.2.2 0), .int x1] σ z :=
  MetV_of hX (by decide) (Nat.le_of_ble_eq_true rfl) (fun p e s m args below meth c A C => b_X12_readNot C hrec hf)
-- X12_readAnd: readAnd(I)V
def s_X12_readAnd_h5 (N : Nat) (rec : Int32 → Sg → Option Sg) (x1 : Int32) (σ : Sg) : Option (Nat × Sg) :=
(f_X12_is N 9 σ).bind fun q1 =>
if q1.1 = 0 then (some (1, (q1.2)))
else ((f_X12_stepOn N (q1.2)).bind fun q2 =>
(f_X12_readNot N rec x1 q2).bind fun q3 =>
(f_X12_lay N (-26 : Int32) q3).bind fun q4 =>
some (0, q4))
set_option maxHeartbeats 4000000 in
set_option maxRecDepth 100000 in
theorem e_X12_readAnd_h5 {N d : Nat} {rec : Int32 → Sg → Option Sg} {x1 : Int32} {σ : Sg} {z : Nat × Sg} (C : Cx p s m args meth c cX12_readAnd 2 none RX12 g A X) (hrec : ∀ (x : Int32) (σ : Sg) (z : Sg), rec x σ = some z → MetV l yX12_readExpression (Cond.code yX12_readExpression cX12_readExpression 3 none :: wsA) (rm_X12_readExpression d) mw g X [.ref (g.2.2 0), .int x] σ z) (hf : s_X12_readAnd_h5 N rec x1 σ = some z) (k0 : z.1 = 0 → Bk mw p l e (rm_X12_readAnd (d + 1)) s m args below meth c 2 g A Q 0 0 5 [(0, .ref (g.2.2 0)), (1, .int x1)] [] z.2) (k : ¬ z.1 = 0 → Bk mw p l e (rm_X12_readAnd (d + 1)) s m args below meth c 2 g A Q 0 0 32 [] [] z.2) : Bk mw p l e (rm_X12_readAnd (d + 1)) s m args below meth c 2 g A Q 0 0 5 [(0, .ref (g.2.2 0)), (1, .int x1)] [] σ := by
  obtain ⟨hx, hb, hr, hml, hown, hts, hK, hlocks, hXX, hA, hXo⟩ := id C
  intro H locs ls hP hD hS hl
  unfold s_X12_readAnd_h5 at hf
  refine lv_aload_n hx hb dX12_readAnd_5 rfl (lv_at hl 0 rfl) ?_
  refine va_ldcS (q := g.2.2 (100 + 9)) hx hb hown ((hXo.2.2.2 _ _ _ hXX).2.2.2.2.2.2.2.2.2 (252, "and", 9) (by decide)) dX12_readAnd_6 ?_
  obtain ⟨q1, hq1, hf⟩ := bi_s hf
  refine bk_VI (wf := mw) (q0 := 0) (ci := 11) (rest := []) [.ref (g.2.2 (100 + 9))] C hP hD hS hl.1 (c_X12_is hXo hq1) (cwA_V 1 hts wa_546 wa_543 wa_544 wa_545 wa_5 rfl rfl nd_X12_is ⟨by dsimp only [rm_X12_is, rm_X12_readAnd]; omega, by dsimp only [rm_X12_is, rm_X12_readAnd]; omega⟩) rfl rfl rfl rfl (Nat.le_of_ble_eq_true rfl) dX12_readAnd_8 ⟨Nat.zero_le _, Nat.zero_le _⟩ (fun H locs hP hD hS => ?_)
  refine lv_if_eq (tgt := 32) hx hb dX12_readAnd_11 (by decide) (fun t11 => ?_) (fun t11 => ?_)
  · have hf := (if_pos t11).symm.trans hf
    cases hf
    exact (k (show ¬ (1 : Nat) = 0 by decide)) H locs ls hP hD hS (lv_sub hl [] rfl)
  · have hf := (if_neg t11).symm.trans hf
    refine lv_aload_n hx hb dX12_readAnd_14 rfl (lv_at hl 0 rfl) ?_
    obtain ⟨q2, hq2, hf⟩ := bi_s hf
    refine bk_VV (wf := mw) (q0 := 0) (ci := 11) (rest := []) [] C hP hD hS hl.1 (c_X12_stepOn hXo hq2) (cwA_V 0 hts wa_516 wa_513 wa_514 wa_515 wa_5 rfl rfl nd_X12_stepOn ⟨by dsimp only [rm_X12_stepOn, rm_X12_readAnd]; omega, by dsimp only [rm_X12_stepOn, rm_X12_readAnd]; omega⟩) rfl rfl rfl rfl (Nat.le_of_ble_eq_true rfl) dX12_readAnd_15 ⟨Nat.zero_le _, Nat.zero_le _⟩ (fun H locs hP hD hS => ?_)
    refine lv_aload_n hx hb dX12_readAnd_18 rfl (lv_at hl 0 rfl) ?_
    refine lv_iload_n hx hb dX12_readAnd_19 rfl (lv_at hl 1 rfl) ?_
    obtain ⟨q3, hq3, hf⟩ := bi_s hf
    refine bk_VV (wf := mw) (q0 := 0) (ci := 11) (rest := []) [.int x1] C hP hD hS hl.1 (c_X12_readNot hXo hrec hq3) (cwA_V 1 hts wa_588 wa_585 wa_586 wa_587 wa_5 rfl rfl nd_X12_readNot ⟨by dsimp only [rm_X12_readNot, rm_X12_readAnd]; omega, by dsimp only [rm_X12_readNot, rm_X12_readAnd]; omega⟩) rfl rfl rfl rfl (Nat.le_of_ble_eq_true rfl) dX12_readAnd_20 ⟨Nat.zero_le _, Nat.zero_le _⟩ (fun H locs hP hD hS => ?_)
    refine lv_aload_n hx hb dX12_readAnd_23 rfl (lv_at hl 0 rfl) ?_
    refine lv_bipush (v := (-26 : Int32)) hx hb dX12_readAnd_24 (by decide) ?_
    obtain ⟨q4, hq4, hf⟩ := bi_s hf
    refine bk_VV (wf := mw) (q0 := 0) (ci := 11) (rest := []) [.int (-26 : Int32)] C hP hD hS hl.1 (c_X12_lay hXo hq4) (cwA_V 1 hts wa_583 wa_580 wa_581 wa_582 wa_5 rfl rfl nd_X12_lay ⟨by dsimp only [rm_X12_lay, rm_X12_readAnd]; omega, by dsimp only [rm_X12_lay, rm_X12_readAnd]; omega⟩) rfl rfl rfl rfl (Nat.le_of_ble_eq_true rfl) dX12_readAnd_26 ⟨Nat.zero_le _, Nat.zero_le _⟩ (fun H locs hP hD hS => ?_)
    refine lv_goto (tgt := 5) hx hb dX12_readAnd_29 (by decide) ?_
    cases hf
    exact k0 rfl H locs ls hP hD hS (lv_sub hl [0, 1] rfl)
theorem lp_X12_readAnd_h5 {N d : Nat} {rec : Int32 → Sg → Option Sg} {n : Nat} {x1 : Int32} {σ : Sg} {z : Nat × Sg} (C : Cx p s m args meth c cX12_readAnd 2 none RX12 g A X) (hrec : ∀ (x : Int32) (σ : Sg) (z : Sg), rec x σ = some z → MetV l yX12_readExpression (Cond.code yX12_readExpression cX12_readExpression 3 none :: wsA) (rm_X12_readExpression d) mw g X [.ref (g.2.2 0), .int x] σ z) (hz : it (fun q => s_X12_readAnd_h5 N rec x1 q) n (σ) = some z) (k : Bk mw p l e (rm_X12_readAnd (d + 1)) s m args below meth c 2 g A Q 0 0 32 [] [] z.2) : Bk mw p l e (rm_X12_readAnd (d + 1)) s m args below meth c 2 g A Q 0 0 5 [(0, .ref (g.2.2 0)), (1, .int x1)] [] σ :=
  it_W (S := Sg) (fun q => Bk mw p l e (rm_X12_readAnd (d + 1)) s m args below meth c 2 g A Q 0 0 5 [(0, .ref (g.2.2 0)), (1, .int x1)] [] q) (fun z => Bk mw p l e (rm_X12_readAnd (d + 1)) s m args below meth c 2 g A Q 0 0 32 [] [] z.2) (fun q z hq k0 k => e_X12_readAnd_h5 C hrec hq k0 k) n (σ) z hz k
def f_X12_readAnd (N : Nat) (rec : Int32 → Sg → Option Sg) (x1 : Int32) (σ : Sg) : Option (Sg) :=
(f_X12_readNot N rec x1 σ).bind fun q5 =>
(it (fun q => s_X12_readAnd_h5 N rec x1 q) N (q5)).bind fun z6 =>
some (z6.2)
set_option maxHeartbeats 4000000 in
set_option maxRecDepth 100000 in
theorem b_X12_readAnd {N d : Nat} {rec : Int32 → Sg → Option Sg} {x1 : Int32} {σ : Sg} {z : Sg} (C : Cx p s m args meth c cX12_readAnd 2 none RX12 g A X) (hrec : ∀ (x : Int32) (σ : Sg) (z : Sg), rec x σ = some z → MetV l yX12_readExpression (Cond.code yX12_readExpression cX12_readExpression 3 none :: wsA) (rm_X12_readExpression d) mw g X [.ref (g.2.2 0), .int x] σ z) (hf : f_X12_readAnd N rec x1 σ = some z) : Bk mw p l e (rm_X12_readAnd (d + 1)) s m args below meth c 2 g A (MQ below (qV mw g A z) args s 0 0 A) 0 0 0 [(0, .ref (g.2.2 0)), (1, .int x1)] [] σ := by
  obtain ⟨hx, hb, hr, hml, hown, hts, hK, hlocks, hXX, hA, hXo⟩ := id C
  intro H locs ls hP hD hS hl
  unfold f_X12_readAnd at hf
  refine lv_aload_n hx hb dX12_readAnd_0 rfl (lv_at hl 0 rfl) ?_
  refine lv_iload_n hx hb dX12_readAnd_1 rfl (lv_at hl 1 rfl) ?_
  obtain ⟨q5, hq5, hf⟩ := bi_s hf
  refine bk_VV (wf := mw) (q0 := 0) (ci := 11) (rest := []) [.int x1] C hP hD hS hl.1 (c_X12_readNot hXo hrec hq5) (cwA_V 1 hts wa_588 wa_585 wa_586 wa_587 wa_5 rfl rfl nd_X12_readNot ⟨by dsimp only [rm_X12_readNot, rm_X12_readAnd]; omega, by dsimp only [rm_X12_readNot, rm_X12_readAnd]; omega⟩) rfl rfl rfl rfl (Nat.le_of_ble_eq_true rfl) dX12_readAnd_2 ⟨Nat.zero_le _, Nat.zero_le _⟩ (fun H locs hP hD hS => ?_)
  obtain ⟨z6, hz6, hf⟩ := bi_s hf
  refine lp_X12_readAnd_h5 C hrec hz6 ?_ H locs ls hP hD hS (lv_sub hl [0, 1] rfl)
  intro H locs ls hP hD hS hl
  cases hf
  exact bk_vret C hP hD hS rfl dX12_readAnd_32
theorem c_X12_readAnd {N d : Nat} {rec : Int32 → Sg → Option Sg} {x1 : Int32} {σ : Sg} {z : Sg} (hX : xOK g X) (hrec : ∀ (x : Int32) (σ : Sg) (z : Sg), rec x σ = some z → MetV l yX12_readExpression (Cond.code yX12_readExpression cX12_readExpression 3 none :: wsA) (rm_X12_readExpression d) mw g X [.ref (g.2.2 0), .int x] σ z) (hf : f_X12_readAnd N rec x1 σ = some z) : MetV l yX12_readAnd (Cond.code yX12_readAnd cX12_readAnd 2 none :: wsA) (rm_X12_readAnd (d + 1)) mw g X [.ref (g.2.2 0), .int x1] σ z :=
  MetV_of hX (by decide) (Nat.le_of_ble_eq_true rfl) (fun p e s m args below meth c A C => b_X12_readAnd C hrec hf)
-- X12_readExpression: readExpression(I)V
def s_X12_readExpression_h67 (N : Nat) (rec : Int32 → Sg → Option Sg) (x1 : Int32) (σ : Sg) : Option (Nat × Sg) :=
(f_X12_is N 10 σ).bind fun q1 =>
if q1.1 = 0 then (some (1, (q1.2)))
else ((f_X12_stepOn N (q1.2)).bind fun q2 =>
(f_X12_readAnd N rec x1 q2).bind fun q3 =>
(f_X12_lay N (-27 : Int32) q3).bind fun q4 =>
some (0, q4))
set_option maxHeartbeats 4000000 in
set_option maxRecDepth 100000 in
theorem e_X12_readExpression_h67 {N d : Nat} {rec : Int32 → Sg → Option Sg} {x1 : Int32} {σ : Sg} {z : Nat × Sg} (C : Cx p s m args meth c cX12_readExpression 3 none RX12 g A X) (hrec : ∀ (x : Int32) (σ : Sg) (z : Sg), rec x σ = some z → MetV l yX12_readExpression (Cond.code yX12_readExpression cX12_readExpression 3 none :: wsA) (rm_X12_readExpression d) mw g X [.ref (g.2.2 0), .int x] σ z) (hf : s_X12_readExpression_h67 N rec x1 σ = some z) (k0 : z.1 = 0 → Bk mw p l e (rm_X12_readExpression (d + 1)) s m args below meth c 3 g A Q 0 0 67 [(0, .ref (g.2.2 0)), (1, .int x1)] [] z.2) (k : ¬ z.1 = 0 → Bk mw p l e (rm_X12_readExpression (d + 1)) s m args below meth c 3 g A Q 0 0 95 [] [] z.2) : Bk mw p l e (rm_X12_readExpression (d + 1)) s m args below meth c 3 g A Q 0 0 67 [(0, .ref (g.2.2 0)), (1, .int x1)] [] σ := by
  obtain ⟨hx, hb, hr, hml, hown, hts, hK, hlocks, hXX, hA, hXo⟩ := id C
  intro H locs ls hP hD hS hl
  unfold s_X12_readExpression_h67 at hf
  refine lv_aload_n hx hb dX12_readExpression_67 rfl (lv_at hl 0 rfl) ?_
  refine lv_ldcSw (q := g.2.2 (100 + 10)) hx hb hown ((hXo.2.2.2 _ _ _ hXX).2.2.2.2.2.2.2.2.2 (257, "or", 10) (by decide)) dX12_readExpression_68 ?_
  obtain ⟨q1, hq1, hf⟩ := bi_s hf
  refine bk_VI (wf := mw) (q0 := 0) (ci := 11) (rest := []) [.ref (g.2.2 (100 + 10))] C hP hD hS hl.1 (c_X12_is hXo hq1) (cwA_V 1 hts wa_546 wa_543 wa_544 wa_545 wa_5 rfl rfl nd_X12_is ⟨by dsimp only [rm_X12_is, rm_X12_readExpression]; omega, by dsimp only [rm_X12_is, rm_X12_readExpression]; omega⟩) rfl rfl rfl rfl (Nat.le_of_ble_eq_true rfl) dX12_readExpression_71 ⟨Nat.zero_le _, Nat.zero_le _⟩ (fun H locs hP hD hS => ?_)
  refine lv_if_eq (tgt := 95) hx hb dX12_readExpression_74 (by decide) (fun t74 => ?_) (fun t74 => ?_)
  · have hf := (if_pos t74).symm.trans hf
    cases hf
    exact (k (show ¬ (1 : Nat) = 0 by decide)) H locs ls hP hD hS (lv_sub hl [] rfl)
  · have hf := (if_neg t74).symm.trans hf
    refine lv_aload_n hx hb dX12_readExpression_77 rfl (lv_at hl 0 rfl) ?_
    obtain ⟨q2, hq2, hf⟩ := bi_s hf
    refine bk_VV (wf := mw) (q0 := 0) (ci := 11) (rest := []) [] C hP hD hS hl.1 (c_X12_stepOn hXo hq2) (cwA_V 0 hts wa_516 wa_513 wa_514 wa_515 wa_5 rfl rfl nd_X12_stepOn ⟨by dsimp only [rm_X12_stepOn, rm_X12_readExpression]; omega, by dsimp only [rm_X12_stepOn, rm_X12_readExpression]; omega⟩) rfl rfl rfl rfl (Nat.le_of_ble_eq_true rfl) dX12_readExpression_78 ⟨Nat.zero_le _, Nat.zero_le _⟩ (fun H locs hP hD hS => ?_)
    refine lv_aload_n hx hb dX12_readExpression_81 rfl (lv_at hl 0 rfl) ?_
    refine lv_iload_n hx hb dX12_readExpression_82 rfl (lv_at hl 1 rfl) ?_
    obtain ⟨q3, hq3, hf⟩ := bi_s hf
    refine bk_VV (wf := mw) (q0 := 0) (ci := 11) (rest := []) [.int x1] C hP hD hS hl.1 (c_X12_readAnd hXo hrec hq3) (cwA_V 1 hts wa_584 wa_577 wa_578 wa_579 wa_5 rfl rfl nd_X12_readAnd ⟨by dsimp only [rm_X12_readAnd, rm_X12_readExpression]; omega, by dsimp only [rm_X12_readAnd, rm_X12_readExpression]; omega⟩) rfl rfl rfl rfl (Nat.le_of_ble_eq_true rfl) dX12_readExpression_83 ⟨Nat.zero_le _, Nat.zero_le _⟩ (fun H locs hP hD hS => ?_)
    refine lv_aload_n hx hb dX12_readExpression_86 rfl (lv_at hl 0 rfl) ?_
    refine lv_bipush (v := (-27 : Int32)) hx hb dX12_readExpression_87 (by decide) ?_
    obtain ⟨q4, hq4, hf⟩ := bi_s hf
    refine bk_VV (wf := mw) (q0 := 0) (ci := 11) (rest := []) [.int (-27 : Int32)] C hP hD hS hl.1 (c_X12_lay hXo hq4) (cwA_V 1 hts wa_583 wa_580 wa_581 wa_582 wa_5 rfl rfl nd_X12_lay ⟨by dsimp only [rm_X12_lay, rm_X12_readExpression]; omega, by dsimp only [rm_X12_lay, rm_X12_readExpression]; omega⟩) rfl rfl rfl rfl (Nat.le_of_ble_eq_true rfl) dX12_readExpression_89 ⟨Nat.zero_le _, Nat.zero_le _⟩ (fun H locs hP hD hS => ?_)
    refine lv_goto (tgt := 67) hx hb dX12_readExpression_92 (by decide) ?_
    cases hf
    exact k0 rfl H locs ls hP hD hS (lv_sub hl [0, 1] rfl)
theorem lp_X12_readExpression_h67 {N d : Nat} {rec : Int32 → Sg → Option Sg} {n : Nat} {x1 : Int32} {σ : Sg} {z : Nat × Sg} (C : Cx p s m args meth c cX12_readExpression 3 none RX12 g A X) (hrec : ∀ (x : Int32) (σ : Sg) (z : Sg), rec x σ = some z → MetV l yX12_readExpression (Cond.code yX12_readExpression cX12_readExpression 3 none :: wsA) (rm_X12_readExpression d) mw g X [.ref (g.2.2 0), .int x] σ z) (hz : it (fun q => s_X12_readExpression_h67 N rec x1 q) n (σ) = some z) (k : Bk mw p l e (rm_X12_readExpression (d + 1)) s m args below meth c 3 g A Q 0 0 95 [] [] z.2) : Bk mw p l e (rm_X12_readExpression (d + 1)) s m args below meth c 3 g A Q 0 0 67 [(0, .ref (g.2.2 0)), (1, .int x1)] [] σ :=
  it_W (S := Sg) (fun q => Bk mw p l e (rm_X12_readExpression (d + 1)) s m args below meth c 3 g A Q 0 0 67 [(0, .ref (g.2.2 0)), (1, .int x1)] [] q) (fun z => Bk mw p l e (rm_X12_readExpression (d + 1)) s m args below meth c 3 g A Q 0 0 95 [] [] z.2) (fun q z hq k0 k => e_X12_readExpression_h67 C hrec hq k0 k) n (σ) z hz k
def f_X12_readExpression_b62 (N : Nat) (rec : Int32 → Sg → Option Sg) (x1 : Int32) (σ : Sg) : Option (Sg) :=
(f_X12_readAnd N rec x1 σ).bind fun q5 =>
(it (fun q => s_X12_readExpression_h67 N rec x1 q) N (q5)).bind fun z6 =>
some (z6.2)
set_option maxHeartbeats 4000000 in
set_option maxRecDepth 100000 in
theorem b_X12_readExpression_b62 {N d : Nat} {rec : Int32 → Sg → Option Sg} {x1 : Int32} {σ : Sg} {z : Sg} (C : Cx p s m args meth c cX12_readExpression 3 none RX12 g A X) (hrec : ∀ (x : Int32) (σ : Sg) (z : Sg), rec x σ = some z → MetV l yX12_readExpression (Cond.code yX12_readExpression cX12_readExpression 3 none :: wsA) (rm_X12_readExpression d) mw g X [.ref (g.2.2 0), .int x] σ z) (hf : f_X12_readExpression_b62 N rec x1 σ = some z) : Bk mw p l e (rm_X12_readExpression (d + 1)) s m args below meth c 3 g A (MQ below (qV mw g A z) args s 0 0 A) 0 0 62 [(0, .ref (g.2.2 0)), (1, .int x1)] [] σ := by
  obtain ⟨hx, hb, hr, hml, hown, hts, hK, hlocks, hXX, hA, hXo⟩ := id C
  intro H locs ls hP hD hS hl
  unfold f_X12_readExpression_b62 at hf
  refine lv_aload_n hx hb dX12_readExpression_62 rfl (lv_at hl 0 rfl) ?_
  refine lv_iload_n hx hb dX12_readExpression_63 rfl (lv_at hl 1 rfl) ?_
  obtain ⟨q5, hq5, hf⟩ := bi_s hf
  refine bk_VV (wf := mw) (q0 := 0) (ci := 11) (rest := []) [.int x1] C hP hD hS hl.1 (c_X12_readAnd hXo hrec hq5) (cwA_V 1 hts wa_584 wa_577 wa_578 wa_579 wa_5 rfl rfl nd_X12_readAnd ⟨by dsimp only [rm_X12_readAnd, rm_X12_readExpression]; omega, by dsimp only [rm_X12_readAnd, rm_X12_readExpression]; omega⟩) rfl rfl rfl rfl (Nat.le_of_ble_eq_true rfl) dX12_readExpression_64 ⟨Nat.zero_le _, Nat.zero_le _⟩ (fun H locs hP hD hS => ?_)
  obtain ⟨z6, hz6, hf⟩ := bi_s hf
  refine lp_X12_readExpression_h67 C hrec hz6 ?_ H locs ls hP hD hS (lv_sub hl [0, 1] rfl)
  intro H locs ls hP hD hS hl
  cases hf
  exact bk_vret C hP hD hS rfl dX12_readExpression_95
def f_X12_readExpression_b38 (N : Nat) (rec : Int32 → Sg → Option Sg) (x1 : Int32) (t0 : Int32) (σ : Sg) : Option (Sg) :=
if t0 = 0 then ((f_X12_wrong N (1 : Int32) σ).bind fun q8 =>
f_X12_readExpression_b62 N rec x1 q8)
else (if x1 = (6 : Int32) then ((f_X12_wrong N (2 : Int32) σ).bind fun q7 =>
f_X12_readExpression_b62 N rec x1 q7)
else (f_X12_readExpression_b62 N rec x1 σ))
set_option maxHeartbeats 4000000 in
set_option maxRecDepth 100000 in
theorem b_X12_readExpression_b38 {N d : Nat} {rec : Int32 → Sg → Option Sg} {x1 : Int32} {t0 : Int32} {σ : Sg} {z : Sg} (C : Cx p s m args meth c cX12_readExpression 3 none RX12 g A X) (hrec : ∀ (x : Int32) (σ : Sg) (z : Sg), rec x σ = some z → MetV l yX12_readExpression (Cond.code yX12_readExpression cX12_readExpression 3 none :: wsA) (rm_X12_readExpression d) mw g X [.ref (g.2.2 0), .int x] σ z) (hf : f_X12_readExpression_b38 N rec x1 t0 σ = some z) : Bk mw p l e (rm_X12_readExpression (d + 1)) s m args below meth c 3 g A (MQ below (qV mw g A z) args s 0 0 A) 0 0 38 [(0, .ref (g.2.2 0)), (1, .int x1)] [.int t0] σ := by
  obtain ⟨hx, hb, hr, hml, hown, hts, hK, hlocks, hXX, hA, hXo⟩ := id C
  intro H locs ls hP hD hS hl
  unfold f_X12_readExpression_b38 at hf
  refine lv_istore_n (lv' := [(2, .int t0), (0, .ref (g.2.2 0)), (1, .int x1)]) hx hb dX12_readExpression_38 rfl hl (by decide) rfl (fun ls hl => ?_)
  refine lv_iload_n hx hb dX12_readExpression_39 rfl (lv_at hl 0 rfl) ?_
  refine lv_if_ne (tgt := 51) hx hb dX12_readExpression_40 (by decide) (fun t40 => ?_) (fun t40 => ?_)
  · have hf := (if_neg t40).symm.trans hf
    refine lv_iload_n hx hb dX12_readExpression_51 rfl (lv_at hl 2 rfl) ?_
    refine lv_bipush (v := (6 : Int32)) hx hb dX12_readExpression_52 (by decide) ?_
    refine lv_icmp_ne (tgt := 62) hx hb dX12_readExpression_54 (by decide) (fun t54 => ?_) (fun t54 => ?_)
    · have hf := (if_neg t54).symm.trans hf
      exact b_X12_readExpression_b62 C hrec hf H locs ls hP hD hS (lv_sub hl [1, 2] rfl)
    · have hf := (if_pos t54).symm.trans hf
      refine lv_aload_n hx hb dX12_readExpression_57 rfl (lv_at hl 1 rfl) ?_
      refine lv_iconst (v := (2 : Int32)) hx hb dX12_readExpression_58 (by decide) ?_
      obtain ⟨q7, hq7, hf⟩ := bi_s hf
      refine bk_VV (wf := mw) (q0 := 0) (ci := 11) (rest := []) [.int (2 : Int32)] C hP hD hS hl.1 (c_X12_wrong hXo hq7) (cwA_V 1 hts wa_552 wa_549 wa_550 wa_551 wa_5 rfl rfl nd_X12_wrong ⟨by dsimp only [rm_X12_wrong, rm_X12_readExpression]; omega, by dsimp only [rm_X12_wrong, rm_X12_readExpression]; omega⟩) rfl rfl rfl rfl (Nat.le_of_ble_eq_true rfl) dX12_readExpression_59 ⟨Nat.zero_le _, Nat.zero_le _⟩ (fun H locs hP hD hS => ?_)
      exact b_X12_readExpression_b62 C hrec hf H locs ls hP hD hS (lv_sub hl [1, 2] rfl)
  · have hf := (if_pos t40).symm.trans hf
    refine lv_aload_n hx hb dX12_readExpression_43 rfl (lv_at hl 1 rfl) ?_
    refine lv_iconst (v := (1 : Int32)) hx hb dX12_readExpression_44 (by decide) ?_
    obtain ⟨q8, hq8, hf⟩ := bi_s hf
    refine bk_VV (wf := mw) (q0 := 0) (ci := 11) (rest := []) [.int (1 : Int32)] C hP hD hS hl.1 (c_X12_wrong hXo hq8) (cwA_V 1 hts wa_552 wa_549 wa_550 wa_551 wa_5 rfl rfl nd_X12_wrong ⟨by dsimp only [rm_X12_wrong, rm_X12_readExpression]; omega, by dsimp only [rm_X12_wrong, rm_X12_readExpression]; omega⟩) rfl rfl rfl rfl (Nat.le_of_ble_eq_true rfl) dX12_readExpression_45 ⟨Nat.zero_le _, Nat.zero_le _⟩ (fun H locs hP hD hS => ?_)
    refine lv_goto (tgt := 62) hx hb dX12_readExpression_48 (by decide) ?_
    exact b_X12_readExpression_b62 C hrec hf H locs ls hP hD hS (lv_sub hl [1, 2] rfl)
def f_X12_readExpression_b33 (N : Nat) (rec : Int32 → Sg → Option Sg) (x1 : Int32) (σ : Sg) : Option (Sg) :=
f_X12_readExpression_b38 N rec x1 (1 : Int32) σ
set_option maxHeartbeats 4000000 in
set_option maxRecDepth 100000 in
theorem b_X12_readExpression_b33 {N d : Nat} {rec : Int32 → Sg → Option Sg} {x1 : Int32} {σ : Sg} {z : Sg} (C : Cx p s m args meth c cX12_readExpression 3 none RX12 g A X) (hrec : ∀ (x : Int32) (σ : Sg) (z : Sg), rec x σ = some z → MetV l yX12_readExpression (Cond.code yX12_readExpression cX12_readExpression 3 none :: wsA) (rm_X12_readExpression d) mw g X [.ref (g.2.2 0), .int x] σ z) (hf : f_X12_readExpression_b33 N rec x1 σ = some z) : Bk mw p l e (rm_X12_readExpression (d + 1)) s m args below meth c 3 g A (MQ below (qV mw g A z) args s 0 0 A) 0 0 33 [(0, .ref (g.2.2 0)), (1, .int x1)] [] σ := by
  obtain ⟨hx, hb, hr, hml, hown, hts, hK, hlocks, hXX, hA, hXo⟩ := id C
  intro H locs ls hP hD hS hl
  unfold f_X12_readExpression_b33 at hf
  refine lv_iconst (v := (1 : Int32)) hx hb dX12_readExpression_33 (by decide) ?_
  refine lv_goto (tgt := 38) hx hb dX12_readExpression_34 (by decide) ?_
  exact b_X12_readExpression_b38 C hrec hf H locs ls hP hD hS (lv_sub hl [0, 1] rfl)
def f_X12_readExpression (N : Nat) (rec : Int32 → Sg → Option Sg) (x1 : Int32) (σ : Sg) : Option (Sg) :=
if (σ 0 20) = 0 then (if (σ 0 16) = (2 : Int32) then (f_X12_readExpression_b33 N rec x1 σ)
else (if (σ 0 16) = (1 : Int32) then (f_X12_readExpression_b33 N rec x1 σ)
else ((f_X12_isMarked N (40 : Int32) σ).bind fun q9 =>
if q9.1 = 0 then (f_X12_readExpression_b38 N rec x1 (0 : Int32) (q9.2))
else (f_X12_readExpression_b33 N rec x1 (q9.2)))))
else (some σ)
set_option maxHeartbeats 4000000 in
set_option maxRecDepth 100000 in
theorem b_X12_readExpression {N d : Nat} {rec : Int32 → Sg → Option Sg} {x1 : Int32} {σ : Sg} {z : Sg} (C : Cx p s m args meth c cX12_readExpression 3 none RX12 g A X) (hrec : ∀ (x : Int32) (σ : Sg) (z : Sg), rec x σ = some z → MetV l yX12_readExpression (Cond.code yX12_readExpression cX12_readExpression 3 none :: wsA) (rm_X12_readExpression d) mw g X [.ref (g.2.2 0), .int x] σ z) (hf : f_X12_readExpression N rec x1 σ = some z) : Bk mw p l e (rm_X12_readExpression (d + 1)) s m args below meth c 3 g A (MQ below (qV mw g A z) args s 0 0 A) 0 0 0 [(0, .ref (g.2.2 0)), (1, .int x1)] [] σ := by
  obtain ⟨hx, hb, hr, hml, hown, hts, hK, hlocks, hXX, hA, hXo⟩ := id C
  intro H locs ls hP hD hS hl
  unfold f_X12_readExpression at hf
  refine lv_aload_n hx hb dX12_readExpression_0 rfl (lv_at hl 0 rfl) ?_
  refine bk_get (wf := mw) (q0 := 0) (ci := 11) (k := 20) (v := .int (σ 0 20)) C hP wl_X12 rfl rfl (by decide) wa_506 rfl rfl dX12_readExpression_1 ?_
  refine lv_if_eq (tgt := 8) hx hb dX12_readExpression_4 (by decide) (fun t4 => ?_) (fun t4 => ?_)
  · have hf := (if_pos t4).symm.trans hf
    refine lv_aload_n hx hb dX12_readExpression_8 rfl (lv_at hl 0 rfl) ?_
    refine bk_get (wf := mw) (q0 := 0) (ci := 11) (k := 16) (v := .int (σ 0 16)) C hP wl_X12 rfl rfl (by decide) wa_507 rfl rfl dX12_readExpression_9 ?_
    refine lv_iconst (v := (2 : Int32)) hx hb dX12_readExpression_12 (by decide) ?_
    refine lv_icmp_eq (tgt := 33) hx hb dX12_readExpression_13 (by decide) (fun t13 => ?_) (fun t13 => ?_)
    · have hf := (if_pos t13).symm.trans hf
      exact b_X12_readExpression_b33 C hrec hf H locs ls hP hD hS (lv_sub hl [0, 1] rfl)
    · have hf := (if_neg t13).symm.trans hf
      refine lv_aload_n hx hb dX12_readExpression_16 rfl (lv_at hl 0 rfl) ?_
      refine bk_get (wf := mw) (q0 := 0) (ci := 11) (k := 16) (v := .int (σ 0 16)) C hP wl_X12 rfl rfl (by decide) wa_507 rfl rfl dX12_readExpression_17 ?_
      refine lv_iconst (v := (1 : Int32)) hx hb dX12_readExpression_20 (by decide) ?_
      refine lv_icmp_eq (tgt := 33) hx hb dX12_readExpression_21 (by decide) (fun t21 => ?_) (fun t21 => ?_)
      · have hf := (if_pos t21).symm.trans hf
        exact b_X12_readExpression_b33 C hrec hf H locs ls hP hD hS (lv_sub hl [0, 1] rfl)
      · have hf := (if_neg t21).symm.trans hf
        refine lv_aload_n hx hb dX12_readExpression_24 rfl (lv_at hl 0 rfl) ?_
        refine lv_bipush (v := (40 : Int32)) hx hb dX12_readExpression_25 (by decide) ?_
        obtain ⟨q9, hq9, hf⟩ := bi_s hf
        refine bk_VI (wf := mw) (q0 := 0) (ci := 11) (rest := []) [.int (40 : Int32)] C hP hD hS hl.1 (c_X12_isMarked hXo hq9) (cwA_V 1 hts wa_576 wa_573 wa_574 wa_575 wa_5 rfl rfl nd_X12_isMarked ⟨by dsimp only [rm_X12_isMarked, rm_X12_readExpression]; omega, by dsimp only [rm_X12_isMarked, rm_X12_readExpression]; omega⟩) rfl rfl rfl rfl (Nat.le_of_ble_eq_true rfl) dX12_readExpression_27 ⟨Nat.zero_le _, Nat.zero_le _⟩ (fun H locs hP hD hS => ?_)
        refine lv_if_eq (tgt := 37) hx hb dX12_readExpression_30 (by decide) (fun t30 => ?_) (fun t30 => ?_)
        · have hf := (if_pos t30).symm.trans hf
          refine lv_iconst (v := (0 : Int32)) hx hb dX12_readExpression_37 (by decide) ?_
          exact b_X12_readExpression_b38 C hrec hf H locs ls hP hD hS (lv_sub hl [0, 1] rfl)
        · have hf := (if_neg t30).symm.trans hf
          exact b_X12_readExpression_b33 C hrec hf H locs ls hP hD hS (lv_sub hl [0, 1] rfl)
  · have hf := (if_neg t4).symm.trans hf
    cases hf
    exact bk_vret C hP hD hS rfl dX12_readExpression_7
theorem c_X12_readExpression {N d : Nat} {rec : Int32 → Sg → Option Sg} {x1 : Int32} {σ : Sg} {z : Sg} (hX : xOK g X) (hrec : ∀ (x : Int32) (σ : Sg) (z : Sg), rec x σ = some z → MetV l yX12_readExpression (Cond.code yX12_readExpression cX12_readExpression 3 none :: wsA) (rm_X12_readExpression d) mw g X [.ref (g.2.2 0), .int x] σ z) (hf : f_X12_readExpression N rec x1 σ = some z) : MetV l yX12_readExpression (Cond.code yX12_readExpression cX12_readExpression 3 none :: wsA) (rm_X12_readExpression (d + 1)) mw g X [.ref (g.2.2 0), .int x1] σ z :=
  MetV_of hX (by decide) (Nat.le_of_ble_eq_true rfl) (fun p e s m args below meth c A C => b_X12_readExpression C hrec hf)
def fr_X12 (N : Nat) : Nat → Int32 → Sg → Option (Sg)
  | 0 => fun _ _ => none
  | d + 1 => fun x σ => f_X12_readExpression N (fr_X12 N d) x σ
theorem cr_X12 {N : Nat} (hX : xOK g X) : ∀ (d : Nat) (x : Int32) (σ : Sg) (z : Sg), fr_X12 N d x σ = some z → MetV l yX12_readExpression (Cond.code yX12_readExpression cX12_readExpression 3 none :: wsA) (rm_X12_readExpression d) mw g X [.ref (g.2.2 0), .int x] σ z
  | 0, _, _, _, h => by cases h
  | d + 1, _, _, _, h => c_X12_readExpression hX (cr_X12 hX d) h
-- X12_sayFarm: sayFarm(I)V
abbrev rm_X12_sayFarm : Room := { frames := 3, cells := 0, slots := 0, locals := 68 }
theorem nd_X12_sayFarm : yX12_sayFarm.cls ≠ "java/lang/invoke/MethodHandle" ∧ yX12_sayFarm.cls ≠ "java/lang/invoke/VarHandle" ∧ (parseMethodDescriptor yX12_sayFarm.desc).map (fun d => d.parameters.length) = some 1 := by decide +kernel
def f_X12_sayFarm_b79 (N : Nat) (x2 : Int32) (x3 : Int32) (x4 : Int32) (σ : Sg) : Option (Nat × Int32 × Sg) :=
bd (x4 + (1 : Int32)) fun v1 =>
some (0, v1, σ)
set_option maxHeartbeats 4000000 in
set_option maxRecDepth 100000 in
theorem b_X12_sayFarm_b79 {N : Nat} {x2 : Int32} {x3 : Int32} {x4 : Int32} {σ : Sg} {z : Nat × Int32 × Sg} (C : Cx p s m args meth c cX12_sayFarm 5 none RX12 g A X) (hf : f_X12_sayFarm_b79 N x2 x3 x4 σ = some z) (k0 : z.1 = 0 → Bk mw p l e rm_X12_sayFarm s m args below meth c 5 g A Q 0 0 57 [(0, .ref (g.2.2 0)), (2, .int x2), (3, .int x3), (4, .int z.2.1)] [] z.2.2) (k : ¬ z.1 = 0 → Bk mw p l e rm_X12_sayFarm s m args below meth c 5 g A Q 0 0 85 [(0, .ref (g.2.2 0)), (2, .int x2), (3, .int x3)] [] z.2.2) : Bk mw p l e rm_X12_sayFarm s m args below meth c 5 g A Q 0 0 79 [(0, .ref (g.2.2 0)), (2, .int x2), (3, .int x3), (4, .int x4)] [] σ := by
  obtain ⟨hx, hb, hr, hml, hown, hts, hK, hlocks, hXX, hA, hXo⟩ := id C
  intro H locs ls hP hD hS hl
  unfold f_X12_sayFarm_b79 at hf
  obtain ⟨v1, ev1, hf⟩ := bd_s hf
  refine lv_iinc (v := v1) (lv' := [(4, .int v1), (0, .ref (g.2.2 0)), (2, .int x2), (3, .int x3)]) hx hb dX12_sayFarm_79 hl (k := 3) rfl (by rw [ev1]; rfl) (by decide) rfl (fun ls hl => ?_)
  refine lv_goto (tgt := 57) hx hb dX12_sayFarm_82 (by decide) ?_
  cases hf
  exact k0 rfl H locs ls hP hD hS (lv_sub hl [1, 2, 3, 0] rfl)
def s_X12_sayFarm_h57 (N : Nat) (x2 : Int32) (x3 : Int32) (x4 : Int32) (σ : Sg) : Option (Nat × Int32 × Sg) :=
if x2 ≤ x4 then (some (1, 0, σ))
else (if (x4 < 0 ∨ 18 ≤ x4.toNatClampNeg) then none else
if (σ 5 x4.toNatClampNeg) = x3 then ((f_X12_wrong N (4 : Int32) σ).bind fun q3 =>
f_X12_sayFarm_b79 N x2 x3 x4 q3)
else (f_X12_sayFarm_b79 N x2 x3 x4 σ))
set_option maxHeartbeats 4000000 in
set_option maxRecDepth 100000 in
theorem e_X12_sayFarm_h57 {N : Nat} {x2 : Int32} {x3 : Int32} {x4 : Int32} {σ : Sg} {z : Nat × Int32 × Sg} (C : Cx p s m args meth c cX12_sayFarm 5 none RX12 g A X) (hf : s_X12_sayFarm_h57 N x2 x3 x4 σ = some z) (k0 : z.1 = 0 → Bk mw p l e rm_X12_sayFarm s m args below meth c 5 g A Q 0 0 57 [(0, .ref (g.2.2 0)), (2, .int x2), (3, .int x3), (4, .int z.2.1)] [] z.2.2) (k : ¬ z.1 = 0 → Bk mw p l e rm_X12_sayFarm s m args below meth c 5 g A Q 0 0 85 [(0, .ref (g.2.2 0)), (2, .int x2), (3, .int x3)] [] z.2.2) : Bk mw p l e rm_X12_sayFarm s m args below meth c 5 g A Q 0 0 57 [(0, .ref (g.2.2 0)), (2, .int x2), (3, .int x3), (4, .int x4)] [] σ := by
  obtain ⟨hx, hb, hr, hml, hown, hts, hK, hlocks, hXX, hA, hXo⟩ := id C
  intro H locs ls hP hD hS hl
  unfold s_X12_sayFarm_h57 at hf
  refine lv_iload hx hb dX12_sayFarm_57 (lv_at hl 3 rfl) ?_
  refine lv_iload_n hx hb dX12_sayFarm_59 rfl (lv_at hl 1 rfl) ?_
  refine lv_icmp_ge (tgt := 85) hx hb dX12_sayFarm_60 (by decide) (fun t60 => ?_) (fun t60 => ?_)
  · have hf := (if_pos t60).symm.trans hf
    cases hf
    exact (k (show ¬ (1 : Nat) = 0 by decide)) H locs ls hP hD hS (lv_sub hl [0, 1, 2] rfl)
  · have hf := (if_neg t60).symm.trans hf
    refine lv_aload_n hx hb dX12_sayFarm_63 rfl (lv_at hl 0 rfl) ?_
    refine bk_get (wf := mw) (q0 := 0) (ci := 11) (k := 5) (v := .ref (g.2.2 5)) C hP wl_X12 rfl rfl (by decide) wa_159 rfl rfl dX12_sayFarm_64 ?_
    refine lv_iload hx hb dX12_sayFarm_67 (lv_at hl 3 rfl) ?_
    obtain ⟨g2, hf⟩ := gd_s hf
    refine bk_iald (wf := mw) (q0 := 5) (n := 18) (j := x4.toNatClampNeg) C hP rfl g2 rfl dX12_sayFarm_69 ?_
    refine lv_iload_n hx hb dX12_sayFarm_70 rfl (lv_at hl 2 rfl) ?_
    refine lv_icmp_ne (tgt := 79) hx hb dX12_sayFarm_71 (by decide) (fun t71 => ?_) (fun t71 => ?_)
    · have hf := (if_neg t71).symm.trans hf
      exact b_X12_sayFarm_b79 C hf k0 k H locs ls hP hD hS (lv_sub hl [0, 1, 2, 3] rfl)
    · have hf := (if_pos t71).symm.trans hf
      refine lv_aload_n hx hb dX12_sayFarm_74 rfl (lv_at hl 0 rfl) ?_
      refine lv_iconst (v := (4 : Int32)) hx hb dX12_sayFarm_75 (by decide) ?_
      obtain ⟨q3, hq3, hf⟩ := bi_s hf
      refine bk_VV (wf := mw) (q0 := 0) (ci := 11) (rest := []) [.int (4 : Int32)] C hP hD hS hl.1 (c_X12_wrong hXo hq3) (cwA_V 1 hts wa_552 wa_549 wa_550 wa_551 wa_5 rfl rfl nd_X12_wrong ⟨Nat.le_of_ble_eq_true rfl, Nat.le_of_ble_eq_true rfl⟩) rfl rfl rfl rfl (Nat.le_of_ble_eq_true rfl) dX12_sayFarm_76 ⟨Nat.le_of_ble_eq_true rfl, Nat.le_of_ble_eq_true rfl⟩ (fun H locs hP hD hS => ?_)
      exact b_X12_sayFarm_b79 C hf k0 k H locs ls hP hD hS (lv_sub hl [0, 1, 2, 3] rfl)
theorem lp_X12_sayFarm_h57 {N : Nat} {n : Nat} {x2 : Int32} {x3 : Int32} {x4 : Int32} {σ : Sg} {z : Nat × Int32 × Sg} (C : Cx p s m args meth c cX12_sayFarm 5 none RX12 g A X) (hz : it (fun q => s_X12_sayFarm_h57 N x2 x3 q.1 q.2) n (x4, σ) = some z) (k : Bk mw p l e rm_X12_sayFarm s m args below meth c 5 g A Q 0 0 85 [(0, .ref (g.2.2 0)), (2, .int x2), (3, .int x3)] [] z.2.2) : Bk mw p l e rm_X12_sayFarm s m args below meth c 5 g A Q 0 0 57 [(0, .ref (g.2.2 0)), (2, .int x2), (3, .int x3), (4, .int x4)] [] σ :=
  it_W (S := Int32 × Sg) (fun q => Bk mw p l e rm_X12_sayFarm s m args below meth c 5 g A Q 0 0 57 [(0, .ref (g.2.2 0)), (2, .int x2), (3, .int x3), (4, .int q.1)] [] q.2) (fun z => Bk mw p l e rm_X12_sayFarm s m args below meth c 5 g A Q 0 0 85 [(0, .ref (g.2.2 0)), (2, .int x2), (3, .int x3)] [] z.2.2) (fun q z hq k0 k => e_X12_sayFarm_h57 C hq k0 k) n (x4, σ) z hz k
def f_X12_sayFarm_b96 (N : Nat) (x2 : Int32) (x3 : Int32) (σ : Sg) : Option (Sg) :=
if (x2 < 0 ∨ 18 ≤ x2.toNatClampNeg) then none else
bd (wr σ 5 (x2.toNatClampNeg) x3) fun σ5 =>
(f_X12_readNumber N (0 : Int32) (99 : Int32) σ5).bind fun q6 =>
if (x2 < 0 ∨ 18 ≤ x2.toNatClampNeg) then none else
bd (wr (q6.2) 6 (x2.toNatClampNeg) q6.1) fun σ8 =>
(f_X12_readNumber N (0 : Int32) (20 : Int32) σ8).bind fun q9 =>
if (x2 < 0 ∨ 18 ≤ x2.toNatClampNeg) then none else
bd (wr (q9.2) 7 (x2.toNatClampNeg) q9.1) fun σ11 =>
(f_X12_readNumber N (1 : Int32) (5 : Int32) σ11).bind fun q12 =>
if (x2 < 0 ∨ 18 ≤ x2.toNatClampNeg) then none else
bd (wr (q12.2) 8 (x2.toNatClampNeg) q12.1) fun σ14 =>
bd (wr σ14 3 5 ((σ14 3 5) + (1 : Int32))) fun σ15 =>
some σ15
set_option maxHeartbeats 4000000 in
set_option maxRecDepth 100000 in
theorem b_X12_sayFarm_b96 {N : Nat} {x2 : Int32} {x3 : Int32} {σ : Sg} {z : Sg} (C : Cx p s m args meth c cX12_sayFarm 5 none RX12 g A X) (hf : f_X12_sayFarm_b96 N x2 x3 σ = some z) : Bk mw p l e rm_X12_sayFarm s m args below meth c 5 g A (MQ below (qV mw g A z) args s 0 0 A) 0 0 96 [(0, .ref (g.2.2 0)), (2, .int x2), (3, .int x3)] [] σ := by
  obtain ⟨hx, hb, hr, hml, hown, hts, hK, hlocks, hXX, hA, hXo⟩ := id C
  intro H locs ls hP hD hS hl
  unfold f_X12_sayFarm_b96 at hf
  refine lv_aload_n hx hb dX12_sayFarm_96 rfl (lv_at hl 0 rfl) ?_
  refine bk_get (wf := mw) (q0 := 0) (ci := 11) (k := 5) (v := .ref (g.2.2 5)) C hP wl_X12 rfl rfl (by decide) wa_159 rfl rfl dX12_sayFarm_97 ?_
  refine lv_iload_n hx hb dX12_sayFarm_100 rfl (lv_at hl 1 rfl) ?_
  refine lv_iload_n hx hb dX12_sayFarm_101 rfl (lv_at hl 2 rfl) ?_
  obtain ⟨g4, hf⟩ := gd_s hf
  obtain ⟨σ5, eσ5, hf⟩ := bd_s hf
  refine bk_iast (wf := mw) (σ1 := σ5) (q0 := 5) (n := 18) (j := x2.toNatClampNeg) C hP hD hS rfl g4 rfl (by rw [eσ5]; exact mw_a5 g _ _ _) dX12_sayFarm_102 (fun H locs hP hD hS => ?_)
  refine lv_aload_n hx hb dX12_sayFarm_103 rfl (lv_at hl 0 rfl) ?_
  refine bk_get (wf := mw) (q0 := 0) (ci := 11) (k := 6) (v := .ref (g.2.2 6)) C hP wl_X12 rfl rfl (by decide) wa_160 rfl rfl dX12_sayFarm_104 ?_
  refine lv_iload_n hx hb dX12_sayFarm_107 rfl (lv_at hl 1 rfl) ?_
  refine lv_aload_n hx hb dX12_sayFarm_108 rfl (lv_at hl 0 rfl) ?_
  refine lv_iconst (v := (0 : Int32)) hx hb dX12_sayFarm_109 (by decide) ?_
  refine lv_bipush (v := (99 : Int32)) hx hb dX12_sayFarm_110 (by decide) ?_
  obtain ⟨q6, hq6, hf⟩ := bi_s hf
  refine bk_VI (wf := mw) (q0 := 0) (ci := 11) (rest := [.int x2, .ref (g.2.2 6)]) [.int (0 : Int32), .int (99 : Int32)] C hP hD hS hl.1 (c_X12_readNumber hXo hq6) (cwA_V 2 hts wa_564 wa_561 wa_562 wa_563 wa_5 rfl rfl nd_X12_readNumber ⟨Nat.le_of_ble_eq_true rfl, Nat.le_of_ble_eq_true rfl⟩) rfl rfl rfl rfl (Nat.le_of_ble_eq_true rfl) dX12_sayFarm_112 ⟨Nat.le_of_ble_eq_true rfl, Nat.le_of_ble_eq_true rfl⟩ (fun H locs hP hD hS => ?_)
  obtain ⟨g7, hf⟩ := gd_s hf
  obtain ⟨σ8, eσ8, hf⟩ := bd_s hf
  refine bk_iast (wf := mw) (σ1 := σ8) (q0 := 6) (n := 18) (j := x2.toNatClampNeg) C hP hD hS rfl g7 rfl (by rw [eσ8]; exact mw_a6 g _ _ _) dX12_sayFarm_115 (fun H locs hP hD hS => ?_)
  refine lv_aload_n hx hb dX12_sayFarm_116 rfl (lv_at hl 0 rfl) ?_
  refine bk_get (wf := mw) (q0 := 0) (ci := 11) (k := 7) (v := .ref (g.2.2 7)) C hP wl_X12 rfl rfl (by decide) wa_161 rfl rfl dX12_sayFarm_117 ?_
  refine lv_iload_n hx hb dX12_sayFarm_120 rfl (lv_at hl 1 rfl) ?_
  refine lv_aload_n hx hb dX12_sayFarm_121 rfl (lv_at hl 0 rfl) ?_
  refine lv_iconst (v := (0 : Int32)) hx hb dX12_sayFarm_122 (by decide) ?_
  refine lv_bipush (v := (20 : Int32)) hx hb dX12_sayFarm_123 (by decide) ?_
  obtain ⟨q9, hq9, hf⟩ := bi_s hf
  refine bk_VI (wf := mw) (q0 := 0) (ci := 11) (rest := [.int x2, .ref (g.2.2 7)]) [.int (0 : Int32), .int (20 : Int32)] C hP hD hS hl.1 (c_X12_readNumber hXo hq9) (cwA_V 2 hts wa_564 wa_561 wa_562 wa_563 wa_5 rfl rfl nd_X12_readNumber ⟨Nat.le_of_ble_eq_true rfl, Nat.le_of_ble_eq_true rfl⟩) rfl rfl rfl rfl (Nat.le_of_ble_eq_true rfl) dX12_sayFarm_125 ⟨Nat.le_of_ble_eq_true rfl, Nat.le_of_ble_eq_true rfl⟩ (fun H locs hP hD hS => ?_)
  obtain ⟨g10, hf⟩ := gd_s hf
  obtain ⟨σ11, eσ11, hf⟩ := bd_s hf
  refine bk_iast (wf := mw) (σ1 := σ11) (q0 := 7) (n := 18) (j := x2.toNatClampNeg) C hP hD hS rfl g10 rfl (by rw [eσ11]; exact mw_a7 g _ _ _) dX12_sayFarm_128 (fun H locs hP hD hS => ?_)
  refine lv_aload_n hx hb dX12_sayFarm_129 rfl (lv_at hl 0 rfl) ?_
  refine bk_get (wf := mw) (q0 := 0) (ci := 11) (k := 8) (v := .ref (g.2.2 8)) C hP wl_X12 rfl rfl (by decide) wa_162 rfl rfl dX12_sayFarm_130 ?_
  refine lv_iload_n hx hb dX12_sayFarm_133 rfl (lv_at hl 1 rfl) ?_
  refine lv_aload_n hx hb dX12_sayFarm_134 rfl (lv_at hl 0 rfl) ?_
  refine lv_iconst (v := (1 : Int32)) hx hb dX12_sayFarm_135 (by decide) ?_
  refine lv_iconst (v := (5 : Int32)) hx hb dX12_sayFarm_136 (by decide) ?_
  obtain ⟨q12, hq12, hf⟩ := bi_s hf
  refine bk_VI (wf := mw) (q0 := 0) (ci := 11) (rest := [.int x2, .ref (g.2.2 8)]) [.int (1 : Int32), .int (5 : Int32)] C hP hD hS hl.1 (c_X12_readNumber hXo hq12) (cwA_V 2 hts wa_564 wa_561 wa_562 wa_563 wa_5 rfl rfl nd_X12_readNumber ⟨Nat.le_of_ble_eq_true rfl, Nat.le_of_ble_eq_true rfl⟩) rfl rfl rfl rfl (Nat.le_of_ble_eq_true rfl) dX12_sayFarm_137 ⟨Nat.le_of_ble_eq_true rfl, Nat.le_of_ble_eq_true rfl⟩ (fun H locs hP hD hS => ?_)
  obtain ⟨g13, hf⟩ := gd_s hf
  obtain ⟨σ14, eσ14, hf⟩ := bd_s hf
  refine bk_iast (wf := mw) (σ1 := σ14) (q0 := 8) (n := 18) (j := x2.toNatClampNeg) C hP hD hS rfl g13 rfl (by rw [eσ14]; exact mw_a8 g _ _ _) dX12_sayFarm_140 (fun H locs hP hD hS => ?_)
  refine lv_aload_n hx hb dX12_sayFarm_141 rfl (lv_at hl 0 rfl) ?_
  refine bk_get (wf := mw) (q0 := 0) (ci := 11) (k := 3) (v := .ref (g.2.2 3)) C hP wl_X12 rfl rfl (by decide) wa_157 rfl rfl dX12_sayFarm_142 ?_
  refine lv_iconst (v := (5 : Int32)) hx hb dX12_sayFarm_145 (by decide) ?_
  refine lv_dup2_11 hx hb dX12_sayFarm_146 rfl rfl ?_
  refine bk_iald (wf := mw) (q0 := 3) (n := 10) (j := 5) C hP rfl (vin_l (by decide) (by decide)) (by decide) dX12_sayFarm_147 ?_
  refine lv_iconst (v := (1 : Int32)) hx hb dX12_sayFarm_148 (by decide) ?_
  refine lv_iadd hx hb dX12_sayFarm_149 ?_
  obtain ⟨σ15, eσ15, hf⟩ := bd_s hf
  refine bk_iast (wf := mw) (σ1 := σ15) (q0 := 3) (n := 10) (j := 5) C hP hD hS rfl (vin_l (by decide) (by decide)) (by decide) (by rw [eσ15]; exact mw_a3 g _ _ _) dX12_sayFarm_150 (fun H locs hP hD hS => ?_)
  cases hf
  exact bk_vret C hP hD hS rfl dX12_sayFarm_151
def f_X12_sayFarm_b16 (N : Nat) (x1 : Int32) (σ : Sg) : Option (Sg) :=
if (σ 0 20) = 0 then ((f_X12_stepOn N σ).bind fun q16 =>
bd ((9 : Int32) + (q16 3 5)) fun v17 =>
if (v17 < 0 ∨ 18 ≤ v17.toNatClampNeg) then none else
bd (wr q16 4 (v17.toNatClampNeg) x1) fun σ19 =>
(f_X12_numberNow N (0 : Int32) (99 : Int32) σ19).bind fun q20 =>
bd q20.1 fun v21 =>
(it (fun q => s_X12_sayFarm_h57 N v17 v21 q.1 q.2) N ((9 : Int32), (q20.2))).bind fun z22 =>
if ((z22.2.2) 0 20) = 0 then ((f_X12_stepOn N (z22.2.2)).bind fun q23 =>
f_X12_sayFarm_b96 N v17 v21 q23)
else (f_X12_sayFarm_b96 N v17 v21 (z22.2.2)))
else (some σ)
set_option maxHeartbeats 4000000 in
set_option maxRecDepth 100000 in
theorem b_X12_sayFarm_b16 {N : Nat} {x1 : Int32} {σ : Sg} {z : Sg} (C : Cx p s m args meth c cX12_sayFarm 5 none RX12 g A X) (hf : f_X12_sayFarm_b16 N x1 σ = some z) : Bk mw p l e rm_X12_sayFarm s m args below meth c 5 g A (MQ below (qV mw g A z) args s 0 0 A) 0 0 16 [(0, .ref (g.2.2 0)), (1, .int x1)] [] σ := by
  obtain ⟨hx, hb, hr, hml, hown, hts, hK, hlocks, hXX, hA, hXo⟩ := id C
  intro H locs ls hP hD hS hl
  unfold f_X12_sayFarm_b16 at hf
  refine lv_aload_n hx hb dX12_sayFarm_16 rfl (lv_at hl 0 rfl) ?_
  refine bk_get (wf := mw) (q0 := 0) (ci := 11) (k := 20) (v := .int (σ 0 20)) C hP wl_X12 rfl rfl (by decide) wa_506 rfl rfl dX12_sayFarm_17 ?_
  refine lv_if_eq (tgt := 24) hx hb dX12_sayFarm_20 (by decide) (fun t20 => ?_) (fun t20 => ?_)
  · have hf := (if_pos t20).symm.trans hf
    refine lv_aload_n hx hb dX12_sayFarm_24 rfl (lv_at hl 0 rfl) ?_
    obtain ⟨q16, hq16, hf⟩ := bi_s hf
    refine bk_VV (wf := mw) (q0 := 0) (ci := 11) (rest := []) [] C hP hD hS hl.1 (c_X12_stepOn hXo hq16) (cwA_V 0 hts wa_516 wa_513 wa_514 wa_515 wa_5 rfl rfl nd_X12_stepOn ⟨Nat.le_of_ble_eq_true rfl, Nat.le_of_ble_eq_true rfl⟩) rfl rfl rfl rfl (Nat.le_of_ble_eq_true rfl) dX12_sayFarm_25 ⟨Nat.le_of_ble_eq_true rfl, Nat.le_of_ble_eq_true rfl⟩ (fun H locs hP hD hS => ?_)
    refine lv_bipush (v := (9 : Int32)) hx hb dX12_sayFarm_28 (by decide) ?_
    refine lv_aload_n hx hb dX12_sayFarm_30 rfl (lv_at hl 0 rfl) ?_
    refine bk_get (wf := mw) (q0 := 0) (ci := 11) (k := 3) (v := .ref (g.2.2 3)) C hP wl_X12 rfl rfl (by decide) wa_157 rfl rfl dX12_sayFarm_31 ?_
    refine lv_iconst (v := (5 : Int32)) hx hb dX12_sayFarm_34 (by decide) ?_
    refine bk_iald (wf := mw) (q0 := 3) (n := 10) (j := 5) C hP rfl (vin_l (by decide) (by decide)) (by decide) dX12_sayFarm_35 ?_
    refine lv_iadd hx hb dX12_sayFarm_36 ?_
    obtain ⟨v17, ev17, hf⟩ := bd_s hf
    rw [← ev17]
    refine lv_istore_n (lv' := [(2, .int v17), (0, .ref (g.2.2 0)), (1, .int x1)]) hx hb dX12_sayFarm_37 rfl hl (by decide) rfl (fun ls hl => ?_)
    refine lv_aload_n hx hb dX12_sayFarm_38 rfl (lv_at hl 1 rfl) ?_
    refine bk_get (wf := mw) (q0 := 0) (ci := 11) (k := 4) (v := .ref (g.2.2 4)) C hP wl_X12 rfl rfl (by decide) wa_158 rfl rfl dX12_sayFarm_39 ?_
    refine lv_iload_n hx hb dX12_sayFarm_42 rfl (lv_at hl 0 rfl) ?_
    refine lv_iload_n hx hb dX12_sayFarm_43 rfl (lv_at hl 2 rfl) ?_
    obtain ⟨g18, hf⟩ := gd_s hf
    obtain ⟨σ19, eσ19, hf⟩ := bd_s hf
    refine bk_iast (wf := mw) (σ1 := σ19) (q0 := 4) (n := 18) (j := v17.toNatClampNeg) C hP hD hS rfl g18 rfl (by rw [eσ19]; exact mw_a4 g _ _ _) dX12_sayFarm_44 (fun H locs hP hD hS => ?_)
    refine lv_aload_n hx hb dX12_sayFarm_45 rfl (lv_at hl 1 rfl) ?_
    refine lv_iconst (v := (0 : Int32)) hx hb dX12_sayFarm_46 (by decide) ?_
    refine lv_bipush (v := (99 : Int32)) hx hb dX12_sayFarm_47 (by decide) ?_
    obtain ⟨q20, hq20, hf⟩ := bi_s hf
    refine bk_VI (wf := mw) (q0 := 0) (ci := 11) (rest := []) [.int (0 : Int32), .int (99 : Int32)] C hP hD hS hl.1 (c_X12_numberNow hXo hq20) (cwA_V 2 hts wa_568 wa_565 wa_566 wa_567 wa_5 rfl rfl nd_X12_numberNow ⟨Nat.le_of_ble_eq_true rfl, Nat.le_of_ble_eq_true rfl⟩) rfl rfl rfl rfl (Nat.le_of_ble_eq_true rfl) dX12_sayFarm_49 ⟨Nat.le_of_ble_eq_true rfl, Nat.le_of_ble_eq_true rfl⟩ (fun H locs hP hD hS => ?_)
    obtain ⟨v21, ev21, hf⟩ := bd_s hf
    rw [← ev21]
    refine lv_istore_n (lv' := [(3, .int v21), (2, .int v17), (0, .ref (g.2.2 0)), (1, .int x1)]) hx hb dX12_sayFarm_52 rfl hl (by decide) rfl (fun ls hl => ?_)
    refine lv_bipush (v := (9 : Int32)) hx hb dX12_sayFarm_53 (by decide) ?_
    refine lv_istore (lv' := [(4, .int (9 : Int32)), (3, .int v21), (2, .int v17), (0, .ref (g.2.2 0)), (1, .int x1)]) hx hb dX12_sayFarm_55 hl (by decide) rfl (fun ls hl => ?_)
    obtain ⟨z22, hz22, hf⟩ := bi_s hf
    refine lp_X12_sayFarm_h57 C hz22 ?_ H locs ls hP hD hS (lv_sub hl [3, 2, 1, 0] rfl)
    intro H locs ls hP hD hS hl
    refine lv_aload_n hx hb dX12_sayFarm_85 rfl (lv_at hl 0 rfl) ?_
    refine bk_get (wf := mw) (q0 := 0) (ci := 11) (k := 20) (v := .int ((z22.2.2) 0 20)) C hP wl_X12 rfl rfl (by decide) wa_506 rfl rfl dX12_sayFarm_86 ?_
    refine lv_if_ne (tgt := 96) hx hb dX12_sayFarm_89 (by decide) (fun t89 => ?_) (fun t89 => ?_)
    · have hf := (if_neg t89).symm.trans hf
      exact b_X12_sayFarm_b96 C hf H locs ls hP hD hS (lv_sub hl [0, 1, 2] rfl)
    · have hf := (if_pos t89).symm.trans hf
      refine lv_aload_n hx hb dX12_sayFarm_92 rfl (lv_at hl 0 rfl) ?_
      obtain ⟨q23, hq23, hf⟩ := bi_s hf
      refine bk_VV (wf := mw) (q0 := 0) (ci := 11) (rest := []) [] C hP hD hS hl.1 (c_X12_stepOn hXo hq23) (cwA_V 0 hts wa_516 wa_513 wa_514 wa_515 wa_5 rfl rfl nd_X12_stepOn ⟨Nat.le_of_ble_eq_true rfl, Nat.le_of_ble_eq_true rfl⟩) rfl rfl rfl rfl (Nat.le_of_ble_eq_true rfl) dX12_sayFarm_93 ⟨Nat.le_of_ble_eq_true rfl, Nat.le_of_ble_eq_true rfl⟩ (fun H locs hP hD hS => ?_)
      exact b_X12_sayFarm_b96 C hf H locs ls hP hD hS (lv_sub hl [0, 1, 2] rfl)
  · have hf := (if_neg t20).symm.trans hf
    cases hf
    exact bk_vret C hP hD hS rfl dX12_sayFarm_23
def f_X12_sayFarm (N : Nat) (x1 : Int32) (σ : Sg) : Option (Sg) :=
if (σ 3 5) = (9 : Int32) then ((f_X12_wrong N (2 : Int32) σ).bind fun q24 =>
f_X12_sayFarm_b16 N x1 q24)
else (f_X12_sayFarm_b16 N x1 σ)
set_option maxHeartbeats 4000000 in
set_option maxRecDepth 100000 in
theorem b_X12_sayFarm {N : Nat} {x1 : Int32} {σ : Sg} {z : Sg} (C : Cx p s m args meth c cX12_sayFarm 5 none RX12 g A X) (hf : f_X12_sayFarm N x1 σ = some z) : Bk mw p l e rm_X12_sayFarm s m args below meth c 5 g A (MQ below (qV mw g A z) args s 0 0 A) 0 0 0 [(0, .ref (g.2.2 0)), (1, .int x1)] [] σ := by
  obtain ⟨hx, hb, hr, hml, hown, hts, hK, hlocks, hXX, hA, hXo⟩ := id C
  intro H locs ls hP hD hS hl
  unfold f_X12_sayFarm at hf
  refine lv_aload_n hx hb dX12_sayFarm_0 rfl (lv_at hl 0 rfl) ?_
  refine bk_get (wf := mw) (q0 := 0) (ci := 11) (k := 3) (v := .ref (g.2.2 3)) C hP wl_X12 rfl rfl (by decide) wa_157 rfl rfl dX12_sayFarm_1 ?_
  refine lv_iconst (v := (5 : Int32)) hx hb dX12_sayFarm_4 (by decide) ?_
  refine bk_iald (wf := mw) (q0 := 3) (n := 10) (j := 5) C hP rfl (vin_l (by decide) (by decide)) (by decide) dX12_sayFarm_5 ?_
  refine lv_bipush (v := (9 : Int32)) hx hb dX12_sayFarm_6 (by decide) ?_
  refine lv_icmp_ne (tgt := 16) hx hb dX12_sayFarm_8 (by decide) (fun t8 => ?_) (fun t8 => ?_)
  · have hf := (if_neg t8).symm.trans hf
    exact b_X12_sayFarm_b16 C hf H locs ls hP hD hS (lv_sub hl [0, 1] rfl)
  · have hf := (if_pos t8).symm.trans hf
    refine lv_aload_n hx hb dX12_sayFarm_11 rfl (lv_at hl 0 rfl) ?_
    refine lv_iconst (v := (2 : Int32)) hx hb dX12_sayFarm_12 (by decide) ?_
    obtain ⟨q24, hq24, hf⟩ := bi_s hf
    refine bk_VV (wf := mw) (q0 := 0) (ci := 11) (rest := []) [.int (2 : Int32)] C hP hD hS hl.1 (c_X12_wrong hXo hq24) (cwA_V 1 hts wa_552 wa_549 wa_550 wa_551 wa_5 rfl rfl nd_X12_wrong ⟨Nat.le_of_ble_eq_true rfl, Nat.le_of_ble_eq_true rfl⟩) rfl rfl rfl rfl (Nat.le_of_ble_eq_true rfl) dX12_sayFarm_13 ⟨Nat.le_of_ble_eq_true rfl, Nat.le_of_ble_eq_true rfl⟩ (fun H locs hP hD hS => ?_)
    exact b_X12_sayFarm_b16 C hf H locs ls hP hD hS (lv_sub hl [0, 1] rfl)
theorem c_X12_sayFarm {N : Nat} {x1 : Int32} {σ : Sg} {z : Sg} (hX : xOK g X) (hf : f_X12_sayFarm N x1 σ = some z) : MetV l yX12_sayFarm (Cond.code yX12_sayFarm cX12_sayFarm 5 none :: wsA) rm_X12_sayFarm mw g X [.ref (g.2.2 0), .int x1] σ z :=
  MetV_of hX (by decide) (Nat.le_of_ble_eq_true rfl) (fun p e s m args below meth c A C => b_X12_sayFarm C hf)
-- X12_sayMists: sayMists()V
abbrev rm_X12_sayMists : Room := { frames := 3, cells := 0, slots := 0, locals := 68 }
theorem nd_X12_sayMists : yX12_sayMists.cls ≠ "java/lang/invoke/MethodHandle" ∧ yX12_sayMists.cls ≠ "java/lang/invoke/VarHandle" ∧ (parseMethodDescriptor yX12_sayMists.desc).map (fun d => d.parameters.length) = some 0 := by decide +kernel
def f_X12_sayMists_b48 (N : Nat) (x1 : Int32) (σ : Sg) : Option (Nat × Int32 × Sg) :=
(f_X12_readNumber N (0 : Int32) (9 : Int32) σ).bind fun q1 =>
bd q1.1 fun v2 =>
if ((q1.2) 0 20) = 0 then (if (((8 : Int32) + x1) < 0 ∨ 16 ≤ ((8 : Int32) + x1).toNatClampNeg) then none else
bd (wr (q1.2) 9 (((8 : Int32) + x1).toNatClampNeg) v2) fun σ4 =>
bd (x1 + (1 : Int32)) fun v5 =>
some (0, v5, σ4))
else (some (1, 0, (q1.2)))
set_option maxHeartbeats 4000000 in
set_option maxRecDepth 100000 in
theorem b_X12_sayMists_b48 {N : Nat} {x1 : Int32} {σ : Sg} {z : Nat × Int32 × Sg} (C : Cx p s m args meth c cX12_sayMists 3 none RX12 g A X) (hf : f_X12_sayMists_b48 N x1 σ = some z) (k0 : z.1 = 0 → Bk mw p l e rm_X12_sayMists s m args below meth c 3 g A Q 0 0 22 [(0, .ref (g.2.2 0)), (1, .int z.2.1)] [] z.2.2) (k : ¬ z.1 = 0 → ((z.1 = 1 → Bk mw p l e rm_X12_sayMists s m args below meth c 3 g A Q 0 0 63 [] [] z.2.2) ∧ (¬ z.1 = 1 → Bk mw p l e rm_X12_sayMists s m args below meth c 3 g A Q 0 0 80 [(0, .ref (g.2.2 0)), (1, .int z.2.1)] [] z.2.2))) : Bk mw p l e rm_X12_sayMists s m args below meth c 3 g A Q 0 0 48 [(0, .ref (g.2.2 0)), (1, .int x1)] [] σ := by
  obtain ⟨hx, hb, hr, hml, hown, hts, hK, hlocks, hXX, hA, hXo⟩ := id C
  intro H locs ls hP hD hS hl
  unfold f_X12_sayMists_b48 at hf
  refine lv_aload_n hx hb dX12_sayMists_48 rfl (lv_at hl 0 rfl) ?_
  refine lv_iconst (v := (0 : Int32)) hx hb dX12_sayMists_49 (by decide) ?_
  refine lv_bipush (v := (9 : Int32)) hx hb dX12_sayMists_50 (by decide) ?_
  obtain ⟨q1, hq1, hf⟩ := bi_s hf
  refine bk_VI (wf := mw) (q0 := 0) (ci := 11) (rest := []) [.int (0 : Int32), .int (9 : Int32)] C hP hD hS hl.1 (c_X12_readNumber hXo hq1) (cwA_V 2 hts wa_564 wa_561 wa_562 wa_563 wa_5 rfl rfl nd_X12_readNumber ⟨Nat.le_of_ble_eq_true rfl, Nat.le_of_ble_eq_true rfl⟩) rfl rfl rfl rfl (Nat.le_of_ble_eq_true rfl) dX12_sayMists_52 ⟨Nat.le_of_ble_eq_true rfl, Nat.le_of_ble_eq_true rfl⟩ (fun H locs hP hD hS => ?_)
  obtain ⟨v2, ev2, hf⟩ := bd_s hf
  rw [← ev2]
  refine lv_istore_n (lv' := [(2, .int v2), (0, .ref (g.2.2 0)), (1, .int x1)]) hx hb dX12_sayMists_55 rfl hl (by decide) rfl (fun ls hl => ?_)
  refine lv_aload_n hx hb dX12_sayMists_56 rfl (lv_at hl 1 rfl) ?_
  refine bk_get (wf := mw) (q0 := 0) (ci := 11) (k := 20) (v := .int ((q1.2) 0 20)) C hP wl_X12 rfl rfl (by decide) wa_506 rfl rfl dX12_sayMists_57 ?_
  refine lv_if_eq (tgt := 64) hx hb dX12_sayMists_60 (by decide) (fun t60 => ?_) (fun t60 => ?_)
  · have hf := (if_pos t60).symm.trans hf
    refine lv_aload_n hx hb dX12_sayMists_64 rfl (lv_at hl 1 rfl) ?_
    refine bk_get (wf := mw) (q0 := 0) (ci := 11) (k := 9) (v := .ref (g.2.2 9)) C hP wl_X12 rfl rfl (by decide) wa_163 rfl rfl dX12_sayMists_65 ?_
    refine lv_bipush (v := (8 : Int32)) hx hb dX12_sayMists_68 (by decide) ?_
    refine lv_iload_n hx hb dX12_sayMists_70 rfl (lv_at hl 2 rfl) ?_
    refine lv_iadd hx hb dX12_sayMists_71 ?_
    refine lv_iload_n hx hb dX12_sayMists_72 rfl (lv_at hl 0 rfl) ?_
    obtain ⟨g3, hf⟩ := gd_s hf
    obtain ⟨σ4, eσ4, hf⟩ := bd_s hf
    refine bk_iast (wf := mw) (σ1 := σ4) (q0 := 9) (n := 16) (j := ((8 : Int32) + x1).toNatClampNeg) C hP hD hS rfl g3 rfl (by rw [eσ4]; exact mw_a9 g _ _ _) dX12_sayMists_73 (fun H locs hP hD hS => ?_)
    obtain ⟨v5, ev5, hf⟩ := bd_s hf
    refine lv_iinc (v := v5) (lv' := [(1, .int v5), (2, .int v2), (0, .ref (g.2.2 0))]) hx hb dX12_sayMists_74 hl (k := 2) rfl (by rw [ev5]; rfl) (by decide) rfl (fun ls hl => ?_)
    refine lv_goto (tgt := 22) hx hb dX12_sayMists_77 (by decide) ?_
    cases hf
    exact k0 rfl H locs ls hP hD hS (lv_sub hl [2, 0] rfl)
  · have hf := (if_neg t60).symm.trans hf
    cases hf
    exact ((k (show ¬ (1 : Nat) = 0 by decide)).1 rfl) H locs ls hP hD hS (lv_sub hl [] rfl)
def s_X12_sayMists_h22 (N : Nat) (x1 : Int32) (σ : Sg) : Option (Nat × Int32 × Sg) :=
if (σ 0 20) = 0 then (if (σ 0 16) = (2 : Int32) then (if x1 = (8 : Int32) then ((f_X12_wrong N (2 : Int32) σ).bind fun q6 =>
f_X12_sayMists_b48 N x1 q6)
else (f_X12_sayMists_b48 N x1 σ))
else (some (2, x1, σ)))
else (some (2, x1, σ))
set_option maxHeartbeats 4000000 in
set_option maxRecDepth 100000 in
theorem e_X12_sayMists_h22 {N : Nat} {x1 : Int32} {σ : Sg} {z : Nat × Int32 × Sg} (C : Cx p s m args meth c cX12_sayMists 3 none RX12 g A X) (hf : s_X12_sayMists_h22 N x1 σ = some z) (k0 : z.1 = 0 → Bk mw p l e rm_X12_sayMists s m args below meth c 3 g A Q 0 0 22 [(0, .ref (g.2.2 0)), (1, .int z.2.1)] [] z.2.2) (k : ¬ z.1 = 0 → ((z.1 = 1 → Bk mw p l e rm_X12_sayMists s m args below meth c 3 g A Q 0 0 63 [] [] z.2.2) ∧ (¬ z.1 = 1 → Bk mw p l e rm_X12_sayMists s m args below meth c 3 g A Q 0 0 80 [(0, .ref (g.2.2 0)), (1, .int z.2.1)] [] z.2.2))) : Bk mw p l e rm_X12_sayMists s m args below meth c 3 g A Q 0 0 22 [(0, .ref (g.2.2 0)), (1, .int x1)] [] σ := by
  obtain ⟨hx, hb, hr, hml, hown, hts, hK, hlocks, hXX, hA, hXo⟩ := id C
  intro H locs ls hP hD hS hl
  unfold s_X12_sayMists_h22 at hf
  refine lv_aload_n hx hb dX12_sayMists_22 rfl (lv_at hl 0 rfl) ?_
  refine bk_get (wf := mw) (q0 := 0) (ci := 11) (k := 20) (v := .int (σ 0 20)) C hP wl_X12 rfl rfl (by decide) wa_506 rfl rfl dX12_sayMists_23 ?_
  refine lv_if_ne (tgt := 80) hx hb dX12_sayMists_26 (by decide) (fun t26 => ?_) (fun t26 => ?_)
  · have hf := (if_neg t26).symm.trans hf
    cases hf
    exact ((k (show ¬ (2 : Nat) = 0 by decide)).2 (show ¬ (2 : Nat) = 1 by decide)) H locs ls hP hD hS (lv_sub hl [0, 1] rfl)
  · have hf := (if_pos t26).symm.trans hf
    refine lv_aload_n hx hb dX12_sayMists_29 rfl (lv_at hl 0 rfl) ?_
    refine bk_get (wf := mw) (q0 := 0) (ci := 11) (k := 16) (v := .int (σ 0 16)) C hP wl_X12 rfl rfl (by decide) wa_507 rfl rfl dX12_sayMists_30 ?_
    refine lv_iconst (v := (2 : Int32)) hx hb dX12_sayMists_33 (by decide) ?_
    refine lv_icmp_ne (tgt := 80) hx hb dX12_sayMists_34 (by decide) (fun t34 => ?_) (fun t34 => ?_)
    · have hf := (if_neg t34).symm.trans hf
      cases hf
      exact ((k (show ¬ (2 : Nat) = 0 by decide)).2 (show ¬ (2 : Nat) = 1 by decide)) H locs ls hP hD hS (lv_sub hl [0, 1] rfl)
    · have hf := (if_pos t34).symm.trans hf
      refine lv_iload_n hx hb dX12_sayMists_37 rfl (lv_at hl 1 rfl) ?_
      refine lv_bipush (v := (8 : Int32)) hx hb dX12_sayMists_38 (by decide) ?_
      refine lv_icmp_ne (tgt := 48) hx hb dX12_sayMists_40 (by decide) (fun t40 => ?_) (fun t40 => ?_)
      · have hf := (if_neg t40).symm.trans hf
        exact b_X12_sayMists_b48 C hf k0 k H locs ls hP hD hS (lv_sub hl [0, 1] rfl)
      · have hf := (if_pos t40).symm.trans hf
        refine lv_aload_n hx hb dX12_sayMists_43 rfl (lv_at hl 0 rfl) ?_
        refine lv_iconst (v := (2 : Int32)) hx hb dX12_sayMists_44 (by decide) ?_
        obtain ⟨q6, hq6, hf⟩ := bi_s hf
        refine bk_VV (wf := mw) (q0 := 0) (ci := 11) (rest := []) [.int (2 : Int32)] C hP hD hS hl.1 (c_X12_wrong hXo hq6) (cwA_V 1 hts wa_552 wa_549 wa_550 wa_551 wa_5 rfl rfl nd_X12_wrong ⟨Nat.le_of_ble_eq_true rfl, Nat.le_of_ble_eq_true rfl⟩) rfl rfl rfl rfl (Nat.le_of_ble_eq_true rfl) dX12_sayMists_45 ⟨Nat.le_of_ble_eq_true rfl, Nat.le_of_ble_eq_true rfl⟩ (fun H locs hP hD hS => ?_)
        exact b_X12_sayMists_b48 C hf k0 k H locs ls hP hD hS (lv_sub hl [0, 1] rfl)
theorem lp_X12_sayMists_h22 {N : Nat} {n : Nat} {x1 : Int32} {σ : Sg} {z : Nat × Int32 × Sg} (C : Cx p s m args meth c cX12_sayMists 3 none RX12 g A X) (hz : it (fun q => s_X12_sayMists_h22 N q.1 q.2) n (x1, σ) = some z) (k : ((z.1 = 1 → Bk mw p l e rm_X12_sayMists s m args below meth c 3 g A Q 0 0 63 [] [] z.2.2) ∧ (¬ z.1 = 1 → Bk mw p l e rm_X12_sayMists s m args below meth c 3 g A Q 0 0 80 [(0, .ref (g.2.2 0)), (1, .int z.2.1)] [] z.2.2))) : Bk mw p l e rm_X12_sayMists s m args below meth c 3 g A Q 0 0 22 [(0, .ref (g.2.2 0)), (1, .int x1)] [] σ :=
  it_W (S := Int32 × Sg) (fun q => Bk mw p l e rm_X12_sayMists s m args below meth c 3 g A Q 0 0 22 [(0, .ref (g.2.2 0)), (1, .int q.1)] [] q.2) (fun z => ((z.1 = 1 → Bk mw p l e rm_X12_sayMists s m args below meth c 3 g A Q 0 0 63 [] [] z.2.2) ∧ (¬ z.1 = 1 → Bk mw p l e rm_X12_sayMists s m args below meth c 3 g A Q 0 0 80 [(0, .ref (g.2.2 0)), (1, .int z.2.1)] [] z.2.2))) (fun q z hq k0 k => e_X12_sayMists_h22 C hq k0 k) n (x1, σ) z hz k
def f_X12_sayMists_b22 (N : Nat) (x1 : Int32) (σ : Sg) : Option (Sg) :=
(it (fun q => s_X12_sayMists_h22 N q.1 q.2) N (x1, σ)).bind fun z7 =>
if z7.1 = 1 then (some (z7.2.2))
else (bd (wr (z7.2.2) 3 8 (z7.2.1)) fun σ8 =>
some σ8)
set_option maxHeartbeats 4000000 in
set_option maxRecDepth 100000 in
theorem b_X12_sayMists_b22 {N : Nat} {x1 : Int32} {σ : Sg} {z : Sg} (C : Cx p s m args meth c cX12_sayMists 3 none RX12 g A X) (hf : f_X12_sayMists_b22 N x1 σ = some z) : Bk mw p l e rm_X12_sayMists s m args below meth c 3 g A (MQ below (qV mw g A z) args s 0 0 A) 0 0 22 [(0, .ref (g.2.2 0)), (1, .int x1)] [] σ := by
  obtain ⟨hx, hb, hr, hml, hown, hts, hK, hlocks, hXX, hA, hXo⟩ := id C
  intro H locs ls hP hD hS hl
  unfold f_X12_sayMists_b22 at hf
  obtain ⟨z7, hz7, hf⟩ := bi_s hf
  refine lp_X12_sayMists_h22 C hz7 ⟨fun t0 => ?_, fun t0 => ?_⟩ H locs ls hP hD hS (lv_sub hl [0, 1] rfl)
  · have hf := (if_pos t0).symm.trans hf
    intro H locs ls hP hD hS hl
    cases hf
    exact bk_vret C hP hD hS rfl dX12_sayMists_63
  · have hf := (if_neg t0).symm.trans hf
    intro H locs ls hP hD hS hl
    refine lv_aload_n hx hb dX12_sayMists_80 rfl (lv_at hl 0 rfl) ?_
    refine bk_get (wf := mw) (q0 := 0) (ci := 11) (k := 3) (v := .ref (g.2.2 3)) C hP wl_X12 rfl rfl (by decide) wa_157 rfl rfl dX12_sayMists_81 ?_
    refine lv_bipush (v := (8 : Int32)) hx hb dX12_sayMists_84 (by decide) ?_
    refine lv_iload_n hx hb dX12_sayMists_86 rfl (lv_at hl 1 rfl) ?_
    obtain ⟨σ8, eσ8, hf⟩ := bd_s hf
    refine bk_iast (wf := mw) (σ1 := σ8) (q0 := 3) (n := 10) (j := 8) C hP hD hS rfl (vin_l (by decide) (by decide)) (by decide) (by rw [eσ8]; exact mw_a3 g _ _ _) dX12_sayMists_87 (fun H locs hP hD hS => ?_)
    cases hf
    exact bk_vret C hP hD hS rfl dX12_sayMists_88
def f_X12_sayMists (N : Nat) (σ : Sg) : Option (Sg) :=
if (σ 0 20) = 0 then (if (σ 0 16) = (2 : Int32) then (f_X12_sayMists_b22 N (0 : Int32) σ)
else ((f_X12_wrong N (1 : Int32) σ).bind fun q9 =>
f_X12_sayMists_b22 N (0 : Int32) q9))
else (f_X12_sayMists_b22 N (0 : Int32) σ)
set_option maxHeartbeats 4000000 in
set_option maxRecDepth 100000 in
theorem b_X12_sayMists {N : Nat} {σ : Sg} {z : Sg} (C : Cx p s m args meth c cX12_sayMists 3 none RX12 g A X) (hf : f_X12_sayMists N σ = some z) : Bk mw p l e rm_X12_sayMists s m args below meth c 3 g A (MQ below (qV mw g A z) args s 0 0 A) 0 0 0 [(0, .ref (g.2.2 0))] [] σ := by
  obtain ⟨hx, hb, hr, hml, hown, hts, hK, hlocks, hXX, hA, hXo⟩ := id C
  intro H locs ls hP hD hS hl
  unfold f_X12_sayMists at hf
  refine lv_iconst (v := (0 : Int32)) hx hb dX12_sayMists_0 (by decide) ?_
  refine lv_istore_n (lv' := [(1, .int (0 : Int32)), (0, .ref (g.2.2 0))]) hx hb dX12_sayMists_1 rfl hl (by decide) rfl (fun ls hl => ?_)
  refine lv_aload_n hx hb dX12_sayMists_2 rfl (lv_at hl 1 rfl) ?_
  refine bk_get (wf := mw) (q0 := 0) (ci := 11) (k := 20) (v := .int (σ 0 20)) C hP wl_X12 rfl rfl (by decide) wa_506 rfl rfl dX12_sayMists_3 ?_
  refine lv_if_ne (tgt := 22) hx hb dX12_sayMists_6 (by decide) (fun t6 => ?_) (fun t6 => ?_)
  · have hf := (if_neg t6).symm.trans hf
    exact b_X12_sayMists_b22 C hf H locs ls hP hD hS (lv_sub hl [1, 0] rfl)
  · have hf := (if_pos t6).symm.trans hf
    refine lv_aload_n hx hb dX12_sayMists_9 rfl (lv_at hl 1 rfl) ?_
    refine bk_get (wf := mw) (q0 := 0) (ci := 11) (k := 16) (v := .int (σ 0 16)) C hP wl_X12 rfl rfl (by decide) wa_507 rfl rfl dX12_sayMists_10 ?_
    refine lv_iconst (v := (2 : Int32)) hx hb dX12_sayMists_13 (by decide) ?_
    refine lv_icmp_eq (tgt := 22) hx hb dX12_sayMists_14 (by decide) (fun t14 => ?_) (fun t14 => ?_)
    · have hf := (if_pos t14).symm.trans hf
      exact b_X12_sayMists_b22 C hf H locs ls hP hD hS (lv_sub hl [1, 0] rfl)
    · have hf := (if_neg t14).symm.trans hf
      refine lv_aload_n hx hb dX12_sayMists_17 rfl (lv_at hl 1 rfl) ?_
      refine lv_iconst (v := (1 : Int32)) hx hb dX12_sayMists_18 (by decide) ?_
      obtain ⟨q9, hq9, hf⟩ := bi_s hf
      refine bk_VV (wf := mw) (q0 := 0) (ci := 11) (rest := []) [.int (1 : Int32)] C hP hD hS hl.1 (c_X12_wrong hXo hq9) (cwA_V 1 hts wa_552 wa_549 wa_550 wa_551 wa_5 rfl rfl nd_X12_wrong ⟨Nat.le_of_ble_eq_true rfl, Nat.le_of_ble_eq_true rfl⟩) rfl rfl rfl rfl (Nat.le_of_ble_eq_true rfl) dX12_sayMists_19 ⟨Nat.le_of_ble_eq_true rfl, Nat.le_of_ble_eq_true rfl⟩ (fun H locs hP hD hS => ?_)
      exact b_X12_sayMists_b22 C hf H locs ls hP hD hS (lv_sub hl [1, 0] rfl)
theorem c_X12_sayMists {N : Nat} {σ : Sg} {z : Sg} (hX : xOK g X) (hf : f_X12_sayMists N σ = some z) : MetV l yX12_sayMists (Cond.code yX12_sayMists cX12_sayMists 3 none :: wsA) rm_X12_sayMists mw g X [.ref (g.2.2 0)] σ z :=
  MetV_of hX (by decide) (Nat.le_of_ble_eq_true rfl) (fun p e s m args below meth c A C => b_X12_sayMists C hf)
-- X12_sayOnce: sayOnce(I)V
abbrev rm_X12_sayOnce : Room := { frames := 172, cells := 0, slots := 0, locals := 3462 }
theorem nd_X12_sayOnce : yX12_sayOnce.cls ≠ "java/lang/invoke/MethodHandle" ∧ yX12_sayOnce.cls ≠ "java/lang/invoke/VarHandle" ∧ (parseMethodDescriptor yX12_sayOnce.desc).map (fun d => d.parameters.length) = some 1 := by decide +kernel
def f_X12_sayOnce_b51 (N : Nat) (x1 : Int32) (σ : Sg) : Option (Sg) :=
if x1 = (8 : Int32) then ((fr_X12 N 8 (0 : Int32) σ).bind fun q1 =>
some q1)
else (some σ)
set_option maxHeartbeats 4000000 in
set_option maxRecDepth 100000 in
theorem b_X12_sayOnce_b51 {N : Nat} {x1 : Int32} {σ : Sg} {z : Sg} (C : Cx p s m args meth c cX12_sayOnce 2 none RX12 g A X) (hf : f_X12_sayOnce_b51 N x1 σ = some z) : Bk mw p l e rm_X12_sayOnce s m args below meth c 2 g A (MQ below (qV mw g A z) args s 0 0 A) 0 0 51 [(0, .ref (g.2.2 0)), (1, .int x1)] [] σ := by
  obtain ⟨hx, hb, hr, hml, hown, hts, hK, hlocks, hXX, hA, hXo⟩ := id C
  intro H locs ls hP hD hS hl
  unfold f_X12_sayOnce_b51 at hf
  refine lv_iload_n hx hb dX12_sayOnce_51 rfl (lv_at hl 1 rfl) ?_
  refine lv_bipush (v := (8 : Int32)) hx hb dX12_sayOnce_52 (by decide) ?_
  refine lv_icmp_ne (tgt := 62) hx hb dX12_sayOnce_54 (by decide) (fun t54 => ?_) (fun t54 => ?_)
  · have hf := (if_neg t54).symm.trans hf
    cases hf
    exact bk_vret C hP hD hS rfl dX12_sayOnce_62
  · have hf := (if_pos t54).symm.trans hf
    refine lv_aload_n hx hb dX12_sayOnce_57 rfl (lv_at hl 0 rfl) ?_
    refine lv_iconst (v := (0 : Int32)) hx hb dX12_sayOnce_58 (by decide) ?_
    obtain ⟨q1, hq1, hf⟩ := bi_s hf
    refine bk_VV (wf := mw) (q0 := 0) (ci := 11) (rest := []) [.int (0 : Int32)] C hP hD hS hl.1 (cr_X12 hXo 8 _ _ _ hq1) (cwA_V 1 hts wa_572 wa_569 wa_570 wa_571 wa_5 rfl rfl nd_X12_readExpression ⟨Nat.le_of_ble_eq_true rfl, Nat.le_of_ble_eq_true rfl⟩) rfl rfl rfl rfl (Nat.le_of_ble_eq_true rfl) dX12_sayOnce_59 ⟨Nat.le_of_ble_eq_true rfl, Nat.le_of_ble_eq_true rfl⟩ (fun H locs hP hD hS => ?_)
    cases hf
    exact bk_vret C hP hD hS rfl dX12_sayOnce_62
def f_X12_sayOnce_b32 (N : Nat) (x1 : Int32) (σ : Sg) : Option (Sg) :=
if x1 = (4 : Int32) then ((f_X12_readNumber N (0 : Int32) (9 : Int32) σ).bind fun q2 =>
bd (wr (q2.2) 3 7 q2.1) fun σ3 =>
f_X12_sayOnce_b51 N x1 σ3)
else (f_X12_sayOnce_b51 N x1 σ)
set_option maxHeartbeats 4000000 in
set_option maxRecDepth 100000 in
theorem b_X12_sayOnce_b32 {N : Nat} {x1 : Int32} {σ : Sg} {z : Sg} (C : Cx p s m args meth c cX12_sayOnce 2 none RX12 g A X) (hf : f_X12_sayOnce_b32 N x1 σ = some z) : Bk mw p l e rm_X12_sayOnce s m args below meth c 2 g A (MQ below (qV mw g A z) args s 0 0 A) 0 0 32 [(0, .ref (g.2.2 0)), (1, .int x1)] [] σ := by
  obtain ⟨hx, hb, hr, hml, hown, hts, hK, hlocks, hXX, hA, hXo⟩ := id C
  intro H locs ls hP hD hS hl
  unfold f_X12_sayOnce_b32 at hf
  refine lv_iload_n hx hb dX12_sayOnce_32 rfl (lv_at hl 1 rfl) ?_
  refine lv_iconst (v := (4 : Int32)) hx hb dX12_sayOnce_33 (by decide) ?_
  refine lv_icmp_ne (tgt := 51) hx hb dX12_sayOnce_34 (by decide) (fun t34 => ?_) (fun t34 => ?_)
  · have hf := (if_neg t34).symm.trans hf
    exact b_X12_sayOnce_b51 C hf H locs ls hP hD hS (lv_sub hl [0, 1] rfl)
  · have hf := (if_pos t34).symm.trans hf
    refine lv_aload_n hx hb dX12_sayOnce_37 rfl (lv_at hl 0 rfl) ?_
    refine bk_get (wf := mw) (q0 := 0) (ci := 11) (k := 3) (v := .ref (g.2.2 3)) C hP wl_X12 rfl rfl (by decide) wa_157 rfl rfl dX12_sayOnce_38 ?_
    refine lv_bipush (v := (7 : Int32)) hx hb dX12_sayOnce_41 (by decide) ?_
    refine lv_aload_n hx hb dX12_sayOnce_43 rfl (lv_at hl 0 rfl) ?_
    refine lv_iconst (v := (0 : Int32)) hx hb dX12_sayOnce_44 (by decide) ?_
    refine lv_bipush (v := (9 : Int32)) hx hb dX12_sayOnce_45 (by decide) ?_
    obtain ⟨q2, hq2, hf⟩ := bi_s hf
    refine bk_VI (wf := mw) (q0 := 0) (ci := 11) (rest := [.int (7 : Int32), .ref (g.2.2 3)]) [.int (0 : Int32), .int (9 : Int32)] C hP hD hS hl.1 (c_X12_readNumber hXo hq2) (cwA_V 2 hts wa_564 wa_561 wa_562 wa_563 wa_5 rfl rfl nd_X12_readNumber ⟨Nat.le_of_ble_eq_true rfl, Nat.le_of_ble_eq_true rfl⟩) rfl rfl rfl rfl (Nat.le_of_ble_eq_true rfl) dX12_sayOnce_47 ⟨Nat.le_of_ble_eq_true rfl, Nat.le_of_ble_eq_true rfl⟩ (fun H locs hP hD hS => ?_)
    obtain ⟨σ3, eσ3, hf⟩ := bd_s hf
    refine bk_iast (wf := mw) (σ1 := σ3) (q0 := 3) (n := 10) (j := 7) C hP hD hS rfl (vin_l (by decide) (by decide)) (by decide) (by rw [eσ3]; exact mw_a3 g _ _ _) dX12_sayOnce_50 (fun H locs hP hD hS => ?_)
    exact b_X12_sayOnce_b51 C hf H locs ls hP hD hS (lv_sub hl [0, 1] rfl)
def f_X12_sayOnce_b13 (N : Nat) (x1 : Int32) (σ : Sg) : Option (Sg) :=
if x1 = (2 : Int32) then ((f_X12_readNumber N (1 : Int32) (99 : Int32) σ).bind fun q4 =>
bd (wr (q4.2) 3 6 q4.1) fun σ5 =>
f_X12_sayOnce_b32 N x1 σ5)
else (f_X12_sayOnce_b32 N x1 σ)
set_option maxHeartbeats 4000000 in
set_option maxRecDepth 100000 in
theorem b_X12_sayOnce_b13 {N : Nat} {x1 : Int32} {σ : Sg} {z : Sg} (C : Cx p s m args meth c cX12_sayOnce 2 none RX12 g A X) (hf : f_X12_sayOnce_b13 N x1 σ = some z) : Bk mw p l e rm_X12_sayOnce s m args below meth c 2 g A (MQ below (qV mw g A z) args s 0 0 A) 0 0 13 [(0, .ref (g.2.2 0)), (1, .int x1)] [] σ := by
  obtain ⟨hx, hb, hr, hml, hown, hts, hK, hlocks, hXX, hA, hXo⟩ := id C
  intro H locs ls hP hD hS hl
  unfold f_X12_sayOnce_b13 at hf
  refine lv_iload_n hx hb dX12_sayOnce_13 rfl (lv_at hl 1 rfl) ?_
  refine lv_iconst (v := (2 : Int32)) hx hb dX12_sayOnce_14 (by decide) ?_
  refine lv_icmp_ne (tgt := 32) hx hb dX12_sayOnce_15 (by decide) (fun t15 => ?_) (fun t15 => ?_)
  · have hf := (if_neg t15).symm.trans hf
    exact b_X12_sayOnce_b32 C hf H locs ls hP hD hS (lv_sub hl [0, 1] rfl)
  · have hf := (if_pos t15).symm.trans hf
    refine lv_aload_n hx hb dX12_sayOnce_18 rfl (lv_at hl 0 rfl) ?_
    refine bk_get (wf := mw) (q0 := 0) (ci := 11) (k := 3) (v := .ref (g.2.2 3)) C hP wl_X12 rfl rfl (by decide) wa_157 rfl rfl dX12_sayOnce_19 ?_
    refine lv_bipush (v := (6 : Int32)) hx hb dX12_sayOnce_22 (by decide) ?_
    refine lv_aload_n hx hb dX12_sayOnce_24 rfl (lv_at hl 0 rfl) ?_
    refine lv_iconst (v := (1 : Int32)) hx hb dX12_sayOnce_25 (by decide) ?_
    refine lv_bipush (v := (99 : Int32)) hx hb dX12_sayOnce_26 (by decide) ?_
    obtain ⟨q4, hq4, hf⟩ := bi_s hf
    refine bk_VI (wf := mw) (q0 := 0) (ci := 11) (rest := [.int (6 : Int32), .ref (g.2.2 3)]) [.int (1 : Int32), .int (99 : Int32)] C hP hD hS hl.1 (c_X12_readNumber hXo hq4) (cwA_V 2 hts wa_564 wa_561 wa_562 wa_563 wa_5 rfl rfl nd_X12_readNumber ⟨Nat.le_of_ble_eq_true rfl, Nat.le_of_ble_eq_true rfl⟩) rfl rfl rfl rfl (Nat.le_of_ble_eq_true rfl) dX12_sayOnce_28 ⟨Nat.le_of_ble_eq_true rfl, Nat.le_of_ble_eq_true rfl⟩ (fun H locs hP hD hS => ?_)
    obtain ⟨σ5, eσ5, hf⟩ := bd_s hf
    refine bk_iast (wf := mw) (σ1 := σ5) (q0 := 3) (n := 10) (j := 6) C hP hD hS rfl (vin_l (by decide) (by decide)) (by decide) (by rw [eσ5]; exact mw_a3 g _ _ _) dX12_sayOnce_31 (fun H locs hP hD hS => ?_)
    exact b_X12_sayOnce_b32 C hf H locs ls hP hD hS (lv_sub hl [0, 1] rfl)
def f_X12_sayOnce (N : Nat) (x1 : Int32) (σ : Sg) : Option (Sg) :=
(f_X12_stepOn N σ).bind fun q6 =>
if x1 = (1 : Int32) then ((f_X12_sayMists N q6).bind fun q7 =>
f_X12_sayOnce_b13 N x1 q7)
else (f_X12_sayOnce_b13 N x1 q6)
set_option maxHeartbeats 4000000 in
set_option maxRecDepth 100000 in
theorem b_X12_sayOnce {N : Nat} {x1 : Int32} {σ : Sg} {z : Sg} (C : Cx p s m args meth c cX12_sayOnce 2 none RX12 g A X) (hf : f_X12_sayOnce N x1 σ = some z) : Bk mw p l e rm_X12_sayOnce s m args below meth c 2 g A (MQ below (qV mw g A z) args s 0 0 A) 0 0 0 [(0, .ref (g.2.2 0)), (1, .int x1)] [] σ := by
  obtain ⟨hx, hb, hr, hml, hown, hts, hK, hlocks, hXX, hA, hXo⟩ := id C
  intro H locs ls hP hD hS hl
  unfold f_X12_sayOnce at hf
  refine lv_aload_n hx hb dX12_sayOnce_0 rfl (lv_at hl 0 rfl) ?_
  obtain ⟨q6, hq6, hf⟩ := bi_s hf
  refine bk_VV (wf := mw) (q0 := 0) (ci := 11) (rest := []) [] C hP hD hS hl.1 (c_X12_stepOn hXo hq6) (cwA_V 0 hts wa_516 wa_513 wa_514 wa_515 wa_5 rfl rfl nd_X12_stepOn ⟨Nat.le_of_ble_eq_true rfl, Nat.le_of_ble_eq_true rfl⟩) rfl rfl rfl rfl (Nat.le_of_ble_eq_true rfl) dX12_sayOnce_1 ⟨Nat.le_of_ble_eq_true rfl, Nat.le_of_ble_eq_true rfl⟩ (fun H locs hP hD hS => ?_)
  refine lv_iload_n hx hb dX12_sayOnce_4 rfl (lv_at hl 1 rfl) ?_
  refine lv_iconst (v := (1 : Int32)) hx hb dX12_sayOnce_5 (by decide) ?_
  refine lv_icmp_ne (tgt := 13) hx hb dX12_sayOnce_6 (by decide) (fun t6 => ?_) (fun t6 => ?_)
  · have hf := (if_neg t6).symm.trans hf
    exact b_X12_sayOnce_b13 C hf H locs ls hP hD hS (lv_sub hl [0, 1] rfl)
  · have hf := (if_pos t6).symm.trans hf
    refine lv_aload_n hx hb dX12_sayOnce_9 rfl (lv_at hl 0 rfl) ?_
    obtain ⟨q7, hq7, hf⟩ := bi_s hf
    refine bk_VV (wf := mw) (q0 := 0) (ci := 11) (rest := []) [] C hP hD hS hl.1 (c_X12_sayMists hXo hq7) (cwA_V 0 hts wa_560 wa_557 wa_558 wa_559 wa_5 rfl rfl nd_X12_sayMists ⟨Nat.le_of_ble_eq_true rfl, Nat.le_of_ble_eq_true rfl⟩) rfl rfl rfl rfl (Nat.le_of_ble_eq_true rfl) dX12_sayOnce_10 ⟨Nat.le_of_ble_eq_true rfl, Nat.le_of_ble_eq_true rfl⟩ (fun H locs hP hD hS => ?_)
    exact b_X12_sayOnce_b13 C hf H locs ls hP hD hS (lv_sub hl [0, 1] rfl)
theorem c_X12_sayOnce {N : Nat} {x1 : Int32} {σ : Sg} {z : Sg} (hX : xOK g X) (hf : f_X12_sayOnce N x1 σ = some z) : MetV l yX12_sayOnce (Cond.code yX12_sayOnce cX12_sayOnce 2 none :: wsA) rm_X12_sayOnce mw g X [.ref (g.2.2 0), .int x1] σ z :=
  MetV_of hX (by decide) (Nat.le_of_ble_eq_true rfl) (fun p e s m args below meth c A C => b_X12_sayOnce C hf)
end GEN
