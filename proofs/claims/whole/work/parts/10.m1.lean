section GEN
variable {p : Program} {l : Launch} {e : Env} {s : State} {m : MethodId} {args : Array Value} {below : List Frame} {meth : Method} {c : Code} {g : WG} {A : Nat → Prop} {X : Xt} {Q : State → Prop}
/-! ----- X12_isOf (isOf(II)Z) ----- -/
abbrev rm_X12_isOf : Room := { frames := 0, cells := 0, slots := 0, locals := 0 }
def f_X12_isOf (N : Nat) (x0 : Int32) (x1 : Int32) (σ : Sg) : Option (Int32 × Sg) :=
if ((x0 >>> (x1 &&& 31)) &&& (1 : Int32)) = (1 : Int32) then (some ((1 : Int32), σ))
else (some ((0 : Int32), σ))
set_option maxHeartbeats 4000000 in
set_option maxRecDepth 100000 in
theorem b_X12_isOf {N : Nat} {x0 : Int32} {x1 : Int32} {σ : Sg} {z : Int32 × Sg} (C : Cx p s m args meth c cX12_isOf 2 (some .boolean) RX12 wsX12_isOf g A X) (hf : f_X12_isOf N x0 x1 σ = some z) : Bk mw p l e rm_X12_isOf s m args below meth c 2 g A (MQ below (qI mw g A z.1 z.2) args s 0 0 A) 0 [(0, .int x0), (1, .int x1)] [] σ := by
  obtain ⟨hx, hb, hr, hml, hown, hts, hK, hlocks, hXX, hA, hXo⟩ := id C
  intro H locs ls hP hD hS hl
  unfold f_X12_isOf at hf
  refine lv_iload_n hx hb dX12_isOf_0 rfl (lv_at hl 0 rfl) ?_
  refine lv_iload_n hx hb dX12_isOf_1 rfl (lv_at hl 1 rfl) ?_
  refine lv_ishr hx hb dX12_isOf_2 ?_
  refine lv_iconst (v := (1 : Int32)) hx hb dX12_isOf_3 (by decide) ?_
  refine lv_iand hx hb dX12_isOf_4 ?_
  refine lv_iconst (v := (1 : Int32)) hx hb dX12_isOf_5 (by decide) ?_
  refine lv_icmp_ne (tgt := 13) hx hb dX12_isOf_6 (by decide) (fun t6 => ?_) (fun t6 => ?_)
  · have hf := (if_neg t6).symm.trans hf
    refine lv_iconst (v := (0 : Int32)) hx hb dX12_isOf_13 (by decide) ?_
    cases hf
    exact bk_zret C hP hD hS (by decide) rfl dX12_isOf_14
  · have hf := (if_pos t6).symm.trans hf
    refine lv_iconst (v := (1 : Int32)) hx hb dX12_isOf_9 (by decide) ?_
    refine lv_goto (tgt := 14) hx hb dX12_isOf_10 (by decide) ?_
    cases hf
    exact bk_zret C hP hD hS (by decide) rfl dX12_isOf_14
theorem c_X12_isOf {N : Nat} {x0 : Int32} {x1 : Int32} {σ : Sg} {z : Int32 × Sg} (hX : xOK X) (hf : f_X12_isOf N x0 x1 σ = some z) : MetI l yX12_isOf wsX12_isOf rm_X12_isOf mw g X [.int x0, .int x1] σ z.1 z.2 :=
  MetI_of hX (by decide) rfl (Nat.le_of_ble_eq_true rfl) (fun p e s m args below meth c A C => b_X12_isOf C hf)
/-! ----- X12_bitsOf (bitsOf(I)I) ----- -/
abbrev rm_X12_bitsOf : Room := { frames := 0, cells := 0, slots := 0, locals := 0 }
def s_X12_bitsOf_h4 (N : Nat) (x1 : Int32) (x2 : Int32) (σ : Sg) : Option (Nat × Int32 × Int32 × Sg) :=
if x2 = 0 then (some (1, x1, 0, σ))
else (bd (x1 + (1 : Int32)) fun v1 =>
bd (x2 &&& (x2 - (1 : Int32))) fun v2 =>
some (0, v1, v2, σ))
set_option maxHeartbeats 4000000 in
set_option maxRecDepth 100000 in
theorem e_X12_bitsOf_h4 {N : Nat} {x1 : Int32} {x2 : Int32} {σ : Sg} {z : Nat × Int32 × Int32 × Sg} (C : Cx p s m args meth c cX12_bitsOf 3 (some .int) RX12 wsX12_bitsOf g A X) (hf : s_X12_bitsOf_h4 N x1 x2 σ = some z) (k0 : z.1 = 0 → Bk mw p l e rm_X12_bitsOf s m args below meth c 3 g A Q 4 [(1, .int z.2.1), (2, .int z.2.2.1)] [] z.2.2.2) (k : ¬ z.1 = 0 → Bk mw p l e rm_X12_bitsOf s m args below meth c 3 g A Q 20 [(1, .int z.2.1)] [] z.2.2.2) : Bk mw p l e rm_X12_bitsOf s m args below meth c 3 g A Q 4 [(1, .int x1), (2, .int x2)] [] σ := by
  obtain ⟨hx, hb, hr, hml, hown, hts, hK, hlocks, hXX, hA, hXo⟩ := id C
  intro H locs ls hP hD hS hl
  unfold s_X12_bitsOf_h4 at hf
  refine lv_iload_n hx hb dX12_bitsOf_4 rfl (lv_at hl 1 rfl) ?_
  refine lv_if_eq (tgt := 20) hx hb dX12_bitsOf_5 (by decide) (fun t5 => ?_) (fun t5 => ?_)
  · have hf := (if_pos t5).symm.trans hf
    cases hf
    exact (k (by decide)) H locs ls hP hD hS (lv_sub hl [0] rfl)
  · have hf := (if_neg t5).symm.trans hf
    obtain ⟨v1, ev1, hf⟩ := bd_s hf
    refine lv_iinc (v := v1) (lv' := [(1, .int v1), (2, .int x2)]) hx hb dX12_bitsOf_8 hl (k := 0) rfl (by rw [ev1]; rfl) (by decide) rfl (fun ls hl => ?_)
    refine lv_iload_n hx hb dX12_bitsOf_11 rfl (lv_at hl 1 rfl) ?_
    refine lv_iload_n hx hb dX12_bitsOf_12 rfl (lv_at hl 1 rfl) ?_
    refine lv_iconst (v := (1 : Int32)) hx hb dX12_bitsOf_13 (by decide) ?_
    refine lv_isub hx hb dX12_bitsOf_14 ?_
    refine lv_iand hx hb dX12_bitsOf_15 ?_
    obtain ⟨v2, ev2, hf⟩ := bd_s hf
    rw [← ev2]
    refine lv_istore_n (lv' := [(2, .int v2), (1, .int v1)]) hx hb dX12_bitsOf_16 rfl hl (by decide) rfl (fun ls hl => ?_)
    refine lv_goto (tgt := 4) hx hb dX12_bitsOf_17 (by decide) ?_
    cases hf
    exact k0 rfl H locs ls hP hD hS (lv_sub hl [1, 0] rfl)
theorem lp_X12_bitsOf_h4 {N n : Nat} {x1 : Int32} {x2 : Int32} {σ : Sg} {z : Nat × Int32 × Int32 × Sg} (C : Cx p s m args meth c cX12_bitsOf 3 (some .int) RX12 wsX12_bitsOf g A X) (hz : it (fun q => s_X12_bitsOf_h4 N q.1 q.2.1 q.2.2) n (x1, x2, σ) = some z) (k : Bk mw p l e rm_X12_bitsOf s m args below meth c 3 g A Q 20 [(1, .int z.2.1)] [] z.2.2.2) : Bk mw p l e rm_X12_bitsOf s m args below meth c 3 g A Q 4 [(1, .int x1), (2, .int x2)] [] σ :=
  it_W (S := Int32 × Int32 × Sg) (fun q => Bk mw p l e rm_X12_bitsOf s m args below meth c 3 g A Q 4 [(1, .int q.1), (2, .int q.2.1)] [] q.2.2) (fun z => Bk mw p l e rm_X12_bitsOf s m args below meth c 3 g A Q 20 [(1, .int z.2.1)] [] z.2.2.2) (fun q z hq k0 k => e_X12_bitsOf_h4 C hq k0 k) n (x1, x2, σ) z hz k
def f_X12_bitsOf (N : Nat) (x0 : Int32) (σ : Sg) : Option (Int32 × Sg) :=
(it (fun q => s_X12_bitsOf_h4 N q.1 q.2.1 q.2.2) N ((0 : Int32), x0, σ)).bind fun z3 =>
some ((z3.2.1), (z3.2.2.2))
set_option maxHeartbeats 4000000 in
set_option maxRecDepth 100000 in
theorem b_X12_bitsOf {N : Nat} {x0 : Int32} {σ : Sg} {z : Int32 × Sg} (C : Cx p s m args meth c cX12_bitsOf 3 (some .int) RX12 wsX12_bitsOf g A X) (hf : f_X12_bitsOf N x0 σ = some z) : Bk mw p l e rm_X12_bitsOf s m args below meth c 3 g A (MQ below (qI mw g A z.1 z.2) args s 0 0 A) 0 [(0, .int x0)] [] σ := by
  obtain ⟨hx, hb, hr, hml, hown, hts, hK, hlocks, hXX, hA, hXo⟩ := id C
  intro H locs ls hP hD hS hl
  unfold f_X12_bitsOf at hf
  refine lv_iconst (v := (0 : Int32)) hx hb dX12_bitsOf_0 (by decide) ?_
  refine lv_istore_n (lv' := [(1, .int (0 : Int32)), (0, .int x0)]) hx hb dX12_bitsOf_1 rfl hl (by decide) rfl (fun ls hl => ?_)
  refine lv_iload_n hx hb dX12_bitsOf_2 rfl (lv_at hl 1 rfl) ?_
  refine lv_istore_n (lv' := [(2, .int x0), (1, .int (0 : Int32)), (0, .int x0)]) hx hb dX12_bitsOf_3 rfl hl (by decide) rfl (fun ls hl => ?_)
  obtain ⟨z3, hz3, hf⟩ := bi_s hf
  refine lp_X12_bitsOf_h4 C hz3 ?_ H locs ls hP hD hS (lv_sub hl [1, 0] rfl)
  intro H locs ls hP hD hS hl
  refine lv_iload_n hx hb dX12_bitsOf_20 rfl (lv_at hl 0 rfl) ?_
  cases hf
  exact bk_iret C hP hD hS rfl dX12_bitsOf_21
theorem c_X12_bitsOf {N : Nat} {x0 : Int32} {σ : Sg} {z : Int32 × Sg} (hX : xOK X) (hf : f_X12_bitsOf N x0 σ = some z) : MetI l yX12_bitsOf wsX12_bitsOf rm_X12_bitsOf mw g X [.int x0] σ z.1 z.2 :=
  MetI_of hX (by decide) rfl (Nat.le_of_ble_eq_true rfl) (fun p e s m args below meth c A C => b_X12_bitsOf C hf)
/-! ----- X12_isIn (isIn(JJJ)Z) ----- -/
abbrev rm_X12_isIn : Room := { frames := 0, cells := 0, slots := 0, locals := 0 }
def f_X12_isIn_b17 (N : Nat) (σ : Sg) : Option (Int32 × Sg) :=
some ((0 : Int32), σ)
set_option maxHeartbeats 4000000 in
set_option maxRecDepth 100000 in
theorem b_X12_isIn_b17 {N : Nat} {σ : Sg} {z : Int32 × Sg} (C : Cx p s m args meth c cX12_isIn 6 (some .boolean) RX12 wsX12_isIn g A X) (hf : f_X12_isIn_b17 N σ = some z) : Bk mw p l e rm_X12_isIn s m args below meth c 6 g A (MQ below (qI mw g A z.1 z.2) args s 0 0 A) 17 [] [] σ := by
  obtain ⟨hx, hb, hr, hml, hown, hts, hK, hlocks, hXX, hA, hXo⟩ := id C
  intro H locs ls hP hD hS hl
  unfold f_X12_isIn_b17 at hf
  refine lv_iconst (v := (0 : Int32)) hx hb dX12_isIn_17 (by decide) ?_
  cases hf
  exact bk_zret C hP hD hS (by decide) rfl dX12_isIn_18
def f_X12_isIn (N : Nat) (x0 : Int64) (x2 : Int64) (x4 : Int64) (σ : Sg) : Option (Int32 × Sg) :=
if (lg_cmp x0 x2) < 0 then (f_X12_isIn_b17 N σ)
else (if 0 < (lg_cmp x0 x4) then (f_X12_isIn_b17 N σ)
else (some ((1 : Int32), σ)))
set_option maxHeartbeats 4000000 in
set_option maxRecDepth 100000 in
theorem b_X12_isIn {N : Nat} {x0 : Int64} {x2 : Int64} {x4 : Int64} {σ : Sg} {z : Int32 × Sg} (C : Cx p s m args meth c cX12_isIn 6 (some .boolean) RX12 wsX12_isIn g A X) (hf : f_X12_isIn N x0 x2 x4 σ = some z) : Bk mw p l e rm_X12_isIn s m args below meth c 6 g A (MQ below (qI mw g A z.1 z.2) args s 0 0 A) 0 [(0, .long x0), (2, .long x2), (4, .long x4)] [] σ := by
  obtain ⟨hx, hb, hr, hml, hown, hts, hK, hlocks, hXX, hA, hXo⟩ := id C
  intro H locs ls hP hD hS hl
  unfold f_X12_isIn at hf
  refine lv_lload_n hx hb dX12_isIn_0 rfl (lv_at hl 0 rfl) ?_
  refine lv_lload_n hx hb dX12_isIn_1 rfl (lv_at hl 1 rfl) ?_
  refine W.lcmp hx hb dX12_isIn_2 ?_
  refine lv_if_lt (tgt := 17) hx hb dX12_isIn_3 (by decide) (fun t3 => ?_) (fun t3 => ?_)
  · have hf := (if_pos t3).symm.trans hf
    exact b_X12_isIn_b17 C hf H locs ls hP hD hS (lv_sub hl [] rfl)
  · have hf := (if_neg t3).symm.trans hf
    refine lv_lload_n hx hb dX12_isIn_6 rfl (lv_at hl 0 rfl) ?_
    refine lv_lload hx hb dX12_isIn_7 (lv_at hl 2 rfl) ?_
    refine W.lcmp hx hb dX12_isIn_9 ?_
    refine lv_if_gt (tgt := 17) hx hb dX12_isIn_10 (by decide) (fun t10 => ?_) (fun t10 => ?_)
    · have hf := (if_pos t10).symm.trans hf
      exact b_X12_isIn_b17 C hf H locs ls hP hD hS (lv_sub hl [] rfl)
    · have hf := (if_neg t10).symm.trans hf
      refine lv_iconst (v := (1 : Int32)) hx hb dX12_isIn_13 (by decide) ?_
      refine lv_goto (tgt := 18) hx hb dX12_isIn_14 (by decide) ?_
      cases hf
      exact bk_zret C hP hD hS (by decide) rfl dX12_isIn_18
theorem c_X12_isIn {N : Nat} {x0 : Int64} {x2 : Int64} {x4 : Int64} {σ : Sg} {z : Int32 × Sg} (hX : xOK X) (hf : f_X12_isIn N x0 x2 x4 σ = some z) : MetI l yX12_isIn wsX12_isIn rm_X12_isIn mw g X [.long x0, .long x2, .long x4] σ z.1 z.2 :=
  MetI_of hX (by decide) rfl (Nat.le_of_ble_eq_true rfl) (fun p e s m args below meth c A C => b_X12_isIn C hf)
/-! ----- X12_isFarm (isFarm(I)Z) ----- -/
abbrev rm_X12_isFarm : Room := { frames := 1, cells := 0, slots := 0, locals := 25 }
theorem w_X12_isFarm_f34 : Cond.fieldLink RX12 34 "NodPostModel" "told" "[I" ∈ wsX12_isFarm := by decide +kernel
theorem hi_X12_isFarm_X12 : ∀ w ∈ u_ws RX12 TX12 57, w ∈ wsX12_isFarm := fun _ h => List.mem_cons_of_mem _ (List.mem_append_right _ h)
def f_X12_isFarm (N : Nat) (x1 : Int32) (σ : Sg) : Option (Int32 × Sg) :=
(f_X12_isIn N (x1).toInt64 (0 : Int64) (((σ 3 0) - (1 : Int32))).toInt64 σ).bind fun q1 =>
if ¬ (q1.1 = 0 ∨ q1.1 = 1) then none else some (q1.1, (q1.2))
set_option maxHeartbeats 4000000 in
set_option maxRecDepth 100000 in
theorem b_X12_isFarm {N : Nat} {x1 : Int32} {σ : Sg} {z : Int32 × Sg} (C : Cx p s m args meth c cX12_isFarm 2 (some .boolean) RX12 wsX12_isFarm g A X) (hf : f_X12_isFarm N x1 σ = some z) : Bk mw p l e rm_X12_isFarm s m args below meth c 2 g A (MQ below (qI mw g A z.1 z.2) args s 0 0 A) 0 [(0, .ref (g.2.2 0)), (1, .int x1)] [] σ := by
  obtain ⟨hx, hb, hr, hml, hown, hts, hK, hlocks, hXX, hA, hXo⟩ := id C
  intro H locs ls hP hD hS hl
  unfold f_X12_isFarm at hf
  refine lv_iload_n hx hb dX12_isFarm_0 rfl (lv_at hl 1 rfl) ?_
  refine lv_i2l hx hb dX12_isFarm_1 rfl ?_
  refine lv_lconst (v := (0 : Int64)) hx hb dX12_isFarm_2 (by decide) ?_
  refine lv_aload_n hx hb dX12_isFarm_3 rfl (lv_at hl 0 rfl) ?_
  refine bk_get (wf := mw) (q0 := 0) (ci := 11) (k := 3) (v := .ref (g.2.2 3)) C hP hi_X12_isFarm_X12 rfl rfl (by decide) w_X12_isFarm_f34 rfl rfl dX12_isFarm_4 ?_
  refine lv_iconst (v := (0 : Int32)) hx hb dX12_isFarm_7 (by decide) ?_
  refine bk_iald (wf := mw) (q0 := 3) (n := 10) (j := 0) C hP rfl (vin_l (by decide) (by decide)) (by decide) dX12_isFarm_8 ?_
  refine lv_iconst (v := (1 : Int32)) hx hb dX12_isFarm_9 (by decide) ?_
  refine lv_isub hx hb dX12_isFarm_10 ?_
  refine lv_i2l hx hb dX12_isFarm_11 rfl ?_
  obtain ⟨q1, hq1, hf⟩ := bi_s hf
  refine bk_SI (wf := mw) (rest := []) [.long (x1).toInt64, .long (0 : Int64), .long (((σ 3 0) - (1 : Int32))).toInt64] C hP hD hS hl.1 (c_X12_isIn hXo hq1) (va_cwS 3 hts gX12_isFarm_X12_isIn rfl rfl rfl (by decide +kernel) ⟨Nat.le_of_ble_eq_true rfl, Nat.le_of_ble_eq_true rfl⟩) rfl rfl (Nat.le_of_ble_eq_true rfl) dX12_isFarm_12 (fun H locs hP hD hS => ?_)
  obtain ⟨g2, hf⟩ := gd_s hf
  cases hf
  exact bk_zret C hP hD hS (Decidable.not_not.mp g2) rfl dX12_isFarm_15
theorem c_X12_isFarm {N : Nat} {x1 : Int32} {σ : Sg} {z : Int32 × Sg} (hX : xOK X) (hf : f_X12_isFarm N x1 σ = some z) : MetI l yX12_isFarm wsX12_isFarm rm_X12_isFarm mw g X [.ref (g.2.2 0), .int x1] σ z.1 z.2 :=
  MetI_of hX (by decide) rfl (Nat.le_of_ble_eq_true rfl) (fun p e s m args below meth c A C => b_X12_isFarm C hf)
/-! ----- X12_all (all()I) ----- -/
abbrev rm_X12_all : Room := { frames := 0, cells := 0, slots := 0, locals := 0 }
theorem w_X12_all_f34 : Cond.fieldLink RX12 34 "NodPostModel" "told" "[I" ∈ wsX12_all := by decide +kernel
theorem hi_X12_all_X12 : ∀ w ∈ u_ws RX12 TX12 57, w ∈ wsX12_all := fun _ h => List.mem_cons_of_mem _ (List.mem_append_right _ h)
def f_X12_all (N : Nat) (σ : Sg) : Option (Int32 × Sg) :=
some ((((1 : Int32) <<< ((σ 3 0) &&& 31)) - (1 : Int32)), σ)
set_option maxHeartbeats 4000000 in
set_option maxRecDepth 100000 in
theorem b_X12_all {N : Nat} {σ : Sg} {z : Int32 × Sg} (C : Cx p s m args meth c cX12_all 1 (some .int) RX12 wsX12_all g A X) (hf : f_X12_all N σ = some z) : Bk mw p l e rm_X12_all s m args below meth c 1 g A (MQ below (qI mw g A z.1 z.2) args s 0 0 A) 0 [(0, .ref (g.2.2 0))] [] σ := by
  obtain ⟨hx, hb, hr, hml, hown, hts, hK, hlocks, hXX, hA, hXo⟩ := id C
  intro H locs ls hP hD hS hl
  unfold f_X12_all at hf
  refine lv_iconst (v := (1 : Int32)) hx hb dX12_all_0 (by decide) ?_
  refine lv_aload_n hx hb dX12_all_1 rfl (lv_at hl 0 rfl) ?_
  refine bk_get (wf := mw) (q0 := 0) (ci := 11) (k := 3) (v := .ref (g.2.2 3)) C hP hi_X12_all_X12 rfl rfl (by decide) w_X12_all_f34 rfl rfl dX12_all_2 ?_
  refine lv_iconst (v := (0 : Int32)) hx hb dX12_all_5 (by decide) ?_
  refine bk_iald (wf := mw) (q0 := 3) (n := 10) (j := 0) C hP rfl (vin_l (by decide) (by decide)) (by decide) dX12_all_6 ?_
  refine lv_ishl hx hb dX12_all_7 ?_
  refine lv_iconst (v := (1 : Int32)) hx hb dX12_all_8 (by decide) ?_
  refine lv_isub hx hb dX12_all_9 ?_
  cases hf
  exact bk_iret C hP hD hS rfl dX12_all_10
theorem c_X12_all {N : Nat} {σ : Sg} {z : Int32 × Sg} (hX : xOK X) (hf : f_X12_all N σ = some z) : MetI l yX12_all wsX12_all rm_X12_all mw g X [.ref (g.2.2 0)] σ z.1 z.2 :=
  MetI_of hX (by decide) rfl (Nat.le_of_ble_eq_true rfl) (fun p e s m args below meth c A C => b_X12_all C hf)
/-! ----- X12_isBetween (isBetween(III)Z) ----- -/
abbrev rm_X12_isBetween : Room := { frames := 1, cells := 0, slots := 0, locals := 24 }
theorem w_X12_isBetween_cmax : Cond.code Lib.Math.max.name Lib.Math.max.code 2 (some .int) ∈ wsX12_isBetween := by decide +kernel
theorem w_X12_isBetween_cmin : Cond.code Lib.Math.min.name Lib.Math.min.code 2 (some .int) ∈ wsX12_isBetween := by decide +kernel
theorem w_X12_isBetween_f41 : Cond.fieldLink RX12 41 "NodPostModel" "xOf" "[I" ∈ wsX12_isBetween := by decide +kernel
theorem w_X12_isBetween_iM : Cond.initialized "java/lang/Math" ∈ wsX12_isBetween := by decide +kernel
theorem w_X12_isBetween_m179 : Cond.methodLink RX12 179 Lib.Math.min.name ∈ wsX12_isBetween := by decide +kernel
theorem w_X12_isBetween_m302 : Cond.methodLink RX12 302 Lib.Math.max.name ∈ wsX12_isBetween := by decide +kernel
theorem w_X12_isBetween_smax : Cond.static Lib.Math.max.name ∈ wsX12_isBetween := by decide +kernel
theorem w_X12_isBetween_smin : Cond.static Lib.Math.min.name ∈ wsX12_isBetween := by decide +kernel
theorem hi_X12_isBetween_X12 : ∀ w ∈ u_ws RX12 TX12 57, w ∈ wsX12_isBetween := fun _ h => List.mem_cons_of_mem _ (List.mem_append_right _ h)
def f_X12_isBetween_b52 (N : Nat) (σ : Sg) : Option (Int32 × Sg) :=
some ((0 : Int32), σ)
set_option maxHeartbeats 4000000 in
set_option maxRecDepth 100000 in
theorem b_X12_isBetween_b52 {N : Nat} {σ : Sg} {z : Int32 × Sg} (C : Cx p s m args meth c cX12_isBetween 4 (some .boolean) RX12 wsX12_isBetween g A X) (hf : f_X12_isBetween_b52 N σ = some z) : Bk mw p l e rm_X12_isBetween s m args below meth c 4 g A (MQ below (qI mw g A z.1 z.2) args s 0 0 A) 52 [] [] σ := by
  obtain ⟨hx, hb, hr, hml, hown, hts, hK, hlocks, hXX, hA, hXo⟩ := id C
  intro H locs ls hP hD hS hl
  unfold f_X12_isBetween_b52 at hf
  refine lv_iconst (v := (0 : Int32)) hx hb dX12_isBetween_52 (by decide) ?_
  cases hf
  exact bk_zret C hP hD hS (by decide) rfl dX12_isBetween_53
def f_X12_isBetween (N : Nat) (x1 : Int32) (x2 : Int32) (x3 : Int32) (σ : Sg) : Option (Int32 × Sg) :=
if (x1 < 0 ∨ 18 ≤ x1.toNatClampNeg) then none else
if (x2 < 0 ∨ 18 ≤ x2.toNatClampNeg) then none else
if (x3 < 0 ∨ 18 ≤ x3.toNatClampNeg) then none else
if (σ 5 x1.toNatClampNeg) ≤ (if (σ 5 x3.toNatClampNeg) < (σ 5 x2.toNatClampNeg) then (σ 5 x3.toNatClampNeg) else (σ 5 x2.toNatClampNeg)) then (f_X12_isBetween_b52 N σ)
else (if (x1 < 0 ∨ 18 ≤ x1.toNatClampNeg) then none else
if (x2 < 0 ∨ 18 ≤ x2.toNatClampNeg) then none else
if (x3 < 0 ∨ 18 ≤ x3.toNatClampNeg) then none else
if (if (σ 5 x2.toNatClampNeg) < (σ 5 x3.toNatClampNeg) then (σ 5 x3.toNatClampNeg) else (σ 5 x2.toNatClampNeg)) ≤ (σ 5 x1.toNatClampNeg) then (f_X12_isBetween_b52 N σ)
else (some ((1 : Int32), σ)))
set_option maxHeartbeats 4000000 in
set_option maxRecDepth 100000 in
theorem b_X12_isBetween {N : Nat} {x1 : Int32} {x2 : Int32} {x3 : Int32} {σ : Sg} {z : Int32 × Sg} (C : Cx p s m args meth c cX12_isBetween 4 (some .boolean) RX12 wsX12_isBetween g A X) (hf : f_X12_isBetween N x1 x2 x3 σ = some z) : Bk mw p l e rm_X12_isBetween s m args below meth c 4 g A (MQ below (qI mw g A z.1 z.2) args s 0 0 A) 0 [(0, .ref (g.2.2 0)), (1, .int x1), (2, .int x2), (3, .int x3)] [] σ := by
  obtain ⟨hx, hb, hr, hml, hown, hts, hK, hlocks, hXX, hA, hXo⟩ := id C
  intro H locs ls hP hD hS hl
  unfold f_X12_isBetween at hf
  refine lv_aload_n hx hb dX12_isBetween_0 rfl (lv_at hl 0 rfl) ?_
  refine bk_get (wf := mw) (q0 := 0) (ci := 11) (k := 5) (v := .ref (g.2.2 5)) C hP hi_X12_isBetween_X12 rfl rfl (by decide) w_X12_isBetween_f41 rfl rfl dX12_isBetween_1 ?_
  refine lv_iload_n hx hb dX12_isBetween_4 rfl (lv_at hl 1 rfl) ?_
  obtain ⟨g1, hf⟩ := gd_s hf
  refine bk_iald (wf := mw) (q0 := 5) (n := 18) (j := x1.toNatClampNeg) C hP rfl g1 rfl dX12_isBetween_5 ?_
  refine lv_aload_n hx hb dX12_isBetween_6 rfl (lv_at hl 0 rfl) ?_
  refine bk_get (wf := mw) (q0 := 0) (ci := 11) (k := 5) (v := .ref (g.2.2 5)) C hP hi_X12_isBetween_X12 rfl rfl (by decide) w_X12_isBetween_f41 rfl rfl dX12_isBetween_7 ?_
  refine lv_iload_n hx hb dX12_isBetween_10 rfl (lv_at hl 2 rfl) ?_
  obtain ⟨g2, hf⟩ := gd_s hf
  refine bk_iald (wf := mw) (q0 := 5) (n := 18) (j := x2.toNatClampNeg) C hP rfl g2 rfl dX12_isBetween_11 ?_
  refine lv_aload_n hx hb dX12_isBetween_12 rfl (lv_at hl 0 rfl) ?_
  refine bk_get (wf := mw) (q0 := 0) (ci := 11) (k := 5) (v := .ref (g.2.2 5)) C hP hi_X12_isBetween_X12 rfl rfl (by decide) w_X12_isBetween_f41 rfl rfl dX12_isBetween_13 ?_
  refine lv_iload_n hx hb dX12_isBetween_16 rfl (lv_at hl 3 rfl) ?_
  obtain ⟨g3, hf⟩ := gd_s hf
  refine bk_iald (wf := mw) (q0 := 5) (n := 18) (j := x3.toNatClampNeg) C hP rfl g3 rfl dX12_isBetween_17 ?_
  refine va_mmin hx hb (hml.trans hl.1.symm) hown (hts _ w_X12_isBetween_m179) (hts _ w_X12_isBetween_smin) (hts _ w_X12_isBetween_iM) (hts _ w_X12_isBetween_cmin) (Nat.le_of_ble_eq_true rfl) (Nat.le_of_ble_eq_true rfl) (Nat.zero_le _) (Nat.zero_le _) dX12_isBetween_18 ?_
  refine lv_icmp_le (tgt := 52) hx hb dX12_isBetween_21 (by decide) (fun t21 => ?_) (fun t21 => ?_)
  · have hf := (if_pos t21).symm.trans hf
    exact b_X12_isBetween_b52 C hf H locs ls hP hD hS (lv_sub hl [] rfl)
  · have hf := (if_neg t21).symm.trans hf
    refine lv_aload_n hx hb dX12_isBetween_24 rfl (lv_at hl 0 rfl) ?_
    refine bk_get (wf := mw) (q0 := 0) (ci := 11) (k := 5) (v := .ref (g.2.2 5)) C hP hi_X12_isBetween_X12 rfl rfl (by decide) w_X12_isBetween_f41 rfl rfl dX12_isBetween_25 ?_
    refine lv_iload_n hx hb dX12_isBetween_28 rfl (lv_at hl 1 rfl) ?_
    obtain ⟨g4, hf⟩ := gd_s hf
    refine bk_iald (wf := mw) (q0 := 5) (n := 18) (j := x1.toNatClampNeg) C hP rfl g4 rfl dX12_isBetween_29 ?_
    refine lv_aload_n hx hb dX12_isBetween_30 rfl (lv_at hl 0 rfl) ?_
    refine bk_get (wf := mw) (q0 := 0) (ci := 11) (k := 5) (v := .ref (g.2.2 5)) C hP hi_X12_isBetween_X12 rfl rfl (by decide) w_X12_isBetween_f41 rfl rfl dX12_isBetween_31 ?_
    refine lv_iload_n hx hb dX12_isBetween_34 rfl (lv_at hl 2 rfl) ?_
    obtain ⟨g5, hf⟩ := gd_s hf
    refine bk_iald (wf := mw) (q0 := 5) (n := 18) (j := x2.toNatClampNeg) C hP rfl g5 rfl dX12_isBetween_35 ?_
    refine lv_aload_n hx hb dX12_isBetween_36 rfl (lv_at hl 0 rfl) ?_
    refine bk_get (wf := mw) (q0 := 0) (ci := 11) (k := 5) (v := .ref (g.2.2 5)) C hP hi_X12_isBetween_X12 rfl rfl (by decide) w_X12_isBetween_f41 rfl rfl dX12_isBetween_37 ?_
    refine lv_iload_n hx hb dX12_isBetween_40 rfl (lv_at hl 3 rfl) ?_
    obtain ⟨g6, hf⟩ := gd_s hf
    refine bk_iald (wf := mw) (q0 := 5) (n := 18) (j := x3.toNatClampNeg) C hP rfl g6 rfl dX12_isBetween_41 ?_
    refine va_mmax hx hb (hml.trans hl.1.symm) hown (hts _ w_X12_isBetween_m302) (hts _ w_X12_isBetween_smax) (hts _ w_X12_isBetween_iM) (hts _ w_X12_isBetween_cmax) (Nat.le_of_ble_eq_true rfl) (Nat.le_of_ble_eq_true rfl) (Nat.zero_le _) (Nat.zero_le _) dX12_isBetween_42 ?_
    refine lv_icmp_ge (tgt := 52) hx hb dX12_isBetween_45 (by decide) (fun t45 => ?_) (fun t45 => ?_)
    · have hf := (if_pos t45).symm.trans hf
      exact b_X12_isBetween_b52 C hf H locs ls hP hD hS (lv_sub hl [] rfl)
    · have hf := (if_neg t45).symm.trans hf
      refine lv_iconst (v := (1 : Int32)) hx hb dX12_isBetween_48 (by decide) ?_
      refine lv_goto (tgt := 53) hx hb dX12_isBetween_49 (by decide) ?_
      cases hf
      exact bk_zret C hP hD hS (by decide) rfl dX12_isBetween_53
theorem c_X12_isBetween {N : Nat} {x1 : Int32} {x2 : Int32} {x3 : Int32} {σ : Sg} {z : Int32 × Sg} (hX : xOK X) (hf : f_X12_isBetween N x1 x2 x3 σ = some z) : MetI l yX12_isBetween wsX12_isBetween rm_X12_isBetween mw g X [.ref (g.2.2 0), .int x1, .int x2, .int x3] σ z.1 z.2 :=
  MetI_of hX (by decide) rfl (Nat.le_of_ble_eq_true rfl) (fun p e s m args below meth c A C => b_X12_isBetween C hf)
/-! ----- X12_topOf (topOf(I)I) ----- -/
abbrev rm_X12_topOf : Room := { frames := 0, cells := 0, slots := 0, locals := 0 }
theorem w_X12_topOf_f44 : Cond.fieldLink RX12 44 "NodPostModel" "height" "[I" ∈ wsX12_topOf := by decide +kernel
theorem w_X12_topOf_f78 : Cond.fieldLink RX12 78 "NodPostModel" "hats" "[I" ∈ wsX12_topOf := by decide +kernel
theorem hi_X12_topOf_X12 : ∀ w ∈ u_ws RX12 TX12 57, w ∈ wsX12_topOf := fun _ h => List.mem_cons_of_mem _ (List.mem_append_right _ h)
def f_X12_topOf (N : Nat) (x1 : Int32) (σ : Sg) : Option (Int32 × Sg) :=
if (x1 < 0 ∨ 18 ≤ x1.toNatClampNeg) then none else
if (x1 < 0 ∨ 9 ≤ x1.toNatClampNeg) then none else
some (((σ 6 x1.toNatClampNeg) + (σ 16 x1.toNatClampNeg)), σ)
set_option maxHeartbeats 4000000 in
set_option maxRecDepth 100000 in
theorem b_X12_topOf {N : Nat} {x1 : Int32} {σ : Sg} {z : Int32 × Sg} (C : Cx p s m args meth c cX12_topOf 2 (some .int) RX12 wsX12_topOf g A X) (hf : f_X12_topOf N x1 σ = some z) : Bk mw p l e rm_X12_topOf s m args below meth c 2 g A (MQ below (qI mw g A z.1 z.2) args s 0 0 A) 0 [(0, .ref (g.2.2 0)), (1, .int x1)] [] σ := by
  obtain ⟨hx, hb, hr, hml, hown, hts, hK, hlocks, hXX, hA, hXo⟩ := id C
  intro H locs ls hP hD hS hl
  unfold f_X12_topOf at hf
  refine lv_aload_n hx hb dX12_topOf_0 rfl (lv_at hl 0 rfl) ?_
  refine bk_get (wf := mw) (q0 := 0) (ci := 11) (k := 6) (v := .ref (g.2.2 6)) C hP hi_X12_topOf_X12 rfl rfl (by decide) w_X12_topOf_f44 rfl rfl dX12_topOf_1 ?_
  refine lv_iload_n hx hb dX12_topOf_4 rfl (lv_at hl 1 rfl) ?_
  obtain ⟨g1, hf⟩ := gd_s hf
  refine bk_iald (wf := mw) (q0 := 6) (n := 18) (j := x1.toNatClampNeg) C hP rfl g1 rfl dX12_topOf_5 ?_
  refine lv_aload_n hx hb dX12_topOf_6 rfl (lv_at hl 0 rfl) ?_
  refine bk_get (wf := mw) (q0 := 0) (ci := 11) (k := 26) (v := .ref (g.2.2 16)) C hP hi_X12_topOf_X12 rfl rfl (by decide) w_X12_topOf_f78 rfl rfl dX12_topOf_7 ?_
  refine lv_iload_n hx hb dX12_topOf_10 rfl (lv_at hl 1 rfl) ?_
  obtain ⟨g2, hf⟩ := gd_s hf
  refine bk_iald (wf := mw) (q0 := 16) (n := 9) (j := x1.toNatClampNeg) C hP rfl g2 rfl dX12_topOf_11 ?_
  refine lv_iadd hx hb dX12_topOf_12 ?_
  cases hf
  exact bk_iret C hP hD hS rfl dX12_topOf_13
theorem c_X12_topOf {N : Nat} {x1 : Int32} {σ : Sg} {z : Int32 × Sg} (hX : xOK X) (hf : f_X12_topOf N x1 σ = some z) : MetI l yX12_topOf wsX12_topOf rm_X12_topOf mw g X [.ref (g.2.2 0), .int x1] σ z.1 z.2 :=
  MetI_of hX (by decide) rfl (Nat.le_of_ble_eq_true rfl) (fun p e s m args below meth c A C => b_X12_topOf C hf)
/-! ----- X12_isBelow (isBelow(III)Z) ----- -/
abbrev rm_X12_isBelow : Room := { frames := 1, cells := 0, slots := 0, locals := 21 }
theorem w_X12_isBelow_f41 : Cond.fieldLink RX12 41 "NodPostModel" "xOf" "[I" ∈ wsX12_isBelow := by decide +kernel
theorem hi_X12_isBelow_X12 : ∀ w ∈ u_ws RX12 TX12 57, w ∈ wsX12_isBelow := fun _ h => List.mem_cons_of_mem _ (List.mem_append_right _ h)
def f_X12_isBelow_b42 (N : Nat) (x1 : Int32) (x4 : Int32) (t0 : Int32) (σ : Sg) : Option (Int32 × Sg) :=
(f_X12_topOf N x1 σ).bind fun q1 =>
if (t0 < 0 ∨ 18 ≤ t0.toNatClampNeg) then none else
if (x4 < 0 ∨ 18 ≤ x4.toNatClampNeg) then none else
(f_X12_topOf N x4 (q1.2)).bind fun q4 =>
if (t0 < 0 ∨ 18 ≤ t0.toNatClampNeg) then none else
if (x1 < 0 ∨ 18 ≤ x1.toNatClampNeg) then none else
(f_X12_topOf N t0 (q4.2)).bind fun q7 =>
if (x1 < 0 ∨ 18 ≤ x1.toNatClampNeg) then none else
if (x4 < 0 ∨ 18 ≤ x4.toNatClampNeg) then none else
if ((q4.1 * (((q4.2) 5 t0.toNatClampNeg) - ((q4.2) 5 x1.toNatClampNeg))) + (q7.1 * (((q7.2) 5 x1.toNatClampNeg) - ((q7.2) 5 x4.toNatClampNeg)))) ≤ (q1.1 * (((q1.2) 5 t0.toNatClampNeg) - ((q1.2) 5 x4.toNatClampNeg))) then (some ((0 : Int32), (q7.2)))
else (some ((1 : Int32), (q7.2)))
set_option maxHeartbeats 4000000 in
set_option maxRecDepth 100000 in
theorem b_X12_isBelow_b42 {N : Nat} {x1 : Int32} {x4 : Int32} {t0 : Int32} {σ : Sg} {z : Int32 × Sg} (C : Cx p s m args meth c cX12_isBelow 6 (some .boolean) RX12 wsX12_isBelow g A X) (hf : f_X12_isBelow_b42 N x1 x4 t0 σ = some z) : Bk mw p l e rm_X12_isBelow s m args below meth c 6 g A (MQ below (qI mw g A z.1 z.2) args s 0 0 A) 42 [(0, .ref (g.2.2 0)), (1, .int x1), (4, .int x4)] [.int t0] σ := by
  obtain ⟨hx, hb, hr, hml, hown, hts, hK, hlocks, hXX, hA, hXo⟩ := id C
  intro H locs ls hP hD hS hl
  unfold f_X12_isBelow_b42 at hf
  refine lv_istore (lv' := [(5, .int t0), (0, .ref (g.2.2 0)), (1, .int x1), (4, .int x4)]) hx hb dX12_isBelow_42 hl (by decide) rfl (fun ls hl => ?_)
  refine lv_aload_n hx hb dX12_isBelow_44 rfl (lv_at hl 1 rfl) ?_
  refine lv_iload_n hx hb dX12_isBelow_45 rfl (lv_at hl 2 rfl) ?_
  obtain ⟨q1, hq1, hf⟩ := bi_s hf
  refine bk_VI (wf := mw) (q0 := 0) (ci := 11) (rest := []) [.int x1] C hP hD hS hl.1 (c_X12_topOf hXo hq1) (cwV 1 hts gX12_isBelow_X12_topOf rfl rfl rfl (by decide +kernel) ⟨Nat.le_of_ble_eq_true rfl, Nat.le_of_ble_eq_true rfl⟩) rfl rfl rfl rfl (Nat.le_of_ble_eq_true rfl) dX12_isBelow_46 (fun H locs hP hD hS => ?_)
  refine lv_aload_n hx hb dX12_isBelow_49 rfl (lv_at hl 1 rfl) ?_
  refine bk_get (wf := mw) (q0 := 0) (ci := 11) (k := 5) (v := .ref (g.2.2 5)) C hP hi_X12_isBelow_X12 rfl rfl (by decide) w_X12_isBelow_f41 rfl rfl dX12_isBelow_50 ?_
  refine lv_iload hx hb dX12_isBelow_53 (lv_at hl 0 rfl) ?_
  obtain ⟨g2, hf⟩ := gd_s hf
  refine bk_iald (wf := mw) (q0 := 5) (n := 18) (j := t0.toNatClampNeg) C hP rfl g2 rfl dX12_isBelow_55 ?_
  refine lv_aload_n hx hb dX12_isBelow_56 rfl (lv_at hl 1 rfl) ?_
  refine bk_get (wf := mw) (q0 := 0) (ci := 11) (k := 5) (v := .ref (g.2.2 5)) C hP hi_X12_isBelow_X12 rfl rfl (by decide) w_X12_isBelow_f41 rfl rfl dX12_isBelow_57 ?_
  refine lv_iload hx hb dX12_isBelow_60 (lv_at hl 3 rfl) ?_
  obtain ⟨g3, hf⟩ := gd_s hf
  refine bk_iald (wf := mw) (q0 := 5) (n := 18) (j := x4.toNatClampNeg) C hP rfl g3 rfl dX12_isBelow_62 ?_
  refine lv_isub hx hb dX12_isBelow_63 ?_
  refine lv_imul hx hb dX12_isBelow_64 ?_
  refine lv_aload_n hx hb dX12_isBelow_65 rfl (lv_at hl 1 rfl) ?_
  refine lv_iload hx hb dX12_isBelow_66 (lv_at hl 3 rfl) ?_
  obtain ⟨q4, hq4, hf⟩ := bi_s hf
  refine bk_VI (wf := mw) (q0 := 0) (ci := 11) (rest := [.int (q1.1 * (((q1.2) 5 t0.toNatClampNeg) - ((q1.2) 5 x4.toNatClampNeg)))]) [.int x4] C hP hD hS hl.1 (c_X12_topOf hXo hq4) (cwV 1 hts gX12_isBelow_X12_topOf rfl rfl rfl (by decide +kernel) ⟨Nat.le_of_ble_eq_true rfl, Nat.le_of_ble_eq_true rfl⟩) rfl rfl rfl rfl (Nat.le_of_ble_eq_true rfl) dX12_isBelow_68 (fun H locs hP hD hS => ?_)
  refine lv_aload_n hx hb dX12_isBelow_71 rfl (lv_at hl 1 rfl) ?_
  refine bk_get (wf := mw) (q0 := 0) (ci := 11) (k := 5) (v := .ref (g.2.2 5)) C hP hi_X12_isBelow_X12 rfl rfl (by decide) w_X12_isBelow_f41 rfl rfl dX12_isBelow_72 ?_
  refine lv_iload hx hb dX12_isBelow_75 (lv_at hl 0 rfl) ?_
  obtain ⟨g5, hf⟩ := gd_s hf
  refine bk_iald (wf := mw) (q0 := 5) (n := 18) (j := t0.toNatClampNeg) C hP rfl g5 rfl dX12_isBelow_77 ?_
  refine lv_aload_n hx hb dX12_isBelow_78 rfl (lv_at hl 1 rfl) ?_
  refine bk_get (wf := mw) (q0 := 0) (ci := 11) (k := 5) (v := .ref (g.2.2 5)) C hP hi_X12_isBelow_X12 rfl rfl (by decide) w_X12_isBelow_f41 rfl rfl dX12_isBelow_79 ?_
  refine lv_iload_n hx hb dX12_isBelow_82 rfl (lv_at hl 2 rfl) ?_
  obtain ⟨g6, hf⟩ := gd_s hf
  refine bk_iald (wf := mw) (q0 := 5) (n := 18) (j := x1.toNatClampNeg) C hP rfl g6 rfl dX12_isBelow_83 ?_
  refine lv_isub hx hb dX12_isBelow_84 ?_
  refine lv_imul hx hb dX12_isBelow_85 ?_
  refine lv_aload_n hx hb dX12_isBelow_86 rfl (lv_at hl 1 rfl) ?_
  refine lv_iload hx hb dX12_isBelow_87 (lv_at hl 0 rfl) ?_
  obtain ⟨q7, hq7, hf⟩ := bi_s hf
  refine bk_VI (wf := mw) (q0 := 0) (ci := 11) (rest := [.int (q4.1 * (((q4.2) 5 t0.toNatClampNeg) - ((q4.2) 5 x1.toNatClampNeg))), .int (q1.1 * (((q1.2) 5 t0.toNatClampNeg) - ((q1.2) 5 x4.toNatClampNeg)))]) [.int t0] C hP hD hS hl.1 (c_X12_topOf hXo hq7) (cwV 1 hts gX12_isBelow_X12_topOf rfl rfl rfl (by decide +kernel) ⟨Nat.le_of_ble_eq_true rfl, Nat.le_of_ble_eq_true rfl⟩) rfl rfl rfl rfl (Nat.le_of_ble_eq_true rfl) dX12_isBelow_89 (fun H locs hP hD hS => ?_)
  refine lv_aload_n hx hb dX12_isBelow_92 rfl (lv_at hl 1 rfl) ?_
  refine bk_get (wf := mw) (q0 := 0) (ci := 11) (k := 5) (v := .ref (g.2.2 5)) C hP hi_X12_isBelow_X12 rfl rfl (by decide) w_X12_isBelow_f41 rfl rfl dX12_isBelow_93 ?_
  refine lv_iload_n hx hb dX12_isBelow_96 rfl (lv_at hl 2 rfl) ?_
  obtain ⟨g8, hf⟩ := gd_s hf
  refine bk_iald (wf := mw) (q0 := 5) (n := 18) (j := x1.toNatClampNeg) C hP rfl g8 rfl dX12_isBelow_97 ?_
  refine lv_aload_n hx hb dX12_isBelow_98 rfl (lv_at hl 1 rfl) ?_
  refine bk_get (wf := mw) (q0 := 0) (ci := 11) (k := 5) (v := .ref (g.2.2 5)) C hP hi_X12_isBelow_X12 rfl rfl (by decide) w_X12_isBelow_f41 rfl rfl dX12_isBelow_99 ?_
  refine lv_iload hx hb dX12_isBelow_102 (lv_at hl 3 rfl) ?_
  obtain ⟨g9, hf⟩ := gd_s hf
  refine bk_iald (wf := mw) (q0 := 5) (n := 18) (j := x4.toNatClampNeg) C hP rfl g9 rfl dX12_isBelow_104 ?_
  refine lv_isub hx hb dX12_isBelow_105 ?_
  refine lv_imul hx hb dX12_isBelow_106 ?_
  refine lv_iadd hx hb dX12_isBelow_107 ?_
  refine lv_icmp_ge (tgt := 115) hx hb dX12_isBelow_108 (by decide) (fun t108 => ?_) (fun t108 => ?_)
  · have hf := (if_pos t108).symm.trans hf
    refine lv_iconst (v := (0 : Int32)) hx hb dX12_isBelow_115 (by decide) ?_
    cases hf
    exact bk_zret C hP hD hS (by decide) rfl dX12_isBelow_116
  · have hf := (if_neg t108).symm.trans hf
    refine lv_iconst (v := (1 : Int32)) hx hb dX12_isBelow_111 (by decide) ?_
    refine lv_goto (tgt := 116) hx hb dX12_isBelow_112 (by decide) ?_
    cases hf
    exact bk_zret C hP hD hS (by decide) rfl dX12_isBelow_116
def f_X12_isBelow_b20 (N : Nat) (x1 : Int32) (x2 : Int32) (x3 : Int32) (t0 : Int32) (σ : Sg) : Option (Int32 × Sg) :=
if (x2 < 0 ∨ 18 ≤ x2.toNatClampNeg) then none else
if (x3 < 0 ∨ 18 ≤ x3.toNatClampNeg) then none else
if (σ 5 x3.toNatClampNeg) ≤ (σ 5 x2.toNatClampNeg) then (f_X12_isBelow_b42 N x1 t0 x2 σ)
else (f_X12_isBelow_b42 N x1 t0 x3 σ)
set_option maxHeartbeats 4000000 in
set_option maxRecDepth 100000 in
theorem b_X12_isBelow_b20 {N : Nat} {x1 : Int32} {x2 : Int32} {x3 : Int32} {t0 : Int32} {σ : Sg} {z : Int32 × Sg} (C : Cx p s m args meth c cX12_isBelow 6 (some .boolean) RX12 wsX12_isBelow g A X) (hf : f_X12_isBelow_b20 N x1 x2 x3 t0 σ = some z) : Bk mw p l e rm_X12_isBelow s m args below meth c 6 g A (MQ below (qI mw g A z.1 z.2) args s 0 0 A) 20 [(0, .ref (g.2.2 0)), (1, .int x1), (2, .int x2), (3, .int x3)] [.int t0] σ := by
  obtain ⟨hx, hb, hr, hml, hown, hts, hK, hlocks, hXX, hA, hXo⟩ := id C
  intro H locs ls hP hD hS hl
  unfold f_X12_isBelow_b20 at hf
  refine lv_istore (lv' := [(4, .int t0), (0, .ref (g.2.2 0)), (1, .int x1), (2, .int x2), (3, .int x3)]) hx hb dX12_isBelow_20 hl (by decide) rfl (fun ls hl => ?_)
  refine lv_aload_n hx hb dX12_isBelow_22 rfl (lv_at hl 1 rfl) ?_
  refine bk_get (wf := mw) (q0 := 0) (ci := 11) (k := 5) (v := .ref (g.2.2 5)) C hP hi_X12_isBelow_X12 rfl rfl (by decide) w_X12_isBelow_f41 rfl rfl dX12_isBelow_23 ?_
  refine lv_iload_n hx hb dX12_isBelow_26 rfl (lv_at hl 3 rfl) ?_
  obtain ⟨g10, hf⟩ := gd_s hf
  refine bk_iald (wf := mw) (q0 := 5) (n := 18) (j := x2.toNatClampNeg) C hP rfl g10 rfl dX12_isBelow_27 ?_
  refine lv_aload_n hx hb dX12_isBelow_28 rfl (lv_at hl 1 rfl) ?_
  refine bk_get (wf := mw) (q0 := 0) (ci := 11) (k := 5) (v := .ref (g.2.2 5)) C hP hi_X12_isBelow_X12 rfl rfl (by decide) w_X12_isBelow_f41 rfl rfl dX12_isBelow_29 ?_
  refine lv_iload_n hx hb dX12_isBelow_32 rfl (lv_at hl 4 rfl) ?_
  obtain ⟨g11, hf⟩ := gd_s hf
  refine bk_iald (wf := mw) (q0 := 5) (n := 18) (j := x3.toNatClampNeg) C hP rfl g11 rfl dX12_isBelow_33 ?_
  refine lv_icmp_ge (tgt := 41) hx hb dX12_isBelow_34 (by decide) (fun t34 => ?_) (fun t34 => ?_)
  · have hf := (if_pos t34).symm.trans hf
    refine lv_iload_n hx hb dX12_isBelow_41 rfl (lv_at hl 3 rfl) ?_
    exact b_X12_isBelow_b42 C hf H locs ls hP hD hS (lv_sub hl [1, 2, 0] rfl)
  · have hf := (if_neg t34).symm.trans hf
    refine lv_iload_n hx hb dX12_isBelow_37 rfl (lv_at hl 4 rfl) ?_
    refine lv_goto (tgt := 42) hx hb dX12_isBelow_38 (by decide) ?_
    exact b_X12_isBelow_b42 C hf H locs ls hP hD hS (lv_sub hl [1, 2, 0] rfl)
def f_X12_isBelow (N : Nat) (x1 : Int32) (x2 : Int32) (x3 : Int32) (σ : Sg) : Option (Int32 × Sg) :=
if (x2 < 0 ∨ 18 ≤ x2.toNatClampNeg) then none else
if (x3 < 0 ∨ 18 ≤ x3.toNatClampNeg) then none else
if (σ 5 x3.toNatClampNeg) ≤ (σ 5 x2.toNatClampNeg) then (f_X12_isBelow_b20 N x1 x2 x3 x3 σ)
else (f_X12_isBelow_b20 N x1 x2 x3 x2 σ)
set_option maxHeartbeats 4000000 in
set_option maxRecDepth 100000 in
theorem b_X12_isBelow {N : Nat} {x1 : Int32} {x2 : Int32} {x3 : Int32} {σ : Sg} {z : Int32 × Sg} (C : Cx p s m args meth c cX12_isBelow 6 (some .boolean) RX12 wsX12_isBelow g A X) (hf : f_X12_isBelow N x1 x2 x3 σ = some z) : Bk mw p l e rm_X12_isBelow s m args below meth c 6 g A (MQ below (qI mw g A z.1 z.2) args s 0 0 A) 0 [(0, .ref (g.2.2 0)), (1, .int x1), (2, .int x2), (3, .int x3)] [] σ := by
  obtain ⟨hx, hb, hr, hml, hown, hts, hK, hlocks, hXX, hA, hXo⟩ := id C
  intro H locs ls hP hD hS hl
  unfold f_X12_isBelow at hf
  refine lv_aload_n hx hb dX12_isBelow_0 rfl (lv_at hl 0 rfl) ?_
  refine bk_get (wf := mw) (q0 := 0) (ci := 11) (k := 5) (v := .ref (g.2.2 5)) C hP hi_X12_isBelow_X12 rfl rfl (by decide) w_X12_isBelow_f41 rfl rfl dX12_isBelow_1 ?_
  refine lv_iload_n hx hb dX12_isBelow_4 rfl (lv_at hl 2 rfl) ?_
  obtain ⟨g12, hf⟩ := gd_s hf
  refine bk_iald (wf := mw) (q0 := 5) (n := 18) (j := x2.toNatClampNeg) C hP rfl g12 rfl dX12_isBelow_5 ?_
  refine lv_aload_n hx hb dX12_isBelow_6 rfl (lv_at hl 0 rfl) ?_
  refine bk_get (wf := mw) (q0 := 0) (ci := 11) (k := 5) (v := .ref (g.2.2 5)) C hP hi_X12_isBelow_X12 rfl rfl (by decide) w_X12_isBelow_f41 rfl rfl dX12_isBelow_7 ?_
  refine lv_iload_n hx hb dX12_isBelow_10 rfl (lv_at hl 3 rfl) ?_
  obtain ⟨g13, hf⟩ := gd_s hf
  refine bk_iald (wf := mw) (q0 := 5) (n := 18) (j := x3.toNatClampNeg) C hP rfl g13 rfl dX12_isBelow_11 ?_
  refine lv_icmp_ge (tgt := 19) hx hb dX12_isBelow_12 (by decide) (fun t12 => ?_) (fun t12 => ?_)
  · have hf := (if_pos t12).symm.trans hf
    refine lv_iload_n hx hb dX12_isBelow_19 rfl (lv_at hl 3 rfl) ?_
    exact b_X12_isBelow_b20 C hf H locs ls hP hD hS (lv_sub hl [0, 1, 2, 3] rfl)
  · have hf := (if_neg t12).symm.trans hf
    refine lv_iload_n hx hb dX12_isBelow_15 rfl (lv_at hl 2 rfl) ?_
    refine lv_goto (tgt := 20) hx hb dX12_isBelow_16 (by decide) ?_
    exact b_X12_isBelow_b20 C hf H locs ls hP hD hS (lv_sub hl [0, 1, 2, 3] rfl)
theorem c_X12_isBelow {N : Nat} {x1 : Int32} {x2 : Int32} {x3 : Int32} {σ : Sg} {z : Int32 × Sg} (hX : xOK X) (hf : f_X12_isBelow N x1 x2 x3 σ = some z) : MetI l yX12_isBelow wsX12_isBelow rm_X12_isBelow mw g X [.ref (g.2.2 0), .int x1, .int x2, .int x3] σ z.1 z.2 :=
  MetI_of hX (by decide) rfl (Nat.le_of_ble_eq_true rfl) (fun p e s m args below meth c A C => b_X12_isBelow C hf)
/-! ----- X12_inTheWay (inTheWay(II)I) ----- -/
abbrev rm_X12_inTheWay : Room := { frames := 2, cells := 0, slots := 0, locals := 47 }
theorem w_X12_inTheWay_f34 : Cond.fieldLink RX12 34 "NodPostModel" "told" "[I" ∈ wsX12_inTheWay := by decide +kernel
theorem hi_X12_inTheWay_X12 : ∀ w ∈ u_ws RX12 TX12 57, w ∈ wsX12_inTheWay := fun _ h => List.mem_cons_of_mem _ (List.mem_append_right _ h)
def f_X12_inTheWay_b47 (N : Nat) (x1 : Int32) (x2 : Int32) (x4 : Int32) (t0 : Int32) (t1 : Int32) (σ : Sg) : Option (Nat × Int32 × Int32 × Sg) :=
bd (t0 ||| t1) fun v1 =>
bd (x4 + (1 : Int32)) fun v2 =>
some (0, v1, v2, σ)
set_option maxHeartbeats 4000000 in
set_option maxRecDepth 100000 in
theorem b_X12_inTheWay_b47 {N : Nat} {x1 : Int32} {x2 : Int32} {x4 : Int32} {t0 : Int32} {t1 : Int32} {σ : Sg} {z : Nat × Int32 × Int32 × Sg} (C : Cx p s m args meth c cX12_inTheWay 5 (some .int) RX12 wsX12_inTheWay g A X) (hf : f_X12_inTheWay_b47 N x1 x2 x4 t0 t1 σ = some z) (k0 : z.1 = 0 → Bk mw p l e rm_X12_inTheWay s m args below meth c 5 g A Q 5 [(0, .ref (g.2.2 0)), (1, .int x1), (2, .int x2), (3, .int z.2.1), (4, .int z.2.2.1)] [] z.2.2.2) (k : ¬ z.1 = 0 → Bk mw p l e rm_X12_inTheWay s m args below meth c 5 g A Q 55 [(3, .int z.2.1)] [] z.2.2.2) : Bk mw p l e rm_X12_inTheWay s m args below meth c 5 g A Q 47 [(0, .ref (g.2.2 0)), (1, .int x1), (2, .int x2), (4, .int x4)] [.int t1, .int t0] σ := by
  obtain ⟨hx, hb, hr, hml, hown, hts, hK, hlocks, hXX, hA, hXo⟩ := id C
  intro H locs ls hP hD hS hl
  unfold f_X12_inTheWay_b47 at hf
  refine lv_ior hx hb dX12_inTheWay_47 ?_
  obtain ⟨v1, ev1, hf⟩ := bd_s hf
  rw [← ev1]
  refine lv_istore_n (lv' := [(3, .int v1), (0, .ref (g.2.2 0)), (1, .int x1), (2, .int x2), (4, .int x4)]) hx hb dX12_inTheWay_48 rfl hl (by decide) rfl (fun ls hl => ?_)
  obtain ⟨v2, ev2, hf⟩ := bd_s hf
  refine lv_iinc (v := v2) (lv' := [(4, .int v2), (3, .int v1), (0, .ref (g.2.2 0)), (1, .int x1), (2, .int x2)]) hx hb dX12_inTheWay_49 hl (k := 4) rfl (by rw [ev2]; rfl) (by decide) rfl (fun ls hl => ?_)
  refine lv_goto (tgt := 5) hx hb dX12_inTheWay_52 (by decide) ?_
  cases hf
  exact k0 rfl H locs ls hP hD hS (lv_sub hl [2, 3, 4, 1, 0] rfl)
def f_X12_inTheWay_b46 (N : Nat) (x1 : Int32) (x2 : Int32) (x4 : Int32) (t0 : Int32) (σ : Sg) : Option (Nat × Int32 × Int32 × Sg) :=
f_X12_inTheWay_b47 N x1 x2 x4 t0 (0 : Int32) σ
set_option maxHeartbeats 4000000 in
set_option maxRecDepth 100000 in
theorem b_X12_inTheWay_b46 {N : Nat} {x1 : Int32} {x2 : Int32} {x4 : Int32} {t0 : Int32} {σ : Sg} {z : Nat × Int32 × Int32 × Sg} (C : Cx p s m args meth c cX12_inTheWay 5 (some .int) RX12 wsX12_inTheWay g A X) (hf : f_X12_inTheWay_b46 N x1 x2 x4 t0 σ = some z) (k0 : z.1 = 0 → Bk mw p l e rm_X12_inTheWay s m args below meth c 5 g A Q 5 [(0, .ref (g.2.2 0)), (1, .int x1), (2, .int x2), (3, .int z.2.1), (4, .int z.2.2.1)] [] z.2.2.2) (k : ¬ z.1 = 0 → Bk mw p l e rm_X12_inTheWay s m args below meth c 5 g A Q 55 [(3, .int z.2.1)] [] z.2.2.2) : Bk mw p l e rm_X12_inTheWay s m args below meth c 5 g A Q 46 [(0, .ref (g.2.2 0)), (1, .int x1), (2, .int x2), (4, .int x4)] [.int t0] σ := by
  obtain ⟨hx, hb, hr, hml, hown, hts, hK, hlocks, hXX, hA, hXo⟩ := id C
  intro H locs ls hP hD hS hl
  unfold f_X12_inTheWay_b46 at hf
  refine lv_iconst (v := (0 : Int32)) hx hb dX12_inTheWay_46 (by decide) ?_
  exact b_X12_inTheWay_b47 C hf k0 k H locs ls hP hD hS (lv_sub hl [0, 1, 2, 3] rfl)
def s_X12_inTheWay_h5 (N : Nat) (x1 : Int32) (x2 : Int32) (x3 : Int32) (x4 : Int32) (σ : Sg) : Option (Nat × Int32 × Int32 × Sg) :=
if (σ 3 0) ≤ x4 then (some (1, x3, 0, σ))
else ((f_X12_isBetween N x4 x1 x2 σ).bind fun q3 =>
if q3.1 = 0 then (f_X12_inTheWay_b46 N x1 x2 x4 x3 (q3.2))
else ((f_X12_isBelow N x4 x1 x2 (q3.2)).bind fun q4 =>
if q4.1 = 0 then (f_X12_inTheWay_b47 N x1 x2 x4 x3 ((1 : Int32) <<< (x4 &&& 31)) (q4.2))
else (f_X12_inTheWay_b46 N x1 x2 x4 x3 (q4.2))))
set_option maxHeartbeats 4000000 in
set_option maxRecDepth 100000 in
theorem e_X12_inTheWay_h5 {N : Nat} {x1 : Int32} {x2 : Int32} {x3 : Int32} {x4 : Int32} {σ : Sg} {z : Nat × Int32 × Int32 × Sg} (C : Cx p s m args meth c cX12_inTheWay 5 (some .int) RX12 wsX12_inTheWay g A X) (hf : s_X12_inTheWay_h5 N x1 x2 x3 x4 σ = some z) (k0 : z.1 = 0 → Bk mw p l e rm_X12_inTheWay s m args below meth c 5 g A Q 5 [(0, .ref (g.2.2 0)), (1, .int x1), (2, .int x2), (3, .int z.2.1), (4, .int z.2.2.1)] [] z.2.2.2) (k : ¬ z.1 = 0 → Bk mw p l e rm_X12_inTheWay s m args below meth c 5 g A Q 55 [(3, .int z.2.1)] [] z.2.2.2) : Bk mw p l e rm_X12_inTheWay s m args below meth c 5 g A Q 5 [(0, .ref (g.2.2 0)), (1, .int x1), (2, .int x2), (3, .int x3), (4, .int x4)] [] σ := by
  obtain ⟨hx, hb, hr, hml, hown, hts, hK, hlocks, hXX, hA, hXo⟩ := id C
  intro H locs ls hP hD hS hl
  unfold s_X12_inTheWay_h5 at hf
  refine lv_iload hx hb dX12_inTheWay_5 (lv_at hl 4 rfl) ?_
  refine lv_aload_n hx hb dX12_inTheWay_7 rfl (lv_at hl 0 rfl) ?_
  refine bk_get (wf := mw) (q0 := 0) (ci := 11) (k := 3) (v := .ref (g.2.2 3)) C hP hi_X12_inTheWay_X12 rfl rfl (by decide) w_X12_inTheWay_f34 rfl rfl dX12_inTheWay_8 ?_
  refine lv_iconst (v := (0 : Int32)) hx hb dX12_inTheWay_11 (by decide) ?_
  refine bk_iald (wf := mw) (q0 := 3) (n := 10) (j := 0) C hP rfl (vin_l (by decide) (by decide)) (by decide) dX12_inTheWay_12 ?_
  refine lv_icmp_ge (tgt := 55) hx hb dX12_inTheWay_13 (by decide) (fun t13 => ?_) (fun t13 => ?_)
  · have hf := (if_pos t13).symm.trans hf
    cases hf
    exact (k (by decide)) H locs ls hP hD hS (lv_sub hl [3] rfl)
  · have hf := (if_neg t13).symm.trans hf
    refine lv_iload_n hx hb dX12_inTheWay_16 rfl (lv_at hl 3 rfl) ?_
    refine lv_aload_n hx hb dX12_inTheWay_17 rfl (lv_at hl 0 rfl) ?_
    refine lv_iload hx hb dX12_inTheWay_18 (lv_at hl 4 rfl) ?_
    refine lv_iload_n hx hb dX12_inTheWay_20 rfl (lv_at hl 1 rfl) ?_
    refine lv_iload_n hx hb dX12_inTheWay_21 rfl (lv_at hl 2 rfl) ?_
    obtain ⟨q3, hq3, hf⟩ := bi_s hf
    refine bk_VI (wf := mw) (q0 := 0) (ci := 11) (rest := [.int x3]) [.int x4, .int x1, .int x2] C hP hD hS hl.1 (c_X12_isBetween hXo hq3) (cwV 3 hts gX12_inTheWay_X12_isBetween rfl rfl rfl (by decide +kernel) ⟨Nat.le_of_ble_eq_true rfl, Nat.le_of_ble_eq_true rfl⟩) rfl rfl rfl rfl (Nat.le_of_ble_eq_true rfl) dX12_inTheWay_22 (fun H locs hP hD hS => ?_)
    refine lv_if_eq (tgt := 46) hx hb dX12_inTheWay_25 (by decide) (fun t25 => ?_) (fun t25 => ?_)
    · have hf := (if_pos t25).symm.trans hf
      exact b_X12_inTheWay_b46 C hf k0 k H locs ls hP hD hS (lv_sub hl [0, 1, 2, 4] rfl)
    · have hf := (if_neg t25).symm.trans hf
      refine lv_aload_n hx hb dX12_inTheWay_28 rfl (lv_at hl 0 rfl) ?_
      refine lv_iload hx hb dX12_inTheWay_29 (lv_at hl 4 rfl) ?_
      refine lv_iload_n hx hb dX12_inTheWay_31 rfl (lv_at hl 1 rfl) ?_
      refine lv_iload_n hx hb dX12_inTheWay_32 rfl (lv_at hl 2 rfl) ?_
      obtain ⟨q4, hq4, hf⟩ := bi_s hf
      refine bk_VI (wf := mw) (q0 := 0) (ci := 11) (rest := [.int x3]) [.int x4, .int x1, .int x2] C hP hD hS hl.1 (c_X12_isBelow hXo hq4) (cwV 3 hts gX12_inTheWay_X12_isBelow rfl rfl rfl (by decide +kernel) ⟨Nat.le_of_ble_eq_true rfl, Nat.le_of_ble_eq_true rfl⟩) rfl rfl rfl rfl (Nat.le_of_ble_eq_true rfl) dX12_inTheWay_33 (fun H locs hP hD hS => ?_)
      refine lv_if_ne (tgt := 46) hx hb dX12_inTheWay_36 (by decide) (fun t36 => ?_) (fun t36 => ?_)
      · have hf := (if_neg t36).symm.trans hf
        exact b_X12_inTheWay_b46 C hf k0 k H locs ls hP hD hS (lv_sub hl [0, 1, 2, 4] rfl)
      · have hf := (if_pos t36).symm.trans hf
        refine lv_iconst (v := (1 : Int32)) hx hb dX12_inTheWay_39 (by decide) ?_
        refine lv_iload hx hb dX12_inTheWay_40 (lv_at hl 4 rfl) ?_
        refine lv_ishl hx hb dX12_inTheWay_42 ?_
        refine lv_goto (tgt := 47) hx hb dX12_inTheWay_43 (by decide) ?_
        exact b_X12_inTheWay_b47 C hf k0 k H locs ls hP hD hS (lv_sub hl [0, 1, 2, 4] rfl)
theorem lp_X12_inTheWay_h5 {N n : Nat} {x1 : Int32} {x2 : Int32} {x3 : Int32} {x4 : Int32} {σ : Sg} {z : Nat × Int32 × Int32 × Sg} (C : Cx p s m args meth c cX12_inTheWay 5 (some .int) RX12 wsX12_inTheWay g A X) (hz : it (fun q => s_X12_inTheWay_h5 N x1 x2 q.1 q.2.1 q.2.2) n (x3, x4, σ) = some z) (k : Bk mw p l e rm_X12_inTheWay s m args below meth c 5 g A Q 55 [(3, .int z.2.1)] [] z.2.2.2) : Bk mw p l e rm_X12_inTheWay s m args below meth c 5 g A Q 5 [(0, .ref (g.2.2 0)), (1, .int x1), (2, .int x2), (3, .int x3), (4, .int x4)] [] σ :=
  it_W (S := Int32 × Int32 × Sg) (fun q => Bk mw p l e rm_X12_inTheWay s m args below meth c 5 g A Q 5 [(0, .ref (g.2.2 0)), (1, .int x1), (2, .int x2), (3, .int q.1), (4, .int q.2.1)] [] q.2.2) (fun z => Bk mw p l e rm_X12_inTheWay s m args below meth c 5 g A Q 55 [(3, .int z.2.1)] [] z.2.2.2) (fun q z hq k0 k => e_X12_inTheWay_h5 C hq k0 k) n (x3, x4, σ) z hz k
def f_X12_inTheWay (N : Nat) (x1 : Int32) (x2 : Int32) (σ : Sg) : Option (Int32 × Sg) :=
(it (fun q => s_X12_inTheWay_h5 N x1 x2 q.1 q.2.1 q.2.2) N ((0 : Int32), (0 : Int32), σ)).bind fun z5 =>
some ((z5.2.1), (z5.2.2.2))
set_option maxHeartbeats 4000000 in
set_option maxRecDepth 100000 in
theorem b_X12_inTheWay {N : Nat} {x1 : Int32} {x2 : Int32} {σ : Sg} {z : Int32 × Sg} (C : Cx p s m args meth c cX12_inTheWay 5 (some .int) RX12 wsX12_inTheWay g A X) (hf : f_X12_inTheWay N x1 x2 σ = some z) : Bk mw p l e rm_X12_inTheWay s m args below meth c 5 g A (MQ below (qI mw g A z.1 z.2) args s 0 0 A) 0 [(0, .ref (g.2.2 0)), (1, .int x1), (2, .int x2)] [] σ := by
  obtain ⟨hx, hb, hr, hml, hown, hts, hK, hlocks, hXX, hA, hXo⟩ := id C
  intro H locs ls hP hD hS hl
  unfold f_X12_inTheWay at hf
  refine lv_iconst (v := (0 : Int32)) hx hb dX12_inTheWay_0 (by decide) ?_
  refine lv_istore_n (lv' := [(3, .int (0 : Int32)), (0, .ref (g.2.2 0)), (1, .int x1), (2, .int x2)]) hx hb dX12_inTheWay_1 rfl hl (by decide) rfl (fun ls hl => ?_)
  refine lv_iconst (v := (0 : Int32)) hx hb dX12_inTheWay_2 (by decide) ?_
  refine lv_istore (lv' := [(4, .int (0 : Int32)), (3, .int (0 : Int32)), (0, .ref (g.2.2 0)), (1, .int x1), (2, .int x2)]) hx hb dX12_inTheWay_3 hl (by decide) rfl (fun ls hl => ?_)
  obtain ⟨z5, hz5, hf⟩ := bi_s hf
  refine lp_X12_inTheWay_h5 C hz5 ?_ H locs ls hP hD hS (lv_sub hl [2, 3, 4, 1, 0] rfl)
  intro H locs ls hP hD hS hl
  refine lv_iload_n hx hb dX12_inTheWay_55 rfl (lv_at hl 0 rfl) ?_
  cases hf
  exact bk_iret C hP hD hS rfl dX12_inTheWay_56
theorem c_X12_inTheWay {N : Nat} {x1 : Int32} {x2 : Int32} {σ : Sg} {z : Int32 × Sg} (hX : xOK X) (hf : f_X12_inTheWay N x1 x2 σ = some z) : MetI l yX12_inTheWay wsX12_inTheWay rm_X12_inTheWay mw g X [.ref (g.2.2 0), .int x1, .int x2] σ z.1 z.2 :=
  MetI_of hX (by decide) rfl (Nat.le_of_ble_eq_true rfl) (fun p e s m args below meth c A C => b_X12_inTheWay C hf)
/-! ----- X12_mistOf (mistOf()I) ----- -/
abbrev rm_X12_mistOf : Room := { frames := 0, cells := 0, slots := 0, locals := 0 }
theorem w_X12_mistOf_f287 : Cond.fieldLink RX12 287 "NodPostModel" "tickNow" "I" ∈ wsX12_mistOf := by decide +kernel
theorem w_X12_mistOf_f34 : Cond.fieldLink RX12 34 "NodPostModel" "told" "[I" ∈ wsX12_mistOf := by decide +kernel
theorem w_X12_mistOf_f53 : Cond.fieldLink RX12 53 "NodPostModel" "mistTold" "[I" ∈ wsX12_mistOf := by decide +kernel
theorem w_X12_mistOf_f84 : Cond.fieldLink RX12 84 "NodPostModel" "mistNow" "I" ∈ wsX12_mistOf := by decide +kernel
theorem hi_X12_mistOf_X12 : ∀ w ∈ u_ws RX12 TX12 57, w ∈ wsX12_mistOf := fun _ h => List.mem_cons_of_mem _ (List.mem_append_right _ h)
def f_X12_mistOf (N : Nat) (σ : Sg) : Option (Int32 × Sg) :=
if (σ 0 32) = (-1 : Int32) then (if (σ 3 3) = 0 then (some ((0 : Int32), σ))
else (if (σ 3 3) = 0 then none else
if (((σ 0 28) - (σ 0 28) / (σ 3 3) * (σ 3 3)) < 0 ∨ 16 ≤ ((σ 0 28) - (σ 0 28) / (σ 3 3) * (σ 3 3)).toNatClampNeg) then none else
some ((σ 9 ((σ 0 28) - (σ 0 28) / (σ 3 3) * (σ 3 3)).toNatClampNeg), σ)))
else (some ((σ 0 32), σ))
set_option maxHeartbeats 4000000 in
set_option maxRecDepth 100000 in
theorem b_X12_mistOf {N : Nat} {σ : Sg} {z : Int32 × Sg} (C : Cx p s m args meth c cX12_mistOf 1 (some .int) RX12 wsX12_mistOf g A X) (hf : f_X12_mistOf N σ = some z) : Bk mw p l e rm_X12_mistOf s m args below meth c 1 g A (MQ below (qI mw g A z.1 z.2) args s 0 0 A) 0 [(0, .ref (g.2.2 0))] [] σ := by
  obtain ⟨hx, hb, hr, hml, hown, hts, hK, hlocks, hXX, hA, hXo⟩ := id C
  intro H locs ls hP hD hS hl
  unfold f_X12_mistOf at hf
  refine lv_aload_n hx hb dX12_mistOf_0 rfl (lv_at hl 0 rfl) ?_
  refine bk_get (wf := mw) (q0 := 0) (ci := 11) (k := 32) (v := .int (σ 0 32)) C hP hi_X12_mistOf_X12 rfl rfl (by decide) w_X12_mistOf_f84 rfl rfl dX12_mistOf_1 ?_
  refine lv_iconst (v := (-1 : Int32)) hx hb dX12_mistOf_4 (by decide) ?_
  refine lv_icmp_eq (tgt := 15) hx hb dX12_mistOf_5 (by decide) (fun t5 => ?_) (fun t5 => ?_)
  · have hf := (if_pos t5).symm.trans hf
    refine lv_aload_n hx hb dX12_mistOf_15 rfl (lv_at hl 0 rfl) ?_
    refine bk_get (wf := mw) (q0 := 0) (ci := 11) (k := 3) (v := .ref (g.2.2 3)) C hP hi_X12_mistOf_X12 rfl rfl (by decide) w_X12_mistOf_f34 rfl rfl dX12_mistOf_16 ?_
    refine lv_iconst (v := (3 : Int32)) hx hb dX12_mistOf_19 (by decide) ?_
    refine bk_iald (wf := mw) (q0 := 3) (n := 10) (j := 3) C hP rfl (vin_l (by decide) (by decide)) (by decide) dX12_mistOf_20 ?_
    refine lv_if_ne (tgt := 28) hx hb dX12_mistOf_21 (by decide) (fun t21 => ?_) (fun t21 => ?_)
    · have hf := (if_neg t21).symm.trans hf
      refine lv_aload_n hx hb dX12_mistOf_28 rfl (lv_at hl 0 rfl) ?_
      refine bk_get (wf := mw) (q0 := 0) (ci := 11) (k := 9) (v := .ref (g.2.2 9)) C hP hi_X12_mistOf_X12 rfl rfl (by decide) w_X12_mistOf_f53 rfl rfl dX12_mistOf_29 ?_
      refine lv_aload_n hx hb dX12_mistOf_32 rfl (lv_at hl 0 rfl) ?_
      refine bk_get (wf := mw) (q0 := 0) (ci := 11) (k := 28) (v := .int (σ 0 28)) C hP hi_X12_mistOf_X12 rfl rfl (by decide) w_X12_mistOf_f287 rfl rfl dX12_mistOf_33 ?_
      refine lv_aload_n hx hb dX12_mistOf_36 rfl (lv_at hl 0 rfl) ?_
      refine bk_get (wf := mw) (q0 := 0) (ci := 11) (k := 3) (v := .ref (g.2.2 3)) C hP hi_X12_mistOf_X12 rfl rfl (by decide) w_X12_mistOf_f34 rfl rfl dX12_mistOf_37 ?_
      refine lv_iconst (v := (3 : Int32)) hx hb dX12_mistOf_40 (by decide) ?_
      refine bk_iald (wf := mw) (q0 := 3) (n := 10) (j := 3) C hP rfl (vin_l (by decide) (by decide)) (by decide) dX12_mistOf_41 ?_
      obtain ⟨g1, hf⟩ := gd_s hf
      refine lv_irem hx hb dX12_mistOf_42 g1 ?_
      obtain ⟨g2, hf⟩ := gd_s hf
      refine bk_iald (wf := mw) (q0 := 9) (n := 16) (j := ((σ 0 28) - (σ 0 28) / (σ 3 3) * (σ 3 3)).toNatClampNeg) C hP rfl g2 rfl dX12_mistOf_43 ?_
      cases hf
      exact bk_iret C hP hD hS rfl dX12_mistOf_44
    · have hf := (if_pos t21).symm.trans hf
      refine lv_iconst (v := (0 : Int32)) hx hb dX12_mistOf_24 (by decide) ?_
      refine lv_goto (tgt := 44) hx hb dX12_mistOf_25 (by decide) ?_
      cases hf
      exact bk_iret C hP hD hS rfl dX12_mistOf_44
  · have hf := (if_neg t5).symm.trans hf
    refine lv_aload_n hx hb dX12_mistOf_8 rfl (lv_at hl 0 rfl) ?_
    refine bk_get (wf := mw) (q0 := 0) (ci := 11) (k := 32) (v := .int (σ 0 32)) C hP hi_X12_mistOf_X12 rfl rfl (by decide) w_X12_mistOf_f84 rfl rfl dX12_mistOf_9 ?_
    refine lv_goto (tgt := 44) hx hb dX12_mistOf_12 (by decide) ?_
    cases hf
    exact bk_iret C hP hD hS rfl dX12_mistOf_44
theorem c_X12_mistOf {N : Nat} {σ : Sg} {z : Int32 × Sg} (hX : xOK X) (hf : f_X12_mistOf N σ = some z) : MetI l yX12_mistOf wsX12_mistOf rm_X12_mistOf mw g X [.ref (g.2.2 0)] σ z.1 z.2 :=
  MetI_of hX (by decide) rfl (Nat.le_of_ble_eq_true rfl) (fun p e s m args below meth c A C => b_X12_mistOf C hf)
/-! ----- X12_inSight (inSight(II)Z) ----- -/
abbrev rm_X12_inSight : Room := { frames := 3, cells := 0, slots := 0, locals := 71 }
theorem w_X12_inSight_cabs : Cond.code Lib.Math.abs.name Lib.Math.abs.code 1 (some .int) ∈ wsX12_inSight := by decide +kernel
theorem w_X12_inSight_f34 : Cond.fieldLink RX12 34 "NodPostModel" "told" "[I" ∈ wsX12_inSight := by decide +kernel
theorem w_X12_inSight_f41 : Cond.fieldLink RX12 41 "NodPostModel" "xOf" "[I" ∈ wsX12_inSight := by decide +kernel
theorem w_X12_inSight_iM : Cond.initialized "java/lang/Math" ∈ wsX12_inSight := by decide +kernel
theorem w_X12_inSight_m315 : Cond.methodLink RX12 315 Lib.Math.abs.name ∈ wsX12_inSight := by decide +kernel
theorem w_X12_inSight_sabs : Cond.static Lib.Math.abs.name ∈ wsX12_inSight := by decide +kernel
theorem hi_X12_inSight_X12 : ∀ w ∈ u_ws RX12 TX12 57, w ∈ wsX12_inSight := by decide +kernel
def f_X12_inSight_b51 (N : Nat) (σ : Sg) : Option (Int32 × Sg) :=
some ((0 : Int32), σ)
set_option maxHeartbeats 4000000 in
set_option maxRecDepth 100000 in
theorem b_X12_inSight_b51 {N : Nat} {σ : Sg} {z : Int32 × Sg} (C : Cx p s m args meth c cX12_inSight 3 (some .boolean) RX12 wsX12_inSight g A X) (hf : f_X12_inSight_b51 N σ = some z) : Bk mw p l e rm_X12_inSight s m args below meth c 3 g A (MQ below (qI mw g A z.1 z.2) args s 0 0 A) 51 [] [] σ := by
  obtain ⟨hx, hb, hr, hml, hown, hts, hK, hlocks, hXX, hA, hXo⟩ := id C
  intro H locs ls hP hD hS hl
  unfold f_X12_inSight_b51 at hf
  refine lv_iconst (v := (0 : Int32)) hx hb dX12_inSight_51 (by decide) ?_
  cases hf
  exact bk_zret C hP hD hS (by decide) rfl dX12_inSight_52
def f_X12_inSight (N : Nat) (x1 : Int32) (x2 : Int32) (σ : Sg) : Option (Int32 × Sg) :=
if x1 = x2 then (f_X12_inSight_b51 N σ)
else (if (x1 < 0 ∨ 18 ≤ x1.toNatClampNeg) then none else
if (x2 < 0 ∨ 18 ≤ x2.toNatClampNeg) then none else
(f_X12_mistOf N σ).bind fun q3 =>
if ((σ 3 1) - ((9 : Int32) * q3.1)) < (if 0 ≤ ((σ 5 x1.toNatClampNeg) - (σ 5 x2.toNatClampNeg)) then ((σ 5 x1.toNatClampNeg) - (σ 5 x2.toNatClampNeg)) else 0 - ((σ 5 x1.toNatClampNeg) - (σ 5 x2.toNatClampNeg))) then (f_X12_inSight_b51 N (q3.2))
else ((f_X12_inTheWay N x1 x2 (q3.2)).bind fun q4 =>
if q4.1 = 0 then (some ((1 : Int32), (q4.2)))
else (f_X12_inSight_b51 N (q4.2))))
set_option maxHeartbeats 4000000 in
set_option maxRecDepth 100000 in
theorem b_X12_inSight {N : Nat} {x1 : Int32} {x2 : Int32} {σ : Sg} {z : Int32 × Sg} (C : Cx p s m args meth c cX12_inSight 3 (some .boolean) RX12 wsX12_inSight g A X) (hf : f_X12_inSight N x1 x2 σ = some z) : Bk mw p l e rm_X12_inSight s m args below meth c 3 g A (MQ below (qI mw g A z.1 z.2) args s 0 0 A) 0 [(0, .ref (g.2.2 0)), (1, .int x1), (2, .int x2)] [] σ := by
  obtain ⟨hx, hb, hr, hml, hown, hts, hK, hlocks, hXX, hA, hXo⟩ := id C
  intro H locs ls hP hD hS hl
  unfold f_X12_inSight at hf
  refine lv_iload_n hx hb dX12_inSight_0 rfl (lv_at hl 1 rfl) ?_
  refine lv_iload_n hx hb dX12_inSight_1 rfl (lv_at hl 2 rfl) ?_
  refine lv_icmp_eq (tgt := 51) hx hb dX12_inSight_2 (by decide) (fun t2 => ?_) (fun t2 => ?_)
  · have hf := (if_pos t2).symm.trans hf
    exact b_X12_inSight_b51 C hf H locs ls hP hD hS (lv_sub hl [] rfl)
  · have hf := (if_neg t2).symm.trans hf
    refine lv_aload_n hx hb dX12_inSight_5 rfl (lv_at hl 0 rfl) ?_
    refine bk_get (wf := mw) (q0 := 0) (ci := 11) (k := 5) (v := .ref (g.2.2 5)) C hP hi_X12_inSight_X12 rfl rfl (by decide) w_X12_inSight_f41 rfl rfl dX12_inSight_6 ?_
    refine lv_iload_n hx hb dX12_inSight_9 rfl (lv_at hl 1 rfl) ?_
    obtain ⟨g1, hf⟩ := gd_s hf
    refine bk_iald (wf := mw) (q0 := 5) (n := 18) (j := x1.toNatClampNeg) C hP rfl g1 rfl dX12_inSight_10 ?_
    refine lv_aload_n hx hb dX12_inSight_11 rfl (lv_at hl 0 rfl) ?_
    refine bk_get (wf := mw) (q0 := 0) (ci := 11) (k := 5) (v := .ref (g.2.2 5)) C hP hi_X12_inSight_X12 rfl rfl (by decide) w_X12_inSight_f41 rfl rfl dX12_inSight_12 ?_
    refine lv_iload_n hx hb dX12_inSight_15 rfl (lv_at hl 2 rfl) ?_
    obtain ⟨g2, hf⟩ := gd_s hf
    refine bk_iald (wf := mw) (q0 := 5) (n := 18) (j := x2.toNatClampNeg) C hP rfl g2 rfl dX12_inSight_16 ?_
    refine lv_isub hx hb dX12_inSight_17 ?_
    refine va_mabs hx hb (hml.trans hl.1.symm) hown (hts _ w_X12_inSight_m315) (hts _ w_X12_inSight_sabs) (hts _ w_X12_inSight_iM) (hts _ w_X12_inSight_cabs) (Nat.le_of_ble_eq_true rfl) (Nat.le_of_ble_eq_true rfl) (Nat.zero_le _) (Nat.zero_le _) dX12_inSight_18 ?_
    refine lv_aload_n hx hb dX12_inSight_21 rfl (lv_at hl 0 rfl) ?_
    refine bk_get (wf := mw) (q0 := 0) (ci := 11) (k := 3) (v := .ref (g.2.2 3)) C hP hi_X12_inSight_X12 rfl rfl (by decide) w_X12_inSight_f34 rfl rfl dX12_inSight_22 ?_
    refine lv_iconst (v := (1 : Int32)) hx hb dX12_inSight_25 (by decide) ?_
    refine bk_iald (wf := mw) (q0 := 3) (n := 10) (j := 1) C hP rfl (vin_l (by decide) (by decide)) (by decide) dX12_inSight_26 ?_
    refine lv_bipush (v := (9 : Int32)) hx hb dX12_inSight_27 (by decide) ?_
    refine lv_aload_n hx hb dX12_inSight_29 rfl (lv_at hl 0 rfl) ?_
    obtain ⟨q3, hq3, hf⟩ := bi_s hf
    refine bk_VI (wf := mw) (q0 := 0) (ci := 11) (rest := [.int (9 : Int32), .int (σ 3 1), .int (if 0 ≤ ((σ 5 x1.toNatClampNeg) - (σ 5 x2.toNatClampNeg)) then ((σ 5 x1.toNatClampNeg) - (σ 5 x2.toNatClampNeg)) else 0 - ((σ 5 x1.toNatClampNeg) - (σ 5 x2.toNatClampNeg)))]) [] C hP hD hS hl.1 (c_X12_mistOf hXo hq3) (cwV 0 hts gX12_inSight_X12_mistOf rfl rfl rfl (by decide +kernel) ⟨Nat.le_of_ble_eq_true rfl, Nat.le_of_ble_eq_true rfl⟩) rfl rfl rfl rfl (Nat.le_of_ble_eq_true rfl) dX12_inSight_30 (fun H locs hP hD hS => ?_)
    refine lv_imul hx hb dX12_inSight_33 ?_
    refine lv_isub hx hb dX12_inSight_34 ?_
    refine lv_icmp_gt (tgt := 51) hx hb dX12_inSight_35 (by decide) (fun t35 => ?_) (fun t35 => ?_)
    · have hf := (if_pos t35).symm.trans hf
      exact b_X12_inSight_b51 C hf H locs ls hP hD hS (lv_sub hl [] rfl)
    · have hf := (if_neg t35).symm.trans hf
      refine lv_aload_n hx hb dX12_inSight_38 rfl (lv_at hl 0 rfl) ?_
      refine lv_iload_n hx hb dX12_inSight_39 rfl (lv_at hl 1 rfl) ?_
      refine lv_iload_n hx hb dX12_inSight_40 rfl (lv_at hl 2 rfl) ?_
      obtain ⟨q4, hq4, hf⟩ := bi_s hf
      refine bk_VI (wf := mw) (q0 := 0) (ci := 11) (rest := []) [.int x1, .int x2] C hP hD hS hl.1 (c_X12_inTheWay hXo hq4) (cwV 2 hts gX12_inSight_X12_inTheWay rfl rfl rfl (by decide +kernel) ⟨Nat.le_of_ble_eq_true rfl, Nat.le_of_ble_eq_true rfl⟩) rfl rfl rfl rfl (Nat.le_of_ble_eq_true rfl) dX12_inSight_41 (fun H locs hP hD hS => ?_)
      refine lv_if_ne (tgt := 51) hx hb dX12_inSight_44 (by decide) (fun t44 => ?_) (fun t44 => ?_)
      · have hf := (if_neg t44).symm.trans hf
        exact b_X12_inSight_b51 C hf H locs ls hP hD hS (lv_sub hl [] rfl)
      · have hf := (if_pos t44).symm.trans hf
        refine lv_iconst (v := (1 : Int32)) hx hb dX12_inSight_47 (by decide) ?_
        refine lv_goto (tgt := 52) hx hb dX12_inSight_48 (by decide) ?_
        cases hf
        exact bk_zret C hP hD hS (by decide) rfl dX12_inSight_52
theorem c_X12_inSight {N : Nat} {x1 : Int32} {x2 : Int32} {σ : Sg} {z : Int32 × Sg} (hX : xOK X) (hf : f_X12_inSight N x1 x2 σ = some z) : MetI l yX12_inSight wsX12_inSight rm_X12_inSight mw g X [.ref (g.2.2 0), .int x1, .int x2] σ z.1 z.2 :=
  MetI_of hX (by decide) rfl (Nat.le_of_ble_eq_true rfl) (fun p e s m args below meth c A C => b_X12_inSight C hf)
/-! ----- X12_seesOf (seesOf(I)I) ----- -/
abbrev rm_X12_seesOf : Room := { frames := 4, cells := 0, slots := 0, locals := 93 }
theorem w_X12_seesOf_f34 : Cond.fieldLink RX12 34 "NodPostModel" "told" "[I" ∈ wsX12_seesOf := by decide +kernel
theorem hi_X12_seesOf_X12 : ∀ w ∈ u_ws RX12 TX12 57, w ∈ wsX12_seesOf := by decide +kernel
def f_X12_seesOf_b31 (N : Nat) (x1 : Int32) (x3 : Int32) (t0 : Int32) (t1 : Int32) (σ : Sg) : Option (Nat × Int32 × Int32 × Sg) :=
bd (t0 ||| t1) fun v1 =>
bd (x3 + (1 : Int32)) fun v2 =>
some (0, v1, v2, σ)
set_option maxHeartbeats 4000000 in
set_option maxRecDepth 100000 in
theorem b_X12_seesOf_b31 {N : Nat} {x1 : Int32} {x3 : Int32} {t0 : Int32} {t1 : Int32} {σ : Sg} {z : Nat × Int32 × Int32 × Sg} (C : Cx p s m args meth c cX12_seesOf 4 (some .int) RX12 wsX12_seesOf g A X) (hf : f_X12_seesOf_b31 N x1 x3 t0 t1 σ = some z) (k0 : z.1 = 0 → Bk mw p l e rm_X12_seesOf s m args below meth c 4 g A Q 4 [(0, .ref (g.2.2 0)), (1, .int x1), (2, .int z.2.1), (3, .int z.2.2.1)] [] z.2.2.2) (k : ¬ z.1 = 0 → Bk mw p l e rm_X12_seesOf s m args below meth c 4 g A Q 39 [(2, .int z.2.1)] [] z.2.2.2) : Bk mw p l e rm_X12_seesOf s m args below meth c 4 g A Q 31 [(0, .ref (g.2.2 0)), (1, .int x1), (3, .int x3)] [.int t1, .int t0] σ := by
  obtain ⟨hx, hb, hr, hml, hown, hts, hK, hlocks, hXX, hA, hXo⟩ := id C
  intro H locs ls hP hD hS hl
  unfold f_X12_seesOf_b31 at hf
  refine lv_ior hx hb dX12_seesOf_31 ?_
  obtain ⟨v1, ev1, hf⟩ := bd_s hf
  rw [← ev1]
  refine lv_istore_n (lv' := [(2, .int v1), (0, .ref (g.2.2 0)), (1, .int x1), (3, .int x3)]) hx hb dX12_seesOf_32 rfl hl (by decide) rfl (fun ls hl => ?_)
  obtain ⟨v2, ev2, hf⟩ := bd_s hf
  refine lv_iinc (v := v2) (lv' := [(3, .int v2), (2, .int v1), (0, .ref (g.2.2 0)), (1, .int x1)]) hx hb dX12_seesOf_33 hl (k := 3) rfl (by rw [ev2]; rfl) (by decide) rfl (fun ls hl => ?_)
  refine lv_goto (tgt := 4) hx hb dX12_seesOf_36 (by decide) ?_
  cases hf
  exact k0 rfl H locs ls hP hD hS (lv_sub hl [2, 3, 1, 0] rfl)
def s_X12_seesOf_h4 (N : Nat) (x1 : Int32) (x2 : Int32) (x3 : Int32) (σ : Sg) : Option (Nat × Int32 × Int32 × Sg) :=
if (σ 3 0) ≤ x3 then (some (1, x2, 0, σ))
else ((f_X12_inSight N x1 x3 σ).bind fun q3 =>
if q3.1 = 0 then (f_X12_seesOf_b31 N x1 x3 x2 (0 : Int32) (q3.2))
else (f_X12_seesOf_b31 N x1 x3 x2 ((1 : Int32) <<< (x3 &&& 31)) (q3.2)))
set_option maxHeartbeats 4000000 in
set_option maxRecDepth 100000 in
theorem e_X12_seesOf_h4 {N : Nat} {x1 : Int32} {x2 : Int32} {x3 : Int32} {σ : Sg} {z : Nat × Int32 × Int32 × Sg} (C : Cx p s m args meth c cX12_seesOf 4 (some .int) RX12 wsX12_seesOf g A X) (hf : s_X12_seesOf_h4 N x1 x2 x3 σ = some z) (k0 : z.1 = 0 → Bk mw p l e rm_X12_seesOf s m args below meth c 4 g A Q 4 [(0, .ref (g.2.2 0)), (1, .int x1), (2, .int z.2.1), (3, .int z.2.2.1)] [] z.2.2.2) (k : ¬ z.1 = 0 → Bk mw p l e rm_X12_seesOf s m args below meth c 4 g A Q 39 [(2, .int z.2.1)] [] z.2.2.2) : Bk mw p l e rm_X12_seesOf s m args below meth c 4 g A Q 4 [(0, .ref (g.2.2 0)), (1, .int x1), (2, .int x2), (3, .int x3)] [] σ := by
  obtain ⟨hx, hb, hr, hml, hown, hts, hK, hlocks, hXX, hA, hXo⟩ := id C
  intro H locs ls hP hD hS hl
  unfold s_X12_seesOf_h4 at hf
  refine lv_iload_n hx hb dX12_seesOf_4 rfl (lv_at hl 3 rfl) ?_
  refine lv_aload_n hx hb dX12_seesOf_5 rfl (lv_at hl 0 rfl) ?_
  refine bk_get (wf := mw) (q0 := 0) (ci := 11) (k := 3) (v := .ref (g.2.2 3)) C hP hi_X12_seesOf_X12 rfl rfl (by decide) w_X12_seesOf_f34 rfl rfl dX12_seesOf_6 ?_
  refine lv_iconst (v := (0 : Int32)) hx hb dX12_seesOf_9 (by decide) ?_
  refine bk_iald (wf := mw) (q0 := 3) (n := 10) (j := 0) C hP rfl (vin_l (by decide) (by decide)) (by decide) dX12_seesOf_10 ?_
  refine lv_icmp_ge (tgt := 39) hx hb dX12_seesOf_11 (by decide) (fun t11 => ?_) (fun t11 => ?_)
  · have hf := (if_pos t11).symm.trans hf
    cases hf
    exact (k (by decide)) H locs ls hP hD hS (lv_sub hl [2] rfl)
  · have hf := (if_neg t11).symm.trans hf
    refine lv_iload_n hx hb dX12_seesOf_14 rfl (lv_at hl 2 rfl) ?_
    refine lv_aload_n hx hb dX12_seesOf_15 rfl (lv_at hl 0 rfl) ?_
    refine lv_iload_n hx hb dX12_seesOf_16 rfl (lv_at hl 1 rfl) ?_
    refine lv_iload_n hx hb dX12_seesOf_17 rfl (lv_at hl 3 rfl) ?_
    obtain ⟨q3, hq3, hf⟩ := bi_s hf
    refine bk_VI (wf := mw) (q0 := 0) (ci := 11) (rest := [.int x2]) [.int x1, .int x3] C hP hD hS hl.1 (c_X12_inSight hXo hq3) (cwV 2 hts gX12_seesOf_X12_inSight rfl rfl rfl (by decide +kernel) ⟨Nat.le_of_ble_eq_true rfl, Nat.le_of_ble_eq_true rfl⟩) rfl rfl rfl rfl (Nat.le_of_ble_eq_true rfl) dX12_seesOf_18 (fun H locs hP hD hS => ?_)
    refine lv_if_eq (tgt := 30) hx hb dX12_seesOf_21 (by decide) (fun t21 => ?_) (fun t21 => ?_)
    · have hf := (if_pos t21).symm.trans hf
      refine lv_iconst (v := (0 : Int32)) hx hb dX12_seesOf_30 (by decide) ?_
      exact b_X12_seesOf_b31 C hf k0 k H locs ls hP hD hS (lv_sub hl [0, 1, 3] rfl)
    · have hf := (if_neg t21).symm.trans hf
      refine lv_iconst (v := (1 : Int32)) hx hb dX12_seesOf_24 (by decide) ?_
      refine lv_iload_n hx hb dX12_seesOf_25 rfl (lv_at hl 3 rfl) ?_
      refine lv_ishl hx hb dX12_seesOf_26 ?_
      refine lv_goto (tgt := 31) hx hb dX12_seesOf_27 (by decide) ?_
      exact b_X12_seesOf_b31 C hf k0 k H locs ls hP hD hS (lv_sub hl [0, 1, 3] rfl)
theorem lp_X12_seesOf_h4 {N n : Nat} {x1 : Int32} {x2 : Int32} {x3 : Int32} {σ : Sg} {z : Nat × Int32 × Int32 × Sg} (C : Cx p s m args meth c cX12_seesOf 4 (some .int) RX12 wsX12_seesOf g A X) (hz : it (fun q => s_X12_seesOf_h4 N x1 q.1 q.2.1 q.2.2) n (x2, x3, σ) = some z) (k : Bk mw p l e rm_X12_seesOf s m args below meth c 4 g A Q 39 [(2, .int z.2.1)] [] z.2.2.2) : Bk mw p l e rm_X12_seesOf s m args below meth c 4 g A Q 4 [(0, .ref (g.2.2 0)), (1, .int x1), (2, .int x2), (3, .int x3)] [] σ :=
  it_W (S := Int32 × Int32 × Sg) (fun q => Bk mw p l e rm_X12_seesOf s m args below meth c 4 g A Q 4 [(0, .ref (g.2.2 0)), (1, .int x1), (2, .int q.1), (3, .int q.2.1)] [] q.2.2) (fun z => Bk mw p l e rm_X12_seesOf s m args below meth c 4 g A Q 39 [(2, .int z.2.1)] [] z.2.2.2) (fun q z hq k0 k => e_X12_seesOf_h4 C hq k0 k) n (x2, x3, σ) z hz k
def f_X12_seesOf (N : Nat) (x1 : Int32) (σ : Sg) : Option (Int32 × Sg) :=
(it (fun q => s_X12_seesOf_h4 N x1 q.1 q.2.1 q.2.2) N ((0 : Int32), (0 : Int32), σ)).bind fun z4 =>
some ((z4.2.1), (z4.2.2.2))
set_option maxHeartbeats 4000000 in
set_option maxRecDepth 100000 in
theorem b_X12_seesOf {N : Nat} {x1 : Int32} {σ : Sg} {z : Int32 × Sg} (C : Cx p s m args meth c cX12_seesOf 4 (some .int) RX12 wsX12_seesOf g A X) (hf : f_X12_seesOf N x1 σ = some z) : Bk mw p l e rm_X12_seesOf s m args below meth c 4 g A (MQ below (qI mw g A z.1 z.2) args s 0 0 A) 0 [(0, .ref (g.2.2 0)), (1, .int x1)] [] σ := by
  obtain ⟨hx, hb, hr, hml, hown, hts, hK, hlocks, hXX, hA, hXo⟩ := id C
  intro H locs ls hP hD hS hl
  unfold f_X12_seesOf at hf
  refine lv_iconst (v := (0 : Int32)) hx hb dX12_seesOf_0 (by decide) ?_
  refine lv_istore_n (lv' := [(2, .int (0 : Int32)), (0, .ref (g.2.2 0)), (1, .int x1)]) hx hb dX12_seesOf_1 rfl hl (by decide) rfl (fun ls hl => ?_)
  refine lv_iconst (v := (0 : Int32)) hx hb dX12_seesOf_2 (by decide) ?_
  refine lv_istore_n (lv' := [(3, .int (0 : Int32)), (2, .int (0 : Int32)), (0, .ref (g.2.2 0)), (1, .int x1)]) hx hb dX12_seesOf_3 rfl hl (by decide) rfl (fun ls hl => ?_)
  obtain ⟨z4, hz4, hf⟩ := bi_s hf
  refine lp_X12_seesOf_h4 C hz4 ?_ H locs ls hP hD hS (lv_sub hl [2, 3, 1, 0] rfl)
  intro H locs ls hP hD hS hl
  refine lv_iload_n hx hb dX12_seesOf_39 rfl (lv_at hl 0 rfl) ?_
  cases hf
  exact bk_iret C hP hD hS rfl dX12_seesOf_40
theorem c_X12_seesOf {N : Nat} {x1 : Int32} {σ : Sg} {z : Int32 × Sg} (hX : xOK X) (hf : f_X12_seesOf N x1 σ = some z) : MetI l yX12_seesOf wsX12_seesOf rm_X12_seesOf mw g X [.ref (g.2.2 0), .int x1] σ z.1 z.2 :=
  MetI_of hX (by decide) rfl (Nat.le_of_ble_eq_true rfl) (fun p e s m args below meth c A C => b_X12_seesOf C hf)
/-! ----- X12_reckon (reckon(III)I) ----- -/
abbrev rm_X12_reckon : Room := { frames := 0, cells := 0, slots := 0, locals := 0 }
def f_X12_reckon_b112 (N : Nat) (σ : Sg) : Option (Int32 × Sg) :=
some ((1 : Int32), σ)
set_option maxHeartbeats 4000000 in
set_option maxRecDepth 100000 in
theorem b_X12_reckon_b112 {N : Nat} {σ : Sg} {z : Int32 × Sg} (C : Cx p s m args meth c cX12_reckon 3 (some .int) RX12 wsX12_reckon g A X) (hf : f_X12_reckon_b112 N σ = some z) : Bk mw p l e rm_X12_reckon s m args below meth c 3 g A (MQ below (qI mw g A z.1 z.2) args s 0 0 A) 112 [] [] σ := by
  obtain ⟨hx, hb, hr, hml, hown, hts, hK, hlocks, hXX, hA, hXo⟩ := id C
  intro H locs ls hP hD hS hl
  unfold f_X12_reckon_b112 at hf
  refine lv_iconst (v := (1 : Int32)) hx hb dX12_reckon_112 (by decide) ?_
  refine lv_goto (tgt := 117) hx hb dX12_reckon_113 (by decide) ?_
  cases hf
  exact bk_iret C hP hD hS rfl dX12_reckon_117
def f_X12_reckon_b102 (N : Nat) (σ : Sg) : Option (Int32 × Sg) :=
some ((0 : Int32), σ)
set_option maxHeartbeats 4000000 in
set_option maxRecDepth 100000 in
theorem b_X12_reckon_b102 {N : Nat} {σ : Sg} {z : Int32 × Sg} (C : Cx p s m args meth c cX12_reckon 3 (some .int) RX12 wsX12_reckon g A X) (hf : f_X12_reckon_b102 N σ = some z) : Bk mw p l e rm_X12_reckon s m args below meth c 3 g A (MQ below (qI mw g A z.1 z.2) args s 0 0 A) 102 [] [] σ := by
  obtain ⟨hx, hb, hr, hml, hown, hts, hK, hlocks, hXX, hA, hXo⟩ := id C
  intro H locs ls hP hD hS hl
  unfold f_X12_reckon_b102 at hf
  refine lv_iconst (v := (0 : Int32)) hx hb dX12_reckon_102 (by decide) ?_
  cases hf
  exact bk_iret C hP hD hS rfl dX12_reckon_103
def f_X12_reckon (N : Nat) (x0 : Int32) (x1 : Int32) (x2 : Int32) (σ : Sg) : Option (Int32 × Sg) :=
if ((x0).toInt < -26 ∨ -20 < (x0).toInt) then (if x1 = 0 then (if x2 = 0 then (some ((0 : Int32), σ))
else (f_X12_reckon_b112 N σ))
else (f_X12_reckon_b112 N σ))
else if x0 = (-26 : Int32) then (if x1 = 0 then (f_X12_reckon_b102 N σ)
else (if x2 = 0 then (f_X12_reckon_b102 N σ)
else (some ((1 : Int32), σ))))
else if x0 = (-25 : Int32) then (if x1 = x2 then (some ((1 : Int32), σ))
else (some ((0 : Int32), σ)))
else if x0 = (-24 : Int32) then (if x2 ≤ x1 then (some ((0 : Int32), σ))
else (some ((1 : Int32), σ)))
else if x0 = (-23 : Int32) then (if x2 = 0 then (some ((0 : Int32), σ))
else (if x2 = 0 then none else
some ((x1 / x2), σ)))
else if x0 = (-22 : Int32) then (some ((x1 * x2), σ))
else if x0 = (-21 : Int32) then (some ((x1 - x2), σ))
else if x0 = (-20 : Int32) then (some ((x1 + x2), σ))
else none
set_option maxHeartbeats 4000000 in
set_option maxRecDepth 100000 in
theorem b_X12_reckon {N : Nat} {x0 : Int32} {x1 : Int32} {x2 : Int32} {σ : Sg} {z : Int32 × Sg} (C : Cx p s m args meth c cX12_reckon 3 (some .int) RX12 wsX12_reckon g A X) (hf : f_X12_reckon N x0 x1 x2 σ = some z) : Bk mw p l e rm_X12_reckon s m args below meth c 3 g A (MQ below (qI mw g A z.1 z.2) args s 0 0 A) 0 [(0, .int x0), (1, .int x1), (2, .int x2)] [] σ := by
  obtain ⟨hx, hb, hr, hml, hown, hts, hK, hlocks, hXX, hA, hXo⟩ := id C
  intro H locs ls hP hD hS hl
  unfold f_X12_reckon at hf
  refine lv_iload_n hx hb dX12_reckon_0 rfl (lv_at hl 0 rfl) ?_
  by_cases t1 : ((x0).toInt < -26 ∨ -20 < (x0).toInt)
  · have hf := (if_pos t1).symm.trans hf
    refine lv_tableOut (tgt := 104) hx hb dX12_reckon_1 t1 (by decide) ?_
    refine lv_iload_n hx hb dX12_reckon_104 rfl (lv_at hl 1 rfl) ?_
    refine lv_if_ne (tgt := 112) hx hb dX12_reckon_105 (by decide) (fun t105 => ?_) (fun t105 => ?_)
    · have hf := (if_neg t105).symm.trans hf
      exact b_X12_reckon_b112 C hf H locs ls hP hD hS (lv_sub hl [] rfl)
    · have hf := (if_pos t105).symm.trans hf
      refine lv_iload_n hx hb dX12_reckon_108 rfl (lv_at hl 2 rfl) ?_
      refine lv_if_eq (tgt := 116) hx hb dX12_reckon_109 (by decide) (fun t109 => ?_) (fun t109 => ?_)
      · have hf := (if_pos t109).symm.trans hf
        refine lv_iconst (v := (0 : Int32)) hx hb dX12_reckon_116 (by decide) ?_
        cases hf
        exact bk_iret C hP hD hS rfl dX12_reckon_117
      · have hf := (if_neg t109).symm.trans hf
        exact b_X12_reckon_b112 C hf H locs ls hP hD hS (lv_sub hl [] rfl)
  · have hf := (if_neg t1).symm.trans hf
    have t1l := fun q => t1 (Or.inl q)
    have t1h := fun q => t1 (Or.inr q)
    by_cases u1_0 : x0 = (-26 : Int32)
    · have hf := (if_pos u1_0).symm.trans hf
      refine lv_tableIn (off := 89) (tgt := 90) hx hb dX12_reckon_1 t1l t1h (by rw [u1_0]; rfl) (by decide) ?_
      refine lv_iload_n hx hb dX12_reckon_90 rfl (lv_at hl 1 rfl) ?_
      refine lv_if_eq (tgt := 102) hx hb dX12_reckon_91 (by decide) (fun t91 => ?_) (fun t91 => ?_)
      · have hf := (if_pos t91).symm.trans hf
        exact b_X12_reckon_b102 C hf H locs ls hP hD hS (lv_sub hl [] rfl)
      · have hf := (if_neg t91).symm.trans hf
        refine lv_iload_n hx hb dX12_reckon_94 rfl (lv_at hl 2 rfl) ?_
        refine lv_if_eq (tgt := 102) hx hb dX12_reckon_95 (by decide) (fun t95 => ?_) (fun t95 => ?_)
        · have hf := (if_pos t95).symm.trans hf
          exact b_X12_reckon_b102 C hf H locs ls hP hD hS (lv_sub hl [] rfl)
        · have hf := (if_neg t95).symm.trans hf
          refine lv_iconst (v := (1 : Int32)) hx hb dX12_reckon_98 (by decide) ?_
          refine lv_goto (tgt := 103) hx hb dX12_reckon_99 (by decide) ?_
          cases hf
          exact bk_iret C hP hD hS rfl dX12_reckon_103
    · have hf := (if_neg u1_0).symm.trans hf
      by_cases u1_1 : x0 = (-25 : Int32)
      · have hf := (if_pos u1_1).symm.trans hf
        refine lv_tableIn (off := 78) (tgt := 79) hx hb dX12_reckon_1 t1l t1h (by rw [u1_1]; rfl) (by decide) ?_
        refine lv_iload_n hx hb dX12_reckon_79 rfl (lv_at hl 1 rfl) ?_
        refine lv_iload_n hx hb dX12_reckon_80 rfl (lv_at hl 2 rfl) ?_
        refine lv_icmp_ne (tgt := 88) hx hb dX12_reckon_81 (by decide) (fun t81 => ?_) (fun t81 => ?_)
        · have hf := (if_neg t81).symm.trans hf
          refine lv_iconst (v := (0 : Int32)) hx hb dX12_reckon_88 (by decide) ?_
          cases hf
          exact bk_iret C hP hD hS rfl dX12_reckon_89
        · have hf := (if_pos t81).symm.trans hf
          refine lv_iconst (v := (1 : Int32)) hx hb dX12_reckon_84 (by decide) ?_
          refine lv_goto (tgt := 89) hx hb dX12_reckon_85 (by decide) ?_
          cases hf
          exact bk_iret C hP hD hS rfl dX12_reckon_89
      · have hf := (if_neg u1_1).symm.trans hf
        by_cases u1_2 : x0 = (-24 : Int32)
        · have hf := (if_pos u1_2).symm.trans hf
          refine lv_tableIn (off := 67) (tgt := 68) hx hb dX12_reckon_1 t1l t1h (by rw [u1_2]; rfl) (by decide) ?_
          refine lv_iload_n hx hb dX12_reckon_68 rfl (lv_at hl 1 rfl) ?_
          refine lv_iload_n hx hb dX12_reckon_69 rfl (lv_at hl 2 rfl) ?_
          refine lv_icmp_ge (tgt := 77) hx hb dX12_reckon_70 (by decide) (fun t70 => ?_) (fun t70 => ?_)
          · have hf := (if_pos t70).symm.trans hf
            refine lv_iconst (v := (0 : Int32)) hx hb dX12_reckon_77 (by decide) ?_
            cases hf
            exact bk_iret C hP hD hS rfl dX12_reckon_78
          · have hf := (if_neg t70).symm.trans hf
            refine lv_iconst (v := (1 : Int32)) hx hb dX12_reckon_73 (by decide) ?_
            refine lv_goto (tgt := 78) hx hb dX12_reckon_74 (by decide) ?_
            cases hf
            exact bk_iret C hP hD hS rfl dX12_reckon_78
        · have hf := (if_neg u1_2).symm.trans hf
          by_cases u1_3 : x0 = (-23 : Int32)
          · have hf := (if_pos u1_3).symm.trans hf
            refine lv_tableIn (off := 55) (tgt := 56) hx hb dX12_reckon_1 t1l t1h (by rw [u1_3]; rfl) (by decide) ?_
            refine lv_iload_n hx hb dX12_reckon_56 rfl (lv_at hl 2 rfl) ?_
            refine lv_if_ne (tgt := 64) hx hb dX12_reckon_57 (by decide) (fun t57 => ?_) (fun t57 => ?_)
            · have hf := (if_neg t57).symm.trans hf
              refine lv_iload_n hx hb dX12_reckon_64 rfl (lv_at hl 1 rfl) ?_
              refine lv_iload_n hx hb dX12_reckon_65 rfl (lv_at hl 2 rfl) ?_
              obtain ⟨g1, hf⟩ := gd_s hf
              refine lv_idiv hx hb dX12_reckon_66 g1 ?_
              cases hf
              exact bk_iret C hP hD hS rfl dX12_reckon_67
            · have hf := (if_pos t57).symm.trans hf
              refine lv_iconst (v := (0 : Int32)) hx hb dX12_reckon_60 (by decide) ?_
              refine lv_goto (tgt := 67) hx hb dX12_reckon_61 (by decide) ?_
              cases hf
              exact bk_iret C hP hD hS rfl dX12_reckon_67
          · have hf := (if_neg u1_3).symm.trans hf
            by_cases u1_4 : x0 = (-22 : Int32)
            · have hf := (if_pos u1_4).symm.trans hf
              refine lv_tableIn (off := 51) (tgt := 52) hx hb dX12_reckon_1 t1l t1h (by rw [u1_4]; rfl) (by decide) ?_
              refine lv_iload_n hx hb dX12_reckon_52 rfl (lv_at hl 1 rfl) ?_
              refine lv_iload_n hx hb dX12_reckon_53 rfl (lv_at hl 2 rfl) ?_
              refine lv_imul hx hb dX12_reckon_54 ?_
              cases hf
              exact bk_iret C hP hD hS rfl dX12_reckon_55
            · have hf := (if_neg u1_4).symm.trans hf
              by_cases u1_5 : x0 = (-21 : Int32)
              · have hf := (if_pos u1_5).symm.trans hf
                refine lv_tableIn (off := 47) (tgt := 48) hx hb dX12_reckon_1 t1l t1h (by rw [u1_5]; rfl) (by decide) ?_
                refine lv_iload_n hx hb dX12_reckon_48 rfl (lv_at hl 1 rfl) ?_
                refine lv_iload_n hx hb dX12_reckon_49 rfl (lv_at hl 2 rfl) ?_
                refine lv_isub hx hb dX12_reckon_50 ?_
                cases hf
                exact bk_iret C hP hD hS rfl dX12_reckon_51
              · have hf := (if_neg u1_5).symm.trans hf
                by_cases u1_6 : x0 = (-20 : Int32)
                · have hf := (if_pos u1_6).symm.trans hf
                  refine lv_tableIn (off := 43) (tgt := 44) hx hb dX12_reckon_1 t1l t1h (by rw [u1_6]; rfl) (by decide) ?_
                  refine lv_iload_n hx hb dX12_reckon_44 rfl (lv_at hl 1 rfl) ?_
                  refine lv_iload_n hx hb dX12_reckon_45 rfl (lv_at hl 2 rfl) ?_
                  refine lv_iadd hx hb dX12_reckon_46 ?_
                  cases hf
                  exact bk_iret C hP hD hS rfl dX12_reckon_47
                · have hf := (if_neg u1_6).symm.trans hf
                  cases hf
theorem c_X12_reckon {N : Nat} {x0 : Int32} {x1 : Int32} {x2 : Int32} {σ : Sg} {z : Int32 × Sg} (hX : xOK X) (hf : f_X12_reckon N x0 x1 x2 σ = some z) : MetI l yX12_reckon wsX12_reckon rm_X12_reckon mw g X [.int x0, .int x1, .int x2] σ z.1 z.2 :=
  MetI_of hX (by decide) rfl (Nat.le_of_ble_eq_true rfl) (fun p e s m args below meth c A C => b_X12_reckon C hf)
/-! ----- X12_valueNow (valueNow()I) ----- -/
abbrev rm_X12_valueNow : Room := { frames := 1, cells := 0, slots := 0, locals := 22 }
theorem w_X12_valueNow_f34 : Cond.fieldLink RX12 34 "NodPostModel" "told" "[I" ∈ wsX12_valueNow := by decide +kernel
theorem w_X12_valueNow_f56 : Cond.fieldLink RX12 56 "NodPostModel" "signs" "[I" ∈ wsX12_valueNow := by decide +kernel
theorem w_X12_valueNow_f87 : Cond.fieldLink RX12 87 "NodPostModel" "asked" "[I" ∈ wsX12_valueNow := by decide +kernel
theorem w_X12_valueNow_f90 : Cond.fieldLink RX12 90 "NodPostModel" "stack" "[I" ∈ wsX12_valueNow := by decide +kernel
theorem hi_X12_valueNow_X12 : ∀ w ∈ u_ws RX12 TX12 57, w ∈ wsX12_valueNow := fun _ h => List.mem_cons_of_mem _ (List.mem_append_right _ h)
def f_X12_valueNow_b117 (N : Nat) (x1 : Int32) (x2 : Int32) (σ : Sg) : Option (Nat × Int32 × Int32 × Sg) :=
bd (x2 + (1 : Int32)) fun v1 =>
some (0, x1, v1, σ)
set_option maxHeartbeats 4000000 in
set_option maxRecDepth 100000 in
theorem b_X12_valueNow_b117 {N : Nat} {x1 : Int32} {x2 : Int32} {σ : Sg} {z : Nat × Int32 × Int32 × Sg} (C : Cx p s m args meth c cX12_valueNow 4 (some .int) RX12 wsX12_valueNow g A X) (hf : f_X12_valueNow_b117 N x1 x2 σ = some z) (k0 : z.1 = 0 → Bk mw p l e rm_X12_valueNow s m args below meth c 4 g A Q 4 [(0, .ref (g.2.2 0)), (1, .int z.2.1), (2, .int z.2.2.1)] [] z.2.2.2) (k : ¬ z.1 = 0 → Bk mw p l e rm_X12_valueNow s m args below meth c 4 g A Q 123 [(0, .ref (g.2.2 0))] [] z.2.2.2) : Bk mw p l e rm_X12_valueNow s m args below meth c 4 g A Q 117 [(0, .ref (g.2.2 0)), (1, .int x1), (2, .int x2)] [] σ := by
  obtain ⟨hx, hb, hr, hml, hown, hts, hK, hlocks, hXX, hA, hXo⟩ := id C
  intro H locs ls hP hD hS hl
  unfold f_X12_valueNow_b117 at hf
  obtain ⟨v1, ev1, hf⟩ := bd_s hf
  refine lv_iinc (v := v1) (lv' := [(2, .int v1), (0, .ref (g.2.2 0)), (1, .int x1)]) hx hb dX12_valueNow_117 hl (k := 2) rfl (by rw [ev1]; rfl) (by decide) rfl (fun ls hl => ?_)
  refine lv_goto (tgt := 4) hx hb dX12_valueNow_120 (by decide) ?_
  cases hf
  exact k0 rfl H locs ls hP hD hS (lv_sub hl [1, 2, 0] rfl)
def f_X12_valueNow_b84 (N : Nat) (x1 : Int32) (x2 : Int32) (t1 : Int32) (t2 : Int32) (σ : Sg) : Option (Nat × Int32 × Int32 × Sg) :=
if (t1 < 0 ∨ 64 ≤ t1.toNatClampNeg) then none else
bd (wr σ 19 (t1.toNatClampNeg) t2) fun σ3 =>
f_X12_valueNow_b117 N x1 x2 σ3
set_option maxHeartbeats 4000000 in
set_option maxRecDepth 100000 in
theorem b_X12_valueNow_b84 {N : Nat} {x1 : Int32} {x2 : Int32} {t1 : Int32} {t2 : Int32} {σ : Sg} {z : Nat × Int32 × Int32 × Sg} (C : Cx p s m args meth c cX12_valueNow 4 (some .int) RX12 wsX12_valueNow g A X) (hf : f_X12_valueNow_b84 N x1 x2 t1 t2 σ = some z) (k0 : z.1 = 0 → Bk mw p l e rm_X12_valueNow s m args below meth c 4 g A Q 4 [(0, .ref (g.2.2 0)), (1, .int z.2.1), (2, .int z.2.2.1)] [] z.2.2.2) (k : ¬ z.1 = 0 → Bk mw p l e rm_X12_valueNow s m args below meth c 4 g A Q 123 [(0, .ref (g.2.2 0))] [] z.2.2.2) : Bk mw p l e rm_X12_valueNow s m args below meth c 4 g A Q 84 [(0, .ref (g.2.2 0)), (1, .int x1), (2, .int x2)] [.int t2, .int t1, .ref (g.2.2 19)] σ := by
  obtain ⟨hx, hb, hr, hml, hown, hts, hK, hlocks, hXX, hA, hXo⟩ := id C
  intro H locs ls hP hD hS hl
  unfold f_X12_valueNow_b84 at hf
  obtain ⟨g2, hf⟩ := gd_s hf
  obtain ⟨σ3, eσ3, hf⟩ := bd_s hf
  refine bk_iast (wf := mw) (σ1 := σ3) (q0 := 19) (n := 64) (j := t1.toNatClampNeg) C hP hD hS rfl g2 rfl (by rw [eσ3]; exact mw_a19 g _ _ _) dX12_valueNow_84 (fun H locs hP hD hS => ?_)
  refine lv_goto (tgt := 117) hx hb dX12_valueNow_85 (by decide) ?_
  exact b_X12_valueNow_b117 C hf k0 k H locs ls hP hD hS (lv_sub hl [0, 1, 2] rfl)
def f_X12_valueNow_b48 (N : Nat) (x1 : Int32) (x2 : Int32) (t1 : Int32) (t2 : Int32) (σ : Sg) : Option (Nat × Int32 × Int32 × Sg) :=
if (t1 < 0 ∨ 64 ≤ t1.toNatClampNeg) then none else
bd (wr σ 19 (t1.toNatClampNeg) t2) fun σ5 =>
bd (x1 + (1 : Int32)) fun v6 =>
f_X12_valueNow_b117 N v6 x2 σ5
set_option maxHeartbeats 4000000 in
set_option maxRecDepth 100000 in
theorem b_X12_valueNow_b48 {N : Nat} {x1 : Int32} {x2 : Int32} {t1 : Int32} {t2 : Int32} {σ : Sg} {z : Nat × Int32 × Int32 × Sg} (C : Cx p s m args meth c cX12_valueNow 4 (some .int) RX12 wsX12_valueNow g A X) (hf : f_X12_valueNow_b48 N x1 x2 t1 t2 σ = some z) (k0 : z.1 = 0 → Bk mw p l e rm_X12_valueNow s m args below meth c 4 g A Q 4 [(0, .ref (g.2.2 0)), (1, .int z.2.1), (2, .int z.2.2.1)] [] z.2.2.2) (k : ¬ z.1 = 0 → Bk mw p l e rm_X12_valueNow s m args below meth c 4 g A Q 123 [(0, .ref (g.2.2 0))] [] z.2.2.2) : Bk mw p l e rm_X12_valueNow s m args below meth c 4 g A Q 48 [(0, .ref (g.2.2 0)), (1, .int x1), (2, .int x2)] [.int t2, .int t1, .ref (g.2.2 19)] σ := by
  obtain ⟨hx, hb, hr, hml, hown, hts, hK, hlocks, hXX, hA, hXo⟩ := id C
  intro H locs ls hP hD hS hl
  unfold f_X12_valueNow_b48 at hf
  obtain ⟨g4, hf⟩ := gd_s hf
  obtain ⟨σ5, eσ5, hf⟩ := bd_s hf
  refine bk_iast (wf := mw) (σ1 := σ5) (q0 := 19) (n := 64) (j := t1.toNatClampNeg) C hP hD hS rfl g4 rfl (by rw [eσ5]; exact mw_a19 g _ _ _) dX12_valueNow_48 (fun H locs hP hD hS => ?_)
  obtain ⟨v6, ev6, hf⟩ := bd_s hf
  refine lv_iinc (v := v6) (lv' := [(1, .int v6), (0, .ref (g.2.2 0)), (2, .int x2)]) hx hb dX12_valueNow_49 hl (k := 1) rfl (by rw [ev6]; rfl) (by decide) rfl (fun ls hl => ?_)
  refine lv_goto (tgt := 117) hx hb dX12_valueNow_52 (by decide) ?_
  exact b_X12_valueNow_b117 C hf k0 k H locs ls hP hD hS (lv_sub hl [1, 0, 2] rfl)
def s_X12_valueNow_h4 (N : Nat) (x1 : Int32) (x2 : Int32) (σ : Sg) : Option (Nat × Int32 × Int32 × Sg) :=
if (σ 3 4) ≤ x2 then (some (1, 0, 0, σ))
else (if (x2 < 0 ∨ 1400 ≤ x2.toNatClampNeg) then none else
bd (σ 10 x2.toNatClampNeg) fun v8 =>
if v8 ≤ (-20 : Int32) then (if v8 = (-28 : Int32) then (if ((x1 - (1 : Int32)) < 0 ∨ 64 ≤ (x1 - (1 : Int32)).toNatClampNeg) then none else
if (σ 19 (x1 - (1 : Int32)).toNatClampNeg) = 0 then (f_X12_valueNow_b84 N x1 x2 (x1 - (1 : Int32)) (1 : Int32) σ)
else (f_X12_valueNow_b84 N x1 x2 (x1 - (1 : Int32)) (0 : Int32) σ))
else (bd (x1 + (-1 : Int32)) fun v9 =>
if ((v9 - (1 : Int32)) < 0 ∨ 64 ≤ (v9 - (1 : Int32)).toNatClampNeg) then none else
if (v9 < 0 ∨ 64 ≤ v9.toNatClampNeg) then none else
(f_X12_reckon N v8 (σ 19 (v9 - (1 : Int32)).toNatClampNeg) (σ 19 v9.toNatClampNeg) σ).bind fun q12 =>
if ((v9 - (1 : Int32)) < 0 ∨ 64 ≤ (v9 - (1 : Int32)).toNatClampNeg) then none else
bd (wr (q12.2) 19 ((v9 - (1 : Int32)).toNatClampNeg) q12.1) fun σ14 =>
f_X12_valueNow_b117 N v9 x2 σ14))
else (if v8 < 0 then (if (((-1 : Int32) - v8) < 0 ∨ 6 ≤ ((-1 : Int32) - v8).toNatClampNeg) then none else
f_X12_valueNow_b48 N x1 x2 x1 (σ 18 ((-1 : Int32) - v8).toNatClampNeg) σ)
else (f_X12_valueNow_b48 N x1 x2 x1 v8 σ)))
set_option maxHeartbeats 4000000 in
set_option maxRecDepth 100000 in
theorem e_X12_valueNow_h4 {N : Nat} {x1 : Int32} {x2 : Int32} {σ : Sg} {z : Nat × Int32 × Int32 × Sg} (C : Cx p s m args meth c cX12_valueNow 4 (some .int) RX12 wsX12_valueNow g A X) (hf : s_X12_valueNow_h4 N x1 x2 σ = some z) (k0 : z.1 = 0 → Bk mw p l e rm_X12_valueNow s m args below meth c 4 g A Q 4 [(0, .ref (g.2.2 0)), (1, .int z.2.1), (2, .int z.2.2.1)] [] z.2.2.2) (k : ¬ z.1 = 0 → Bk mw p l e rm_X12_valueNow s m args below meth c 4 g A Q 123 [(0, .ref (g.2.2 0))] [] z.2.2.2) : Bk mw p l e rm_X12_valueNow s m args below meth c 4 g A Q 4 [(0, .ref (g.2.2 0)), (1, .int x1), (2, .int x2)] [] σ := by
  obtain ⟨hx, hb, hr, hml, hown, hts, hK, hlocks, hXX, hA, hXo⟩ := id C
  intro H locs ls hP hD hS hl
  unfold s_X12_valueNow_h4 at hf
  refine lv_iload_n hx hb dX12_valueNow_4 rfl (lv_at hl 2 rfl) ?_
  refine lv_aload_n hx hb dX12_valueNow_5 rfl (lv_at hl 0 rfl) ?_
  refine bk_get (wf := mw) (q0 := 0) (ci := 11) (k := 3) (v := .ref (g.2.2 3)) C hP hi_X12_valueNow_X12 rfl rfl (by decide) w_X12_valueNow_f34 rfl rfl dX12_valueNow_6 ?_
  refine lv_iconst (v := (4 : Int32)) hx hb dX12_valueNow_9 (by decide) ?_
  refine bk_iald (wf := mw) (q0 := 3) (n := 10) (j := 4) C hP rfl (vin_l (by decide) (by decide)) (by decide) dX12_valueNow_10 ?_
  refine lv_icmp_ge (tgt := 123) hx hb dX12_valueNow_11 (by decide) (fun t11 => ?_) (fun t11 => ?_)
  · have hf := (if_pos t11).symm.trans hf
    cases hf
    exact (k (by decide)) H locs ls hP hD hS (lv_sub hl [0] rfl)
  · have hf := (if_neg t11).symm.trans hf
    refine lv_aload_n hx hb dX12_valueNow_14 rfl (lv_at hl 0 rfl) ?_
    refine bk_get (wf := mw) (q0 := 0) (ci := 11) (k := 10) (v := .ref (g.2.2 10)) C hP hi_X12_valueNow_X12 rfl rfl (by decide) w_X12_valueNow_f56 rfl rfl dX12_valueNow_15 ?_
    refine lv_iload_n hx hb dX12_valueNow_18 rfl (lv_at hl 2 rfl) ?_
    obtain ⟨g7, hf⟩ := gd_s hf
    refine bk_iald (wf := mw) (q0 := 10) (n := 1400) (j := x2.toNatClampNeg) C hP rfl g7 rfl dX12_valueNow_19 ?_
    obtain ⟨v8, ev8, hf⟩ := bd_s hf
    rw [← ev8]
    refine lv_istore_n (lv' := [(3, .int v8), (0, .ref (g.2.2 0)), (1, .int x1), (2, .int x2)]) hx hb dX12_valueNow_20 rfl hl (by decide) rfl (fun ls hl => ?_)
    refine lv_iload_n hx hb dX12_valueNow_21 rfl (lv_at hl 0 rfl) ?_
    refine lv_bipush (v := (-20 : Int32)) hx hb dX12_valueNow_22 (by decide) ?_
    refine lv_icmp_le (tgt := 55) hx hb dX12_valueNow_24 (by decide) (fun t24 => ?_) (fun t24 => ?_)
    · have hf := (if_pos t24).symm.trans hf
      refine lv_iload_n hx hb dX12_valueNow_55 rfl (lv_at hl 0 rfl) ?_
      refine lv_bipush (v := (-28 : Int32)) hx hb dX12_valueNow_56 (by decide) ?_
      refine lv_icmp_ne (tgt := 88) hx hb dX12_valueNow_58 (by decide) (fun t58 => ?_) (fun t58 => ?_)
      · have hf := (if_neg t58).symm.trans hf
        obtain ⟨v9, ev9, hf⟩ := bd_s hf
        refine lv_iinc (v := v9) (lv' := [(1, .int v9), (3, .int v8), (0, .ref (g.2.2 0)), (2, .int x2)]) hx hb dX12_valueNow_88 hl (k := 2) rfl (by rw [ev9]; rfl) (by decide) rfl (fun ls hl => ?_)
        refine lv_aload_n hx hb dX12_valueNow_91 rfl (lv_at hl 2 rfl) ?_
        refine bk_get (wf := mw) (q0 := 0) (ci := 11) (k := 34) (v := .ref (g.2.2 19)) C hP hi_X12_valueNow_X12 rfl rfl (by decide) w_X12_valueNow_f90 rfl rfl dX12_valueNow_92 ?_
        refine lv_iload_n hx hb dX12_valueNow_95 rfl (lv_at hl 0 rfl) ?_
        refine lv_iconst (v := (1 : Int32)) hx hb dX12_valueNow_96 (by decide) ?_
        refine lv_isub hx hb dX12_valueNow_97 ?_
        refine lv_iload_n hx hb dX12_valueNow_98 rfl (lv_at hl 1 rfl) ?_
        refine lv_aload_n hx hb dX12_valueNow_99 rfl (lv_at hl 2 rfl) ?_
        refine bk_get (wf := mw) (q0 := 0) (ci := 11) (k := 34) (v := .ref (g.2.2 19)) C hP hi_X12_valueNow_X12 rfl rfl (by decide) w_X12_valueNow_f90 rfl rfl dX12_valueNow_100 ?_
        refine lv_iload_n hx hb dX12_valueNow_103 rfl (lv_at hl 0 rfl) ?_
        refine lv_iconst (v := (1 : Int32)) hx hb dX12_valueNow_104 (by decide) ?_
        refine lv_isub hx hb dX12_valueNow_105 ?_
        obtain ⟨g10, hf⟩ := gd_s hf
        refine bk_iald (wf := mw) (q0 := 19) (n := 64) (j := (v9 - (1 : Int32)).toNatClampNeg) C hP rfl g10 rfl dX12_valueNow_106 ?_
        refine lv_aload_n hx hb dX12_valueNow_107 rfl (lv_at hl 2 rfl) ?_
        refine bk_get (wf := mw) (q0 := 0) (ci := 11) (k := 34) (v := .ref (g.2.2 19)) C hP hi_X12_valueNow_X12 rfl rfl (by decide) w_X12_valueNow_f90 rfl rfl dX12_valueNow_108 ?_
        refine lv_iload_n hx hb dX12_valueNow_111 rfl (lv_at hl 0 rfl) ?_
        obtain ⟨g11, hf⟩ := gd_s hf
        refine bk_iald (wf := mw) (q0 := 19) (n := 64) (j := v9.toNatClampNeg) C hP rfl g11 rfl dX12_valueNow_112 ?_
        obtain ⟨q12, hq12, hf⟩ := bi_s hf
        refine bk_SI (wf := mw) (rest := [.int (v9 - (1 : Int32)), .ref (g.2.2 19)]) [.int v8, .int (σ 19 (v9 - (1 : Int32)).toNatClampNeg), .int (σ 19 v9.toNatClampNeg)] C hP hD hS hl.1 (c_X12_reckon hXo hq12) (va_cwS 3 hts gX12_valueNow_X12_reckon rfl rfl rfl (by decide +kernel) ⟨Nat.le_of_ble_eq_true rfl, Nat.le_of_ble_eq_true rfl⟩) rfl rfl (Nat.le_of_ble_eq_true rfl) dX12_valueNow_113 (fun H locs hP hD hS => ?_)
        obtain ⟨g13, hf⟩ := gd_s hf
        obtain ⟨σ14, eσ14, hf⟩ := bd_s hf
        refine bk_iast (wf := mw) (σ1 := σ14) (q0 := 19) (n := 64) (j := (v9 - (1 : Int32)).toNatClampNeg) C hP hD hS rfl g13 rfl (by rw [eσ14]; exact mw_a19 g _ _ _) dX12_valueNow_116 (fun H locs hP hD hS => ?_)
        exact b_X12_valueNow_b117 C hf k0 k H locs ls hP hD hS (lv_sub hl [2, 0, 3] rfl)
      · have hf := (if_pos t58).symm.trans hf
        refine lv_aload_n hx hb dX12_valueNow_61 rfl (lv_at hl 1 rfl) ?_
        refine bk_get (wf := mw) (q0 := 0) (ci := 11) (k := 34) (v := .ref (g.2.2 19)) C hP hi_X12_valueNow_X12 rfl rfl (by decide) w_X12_valueNow_f90 rfl rfl dX12_valueNow_62 ?_
        refine lv_iload_n hx hb dX12_valueNow_65 rfl (lv_at hl 2 rfl) ?_
        refine lv_iconst (v := (1 : Int32)) hx hb dX12_valueNow_66 (by decide) ?_
        refine lv_isub hx hb dX12_valueNow_67 ?_
        refine lv_aload_n hx hb dX12_valueNow_68 rfl (lv_at hl 1 rfl) ?_
        refine bk_get (wf := mw) (q0 := 0) (ci := 11) (k := 34) (v := .ref (g.2.2 19)) C hP hi_X12_valueNow_X12 rfl rfl (by decide) w_X12_valueNow_f90 rfl rfl dX12_valueNow_69 ?_
        refine lv_iload_n hx hb dX12_valueNow_72 rfl (lv_at hl 2 rfl) ?_
        refine lv_iconst (v := (1 : Int32)) hx hb dX12_valueNow_73 (by decide) ?_
        refine lv_isub hx hb dX12_valueNow_74 ?_
        obtain ⟨g15, hf⟩ := gd_s hf
        refine bk_iald (wf := mw) (q0 := 19) (n := 64) (j := (x1 - (1 : Int32)).toNatClampNeg) C hP rfl g15 rfl dX12_valueNow_75 ?_
        refine lv_if_eq (tgt := 83) hx hb dX12_valueNow_76 (by decide) (fun t76 => ?_) (fun t76 => ?_)
        · have hf := (if_pos t76).symm.trans hf
          refine lv_iconst (v := (1 : Int32)) hx hb dX12_valueNow_83 (by decide) ?_
          exact b_X12_valueNow_b84 C hf k0 k H locs ls hP hD hS (lv_sub hl [1, 2, 3] rfl)
        · have hf := (if_neg t76).symm.trans hf
          refine lv_iconst (v := (0 : Int32)) hx hb dX12_valueNow_79 (by decide) ?_
          refine lv_goto (tgt := 84) hx hb dX12_valueNow_80 (by decide) ?_
          exact b_X12_valueNow_b84 C hf k0 k H locs ls hP hD hS (lv_sub hl [1, 2, 3] rfl)
    · have hf := (if_neg t24).symm.trans hf
      refine lv_aload_n hx hb dX12_valueNow_27 rfl (lv_at hl 1 rfl) ?_
      refine bk_get (wf := mw) (q0 := 0) (ci := 11) (k := 34) (v := .ref (g.2.2 19)) C hP hi_X12_valueNow_X12 rfl rfl (by decide) w_X12_valueNow_f90 rfl rfl dX12_valueNow_28 ?_
      refine lv_iload_n hx hb dX12_valueNow_31 rfl (lv_at hl 2 rfl) ?_
      refine lv_iload_n hx hb dX12_valueNow_32 rfl (lv_at hl 0 rfl) ?_
      refine lv_if_lt (tgt := 40) hx hb dX12_valueNow_33 (by decide) (fun t33 => ?_) (fun t33 => ?_)
      · have hf := (if_pos t33).symm.trans hf
        refine lv_aload_n hx hb dX12_valueNow_40 rfl (lv_at hl 1 rfl) ?_
        refine bk_get (wf := mw) (q0 := 0) (ci := 11) (k := 33) (v := .ref (g.2.2 18)) C hP hi_X12_valueNow_X12 rfl rfl (by decide) w_X12_valueNow_f87 rfl rfl dX12_valueNow_41 ?_
        refine lv_iconst (v := (-1 : Int32)) hx hb dX12_valueNow_44 (by decide) ?_
        refine lv_iload_n hx hb dX12_valueNow_45 rfl (lv_at hl 0 rfl) ?_
        refine lv_isub hx hb dX12_valueNow_46 ?_
        obtain ⟨g16, hf⟩ := gd_s hf
        refine bk_iald (wf := mw) (q0 := 18) (n := 6) (j := ((-1 : Int32) - v8).toNatClampNeg) C hP rfl g16 rfl dX12_valueNow_47 ?_
        exact b_X12_valueNow_b48 C hf k0 k H locs ls hP hD hS (lv_sub hl [1, 2, 3] rfl)
      · have hf := (if_neg t33).symm.trans hf
        refine lv_iload_n hx hb dX12_valueNow_36 rfl (lv_at hl 0 rfl) ?_
        refine lv_goto (tgt := 48) hx hb dX12_valueNow_37 (by decide) ?_
        exact b_X12_valueNow_b48 C hf k0 k H locs ls hP hD hS (lv_sub hl [1, 2, 3] rfl)
theorem lp_X12_valueNow_h4 {N n : Nat} {x1 : Int32} {x2 : Int32} {σ : Sg} {z : Nat × Int32 × Int32 × Sg} (C : Cx p s m args meth c cX12_valueNow 4 (some .int) RX12 wsX12_valueNow g A X) (hz : it (fun q => s_X12_valueNow_h4 N q.1 q.2.1 q.2.2) n (x1, x2, σ) = some z) (k : Bk mw p l e rm_X12_valueNow s m args below meth c 4 g A Q 123 [(0, .ref (g.2.2 0))] [] z.2.2.2) : Bk mw p l e rm_X12_valueNow s m args below meth c 4 g A Q 4 [(0, .ref (g.2.2 0)), (1, .int x1), (2, .int x2)] [] σ :=
  it_W (S := Int32 × Int32 × Sg) (fun q => Bk mw p l e rm_X12_valueNow s m args below meth c 4 g A Q 4 [(0, .ref (g.2.2 0)), (1, .int q.1), (2, .int q.2.1)] [] q.2.2) (fun z => Bk mw p l e rm_X12_valueNow s m args below meth c 4 g A Q 123 [(0, .ref (g.2.2 0))] [] z.2.2.2) (fun q z hq k0 k => e_X12_valueNow_h4 C hq k0 k) n (x1, x2, σ) z hz k
def f_X12_valueNow (N : Nat) (σ : Sg) : Option (Int32 × Sg) :=
(it (fun q => s_X12_valueNow_h4 N q.1 q.2.1 q.2.2) N ((0 : Int32), (0 : Int32), σ)).bind fun z17 =>
some (((z17.2.2.2) 19 0), (z17.2.2.2))
set_option maxHeartbeats 4000000 in
set_option maxRecDepth 100000 in
theorem b_X12_valueNow {N : Nat} {σ : Sg} {z : Int32 × Sg} (C : Cx p s m args meth c cX12_valueNow 4 (some .int) RX12 wsX12_valueNow g A X) (hf : f_X12_valueNow N σ = some z) : Bk mw p l e rm_X12_valueNow s m args below meth c 4 g A (MQ below (qI mw g A z.1 z.2) args s 0 0 A) 0 [(0, .ref (g.2.2 0))] [] σ := by
  obtain ⟨hx, hb, hr, hml, hown, hts, hK, hlocks, hXX, hA, hXo⟩ := id C
  intro H locs ls hP hD hS hl
  unfold f_X12_valueNow at hf
  refine lv_iconst (v := (0 : Int32)) hx hb dX12_valueNow_0 (by decide) ?_
  refine lv_istore_n (lv' := [(1, .int (0 : Int32)), (0, .ref (g.2.2 0))]) hx hb dX12_valueNow_1 rfl hl (by decide) rfl (fun ls hl => ?_)
  refine lv_iconst (v := (0 : Int32)) hx hb dX12_valueNow_2 (by decide) ?_
  refine lv_istore_n (lv' := [(2, .int (0 : Int32)), (1, .int (0 : Int32)), (0, .ref (g.2.2 0))]) hx hb dX12_valueNow_3 rfl hl (by decide) rfl (fun ls hl => ?_)
  obtain ⟨z17, hz17, hf⟩ := bi_s hf
  refine lp_X12_valueNow_h4 C hz17 ?_ H locs ls hP hD hS (lv_sub hl [2, 1, 0] rfl)
  intro H locs ls hP hD hS hl
  refine lv_aload_n hx hb dX12_valueNow_123 rfl (lv_at hl 0 rfl) ?_
  refine bk_get (wf := mw) (q0 := 0) (ci := 11) (k := 34) (v := .ref (g.2.2 19)) C hP hi_X12_valueNow_X12 rfl rfl (by decide) w_X12_valueNow_f90 rfl rfl dX12_valueNow_124 ?_
  refine lv_iconst (v := (0 : Int32)) hx hb dX12_valueNow_127 (by decide) ?_
  refine bk_iald (wf := mw) (q0 := 19) (n := 64) (j := 0) C hP rfl (vin_l (by decide) (by decide)) (by decide) dX12_valueNow_128 ?_
  cases hf
  exact bk_iret C hP hD hS rfl dX12_valueNow_129
theorem c_X12_valueNow {N : Nat} {σ : Sg} {z : Int32 × Sg} (hX : xOK X) (hf : f_X12_valueNow N σ = some z) : MetI l yX12_valueNow wsX12_valueNow rm_X12_valueNow mw g X [.ref (g.2.2 0)] σ z.1 z.2 :=
  MetI_of hX (by decide) rfl (Nat.le_of_ble_eq_true rfl) (fun p e s m args below meth c A C => b_X12_valueNow C hf)
/-! ----- X12_minds (minds(II)Z) ----- -/
abbrev rm_X12_minds : Room := { frames := 2, cells := 0, slots := 0, locals := 45 }
theorem w_X12_minds_cabs : Cond.code Lib.Math.abs.name Lib.Math.abs.code 1 (some .int) ∈ wsX12_minds := by decide +kernel
theorem w_X12_minds_f287 : Cond.fieldLink RX12 287 "NodPostModel" "tickNow" "I" ∈ wsX12_minds := by decide +kernel
theorem w_X12_minds_f34 : Cond.fieldLink RX12 34 "NodPostModel" "told" "[I" ∈ wsX12_minds := by decide +kernel
theorem w_X12_minds_f38 : Cond.fieldLink RX12 38 "NodPostModel" "deaf" "[I" ∈ wsX12_minds := by decide +kernel
theorem w_X12_minds_f41 : Cond.fieldLink RX12 41 "NodPostModel" "xOf" "[I" ∈ wsX12_minds := by decide +kernel
theorem w_X12_minds_f44 : Cond.fieldLink RX12 44 "NodPostModel" "height" "[I" ∈ wsX12_minds := by decide +kernel
theorem w_X12_minds_f75 : Cond.fieldLink RX12 75 "NodPostModel" "nodded" "[I" ∈ wsX12_minds := by decide +kernel
theorem w_X12_minds_f87 : Cond.fieldLink RX12 87 "NodPostModel" "asked" "[I" ∈ wsX12_minds := by decide +kernel
theorem w_X12_minds_iM : Cond.initialized "java/lang/Math" ∈ wsX12_minds := by decide +kernel
theorem w_X12_minds_m315 : Cond.methodLink RX12 315 Lib.Math.abs.name ∈ wsX12_minds := by decide +kernel
theorem w_X12_minds_sabs : Cond.static Lib.Math.abs.name ∈ wsX12_minds := by decide +kernel
theorem hi_X12_minds_X12 : ∀ w ∈ u_ws RX12 TX12 57, w ∈ wsX12_minds := by decide +kernel
def f_X12_minds_b90 (N : Nat) (x1 : Int32) (x2 : Int32) (x3 : Int32) (x4 : Int32) (σ : Sg) : Option (Nat × Int32 × Int32 × Sg) :=
bd (x4 + (1 : Int32)) fun v1 =>
some (0, x3, v1, σ)
set_option maxHeartbeats 4000000 in
set_option maxRecDepth 100000 in
theorem b_X12_minds_b90 {N : Nat} {x1 : Int32} {x2 : Int32} {x3 : Int32} {x4 : Int32} {σ : Sg} {z : Nat × Int32 × Int32 × Sg} (C : Cx p s m args meth c cX12_minds 5 (some .boolean) RX12 wsX12_minds g A X) (hf : f_X12_minds_b90 N x1 x2 x3 x4 σ = some z) (k0 : z.1 = 0 → Bk mw p l e rm_X12_minds s m args below meth c 5 g A Q 26 [(0, .ref (g.2.2 0)), (1, .int x1), (2, .int x2), (3, .int z.2.1), (4, .int z.2.2.1)] [] z.2.2.2) (k : ¬ z.1 = 0 → Bk mw p l e rm_X12_minds s m args below meth c 5 g A Q 96 [(0, .ref (g.2.2 0)), (1, .int x1), (2, .int x2), (3, .int z.2.1)] [] z.2.2.2) : Bk mw p l e rm_X12_minds s m args below meth c 5 g A Q 90 [(0, .ref (g.2.2 0)), (1, .int x1), (2, .int x2), (3, .int x3), (4, .int x4)] [] σ := by
  obtain ⟨hx, hb, hr, hml, hown, hts, hK, hlocks, hXX, hA, hXo⟩ := id C
  intro H locs ls hP hD hS hl
  unfold f_X12_minds_b90 at hf
  obtain ⟨v1, ev1, hf⟩ := bd_s hf
  refine lv_iinc (v := v1) (lv' := [(4, .int v1), (0, .ref (g.2.2 0)), (1, .int x1), (2, .int x2), (3, .int x3)]) hx hb dX12_minds_90 hl (k := 4) rfl (by rw [ev1]; rfl) (by decide) rfl (fun ls hl => ?_)
  refine lv_goto (tgt := 26) hx hb dX12_minds_93 (by decide) ?_
  cases hf
  exact k0 rfl H locs ls hP hD hS (lv_sub hl [1, 2, 3, 4, 0] rfl)
def f_X12_minds_b87 (N : Nat) (x1 : Int32) (x2 : Int32) (x4 : Int32) (σ : Sg) : Option (Nat × Int32 × Int32 × Sg) :=
f_X12_minds_b90 N x1 x2 x4 x4 σ
set_option maxHeartbeats 4000000 in
set_option maxRecDepth 100000 in
theorem b_X12_minds_b87 {N : Nat} {x1 : Int32} {x2 : Int32} {x4 : Int32} {σ : Sg} {z : Nat × Int32 × Int32 × Sg} (C : Cx p s m args meth c cX12_minds 5 (some .boolean) RX12 wsX12_minds g A X) (hf : f_X12_minds_b87 N x1 x2 x4 σ = some z) (k0 : z.1 = 0 → Bk mw p l e rm_X12_minds s m args below meth c 5 g A Q 26 [(0, .ref (g.2.2 0)), (1, .int x1), (2, .int x2), (3, .int z.2.1), (4, .int z.2.2.1)] [] z.2.2.2) (k : ¬ z.1 = 0 → Bk mw p l e rm_X12_minds s m args below meth c 5 g A Q 96 [(0, .ref (g.2.2 0)), (1, .int x1), (2, .int x2), (3, .int z.2.1)] [] z.2.2.2) : Bk mw p l e rm_X12_minds s m args below meth c 5 g A Q 87 [(0, .ref (g.2.2 0)), (1, .int x1), (2, .int x2), (4, .int x4)] [] σ := by
  obtain ⟨hx, hb, hr, hml, hown, hts, hK, hlocks, hXX, hA, hXo⟩ := id C
  intro H locs ls hP hD hS hl
  unfold f_X12_minds_b87 at hf
  refine lv_iload hx hb dX12_minds_87 (lv_at hl 3 rfl) ?_
  refine lv_istore_n (lv' := [(3, .int x4), (0, .ref (g.2.2 0)), (1, .int x1), (2, .int x2), (4, .int x4)]) hx hb dX12_minds_89 rfl hl (by decide) rfl (fun ls hl => ?_)
  exact b_X12_minds_b90 C hf k0 k H locs ls hP hD hS (lv_sub hl [1, 2, 3, 0, 4] rfl)
def s_X12_minds_h26 (N : Nat) (x1 : Int32) (x2 : Int32) (x3 : Int32) (x4 : Int32) (σ : Sg) : Option (Nat × Int32 × Int32 × Sg) :=
if (σ 3 0) ≤ x4 then (some (1, x3, 0, σ))
else ((f_X12_isOf N x2 x4 σ).bind fun q2 =>
if q2.1 = 0 then (f_X12_minds_b90 N x1 x2 x3 x4 (q2.2))
else (if x3 = (-1 : Int32) then (f_X12_minds_b87 N x1 x2 x4 (q2.2))
else (if (x4 < 0 ∨ 18 ≤ x4.toNatClampNeg) then none else
if (x1 < 0 ∨ 18 ≤ x1.toNatClampNeg) then none else
if (x3 < 0 ∨ 18 ≤ x3.toNatClampNeg) then none else
if (x1 < 0 ∨ 18 ≤ x1.toNatClampNeg) then none else
if (if 0 ≤ (((q2.2) 5 x3.toNatClampNeg) - ((q2.2) 5 x1.toNatClampNeg)) then (((q2.2) 5 x3.toNatClampNeg) - ((q2.2) 5 x1.toNatClampNeg)) else 0 - (((q2.2) 5 x3.toNatClampNeg) - ((q2.2) 5 x1.toNatClampNeg))) ≤ (if 0 ≤ (((q2.2) 5 x4.toNatClampNeg) - ((q2.2) 5 x1.toNatClampNeg)) then (((q2.2) 5 x4.toNatClampNeg) - ((q2.2) 5 x1.toNatClampNeg)) else 0 - (((q2.2) 5 x4.toNatClampNeg) - ((q2.2) 5 x1.toNatClampNeg))) then (f_X12_minds_b90 N x1 x2 x3 x4 (q2.2))
else (f_X12_minds_b87 N x1 x2 x4 (q2.2)))))
set_option maxHeartbeats 4000000 in
set_option maxRecDepth 100000 in
theorem e_X12_minds_h26 {N : Nat} {x1 : Int32} {x2 : Int32} {x3 : Int32} {x4 : Int32} {σ : Sg} {z : Nat × Int32 × Int32 × Sg} (C : Cx p s m args meth c cX12_minds 5 (some .boolean) RX12 wsX12_minds g A X) (hf : s_X12_minds_h26 N x1 x2 x3 x4 σ = some z) (k0 : z.1 = 0 → Bk mw p l e rm_X12_minds s m args below meth c 5 g A Q 26 [(0, .ref (g.2.2 0)), (1, .int x1), (2, .int x2), (3, .int z.2.1), (4, .int z.2.2.1)] [] z.2.2.2) (k : ¬ z.1 = 0 → Bk mw p l e rm_X12_minds s m args below meth c 5 g A Q 96 [(0, .ref (g.2.2 0)), (1, .int x1), (2, .int x2), (3, .int z.2.1)] [] z.2.2.2) : Bk mw p l e rm_X12_minds s m args below meth c 5 g A Q 26 [(0, .ref (g.2.2 0)), (1, .int x1), (2, .int x2), (3, .int x3), (4, .int x4)] [] σ := by
  obtain ⟨hx, hb, hr, hml, hown, hts, hK, hlocks, hXX, hA, hXo⟩ := id C
  intro H locs ls hP hD hS hl
  unfold s_X12_minds_h26 at hf
  refine lv_iload hx hb dX12_minds_26 (lv_at hl 4 rfl) ?_
  refine lv_aload_n hx hb dX12_minds_28 rfl (lv_at hl 0 rfl) ?_
  refine bk_get (wf := mw) (q0 := 0) (ci := 11) (k := 3) (v := .ref (g.2.2 3)) C hP hi_X12_minds_X12 rfl rfl (by decide) w_X12_minds_f34 rfl rfl dX12_minds_29 ?_
  refine lv_iconst (v := (0 : Int32)) hx hb dX12_minds_32 (by decide) ?_
  refine bk_iald (wf := mw) (q0 := 3) (n := 10) (j := 0) C hP rfl (vin_l (by decide) (by decide)) (by decide) dX12_minds_33 ?_
  refine lv_icmp_ge (tgt := 96) hx hb dX12_minds_34 (by decide) (fun t34 => ?_) (fun t34 => ?_)
  · have hf := (if_pos t34).symm.trans hf
    cases hf
    exact (k (by decide)) H locs ls hP hD hS (lv_sub hl [0, 1, 2, 3] rfl)
  · have hf := (if_neg t34).symm.trans hf
    refine lv_iload_n hx hb dX12_minds_37 rfl (lv_at hl 2 rfl) ?_
    refine lv_iload hx hb dX12_minds_38 (lv_at hl 4 rfl) ?_
    obtain ⟨q2, hq2, hf⟩ := bi_s hf
    refine bk_SI (wf := mw) (rest := []) [.int x2, .int x4] C hP hD hS hl.1 (c_X12_isOf hXo hq2) (va_cwS 2 hts gX12_minds_X12_isOf rfl rfl rfl (by decide +kernel) ⟨Nat.le_of_ble_eq_true rfl, Nat.le_of_ble_eq_true rfl⟩) rfl rfl (Nat.le_of_ble_eq_true rfl) dX12_minds_40 (fun H locs hP hD hS => ?_)
    refine lv_if_eq (tgt := 90) hx hb dX12_minds_43 (by decide) (fun t43 => ?_) (fun t43 => ?_)
    · have hf := (if_pos t43).symm.trans hf
      exact b_X12_minds_b90 C hf k0 k H locs ls hP hD hS (lv_sub hl [0, 1, 2, 3, 4] rfl)
    · have hf := (if_neg t43).symm.trans hf
      refine lv_iload_n hx hb dX12_minds_46 rfl (lv_at hl 3 rfl) ?_
      refine lv_iconst (v := (-1 : Int32)) hx hb dX12_minds_47 (by decide) ?_
      refine lv_icmp_eq (tgt := 87) hx hb dX12_minds_48 (by decide) (fun t48 => ?_) (fun t48 => ?_)
      · have hf := (if_pos t48).symm.trans hf
        exact b_X12_minds_b87 C hf k0 k H locs ls hP hD hS (lv_sub hl [0, 1, 2, 4] rfl)
      · have hf := (if_neg t48).symm.trans hf
        refine lv_aload_n hx hb dX12_minds_51 rfl (lv_at hl 0 rfl) ?_
        refine bk_get (wf := mw) (q0 := 0) (ci := 11) (k := 5) (v := .ref (g.2.2 5)) C hP hi_X12_minds_X12 rfl rfl (by decide) w_X12_minds_f41 rfl rfl dX12_minds_52 ?_
        refine lv_iload hx hb dX12_minds_55 (lv_at hl 4 rfl) ?_
        obtain ⟨g3, hf⟩ := gd_s hf
        refine bk_iald (wf := mw) (q0 := 5) (n := 18) (j := x4.toNatClampNeg) C hP rfl g3 rfl dX12_minds_57 ?_
        refine lv_aload_n hx hb dX12_minds_58 rfl (lv_at hl 0 rfl) ?_
        refine bk_get (wf := mw) (q0 := 0) (ci := 11) (k := 5) (v := .ref (g.2.2 5)) C hP hi_X12_minds_X12 rfl rfl (by decide) w_X12_minds_f41 rfl rfl dX12_minds_59 ?_
        refine lv_iload_n hx hb dX12_minds_62 rfl (lv_at hl 1 rfl) ?_
        obtain ⟨g4, hf⟩ := gd_s hf
        refine bk_iald (wf := mw) (q0 := 5) (n := 18) (j := x1.toNatClampNeg) C hP rfl g4 rfl dX12_minds_63 ?_
        refine lv_isub hx hb dX12_minds_64 ?_
        refine va_mabs hx hb (hml.trans hl.1.symm) hown (hts _ w_X12_minds_m315) (hts _ w_X12_minds_sabs) (hts _ w_X12_minds_iM) (hts _ w_X12_minds_cabs) (Nat.le_of_ble_eq_true rfl) (Nat.le_of_ble_eq_true rfl) (Nat.zero_le _) (Nat.zero_le _) dX12_minds_65 ?_
        refine lv_aload_n hx hb dX12_minds_68 rfl (lv_at hl 0 rfl) ?_
        refine bk_get (wf := mw) (q0 := 0) (ci := 11) (k := 5) (v := .ref (g.2.2 5)) C hP hi_X12_minds_X12 rfl rfl (by decide) w_X12_minds_f41 rfl rfl dX12_minds_69 ?_
        refine lv_iload_n hx hb dX12_minds_72 rfl (lv_at hl 3 rfl) ?_
        obtain ⟨g5, hf⟩ := gd_s hf
        refine bk_iald (wf := mw) (q0 := 5) (n := 18) (j := x3.toNatClampNeg) C hP rfl g5 rfl dX12_minds_73 ?_
        refine lv_aload_n hx hb dX12_minds_74 rfl (lv_at hl 0 rfl) ?_
        refine bk_get (wf := mw) (q0 := 0) (ci := 11) (k := 5) (v := .ref (g.2.2 5)) C hP hi_X12_minds_X12 rfl rfl (by decide) w_X12_minds_f41 rfl rfl dX12_minds_75 ?_
        refine lv_iload_n hx hb dX12_minds_78 rfl (lv_at hl 1 rfl) ?_
        obtain ⟨g6, hf⟩ := gd_s hf
        refine bk_iald (wf := mw) (q0 := 5) (n := 18) (j := x1.toNatClampNeg) C hP rfl g6 rfl dX12_minds_79 ?_
        refine lv_isub hx hb dX12_minds_80 ?_
        refine va_mabs hx hb (hml.trans hl.1.symm) hown (hts _ w_X12_minds_m315) (hts _ w_X12_minds_sabs) (hts _ w_X12_minds_iM) (hts _ w_X12_minds_cabs) (Nat.le_of_ble_eq_true rfl) (Nat.le_of_ble_eq_true rfl) (Nat.zero_le _) (Nat.zero_le _) dX12_minds_81 ?_
        refine lv_icmp_ge (tgt := 90) hx hb dX12_minds_84 (by decide) (fun t84 => ?_) (fun t84 => ?_)
        · have hf := (if_pos t84).symm.trans hf
          exact b_X12_minds_b90 C hf k0 k H locs ls hP hD hS (lv_sub hl [0, 1, 2, 3, 4] rfl)
        · have hf := (if_neg t84).symm.trans hf
          exact b_X12_minds_b87 C hf k0 k H locs ls hP hD hS (lv_sub hl [0, 1, 2, 4] rfl)
theorem lp_X12_minds_h26 {N n : Nat} {x1 : Int32} {x2 : Int32} {x3 : Int32} {x4 : Int32} {σ : Sg} {z : Nat × Int32 × Int32 × Sg} (C : Cx p s m args meth c cX12_minds 5 (some .boolean) RX12 wsX12_minds g A X) (hz : it (fun q => s_X12_minds_h26 N x1 x2 q.1 q.2.1 q.2.2) n (x3, x4, σ) = some z) (k : Bk mw p l e rm_X12_minds s m args below meth c 5 g A Q 96 [(0, .ref (g.2.2 0)), (1, .int x1), (2, .int x2), (3, .int z.2.1)] [] z.2.2.2) : Bk mw p l e rm_X12_minds s m args below meth c 5 g A Q 26 [(0, .ref (g.2.2 0)), (1, .int x1), (2, .int x2), (3, .int x3), (4, .int x4)] [] σ :=
  it_W (S := Int32 × Int32 × Sg) (fun q => Bk mw p l e rm_X12_minds s m args below meth c 5 g A Q 26 [(0, .ref (g.2.2 0)), (1, .int x1), (2, .int x2), (3, .int q.1), (4, .int q.2.1)] [] q.2.2) (fun z => Bk mw p l e rm_X12_minds s m args below meth c 5 g A Q 96 [(0, .ref (g.2.2 0)), (1, .int x1), (2, .int x2), (3, .int z.2.1)] [] z.2.2.2) (fun q z hq k0 k => e_X12_minds_h26 C hq k0 k) n (x3, x4, σ) z hz k
def f_X12_minds_b19 (N : Nat) (σ : Sg) : Option (Int32 × Sg) :=
some ((1 : Int32), σ)
set_option maxHeartbeats 4000000 in
set_option maxRecDepth 100000 in
theorem b_X12_minds_b19 {N : Nat} {σ : Sg} {z : Int32 × Sg} (C : Cx p s m args meth c cX12_minds 5 (some .boolean) RX12 wsX12_minds g A X) (hf : f_X12_minds_b19 N σ = some z) : Bk mw p l e rm_X12_minds s m args below meth c 5 g A (MQ below (qI mw g A z.1 z.2) args s 0 0 A) 19 [] [] σ := by
  obtain ⟨hx, hb, hr, hml, hown, hts, hK, hlocks, hXX, hA, hXo⟩ := id C
  intro H locs ls hP hD hS hl
  unfold f_X12_minds_b19 at hf
  refine lv_iconst (v := (1 : Int32)) hx hb dX12_minds_19 (by decide) ?_
  cases hf
  exact bk_zret C hP hD hS (by decide) rfl dX12_minds_20
def f_X12_minds (N : Nat) (x1 : Int32) (x2 : Int32) (σ : Sg) : Option (Int32 × Sg) :=
if (σ 3 4) = 0 then (f_X12_minds_b19 N σ)
else (if (x1 < 0 ∨ 18 ≤ x1.toNatClampNeg) then none else
if (σ 4 x1.toNatClampNeg) = (1 : Int32) then (f_X12_minds_b19 N σ)
else ((it (fun q => s_X12_minds_h26 N x1 x2 q.1 q.2.1 q.2.2) N ((-1 : Int32), (0 : Int32), σ)).bind fun z8 =>
(f_X12_bitsOf N x2 (z8.2.2.2)).bind fun q9 =>
bd (wr (q9.2) 18 0 q9.1) fun σ10 =>
if ((z8.2.1) < 0 ∨ 18 ≤ (z8.2.1).toNatClampNeg) then none else
if (x1 < 0 ∨ 18 ≤ x1.toNatClampNeg) then none else
bd (wr σ10 18 1 (if 0 ≤ ((σ10 5 (z8.2.1).toNatClampNeg) - (σ10 5 x1.toNatClampNeg)) then ((σ10 5 (z8.2.1).toNatClampNeg) - (σ10 5 x1.toNatClampNeg)) else 0 - ((σ10 5 (z8.2.1).toNatClampNeg) - (σ10 5 x1.toNatClampNeg)))) fun σ13 =>
if ((z8.2.1) < 0 ∨ 18 ≤ (z8.2.1).toNatClampNeg) then none else
if (x1 < 0 ∨ 18 ≤ x1.toNatClampNeg) then none else
bd (wr σ13 18 2 ((σ13 6 (z8.2.1).toNatClampNeg) - (σ13 6 x1.toNatClampNeg))) fun σ16 =>
if (x1 < 0 ∨ 9 ≤ x1.toNatClampNeg) then none else
bd (wr σ16 18 3 (σ16 15 x1.toNatClampNeg)) fun σ18 =>
(f_X12_mistOf N σ18).bind fun q19 =>
bd (wr (q19.2) 18 4 q19.1) fun σ20 =>
bd (wr σ20 18 5 (σ20 0 28)) fun σ21 =>
(f_X12_valueNow N σ21).bind fun q22 =>
if q22.1 ≤ 0 then (some ((0 : Int32), (q22.2)))
else (some ((1 : Int32), (q22.2)))))
set_option maxHeartbeats 4000000 in
set_option maxRecDepth 100000 in
theorem b_X12_minds {N : Nat} {x1 : Int32} {x2 : Int32} {σ : Sg} {z : Int32 × Sg} (C : Cx p s m args meth c cX12_minds 5 (some .boolean) RX12 wsX12_minds g A X) (hf : f_X12_minds N x1 x2 σ = some z) : Bk mw p l e rm_X12_minds s m args below meth c 5 g A (MQ below (qI mw g A z.1 z.2) args s 0 0 A) 0 [(0, .ref (g.2.2 0)), (1, .int x1), (2, .int x2)] [] σ := by
  obtain ⟨hx, hb, hr, hml, hown, hts, hK, hlocks, hXX, hA, hXo⟩ := id C
  intro H locs ls hP hD hS hl
  unfold f_X12_minds at hf
  refine lv_aload_n hx hb dX12_minds_0 rfl (lv_at hl 0 rfl) ?_
  refine bk_get (wf := mw) (q0 := 0) (ci := 11) (k := 3) (v := .ref (g.2.2 3)) C hP hi_X12_minds_X12 rfl rfl (by decide) w_X12_minds_f34 rfl rfl dX12_minds_1 ?_
  refine lv_iconst (v := (4 : Int32)) hx hb dX12_minds_4 (by decide) ?_
  refine bk_iald (wf := mw) (q0 := 3) (n := 10) (j := 4) C hP rfl (vin_l (by decide) (by decide)) (by decide) dX12_minds_5 ?_
  refine lv_if_eq (tgt := 19) hx hb dX12_minds_6 (by decide) (fun t6 => ?_) (fun t6 => ?_)
  · have hf := (if_pos t6).symm.trans hf
    exact b_X12_minds_b19 C hf H locs ls hP hD hS (lv_sub hl [] rfl)
  · have hf := (if_neg t6).symm.trans hf
    refine lv_aload_n hx hb dX12_minds_9 rfl (lv_at hl 0 rfl) ?_
    refine bk_get (wf := mw) (q0 := 0) (ci := 11) (k := 4) (v := .ref (g.2.2 4)) C hP hi_X12_minds_X12 rfl rfl (by decide) w_X12_minds_f38 rfl rfl dX12_minds_10 ?_
    refine lv_iload_n hx hb dX12_minds_13 rfl (lv_at hl 1 rfl) ?_
    obtain ⟨g7, hf⟩ := gd_s hf
    refine bk_iald (wf := mw) (q0 := 4) (n := 18) (j := x1.toNatClampNeg) C hP rfl g7 rfl dX12_minds_14 ?_
    refine lv_iconst (v := (1 : Int32)) hx hb dX12_minds_15 (by decide) ?_
    refine lv_icmp_ne (tgt := 21) hx hb dX12_minds_16 (by decide) (fun t16 => ?_) (fun t16 => ?_)
    · have hf := (if_neg t16).symm.trans hf
      refine lv_iconst (v := (-1 : Int32)) hx hb dX12_minds_21 (by decide) ?_
      refine lv_istore_n (lv' := [(3, .int (-1 : Int32)), (0, .ref (g.2.2 0)), (1, .int x1), (2, .int x2)]) hx hb dX12_minds_22 rfl hl (by decide) rfl (fun ls hl => ?_)
      refine lv_iconst (v := (0 : Int32)) hx hb dX12_minds_23 (by decide) ?_
      refine lv_istore (lv' := [(4, .int (0 : Int32)), (3, .int (-1 : Int32)), (0, .ref (g.2.2 0)), (1, .int x1), (2, .int x2)]) hx hb dX12_minds_24 hl (by decide) rfl (fun ls hl => ?_)
      obtain ⟨z8, hz8, hf⟩ := bi_s hf
      refine lp_X12_minds_h26 C hz8 ?_ H locs ls hP hD hS (lv_sub hl [2, 3, 4, 1, 0] rfl)
      intro H locs ls hP hD hS hl
      refine lv_aload_n hx hb dX12_minds_96 rfl (lv_at hl 0 rfl) ?_
      refine bk_get (wf := mw) (q0 := 0) (ci := 11) (k := 33) (v := .ref (g.2.2 18)) C hP hi_X12_minds_X12 rfl rfl (by decide) w_X12_minds_f87 rfl rfl dX12_minds_97 ?_
      refine lv_iconst (v := (0 : Int32)) hx hb dX12_minds_100 (by decide) ?_
      refine lv_iload_n hx hb dX12_minds_101 rfl (lv_at hl 2 rfl) ?_
      obtain ⟨q9, hq9, hf⟩ := bi_s hf
      refine bk_SI (wf := mw) (rest := [.int (0 : Int32), .ref (g.2.2 18)]) [.int x2] C hP hD hS hl.1 (c_X12_bitsOf hXo hq9) (va_cwS 1 hts gX12_minds_X12_bitsOf rfl rfl rfl (by decide +kernel) ⟨Nat.le_of_ble_eq_true rfl, Nat.le_of_ble_eq_true rfl⟩) rfl rfl (Nat.le_of_ble_eq_true rfl) dX12_minds_102 (fun H locs hP hD hS => ?_)
      obtain ⟨σ10, eσ10, hf⟩ := bd_s hf
      refine bk_iast (wf := mw) (σ1 := σ10) (q0 := 18) (n := 6) (j := 0) C hP hD hS rfl (vin_l (by decide) (by decide)) (by decide) (by rw [eσ10]; exact mw_a18 g _ _ _) dX12_minds_105 (fun H locs hP hD hS => ?_)
      refine lv_aload_n hx hb dX12_minds_106 rfl (lv_at hl 0 rfl) ?_
      refine bk_get (wf := mw) (q0 := 0) (ci := 11) (k := 33) (v := .ref (g.2.2 18)) C hP hi_X12_minds_X12 rfl rfl (by decide) w_X12_minds_f87 rfl rfl dX12_minds_107 ?_
      refine lv_iconst (v := (1 : Int32)) hx hb dX12_minds_110 (by decide) ?_
      refine lv_aload_n hx hb dX12_minds_111 rfl (lv_at hl 0 rfl) ?_
      refine bk_get (wf := mw) (q0 := 0) (ci := 11) (k := 5) (v := .ref (g.2.2 5)) C hP hi_X12_minds_X12 rfl rfl (by decide) w_X12_minds_f41 rfl rfl dX12_minds_112 ?_
      refine lv_iload_n hx hb dX12_minds_115 rfl (lv_at hl 3 rfl) ?_
      obtain ⟨g11, hf⟩ := gd_s hf
      refine bk_iald (wf := mw) (q0 := 5) (n := 18) (j := (z8.2.1).toNatClampNeg) C hP rfl g11 rfl dX12_minds_116 ?_
      refine lv_aload_n hx hb dX12_minds_117 rfl (lv_at hl 0 rfl) ?_
      refine bk_get (wf := mw) (q0 := 0) (ci := 11) (k := 5) (v := .ref (g.2.2 5)) C hP hi_X12_minds_X12 rfl rfl (by decide) w_X12_minds_f41 rfl rfl dX12_minds_118 ?_
      refine lv_iload_n hx hb dX12_minds_121 rfl (lv_at hl 1 rfl) ?_
      obtain ⟨g12, hf⟩ := gd_s hf
      refine bk_iald (wf := mw) (q0 := 5) (n := 18) (j := x1.toNatClampNeg) C hP rfl g12 rfl dX12_minds_122 ?_
      refine lv_isub hx hb dX12_minds_123 ?_
      refine va_mabs hx hb (hml.trans hl.1.symm) hown (hts _ w_X12_minds_m315) (hts _ w_X12_minds_sabs) (hts _ w_X12_minds_iM) (hts _ w_X12_minds_cabs) (Nat.le_of_ble_eq_true rfl) (Nat.le_of_ble_eq_true rfl) (Nat.zero_le _) (Nat.zero_le _) dX12_minds_124 ?_
      obtain ⟨σ13, eσ13, hf⟩ := bd_s hf
      refine bk_iast (wf := mw) (σ1 := σ13) (q0 := 18) (n := 6) (j := 1) C hP hD hS rfl (vin_l (by decide) (by decide)) (by decide) (by rw [eσ13]; exact mw_a18 g _ _ _) dX12_minds_127 (fun H locs hP hD hS => ?_)
      refine lv_aload_n hx hb dX12_minds_128 rfl (lv_at hl 0 rfl) ?_
      refine bk_get (wf := mw) (q0 := 0) (ci := 11) (k := 33) (v := .ref (g.2.2 18)) C hP hi_X12_minds_X12 rfl rfl (by decide) w_X12_minds_f87 rfl rfl dX12_minds_129 ?_
      refine lv_iconst (v := (2 : Int32)) hx hb dX12_minds_132 (by decide) ?_
      refine lv_aload_n hx hb dX12_minds_133 rfl (lv_at hl 0 rfl) ?_
      refine bk_get (wf := mw) (q0 := 0) (ci := 11) (k := 6) (v := .ref (g.2.2 6)) C hP hi_X12_minds_X12 rfl rfl (by decide) w_X12_minds_f44 rfl rfl dX12_minds_134 ?_
      refine lv_iload_n hx hb dX12_minds_137 rfl (lv_at hl 3 rfl) ?_
      obtain ⟨g14, hf⟩ := gd_s hf
      refine bk_iald (wf := mw) (q0 := 6) (n := 18) (j := (z8.2.1).toNatClampNeg) C hP rfl g14 rfl dX12_minds_138 ?_
      refine lv_aload_n hx hb dX12_minds_139 rfl (lv_at hl 0 rfl) ?_
      refine bk_get (wf := mw) (q0 := 0) (ci := 11) (k := 6) (v := .ref (g.2.2 6)) C hP hi_X12_minds_X12 rfl rfl (by decide) w_X12_minds_f44 rfl rfl dX12_minds_140 ?_
      refine lv_iload_n hx hb dX12_minds_143 rfl (lv_at hl 1 rfl) ?_
      obtain ⟨g15, hf⟩ := gd_s hf
      refine bk_iald (wf := mw) (q0 := 6) (n := 18) (j := x1.toNatClampNeg) C hP rfl g15 rfl dX12_minds_144 ?_
      refine lv_isub hx hb dX12_minds_145 ?_
      obtain ⟨σ16, eσ16, hf⟩ := bd_s hf
      refine bk_iast (wf := mw) (σ1 := σ16) (q0 := 18) (n := 6) (j := 2) C hP hD hS rfl (vin_l (by decide) (by decide)) (by decide) (by rw [eσ16]; exact mw_a18 g _ _ _) dX12_minds_146 (fun H locs hP hD hS => ?_)
      refine lv_aload_n hx hb dX12_minds_147 rfl (lv_at hl 0 rfl) ?_
      refine bk_get (wf := mw) (q0 := 0) (ci := 11) (k := 33) (v := .ref (g.2.2 18)) C hP hi_X12_minds_X12 rfl rfl (by decide) w_X12_minds_f87 rfl rfl dX12_minds_148 ?_
      refine lv_iconst (v := (3 : Int32)) hx hb dX12_minds_151 (by decide) ?_
      refine lv_aload_n hx hb dX12_minds_152 rfl (lv_at hl 0 rfl) ?_
      refine bk_get (wf := mw) (q0 := 0) (ci := 11) (k := 25) (v := .ref (g.2.2 15)) C hP hi_X12_minds_X12 rfl rfl (by decide) w_X12_minds_f75 rfl rfl dX12_minds_153 ?_
      refine lv_iload_n hx hb dX12_minds_156 rfl (lv_at hl 1 rfl) ?_
      obtain ⟨g17, hf⟩ := gd_s hf
      refine bk_iald (wf := mw) (q0 := 15) (n := 9) (j := x1.toNatClampNeg) C hP rfl g17 rfl dX12_minds_157 ?_
      obtain ⟨σ18, eσ18, hf⟩ := bd_s hf
      refine bk_iast (wf := mw) (σ1 := σ18) (q0 := 18) (n := 6) (j := 3) C hP hD hS rfl (vin_l (by decide) (by decide)) (by decide) (by rw [eσ18]; exact mw_a18 g _ _ _) dX12_minds_158 (fun H locs hP hD hS => ?_)
      refine lv_aload_n hx hb dX12_minds_159 rfl (lv_at hl 0 rfl) ?_
      refine bk_get (wf := mw) (q0 := 0) (ci := 11) (k := 33) (v := .ref (g.2.2 18)) C hP hi_X12_minds_X12 rfl rfl (by decide) w_X12_minds_f87 rfl rfl dX12_minds_160 ?_
      refine lv_iconst (v := (4 : Int32)) hx hb dX12_minds_163 (by decide) ?_
      refine lv_aload_n hx hb dX12_minds_164 rfl (lv_at hl 0 rfl) ?_
      obtain ⟨q19, hq19, hf⟩ := bi_s hf
      refine bk_VI (wf := mw) (q0 := 0) (ci := 11) (rest := [.int (4 : Int32), .ref (g.2.2 18)]) [] C hP hD hS hl.1 (c_X12_mistOf hXo hq19) (cwV 0 hts gX12_minds_X12_mistOf rfl rfl rfl (by decide +kernel) ⟨Nat.le_of_ble_eq_true rfl, Nat.le_of_ble_eq_true rfl⟩) rfl rfl rfl rfl (Nat.le_of_ble_eq_true rfl) dX12_minds_165 (fun H locs hP hD hS => ?_)
      obtain ⟨σ20, eσ20, hf⟩ := bd_s hf
      refine bk_iast (wf := mw) (σ1 := σ20) (q0 := 18) (n := 6) (j := 4) C hP hD hS rfl (vin_l (by decide) (by decide)) (by decide) (by rw [eσ20]; exact mw_a18 g _ _ _) dX12_minds_168 (fun H locs hP hD hS => ?_)
      refine lv_aload_n hx hb dX12_minds_169 rfl (lv_at hl 0 rfl) ?_
      refine bk_get (wf := mw) (q0 := 0) (ci := 11) (k := 33) (v := .ref (g.2.2 18)) C hP hi_X12_minds_X12 rfl rfl (by decide) w_X12_minds_f87 rfl rfl dX12_minds_170 ?_
      refine lv_iconst (v := (5 : Int32)) hx hb dX12_minds_173 (by decide) ?_
      refine lv_aload_n hx hb dX12_minds_174 rfl (lv_at hl 0 rfl) ?_
      refine bk_get (wf := mw) (q0 := 0) (ci := 11) (k := 28) (v := .int (σ20 0 28)) C hP hi_X12_minds_X12 rfl rfl (by decide) w_X12_minds_f287 rfl rfl dX12_minds_175 ?_
      obtain ⟨σ21, eσ21, hf⟩ := bd_s hf
      refine bk_iast (wf := mw) (σ1 := σ21) (q0 := 18) (n := 6) (j := 5) C hP hD hS rfl (vin_l (by decide) (by decide)) (by decide) (by rw [eσ21]; exact mw_a18 g _ _ _) dX12_minds_178 (fun H locs hP hD hS => ?_)
      refine lv_aload_n hx hb dX12_minds_179 rfl (lv_at hl 0 rfl) ?_
      obtain ⟨q22, hq22, hf⟩ := bi_s hf
      refine bk_VI (wf := mw) (q0 := 0) (ci := 11) (rest := []) [] C hP hD hS hl.1 (c_X12_valueNow hXo hq22) (cwV 0 hts gX12_minds_X12_valueNow rfl rfl rfl (by decide +kernel) ⟨Nat.le_of_ble_eq_true rfl, Nat.le_of_ble_eq_true rfl⟩) rfl rfl rfl rfl (Nat.le_of_ble_eq_true rfl) dX12_minds_180 (fun H locs hP hD hS => ?_)
      refine lv_if_le (tgt := 190) hx hb dX12_minds_183 (by decide) (fun t183 => ?_) (fun t183 => ?_)
      · have hf := (if_pos t183).symm.trans hf
        refine lv_iconst (v := (0 : Int32)) hx hb dX12_minds_190 (by decide) ?_
        cases hf
        exact bk_zret C hP hD hS (by decide) rfl dX12_minds_191
      · have hf := (if_neg t183).symm.trans hf
        refine lv_iconst (v := (1 : Int32)) hx hb dX12_minds_186 (by decide) ?_
        refine lv_goto (tgt := 191) hx hb dX12_minds_187 (by decide) ?_
        cases hf
        exact bk_zret C hP hD hS (by decide) rfl dX12_minds_191
    · have hf := (if_pos t16).symm.trans hf
      exact b_X12_minds_b19 C hf H locs ls hP hD hS (lv_sub hl [] rfl)
theorem c_X12_minds {N : Nat} {x1 : Int32} {x2 : Int32} {σ : Sg} {z : Int32 × Sg} (hX : xOK X) (hf : f_X12_minds N x1 x2 σ = some z) : MetI l yX12_minds wsX12_minds rm_X12_minds mw g X [.ref (g.2.2 0), .int x1, .int x2] σ z.1 z.2 :=
  MetI_of hX (by decide) rfl (Nat.le_of_ble_eq_true rfl) (fun p e s m args below meth c A C => b_X12_minds C hf)
/-! ----- X12_aTick (aTick()V) ----- -/
abbrev rm_X12_aTick : Room := { frames := 5, cells := 0, slots := 0, locals := 116 }
theorem w_X12_aTick_cmin : Cond.code Lib.Math.min.name Lib.Math.min.code 2 (some .int) ∈ wsX12_aTick := by decide +kernel
theorem w_X12_aTick_f287 : Cond.fieldLink RX12 287 "NodPostModel" "tickNow" "I" ∈ wsX12_aTick := by decide +kernel
theorem w_X12_aTick_f290 : Cond.fieldLink RX12 290 "NodPostModel" "asleep" "I" ∈ wsX12_aTick := by decide +kernel
theorem w_X12_aTick_f34 : Cond.fieldLink RX12 34 "NodPostModel" "told" "[I" ∈ wsX12_aTick := by decide +kernel
theorem w_X12_aTick_f341 : Cond.fieldLink RX12 341 "NodPostModel" "nods" "I" ∈ wsX12_aTick := by decide +kernel
theorem w_X12_aTick_f50 : Cond.fieldLink RX12 50 "NodPostModel" "slow" "[I" ∈ wsX12_aTick := by decide +kernel
theorem w_X12_aTick_f69 : Cond.fieldLink RX12 69 "NodPostModel" "waiting" "[I" ∈ wsX12_aTick := by decide +kernel
theorem w_X12_aTick_f72 : Cond.fieldLink RX12 72 "NodPostModel" "rests" "[I" ∈ wsX12_aTick := by decide +kernel
theorem w_X12_aTick_f75 : Cond.fieldLink RX12 75 "NodPostModel" "nodded" "[I" ∈ wsX12_aTick := by decide +kernel
theorem w_X12_aTick_iM : Cond.initialized "java/lang/Math" ∈ wsX12_aTick := by decide +kernel
theorem w_X12_aTick_m179 : Cond.methodLink RX12 179 Lib.Math.min.name ∈ wsX12_aTick := by decide +kernel
theorem w_X12_aTick_smin : Cond.static Lib.Math.min.name ∈ wsX12_aTick := by decide +kernel
theorem hi_X12_aTick_X12 : ∀ w ∈ u_ws RX12 TX12 57, w ∈ wsX12_aTick := by decide +kernel
def f_X12_aTick_b221 (N : Nat) (x1 : Int32) (σ : Sg) : Option (Nat × Int32 × Sg) :=
bd (x1 + (1 : Int32)) fun v1 =>
some (0, v1, σ)
set_option maxHeartbeats 4000000 in
set_option maxRecDepth 100000 in
theorem b_X12_aTick_b221 {N : Nat} {x1 : Int32} {σ : Sg} {z : Nat × Int32 × Sg} (C : Cx p s m args meth c cX12_aTick 3 none RX12 wsX12_aTick g A X) (hf : f_X12_aTick_b221 N x1 σ = some z) (k0 : z.1 = 0 → Bk mw p l e rm_X12_aTick s m args below meth c 3 g A Q 131 [(0, .ref (g.2.2 0)), (1, .int z.2.1)] [] z.2.2) (k : ¬ z.1 = 0 → Bk mw p l e rm_X12_aTick s m args below meth c 3 g A Q 227 [(0, .ref (g.2.2 0))] [] z.2.2) : Bk mw p l e rm_X12_aTick s m args below meth c 3 g A Q 221 [(0, .ref (g.2.2 0)), (1, .int x1)] [] σ := by
  obtain ⟨hx, hb, hr, hml, hown, hts, hK, hlocks, hXX, hA, hXo⟩ := id C
  intro H locs ls hP hD hS hl
  unfold f_X12_aTick_b221 at hf
  obtain ⟨v1, ev1, hf⟩ := bd_s hf
  refine lv_iinc (v := v1) (lv' := [(1, .int v1), (0, .ref (g.2.2 0))]) hx hb dX12_aTick_221 hl (k := 1) rfl (by rw [ev1]; rfl) (by decide) rfl (fun ls hl => ?_)
  refine lv_goto (tgt := 131) hx hb dX12_aTick_224 (by decide) ?_
  cases hf
  exact k0 rfl H locs ls hP hD hS (lv_sub hl [1, 0] rfl)
def s_X12_aTick_h131 (N : Nat) (x1 : Int32) (σ : Sg) : Option (Nat × Int32 × Sg) :=
if (σ 3 0) ≤ x1 then (some (1, 0, σ))
else (if (σ 0 35) = 0 then (some (1, 0, σ))
else (if (x1 < 0 ∨ 9 ≤ x1.toNatClampNeg) then none else
if 0 < (σ 13 x1.toNatClampNeg) then (f_X12_aTick_b221 N x1 σ)
else (if (x1 < 0 ∨ 9 ≤ x1.toNatClampNeg) then none else
if 0 < (σ 14 x1.toNatClampNeg) then (f_X12_aTick_b221 N x1 σ)
else ((f_X12_isOf N ((σ 0 29) ||| (σ 0 35)) x1 σ).bind fun q4 =>
if q4.1 = 0 then ((f_X12_seesOf N x1 (q4.2)).bind fun q5 =>
bd (q5.1 &&& ((q5.2) 0 35)) fun v6 =>
if v6 = 0 then (f_X12_aTick_b221 N x1 (q5.2))
else ((f_X12_minds N x1 v6 (q5.2)).bind fun q7 =>
if q7.1 = 0 then (f_X12_aTick_b221 N x1 (q7.2))
else (if (x1 < 0 ∨ 18 ≤ x1.toNatClampNeg) then none else
if (x1 < 0 ∨ 9 ≤ x1.toNatClampNeg) then none else
bd (wr (q7.2) 13 (x1.toNatClampNeg) ((q7.2) 8 x1.toNatClampNeg)) fun σ10 =>
f_X12_aTick_b221 N x1 σ10)))
else (f_X12_aTick_b221 N x1 (q4.2))))))
set_option maxHeartbeats 4000000 in
set_option maxRecDepth 100000 in
theorem e_X12_aTick_h131 {N : Nat} {x1 : Int32} {σ : Sg} {z : Nat × Int32 × Sg} (C : Cx p s m args meth c cX12_aTick 3 none RX12 wsX12_aTick g A X) (hf : s_X12_aTick_h131 N x1 σ = some z) (k0 : z.1 = 0 → Bk mw p l e rm_X12_aTick s m args below meth c 3 g A Q 131 [(0, .ref (g.2.2 0)), (1, .int z.2.1)] [] z.2.2) (k : ¬ z.1 = 0 → Bk mw p l e rm_X12_aTick s m args below meth c 3 g A Q 227 [(0, .ref (g.2.2 0))] [] z.2.2) : Bk mw p l e rm_X12_aTick s m args below meth c 3 g A Q 131 [(0, .ref (g.2.2 0)), (1, .int x1)] [] σ := by
  obtain ⟨hx, hb, hr, hml, hown, hts, hK, hlocks, hXX, hA, hXo⟩ := id C
  intro H locs ls hP hD hS hl
  unfold s_X12_aTick_h131 at hf
  refine lv_iload_n hx hb dX12_aTick_131 rfl (lv_at hl 1 rfl) ?_
  refine lv_aload_n hx hb dX12_aTick_132 rfl (lv_at hl 0 rfl) ?_
  refine bk_get (wf := mw) (q0 := 0) (ci := 11) (k := 3) (v := .ref (g.2.2 3)) C hP hi_X12_aTick_X12 rfl rfl (by decide) w_X12_aTick_f34 rfl rfl dX12_aTick_133 ?_
  refine lv_iconst (v := (0 : Int32)) hx hb dX12_aTick_136 (by decide) ?_
  refine bk_iald (wf := mw) (q0 := 3) (n := 10) (j := 0) C hP rfl (vin_l (by decide) (by decide)) (by decide) dX12_aTick_137 ?_
  refine lv_icmp_ge (tgt := 227) hx hb dX12_aTick_138 (by decide) (fun t138 => ?_) (fun t138 => ?_)
  · have hf := (if_pos t138).symm.trans hf
    cases hf
    exact (k (by decide)) H locs ls hP hD hS (lv_sub hl [0] rfl)
  · have hf := (if_neg t138).symm.trans hf
    refine lv_aload_n hx hb dX12_aTick_141 rfl (lv_at hl 0 rfl) ?_
    refine bk_get (wf := mw) (q0 := 0) (ci := 11) (k := 35) (v := .int (σ 0 35)) C hP hi_X12_aTick_X12 rfl rfl (by decide) w_X12_aTick_f341 rfl rfl dX12_aTick_142 ?_
    refine lv_if_eq (tgt := 227) hx hb dX12_aTick_145 (by decide) (fun t145 => ?_) (fun t145 => ?_)
    · have hf := (if_pos t145).symm.trans hf
      cases hf
      exact (k (by decide)) H locs ls hP hD hS (lv_sub hl [0] rfl)
    · have hf := (if_neg t145).symm.trans hf
      refine lv_aload_n hx hb dX12_aTick_148 rfl (lv_at hl 0 rfl) ?_
      refine bk_get (wf := mw) (q0 := 0) (ci := 11) (k := 23) (v := .ref (g.2.2 13)) C hP hi_X12_aTick_X12 rfl rfl (by decide) w_X12_aTick_f69 rfl rfl dX12_aTick_149 ?_
      refine lv_iload_n hx hb dX12_aTick_152 rfl (lv_at hl 1 rfl) ?_
      obtain ⟨g2, hf⟩ := gd_s hf
      refine bk_iald (wf := mw) (q0 := 13) (n := 9) (j := x1.toNatClampNeg) C hP rfl g2 rfl dX12_aTick_153 ?_
      refine lv_if_gt (tgt := 221) hx hb dX12_aTick_154 (by decide) (fun t154 => ?_) (fun t154 => ?_)
      · have hf := (if_pos t154).symm.trans hf
        exact b_X12_aTick_b221 C hf k0 k H locs ls hP hD hS (lv_sub hl [0, 1] rfl)
      · have hf := (if_neg t154).symm.trans hf
        refine lv_aload_n hx hb dX12_aTick_157 rfl (lv_at hl 0 rfl) ?_
        refine bk_get (wf := mw) (q0 := 0) (ci := 11) (k := 24) (v := .ref (g.2.2 14)) C hP hi_X12_aTick_X12 rfl rfl (by decide) w_X12_aTick_f72 rfl rfl dX12_aTick_158 ?_
        refine lv_iload_n hx hb dX12_aTick_161 rfl (lv_at hl 1 rfl) ?_
        obtain ⟨g3, hf⟩ := gd_s hf
        refine bk_iald (wf := mw) (q0 := 14) (n := 9) (j := x1.toNatClampNeg) C hP rfl g3 rfl dX12_aTick_162 ?_
        refine lv_if_gt (tgt := 221) hx hb dX12_aTick_163 (by decide) (fun t163 => ?_) (fun t163 => ?_)
        · have hf := (if_pos t163).symm.trans hf
          exact b_X12_aTick_b221 C hf k0 k H locs ls hP hD hS (lv_sub hl [0, 1] rfl)
        · have hf := (if_neg t163).symm.trans hf
          refine lv_aload_n hx hb dX12_aTick_166 rfl (lv_at hl 0 rfl) ?_
          refine bk_get (wf := mw) (q0 := 0) (ci := 11) (k := 29) (v := .int (σ 0 29)) C hP hi_X12_aTick_X12 rfl rfl (by decide) w_X12_aTick_f290 rfl rfl dX12_aTick_167 ?_
          refine lv_aload_n hx hb dX12_aTick_170 rfl (lv_at hl 0 rfl) ?_
          refine bk_get (wf := mw) (q0 := 0) (ci := 11) (k := 35) (v := .int (σ 0 35)) C hP hi_X12_aTick_X12 rfl rfl (by decide) w_X12_aTick_f341 rfl rfl dX12_aTick_171 ?_
          refine lv_ior hx hb dX12_aTick_174 ?_
          refine lv_iload_n hx hb dX12_aTick_175 rfl (lv_at hl 1 rfl) ?_
          obtain ⟨q4, hq4, hf⟩ := bi_s hf
          refine bk_SI (wf := mw) (rest := []) [.int ((σ 0 29) ||| (σ 0 35)), .int x1] C hP hD hS hl.1 (c_X12_isOf hXo hq4) (va_cwS 2 hts gX12_aTick_X12_isOf rfl rfl rfl (by decide +kernel) ⟨Nat.le_of_ble_eq_true rfl, Nat.le_of_ble_eq_true rfl⟩) rfl rfl (Nat.le_of_ble_eq_true rfl) dX12_aTick_176 (fun H locs hP hD hS => ?_)
          refine lv_if_eq (tgt := 185) hx hb dX12_aTick_179 (by decide) (fun t179 => ?_) (fun t179 => ?_)
          · have hf := (if_pos t179).symm.trans hf
            refine lv_aload_n hx hb dX12_aTick_185 rfl (lv_at hl 0 rfl) ?_
            refine lv_iload_n hx hb dX12_aTick_186 rfl (lv_at hl 1 rfl) ?_
            obtain ⟨q5, hq5, hf⟩ := bi_s hf
            refine bk_VI (wf := mw) (q0 := 0) (ci := 11) (rest := []) [.int x1] C hP hD hS hl.1 (c_X12_seesOf hXo hq5) (cwV 1 hts gX12_aTick_X12_seesOf rfl rfl rfl (by decide +kernel) ⟨Nat.le_of_ble_eq_true rfl, Nat.le_of_ble_eq_true rfl⟩) rfl rfl rfl rfl (Nat.le_of_ble_eq_true rfl) dX12_aTick_187 (fun H locs hP hD hS => ?_)
            refine lv_aload_n hx hb dX12_aTick_190 rfl (lv_at hl 0 rfl) ?_
            refine bk_get (wf := mw) (q0 := 0) (ci := 11) (k := 35) (v := .int ((q5.2) 0 35)) C hP hi_X12_aTick_X12 rfl rfl (by decide) w_X12_aTick_f341 rfl rfl dX12_aTick_191 ?_
            refine lv_iand hx hb dX12_aTick_194 ?_
            obtain ⟨v6, ev6, hf⟩ := bd_s hf
            rw [← ev6]
            refine lv_istore_n (lv' := [(2, .int v6), (0, .ref (g.2.2 0)), (1, .int x1)]) hx hb dX12_aTick_195 rfl hl (by decide) rfl (fun ls hl => ?_)
            refine lv_iload_n hx hb dX12_aTick_196 rfl (lv_at hl 0 rfl) ?_
            refine lv_if_eq (tgt := 221) hx hb dX12_aTick_197 (by decide) (fun t197 => ?_) (fun t197 => ?_)
            · have hf := (if_pos t197).symm.trans hf
              exact b_X12_aTick_b221 C hf k0 k H locs ls hP hD hS (lv_sub hl [1, 2] rfl)
            · have hf := (if_neg t197).symm.trans hf
              refine lv_aload_n hx hb dX12_aTick_200 rfl (lv_at hl 1 rfl) ?_
              refine lv_iload_n hx hb dX12_aTick_201 rfl (lv_at hl 2 rfl) ?_
              refine lv_iload_n hx hb dX12_aTick_202 rfl (lv_at hl 0 rfl) ?_
              obtain ⟨q7, hq7, hf⟩ := bi_s hf
              refine bk_VI (wf := mw) (q0 := 0) (ci := 11) (rest := []) [.int x1, .int v6] C hP hD hS hl.1 (c_X12_minds hXo hq7) (cwV 2 hts gX12_aTick_X12_minds rfl rfl rfl (by decide +kernel) ⟨Nat.le_of_ble_eq_true rfl, Nat.le_of_ble_eq_true rfl⟩) rfl rfl rfl rfl (Nat.le_of_ble_eq_true rfl) dX12_aTick_203 (fun H locs hP hD hS => ?_)
              refine lv_if_eq (tgt := 221) hx hb dX12_aTick_206 (by decide) (fun t206 => ?_) (fun t206 => ?_)
              · have hf := (if_pos t206).symm.trans hf
                exact b_X12_aTick_b221 C hf k0 k H locs ls hP hD hS (lv_sub hl [1, 2] rfl)
              · have hf := (if_neg t206).symm.trans hf
                refine lv_aload_n hx hb dX12_aTick_209 rfl (lv_at hl 1 rfl) ?_
                refine bk_get (wf := mw) (q0 := 0) (ci := 11) (k := 23) (v := .ref (g.2.2 13)) C hP hi_X12_aTick_X12 rfl rfl (by decide) w_X12_aTick_f69 rfl rfl dX12_aTick_210 ?_
                refine lv_iload_n hx hb dX12_aTick_213 rfl (lv_at hl 2 rfl) ?_
                refine lv_aload_n hx hb dX12_aTick_214 rfl (lv_at hl 1 rfl) ?_
                refine bk_get (wf := mw) (q0 := 0) (ci := 11) (k := 8) (v := .ref (g.2.2 8)) C hP hi_X12_aTick_X12 rfl rfl (by decide) w_X12_aTick_f50 rfl rfl dX12_aTick_215 ?_
                refine lv_iload_n hx hb dX12_aTick_218 rfl (lv_at hl 2 rfl) ?_
                obtain ⟨g8, hf⟩ := gd_s hf
                refine bk_iald (wf := mw) (q0 := 8) (n := 18) (j := x1.toNatClampNeg) C hP rfl g8 rfl dX12_aTick_219 ?_
                obtain ⟨g9, hf⟩ := gd_s hf
                obtain ⟨σ10, eσ10, hf⟩ := bd_s hf
                refine bk_iast (wf := mw) (σ1 := σ10) (q0 := 13) (n := 9) (j := x1.toNatClampNeg) C hP hD hS rfl g9 rfl (by rw [eσ10]; exact mw_a13 g _ _ _) dX12_aTick_220 (fun H locs hP hD hS => ?_)
                exact b_X12_aTick_b221 C hf k0 k H locs ls hP hD hS (lv_sub hl [1, 2] rfl)
          · have hf := (if_neg t179).symm.trans hf
            refine lv_goto (tgt := 221) hx hb dX12_aTick_182 (by decide) ?_
            exact b_X12_aTick_b221 C hf k0 k H locs ls hP hD hS (lv_sub hl [0, 1] rfl)
theorem lp_X12_aTick_h131 {N n : Nat} {x1 : Int32} {σ : Sg} {z : Nat × Int32 × Sg} (C : Cx p s m args meth c cX12_aTick 3 none RX12 wsX12_aTick g A X) (hz : it (fun q => s_X12_aTick_h131 N q.1 q.2) n (x1, σ) = some z) (k : Bk mw p l e rm_X12_aTick s m args below meth c 3 g A Q 227 [(0, .ref (g.2.2 0))] [] z.2.2) : Bk mw p l e rm_X12_aTick s m args below meth c 3 g A Q 131 [(0, .ref (g.2.2 0)), (1, .int x1)] [] σ :=
  it_W (S := Int32 × Sg) (fun q => Bk mw p l e rm_X12_aTick s m args below meth c 3 g A Q 131 [(0, .ref (g.2.2 0)), (1, .int q.1)] [] q.2) (fun z => Bk mw p l e rm_X12_aTick s m args below meth c 3 g A Q 227 [(0, .ref (g.2.2 0))] [] z.2.2) (fun q z hq k0 k => e_X12_aTick_h131 C hq k0 k) n (x1, σ) z hz k
def f_X12_aTick_b123 (N : Nat) (x1 : Int32) (σ : Sg) : Option (Nat × Int32 × Sg) :=
bd (x1 + (1 : Int32)) fun v11 =>
some (0, v11, σ)
set_option maxHeartbeats 4000000 in
set_option maxRecDepth 100000 in
theorem b_X12_aTick_b123 {N : Nat} {x1 : Int32} {σ : Sg} {z : Nat × Int32 × Sg} (C : Cx p s m args meth c cX12_aTick 3 none RX12 wsX12_aTick g A X) (hf : f_X12_aTick_b123 N x1 σ = some z) (k0 : z.1 = 0 → Bk mw p l e rm_X12_aTick s m args below meth c 3 g A Q 7 [(0, .ref (g.2.2 0)), (1, .int z.2.1)] [] z.2.2) (k : ¬ z.1 = 0 → Bk mw p l e rm_X12_aTick s m args below meth c 3 g A Q 129 [(0, .ref (g.2.2 0))] [] z.2.2) : Bk mw p l e rm_X12_aTick s m args below meth c 3 g A Q 123 [(0, .ref (g.2.2 0)), (1, .int x1)] [] σ := by
  obtain ⟨hx, hb, hr, hml, hown, hts, hK, hlocks, hXX, hA, hXo⟩ := id C
  intro H locs ls hP hD hS hl
  unfold f_X12_aTick_b123 at hf
  obtain ⟨v11, ev11, hf⟩ := bd_s hf
  refine lv_iinc (v := v11) (lv' := [(1, .int v11), (0, .ref (g.2.2 0))]) hx hb dX12_aTick_123 hl (k := 1) rfl (by rw [ev11]; rfl) (by decide) rfl (fun ls hl => ?_)
  refine lv_goto (tgt := 7) hx hb dX12_aTick_126 (by decide) ?_
  cases hf
  exact k0 rfl H locs ls hP hD hS (lv_sub hl [1, 0] rfl)
def s_X12_aTick_h7 (N : Nat) (x1 : Int32) (σ : Sg) : Option (Nat × Int32 × Sg) :=
if (σ 3 0) ≤ x1 then (some (1, 0, σ))
else (if (x1 < 0 ∨ 9 ≤ x1.toNatClampNeg) then none else
if (σ 13 x1.toNatClampNeg) = (1 : Int32) then (bd (wr σ 0 35 ((σ 0 35) ||| ((1 : Int32) <<< (x1 &&& 31)))) fun σ21 =>
if (x1 < 0 ∨ 9 ≤ x1.toNatClampNeg) then none else
bd (wr σ21 13 (x1.toNatClampNeg) (0 : Int32)) fun σ23 =>
if (x1 < 0 ∨ 9 ≤ x1.toNatClampNeg) then none else
bd (wr σ23 14 (x1.toNatClampNeg) (σ23 3 2)) fun σ25 =>
if (x1 < 0 ∨ 9 ≤ x1.toNatClampNeg) then none else
if (x1 < 0 ∨ 9 ≤ x1.toNatClampNeg) then none else
bd (wr σ25 15 (x1.toNatClampNeg) (if ((σ25 15 x1.toNatClampNeg) + (1 : Int32)) < (999 : Int32) then ((σ25 15 x1.toNatClampNeg) + (1 : Int32)) else (999 : Int32))) fun σ28 =>
f_X12_aTick_b123 N x1 σ28)
else (if (x1 < 0 ∨ 9 ≤ x1.toNatClampNeg) then none else
if (σ 13 x1.toNatClampNeg) ≤ (1 : Int32) then (if (x1 < 0 ∨ 9 ≤ x1.toNatClampNeg) then none else
if (σ 14 x1.toNatClampNeg) ≤ 0 then (f_X12_aTick_b123 N x1 σ)
else (if (x1 < 0 ∨ 9 ≤ x1.toNatClampNeg) then none else
if (x1 < 0 ∨ 9 ≤ x1.toNatClampNeg) then none else
bd (wr σ 14 (x1.toNatClampNeg) ((σ 14 x1.toNatClampNeg) - (1 : Int32))) fun σ17 =>
f_X12_aTick_b123 N x1 σ17))
else (if (x1 < 0 ∨ 9 ≤ x1.toNatClampNeg) then none else
if (x1 < 0 ∨ 9 ≤ x1.toNatClampNeg) then none else
bd (wr σ 13 (x1.toNatClampNeg) ((σ 13 x1.toNatClampNeg) - (1 : Int32))) fun σ20 =>
f_X12_aTick_b123 N x1 σ20)))
set_option maxHeartbeats 4000000 in
set_option maxRecDepth 100000 in
theorem e_X12_aTick_h7 {N : Nat} {x1 : Int32} {σ : Sg} {z : Nat × Int32 × Sg} (C : Cx p s m args meth c cX12_aTick 3 none RX12 wsX12_aTick g A X) (hf : s_X12_aTick_h7 N x1 σ = some z) (k0 : z.1 = 0 → Bk mw p l e rm_X12_aTick s m args below meth c 3 g A Q 7 [(0, .ref (g.2.2 0)), (1, .int z.2.1)] [] z.2.2) (k : ¬ z.1 = 0 → Bk mw p l e rm_X12_aTick s m args below meth c 3 g A Q 129 [(0, .ref (g.2.2 0))] [] z.2.2) : Bk mw p l e rm_X12_aTick s m args below meth c 3 g A Q 7 [(0, .ref (g.2.2 0)), (1, .int x1)] [] σ := by
  obtain ⟨hx, hb, hr, hml, hown, hts, hK, hlocks, hXX, hA, hXo⟩ := id C
  intro H locs ls hP hD hS hl
  unfold s_X12_aTick_h7 at hf
  refine lv_iload_n hx hb dX12_aTick_7 rfl (lv_at hl 1 rfl) ?_
  refine lv_aload_n hx hb dX12_aTick_8 rfl (lv_at hl 0 rfl) ?_
  refine bk_get (wf := mw) (q0 := 0) (ci := 11) (k := 3) (v := .ref (g.2.2 3)) C hP hi_X12_aTick_X12 rfl rfl (by decide) w_X12_aTick_f34 rfl rfl dX12_aTick_9 ?_
  refine lv_iconst (v := (0 : Int32)) hx hb dX12_aTick_12 (by decide) ?_
  refine bk_iald (wf := mw) (q0 := 3) (n := 10) (j := 0) C hP rfl (vin_l (by decide) (by decide)) (by decide) dX12_aTick_13 ?_
  refine lv_icmp_ge (tgt := 129) hx hb dX12_aTick_14 (by decide) (fun t14 => ?_) (fun t14 => ?_)
  · have hf := (if_pos t14).symm.trans hf
    cases hf
    exact (k (by decide)) H locs ls hP hD hS (lv_sub hl [0] rfl)
  · have hf := (if_neg t14).symm.trans hf
    refine lv_aload_n hx hb dX12_aTick_17 rfl (lv_at hl 0 rfl) ?_
    refine bk_get (wf := mw) (q0 := 0) (ci := 11) (k := 23) (v := .ref (g.2.2 13)) C hP hi_X12_aTick_X12 rfl rfl (by decide) w_X12_aTick_f69 rfl rfl dX12_aTick_18 ?_
    refine lv_iload_n hx hb dX12_aTick_21 rfl (lv_at hl 1 rfl) ?_
    obtain ⟨g12, hf⟩ := gd_s hf
    refine bk_iald (wf := mw) (q0 := 13) (n := 9) (j := x1.toNatClampNeg) C hP rfl g12 rfl dX12_aTick_22 ?_
    refine lv_iconst (v := (1 : Int32)) hx hb dX12_aTick_23 (by decide) ?_
    refine lv_icmp_ne (tgt := 81) hx hb dX12_aTick_24 (by decide) (fun t24 => ?_) (fun t24 => ?_)
    · have hf := (if_neg t24).symm.trans hf
      refine lv_aload_n hx hb dX12_aTick_81 rfl (lv_at hl 0 rfl) ?_
      refine bk_get (wf := mw) (q0 := 0) (ci := 11) (k := 23) (v := .ref (g.2.2 13)) C hP hi_X12_aTick_X12 rfl rfl (by decide) w_X12_aTick_f69 rfl rfl dX12_aTick_82 ?_
      refine lv_iload_n hx hb dX12_aTick_85 rfl (lv_at hl 1 rfl) ?_
      obtain ⟨g13, hf⟩ := gd_s hf
      refine bk_iald (wf := mw) (q0 := 13) (n := 9) (j := x1.toNatClampNeg) C hP rfl g13 rfl dX12_aTick_86 ?_
      refine lv_iconst (v := (1 : Int32)) hx hb dX12_aTick_87 (by decide) ?_
      refine lv_icmp_le (tgt := 104) hx hb dX12_aTick_88 (by decide) (fun t88 => ?_) (fun t88 => ?_)
      · have hf := (if_pos t88).symm.trans hf
        refine lv_aload_n hx hb dX12_aTick_104 rfl (lv_at hl 0 rfl) ?_
        refine bk_get (wf := mw) (q0 := 0) (ci := 11) (k := 24) (v := .ref (g.2.2 14)) C hP hi_X12_aTick_X12 rfl rfl (by decide) w_X12_aTick_f72 rfl rfl dX12_aTick_105 ?_
        refine lv_iload_n hx hb dX12_aTick_108 rfl (lv_at hl 1 rfl) ?_
        obtain ⟨g14, hf⟩ := gd_s hf
        refine bk_iald (wf := mw) (q0 := 14) (n := 9) (j := x1.toNatClampNeg) C hP rfl g14 rfl dX12_aTick_109 ?_
        refine lv_if_le (tgt := 123) hx hb dX12_aTick_110 (by decide) (fun t110 => ?_) (fun t110 => ?_)
        · have hf := (if_pos t110).symm.trans hf
          exact b_X12_aTick_b123 C hf k0 k H locs ls hP hD hS (lv_sub hl [0, 1] rfl)
        · have hf := (if_neg t110).symm.trans hf
          refine lv_aload_n hx hb dX12_aTick_113 rfl (lv_at hl 0 rfl) ?_
          refine bk_get (wf := mw) (q0 := 0) (ci := 11) (k := 24) (v := .ref (g.2.2 14)) C hP hi_X12_aTick_X12 rfl rfl (by decide) w_X12_aTick_f72 rfl rfl dX12_aTick_114 ?_
          refine lv_iload_n hx hb dX12_aTick_117 rfl (lv_at hl 1 rfl) ?_
          refine lv_dup2_11 hx hb dX12_aTick_118 rfl rfl ?_
          obtain ⟨g15, hf⟩ := gd_s hf
          refine bk_iald (wf := mw) (q0 := 14) (n := 9) (j := x1.toNatClampNeg) C hP rfl g15 rfl dX12_aTick_119 ?_
          refine lv_iconst (v := (1 : Int32)) hx hb dX12_aTick_120 (by decide) ?_
          refine lv_isub hx hb dX12_aTick_121 ?_
          obtain ⟨g16, hf⟩ := gd_s hf
          obtain ⟨σ17, eσ17, hf⟩ := bd_s hf
          refine bk_iast (wf := mw) (σ1 := σ17) (q0 := 14) (n := 9) (j := x1.toNatClampNeg) C hP hD hS rfl g16 rfl (by rw [eσ17]; exact mw_a14 g _ _ _) dX12_aTick_122 (fun H locs hP hD hS => ?_)
          exact b_X12_aTick_b123 C hf k0 k H locs ls hP hD hS (lv_sub hl [0, 1] rfl)
      · have hf := (if_neg t88).symm.trans hf
        refine lv_aload_n hx hb dX12_aTick_91 rfl (lv_at hl 0 rfl) ?_
        refine bk_get (wf := mw) (q0 := 0) (ci := 11) (k := 23) (v := .ref (g.2.2 13)) C hP hi_X12_aTick_X12 rfl rfl (by decide) w_X12_aTick_f69 rfl rfl dX12_aTick_92 ?_
        refine lv_iload_n hx hb dX12_aTick_95 rfl (lv_at hl 1 rfl) ?_
        refine lv_dup2_11 hx hb dX12_aTick_96 rfl rfl ?_
        obtain ⟨g18, hf⟩ := gd_s hf
        refine bk_iald (wf := mw) (q0 := 13) (n := 9) (j := x1.toNatClampNeg) C hP rfl g18 rfl dX12_aTick_97 ?_
        refine lv_iconst (v := (1 : Int32)) hx hb dX12_aTick_98 (by decide) ?_
        refine lv_isub hx hb dX12_aTick_99 ?_
        obtain ⟨g19, hf⟩ := gd_s hf
        obtain ⟨σ20, eσ20, hf⟩ := bd_s hf
        refine bk_iast (wf := mw) (σ1 := σ20) (q0 := 13) (n := 9) (j := x1.toNatClampNeg) C hP hD hS rfl g19 rfl (by rw [eσ20]; exact mw_a13 g _ _ _) dX12_aTick_100 (fun H locs hP hD hS => ?_)
        refine lv_goto (tgt := 123) hx hb dX12_aTick_101 (by decide) ?_
        exact b_X12_aTick_b123 C hf k0 k H locs ls hP hD hS (lv_sub hl [0, 1] rfl)
    · have hf := (if_pos t24).symm.trans hf
      refine lv_aload_n hx hb dX12_aTick_27 rfl (lv_at hl 0 rfl) ?_
      refine lv_dup hx hb dX12_aTick_28 rfl ?_
      refine bk_get (wf := mw) (q0 := 0) (ci := 11) (k := 35) (v := .int (σ 0 35)) C hP hi_X12_aTick_X12 rfl rfl (by decide) w_X12_aTick_f341 rfl rfl dX12_aTick_29 ?_
      refine lv_iconst (v := (1 : Int32)) hx hb dX12_aTick_32 (by decide) ?_
      refine lv_iload_n hx hb dX12_aTick_33 rfl (lv_at hl 1 rfl) ?_
      refine lv_ishl hx hb dX12_aTick_34 ?_
      refine lv_ior hx hb dX12_aTick_35 ?_
      obtain ⟨σ21, eσ21, hf⟩ := bd_s hf
      refine bk_put (wf := mw) (σ1 := σ21) (q0 := 0) (ci := 11) (k := 35) (v := .int ((σ 0 35) ||| ((1 : Int32) <<< (x1 &&& 31)))) C hP hD hS hi_X12_aTick_X12 tyX12_ok nmX12 rfl rfl (by decide) w_X12_aTick_f341 rfl rfl rfl rfl rfl (by decide) (by rw [eσ21]; exact mw_p0_35 g _ _) dX12_aTick_36 (fun H locs hP hD hS => ?_)
      refine lv_aload_n hx hb dX12_aTick_39 rfl (lv_at hl 0 rfl) ?_
      refine bk_get (wf := mw) (q0 := 0) (ci := 11) (k := 23) (v := .ref (g.2.2 13)) C hP hi_X12_aTick_X12 rfl rfl (by decide) w_X12_aTick_f69 rfl rfl dX12_aTick_40 ?_
      refine lv_iload_n hx hb dX12_aTick_43 rfl (lv_at hl 1 rfl) ?_
      refine lv_iconst (v := (0 : Int32)) hx hb dX12_aTick_44 (by decide) ?_
      obtain ⟨g22, hf⟩ := gd_s hf
      obtain ⟨σ23, eσ23, hf⟩ := bd_s hf
      refine bk_iast (wf := mw) (σ1 := σ23) (q0 := 13) (n := 9) (j := x1.toNatClampNeg) C hP hD hS rfl g22 rfl (by rw [eσ23]; exact mw_a13 g _ _ _) dX12_aTick_45 (fun H locs hP hD hS => ?_)
      refine lv_aload_n hx hb dX12_aTick_46 rfl (lv_at hl 0 rfl) ?_
      refine bk_get (wf := mw) (q0 := 0) (ci := 11) (k := 24) (v := .ref (g.2.2 14)) C hP hi_X12_aTick_X12 rfl rfl (by decide) w_X12_aTick_f72 rfl rfl dX12_aTick_47 ?_
      refine lv_iload_n hx hb dX12_aTick_50 rfl (lv_at hl 1 rfl) ?_
      refine lv_aload_n hx hb dX12_aTick_51 rfl (lv_at hl 0 rfl) ?_
      refine bk_get (wf := mw) (q0 := 0) (ci := 11) (k := 3) (v := .ref (g.2.2 3)) C hP hi_X12_aTick_X12 rfl rfl (by decide) w_X12_aTick_f34 rfl rfl dX12_aTick_52 ?_
      refine lv_iconst (v := (2 : Int32)) hx hb dX12_aTick_55 (by decide) ?_
      refine bk_iald (wf := mw) (q0 := 3) (n := 10) (j := 2) C hP rfl (vin_l (by decide) (by decide)) (by decide) dX12_aTick_56 ?_
      obtain ⟨g24, hf⟩ := gd_s hf
      obtain ⟨σ25, eσ25, hf⟩ := bd_s hf
      refine bk_iast (wf := mw) (σ1 := σ25) (q0 := 14) (n := 9) (j := x1.toNatClampNeg) C hP hD hS rfl g24 rfl (by rw [eσ25]; exact mw_a14 g _ _ _) dX12_aTick_57 (fun H locs hP hD hS => ?_)
      refine lv_aload_n hx hb dX12_aTick_58 rfl (lv_at hl 0 rfl) ?_
      refine bk_get (wf := mw) (q0 := 0) (ci := 11) (k := 25) (v := .ref (g.2.2 15)) C hP hi_X12_aTick_X12 rfl rfl (by decide) w_X12_aTick_f75 rfl rfl dX12_aTick_59 ?_
      refine lv_iload_n hx hb dX12_aTick_62 rfl (lv_at hl 1 rfl) ?_
      refine lv_sipush (v := (999 : Int32)) hx hb dX12_aTick_63 (by decide) ?_
      refine lv_aload_n hx hb dX12_aTick_66 rfl (lv_at hl 0 rfl) ?_
      refine bk_get (wf := mw) (q0 := 0) (ci := 11) (k := 25) (v := .ref (g.2.2 15)) C hP hi_X12_aTick_X12 rfl rfl (by decide) w_X12_aTick_f75 rfl rfl dX12_aTick_67 ?_
      refine lv_iload_n hx hb dX12_aTick_70 rfl (lv_at hl 1 rfl) ?_
      obtain ⟨g26, hf⟩ := gd_s hf
      refine bk_iald (wf := mw) (q0 := 15) (n := 9) (j := x1.toNatClampNeg) C hP rfl g26 rfl dX12_aTick_71 ?_
      refine lv_iconst (v := (1 : Int32)) hx hb dX12_aTick_72 (by decide) ?_
      refine lv_iadd hx hb dX12_aTick_73 ?_
      refine va_mmin hx hb (hml.trans hl.1.symm) hown (hts _ w_X12_aTick_m179) (hts _ w_X12_aTick_smin) (hts _ w_X12_aTick_iM) (hts _ w_X12_aTick_cmin) (Nat.le_of_ble_eq_true rfl) (Nat.le_of_ble_eq_true rfl) (Nat.zero_le _) (Nat.zero_le _) dX12_aTick_74 ?_
      obtain ⟨g27, hf⟩ := gd_s hf
      obtain ⟨σ28, eσ28, hf⟩ := bd_s hf
      refine bk_iast (wf := mw) (σ1 := σ28) (q0 := 15) (n := 9) (j := x1.toNatClampNeg) C hP hD hS rfl g27 rfl (by rw [eσ28]; exact mw_a15 g _ _ _) dX12_aTick_77 (fun H locs hP hD hS => ?_)
      refine lv_goto (tgt := 123) hx hb dX12_aTick_78 (by decide) ?_
      exact b_X12_aTick_b123 C hf k0 k H locs ls hP hD hS (lv_sub hl [0, 1] rfl)
theorem lp_X12_aTick_h7 {N n : Nat} {x1 : Int32} {σ : Sg} {z : Nat × Int32 × Sg} (C : Cx p s m args meth c cX12_aTick 3 none RX12 wsX12_aTick g A X) (hz : it (fun q => s_X12_aTick_h7 N q.1 q.2) n (x1, σ) = some z) (k : Bk mw p l e rm_X12_aTick s m args below meth c 3 g A Q 129 [(0, .ref (g.2.2 0))] [] z.2.2) : Bk mw p l e rm_X12_aTick s m args below meth c 3 g A Q 7 [(0, .ref (g.2.2 0)), (1, .int x1)] [] σ :=
  it_W (S := Int32 × Sg) (fun q => Bk mw p l e rm_X12_aTick s m args below meth c 3 g A Q 7 [(0, .ref (g.2.2 0)), (1, .int q.1)] [] q.2) (fun z => Bk mw p l e rm_X12_aTick s m args below meth c 3 g A Q 129 [(0, .ref (g.2.2 0))] [] z.2.2) (fun q z hq k0 k => e_X12_aTick_h7 C hq k0 k) n (x1, σ) z hz k
def f_X12_aTick (N : Nat) (σ : Sg) : Option (Sg) :=
bd (wr σ 0 35 (0 : Int32)) fun σ29 =>
(it (fun q => s_X12_aTick_h7 N q.1 q.2) N ((0 : Int32), σ29)).bind fun z30 =>
(it (fun q => s_X12_aTick_h131 N q.1 q.2) N ((0 : Int32), (z30.2.2))).bind fun z31 =>
bd (wr (z31.2.2) 0 28 (((z31.2.2) 0 28) + (1 : Int32))) fun σ32 =>
some σ32
set_option maxHeartbeats 4000000 in
set_option maxRecDepth 100000 in
theorem b_X12_aTick {N : Nat} {σ : Sg} {z : Sg} (C : Cx p s m args meth c cX12_aTick 3 none RX12 wsX12_aTick g A X) (hf : f_X12_aTick N σ = some z) : Bk mw p l e rm_X12_aTick s m args below meth c 3 g A (MQ below (qV mw g A z) args s 0 0 A) 0 [(0, .ref (g.2.2 0))] [] σ := by
  obtain ⟨hx, hb, hr, hml, hown, hts, hK, hlocks, hXX, hA, hXo⟩ := id C
  intro H locs ls hP hD hS hl
  unfold f_X12_aTick at hf
  refine lv_aload_n hx hb dX12_aTick_0 rfl (lv_at hl 0 rfl) ?_
  refine lv_iconst (v := (0 : Int32)) hx hb dX12_aTick_1 (by decide) ?_
  obtain ⟨σ29, eσ29, hf⟩ := bd_s hf
  refine bk_put (wf := mw) (σ1 := σ29) (q0 := 0) (ci := 11) (k := 35) (v := .int (0 : Int32)) C hP hD hS hi_X12_aTick_X12 tyX12_ok nmX12 rfl rfl (by decide) w_X12_aTick_f341 rfl rfl rfl rfl rfl (by decide) (by rw [eσ29]; exact mw_p0_35 g _ _) dX12_aTick_2 (fun H locs hP hD hS => ?_)
  refine lv_iconst (v := (0 : Int32)) hx hb dX12_aTick_5 (by decide) ?_
  refine lv_istore_n (lv' := [(1, .int (0 : Int32)), (0, .ref (g.2.2 0))]) hx hb dX12_aTick_6 rfl hl (by decide) rfl (fun ls hl => ?_)
  obtain ⟨z30, hz30, hf⟩ := bi_s hf
  refine lp_X12_aTick_h7 C hz30 ?_ H locs ls hP hD hS (lv_sub hl [1, 0] rfl)
  intro H locs ls hP hD hS hl
  refine lv_iconst (v := (0 : Int32)) hx hb dX12_aTick_129 (by decide) ?_
  refine lv_istore_n (lv' := [(1, .int (0 : Int32)), (0, .ref (g.2.2 0))]) hx hb dX12_aTick_130 rfl hl (by decide) rfl (fun ls hl => ?_)
  obtain ⟨z31, hz31, hf⟩ := bi_s hf
  refine lp_X12_aTick_h131 C hz31 ?_ H locs ls hP hD hS (lv_sub hl [1, 0] rfl)
  intro H locs ls hP hD hS hl
  refine lv_aload_n hx hb dX12_aTick_227 rfl (lv_at hl 0 rfl) ?_
  refine lv_dup hx hb dX12_aTick_228 rfl ?_
  refine bk_get (wf := mw) (q0 := 0) (ci := 11) (k := 28) (v := .int ((z31.2.2) 0 28)) C hP hi_X12_aTick_X12 rfl rfl (by decide) w_X12_aTick_f287 rfl rfl dX12_aTick_229 ?_
  refine lv_iconst (v := (1 : Int32)) hx hb dX12_aTick_232 (by decide) ?_
  refine lv_iadd hx hb dX12_aTick_233 ?_
  obtain ⟨σ32, eσ32, hf⟩ := bd_s hf
  refine bk_put (wf := mw) (σ1 := σ32) (q0 := 0) (ci := 11) (k := 28) (v := .int (((z31.2.2) 0 28) + (1 : Int32))) C hP hD hS hi_X12_aTick_X12 tyX12_ok nmX12 rfl rfl (by decide) w_X12_aTick_f287 rfl rfl rfl rfl rfl (by decide) (by rw [eσ32]; exact mw_p0_28 g _ _) dX12_aTick_234 (fun H locs hP hD hS => ?_)
  cases hf
  exact bk_vret C hP hD hS rfl dX12_aTick_237
theorem c_X12_aTick {N : Nat} {σ : Sg} {z : Sg} (hX : xOK X) (hf : f_X12_aTick N σ = some z) : MetV l yX12_aTick wsX12_aTick rm_X12_aTick mw g X [.ref (g.2.2 0)] σ z :=
  MetV_of hX (by decide) rfl (Nat.le_of_ble_eq_true rfl) (fun p e s m args below meth c A C => b_X12_aTick C hf)
end GEN
