section GEN
variable {p : Program} {l : Launch} {e : Env} {s : State} {m : MethodId} {args : Array Value} {below : List Frame} {meth : Method} {c : Code} {g : WG} {A : Nat → Prop} {X : Xt} {Q : State → Prop}
-- X12_which_1: which([Ljava/lang/String;)I
abbrev rm_X12_which_1 : Room := { frames := 5, cells := 0, slots := 0, locals := 108 }
def s_X12_which_1_h2 (N : Nat) (x2 : Int32) (σ : Sg) : Option (Nat × Int32 × Sg) :=
if (2 : Int32) ≤ x2 then (some (2, 0, σ))
else (if (x2 < 0 ∨ 2 ≤ x2.toNatClampNeg) then none else
(f_X12_is N (0 + x2.toNatClampNeg) σ).bind fun q2 =>
if q2.1 = 0 then (bd (x2 + (1 : Int32)) fun v3 =>
some (0, v3, (q2.2)))
else (some (1, x2, (q2.2))))
set_option maxHeartbeats 4000000 in
set_option maxRecDepth 100000 in
theorem e_X12_which_1_h2 {N : Nat} {x2 : Int32} {σ : Sg} {z : Nat × Int32 × Sg} (C : Cx p s m args meth c cX12_which 3 (some .int) RX12 g A X) (hf : s_X12_which_1_h2 N x2 σ = some z) (k0 : z.1 = 0 → Bk mw p l e rm_X12_which_1 s m args below meth c 3 g A Q 0 0 2 [(0, .ref (g.2.2 0)), (1, .ref (g.2.2 1)), (2, .int z.2.1)] [] z.2.2) (k : ¬ z.1 = 0 → ((z.1 = 1 → Bk mw p l e rm_X12_which_1 s m args below meth c 3 g A Q 0 0 18 [(2, .int z.2.1)] [] z.2.2) ∧ (¬ z.1 = 1 → Bk mw p l e rm_X12_which_1 s m args below meth c 3 g A Q 0 0 26 [] [] z.2.2))) : Bk mw p l e rm_X12_which_1 s m args below meth c 3 g A Q 0 0 2 [(0, .ref (g.2.2 0)), (1, .ref (g.2.2 1)), (2, .int x2)] [] σ := by
  obtain ⟨hx, hb, hr, hml, hown, hts, hK, hlocks, hXX, hA, hXo⟩ := id C
  intro H locs ls hP hD hS hl
  unfold s_X12_which_1_h2 at hf
  refine lv_iload_n hx hb dX12_which_2 rfl (lv_at hl 2 rfl) ?_
  refine lv_aload_n hx hb dX12_which_3 rfl (lv_at hl 1 rfl) ?_
  refine bk_alen (wf := mw) (q0 := 1) (t0 := 3) (v := (2 : Int32)) C hP rfl rfl (show Int32.ofNat 2 = (2 : Int32) by decide) dX12_which_4 ?_
  refine lv_icmp_ge (tgt := 26) hx hb dX12_which_5 (by decide) (fun t5 => ?_) (fun t5 => ?_)
  · have hf := (if_pos t5).symm.trans hf
    cases hf
    exact ((k (show ¬ (2 : Nat) = 0 by decide)).2 (show ¬ (2 : Nat) = 1 by decide)) H locs ls hP hD hS (lv_sub hl [] rfl)
  · have hf := (if_neg t5).symm.trans hf
    refine lv_aload_n hx hb dX12_which_8 rfl (lv_at hl 0 rfl) ?_
    refine lv_aload_n hx hb dX12_which_9 rfl (lv_at hl 1 rfl) ?_
    refine lv_iload_n hx hb dX12_which_10 rfl (lv_at hl 2 rfl) ?_
    obtain ⟨g1, hf⟩ := gd_s hf
    refine bk_sald (wf := mw) (q0 := 1) (n := 2) (off := 0) C hP rfl g1 dX12_which_11 ?_
    obtain ⟨q2, hq2, hf⟩ := bi_s hf
    refine bk_VI (wf := mw) (q0 := 0) (ci := 11) (rest := []) [.ref (g.2.2 (100 + (0 + x2.toNatClampNeg)))] C hP hD hS hl.1 (c_X12_is hXo hq2) (cwA_V 1 hts wa_546 wa_543 wa_544 wa_545 wa_5 rfl rfl nd_X12_is ⟨Nat.le_of_ble_eq_true rfl, Nat.le_of_ble_eq_true rfl⟩) rfl rfl rfl rfl (Nat.le_of_ble_eq_true rfl) dX12_which_12 ⟨Nat.le_of_ble_eq_true rfl, Nat.le_of_ble_eq_true rfl⟩ (fun H locs hP hD hS => ?_)
    refine lv_if_eq (tgt := 20) hx hb dX12_which_15 (by decide) (fun t15 => ?_) (fun t15 => ?_)
    · have hf := (if_pos t15).symm.trans hf
      obtain ⟨v3, ev3, hf⟩ := bd_s hf
      refine lv_iinc (v := v3) (lv' := [(2, .int v3), (0, .ref (g.2.2 0)), (1, .ref (g.2.2 1))]) hx hb dX12_which_20 hl (k := 2) rfl (by rw [ev3]; rfl) (by decide) rfl (fun ls hl => ?_)
      refine lv_goto (tgt := 2) hx hb dX12_which_23 (by decide) ?_
      cases hf
      exact k0 rfl H locs ls hP hD hS (lv_sub hl [1, 2, 0] rfl)
    · have hf := (if_neg t15).symm.trans hf
      cases hf
      exact ((k (show ¬ (1 : Nat) = 0 by decide)).1 rfl) H locs ls hP hD hS (lv_sub hl [2] rfl)
theorem lp_X12_which_1_h2 {N : Nat} {n : Nat} {x2 : Int32} {σ : Sg} {z : Nat × Int32 × Sg} (C : Cx p s m args meth c cX12_which 3 (some .int) RX12 g A X) (hz : it (fun q => s_X12_which_1_h2 N q.1 q.2) n (x2, σ) = some z) (k : ((z.1 = 1 → Bk mw p l e rm_X12_which_1 s m args below meth c 3 g A Q 0 0 18 [(2, .int z.2.1)] [] z.2.2) ∧ (¬ z.1 = 1 → Bk mw p l e rm_X12_which_1 s m args below meth c 3 g A Q 0 0 26 [] [] z.2.2))) : Bk mw p l e rm_X12_which_1 s m args below meth c 3 g A Q 0 0 2 [(0, .ref (g.2.2 0)), (1, .ref (g.2.2 1)), (2, .int x2)] [] σ :=
  it_W (S := Int32 × Sg) (fun q => Bk mw p l e rm_X12_which_1 s m args below meth c 3 g A Q 0 0 2 [(0, .ref (g.2.2 0)), (1, .ref (g.2.2 1)), (2, .int q.1)] [] q.2) (fun z => ((z.1 = 1 → Bk mw p l e rm_X12_which_1 s m args below meth c 3 g A Q 0 0 18 [(2, .int z.2.1)] [] z.2.2) ∧ (¬ z.1 = 1 → Bk mw p l e rm_X12_which_1 s m args below meth c 3 g A Q 0 0 26 [] [] z.2.2))) (fun q z hq k0 k => e_X12_which_1_h2 C hq k0 k) n (x2, σ) z hz k
def f_X12_which_1 (N : Nat) (σ : Sg) : Option (Int32 × Sg) :=
(it (fun q => s_X12_which_1_h2 N q.1 q.2) N ((0 : Int32), σ)).bind fun z4 =>
if z4.1 = 1 then (some ((z4.2.1), (z4.2.2)))
else (some ((-1 : Int32), (z4.2.2)))
set_option maxHeartbeats 4000000 in
set_option maxRecDepth 100000 in
theorem b_X12_which_1 {N : Nat} {σ : Sg} {z : Int32 × Sg} (C : Cx p s m args meth c cX12_which 3 (some .int) RX12 g A X) (hf : f_X12_which_1 N σ = some z) : Bk mw p l e rm_X12_which_1 s m args below meth c 3 g A (MQ below (qI mw g A z.1 z.2) args s 0 0 A) 0 0 0 [(0, .ref (g.2.2 0)), (1, .ref (g.2.2 1))] [] σ := by
  obtain ⟨hx, hb, hr, hml, hown, hts, hK, hlocks, hXX, hA, hXo⟩ := id C
  intro H locs ls hP hD hS hl
  unfold f_X12_which_1 at hf
  refine lv_iconst (v := (0 : Int32)) hx hb dX12_which_0 (by decide) ?_
  refine lv_istore_n (lv' := [(2, .int (0 : Int32)), (0, .ref (g.2.2 0)), (1, .ref (g.2.2 1))]) hx hb dX12_which_1 rfl hl (by decide) rfl (fun ls hl => ?_)
  obtain ⟨z4, hz4, hf⟩ := bi_s hf
  refine lp_X12_which_1_h2 C hz4 ⟨fun t0 => ?_, fun t0 => ?_⟩ H locs ls hP hD hS (lv_sub hl [1, 2, 0] rfl)
  · have hf := (if_pos t0).symm.trans hf
    intro H locs ls hP hD hS hl
    refine lv_iload_n hx hb dX12_which_18 rfl (lv_at hl 0 rfl) ?_
    cases hf
    exact bk_iret C hP hD hS rfl dX12_which_19
  · have hf := (if_neg t0).symm.trans hf
    intro H locs ls hP hD hS hl
    refine lv_iconst (v := (-1 : Int32)) hx hb dX12_which_26 (by decide) ?_
    cases hf
    exact bk_iret C hP hD hS rfl dX12_which_27
theorem c_X12_which_1 {N : Nat} {σ : Sg} {z : Int32 × Sg} (hX : xOK g X) (hf : f_X12_which_1 N σ = some z) : MetI l yX12_which (Cond.code yX12_which cX12_which 3 (some .int) :: wsA) rm_X12_which_1 mw g X [.ref (g.2.2 0), .ref (g.2.2 1)] σ z.1 z.2 :=
  MetI_of hX (by decide) (Nat.le_of_ble_eq_true rfl) (fun p e s m args below meth c A C => b_X12_which_1 C hf)
-- X12_readLine: readLine(I)I
abbrev rm_X12_readLine : Room := { frames := 173, cells := 0, slots := 0, locals := 3483 }
theorem nd_X12_readLine : yX12_readLine.cls ≠ "java/lang/invoke/MethodHandle" ∧ yX12_readLine.cls ≠ "java/lang/invoke/VarHandle" ∧ (parseMethodDescriptor yX12_readLine.desc).map (fun d => d.parameters.length) = some 1 := by decide +kernel
def f_X12_readLine_b115 (N : Nat) (x1 : Int32) (x3 : Int32) (σ : Sg) : Option (Int32 × Sg) :=
(f_X12_mark N (59 : Int32) σ).bind fun q1 =>
some ((x1 ||| x3), q1)
set_option maxHeartbeats 4000000 in
set_option maxRecDepth 100000 in
theorem b_X12_readLine_b115 {N : Nat} {x1 : Int32} {x3 : Int32} {σ : Sg} {z : Int32 × Sg} (C : Cx p s m args meth c cX12_readLine 4 (some .int) RX12 g A X) (hf : f_X12_readLine_b115 N x1 x3 σ = some z) : Bk mw p l e rm_X12_readLine s m args below meth c 4 g A (MQ below (qI mw g A z.1 z.2) args s 0 0 A) 0 0 115 [(0, .ref (g.2.2 0)), (1, .int x1), (3, .int x3)] [] σ := by
  obtain ⟨hx, hb, hr, hml, hown, hts, hK, hlocks, hXX, hA, hXo⟩ := id C
  intro H locs ls hP hD hS hl
  unfold f_X12_readLine_b115 at hf
  refine lv_aload_n hx hb dX12_readLine_115 rfl (lv_at hl 0 rfl) ?_
  refine lv_bipush (v := (59 : Int32)) hx hb dX12_readLine_116 (by decide) ?_
  obtain ⟨q1, hq1, hf⟩ := bi_s hf
  refine bk_VV (wf := mw) (q0 := 0) (ci := 11) (rest := []) [.int (59 : Int32)] C hP hD hS hl.1 (c_X12_mark hXo hq1) (cwA_V 1 hts wa_596 wa_593 wa_594 wa_595 wa_5 rfl rfl nd_X12_mark ⟨Nat.le_of_ble_eq_true rfl, Nat.le_of_ble_eq_true rfl⟩) rfl rfl rfl rfl (Nat.le_of_ble_eq_true rfl) dX12_readLine_118 ⟨Nat.le_of_ble_eq_true rfl, Nat.le_of_ble_eq_true rfl⟩ (fun H locs hP hD hS => ?_)
  refine lv_iload_n hx hb dX12_readLine_121 rfl (lv_at hl 1 rfl) ?_
  refine lv_iload_n hx hb dX12_readLine_122 rfl (lv_at hl 2 rfl) ?_
  refine lv_ior hx hb dX12_readLine_123 ?_
  cases hf
  exact bk_iret C hP hD hS rfl dX12_readLine_124
def f_X12_readLine_b97 (N : Nat) (x1 : Int32) (x2 : Int32) (x3 : Int32) (σ : Sg) : Option (Int32 × Sg) :=
if x2 = (-1 : Int32) then ((f_X12_wrong N (1 : Int32) σ).bind fun q2 =>
f_X12_readLine_b115 N x1 x3 q2)
else ((f_X12_sayFarm N x2 σ).bind fun q3 =>
f_X12_readLine_b115 N x1 x3 q3)
set_option maxHeartbeats 4000000 in
set_option maxRecDepth 100000 in
theorem b_X12_readLine_b97 {N : Nat} {x1 : Int32} {x2 : Int32} {x3 : Int32} {σ : Sg} {z : Int32 × Sg} (C : Cx p s m args meth c cX12_readLine 4 (some .int) RX12 g A X) (hf : f_X12_readLine_b97 N x1 x2 x3 σ = some z) : Bk mw p l e rm_X12_readLine s m args below meth c 4 g A (MQ below (qI mw g A z.1 z.2) args s 0 0 A) 0 0 97 [(0, .ref (g.2.2 0)), (1, .int x1), (2, .int x2), (3, .int x3)] [] σ := by
  obtain ⟨hx, hb, hr, hml, hown, hts, hK, hlocks, hXX, hA, hXo⟩ := id C
  intro H locs ls hP hD hS hl
  unfold f_X12_readLine_b97 at hf
  refine lv_iload_n hx hb dX12_readLine_97 rfl (lv_at hl 2 rfl) ?_
  refine lv_iconst (v := (-1 : Int32)) hx hb dX12_readLine_98 (by decide) ?_
  refine lv_icmp_eq (tgt := 110) hx hb dX12_readLine_99 (by decide) (fun t99 => ?_) (fun t99 => ?_)
  · have hf := (if_pos t99).symm.trans hf
    refine lv_aload_n hx hb dX12_readLine_110 rfl (lv_at hl 0 rfl) ?_
    refine lv_iconst (v := (1 : Int32)) hx hb dX12_readLine_111 (by decide) ?_
    obtain ⟨q2, hq2, hf⟩ := bi_s hf
    refine bk_VV (wf := mw) (q0 := 0) (ci := 11) (rest := []) [.int (1 : Int32)] C hP hD hS hl.1 (c_X12_wrong hXo hq2) (cwA_V 1 hts wa_552 wa_549 wa_550 wa_551 wa_5 rfl rfl nd_X12_wrong ⟨Nat.le_of_ble_eq_true rfl, Nat.le_of_ble_eq_true rfl⟩) rfl rfl rfl rfl (Nat.le_of_ble_eq_true rfl) dX12_readLine_112 ⟨Nat.le_of_ble_eq_true rfl, Nat.le_of_ble_eq_true rfl⟩ (fun H locs hP hD hS => ?_)
    exact b_X12_readLine_b115 C hf H locs ls hP hD hS (lv_sub hl [0, 1, 3] rfl)
  · have hf := (if_neg t99).symm.trans hf
    refine lv_aload_n hx hb dX12_readLine_102 rfl (lv_at hl 0 rfl) ?_
    refine lv_iload_n hx hb dX12_readLine_103 rfl (lv_at hl 2 rfl) ?_
    obtain ⟨q3, hq3, hf⟩ := bi_s hf
    refine bk_VV (wf := mw) (q0 := 0) (ci := 11) (rest := []) [.int x2] C hP hD hS hl.1 (c_X12_sayFarm hXo hq3) (cwA_V 1 hts wa_608 wa_605 wa_606 wa_607 wa_5 rfl rfl nd_X12_sayFarm ⟨Nat.le_of_ble_eq_true rfl, Nat.le_of_ble_eq_true rfl⟩) rfl rfl rfl rfl (Nat.le_of_ble_eq_true rfl) dX12_readLine_104 ⟨Nat.le_of_ble_eq_true rfl, Nat.le_of_ble_eq_true rfl⟩ (fun H locs hP hD hS => ?_)
    refine lv_goto (tgt := 115) hx hb dX12_readLine_107 (by decide) ?_
    exact b_X12_readLine_b115 C hf H locs ls hP hD hS (lv_sub hl [0, 1, 3] rfl)
def f_X12_readLine_b78 (N : Nat) (x1 : Int32) (x2 : Int32) (x3 : Int32) (σ : Sg) : Option (Int32 × Sg) :=
if x3 ≤ 0 then (f_X12_readLine_b97 N x1 x2 x3 σ)
else (if (σ 0 20) = 0 then ((f_X12_sayOnce N x3 σ).bind fun q4 =>
f_X12_readLine_b115 N x1 x3 q4)
else (f_X12_readLine_b97 N x1 x2 x3 σ))
set_option maxHeartbeats 4000000 in
set_option maxRecDepth 100000 in
theorem b_X12_readLine_b78 {N : Nat} {x1 : Int32} {x2 : Int32} {x3 : Int32} {σ : Sg} {z : Int32 × Sg} (C : Cx p s m args meth c cX12_readLine 4 (some .int) RX12 g A X) (hf : f_X12_readLine_b78 N x1 x2 x3 σ = some z) : Bk mw p l e rm_X12_readLine s m args below meth c 4 g A (MQ below (qI mw g A z.1 z.2) args s 0 0 A) 0 0 78 [(0, .ref (g.2.2 0)), (1, .int x1), (2, .int x2), (3, .int x3)] [] σ := by
  obtain ⟨hx, hb, hr, hml, hown, hts, hK, hlocks, hXX, hA, hXo⟩ := id C
  intro H locs ls hP hD hS hl
  unfold f_X12_readLine_b78 at hf
  refine lv_iload_n hx hb dX12_readLine_78 rfl (lv_at hl 3 rfl) ?_
  refine lv_if_le (tgt := 97) hx hb dX12_readLine_79 (by decide) (fun t79 => ?_) (fun t79 => ?_)
  · have hf := (if_pos t79).symm.trans hf
    exact b_X12_readLine_b97 C hf H locs ls hP hD hS (lv_sub hl [0, 1, 2, 3] rfl)
  · have hf := (if_neg t79).symm.trans hf
    refine lv_aload_n hx hb dX12_readLine_82 rfl (lv_at hl 0 rfl) ?_
    refine bk_get (wf := mw) (q0 := 0) (ci := 11) (k := 20) (v := .int (σ 0 20)) C hP wl_X12 rfl rfl (by decide) wa_506 rfl rfl dX12_readLine_83 ?_
    refine lv_if_ne (tgt := 97) hx hb dX12_readLine_86 (by decide) (fun t86 => ?_) (fun t86 => ?_)
    · have hf := (if_neg t86).symm.trans hf
      exact b_X12_readLine_b97 C hf H locs ls hP hD hS (lv_sub hl [0, 1, 2, 3] rfl)
    · have hf := (if_pos t86).symm.trans hf
      refine lv_aload_n hx hb dX12_readLine_89 rfl (lv_at hl 0 rfl) ?_
      refine lv_iload_n hx hb dX12_readLine_90 rfl (lv_at hl 3 rfl) ?_
      obtain ⟨q4, hq4, hf⟩ := bi_s hf
      refine bk_VV (wf := mw) (q0 := 0) (ci := 11) (rest := []) [.int x3] C hP hD hS hl.1 (c_X12_sayOnce hXo hq4) (cwA_V 1 hts wa_556 wa_553 wa_554 wa_555 wa_5 rfl rfl nd_X12_sayOnce ⟨Nat.le_of_ble_eq_true rfl, Nat.le_of_ble_eq_true rfl⟩) rfl rfl rfl rfl (Nat.le_of_ble_eq_true rfl) dX12_readLine_91 ⟨Nat.le_of_ble_eq_true rfl, Nat.le_of_ble_eq_true rfl⟩ (fun H locs hP hD hS => ?_)
      refine lv_goto (tgt := 115) hx hb dX12_readLine_94 (by decide) ?_
      exact b_X12_readLine_b115 C hf H locs ls hP hD hS (lv_sub hl [0, 1, 3] rfl)
def f_X12_readLine_b66 (N : Nat) (x1 : Int32) (x2 : Int32) (t0 : Int32) (σ : Sg) : Option (Int32 × Sg) :=
if (t0 &&& x1) = 0 then (f_X12_readLine_b78 N x1 x2 t0 σ)
else ((f_X12_wrong N (5 : Int32) σ).bind fun q5 =>
f_X12_readLine_b78 N x1 x2 t0 q5)
set_option maxHeartbeats 4000000 in
set_option maxRecDepth 100000 in
theorem b_X12_readLine_b66 {N : Nat} {x1 : Int32} {x2 : Int32} {t0 : Int32} {σ : Sg} {z : Int32 × Sg} (C : Cx p s m args meth c cX12_readLine 4 (some .int) RX12 g A X) (hf : f_X12_readLine_b66 N x1 x2 t0 σ = some z) : Bk mw p l e rm_X12_readLine s m args below meth c 4 g A (MQ below (qI mw g A z.1 z.2) args s 0 0 A) 0 0 66 [(0, .ref (g.2.2 0)), (1, .int x1), (2, .int x2)] [.int t0] σ := by
  obtain ⟨hx, hb, hr, hml, hown, hts, hK, hlocks, hXX, hA, hXo⟩ := id C
  intro H locs ls hP hD hS hl
  unfold f_X12_readLine_b66 at hf
  refine lv_istore_n (lv' := [(3, .int t0), (0, .ref (g.2.2 0)), (1, .int x1), (2, .int x2)]) hx hb dX12_readLine_66 rfl hl (by decide) rfl (fun ls hl => ?_)
  refine lv_iload_n hx hb dX12_readLine_67 rfl (lv_at hl 0 rfl) ?_
  refine lv_iload_n hx hb dX12_readLine_68 rfl (lv_at hl 2 rfl) ?_
  refine lv_iand hx hb dX12_readLine_69 ?_
  refine lv_if_eq (tgt := 78) hx hb dX12_readLine_70 (by decide) (fun t70 => ?_) (fun t70 => ?_)
  · have hf := (if_pos t70).symm.trans hf
    exact b_X12_readLine_b78 C hf H locs ls hP hD hS (lv_sub hl [1, 2, 3, 0] rfl)
  · have hf := (if_neg t70).symm.trans hf
    refine lv_aload_n hx hb dX12_readLine_73 rfl (lv_at hl 1 rfl) ?_
    refine lv_iconst (v := (5 : Int32)) hx hb dX12_readLine_74 (by decide) ?_
    obtain ⟨q5, hq5, hf⟩ := bi_s hf
    refine bk_VV (wf := mw) (q0 := 0) (ci := 11) (rest := []) [.int (5 : Int32)] C hP hD hS hl.1 (c_X12_wrong hXo hq5) (cwA_V 1 hts wa_552 wa_549 wa_550 wa_551 wa_5 rfl rfl nd_X12_wrong ⟨Nat.le_of_ble_eq_true rfl, Nat.le_of_ble_eq_true rfl⟩) rfl rfl rfl rfl (Nat.le_of_ble_eq_true rfl) dX12_readLine_75 ⟨Nat.le_of_ble_eq_true rfl, Nat.le_of_ble_eq_true rfl⟩ (fun H locs hP hD hS => ?_)
    exact b_X12_readLine_b78 C hf H locs ls hP hD hS (lv_sub hl [1, 2, 3, 0] rfl)
def f_X12_readLine (N : Nat) (x1 : Int32) (σ : Sg) : Option (Int32 × Sg) :=
(f_X12_which_1 N σ).bind fun q6 =>
bd q6.1 fun v7 =>
(f_X12_is N 6 (q6.2)).bind fun q8 =>
if q8.1 = 0 then ((f_X12_is N 11 (q8.2)).bind fun q9 =>
if q9.1 = 0 then ((f_X12_is N 12 (q9.2)).bind fun q10 =>
if q10.1 = 0 then ((f_X12_is N 13 (q10.2)).bind fun q11 =>
if q11.1 = 0 then (f_X12_readLine_b66 N x1 v7 (0 : Int32) (q11.2))
else (f_X12_readLine_b66 N x1 v7 (8 : Int32) (q11.2)))
else (f_X12_readLine_b66 N x1 v7 (4 : Int32) (q10.2)))
else (f_X12_readLine_b66 N x1 v7 (2 : Int32) (q9.2)))
else (f_X12_readLine_b66 N x1 v7 (1 : Int32) (q8.2))
set_option maxHeartbeats 4000000 in
set_option maxRecDepth 100000 in
theorem b_X12_readLine {N : Nat} {x1 : Int32} {σ : Sg} {z : Int32 × Sg} (C : Cx p s m args meth c cX12_readLine 4 (some .int) RX12 g A X) (hf : f_X12_readLine N x1 σ = some z) : Bk mw p l e rm_X12_readLine s m args below meth c 4 g A (MQ below (qI mw g A z.1 z.2) args s 0 0 A) 0 0 0 [(0, .ref (g.2.2 0)), (1, .int x1)] [] σ := by
  obtain ⟨hx, hb, hr, hml, hown, hts, hK, hlocks, hXX, hA, hXo⟩ := id C
  intro H locs ls hP hD hS hl
  unfold f_X12_readLine at hf
  refine lv_aload_n hx hb dX12_readLine_0 rfl (lv_at hl 0 rfl) ?_
  refine lv_aload_n hx hb dX12_readLine_1 rfl (lv_at hl 0 rfl) ?_
  refine bk_get (wf := mw) (q0 := 0) (ci := 11) (k := 0) (v := .ref (g.2.2 1)) C hP wl_X12 rfl rfl (by decide) wa_155 rfl rfl dX12_readLine_2 ?_
  obtain ⟨q6, hq6, hf⟩ := bi_s hf
  refine bk_VI (wf := mw) (q0 := 0) (ci := 11) (rest := []) [.ref (g.2.2 1)] C hP hD hS hl.1 (c_X12_which_1 hXo hq6) (cwA_V 1 hts wa_542 wa_539 wa_540 wa_541 wa_5 rfl rfl nd_X12_which ⟨Nat.le_of_ble_eq_true rfl, Nat.le_of_ble_eq_true rfl⟩) rfl rfl rfl rfl (Nat.le_of_ble_eq_true rfl) dX12_readLine_5 ⟨Nat.le_of_ble_eq_true rfl, Nat.le_of_ble_eq_true rfl⟩ (fun H locs hP hD hS => ?_)
  obtain ⟨v7, ev7, hf⟩ := bd_s hf
  rw [← ev7]
  refine lv_istore_n (lv' := [(2, .int v7), (0, .ref (g.2.2 0)), (1, .int x1)]) hx hb dX12_readLine_8 rfl hl (by decide) rfl (fun ls hl => ?_)
  refine lv_aload_n hx hb dX12_readLine_9 rfl (lv_at hl 1 rfl) ?_
  refine va_ldcS (q := g.2.2 (100 + 6)) hx hb hown ((hXo.2.2.2 _ _ _ hXX).2.2.2.2.2.2.2.2.2 (27, "mist", 6) (by decide)) dX12_readLine_10 ?_
  obtain ⟨q8, hq8, hf⟩ := bi_s hf
  refine bk_VI (wf := mw) (q0 := 0) (ci := 11) (rest := []) [.ref (g.2.2 (100 + 6))] C hP hD hS hl.1 (c_X12_is hXo hq8) (cwA_V 1 hts wa_546 wa_543 wa_544 wa_545 wa_5 rfl rfl nd_X12_is ⟨Nat.le_of_ble_eq_true rfl, Nat.le_of_ble_eq_true rfl⟩) rfl rfl rfl rfl (Nat.le_of_ble_eq_true rfl) dX12_readLine_12 ⟨Nat.le_of_ble_eq_true rfl, Nat.le_of_ble_eq_true rfl⟩ (fun H locs hP hD hS => ?_)
  refine lv_if_eq (tgt := 22) hx hb dX12_readLine_15 (by decide) (fun t15 => ?_) (fun t15 => ?_)
  · have hf := (if_pos t15).symm.trans hf
    refine lv_aload_n hx hb dX12_readLine_22 rfl (lv_at hl 1 rfl) ?_
    refine lv_ldcSw (q := g.2.2 (100 + 11)) hx hb hown ((hXo.2.2.2 _ _ _ hXX).2.2.2.2.2.2.2.2.2 (262, "sight", 11) (by decide)) dX12_readLine_23 ?_
    obtain ⟨q9, hq9, hf⟩ := bi_s hf
    refine bk_VI (wf := mw) (q0 := 0) (ci := 11) (rest := []) [.ref (g.2.2 (100 + 11))] C hP hD hS hl.1 (c_X12_is hXo hq9) (cwA_V 1 hts wa_546 wa_543 wa_544 wa_545 wa_5 rfl rfl nd_X12_is ⟨Nat.le_of_ble_eq_true rfl, Nat.le_of_ble_eq_true rfl⟩) rfl rfl rfl rfl (Nat.le_of_ble_eq_true rfl) dX12_readLine_26 ⟨Nat.le_of_ble_eq_true rfl, Nat.le_of_ble_eq_true rfl⟩ (fun H locs hP hD hS => ?_)
    refine lv_if_eq (tgt := 36) hx hb dX12_readLine_29 (by decide) (fun t29 => ?_) (fun t29 => ?_)
    · have hf := (if_pos t29).symm.trans hf
      refine lv_aload_n hx hb dX12_readLine_36 rfl (lv_at hl 1 rfl) ?_
      refine lv_ldcSw (q := g.2.2 (100 + 12)) hx hb hown ((hXo.2.2.2 _ _ _ hXX).2.2.2.2.2.2.2.2.2 (264, "rest", 12) (by decide)) dX12_readLine_37 ?_
      obtain ⟨q10, hq10, hf⟩ := bi_s hf
      refine bk_VI (wf := mw) (q0 := 0) (ci := 11) (rest := []) [.ref (g.2.2 (100 + 12))] C hP hD hS hl.1 (c_X12_is hXo hq10) (cwA_V 1 hts wa_546 wa_543 wa_544 wa_545 wa_5 rfl rfl nd_X12_is ⟨Nat.le_of_ble_eq_true rfl, Nat.le_of_ble_eq_true rfl⟩) rfl rfl rfl rfl (Nat.le_of_ble_eq_true rfl) dX12_readLine_40 ⟨Nat.le_of_ble_eq_true rfl, Nat.le_of_ble_eq_true rfl⟩ (fun H locs hP hD hS => ?_)
      refine lv_if_eq (tgt := 50) hx hb dX12_readLine_43 (by decide) (fun t43 => ?_) (fun t43 => ?_)
      · have hf := (if_pos t43).symm.trans hf
        refine lv_aload_n hx hb dX12_readLine_50 rfl (lv_at hl 1 rfl) ?_
        refine lv_ldcSw (q := g.2.2 (100 + 13)) hx hb hown ((hXo.2.2.2 _ _ _ hXX).2.2.2.2.2.2.2.2.2 (266, "minds", 13) (by decide)) dX12_readLine_51 ?_
        obtain ⟨q11, hq11, hf⟩ := bi_s hf
        refine bk_VI (wf := mw) (q0 := 0) (ci := 11) (rest := []) [.ref (g.2.2 (100 + 13))] C hP hD hS hl.1 (c_X12_is hXo hq11) (cwA_V 1 hts wa_546 wa_543 wa_544 wa_545 wa_5 rfl rfl nd_X12_is ⟨Nat.le_of_ble_eq_true rfl, Nat.le_of_ble_eq_true rfl⟩) rfl rfl rfl rfl (Nat.le_of_ble_eq_true rfl) dX12_readLine_54 ⟨Nat.le_of_ble_eq_true rfl, Nat.le_of_ble_eq_true rfl⟩ (fun H locs hP hD hS => ?_)
        refine lv_if_eq (tgt := 65) hx hb dX12_readLine_57 (by decide) (fun t57 => ?_) (fun t57 => ?_)
        · have hf := (if_pos t57).symm.trans hf
          refine lv_iconst (v := (0 : Int32)) hx hb dX12_readLine_65 (by decide) ?_
          exact b_X12_readLine_b66 C hf H locs ls hP hD hS (lv_sub hl [1, 2, 0] rfl)
        · have hf := (if_neg t57).symm.trans hf
          refine lv_bipush (v := (8 : Int32)) hx hb dX12_readLine_60 (by decide) ?_
          refine lv_goto (tgt := 66) hx hb dX12_readLine_62 (by decide) ?_
          exact b_X12_readLine_b66 C hf H locs ls hP hD hS (lv_sub hl [1, 2, 0] rfl)
      · have hf := (if_neg t43).symm.trans hf
        refine lv_iconst (v := (4 : Int32)) hx hb dX12_readLine_46 (by decide) ?_
        refine lv_goto (tgt := 66) hx hb dX12_readLine_47 (by decide) ?_
        exact b_X12_readLine_b66 C hf H locs ls hP hD hS (lv_sub hl [1, 2, 0] rfl)
    · have hf := (if_neg t29).symm.trans hf
      refine lv_iconst (v := (2 : Int32)) hx hb dX12_readLine_32 (by decide) ?_
      refine lv_goto (tgt := 66) hx hb dX12_readLine_33 (by decide) ?_
      exact b_X12_readLine_b66 C hf H locs ls hP hD hS (lv_sub hl [1, 2, 0] rfl)
  · have hf := (if_neg t15).symm.trans hf
    refine lv_iconst (v := (1 : Int32)) hx hb dX12_readLine_18 (by decide) ?_
    refine lv_goto (tgt := 66) hx hb dX12_readLine_19 (by decide) ?_
    exact b_X12_readLine_b66 C hf H locs ls hP hD hS (lv_sub hl [1, 2, 0] rfl)
theorem c_X12_readLine {N : Nat} {x1 : Int32} {σ : Sg} {z : Int32 × Sg} (hX : xOK g X) (hf : f_X12_readLine N x1 σ = some z) : MetI l yX12_readLine (Cond.code yX12_readLine cX12_readLine 4 (some .int) :: wsA) rm_X12_readLine mw g X [.ref (g.2.2 0), .int x1] σ z.1 z.2 :=
  MetI_of hX (by decide) (Nat.le_of_ble_eq_true rfl) (fun p e s m args below meth c A C => b_X12_readLine C hf)
-- X12_takeHalf_3: takeHalf([I)V
abbrev rm_X12_takeHalf_3 : Room := { frames := 0, cells := 0, slots := 0, locals := 0 }
theorem nd_X12_takeHalf : yX12_takeHalf.cls ≠ "java/lang/invoke/MethodHandle" ∧ yX12_takeHalf.cls ≠ "java/lang/invoke/VarHandle" ∧ (parseMethodDescriptor yX12_takeHalf.desc).map (fun d => d.parameters.length) = some 1 := by decide +kernel
def s_X12_takeHalf_3_h2 (N : Nat) (x1 : Int32) (σ : Sg) : Option (Nat × Int32 × Sg) :=
if ((10 : Int32) / (2 : Int32)) ≤ x1 then (some (1, 0, σ))
else (if ((((10 : Int32) / (2 : Int32)) + x1) < 0 ∨ 10 ≤ (((10 : Int32) / (2 : Int32)) + x1).toNatClampNeg) then none else
if (x1 < 0 ∨ 10 ≤ x1.toNatClampNeg) then none else
bd (wr σ 3 (x1.toNatClampNeg) (σ 3 (((10 : Int32) / (2 : Int32)) + x1).toNatClampNeg)) fun σ3 =>
bd (x1 + (1 : Int32)) fun v4 =>
some (0, v4, σ3))
set_option maxHeartbeats 4000000 in
set_option maxRecDepth 100000 in
theorem e_X12_takeHalf_3_h2 {N : Nat} {x1 : Int32} {σ : Sg} {z : Nat × Int32 × Sg} (C : Cx p s m args meth c cX12_takeHalf 2 none RX12 g A X) (hf : s_X12_takeHalf_3_h2 N x1 σ = some z) (k0 : z.1 = 0 → Bk mw p l e rm_X12_takeHalf_3 s m args below meth c 2 g A Q 0 0 2 [(0, .ref (g.2.2 3)), (1, .int z.2.1)] [] z.2.2) (k : ¬ z.1 = 0 → Bk mw p l e rm_X12_takeHalf_3 s m args below meth c 2 g A Q 0 0 27 [] [] z.2.2) : Bk mw p l e rm_X12_takeHalf_3 s m args below meth c 2 g A Q 0 0 2 [(0, .ref (g.2.2 3)), (1, .int x1)] [] σ := by
  obtain ⟨hx, hb, hr, hml, hown, hts, hK, hlocks, hXX, hA, hXo⟩ := id C
  intro H locs ls hP hD hS hl
  unfold s_X12_takeHalf_3_h2 at hf
  refine lv_iload_n hx hb dX12_takeHalf_2 rfl (lv_at hl 1 rfl) ?_
  refine lv_aload_n hx hb dX12_takeHalf_3 rfl (lv_at hl 0 rfl) ?_
  refine bk_alen (wf := mw) (q0 := 3) (t0 := 0) (v := (10 : Int32)) C hP rfl rfl (show Int32.ofNat 10 = (10 : Int32) by decide) dX12_takeHalf_4 ?_
  refine lv_iconst (v := (2 : Int32)) hx hb dX12_takeHalf_5 (by decide) ?_
  refine lv_idiv hx hb dX12_takeHalf_6 (by decide) ?_
  refine lv_icmp_ge (tgt := 27) hx hb dX12_takeHalf_7 (by decide) (fun t7 => ?_) (fun t7 => ?_)
  · have hf := (if_pos t7).symm.trans hf
    cases hf
    exact (k (show ¬ (1 : Nat) = 0 by decide)) H locs ls hP hD hS (lv_sub hl [] rfl)
  · have hf := (if_neg t7).symm.trans hf
    refine lv_aload_n hx hb dX12_takeHalf_10 rfl (lv_at hl 0 rfl) ?_
    refine lv_iload_n hx hb dX12_takeHalf_11 rfl (lv_at hl 1 rfl) ?_
    refine lv_aload_n hx hb dX12_takeHalf_12 rfl (lv_at hl 0 rfl) ?_
    refine lv_aload_n hx hb dX12_takeHalf_13 rfl (lv_at hl 0 rfl) ?_
    refine bk_alen (wf := mw) (q0 := 3) (t0 := 0) (v := (10 : Int32)) C hP rfl rfl (show Int32.ofNat 10 = (10 : Int32) by decide) dX12_takeHalf_14 ?_
    refine lv_iconst (v := (2 : Int32)) hx hb dX12_takeHalf_15 (by decide) ?_
    refine lv_idiv hx hb dX12_takeHalf_16 (by decide) ?_
    refine lv_iload_n hx hb dX12_takeHalf_17 rfl (lv_at hl 1 rfl) ?_
    refine lv_iadd hx hb dX12_takeHalf_18 ?_
    obtain ⟨g1, hf⟩ := gd_s hf
    refine bk_iald (wf := mw) (q0 := 3) (n := 10) (j := (((10 : Int32) / (2 : Int32)) + x1).toNatClampNeg) C hP rfl g1 rfl dX12_takeHalf_19 ?_
    obtain ⟨g2, hf⟩ := gd_s hf
    obtain ⟨σ3, eσ3, hf⟩ := bd_s hf
    refine bk_iast (wf := mw) (σ1 := σ3) (q0 := 3) (n := 10) (j := x1.toNatClampNeg) C hP hD hS rfl g2 rfl (by rw [eσ3]; exact mw_a3 g _ _ _) dX12_takeHalf_20 (fun H locs hP hD hS => ?_)
    obtain ⟨v4, ev4, hf⟩ := bd_s hf
    refine lv_iinc (v := v4) (lv' := [(1, .int v4), (0, .ref (g.2.2 3))]) hx hb dX12_takeHalf_21 hl (k := 1) rfl (by rw [ev4]; rfl) (by decide) rfl (fun ls hl => ?_)
    refine lv_goto (tgt := 2) hx hb dX12_takeHalf_24 (by decide) ?_
    cases hf
    exact k0 rfl H locs ls hP hD hS (lv_sub hl [1, 0] rfl)
theorem lp_X12_takeHalf_3_h2 {N : Nat} {n : Nat} {x1 : Int32} {σ : Sg} {z : Nat × Int32 × Sg} (C : Cx p s m args meth c cX12_takeHalf 2 none RX12 g A X) (hz : it (fun q => s_X12_takeHalf_3_h2 N q.1 q.2) n (x1, σ) = some z) (k : Bk mw p l e rm_X12_takeHalf_3 s m args below meth c 2 g A Q 0 0 27 [] [] z.2.2) : Bk mw p l e rm_X12_takeHalf_3 s m args below meth c 2 g A Q 0 0 2 [(0, .ref (g.2.2 3)), (1, .int x1)] [] σ :=
  it_W (S := Int32 × Sg) (fun q => Bk mw p l e rm_X12_takeHalf_3 s m args below meth c 2 g A Q 0 0 2 [(0, .ref (g.2.2 3)), (1, .int q.1)] [] q.2) (fun z => Bk mw p l e rm_X12_takeHalf_3 s m args below meth c 2 g A Q 0 0 27 [] [] z.2.2) (fun q z hq k0 k => e_X12_takeHalf_3_h2 C hq k0 k) n (x1, σ) z hz k
def f_X12_takeHalf_3 (N : Nat) (σ : Sg) : Option (Sg) :=
(it (fun q => s_X12_takeHalf_3_h2 N q.1 q.2) N ((0 : Int32), σ)).bind fun z5 =>
some (z5.2.2)
set_option maxHeartbeats 4000000 in
set_option maxRecDepth 100000 in
theorem b_X12_takeHalf_3 {N : Nat} {σ : Sg} {z : Sg} (C : Cx p s m args meth c cX12_takeHalf 2 none RX12 g A X) (hf : f_X12_takeHalf_3 N σ = some z) : Bk mw p l e rm_X12_takeHalf_3 s m args below meth c 2 g A (MQ below (qV mw g A z) args s 0 0 A) 0 0 0 [(0, .ref (g.2.2 3))] [] σ := by
  obtain ⟨hx, hb, hr, hml, hown, hts, hK, hlocks, hXX, hA, hXo⟩ := id C
  intro H locs ls hP hD hS hl
  unfold f_X12_takeHalf_3 at hf
  refine lv_iconst (v := (0 : Int32)) hx hb dX12_takeHalf_0 (by decide) ?_
  refine lv_istore_n (lv' := [(1, .int (0 : Int32)), (0, .ref (g.2.2 3))]) hx hb dX12_takeHalf_1 rfl hl (by decide) rfl (fun ls hl => ?_)
  obtain ⟨z5, hz5, hf⟩ := bi_s hf
  refine lp_X12_takeHalf_3_h2 C hz5 ?_ H locs ls hP hD hS (lv_sub hl [1, 0] rfl)
  intro H locs ls hP hD hS hl
  cases hf
  exact bk_vret C hP hD hS rfl dX12_takeHalf_27
theorem c_X12_takeHalf_3 {N : Nat} {σ : Sg} {z : Sg} (hX : xOK g X) (hf : f_X12_takeHalf_3 N σ = some z) : MetV l yX12_takeHalf (Cond.code yX12_takeHalf cX12_takeHalf 2 none :: wsA) rm_X12_takeHalf_3 mw g X [.ref (g.2.2 3)] σ z :=
  MetV_of hX (by decide) (Nat.le_of_ble_eq_true rfl) (fun p e s m args below meth c A C => b_X12_takeHalf_3 C hf)
-- X12_takeHalf_4: takeHalf([I)V
abbrev rm_X12_takeHalf_4 : Room := { frames := 0, cells := 0, slots := 0, locals := 0 }
def s_X12_takeHalf_4_h2 (N : Nat) (x1 : Int32) (σ : Sg) : Option (Nat × Int32 × Sg) :=
if ((18 : Int32) / (2 : Int32)) ≤ x1 then (some (1, 0, σ))
else (if ((((18 : Int32) / (2 : Int32)) + x1) < 0 ∨ 18 ≤ (((18 : Int32) / (2 : Int32)) + x1).toNatClampNeg) then none else
if (x1 < 0 ∨ 18 ≤ x1.toNatClampNeg) then none else
bd (wr σ 4 (x1.toNatClampNeg) (σ 4 (((18 : Int32) / (2 : Int32)) + x1).toNatClampNeg)) fun σ3 =>
bd (x1 + (1 : Int32)) fun v4 =>
some (0, v4, σ3))
set_option maxHeartbeats 4000000 in
set_option maxRecDepth 100000 in
theorem e_X12_takeHalf_4_h2 {N : Nat} {x1 : Int32} {σ : Sg} {z : Nat × Int32 × Sg} (C : Cx p s m args meth c cX12_takeHalf 2 none RX12 g A X) (hf : s_X12_takeHalf_4_h2 N x1 σ = some z) (k0 : z.1 = 0 → Bk mw p l e rm_X12_takeHalf_4 s m args below meth c 2 g A Q 0 0 2 [(0, .ref (g.2.2 4)), (1, .int z.2.1)] [] z.2.2) (k : ¬ z.1 = 0 → Bk mw p l e rm_X12_takeHalf_4 s m args below meth c 2 g A Q 0 0 27 [] [] z.2.2) : Bk mw p l e rm_X12_takeHalf_4 s m args below meth c 2 g A Q 0 0 2 [(0, .ref (g.2.2 4)), (1, .int x1)] [] σ := by
  obtain ⟨hx, hb, hr, hml, hown, hts, hK, hlocks, hXX, hA, hXo⟩ := id C
  intro H locs ls hP hD hS hl
  unfold s_X12_takeHalf_4_h2 at hf
  refine lv_iload_n hx hb dX12_takeHalf_2 rfl (lv_at hl 1 rfl) ?_
  refine lv_aload_n hx hb dX12_takeHalf_3 rfl (lv_at hl 0 rfl) ?_
  refine bk_alen (wf := mw) (q0 := 4) (t0 := 0) (v := (18 : Int32)) C hP rfl rfl (show Int32.ofNat 18 = (18 : Int32) by decide) dX12_takeHalf_4 ?_
  refine lv_iconst (v := (2 : Int32)) hx hb dX12_takeHalf_5 (by decide) ?_
  refine lv_idiv hx hb dX12_takeHalf_6 (by decide) ?_
  refine lv_icmp_ge (tgt := 27) hx hb dX12_takeHalf_7 (by decide) (fun t7 => ?_) (fun t7 => ?_)
  · have hf := (if_pos t7).symm.trans hf
    cases hf
    exact (k (show ¬ (1 : Nat) = 0 by decide)) H locs ls hP hD hS (lv_sub hl [] rfl)
  · have hf := (if_neg t7).symm.trans hf
    refine lv_aload_n hx hb dX12_takeHalf_10 rfl (lv_at hl 0 rfl) ?_
    refine lv_iload_n hx hb dX12_takeHalf_11 rfl (lv_at hl 1 rfl) ?_
    refine lv_aload_n hx hb dX12_takeHalf_12 rfl (lv_at hl 0 rfl) ?_
    refine lv_aload_n hx hb dX12_takeHalf_13 rfl (lv_at hl 0 rfl) ?_
    refine bk_alen (wf := mw) (q0 := 4) (t0 := 0) (v := (18 : Int32)) C hP rfl rfl (show Int32.ofNat 18 = (18 : Int32) by decide) dX12_takeHalf_14 ?_
    refine lv_iconst (v := (2 : Int32)) hx hb dX12_takeHalf_15 (by decide) ?_
    refine lv_idiv hx hb dX12_takeHalf_16 (by decide) ?_
    refine lv_iload_n hx hb dX12_takeHalf_17 rfl (lv_at hl 1 rfl) ?_
    refine lv_iadd hx hb dX12_takeHalf_18 ?_
    obtain ⟨g1, hf⟩ := gd_s hf
    refine bk_iald (wf := mw) (q0 := 4) (n := 18) (j := (((18 : Int32) / (2 : Int32)) + x1).toNatClampNeg) C hP rfl g1 rfl dX12_takeHalf_19 ?_
    obtain ⟨g2, hf⟩ := gd_s hf
    obtain ⟨σ3, eσ3, hf⟩ := bd_s hf
    refine bk_iast (wf := mw) (σ1 := σ3) (q0 := 4) (n := 18) (j := x1.toNatClampNeg) C hP hD hS rfl g2 rfl (by rw [eσ3]; exact mw_a4 g _ _ _) dX12_takeHalf_20 (fun H locs hP hD hS => ?_)
    obtain ⟨v4, ev4, hf⟩ := bd_s hf
    refine lv_iinc (v := v4) (lv' := [(1, .int v4), (0, .ref (g.2.2 4))]) hx hb dX12_takeHalf_21 hl (k := 1) rfl (by rw [ev4]; rfl) (by decide) rfl (fun ls hl => ?_)
    refine lv_goto (tgt := 2) hx hb dX12_takeHalf_24 (by decide) ?_
    cases hf
    exact k0 rfl H locs ls hP hD hS (lv_sub hl [1, 0] rfl)
theorem lp_X12_takeHalf_4_h2 {N : Nat} {n : Nat} {x1 : Int32} {σ : Sg} {z : Nat × Int32 × Sg} (C : Cx p s m args meth c cX12_takeHalf 2 none RX12 g A X) (hz : it (fun q => s_X12_takeHalf_4_h2 N q.1 q.2) n (x1, σ) = some z) (k : Bk mw p l e rm_X12_takeHalf_4 s m args below meth c 2 g A Q 0 0 27 [] [] z.2.2) : Bk mw p l e rm_X12_takeHalf_4 s m args below meth c 2 g A Q 0 0 2 [(0, .ref (g.2.2 4)), (1, .int x1)] [] σ :=
  it_W (S := Int32 × Sg) (fun q => Bk mw p l e rm_X12_takeHalf_4 s m args below meth c 2 g A Q 0 0 2 [(0, .ref (g.2.2 4)), (1, .int q.1)] [] q.2) (fun z => Bk mw p l e rm_X12_takeHalf_4 s m args below meth c 2 g A Q 0 0 27 [] [] z.2.2) (fun q z hq k0 k => e_X12_takeHalf_4_h2 C hq k0 k) n (x1, σ) z hz k
def f_X12_takeHalf_4 (N : Nat) (σ : Sg) : Option (Sg) :=
(it (fun q => s_X12_takeHalf_4_h2 N q.1 q.2) N ((0 : Int32), σ)).bind fun z5 =>
some (z5.2.2)
set_option maxHeartbeats 4000000 in
set_option maxRecDepth 100000 in
theorem b_X12_takeHalf_4 {N : Nat} {σ : Sg} {z : Sg} (C : Cx p s m args meth c cX12_takeHalf 2 none RX12 g A X) (hf : f_X12_takeHalf_4 N σ = some z) : Bk mw p l e rm_X12_takeHalf_4 s m args below meth c 2 g A (MQ below (qV mw g A z) args s 0 0 A) 0 0 0 [(0, .ref (g.2.2 4))] [] σ := by
  obtain ⟨hx, hb, hr, hml, hown, hts, hK, hlocks, hXX, hA, hXo⟩ := id C
  intro H locs ls hP hD hS hl
  unfold f_X12_takeHalf_4 at hf
  refine lv_iconst (v := (0 : Int32)) hx hb dX12_takeHalf_0 (by decide) ?_
  refine lv_istore_n (lv' := [(1, .int (0 : Int32)), (0, .ref (g.2.2 4))]) hx hb dX12_takeHalf_1 rfl hl (by decide) rfl (fun ls hl => ?_)
  obtain ⟨z5, hz5, hf⟩ := bi_s hf
  refine lp_X12_takeHalf_4_h2 C hz5 ?_ H locs ls hP hD hS (lv_sub hl [1, 0] rfl)
  intro H locs ls hP hD hS hl
  cases hf
  exact bk_vret C hP hD hS rfl dX12_takeHalf_27
theorem c_X12_takeHalf_4 {N : Nat} {σ : Sg} {z : Sg} (hX : xOK g X) (hf : f_X12_takeHalf_4 N σ = some z) : MetV l yX12_takeHalf (Cond.code yX12_takeHalf cX12_takeHalf 2 none :: wsA) rm_X12_takeHalf_4 mw g X [.ref (g.2.2 4)] σ z :=
  MetV_of hX (by decide) (Nat.le_of_ble_eq_true rfl) (fun p e s m args below meth c A C => b_X12_takeHalf_4 C hf)
-- X12_takeHalf_5: takeHalf([I)V
abbrev rm_X12_takeHalf_5 : Room := { frames := 0, cells := 0, slots := 0, locals := 0 }
def s_X12_takeHalf_5_h2 (N : Nat) (x1 : Int32) (σ : Sg) : Option (Nat × Int32 × Sg) :=
if ((18 : Int32) / (2 : Int32)) ≤ x1 then (some (1, 0, σ))
else (if ((((18 : Int32) / (2 : Int32)) + x1) < 0 ∨ 18 ≤ (((18 : Int32) / (2 : Int32)) + x1).toNatClampNeg) then none else
if (x1 < 0 ∨ 18 ≤ x1.toNatClampNeg) then none else
bd (wr σ 5 (x1.toNatClampNeg) (σ 5 (((18 : Int32) / (2 : Int32)) + x1).toNatClampNeg)) fun σ3 =>
bd (x1 + (1 : Int32)) fun v4 =>
some (0, v4, σ3))
set_option maxHeartbeats 4000000 in
set_option maxRecDepth 100000 in
theorem e_X12_takeHalf_5_h2 {N : Nat} {x1 : Int32} {σ : Sg} {z : Nat × Int32 × Sg} (C : Cx p s m args meth c cX12_takeHalf 2 none RX12 g A X) (hf : s_X12_takeHalf_5_h2 N x1 σ = some z) (k0 : z.1 = 0 → Bk mw p l e rm_X12_takeHalf_5 s m args below meth c 2 g A Q 0 0 2 [(0, .ref (g.2.2 5)), (1, .int z.2.1)] [] z.2.2) (k : ¬ z.1 = 0 → Bk mw p l e rm_X12_takeHalf_5 s m args below meth c 2 g A Q 0 0 27 [] [] z.2.2) : Bk mw p l e rm_X12_takeHalf_5 s m args below meth c 2 g A Q 0 0 2 [(0, .ref (g.2.2 5)), (1, .int x1)] [] σ := by
  obtain ⟨hx, hb, hr, hml, hown, hts, hK, hlocks, hXX, hA, hXo⟩ := id C
  intro H locs ls hP hD hS hl
  unfold s_X12_takeHalf_5_h2 at hf
  refine lv_iload_n hx hb dX12_takeHalf_2 rfl (lv_at hl 1 rfl) ?_
  refine lv_aload_n hx hb dX12_takeHalf_3 rfl (lv_at hl 0 rfl) ?_
  refine bk_alen (wf := mw) (q0 := 5) (t0 := 0) (v := (18 : Int32)) C hP rfl rfl (show Int32.ofNat 18 = (18 : Int32) by decide) dX12_takeHalf_4 ?_
  refine lv_iconst (v := (2 : Int32)) hx hb dX12_takeHalf_5 (by decide) ?_
  refine lv_idiv hx hb dX12_takeHalf_6 (by decide) ?_
  refine lv_icmp_ge (tgt := 27) hx hb dX12_takeHalf_7 (by decide) (fun t7 => ?_) (fun t7 => ?_)
  · have hf := (if_pos t7).symm.trans hf
    cases hf
    exact (k (show ¬ (1 : Nat) = 0 by decide)) H locs ls hP hD hS (lv_sub hl [] rfl)
  · have hf := (if_neg t7).symm.trans hf
    refine lv_aload_n hx hb dX12_takeHalf_10 rfl (lv_at hl 0 rfl) ?_
    refine lv_iload_n hx hb dX12_takeHalf_11 rfl (lv_at hl 1 rfl) ?_
    refine lv_aload_n hx hb dX12_takeHalf_12 rfl (lv_at hl 0 rfl) ?_
    refine lv_aload_n hx hb dX12_takeHalf_13 rfl (lv_at hl 0 rfl) ?_
    refine bk_alen (wf := mw) (q0 := 5) (t0 := 0) (v := (18 : Int32)) C hP rfl rfl (show Int32.ofNat 18 = (18 : Int32) by decide) dX12_takeHalf_14 ?_
    refine lv_iconst (v := (2 : Int32)) hx hb dX12_takeHalf_15 (by decide) ?_
    refine lv_idiv hx hb dX12_takeHalf_16 (by decide) ?_
    refine lv_iload_n hx hb dX12_takeHalf_17 rfl (lv_at hl 1 rfl) ?_
    refine lv_iadd hx hb dX12_takeHalf_18 ?_
    obtain ⟨g1, hf⟩ := gd_s hf
    refine bk_iald (wf := mw) (q0 := 5) (n := 18) (j := (((18 : Int32) / (2 : Int32)) + x1).toNatClampNeg) C hP rfl g1 rfl dX12_takeHalf_19 ?_
    obtain ⟨g2, hf⟩ := gd_s hf
    obtain ⟨σ3, eσ3, hf⟩ := bd_s hf
    refine bk_iast (wf := mw) (σ1 := σ3) (q0 := 5) (n := 18) (j := x1.toNatClampNeg) C hP hD hS rfl g2 rfl (by rw [eσ3]; exact mw_a5 g _ _ _) dX12_takeHalf_20 (fun H locs hP hD hS => ?_)
    obtain ⟨v4, ev4, hf⟩ := bd_s hf
    refine lv_iinc (v := v4) (lv' := [(1, .int v4), (0, .ref (g.2.2 5))]) hx hb dX12_takeHalf_21 hl (k := 1) rfl (by rw [ev4]; rfl) (by decide) rfl (fun ls hl => ?_)
    refine lv_goto (tgt := 2) hx hb dX12_takeHalf_24 (by decide) ?_
    cases hf
    exact k0 rfl H locs ls hP hD hS (lv_sub hl [1, 0] rfl)
theorem lp_X12_takeHalf_5_h2 {N : Nat} {n : Nat} {x1 : Int32} {σ : Sg} {z : Nat × Int32 × Sg} (C : Cx p s m args meth c cX12_takeHalf 2 none RX12 g A X) (hz : it (fun q => s_X12_takeHalf_5_h2 N q.1 q.2) n (x1, σ) = some z) (k : Bk mw p l e rm_X12_takeHalf_5 s m args below meth c 2 g A Q 0 0 27 [] [] z.2.2) : Bk mw p l e rm_X12_takeHalf_5 s m args below meth c 2 g A Q 0 0 2 [(0, .ref (g.2.2 5)), (1, .int x1)] [] σ :=
  it_W (S := Int32 × Sg) (fun q => Bk mw p l e rm_X12_takeHalf_5 s m args below meth c 2 g A Q 0 0 2 [(0, .ref (g.2.2 5)), (1, .int q.1)] [] q.2) (fun z => Bk mw p l e rm_X12_takeHalf_5 s m args below meth c 2 g A Q 0 0 27 [] [] z.2.2) (fun q z hq k0 k => e_X12_takeHalf_5_h2 C hq k0 k) n (x1, σ) z hz k
def f_X12_takeHalf_5 (N : Nat) (σ : Sg) : Option (Sg) :=
(it (fun q => s_X12_takeHalf_5_h2 N q.1 q.2) N ((0 : Int32), σ)).bind fun z5 =>
some (z5.2.2)
set_option maxHeartbeats 4000000 in
set_option maxRecDepth 100000 in
theorem b_X12_takeHalf_5 {N : Nat} {σ : Sg} {z : Sg} (C : Cx p s m args meth c cX12_takeHalf 2 none RX12 g A X) (hf : f_X12_takeHalf_5 N σ = some z) : Bk mw p l e rm_X12_takeHalf_5 s m args below meth c 2 g A (MQ below (qV mw g A z) args s 0 0 A) 0 0 0 [(0, .ref (g.2.2 5))] [] σ := by
  obtain ⟨hx, hb, hr, hml, hown, hts, hK, hlocks, hXX, hA, hXo⟩ := id C
  intro H locs ls hP hD hS hl
  unfold f_X12_takeHalf_5 at hf
  refine lv_iconst (v := (0 : Int32)) hx hb dX12_takeHalf_0 (by decide) ?_
  refine lv_istore_n (lv' := [(1, .int (0 : Int32)), (0, .ref (g.2.2 5))]) hx hb dX12_takeHalf_1 rfl hl (by decide) rfl (fun ls hl => ?_)
  obtain ⟨z5, hz5, hf⟩ := bi_s hf
  refine lp_X12_takeHalf_5_h2 C hz5 ?_ H locs ls hP hD hS (lv_sub hl [1, 0] rfl)
  intro H locs ls hP hD hS hl
  cases hf
  exact bk_vret C hP hD hS rfl dX12_takeHalf_27
theorem c_X12_takeHalf_5 {N : Nat} {σ : Sg} {z : Sg} (hX : xOK g X) (hf : f_X12_takeHalf_5 N σ = some z) : MetV l yX12_takeHalf (Cond.code yX12_takeHalf cX12_takeHalf 2 none :: wsA) rm_X12_takeHalf_5 mw g X [.ref (g.2.2 5)] σ z :=
  MetV_of hX (by decide) (Nat.le_of_ble_eq_true rfl) (fun p e s m args below meth c A C => b_X12_takeHalf_5 C hf)
-- X12_takeHalf_6: takeHalf([I)V
abbrev rm_X12_takeHalf_6 : Room := { frames := 0, cells := 0, slots := 0, locals := 0 }
def s_X12_takeHalf_6_h2 (N : Nat) (x1 : Int32) (σ : Sg) : Option (Nat × Int32 × Sg) :=
if ((18 : Int32) / (2 : Int32)) ≤ x1 then (some (1, 0, σ))
else (if ((((18 : Int32) / (2 : Int32)) + x1) < 0 ∨ 18 ≤ (((18 : Int32) / (2 : Int32)) + x1).toNatClampNeg) then none else
if (x1 < 0 ∨ 18 ≤ x1.toNatClampNeg) then none else
bd (wr σ 6 (x1.toNatClampNeg) (σ 6 (((18 : Int32) / (2 : Int32)) + x1).toNatClampNeg)) fun σ3 =>
bd (x1 + (1 : Int32)) fun v4 =>
some (0, v4, σ3))
set_option maxHeartbeats 4000000 in
set_option maxRecDepth 100000 in
theorem e_X12_takeHalf_6_h2 {N : Nat} {x1 : Int32} {σ : Sg} {z : Nat × Int32 × Sg} (C : Cx p s m args meth c cX12_takeHalf 2 none RX12 g A X) (hf : s_X12_takeHalf_6_h2 N x1 σ = some z) (k0 : z.1 = 0 → Bk mw p l e rm_X12_takeHalf_6 s m args below meth c 2 g A Q 0 0 2 [(0, .ref (g.2.2 6)), (1, .int z.2.1)] [] z.2.2) (k : ¬ z.1 = 0 → Bk mw p l e rm_X12_takeHalf_6 s m args below meth c 2 g A Q 0 0 27 [] [] z.2.2) : Bk mw p l e rm_X12_takeHalf_6 s m args below meth c 2 g A Q 0 0 2 [(0, .ref (g.2.2 6)), (1, .int x1)] [] σ := by
  obtain ⟨hx, hb, hr, hml, hown, hts, hK, hlocks, hXX, hA, hXo⟩ := id C
  intro H locs ls hP hD hS hl
  unfold s_X12_takeHalf_6_h2 at hf
  refine lv_iload_n hx hb dX12_takeHalf_2 rfl (lv_at hl 1 rfl) ?_
  refine lv_aload_n hx hb dX12_takeHalf_3 rfl (lv_at hl 0 rfl) ?_
  refine bk_alen (wf := mw) (q0 := 6) (t0 := 0) (v := (18 : Int32)) C hP rfl rfl (show Int32.ofNat 18 = (18 : Int32) by decide) dX12_takeHalf_4 ?_
  refine lv_iconst (v := (2 : Int32)) hx hb dX12_takeHalf_5 (by decide) ?_
  refine lv_idiv hx hb dX12_takeHalf_6 (by decide) ?_
  refine lv_icmp_ge (tgt := 27) hx hb dX12_takeHalf_7 (by decide) (fun t7 => ?_) (fun t7 => ?_)
  · have hf := (if_pos t7).symm.trans hf
    cases hf
    exact (k (show ¬ (1 : Nat) = 0 by decide)) H locs ls hP hD hS (lv_sub hl [] rfl)
  · have hf := (if_neg t7).symm.trans hf
    refine lv_aload_n hx hb dX12_takeHalf_10 rfl (lv_at hl 0 rfl) ?_
    refine lv_iload_n hx hb dX12_takeHalf_11 rfl (lv_at hl 1 rfl) ?_
    refine lv_aload_n hx hb dX12_takeHalf_12 rfl (lv_at hl 0 rfl) ?_
    refine lv_aload_n hx hb dX12_takeHalf_13 rfl (lv_at hl 0 rfl) ?_
    refine bk_alen (wf := mw) (q0 := 6) (t0 := 0) (v := (18 : Int32)) C hP rfl rfl (show Int32.ofNat 18 = (18 : Int32) by decide) dX12_takeHalf_14 ?_
    refine lv_iconst (v := (2 : Int32)) hx hb dX12_takeHalf_15 (by decide) ?_
    refine lv_idiv hx hb dX12_takeHalf_16 (by decide) ?_
    refine lv_iload_n hx hb dX12_takeHalf_17 rfl (lv_at hl 1 rfl) ?_
    refine lv_iadd hx hb dX12_takeHalf_18 ?_
    obtain ⟨g1, hf⟩ := gd_s hf
    refine bk_iald (wf := mw) (q0 := 6) (n := 18) (j := (((18 : Int32) / (2 : Int32)) + x1).toNatClampNeg) C hP rfl g1 rfl dX12_takeHalf_19 ?_
    obtain ⟨g2, hf⟩ := gd_s hf
    obtain ⟨σ3, eσ3, hf⟩ := bd_s hf
    refine bk_iast (wf := mw) (σ1 := σ3) (q0 := 6) (n := 18) (j := x1.toNatClampNeg) C hP hD hS rfl g2 rfl (by rw [eσ3]; exact mw_a6 g _ _ _) dX12_takeHalf_20 (fun H locs hP hD hS => ?_)
    obtain ⟨v4, ev4, hf⟩ := bd_s hf
    refine lv_iinc (v := v4) (lv' := [(1, .int v4), (0, .ref (g.2.2 6))]) hx hb dX12_takeHalf_21 hl (k := 1) rfl (by rw [ev4]; rfl) (by decide) rfl (fun ls hl => ?_)
    refine lv_goto (tgt := 2) hx hb dX12_takeHalf_24 (by decide) ?_
    cases hf
    exact k0 rfl H locs ls hP hD hS (lv_sub hl [1, 0] rfl)
theorem lp_X12_takeHalf_6_h2 {N : Nat} {n : Nat} {x1 : Int32} {σ : Sg} {z : Nat × Int32 × Sg} (C : Cx p s m args meth c cX12_takeHalf 2 none RX12 g A X) (hz : it (fun q => s_X12_takeHalf_6_h2 N q.1 q.2) n (x1, σ) = some z) (k : Bk mw p l e rm_X12_takeHalf_6 s m args below meth c 2 g A Q 0 0 27 [] [] z.2.2) : Bk mw p l e rm_X12_takeHalf_6 s m args below meth c 2 g A Q 0 0 2 [(0, .ref (g.2.2 6)), (1, .int x1)] [] σ :=
  it_W (S := Int32 × Sg) (fun q => Bk mw p l e rm_X12_takeHalf_6 s m args below meth c 2 g A Q 0 0 2 [(0, .ref (g.2.2 6)), (1, .int q.1)] [] q.2) (fun z => Bk mw p l e rm_X12_takeHalf_6 s m args below meth c 2 g A Q 0 0 27 [] [] z.2.2) (fun q z hq k0 k => e_X12_takeHalf_6_h2 C hq k0 k) n (x1, σ) z hz k
def f_X12_takeHalf_6 (N : Nat) (σ : Sg) : Option (Sg) :=
(it (fun q => s_X12_takeHalf_6_h2 N q.1 q.2) N ((0 : Int32), σ)).bind fun z5 =>
some (z5.2.2)
set_option maxHeartbeats 4000000 in
set_option maxRecDepth 100000 in
theorem b_X12_takeHalf_6 {N : Nat} {σ : Sg} {z : Sg} (C : Cx p s m args meth c cX12_takeHalf 2 none RX12 g A X) (hf : f_X12_takeHalf_6 N σ = some z) : Bk mw p l e rm_X12_takeHalf_6 s m args below meth c 2 g A (MQ below (qV mw g A z) args s 0 0 A) 0 0 0 [(0, .ref (g.2.2 6))] [] σ := by
  obtain ⟨hx, hb, hr, hml, hown, hts, hK, hlocks, hXX, hA, hXo⟩ := id C
  intro H locs ls hP hD hS hl
  unfold f_X12_takeHalf_6 at hf
  refine lv_iconst (v := (0 : Int32)) hx hb dX12_takeHalf_0 (by decide) ?_
  refine lv_istore_n (lv' := [(1, .int (0 : Int32)), (0, .ref (g.2.2 6))]) hx hb dX12_takeHalf_1 rfl hl (by decide) rfl (fun ls hl => ?_)
  obtain ⟨z5, hz5, hf⟩ := bi_s hf
  refine lp_X12_takeHalf_6_h2 C hz5 ?_ H locs ls hP hD hS (lv_sub hl [1, 0] rfl)
  intro H locs ls hP hD hS hl
  cases hf
  exact bk_vret C hP hD hS rfl dX12_takeHalf_27
theorem c_X12_takeHalf_6 {N : Nat} {σ : Sg} {z : Sg} (hX : xOK g X) (hf : f_X12_takeHalf_6 N σ = some z) : MetV l yX12_takeHalf (Cond.code yX12_takeHalf cX12_takeHalf 2 none :: wsA) rm_X12_takeHalf_6 mw g X [.ref (g.2.2 6)] σ z :=
  MetV_of hX (by decide) (Nat.le_of_ble_eq_true rfl) (fun p e s m args below meth c A C => b_X12_takeHalf_6 C hf)
-- X12_takeHalf_7: takeHalf([I)V
abbrev rm_X12_takeHalf_7 : Room := { frames := 0, cells := 0, slots := 0, locals := 0 }
def s_X12_takeHalf_7_h2 (N : Nat) (x1 : Int32) (σ : Sg) : Option (Nat × Int32 × Sg) :=
if ((18 : Int32) / (2 : Int32)) ≤ x1 then (some (1, 0, σ))
else (if ((((18 : Int32) / (2 : Int32)) + x1) < 0 ∨ 18 ≤ (((18 : Int32) / (2 : Int32)) + x1).toNatClampNeg) then none else
if (x1 < 0 ∨ 18 ≤ x1.toNatClampNeg) then none else
bd (wr σ 7 (x1.toNatClampNeg) (σ 7 (((18 : Int32) / (2 : Int32)) + x1).toNatClampNeg)) fun σ3 =>
bd (x1 + (1 : Int32)) fun v4 =>
some (0, v4, σ3))
set_option maxHeartbeats 4000000 in
set_option maxRecDepth 100000 in
theorem e_X12_takeHalf_7_h2 {N : Nat} {x1 : Int32} {σ : Sg} {z : Nat × Int32 × Sg} (C : Cx p s m args meth c cX12_takeHalf 2 none RX12 g A X) (hf : s_X12_takeHalf_7_h2 N x1 σ = some z) (k0 : z.1 = 0 → Bk mw p l e rm_X12_takeHalf_7 s m args below meth c 2 g A Q 0 0 2 [(0, .ref (g.2.2 7)), (1, .int z.2.1)] [] z.2.2) (k : ¬ z.1 = 0 → Bk mw p l e rm_X12_takeHalf_7 s m args below meth c 2 g A Q 0 0 27 [] [] z.2.2) : Bk mw p l e rm_X12_takeHalf_7 s m args below meth c 2 g A Q 0 0 2 [(0, .ref (g.2.2 7)), (1, .int x1)] [] σ := by
  obtain ⟨hx, hb, hr, hml, hown, hts, hK, hlocks, hXX, hA, hXo⟩ := id C
  intro H locs ls hP hD hS hl
  unfold s_X12_takeHalf_7_h2 at hf
  refine lv_iload_n hx hb dX12_takeHalf_2 rfl (lv_at hl 1 rfl) ?_
  refine lv_aload_n hx hb dX12_takeHalf_3 rfl (lv_at hl 0 rfl) ?_
  refine bk_alen (wf := mw) (q0 := 7) (t0 := 0) (v := (18 : Int32)) C hP rfl rfl (show Int32.ofNat 18 = (18 : Int32) by decide) dX12_takeHalf_4 ?_
  refine lv_iconst (v := (2 : Int32)) hx hb dX12_takeHalf_5 (by decide) ?_
  refine lv_idiv hx hb dX12_takeHalf_6 (by decide) ?_
  refine lv_icmp_ge (tgt := 27) hx hb dX12_takeHalf_7 (by decide) (fun t7 => ?_) (fun t7 => ?_)
  · have hf := (if_pos t7).symm.trans hf
    cases hf
    exact (k (show ¬ (1 : Nat) = 0 by decide)) H locs ls hP hD hS (lv_sub hl [] rfl)
  · have hf := (if_neg t7).symm.trans hf
    refine lv_aload_n hx hb dX12_takeHalf_10 rfl (lv_at hl 0 rfl) ?_
    refine lv_iload_n hx hb dX12_takeHalf_11 rfl (lv_at hl 1 rfl) ?_
    refine lv_aload_n hx hb dX12_takeHalf_12 rfl (lv_at hl 0 rfl) ?_
    refine lv_aload_n hx hb dX12_takeHalf_13 rfl (lv_at hl 0 rfl) ?_
    refine bk_alen (wf := mw) (q0 := 7) (t0 := 0) (v := (18 : Int32)) C hP rfl rfl (show Int32.ofNat 18 = (18 : Int32) by decide) dX12_takeHalf_14 ?_
    refine lv_iconst (v := (2 : Int32)) hx hb dX12_takeHalf_15 (by decide) ?_
    refine lv_idiv hx hb dX12_takeHalf_16 (by decide) ?_
    refine lv_iload_n hx hb dX12_takeHalf_17 rfl (lv_at hl 1 rfl) ?_
    refine lv_iadd hx hb dX12_takeHalf_18 ?_
    obtain ⟨g1, hf⟩ := gd_s hf
    refine bk_iald (wf := mw) (q0 := 7) (n := 18) (j := (((18 : Int32) / (2 : Int32)) + x1).toNatClampNeg) C hP rfl g1 rfl dX12_takeHalf_19 ?_
    obtain ⟨g2, hf⟩ := gd_s hf
    obtain ⟨σ3, eσ3, hf⟩ := bd_s hf
    refine bk_iast (wf := mw) (σ1 := σ3) (q0 := 7) (n := 18) (j := x1.toNatClampNeg) C hP hD hS rfl g2 rfl (by rw [eσ3]; exact mw_a7 g _ _ _) dX12_takeHalf_20 (fun H locs hP hD hS => ?_)
    obtain ⟨v4, ev4, hf⟩ := bd_s hf
    refine lv_iinc (v := v4) (lv' := [(1, .int v4), (0, .ref (g.2.2 7))]) hx hb dX12_takeHalf_21 hl (k := 1) rfl (by rw [ev4]; rfl) (by decide) rfl (fun ls hl => ?_)
    refine lv_goto (tgt := 2) hx hb dX12_takeHalf_24 (by decide) ?_
    cases hf
    exact k0 rfl H locs ls hP hD hS (lv_sub hl [1, 0] rfl)
theorem lp_X12_takeHalf_7_h2 {N : Nat} {n : Nat} {x1 : Int32} {σ : Sg} {z : Nat × Int32 × Sg} (C : Cx p s m args meth c cX12_takeHalf 2 none RX12 g A X) (hz : it (fun q => s_X12_takeHalf_7_h2 N q.1 q.2) n (x1, σ) = some z) (k : Bk mw p l e rm_X12_takeHalf_7 s m args below meth c 2 g A Q 0 0 27 [] [] z.2.2) : Bk mw p l e rm_X12_takeHalf_7 s m args below meth c 2 g A Q 0 0 2 [(0, .ref (g.2.2 7)), (1, .int x1)] [] σ :=
  it_W (S := Int32 × Sg) (fun q => Bk mw p l e rm_X12_takeHalf_7 s m args below meth c 2 g A Q 0 0 2 [(0, .ref (g.2.2 7)), (1, .int q.1)] [] q.2) (fun z => Bk mw p l e rm_X12_takeHalf_7 s m args below meth c 2 g A Q 0 0 27 [] [] z.2.2) (fun q z hq k0 k => e_X12_takeHalf_7_h2 C hq k0 k) n (x1, σ) z hz k
def f_X12_takeHalf_7 (N : Nat) (σ : Sg) : Option (Sg) :=
(it (fun q => s_X12_takeHalf_7_h2 N q.1 q.2) N ((0 : Int32), σ)).bind fun z5 =>
some (z5.2.2)
set_option maxHeartbeats 4000000 in
set_option maxRecDepth 100000 in
theorem b_X12_takeHalf_7 {N : Nat} {σ : Sg} {z : Sg} (C : Cx p s m args meth c cX12_takeHalf 2 none RX12 g A X) (hf : f_X12_takeHalf_7 N σ = some z) : Bk mw p l e rm_X12_takeHalf_7 s m args below meth c 2 g A (MQ below (qV mw g A z) args s 0 0 A) 0 0 0 [(0, .ref (g.2.2 7))] [] σ := by
  obtain ⟨hx, hb, hr, hml, hown, hts, hK, hlocks, hXX, hA, hXo⟩ := id C
  intro H locs ls hP hD hS hl
  unfold f_X12_takeHalf_7 at hf
  refine lv_iconst (v := (0 : Int32)) hx hb dX12_takeHalf_0 (by decide) ?_
  refine lv_istore_n (lv' := [(1, .int (0 : Int32)), (0, .ref (g.2.2 7))]) hx hb dX12_takeHalf_1 rfl hl (by decide) rfl (fun ls hl => ?_)
  obtain ⟨z5, hz5, hf⟩ := bi_s hf
  refine lp_X12_takeHalf_7_h2 C hz5 ?_ H locs ls hP hD hS (lv_sub hl [1, 0] rfl)
  intro H locs ls hP hD hS hl
  cases hf
  exact bk_vret C hP hD hS rfl dX12_takeHalf_27
theorem c_X12_takeHalf_7 {N : Nat} {σ : Sg} {z : Sg} (hX : xOK g X) (hf : f_X12_takeHalf_7 N σ = some z) : MetV l yX12_takeHalf (Cond.code yX12_takeHalf cX12_takeHalf 2 none :: wsA) rm_X12_takeHalf_7 mw g X [.ref (g.2.2 7)] σ z :=
  MetV_of hX (by decide) (Nat.le_of_ble_eq_true rfl) (fun p e s m args below meth c A C => b_X12_takeHalf_7 C hf)
-- X12_takeHalf_8: takeHalf([I)V
abbrev rm_X12_takeHalf_8 : Room := { frames := 0, cells := 0, slots := 0, locals := 0 }
def s_X12_takeHalf_8_h2 (N : Nat) (x1 : Int32) (σ : Sg) : Option (Nat × Int32 × Sg) :=
if ((18 : Int32) / (2 : Int32)) ≤ x1 then (some (1, 0, σ))
else (if ((((18 : Int32) / (2 : Int32)) + x1) < 0 ∨ 18 ≤ (((18 : Int32) / (2 : Int32)) + x1).toNatClampNeg) then none else
if (x1 < 0 ∨ 18 ≤ x1.toNatClampNeg) then none else
bd (wr σ 8 (x1.toNatClampNeg) (σ 8 (((18 : Int32) / (2 : Int32)) + x1).toNatClampNeg)) fun σ3 =>
bd (x1 + (1 : Int32)) fun v4 =>
some (0, v4, σ3))
set_option maxHeartbeats 4000000 in
set_option maxRecDepth 100000 in
theorem e_X12_takeHalf_8_h2 {N : Nat} {x1 : Int32} {σ : Sg} {z : Nat × Int32 × Sg} (C : Cx p s m args meth c cX12_takeHalf 2 none RX12 g A X) (hf : s_X12_takeHalf_8_h2 N x1 σ = some z) (k0 : z.1 = 0 → Bk mw p l e rm_X12_takeHalf_8 s m args below meth c 2 g A Q 0 0 2 [(0, .ref (g.2.2 8)), (1, .int z.2.1)] [] z.2.2) (k : ¬ z.1 = 0 → Bk mw p l e rm_X12_takeHalf_8 s m args below meth c 2 g A Q 0 0 27 [] [] z.2.2) : Bk mw p l e rm_X12_takeHalf_8 s m args below meth c 2 g A Q 0 0 2 [(0, .ref (g.2.2 8)), (1, .int x1)] [] σ := by
  obtain ⟨hx, hb, hr, hml, hown, hts, hK, hlocks, hXX, hA, hXo⟩ := id C
  intro H locs ls hP hD hS hl
  unfold s_X12_takeHalf_8_h2 at hf
  refine lv_iload_n hx hb dX12_takeHalf_2 rfl (lv_at hl 1 rfl) ?_
  refine lv_aload_n hx hb dX12_takeHalf_3 rfl (lv_at hl 0 rfl) ?_
  refine bk_alen (wf := mw) (q0 := 8) (t0 := 0) (v := (18 : Int32)) C hP rfl rfl (show Int32.ofNat 18 = (18 : Int32) by decide) dX12_takeHalf_4 ?_
  refine lv_iconst (v := (2 : Int32)) hx hb dX12_takeHalf_5 (by decide) ?_
  refine lv_idiv hx hb dX12_takeHalf_6 (by decide) ?_
  refine lv_icmp_ge (tgt := 27) hx hb dX12_takeHalf_7 (by decide) (fun t7 => ?_) (fun t7 => ?_)
  · have hf := (if_pos t7).symm.trans hf
    cases hf
    exact (k (show ¬ (1 : Nat) = 0 by decide)) H locs ls hP hD hS (lv_sub hl [] rfl)
  · have hf := (if_neg t7).symm.trans hf
    refine lv_aload_n hx hb dX12_takeHalf_10 rfl (lv_at hl 0 rfl) ?_
    refine lv_iload_n hx hb dX12_takeHalf_11 rfl (lv_at hl 1 rfl) ?_
    refine lv_aload_n hx hb dX12_takeHalf_12 rfl (lv_at hl 0 rfl) ?_
    refine lv_aload_n hx hb dX12_takeHalf_13 rfl (lv_at hl 0 rfl) ?_
    refine bk_alen (wf := mw) (q0 := 8) (t0 := 0) (v := (18 : Int32)) C hP rfl rfl (show Int32.ofNat 18 = (18 : Int32) by decide) dX12_takeHalf_14 ?_
    refine lv_iconst (v := (2 : Int32)) hx hb dX12_takeHalf_15 (by decide) ?_
    refine lv_idiv hx hb dX12_takeHalf_16 (by decide) ?_
    refine lv_iload_n hx hb dX12_takeHalf_17 rfl (lv_at hl 1 rfl) ?_
    refine lv_iadd hx hb dX12_takeHalf_18 ?_
    obtain ⟨g1, hf⟩ := gd_s hf
    refine bk_iald (wf := mw) (q0 := 8) (n := 18) (j := (((18 : Int32) / (2 : Int32)) + x1).toNatClampNeg) C hP rfl g1 rfl dX12_takeHalf_19 ?_
    obtain ⟨g2, hf⟩ := gd_s hf
    obtain ⟨σ3, eσ3, hf⟩ := bd_s hf
    refine bk_iast (wf := mw) (σ1 := σ3) (q0 := 8) (n := 18) (j := x1.toNatClampNeg) C hP hD hS rfl g2 rfl (by rw [eσ3]; exact mw_a8 g _ _ _) dX12_takeHalf_20 (fun H locs hP hD hS => ?_)
    obtain ⟨v4, ev4, hf⟩ := bd_s hf
    refine lv_iinc (v := v4) (lv' := [(1, .int v4), (0, .ref (g.2.2 8))]) hx hb dX12_takeHalf_21 hl (k := 1) rfl (by rw [ev4]; rfl) (by decide) rfl (fun ls hl => ?_)
    refine lv_goto (tgt := 2) hx hb dX12_takeHalf_24 (by decide) ?_
    cases hf
    exact k0 rfl H locs ls hP hD hS (lv_sub hl [1, 0] rfl)
theorem lp_X12_takeHalf_8_h2 {N : Nat} {n : Nat} {x1 : Int32} {σ : Sg} {z : Nat × Int32 × Sg} (C : Cx p s m args meth c cX12_takeHalf 2 none RX12 g A X) (hz : it (fun q => s_X12_takeHalf_8_h2 N q.1 q.2) n (x1, σ) = some z) (k : Bk mw p l e rm_X12_takeHalf_8 s m args below meth c 2 g A Q 0 0 27 [] [] z.2.2) : Bk mw p l e rm_X12_takeHalf_8 s m args below meth c 2 g A Q 0 0 2 [(0, .ref (g.2.2 8)), (1, .int x1)] [] σ :=
  it_W (S := Int32 × Sg) (fun q => Bk mw p l e rm_X12_takeHalf_8 s m args below meth c 2 g A Q 0 0 2 [(0, .ref (g.2.2 8)), (1, .int q.1)] [] q.2) (fun z => Bk mw p l e rm_X12_takeHalf_8 s m args below meth c 2 g A Q 0 0 27 [] [] z.2.2) (fun q z hq k0 k => e_X12_takeHalf_8_h2 C hq k0 k) n (x1, σ) z hz k
def f_X12_takeHalf_8 (N : Nat) (σ : Sg) : Option (Sg) :=
(it (fun q => s_X12_takeHalf_8_h2 N q.1 q.2) N ((0 : Int32), σ)).bind fun z5 =>
some (z5.2.2)
set_option maxHeartbeats 4000000 in
set_option maxRecDepth 100000 in
theorem b_X12_takeHalf_8 {N : Nat} {σ : Sg} {z : Sg} (C : Cx p s m args meth c cX12_takeHalf 2 none RX12 g A X) (hf : f_X12_takeHalf_8 N σ = some z) : Bk mw p l e rm_X12_takeHalf_8 s m args below meth c 2 g A (MQ below (qV mw g A z) args s 0 0 A) 0 0 0 [(0, .ref (g.2.2 8))] [] σ := by
  obtain ⟨hx, hb, hr, hml, hown, hts, hK, hlocks, hXX, hA, hXo⟩ := id C
  intro H locs ls hP hD hS hl
  unfold f_X12_takeHalf_8 at hf
  refine lv_iconst (v := (0 : Int32)) hx hb dX12_takeHalf_0 (by decide) ?_
  refine lv_istore_n (lv' := [(1, .int (0 : Int32)), (0, .ref (g.2.2 8))]) hx hb dX12_takeHalf_1 rfl hl (by decide) rfl (fun ls hl => ?_)
  obtain ⟨z5, hz5, hf⟩ := bi_s hf
  refine lp_X12_takeHalf_8_h2 C hz5 ?_ H locs ls hP hD hS (lv_sub hl [1, 0] rfl)
  intro H locs ls hP hD hS hl
  cases hf
  exact bk_vret C hP hD hS rfl dX12_takeHalf_27
theorem c_X12_takeHalf_8 {N : Nat} {σ : Sg} {z : Sg} (hX : xOK g X) (hf : f_X12_takeHalf_8 N σ = some z) : MetV l yX12_takeHalf (Cond.code yX12_takeHalf cX12_takeHalf 2 none :: wsA) rm_X12_takeHalf_8 mw g X [.ref (g.2.2 8)] σ z :=
  MetV_of hX (by decide) (Nat.le_of_ble_eq_true rfl) (fun p e s m args below meth c A C => b_X12_takeHalf_8 C hf)
-- X12_takeHalf_9: takeHalf([I)V
abbrev rm_X12_takeHalf_9 : Room := { frames := 0, cells := 0, slots := 0, locals := 0 }
def s_X12_takeHalf_9_h2 (N : Nat) (x1 : Int32) (σ : Sg) : Option (Nat × Int32 × Sg) :=
if ((16 : Int32) / (2 : Int32)) ≤ x1 then (some (1, 0, σ))
else (if ((((16 : Int32) / (2 : Int32)) + x1) < 0 ∨ 16 ≤ (((16 : Int32) / (2 : Int32)) + x1).toNatClampNeg) then none else
if (x1 < 0 ∨ 16 ≤ x1.toNatClampNeg) then none else
bd (wr σ 9 (x1.toNatClampNeg) (σ 9 (((16 : Int32) / (2 : Int32)) + x1).toNatClampNeg)) fun σ3 =>
bd (x1 + (1 : Int32)) fun v4 =>
some (0, v4, σ3))
set_option maxHeartbeats 4000000 in
set_option maxRecDepth 100000 in
theorem e_X12_takeHalf_9_h2 {N : Nat} {x1 : Int32} {σ : Sg} {z : Nat × Int32 × Sg} (C : Cx p s m args meth c cX12_takeHalf 2 none RX12 g A X) (hf : s_X12_takeHalf_9_h2 N x1 σ = some z) (k0 : z.1 = 0 → Bk mw p l e rm_X12_takeHalf_9 s m args below meth c 2 g A Q 0 0 2 [(0, .ref (g.2.2 9)), (1, .int z.2.1)] [] z.2.2) (k : ¬ z.1 = 0 → Bk mw p l e rm_X12_takeHalf_9 s m args below meth c 2 g A Q 0 0 27 [] [] z.2.2) : Bk mw p l e rm_X12_takeHalf_9 s m args below meth c 2 g A Q 0 0 2 [(0, .ref (g.2.2 9)), (1, .int x1)] [] σ := by
  obtain ⟨hx, hb, hr, hml, hown, hts, hK, hlocks, hXX, hA, hXo⟩ := id C
  intro H locs ls hP hD hS hl
  unfold s_X12_takeHalf_9_h2 at hf
  refine lv_iload_n hx hb dX12_takeHalf_2 rfl (lv_at hl 1 rfl) ?_
  refine lv_aload_n hx hb dX12_takeHalf_3 rfl (lv_at hl 0 rfl) ?_
  refine bk_alen (wf := mw) (q0 := 9) (t0 := 0) (v := (16 : Int32)) C hP rfl rfl (show Int32.ofNat 16 = (16 : Int32) by decide) dX12_takeHalf_4 ?_
  refine lv_iconst (v := (2 : Int32)) hx hb dX12_takeHalf_5 (by decide) ?_
  refine lv_idiv hx hb dX12_takeHalf_6 (by decide) ?_
  refine lv_icmp_ge (tgt := 27) hx hb dX12_takeHalf_7 (by decide) (fun t7 => ?_) (fun t7 => ?_)
  · have hf := (if_pos t7).symm.trans hf
    cases hf
    exact (k (show ¬ (1 : Nat) = 0 by decide)) H locs ls hP hD hS (lv_sub hl [] rfl)
  · have hf := (if_neg t7).symm.trans hf
    refine lv_aload_n hx hb dX12_takeHalf_10 rfl (lv_at hl 0 rfl) ?_
    refine lv_iload_n hx hb dX12_takeHalf_11 rfl (lv_at hl 1 rfl) ?_
    refine lv_aload_n hx hb dX12_takeHalf_12 rfl (lv_at hl 0 rfl) ?_
    refine lv_aload_n hx hb dX12_takeHalf_13 rfl (lv_at hl 0 rfl) ?_
    refine bk_alen (wf := mw) (q0 := 9) (t0 := 0) (v := (16 : Int32)) C hP rfl rfl (show Int32.ofNat 16 = (16 : Int32) by decide) dX12_takeHalf_14 ?_
    refine lv_iconst (v := (2 : Int32)) hx hb dX12_takeHalf_15 (by decide) ?_
    refine lv_idiv hx hb dX12_takeHalf_16 (by decide) ?_
    refine lv_iload_n hx hb dX12_takeHalf_17 rfl (lv_at hl 1 rfl) ?_
    refine lv_iadd hx hb dX12_takeHalf_18 ?_
    obtain ⟨g1, hf⟩ := gd_s hf
    refine bk_iald (wf := mw) (q0 := 9) (n := 16) (j := (((16 : Int32) / (2 : Int32)) + x1).toNatClampNeg) C hP rfl g1 rfl dX12_takeHalf_19 ?_
    obtain ⟨g2, hf⟩ := gd_s hf
    obtain ⟨σ3, eσ3, hf⟩ := bd_s hf
    refine bk_iast (wf := mw) (σ1 := σ3) (q0 := 9) (n := 16) (j := x1.toNatClampNeg) C hP hD hS rfl g2 rfl (by rw [eσ3]; exact mw_a9 g _ _ _) dX12_takeHalf_20 (fun H locs hP hD hS => ?_)
    obtain ⟨v4, ev4, hf⟩ := bd_s hf
    refine lv_iinc (v := v4) (lv' := [(1, .int v4), (0, .ref (g.2.2 9))]) hx hb dX12_takeHalf_21 hl (k := 1) rfl (by rw [ev4]; rfl) (by decide) rfl (fun ls hl => ?_)
    refine lv_goto (tgt := 2) hx hb dX12_takeHalf_24 (by decide) ?_
    cases hf
    exact k0 rfl H locs ls hP hD hS (lv_sub hl [1, 0] rfl)
theorem lp_X12_takeHalf_9_h2 {N : Nat} {n : Nat} {x1 : Int32} {σ : Sg} {z : Nat × Int32 × Sg} (C : Cx p s m args meth c cX12_takeHalf 2 none RX12 g A X) (hz : it (fun q => s_X12_takeHalf_9_h2 N q.1 q.2) n (x1, σ) = some z) (k : Bk mw p l e rm_X12_takeHalf_9 s m args below meth c 2 g A Q 0 0 27 [] [] z.2.2) : Bk mw p l e rm_X12_takeHalf_9 s m args below meth c 2 g A Q 0 0 2 [(0, .ref (g.2.2 9)), (1, .int x1)] [] σ :=
  it_W (S := Int32 × Sg) (fun q => Bk mw p l e rm_X12_takeHalf_9 s m args below meth c 2 g A Q 0 0 2 [(0, .ref (g.2.2 9)), (1, .int q.1)] [] q.2) (fun z => Bk mw p l e rm_X12_takeHalf_9 s m args below meth c 2 g A Q 0 0 27 [] [] z.2.2) (fun q z hq k0 k => e_X12_takeHalf_9_h2 C hq k0 k) n (x1, σ) z hz k
def f_X12_takeHalf_9 (N : Nat) (σ : Sg) : Option (Sg) :=
(it (fun q => s_X12_takeHalf_9_h2 N q.1 q.2) N ((0 : Int32), σ)).bind fun z5 =>
some (z5.2.2)
set_option maxHeartbeats 4000000 in
set_option maxRecDepth 100000 in
theorem b_X12_takeHalf_9 {N : Nat} {σ : Sg} {z : Sg} (C : Cx p s m args meth c cX12_takeHalf 2 none RX12 g A X) (hf : f_X12_takeHalf_9 N σ = some z) : Bk mw p l e rm_X12_takeHalf_9 s m args below meth c 2 g A (MQ below (qV mw g A z) args s 0 0 A) 0 0 0 [(0, .ref (g.2.2 9))] [] σ := by
  obtain ⟨hx, hb, hr, hml, hown, hts, hK, hlocks, hXX, hA, hXo⟩ := id C
  intro H locs ls hP hD hS hl
  unfold f_X12_takeHalf_9 at hf
  refine lv_iconst (v := (0 : Int32)) hx hb dX12_takeHalf_0 (by decide) ?_
  refine lv_istore_n (lv' := [(1, .int (0 : Int32)), (0, .ref (g.2.2 9))]) hx hb dX12_takeHalf_1 rfl hl (by decide) rfl (fun ls hl => ?_)
  obtain ⟨z5, hz5, hf⟩ := bi_s hf
  refine lp_X12_takeHalf_9_h2 C hz5 ?_ H locs ls hP hD hS (lv_sub hl [1, 0] rfl)
  intro H locs ls hP hD hS hl
  cases hf
  exact bk_vret C hP hD hS rfl dX12_takeHalf_27
theorem c_X12_takeHalf_9 {N : Nat} {σ : Sg} {z : Sg} (hX : xOK g X) (hf : f_X12_takeHalf_9 N σ = some z) : MetV l yX12_takeHalf (Cond.code yX12_takeHalf cX12_takeHalf 2 none :: wsA) rm_X12_takeHalf_9 mw g X [.ref (g.2.2 9)] σ z :=
  MetV_of hX (by decide) (Nat.le_of_ble_eq_true rfl) (fun p e s m args below meth c A C => b_X12_takeHalf_9 C hf)
-- X12_takeHalf_10: takeHalf([I)V
abbrev rm_X12_takeHalf_10 : Room := { frames := 0, cells := 0, slots := 0, locals := 0 }
def s_X12_takeHalf_10_h2 (N : Nat) (x1 : Int32) (σ : Sg) : Option (Nat × Int32 × Sg) :=
if ((1400 : Int32) / (2 : Int32)) ≤ x1 then (some (1, 0, σ))
else (if ((((1400 : Int32) / (2 : Int32)) + x1) < 0 ∨ 1400 ≤ (((1400 : Int32) / (2 : Int32)) + x1).toNatClampNeg) then none else
if (x1 < 0 ∨ 1400 ≤ x1.toNatClampNeg) then none else
bd (wr σ 10 (x1.toNatClampNeg) (σ 10 (((1400 : Int32) / (2 : Int32)) + x1).toNatClampNeg)) fun σ3 =>
bd (x1 + (1 : Int32)) fun v4 =>
some (0, v4, σ3))
set_option maxHeartbeats 4000000 in
set_option maxRecDepth 100000 in
theorem e_X12_takeHalf_10_h2 {N : Nat} {x1 : Int32} {σ : Sg} {z : Nat × Int32 × Sg} (C : Cx p s m args meth c cX12_takeHalf 2 none RX12 g A X) (hf : s_X12_takeHalf_10_h2 N x1 σ = some z) (k0 : z.1 = 0 → Bk mw p l e rm_X12_takeHalf_10 s m args below meth c 2 g A Q 0 0 2 [(0, .ref (g.2.2 10)), (1, .int z.2.1)] [] z.2.2) (k : ¬ z.1 = 0 → Bk mw p l e rm_X12_takeHalf_10 s m args below meth c 2 g A Q 0 0 27 [] [] z.2.2) : Bk mw p l e rm_X12_takeHalf_10 s m args below meth c 2 g A Q 0 0 2 [(0, .ref (g.2.2 10)), (1, .int x1)] [] σ := by
  obtain ⟨hx, hb, hr, hml, hown, hts, hK, hlocks, hXX, hA, hXo⟩ := id C
  intro H locs ls hP hD hS hl
  unfold s_X12_takeHalf_10_h2 at hf
  refine lv_iload_n hx hb dX12_takeHalf_2 rfl (lv_at hl 1 rfl) ?_
  refine lv_aload_n hx hb dX12_takeHalf_3 rfl (lv_at hl 0 rfl) ?_
  refine bk_alen (wf := mw) (q0 := 10) (t0 := 0) (v := (1400 : Int32)) C hP rfl rfl (show Int32.ofNat 1400 = (1400 : Int32) by decide) dX12_takeHalf_4 ?_
  refine lv_iconst (v := (2 : Int32)) hx hb dX12_takeHalf_5 (by decide) ?_
  refine lv_idiv hx hb dX12_takeHalf_6 (by decide) ?_
  refine lv_icmp_ge (tgt := 27) hx hb dX12_takeHalf_7 (by decide) (fun t7 => ?_) (fun t7 => ?_)
  · have hf := (if_pos t7).symm.trans hf
    cases hf
    exact (k (show ¬ (1 : Nat) = 0 by decide)) H locs ls hP hD hS (lv_sub hl [] rfl)
  · have hf := (if_neg t7).symm.trans hf
    refine lv_aload_n hx hb dX12_takeHalf_10 rfl (lv_at hl 0 rfl) ?_
    refine lv_iload_n hx hb dX12_takeHalf_11 rfl (lv_at hl 1 rfl) ?_
    refine lv_aload_n hx hb dX12_takeHalf_12 rfl (lv_at hl 0 rfl) ?_
    refine lv_aload_n hx hb dX12_takeHalf_13 rfl (lv_at hl 0 rfl) ?_
    refine bk_alen (wf := mw) (q0 := 10) (t0 := 0) (v := (1400 : Int32)) C hP rfl rfl (show Int32.ofNat 1400 = (1400 : Int32) by decide) dX12_takeHalf_14 ?_
    refine lv_iconst (v := (2 : Int32)) hx hb dX12_takeHalf_15 (by decide) ?_
    refine lv_idiv hx hb dX12_takeHalf_16 (by decide) ?_
    refine lv_iload_n hx hb dX12_takeHalf_17 rfl (lv_at hl 1 rfl) ?_
    refine lv_iadd hx hb dX12_takeHalf_18 ?_
    obtain ⟨g1, hf⟩ := gd_s hf
    refine bk_iald (wf := mw) (q0 := 10) (n := 1400) (j := (((1400 : Int32) / (2 : Int32)) + x1).toNatClampNeg) C hP rfl g1 rfl dX12_takeHalf_19 ?_
    obtain ⟨g2, hf⟩ := gd_s hf
    obtain ⟨σ3, eσ3, hf⟩ := bd_s hf
    refine bk_iast (wf := mw) (σ1 := σ3) (q0 := 10) (n := 1400) (j := x1.toNatClampNeg) C hP hD hS rfl g2 rfl (by rw [eσ3]; exact mw_a10 g _ _ _) dX12_takeHalf_20 (fun H locs hP hD hS => ?_)
    obtain ⟨v4, ev4, hf⟩ := bd_s hf
    refine lv_iinc (v := v4) (lv' := [(1, .int v4), (0, .ref (g.2.2 10))]) hx hb dX12_takeHalf_21 hl (k := 1) rfl (by rw [ev4]; rfl) (by decide) rfl (fun ls hl => ?_)
    refine lv_goto (tgt := 2) hx hb dX12_takeHalf_24 (by decide) ?_
    cases hf
    exact k0 rfl H locs ls hP hD hS (lv_sub hl [1, 0] rfl)
theorem lp_X12_takeHalf_10_h2 {N : Nat} {n : Nat} {x1 : Int32} {σ : Sg} {z : Nat × Int32 × Sg} (C : Cx p s m args meth c cX12_takeHalf 2 none RX12 g A X) (hz : it (fun q => s_X12_takeHalf_10_h2 N q.1 q.2) n (x1, σ) = some z) (k : Bk mw p l e rm_X12_takeHalf_10 s m args below meth c 2 g A Q 0 0 27 [] [] z.2.2) : Bk mw p l e rm_X12_takeHalf_10 s m args below meth c 2 g A Q 0 0 2 [(0, .ref (g.2.2 10)), (1, .int x1)] [] σ :=
  it_W (S := Int32 × Sg) (fun q => Bk mw p l e rm_X12_takeHalf_10 s m args below meth c 2 g A Q 0 0 2 [(0, .ref (g.2.2 10)), (1, .int q.1)] [] q.2) (fun z => Bk mw p l e rm_X12_takeHalf_10 s m args below meth c 2 g A Q 0 0 27 [] [] z.2.2) (fun q z hq k0 k => e_X12_takeHalf_10_h2 C hq k0 k) n (x1, σ) z hz k
def f_X12_takeHalf_10 (N : Nat) (σ : Sg) : Option (Sg) :=
(it (fun q => s_X12_takeHalf_10_h2 N q.1 q.2) N ((0 : Int32), σ)).bind fun z5 =>
some (z5.2.2)
set_option maxHeartbeats 4000000 in
set_option maxRecDepth 100000 in
theorem b_X12_takeHalf_10 {N : Nat} {σ : Sg} {z : Sg} (C : Cx p s m args meth c cX12_takeHalf 2 none RX12 g A X) (hf : f_X12_takeHalf_10 N σ = some z) : Bk mw p l e rm_X12_takeHalf_10 s m args below meth c 2 g A (MQ below (qV mw g A z) args s 0 0 A) 0 0 0 [(0, .ref (g.2.2 10))] [] σ := by
  obtain ⟨hx, hb, hr, hml, hown, hts, hK, hlocks, hXX, hA, hXo⟩ := id C
  intro H locs ls hP hD hS hl
  unfold f_X12_takeHalf_10 at hf
  refine lv_iconst (v := (0 : Int32)) hx hb dX12_takeHalf_0 (by decide) ?_
  refine lv_istore_n (lv' := [(1, .int (0 : Int32)), (0, .ref (g.2.2 10))]) hx hb dX12_takeHalf_1 rfl hl (by decide) rfl (fun ls hl => ?_)
  obtain ⟨z5, hz5, hf⟩ := bi_s hf
  refine lp_X12_takeHalf_10_h2 C hz5 ?_ H locs ls hP hD hS (lv_sub hl [1, 0] rfl)
  intro H locs ls hP hD hS hl
  cases hf
  exact bk_vret C hP hD hS rfl dX12_takeHalf_27
theorem c_X12_takeHalf_10 {N : Nat} {σ : Sg} {z : Sg} (hX : xOK g X) (hf : f_X12_takeHalf_10 N σ = some z) : MetV l yX12_takeHalf (Cond.code yX12_takeHalf cX12_takeHalf 2 none :: wsA) rm_X12_takeHalf_10 mw g X [.ref (g.2.2 10)] σ z :=
  MetV_of hX (by decide) (Nat.le_of_ble_eq_true rfl) (fun p e s m args below meth c A C => b_X12_takeHalf_10 C hf)
-- X12_takeOver: takeOver()V
abbrev rm_X12_takeOver : Room := { frames := 1, cells := 0, slots := 0, locals := 21 }
theorem nd_X12_takeOver : yX12_takeOver.cls ≠ "java/lang/invoke/MethodHandle" ∧ yX12_takeOver.cls ≠ "java/lang/invoke/VarHandle" ∧ (parseMethodDescriptor yX12_takeOver.desc).map (fun d => d.parameters.length) = some 0 := by decide +kernel
def f_X12_takeOver_b120 (N : Nat) (x1 : Int32) (t1 : Int32) (t2 : Int32) (σ : Sg) : Option (Nat × Int32 × Sg) :=
if (t1 < 0 ∨ 9 ≤ t1.toNatClampNeg) then none else
bd (wr σ 16 (t1.toNatClampNeg) t2) fun σ2 =>
bd (x1 + (1 : Int32)) fun v3 =>
some (0, v3, σ2)
set_option maxHeartbeats 4000000 in
set_option maxRecDepth 100000 in
theorem b_X12_takeOver_b120 {N : Nat} {x1 : Int32} {t1 : Int32} {t2 : Int32} {σ : Sg} {z : Nat × Int32 × Sg} (C : Cx p s m args meth c cX12_takeOver 2 none RX12 g A X) (hf : f_X12_takeOver_b120 N x1 t1 t2 σ = some z) (k0 : z.1 = 0 → Bk mw p l e rm_X12_takeOver s m args below meth c 2 g A Q 0 0 68 [(0, .ref (g.2.2 0)), (1, .int z.2.1)] [] z.2.2) (k : ¬ z.1 = 0 → Bk mw p l e rm_X12_takeOver s m args below meth c 2 g A Q 0 0 127 [(0, .ref (g.2.2 0))] [] z.2.2) : Bk mw p l e rm_X12_takeOver s m args below meth c 2 g A Q 0 0 120 [(0, .ref (g.2.2 0)), (1, .int x1)] [.int t2, .int t1, .ref (g.2.2 16)] σ := by
  obtain ⟨hx, hb, hr, hml, hown, hts, hK, hlocks, hXX, hA, hXo⟩ := id C
  intro H locs ls hP hD hS hl
  unfold f_X12_takeOver_b120 at hf
  obtain ⟨g1, hf⟩ := gd_s hf
  obtain ⟨σ2, eσ2, hf⟩ := bd_s hf
  refine bk_iast (wf := mw) (σ1 := σ2) (q0 := 16) (n := 9) (j := t1.toNatClampNeg) C hP hD hS rfl g1 rfl (by rw [eσ2]; exact mw_a16 g _ _ _) dX12_takeOver_120 (fun H locs hP hD hS => ?_)
  obtain ⟨v3, ev3, hf⟩ := bd_s hf
  refine lv_iinc (v := v3) (lv' := [(1, .int v3), (0, .ref (g.2.2 0))]) hx hb dX12_takeOver_121 hl (k := 1) rfl (by rw [ev3]; rfl) (by decide) rfl (fun ls hl => ?_)
  refine lv_goto (tgt := 68) hx hb dX12_takeOver_124 (by decide) ?_
  cases hf
  exact k0 rfl H locs ls hP hD hS (lv_sub hl [1, 0] rfl)
def s_X12_takeOver_h68 (N : Nat) (x1 : Int32) (σ : Sg) : Option (Nat × Int32 × Sg) :=
if (9 : Int32) ≤ x1 then (some (1, 0, σ))
else (if (x1 < 0 ∨ 9 ≤ x1.toNatClampNeg) then none else
bd (wr σ 13 (x1.toNatClampNeg) (0 : Int32)) fun σ5 =>
if (x1 < 0 ∨ 9 ≤ x1.toNatClampNeg) then none else
bd (wr σ5 14 (x1.toNatClampNeg) (0 : Int32)) fun σ7 =>
if (x1 < 0 ∨ 9 ≤ x1.toNatClampNeg) then none else
bd (wr σ7 15 (x1.toNatClampNeg) (0 : Int32)) fun σ9 =>
if (σ9 3 0) ≤ x1 then (f_X12_takeOver_b120 N x1 x1 (0 : Int32) σ9)
else (if (x1 < 0 ∨ 18 ≤ x1.toNatClampNeg) then none else
f_X12_takeOver_b120 N x1 x1 (σ9 7 x1.toNatClampNeg) σ9))
set_option maxHeartbeats 4000000 in
set_option maxRecDepth 100000 in
theorem e_X12_takeOver_h68 {N : Nat} {x1 : Int32} {σ : Sg} {z : Nat × Int32 × Sg} (C : Cx p s m args meth c cX12_takeOver 2 none RX12 g A X) (hf : s_X12_takeOver_h68 N x1 σ = some z) (k0 : z.1 = 0 → Bk mw p l e rm_X12_takeOver s m args below meth c 2 g A Q 0 0 68 [(0, .ref (g.2.2 0)), (1, .int z.2.1)] [] z.2.2) (k : ¬ z.1 = 0 → Bk mw p l e rm_X12_takeOver s m args below meth c 2 g A Q 0 0 127 [(0, .ref (g.2.2 0))] [] z.2.2) : Bk mw p l e rm_X12_takeOver s m args below meth c 2 g A Q 0 0 68 [(0, .ref (g.2.2 0)), (1, .int x1)] [] σ := by
  obtain ⟨hx, hb, hr, hml, hown, hts, hK, hlocks, hXX, hA, hXo⟩ := id C
  intro H locs ls hP hD hS hl
  unfold s_X12_takeOver_h68 at hf
  refine lv_iload_n hx hb dX12_takeOver_68 rfl (lv_at hl 1 rfl) ?_
  refine lv_bipush (v := (9 : Int32)) hx hb dX12_takeOver_69 (by decide) ?_
  refine lv_icmp_ge (tgt := 127) hx hb dX12_takeOver_71 (by decide) (fun t71 => ?_) (fun t71 => ?_)
  · have hf := (if_pos t71).symm.trans hf
    cases hf
    exact (k (show ¬ (1 : Nat) = 0 by decide)) H locs ls hP hD hS (lv_sub hl [0] rfl)
  · have hf := (if_neg t71).symm.trans hf
    refine lv_aload_n hx hb dX12_takeOver_74 rfl (lv_at hl 0 rfl) ?_
    refine bk_get (wf := mw) (q0 := 0) (ci := 11) (k := 23) (v := .ref (g.2.2 13)) C hP wl_X12 rfl rfl (by decide) wa_168 rfl rfl dX12_takeOver_75 ?_
    refine lv_iload_n hx hb dX12_takeOver_78 rfl (lv_at hl 1 rfl) ?_
    refine lv_iconst (v := (0 : Int32)) hx hb dX12_takeOver_79 (by decide) ?_
    obtain ⟨g4, hf⟩ := gd_s hf
    obtain ⟨σ5, eσ5, hf⟩ := bd_s hf
    refine bk_iast (wf := mw) (σ1 := σ5) (q0 := 13) (n := 9) (j := x1.toNatClampNeg) C hP hD hS rfl g4 rfl (by rw [eσ5]; exact mw_a13 g _ _ _) dX12_takeOver_80 (fun H locs hP hD hS => ?_)
    refine lv_aload_n hx hb dX12_takeOver_81 rfl (lv_at hl 0 rfl) ?_
    refine bk_get (wf := mw) (q0 := 0) (ci := 11) (k := 24) (v := .ref (g.2.2 14)) C hP wl_X12 rfl rfl (by decide) wa_169 rfl rfl dX12_takeOver_82 ?_
    refine lv_iload_n hx hb dX12_takeOver_85 rfl (lv_at hl 1 rfl) ?_
    refine lv_iconst (v := (0 : Int32)) hx hb dX12_takeOver_86 (by decide) ?_
    obtain ⟨g6, hf⟩ := gd_s hf
    obtain ⟨σ7, eσ7, hf⟩ := bd_s hf
    refine bk_iast (wf := mw) (σ1 := σ7) (q0 := 14) (n := 9) (j := x1.toNatClampNeg) C hP hD hS rfl g6 rfl (by rw [eσ7]; exact mw_a14 g _ _ _) dX12_takeOver_87 (fun H locs hP hD hS => ?_)
    refine lv_aload_n hx hb dX12_takeOver_88 rfl (lv_at hl 0 rfl) ?_
    refine bk_get (wf := mw) (q0 := 0) (ci := 11) (k := 25) (v := .ref (g.2.2 15)) C hP wl_X12 rfl rfl (by decide) wa_170 rfl rfl dX12_takeOver_89 ?_
    refine lv_iload_n hx hb dX12_takeOver_92 rfl (lv_at hl 1 rfl) ?_
    refine lv_iconst (v := (0 : Int32)) hx hb dX12_takeOver_93 (by decide) ?_
    obtain ⟨g8, hf⟩ := gd_s hf
    obtain ⟨σ9, eσ9, hf⟩ := bd_s hf
    refine bk_iast (wf := mw) (σ1 := σ9) (q0 := 15) (n := 9) (j := x1.toNatClampNeg) C hP hD hS rfl g8 rfl (by rw [eσ9]; exact mw_a15 g _ _ _) dX12_takeOver_94 (fun H locs hP hD hS => ?_)
    refine lv_aload_n hx hb dX12_takeOver_95 rfl (lv_at hl 0 rfl) ?_
    refine bk_get (wf := mw) (q0 := 0) (ci := 11) (k := 26) (v := .ref (g.2.2 16)) C hP wl_X12 rfl rfl (by decide) wa_171 rfl rfl dX12_takeOver_96 ?_
    refine lv_iload_n hx hb dX12_takeOver_99 rfl (lv_at hl 1 rfl) ?_
    refine lv_iload_n hx hb dX12_takeOver_100 rfl (lv_at hl 1 rfl) ?_
    refine lv_aload_n hx hb dX12_takeOver_101 rfl (lv_at hl 0 rfl) ?_
    refine bk_get (wf := mw) (q0 := 0) (ci := 11) (k := 3) (v := .ref (g.2.2 3)) C hP wl_X12 rfl rfl (by decide) wa_157 rfl rfl dX12_takeOver_102 ?_
    refine lv_iconst (v := (0 : Int32)) hx hb dX12_takeOver_105 (by decide) ?_
    refine bk_iald (wf := mw) (q0 := 3) (n := 10) (j := 0) C hP rfl (vin_l (by decide) (by decide)) (by decide) dX12_takeOver_106 ?_
    refine lv_icmp_ge (tgt := 119) hx hb dX12_takeOver_107 (by decide) (fun t107 => ?_) (fun t107 => ?_)
    · have hf := (if_pos t107).symm.trans hf
      refine lv_iconst (v := (0 : Int32)) hx hb dX12_takeOver_119 (by decide) ?_
      exact b_X12_takeOver_b120 C hf k0 k H locs ls hP hD hS (lv_sub hl [0, 1] rfl)
    · have hf := (if_neg t107).symm.trans hf
      refine lv_aload_n hx hb dX12_takeOver_110 rfl (lv_at hl 0 rfl) ?_
      refine bk_get (wf := mw) (q0 := 0) (ci := 11) (k := 7) (v := .ref (g.2.2 7)) C hP wl_X12 rfl rfl (by decide) wa_161 rfl rfl dX12_takeOver_111 ?_
      refine lv_iload_n hx hb dX12_takeOver_114 rfl (lv_at hl 1 rfl) ?_
      obtain ⟨g10, hf⟩ := gd_s hf
      refine bk_iald (wf := mw) (q0 := 7) (n := 18) (j := x1.toNatClampNeg) C hP rfl g10 rfl dX12_takeOver_115 ?_
      refine lv_goto (tgt := 120) hx hb dX12_takeOver_116 (by decide) ?_
      exact b_X12_takeOver_b120 C hf k0 k H locs ls hP hD hS (lv_sub hl [0, 1] rfl)
theorem lp_X12_takeOver_h68 {N : Nat} {n : Nat} {x1 : Int32} {σ : Sg} {z : Nat × Int32 × Sg} (C : Cx p s m args meth c cX12_takeOver 2 none RX12 g A X) (hz : it (fun q => s_X12_takeOver_h68 N q.1 q.2) n (x1, σ) = some z) (k : Bk mw p l e rm_X12_takeOver s m args below meth c 2 g A Q 0 0 127 [(0, .ref (g.2.2 0))] [] z.2.2) : Bk mw p l e rm_X12_takeOver s m args below meth c 2 g A Q 0 0 68 [(0, .ref (g.2.2 0)), (1, .int x1)] [] σ :=
  it_W (S := Int32 × Sg) (fun q => Bk mw p l e rm_X12_takeOver s m args below meth c 2 g A Q 0 0 68 [(0, .ref (g.2.2 0)), (1, .int q.1)] [] q.2) (fun z => Bk mw p l e rm_X12_takeOver s m args below meth c 2 g A Q 0 0 127 [(0, .ref (g.2.2 0))] [] z.2.2) (fun q z hq k0 k => e_X12_takeOver_h68 C hq k0 k) n (x1, σ) z hz k
def f_X12_takeOver (N : Nat) (σ : Sg) : Option (Sg) :=
(f_X12_takeHalf_3 N σ).bind fun q11 =>
(f_X12_takeHalf_4 N q11).bind fun q12 =>
(f_X12_takeHalf_5 N q12).bind fun q13 =>
(f_X12_takeHalf_6 N q13).bind fun q14 =>
(f_X12_takeHalf_7 N q14).bind fun q15 =>
(f_X12_takeHalf_8 N q15).bind fun q16 =>
(f_X12_takeHalf_9 N q16).bind fun q17 =>
(f_X12_takeHalf_10 N q17).bind fun q18 =>
bd (wr q18 0 28 (0 : Int32)) fun σ19 =>
bd (wr σ19 0 29 (0 : Int32)) fun σ20 =>
(it (fun q => s_X12_takeOver_h68 N q.1 q.2) N ((0 : Int32), σ20)).bind fun z21 =>
bd (wr (z21.2.2) 0 30 (0 : Int32)) fun σ22 =>
bd (wr σ22 0 31 (0 : Int32)) fun σ23 =>
bd (wr σ23 0 48 (0 : Int32)) fun σ24 =>
some σ24
set_option maxHeartbeats 4000000 in
set_option maxRecDepth 100000 in
theorem b_X12_takeOver {N : Nat} {σ : Sg} {z : Sg} (C : Cx p s m args meth c cX12_takeOver 2 none RX12 g A X) (hf : f_X12_takeOver N σ = some z) : Bk mw p l e rm_X12_takeOver s m args below meth c 2 g A (MQ below (qV mw g A z) args s 0 0 A) 0 0 0 [(0, .ref (g.2.2 0))] [] σ := by
  obtain ⟨hx, hb, hr, hml, hown, hts, hK, hlocks, hXX, hA, hXo⟩ := id C
  intro H locs ls hP hD hS hl
  unfold f_X12_takeOver at hf
  refine lv_aload_n hx hb dX12_takeOver_0 rfl (lv_at hl 0 rfl) ?_
  refine bk_get (wf := mw) (q0 := 0) (ci := 11) (k := 3) (v := .ref (g.2.2 3)) C hP wl_X12 rfl rfl (by decide) wa_157 rfl rfl dX12_takeOver_1 ?_
  obtain ⟨q11, hq11, hf⟩ := bi_s hf
  refine bk_SV (wf := mw) (rest := []) [.ref (g.2.2 3)] C hP hD hS hl.1 (c_X12_takeHalf_3 hXo hq11) (cwA_S 1 hts wa_620 wa_618 wa_619 wa_5 rfl rfl nd_X12_takeHalf ⟨Nat.le_of_ble_eq_true rfl, Nat.le_of_ble_eq_true rfl⟩) rfl rfl (Nat.le_of_ble_eq_true rfl) dX12_takeOver_4 ⟨Nat.le_of_ble_eq_true rfl, Nat.le_of_ble_eq_true rfl⟩ (fun H locs hP hD hS => ?_)
  refine lv_aload_n hx hb dX12_takeOver_7 rfl (lv_at hl 0 rfl) ?_
  refine bk_get (wf := mw) (q0 := 0) (ci := 11) (k := 4) (v := .ref (g.2.2 4)) C hP wl_X12 rfl rfl (by decide) wa_158 rfl rfl dX12_takeOver_8 ?_
  obtain ⟨q12, hq12, hf⟩ := bi_s hf
  refine bk_SV (wf := mw) (rest := []) [.ref (g.2.2 4)] C hP hD hS hl.1 (c_X12_takeHalf_4 hXo hq12) (cwA_S 1 hts wa_620 wa_618 wa_619 wa_5 rfl rfl nd_X12_takeHalf ⟨Nat.le_of_ble_eq_true rfl, Nat.le_of_ble_eq_true rfl⟩) rfl rfl (Nat.le_of_ble_eq_true rfl) dX12_takeOver_11 ⟨Nat.le_of_ble_eq_true rfl, Nat.le_of_ble_eq_true rfl⟩ (fun H locs hP hD hS => ?_)
  refine lv_aload_n hx hb dX12_takeOver_14 rfl (lv_at hl 0 rfl) ?_
  refine bk_get (wf := mw) (q0 := 0) (ci := 11) (k := 5) (v := .ref (g.2.2 5)) C hP wl_X12 rfl rfl (by decide) wa_159 rfl rfl dX12_takeOver_15 ?_
  obtain ⟨q13, hq13, hf⟩ := bi_s hf
  refine bk_SV (wf := mw) (rest := []) [.ref (g.2.2 5)] C hP hD hS hl.1 (c_X12_takeHalf_5 hXo hq13) (cwA_S 1 hts wa_620 wa_618 wa_619 wa_5 rfl rfl nd_X12_takeHalf ⟨Nat.le_of_ble_eq_true rfl, Nat.le_of_ble_eq_true rfl⟩) rfl rfl (Nat.le_of_ble_eq_true rfl) dX12_takeOver_18 ⟨Nat.le_of_ble_eq_true rfl, Nat.le_of_ble_eq_true rfl⟩ (fun H locs hP hD hS => ?_)
  refine lv_aload_n hx hb dX12_takeOver_21 rfl (lv_at hl 0 rfl) ?_
  refine bk_get (wf := mw) (q0 := 0) (ci := 11) (k := 6) (v := .ref (g.2.2 6)) C hP wl_X12 rfl rfl (by decide) wa_160 rfl rfl dX12_takeOver_22 ?_
  obtain ⟨q14, hq14, hf⟩ := bi_s hf
  refine bk_SV (wf := mw) (rest := []) [.ref (g.2.2 6)] C hP hD hS hl.1 (c_X12_takeHalf_6 hXo hq14) (cwA_S 1 hts wa_620 wa_618 wa_619 wa_5 rfl rfl nd_X12_takeHalf ⟨Nat.le_of_ble_eq_true rfl, Nat.le_of_ble_eq_true rfl⟩) rfl rfl (Nat.le_of_ble_eq_true rfl) dX12_takeOver_25 ⟨Nat.le_of_ble_eq_true rfl, Nat.le_of_ble_eq_true rfl⟩ (fun H locs hP hD hS => ?_)
  refine lv_aload_n hx hb dX12_takeOver_28 rfl (lv_at hl 0 rfl) ?_
  refine bk_get (wf := mw) (q0 := 0) (ci := 11) (k := 7) (v := .ref (g.2.2 7)) C hP wl_X12 rfl rfl (by decide) wa_161 rfl rfl dX12_takeOver_29 ?_
  obtain ⟨q15, hq15, hf⟩ := bi_s hf
  refine bk_SV (wf := mw) (rest := []) [.ref (g.2.2 7)] C hP hD hS hl.1 (c_X12_takeHalf_7 hXo hq15) (cwA_S 1 hts wa_620 wa_618 wa_619 wa_5 rfl rfl nd_X12_takeHalf ⟨Nat.le_of_ble_eq_true rfl, Nat.le_of_ble_eq_true rfl⟩) rfl rfl (Nat.le_of_ble_eq_true rfl) dX12_takeOver_32 ⟨Nat.le_of_ble_eq_true rfl, Nat.le_of_ble_eq_true rfl⟩ (fun H locs hP hD hS => ?_)
  refine lv_aload_n hx hb dX12_takeOver_35 rfl (lv_at hl 0 rfl) ?_
  refine bk_get (wf := mw) (q0 := 0) (ci := 11) (k := 8) (v := .ref (g.2.2 8)) C hP wl_X12 rfl rfl (by decide) wa_162 rfl rfl dX12_takeOver_36 ?_
  obtain ⟨q16, hq16, hf⟩ := bi_s hf
  refine bk_SV (wf := mw) (rest := []) [.ref (g.2.2 8)] C hP hD hS hl.1 (c_X12_takeHalf_8 hXo hq16) (cwA_S 1 hts wa_620 wa_618 wa_619 wa_5 rfl rfl nd_X12_takeHalf ⟨Nat.le_of_ble_eq_true rfl, Nat.le_of_ble_eq_true rfl⟩) rfl rfl (Nat.le_of_ble_eq_true rfl) dX12_takeOver_39 ⟨Nat.le_of_ble_eq_true rfl, Nat.le_of_ble_eq_true rfl⟩ (fun H locs hP hD hS => ?_)
  refine lv_aload_n hx hb dX12_takeOver_42 rfl (lv_at hl 0 rfl) ?_
  refine bk_get (wf := mw) (q0 := 0) (ci := 11) (k := 9) (v := .ref (g.2.2 9)) C hP wl_X12 rfl rfl (by decide) wa_163 rfl rfl dX12_takeOver_43 ?_
  obtain ⟨q17, hq17, hf⟩ := bi_s hf
  refine bk_SV (wf := mw) (rest := []) [.ref (g.2.2 9)] C hP hD hS hl.1 (c_X12_takeHalf_9 hXo hq17) (cwA_S 1 hts wa_620 wa_618 wa_619 wa_5 rfl rfl nd_X12_takeHalf ⟨Nat.le_of_ble_eq_true rfl, Nat.le_of_ble_eq_true rfl⟩) rfl rfl (Nat.le_of_ble_eq_true rfl) dX12_takeOver_46 ⟨Nat.le_of_ble_eq_true rfl, Nat.le_of_ble_eq_true rfl⟩ (fun H locs hP hD hS => ?_)
  refine lv_aload_n hx hb dX12_takeOver_49 rfl (lv_at hl 0 rfl) ?_
  refine bk_get (wf := mw) (q0 := 0) (ci := 11) (k := 10) (v := .ref (g.2.2 10)) C hP wl_X12 rfl rfl (by decide) wa_164 rfl rfl dX12_takeOver_50 ?_
  obtain ⟨q18, hq18, hf⟩ := bi_s hf
  refine bk_SV (wf := mw) (rest := []) [.ref (g.2.2 10)] C hP hD hS hl.1 (c_X12_takeHalf_10 hXo hq18) (cwA_S 1 hts wa_620 wa_618 wa_619 wa_5 rfl rfl nd_X12_takeHalf ⟨Nat.le_of_ble_eq_true rfl, Nat.le_of_ble_eq_true rfl⟩) rfl rfl (Nat.le_of_ble_eq_true rfl) dX12_takeOver_53 ⟨Nat.le_of_ble_eq_true rfl, Nat.le_of_ble_eq_true rfl⟩ (fun H locs hP hD hS => ?_)
  refine lv_aload_n hx hb dX12_takeOver_56 rfl (lv_at hl 0 rfl) ?_
  refine lv_iconst (v := (0 : Int32)) hx hb dX12_takeOver_57 (by decide) ?_
  obtain ⟨σ19, eσ19, hf⟩ := bd_s hf
  refine bk_put (wf := mw) (σ1 := σ19) (q0 := 0) (ci := 11) (k := 28) (v := .int (0 : Int32)) C hP hD hS wl_X12 tyX12_ok nmX12 rfl rfl (by decide) wa_613 rfl rfl rfl rfl rfl (Nat.le_of_ble_eq_true rfl) (by rw [eσ19]; exact mw_p0_28 g _ _) dX12_takeOver_58 (fun H locs hP hD hS => ?_)
  refine lv_aload_n hx hb dX12_takeOver_61 rfl (lv_at hl 0 rfl) ?_
  refine lv_iconst (v := (0 : Int32)) hx hb dX12_takeOver_62 (by decide) ?_
  obtain ⟨σ20, eσ20, hf⟩ := bd_s hf
  refine bk_put (wf := mw) (σ1 := σ20) (q0 := 0) (ci := 11) (k := 29) (v := .int (0 : Int32)) C hP hD hS wl_X12 tyX12_ok nmX12 rfl rfl (by decide) wa_614 rfl rfl rfl rfl rfl (Nat.le_of_ble_eq_true rfl) (by rw [eσ20]; exact mw_p0_29 g _ _) dX12_takeOver_63 (fun H locs hP hD hS => ?_)
  refine lv_iconst (v := (0 : Int32)) hx hb dX12_takeOver_66 (by decide) ?_
  refine lv_istore_n (lv' := [(1, .int (0 : Int32)), (0, .ref (g.2.2 0))]) hx hb dX12_takeOver_67 rfl hl (by decide) rfl (fun ls hl => ?_)
  obtain ⟨z21, hz21, hf⟩ := bi_s hf
  refine lp_X12_takeOver_h68 C hz21 ?_ H locs ls hP hD hS (lv_sub hl [1, 0] rfl)
  intro H locs ls hP hD hS hl
  refine lv_aload_n hx hb dX12_takeOver_127 rfl (lv_at hl 0 rfl) ?_
  refine lv_iconst (v := (0 : Int32)) hx hb dX12_takeOver_128 (by decide) ?_
  obtain ⟨σ22, eσ22, hf⟩ := bd_s hf
  refine bk_put (wf := mw) (σ1 := σ22) (q0 := 0) (ci := 11) (k := 30) (v := .int (0 : Int32)) C hP hD hS wl_X12 tyX12_ok nmX12 rfl rfl (by decide) wa_615 rfl rfl rfl rfl rfl (Nat.le_of_ble_eq_true rfl) (by rw [eσ22]; exact mw_p0_30 g _ _) dX12_takeOver_129 (fun H locs hP hD hS => ?_)
  refine lv_aload_n hx hb dX12_takeOver_132 rfl (lv_at hl 0 rfl) ?_
  refine lv_iconst (v := (0 : Int32)) hx hb dX12_takeOver_133 (by decide) ?_
  obtain ⟨σ23, eσ23, hf⟩ := bd_s hf
  refine bk_put (wf := mw) (σ1 := σ23) (q0 := 0) (ci := 11) (k := 31) (v := .int (0 : Int32)) C hP hD hS wl_X12 tyX12_ok nmX12 rfl rfl (by decide) wa_616 rfl rfl rfl rfl rfl (Nat.le_of_ble_eq_true rfl) (by rw [eσ23]; exact mw_p0_31 g _ _) dX12_takeOver_134 (fun H locs hP hD hS => ?_)
  refine lv_aload_n hx hb dX12_takeOver_137 rfl (lv_at hl 0 rfl) ?_
  refine lv_iconst (v := (0 : Int32)) hx hb dX12_takeOver_138 (by decide) ?_
  obtain ⟨σ24, eσ24, hf⟩ := bd_s hf
  refine bk_put (wf := mw) (σ1 := σ24) (q0 := 0) (ci := 11) (k := 48) (v := .int (0 : Int32)) C hP hD hS wl_X12 tyX12_ok nmX12 rfl rfl (by decide) wa_617 rfl rfl rfl rfl rfl (Nat.le_of_ble_eq_true rfl) (by rw [eσ24]; exact mw_p0_48 g _ _) dX12_takeOver_139 (fun H locs hP hD hS => ?_)
  cases hf
  exact bk_vret C hP hD hS rfl dX12_takeOver_142
theorem c_X12_takeOver {N : Nat} {σ : Sg} {z : Sg} (hX : xOK g X) (hf : f_X12_takeOver N σ = some z) : MetV l yX12_takeOver (Cond.code yX12_takeOver cX12_takeOver 2 none :: wsA) rm_X12_takeOver mw g X [.ref (g.2.2 0)] σ z :=
  MetV_of hX (by decide) (Nat.le_of_ble_eq_true rfl) (fun p e s m args below meth c A C => b_X12_takeOver C hf)
-- X12_upland: upland(I)I
abbrev rm_X12_upland : Room := { frames := 174, cells := 0, slots := 0, locals := 3506 }
theorem nd_X12_upland : yX12_upland.cls ≠ "java/lang/invoke/MethodHandle" ∧ yX12_upland.cls ≠ "java/lang/invoke/VarHandle" ∧ (parseMethodDescriptor yX12_upland.desc).map (fun d => d.parameters.length) = some 1 := by decide +kernel
def s_X12_upland_h95 (N : Nat) (x2 : Int32) (σ : Sg) : Option (Nat × Int32 × Sg) :=
if (σ 0 20) = 0 then (if (σ 0 16) = 0 then (some (1, 0, σ))
else ((f_X12_readLine N x2 σ).bind fun q1 =>
bd q1.1 fun v2 =>
some (0, v2, (q1.2))))
else (some (1, 0, σ))
set_option maxHeartbeats 4000000 in
set_option maxRecDepth 100000 in
theorem e_X12_upland_h95 {N : Nat} {x2 : Int32} {σ : Sg} {z : Nat × Int32 × Sg} (C : Cx p s m args meth c cX12_upland 3 (some .int) RX12 g A X) (hf : s_X12_upland_h95 N x2 σ = some z) (k0 : z.1 = 0 → Bk mw p l e rm_X12_upland s m args below meth c 3 g A Q 0 0 95 [(0, .ref (g.2.2 0)), (2, .int z.2.1)] [] z.2.2) (k : ¬ z.1 = 0 → Bk mw p l e rm_X12_upland s m args below meth c 3 g A Q 0 0 118 [(0, .ref (g.2.2 0))] [] z.2.2) : Bk mw p l e rm_X12_upland s m args below meth c 3 g A Q 0 0 95 [(0, .ref (g.2.2 0)), (2, .int x2)] [] σ := by
  obtain ⟨hx, hb, hr, hml, hown, hts, hK, hlocks, hXX, hA, hXo⟩ := id C
  intro H locs ls hP hD hS hl
  unfold s_X12_upland_h95 at hf
  refine lv_aload_n hx hb dX12_upland_95 rfl (lv_at hl 0 rfl) ?_
  refine bk_get (wf := mw) (q0 := 0) (ci := 11) (k := 20) (v := .int (σ 0 20)) C hP wl_X12 rfl rfl (by decide) wa_506 rfl rfl dX12_upland_96 ?_
  refine lv_if_ne (tgt := 118) hx hb dX12_upland_99 (by decide) (fun t99 => ?_) (fun t99 => ?_)
  · have hf := (if_neg t99).symm.trans hf
    cases hf
    exact (k (show ¬ (1 : Nat) = 0 by decide)) H locs ls hP hD hS (lv_sub hl [0] rfl)
  · have hf := (if_pos t99).symm.trans hf
    refine lv_aload_n hx hb dX12_upland_102 rfl (lv_at hl 0 rfl) ?_
    refine bk_get (wf := mw) (q0 := 0) (ci := 11) (k := 16) (v := .int (σ 0 16)) C hP wl_X12 rfl rfl (by decide) wa_507 rfl rfl dX12_upland_103 ?_
    refine lv_if_eq (tgt := 118) hx hb dX12_upland_106 (by decide) (fun t106 => ?_) (fun t106 => ?_)
    · have hf := (if_pos t106).symm.trans hf
      cases hf
      exact (k (show ¬ (1 : Nat) = 0 by decide)) H locs ls hP hD hS (lv_sub hl [0] rfl)
    · have hf := (if_neg t106).symm.trans hf
      refine lv_aload_n hx hb dX12_upland_109 rfl (lv_at hl 0 rfl) ?_
      refine lv_iload_n hx hb dX12_upland_110 rfl (lv_at hl 1 rfl) ?_
      obtain ⟨q1, hq1, hf⟩ := bi_s hf
      refine bk_VI (wf := mw) (q0 := 0) (ci := 11) (rest := []) [.int x2] C hP hD hS hl.1 (c_X12_readLine hXo hq1) (cwA_V 1 hts wa_538 wa_535 wa_536 wa_537 wa_5 rfl rfl nd_X12_readLine ⟨Nat.le_of_ble_eq_true rfl, Nat.le_of_ble_eq_true rfl⟩) rfl rfl rfl rfl (Nat.le_of_ble_eq_true rfl) dX12_upland_111 ⟨Nat.le_of_ble_eq_true rfl, Nat.le_of_ble_eq_true rfl⟩ (fun H locs hP hD hS => ?_)
      obtain ⟨v2, ev2, hf⟩ := bd_s hf
      rw [← ev2]
      refine lv_istore_n (lv' := [(2, .int v2), (0, .ref (g.2.2 0))]) hx hb dX12_upland_114 rfl hl (by decide) rfl (fun ls hl => ?_)
      refine lv_goto (tgt := 95) hx hb dX12_upland_115 (by decide) ?_
      cases hf
      exact k0 rfl H locs ls hP hD hS (lv_sub hl [1, 0] rfl)
theorem lp_X12_upland_h95 {N : Nat} {n : Nat} {x2 : Int32} {σ : Sg} {z : Nat × Int32 × Sg} (C : Cx p s m args meth c cX12_upland 3 (some .int) RX12 g A X) (hz : it (fun q => s_X12_upland_h95 N q.1 q.2) n (x2, σ) = some z) (k : Bk mw p l e rm_X12_upland s m args below meth c 3 g A Q 0 0 118 [(0, .ref (g.2.2 0))] [] z.2.2) : Bk mw p l e rm_X12_upland s m args below meth c 3 g A Q 0 0 95 [(0, .ref (g.2.2 0)), (2, .int x2)] [] σ :=
  it_W (S := Int32 × Sg) (fun q => Bk mw p l e rm_X12_upland s m args below meth c 3 g A Q 0 0 95 [(0, .ref (g.2.2 0)), (2, .int q.1)] [] q.2) (fun z => Bk mw p l e rm_X12_upland s m args below meth c 3 g A Q 0 0 118 [(0, .ref (g.2.2 0))] [] z.2.2) (fun q z hq k0 k => e_X12_upland_h95 C hq k0 k) n (x2, σ) z hz k
def f_X12_upland_b82 (N : Nat) (x2 : Int32) (t1 : Int32) (t2 : Int32) (σ : Sg) : Option (Nat × Int32 × Sg) :=
if (t1 < 0 ∨ 10 ≤ t1.toNatClampNeg) then none else
bd (wr σ 3 (t1.toNatClampNeg) t2) fun σ4 =>
bd (x2 + (1 : Int32)) fun v5 =>
some (0, v5, σ4)
set_option maxHeartbeats 4000000 in
set_option maxRecDepth 100000 in
theorem b_X12_upland_b82 {N : Nat} {x2 : Int32} {t1 : Int32} {t2 : Int32} {σ : Sg} {z : Nat × Int32 × Sg} (C : Cx p s m args meth c cX12_upland 3 (some .int) RX12 g A X) (hf : f_X12_upland_b82 N x2 t1 t2 σ = some z) (k0 : z.1 = 0 → Bk mw p l e rm_X12_upland s m args below meth c 3 g A Q 0 0 50 [(0, .ref (g.2.2 0)), (2, .int z.2.1)] [] z.2.2) (k : ¬ z.1 = 0 → Bk mw p l e rm_X12_upland s m args below meth c 3 g A Q 0 0 89 [(0, .ref (g.2.2 0))] [] z.2.2) : Bk mw p l e rm_X12_upland s m args below meth c 3 g A Q 0 0 82 [(0, .ref (g.2.2 0)), (2, .int x2)] [.int t2, .int t1, .ref (g.2.2 3)] σ := by
  obtain ⟨hx, hb, hr, hml, hown, hts, hK, hlocks, hXX, hA, hXo⟩ := id C
  intro H locs ls hP hD hS hl
  unfold f_X12_upland_b82 at hf
  obtain ⟨g3, hf⟩ := gd_s hf
  obtain ⟨σ4, eσ4, hf⟩ := bd_s hf
  refine bk_iast (wf := mw) (σ1 := σ4) (q0 := 3) (n := 10) (j := t1.toNatClampNeg) C hP hD hS rfl g3 rfl (by rw [eσ4]; exact mw_a3 g _ _ _) dX12_upland_82 (fun H locs hP hD hS => ?_)
  obtain ⟨v5, ev5, hf⟩ := bd_s hf
  refine lv_iinc (v := v5) (lv' := [(2, .int v5), (0, .ref (g.2.2 0))]) hx hb dX12_upland_83 hl (k := 1) rfl (by rw [ev5]; rfl) (by decide) rfl (fun ls hl => ?_)
  refine lv_goto (tgt := 50) hx hb dX12_upland_86 (by decide) ?_
  cases hf
  exact k0 rfl H locs ls hP hD hS (lv_sub hl [1, 0] rfl)
def s_X12_upland_h50 (N : Nat) (x2 : Int32) (σ : Sg) : Option (Nat × Int32 × Sg) :=
if (5 : Int32) ≤ x2 then (some (1, 0, σ))
else (if x2 = (1 : Int32) then (f_X12_upland_b82 N x2 ((5 : Int32) + x2) (60 : Int32) σ)
else (if x2 = (2 : Int32) then (f_X12_upland_b82 N x2 ((5 : Int32) + x2) (3 : Int32) σ)
else (f_X12_upland_b82 N x2 ((5 : Int32) + x2) (0 : Int32) σ)))
set_option maxHeartbeats 4000000 in
set_option maxRecDepth 100000 in
theorem e_X12_upland_h50 {N : Nat} {x2 : Int32} {σ : Sg} {z : Nat × Int32 × Sg} (C : Cx p s m args meth c cX12_upland 3 (some .int) RX12 g A X) (hf : s_X12_upland_h50 N x2 σ = some z) (k0 : z.1 = 0 → Bk mw p l e rm_X12_upland s m args below meth c 3 g A Q 0 0 50 [(0, .ref (g.2.2 0)), (2, .int z.2.1)] [] z.2.2) (k : ¬ z.1 = 0 → Bk mw p l e rm_X12_upland s m args below meth c 3 g A Q 0 0 89 [(0, .ref (g.2.2 0))] [] z.2.2) : Bk mw p l e rm_X12_upland s m args below meth c 3 g A Q 0 0 50 [(0, .ref (g.2.2 0)), (2, .int x2)] [] σ := by
  obtain ⟨hx, hb, hr, hml, hown, hts, hK, hlocks, hXX, hA, hXo⟩ := id C
  intro H locs ls hP hD hS hl
  unfold s_X12_upland_h50 at hf
  refine lv_iload_n hx hb dX12_upland_50 rfl (lv_at hl 1 rfl) ?_
  refine lv_iconst (v := (5 : Int32)) hx hb dX12_upland_51 (by decide) ?_
  refine lv_icmp_ge (tgt := 89) hx hb dX12_upland_52 (by decide) (fun t52 => ?_) (fun t52 => ?_)
  · have hf := (if_pos t52).symm.trans hf
    cases hf
    exact (k (show ¬ (1 : Nat) = 0 by decide)) H locs ls hP hD hS (lv_sub hl [0] rfl)
  · have hf := (if_neg t52).symm.trans hf
    refine lv_aload_n hx hb dX12_upland_55 rfl (lv_at hl 0 rfl) ?_
    refine bk_get (wf := mw) (q0 := 0) (ci := 11) (k := 3) (v := .ref (g.2.2 3)) C hP wl_X12 rfl rfl (by decide) wa_157 rfl rfl dX12_upland_56 ?_
    refine lv_iconst (v := (5 : Int32)) hx hb dX12_upland_59 (by decide) ?_
    refine lv_iload_n hx hb dX12_upland_60 rfl (lv_at hl 1 rfl) ?_
    refine lv_iadd hx hb dX12_upland_61 ?_
    refine lv_iload_n hx hb dX12_upland_62 rfl (lv_at hl 1 rfl) ?_
    refine lv_iconst (v := (1 : Int32)) hx hb dX12_upland_63 (by decide) ?_
    refine lv_icmp_ne (tgt := 72) hx hb dX12_upland_64 (by decide) (fun t64 => ?_) (fun t64 => ?_)
    · have hf := (if_neg t64).symm.trans hf
      refine lv_iload_n hx hb dX12_upland_72 rfl (lv_at hl 1 rfl) ?_
      refine lv_iconst (v := (2 : Int32)) hx hb dX12_upland_73 (by decide) ?_
      refine lv_icmp_ne (tgt := 81) hx hb dX12_upland_74 (by decide) (fun t74 => ?_) (fun t74 => ?_)
      · have hf := (if_neg t74).symm.trans hf
        refine lv_iconst (v := (0 : Int32)) hx hb dX12_upland_81 (by decide) ?_
        exact b_X12_upland_b82 C hf k0 k H locs ls hP hD hS (lv_sub hl [0, 1] rfl)
      · have hf := (if_pos t74).symm.trans hf
        refine lv_iconst (v := (3 : Int32)) hx hb dX12_upland_77 (by decide) ?_
        refine lv_goto (tgt := 82) hx hb dX12_upland_78 (by decide) ?_
        exact b_X12_upland_b82 C hf k0 k H locs ls hP hD hS (lv_sub hl [0, 1] rfl)
    · have hf := (if_pos t64).symm.trans hf
      refine lv_bipush (v := (60 : Int32)) hx hb dX12_upland_67 (by decide) ?_
      refine lv_goto (tgt := 82) hx hb dX12_upland_69 (by decide) ?_
      exact b_X12_upland_b82 C hf k0 k H locs ls hP hD hS (lv_sub hl [0, 1] rfl)
theorem lp_X12_upland_h50 {N : Nat} {n : Nat} {x2 : Int32} {σ : Sg} {z : Nat × Int32 × Sg} (C : Cx p s m args meth c cX12_upland 3 (some .int) RX12 g A X) (hz : it (fun q => s_X12_upland_h50 N q.1 q.2) n (x2, σ) = some z) (k : Bk mw p l e rm_X12_upland s m args below meth c 3 g A Q 0 0 89 [(0, .ref (g.2.2 0))] [] z.2.2) : Bk mw p l e rm_X12_upland s m args below meth c 3 g A Q 0 0 50 [(0, .ref (g.2.2 0)), (2, .int x2)] [] σ :=
  it_W (S := Int32 × Sg) (fun q => Bk mw p l e rm_X12_upland s m args below meth c 3 g A Q 0 0 50 [(0, .ref (g.2.2 0)), (2, .int q.1)] [] q.2) (fun z => Bk mw p l e rm_X12_upland s m args below meth c 3 g A Q 0 0 89 [(0, .ref (g.2.2 0))] [] z.2.2) (fun q z hq k0 k => e_X12_upland_h50 C hq k0 k) n (x2, σ) z hz k
def f_X12_upland_b17 (N : Nat) (σ : Sg) : Option (Int32 × Sg) :=
(f_X12_fail N (1 : Int32) σ).bind fun q6 =>
some (q6.1, (q6.2))
set_option maxHeartbeats 4000000 in
set_option maxRecDepth 100000 in
theorem b_X12_upland_b17 {N : Nat} {σ : Sg} {z : Int32 × Sg} (C : Cx p s m args meth c cX12_upland 3 (some .int) RX12 g A X) (hf : f_X12_upland_b17 N σ = some z) : Bk mw p l e rm_X12_upland s m args below meth c 3 g A (MQ below (qI mw g A z.1 z.2) args s 0 0 A) 0 0 17 [(0, .ref (g.2.2 0))] [] σ := by
  obtain ⟨hx, hb, hr, hml, hown, hts, hK, hlocks, hXX, hA, hXo⟩ := id C
  intro H locs ls hP hD hS hl
  unfold f_X12_upland_b17 at hf
  refine lv_aload_n hx hb dX12_upland_17 rfl (lv_at hl 0 rfl) ?_
  refine lv_iconst (v := (1 : Int32)) hx hb dX12_upland_18 (by decide) ?_
  obtain ⟨q6, hq6, hf⟩ := bi_s hf
  refine bk_VI (wf := mw) (q0 := 0) (ci := 11) (rest := []) [.int (1 : Int32)] C hP hD hS hl.1 (c_X12_fail hXo hq6) (cwA_V 1 hts wa_512 wa_509 wa_510 wa_511 wa_5 rfl rfl nd_X12_fail ⟨Nat.le_of_ble_eq_true rfl, Nat.le_of_ble_eq_true rfl⟩) rfl rfl rfl rfl (Nat.le_of_ble_eq_true rfl) dX12_upland_19 ⟨Nat.le_of_ble_eq_true rfl, Nat.le_of_ble_eq_true rfl⟩ (fun H locs hP hD hS => ?_)
  cases hf
  exact bk_iret C hP hD hS rfl dX12_upland_22
def f_X12_upland (N : Nat) (x1 : Int32) (σ : Sg) : Option (Int32 × Sg) :=
bd (wr σ 0 2 (0 : Int32)) fun σ7 =>
if x1 < 0 then (f_X12_upland_b17 N σ7)
else (if x1 ≤ (σ7 0 13) then (bd (wr σ7 0 13 (0 : Int32)) fun σ8 =>
bd (wr σ8 0 15 x1) fun σ9 =>
bd (wr σ9 0 14 (0 : Int32)) fun σ10 =>
bd (wr σ10 0 20 (0 : Int32)) fun σ11 =>
bd (wr σ11 0 22 (-1 : Int32)) fun σ12 =>
(it (fun q => s_X12_upland_h50 N q.1 q.2) N ((0 : Int32), σ12)).bind fun z13 =>
(f_X12_stepOn N (z13.2.2)).bind fun q14 =>
(it (fun q => s_X12_upland_h95 N q.1 q.2) N ((0 : Int32), q14)).bind fun z15 =>
if ((z15.2.2) 0 20) = 0 then ((f_X12_takeOver N (z15.2.2)).bind fun q16 =>
some ((0 : Int32), q16))
else (bd (wr (z15.2.2) 0 22 ((z15.2.2) 0 21)) fun σ17 =>
bd (wr σ17 11 0 ((σ17 11 0) + (1 : Int32))) fun σ18 =>
some ((σ18 0 20), σ18)))
else (f_X12_upland_b17 N σ7))
set_option maxHeartbeats 4000000 in
set_option maxRecDepth 100000 in
theorem b_X12_upland {N : Nat} {x1 : Int32} {σ : Sg} {z : Int32 × Sg} (C : Cx p s m args meth c cX12_upland 3 (some .int) RX12 g A X) (hf : f_X12_upland N x1 σ = some z) : Bk mw p l e rm_X12_upland s m args below meth c 3 g A (MQ below (qI mw g A z.1 z.2) args s 0 0 A) 0 0 0 [(0, .ref (g.2.2 0)), (1, .int x1)] [] σ := by
  obtain ⟨hx, hb, hr, hml, hown, hts, hK, hlocks, hXX, hA, hXo⟩ := id C
  intro H locs ls hP hD hS hl
  unfold f_X12_upland at hf
  refine lv_aload_n hx hb dX12_upland_0 rfl (lv_at hl 0 rfl) ?_
  refine lv_iconst (v := (0 : Int32)) hx hb dX12_upland_1 (by decide) ?_
  obtain ⟨σ7, eσ7, hf⟩ := bd_s hf
  refine bk_put (wf := mw) (σ1 := σ7) (q0 := 0) (ci := 11) (k := 2) (v := .int (0 : Int32)) C hP hD hS wl_X12 tyX12_ok nmX12 rfl rfl (by decide) wa_205 rfl rfl rfl rfl rfl (Nat.le_of_ble_eq_true rfl) (by rw [eσ7]; exact mw_p0_2 g _ _) dX12_upland_2 (fun H locs hP hD hS => ?_)
  refine lv_iload_n hx hb dX12_upland_5 rfl (lv_at hl 1 rfl) ?_
  refine lv_if_lt (tgt := 17) hx hb dX12_upland_6 (by decide) (fun t6 => ?_) (fun t6 => ?_)
  · have hf := (if_pos t6).symm.trans hf
    exact b_X12_upland_b17 C hf H locs ls hP hD hS (lv_sub hl [0] rfl)
  · have hf := (if_neg t6).symm.trans hf
    refine lv_iload_n hx hb dX12_upland_9 rfl (lv_at hl 1 rfl) ?_
    refine lv_aload_n hx hb dX12_upland_10 rfl (lv_at hl 0 rfl) ?_
    refine bk_get (wf := mw) (q0 := 0) (ci := 11) (k := 13) (v := .int (σ7 0 13)) C hP wl_X12 rfl rfl (by decide) wa_206 rfl rfl dX12_upland_11 ?_
    refine lv_icmp_le (tgt := 23) hx hb dX12_upland_14 (by decide) (fun t14 => ?_) (fun t14 => ?_)
    · have hf := (if_pos t14).symm.trans hf
      refine lv_aload_n hx hb dX12_upland_23 rfl (lv_at hl 0 rfl) ?_
      refine lv_iconst (v := (0 : Int32)) hx hb dX12_upland_24 (by decide) ?_
      obtain ⟨σ8, eσ8, hf⟩ := bd_s hf
      refine bk_put (wf := mw) (σ1 := σ8) (q0 := 0) (ci := 11) (k := 13) (v := .int (0 : Int32)) C hP hD hS wl_X12 tyX12_ok nmX12 rfl rfl (by decide) wa_206 rfl rfl rfl rfl rfl (Nat.le_of_ble_eq_true rfl) (by rw [eσ8]; exact mw_p0_13 g _ _) dX12_upland_25 (fun H locs hP hD hS => ?_)
      refine lv_aload_n hx hb dX12_upland_28 rfl (lv_at hl 0 rfl) ?_
      refine lv_iload_n hx hb dX12_upland_29 rfl (lv_at hl 1 rfl) ?_
      obtain ⟨σ9, eσ9, hf⟩ := bd_s hf
      refine bk_put (wf := mw) (σ1 := σ9) (q0 := 0) (ci := 11) (k := 15) (v := .int x1) C hP hD hS wl_X12 tyX12_ok nmX12 rfl rfl (by decide) wa_504 rfl rfl rfl rfl rfl (Nat.le_of_ble_eq_true rfl) (by rw [eσ9]; exact mw_p0_15 g _ _) dX12_upland_30 (fun H locs hP hD hS => ?_)
      refine lv_aload_n hx hb dX12_upland_33 rfl (lv_at hl 0 rfl) ?_
      refine lv_iconst (v := (0 : Int32)) hx hb dX12_upland_34 (by decide) ?_
      obtain ⟨σ10, eσ10, hf⟩ := bd_s hf
      refine bk_put (wf := mw) (σ1 := σ10) (q0 := 0) (ci := 11) (k := 14) (v := .int (0 : Int32)) C hP hD hS wl_X12 tyX12_ok nmX12 rfl rfl (by decide) wa_505 rfl rfl rfl rfl rfl (Nat.le_of_ble_eq_true rfl) (by rw [eσ10]; exact mw_p0_14 g _ _) dX12_upland_35 (fun H locs hP hD hS => ?_)
      refine lv_aload_n hx hb dX12_upland_38 rfl (lv_at hl 0 rfl) ?_
      refine lv_iconst (v := (0 : Int32)) hx hb dX12_upland_39 (by decide) ?_
      obtain ⟨σ11, eσ11, hf⟩ := bd_s hf
      refine bk_put (wf := mw) (σ1 := σ11) (q0 := 0) (ci := 11) (k := 20) (v := .int (0 : Int32)) C hP hD hS wl_X12 tyX12_ok nmX12 rfl rfl (by decide) wa_506 rfl rfl rfl rfl rfl (Nat.le_of_ble_eq_true rfl) (by rw [eσ11]; exact mw_p0_20 g _ _) dX12_upland_40 (fun H locs hP hD hS => ?_)
      refine lv_aload_n hx hb dX12_upland_43 rfl (lv_at hl 0 rfl) ?_
      refine lv_iconst (v := (-1 : Int32)) hx hb dX12_upland_44 (by decide) ?_
      obtain ⟨σ12, eσ12, hf⟩ := bd_s hf
      refine bk_put (wf := mw) (σ1 := σ12) (q0 := 0) (ci := 11) (k := 22) (v := .int (-1 : Int32)) C hP hD hS wl_X12 tyX12_ok nmX12 rfl rfl (by decide) wa_167 rfl rfl rfl rfl rfl (Nat.le_of_ble_eq_true rfl) (by rw [eσ12]; exact mw_p0_22 g _ _) dX12_upland_45 (fun H locs hP hD hS => ?_)
      refine lv_iconst (v := (0 : Int32)) hx hb dX12_upland_48 (by decide) ?_
      refine lv_istore_n (lv' := [(2, .int (0 : Int32)), (0, .ref (g.2.2 0)), (1, .int x1)]) hx hb dX12_upland_49 rfl hl (by decide) rfl (fun ls hl => ?_)
      obtain ⟨z13, hz13, hf⟩ := bi_s hf
      refine lp_X12_upland_h50 C hz13 ?_ H locs ls hP hD hS (lv_sub hl [1, 0] rfl)
      intro H locs ls hP hD hS hl
      refine lv_aload_n hx hb dX12_upland_89 rfl (lv_at hl 0 rfl) ?_
      obtain ⟨q14, hq14, hf⟩ := bi_s hf
      refine bk_VV (wf := mw) (q0 := 0) (ci := 11) (rest := []) [] C hP hD hS hl.1 (c_X12_stepOn hXo hq14) (cwA_V 0 hts wa_516 wa_513 wa_514 wa_515 wa_5 rfl rfl nd_X12_stepOn ⟨Nat.le_of_ble_eq_true rfl, Nat.le_of_ble_eq_true rfl⟩) rfl rfl rfl rfl (Nat.le_of_ble_eq_true rfl) dX12_upland_90 ⟨Nat.le_of_ble_eq_true rfl, Nat.le_of_ble_eq_true rfl⟩ (fun H locs hP hD hS => ?_)
      refine lv_iconst (v := (0 : Int32)) hx hb dX12_upland_93 (by decide) ?_
      refine lv_istore_n (lv' := [(2, .int (0 : Int32)), (0, .ref (g.2.2 0))]) hx hb dX12_upland_94 rfl hl (by decide) rfl (fun ls hl => ?_)
      obtain ⟨z15, hz15, hf⟩ := bi_s hf
      refine lp_X12_upland_h95 C hz15 ?_ H locs ls hP hD hS (lv_sub hl [1, 0] rfl)
      intro H locs ls hP hD hS hl
      refine lv_aload_n hx hb dX12_upland_118 rfl (lv_at hl 0 rfl) ?_
      refine bk_get (wf := mw) (q0 := 0) (ci := 11) (k := 20) (v := .int ((z15.2.2) 0 20)) C hP wl_X12 rfl rfl (by decide) wa_506 rfl rfl dX12_upland_119 ?_
      refine lv_if_eq (tgt := 148) hx hb dX12_upland_122 (by decide) (fun t122 => ?_) (fun t122 => ?_)
      · have hf := (if_pos t122).symm.trans hf
        refine lv_aload_n hx hb dX12_upland_148 rfl (lv_at hl 0 rfl) ?_
        obtain ⟨q16, hq16, hf⟩ := bi_s hf
        refine bk_VV (wf := mw) (q0 := 0) (ci := 11) (rest := []) [] C hP hD hS hl.1 (c_X12_takeOver hXo hq16) (cwA_V 0 hts wa_612 wa_609 wa_610 wa_611 wa_5 rfl rfl nd_X12_takeOver ⟨Nat.le_of_ble_eq_true rfl, Nat.le_of_ble_eq_true rfl⟩) rfl rfl rfl rfl (Nat.le_of_ble_eq_true rfl) dX12_upland_149 ⟨Nat.le_of_ble_eq_true rfl, Nat.le_of_ble_eq_true rfl⟩ (fun H locs hP hD hS => ?_)
        refine lv_iconst (v := (0 : Int32)) hx hb dX12_upland_152 (by decide) ?_
        cases hf
        exact bk_iret C hP hD hS rfl dX12_upland_153
      · have hf := (if_neg t122).symm.trans hf
        refine lv_aload_n hx hb dX12_upland_125 rfl (lv_at hl 0 rfl) ?_
        refine lv_aload_n hx hb dX12_upland_126 rfl (lv_at hl 0 rfl) ?_
        refine bk_get (wf := mw) (q0 := 0) (ci := 11) (k := 21) (v := .int ((z15.2.2) 0 21)) C hP wl_X12 rfl rfl (by decide) wa_508 rfl rfl dX12_upland_127 ?_
        obtain ⟨σ17, eσ17, hf⟩ := bd_s hf
        refine bk_put (wf := mw) (σ1 := σ17) (q0 := 0) (ci := 11) (k := 22) (v := .int ((z15.2.2) 0 21)) C hP hD hS wl_X12 tyX12_ok nmX12 rfl rfl (by decide) wa_167 rfl rfl rfl rfl rfl (Nat.le_of_ble_eq_true rfl) (by rw [eσ17]; exact mw_p0_22 g _ _) dX12_upland_130 (fun H locs hP hD hS => ?_)
        refine lv_aload_n hx hb dX12_upland_133 rfl (lv_at hl 0 rfl) ?_
        refine bk_get (wf := mw) (q0 := 0) (ci := 11) (k := 11) (v := .ref (g.2.2 11)) C hP wl_X12 rfl rfl (by decide) wa_165 rfl rfl dX12_upland_134 ?_
        refine lv_iconst (v := (0 : Int32)) hx hb dX12_upland_137 (by decide) ?_
        refine lv_dup2_11 hx hb dX12_upland_138 rfl rfl ?_
        refine bk_iald (wf := mw) (q0 := 11) (n := 3) (j := 0) C hP rfl (vin_l (by decide) (by decide)) (by decide) dX12_upland_139 ?_
        refine lv_iconst (v := (1 : Int32)) hx hb dX12_upland_140 (by decide) ?_
        refine lv_iadd hx hb dX12_upland_141 ?_
        obtain ⟨σ18, eσ18, hf⟩ := bd_s hf
        refine bk_iast (wf := mw) (σ1 := σ18) (q0 := 11) (n := 3) (j := 0) C hP hD hS rfl (vin_l (by decide) (by decide)) (by decide) (by rw [eσ18]; exact mw_a11 g _ _ _) dX12_upland_142 (fun H locs hP hD hS => ?_)
        refine lv_aload_n hx hb dX12_upland_143 rfl (lv_at hl 0 rfl) ?_
        refine bk_get (wf := mw) (q0 := 0) (ci := 11) (k := 20) (v := .int (σ18 0 20)) C hP wl_X12 rfl rfl (by decide) wa_506 rfl rfl dX12_upland_144 ?_
        cases hf
        exact bk_iret C hP hD hS rfl dX12_upland_147
    · have hf := (if_neg t14).symm.trans hf
      exact b_X12_upland_b17 C hf H locs ls hP hD hS (lv_sub hl [0] rfl)
theorem c_X12_upland {N : Nat} {x1 : Int32} {σ : Sg} {z : Int32 × Sg} (hX : xOK g X) (hf : f_X12_upland N x1 σ = some z) : MetI l yX12_upland (Cond.code yX12_upland cX12_upland 3 (some .int) :: wsA) rm_X12_upland mw g X [.ref (g.2.2 0), .int x1] σ z.1 z.2 :=
  MetI_of hX (by decide) (Nat.le_of_ble_eq_true rfl) (fun p e s m args below meth c A C => b_X12_upland C hf)
-- X12_fault: fault()I
abbrev rm_X12_fault : Room := { frames := 0, cells := 0, slots := 0, locals := 0 }
theorem nd_X12_fault : yX12_fault.cls ≠ "java/lang/invoke/MethodHandle" ∧ yX12_fault.cls ≠ "java/lang/invoke/VarHandle" ∧ (parseMethodDescriptor yX12_fault.desc).map (fun d => d.parameters.length) = some 0 := by decide +kernel
def f_X12_fault (N : Nat) (σ : Sg) : Option (Int32 × Sg) :=
bd (wr σ 0 2 (0 : Int32)) fun σ1 =>
some ((σ1 0 22), σ1)
set_option maxHeartbeats 4000000 in
set_option maxRecDepth 100000 in
theorem b_X12_fault {N : Nat} {σ : Sg} {z : Int32 × Sg} (C : Cx p s m args meth c cX12_fault 1 (some .int) RX12 g A X) (hf : f_X12_fault N σ = some z) : Bk mw p l e rm_X12_fault s m args below meth c 1 g A (MQ below (qI mw g A z.1 z.2) args s 0 0 A) 0 0 0 [(0, .ref (g.2.2 0))] [] σ := by
  obtain ⟨hx, hb, hr, hml, hown, hts, hK, hlocks, hXX, hA, hXo⟩ := id C
  intro H locs ls hP hD hS hl
  unfold f_X12_fault at hf
  refine lv_aload_n hx hb dX12_fault_0 rfl (lv_at hl 0 rfl) ?_
  refine lv_iconst (v := (0 : Int32)) hx hb dX12_fault_1 (by decide) ?_
  obtain ⟨σ1, eσ1, hf⟩ := bd_s hf
  refine bk_put (wf := mw) (σ1 := σ1) (q0 := 0) (ci := 11) (k := 2) (v := .int (0 : Int32)) C hP hD hS wl_X12 tyX12_ok nmX12 rfl rfl (by decide) wa_205 rfl rfl rfl rfl rfl (Nat.le_of_ble_eq_true rfl) (by rw [eσ1]; exact mw_p0_2 g _ _) dX12_fault_2 (fun H locs hP hD hS => ?_)
  refine lv_aload_n hx hb dX12_fault_5 rfl (lv_at hl 0 rfl) ?_
  refine bk_get (wf := mw) (q0 := 0) (ci := 11) (k := 22) (v := .int (σ1 0 22)) C hP wl_X12 rfl rfl (by decide) wa_167 rfl rfl dX12_fault_6 ?_
  cases hf
  exact bk_iret C hP hD hS rfl dX12_fault_9
theorem c_X12_fault {N : Nat} {σ : Sg} {z : Int32 × Sg} (hX : xOK g X) (hf : f_X12_fault N σ = some z) : MetI l yX12_fault (Cond.code yX12_fault cX12_fault 1 (some .int) :: wsA) rm_X12_fault mw g X [.ref (g.2.2 0)] σ z.1 z.2 :=
  MetI_of hX (by decide) (Nat.le_of_ble_eq_true rfl) (fun p e s m args below meth c A C => b_X12_fault C hf)
-- X12_mistOf: mistOf()I
abbrev rm_X12_mistOf : Room := { frames := 0, cells := 0, slots := 0, locals := 0 }
theorem nd_X12_mistOf : yX12_mistOf.cls ≠ "java/lang/invoke/MethodHandle" ∧ yX12_mistOf.cls ≠ "java/lang/invoke/VarHandle" ∧ (parseMethodDescriptor yX12_mistOf.desc).map (fun d => d.parameters.length) = some 0 := by decide +kernel
def f_X12_mistOf (N : Nat) (σ : Sg) : Option (Int32 × Sg) :=
if (σ 0 32) = (-1 : Int32) then (if (σ 3 3) = 0 then (some ((0 : Int32), σ))
else (if (σ 3 3) = 0 then none else
if (((σ 0 28) - (σ 0 28) / (σ 3 3) * (σ 3 3)) < 0 ∨ 16 ≤ ((σ 0 28) - (σ 0 28) / (σ 3 3) * (σ 3 3)).toNatClampNeg) then none else
some ((σ 9 ((σ 0 28) - (σ 0 28) / (σ 3 3) * (σ 3 3)).toNatClampNeg), σ)))
else (some ((σ 0 32), σ))
set_option maxHeartbeats 4000000 in
set_option maxRecDepth 100000 in
theorem b_X12_mistOf {N : Nat} {σ : Sg} {z : Int32 × Sg} (C : Cx p s m args meth c cX12_mistOf 1 (some .int) RX12 g A X) (hf : f_X12_mistOf N σ = some z) : Bk mw p l e rm_X12_mistOf s m args below meth c 1 g A (MQ below (qI mw g A z.1 z.2) args s 0 0 A) 0 0 0 [(0, .ref (g.2.2 0))] [] σ := by
  obtain ⟨hx, hb, hr, hml, hown, hts, hK, hlocks, hXX, hA, hXo⟩ := id C
  intro H locs ls hP hD hS hl
  unfold f_X12_mistOf at hf
  refine lv_aload_n hx hb dX12_mistOf_0 rfl (lv_at hl 0 rfl) ?_
  refine bk_get (wf := mw) (q0 := 0) (ci := 11) (k := 32) (v := .int (σ 0 32)) C hP wl_X12 rfl rfl (by decide) wa_173 rfl rfl dX12_mistOf_1 ?_
  refine lv_iconst (v := (-1 : Int32)) hx hb dX12_mistOf_4 (by decide) ?_
  refine lv_icmp_eq (tgt := 15) hx hb dX12_mistOf_5 (by decide) (fun t5 => ?_) (fun t5 => ?_)
  · have hf := (if_pos t5).symm.trans hf
    refine lv_aload_n hx hb dX12_mistOf_15 rfl (lv_at hl 0 rfl) ?_
    refine bk_get (wf := mw) (q0 := 0) (ci := 11) (k := 3) (v := .ref (g.2.2 3)) C hP wl_X12 rfl rfl (by decide) wa_157 rfl rfl dX12_mistOf_16 ?_
    refine lv_iconst (v := (3 : Int32)) hx hb dX12_mistOf_19 (by decide) ?_
    refine bk_iald (wf := mw) (q0 := 3) (n := 10) (j := 3) C hP rfl (vin_l (by decide) (by decide)) (by decide) dX12_mistOf_20 ?_
    refine lv_if_ne (tgt := 28) hx hb dX12_mistOf_21 (by decide) (fun t21 => ?_) (fun t21 => ?_)
    · have hf := (if_neg t21).symm.trans hf
      refine lv_aload_n hx hb dX12_mistOf_28 rfl (lv_at hl 0 rfl) ?_
      refine bk_get (wf := mw) (q0 := 0) (ci := 11) (k := 9) (v := .ref (g.2.2 9)) C hP wl_X12 rfl rfl (by decide) wa_163 rfl rfl dX12_mistOf_29 ?_
      refine lv_aload_n hx hb dX12_mistOf_32 rfl (lv_at hl 0 rfl) ?_
      refine bk_get (wf := mw) (q0 := 0) (ci := 11) (k := 28) (v := .int (σ 0 28)) C hP wl_X12 rfl rfl (by decide) wa_613 rfl rfl dX12_mistOf_33 ?_
      refine lv_aload_n hx hb dX12_mistOf_36 rfl (lv_at hl 0 rfl) ?_
      refine bk_get (wf := mw) (q0 := 0) (ci := 11) (k := 3) (v := .ref (g.2.2 3)) C hP wl_X12 rfl rfl (by decide) wa_157 rfl rfl dX12_mistOf_37 ?_
      refine lv_iconst (v := (3 : Int32)) hx hb dX12_mistOf_40 (by decide) ?_
      refine bk_iald (wf := mw) (q0 := 3) (n := 10) (j := 3) C hP rfl (vin_l (by decide) (by decide)) (by decide) dX12_mistOf_41 ?_
      obtain ⟨g1, hf⟩ := gd_s hf
      refine lv_irem hx hb dX12_mistOf_42 g1 ?_
      obtain ⟨g2, hf⟩ := gd_s hf
      refine bk_iald (wf := mw) (q0 := 9) (n := 16) (j := ((σ 0 28) - (σ 0 28) / (σ 3 3) * (σ 3 3)).toNatClampNeg) C hP rfl g2 rfl dX12_mistOf_43 ?_
      cases hf
      exact bk_iret C hP hD hS rfl dX12_mistOf_44
    · have hf := (if_pos t21).symm.trans hf
      refine lv_iconst (v := (0 : Int32)) hx hb dX12_mistOf_24 (by decide) ?_
      refine lv_goto (tgt := 44) hx hb dX12_mistOf_25 (by decide) ?_
      cases hf
      exact bk_iret C hP hD hS rfl dX12_mistOf_44
  · have hf := (if_neg t5).symm.trans hf
    refine lv_aload_n hx hb dX12_mistOf_8 rfl (lv_at hl 0 rfl) ?_
    refine bk_get (wf := mw) (q0 := 0) (ci := 11) (k := 32) (v := .int (σ 0 32)) C hP wl_X12 rfl rfl (by decide) wa_173 rfl rfl dX12_mistOf_9 ?_
    refine lv_goto (tgt := 44) hx hb dX12_mistOf_12 (by decide) ?_
    cases hf
    exact bk_iret C hP hD hS rfl dX12_mistOf_44
theorem c_X12_mistOf {N : Nat} {σ : Sg} {z : Int32 × Sg} (hX : xOK g X) (hf : f_X12_mistOf N σ = some z) : MetI l yX12_mistOf (Cond.code yX12_mistOf cX12_mistOf 1 (some .int) :: wsA) rm_X12_mistOf mw g X [.ref (g.2.2 0)] σ z.1 z.2 :=
  MetI_of hX (by decide) (Nat.le_of_ble_eq_true rfl) (fun p e s m args below meth c A C => b_X12_mistOf C hf)
-- X12_topOf: topOf(I)I
abbrev rm_X12_topOf : Room := { frames := 0, cells := 0, slots := 0, locals := 0 }
theorem nd_X12_topOf : yX12_topOf.cls ≠ "java/lang/invoke/MethodHandle" ∧ yX12_topOf.cls ≠ "java/lang/invoke/VarHandle" ∧ (parseMethodDescriptor yX12_topOf.desc).map (fun d => d.parameters.length) = some 1 := by decide +kernel
def f_X12_topOf (N : Nat) (x1 : Int32) (σ : Sg) : Option (Int32 × Sg) :=
if (x1 < 0 ∨ 18 ≤ x1.toNatClampNeg) then none else
if (x1 < 0 ∨ 9 ≤ x1.toNatClampNeg) then none else
some (((σ 6 x1.toNatClampNeg) + (σ 16 x1.toNatClampNeg)), σ)
set_option maxHeartbeats 4000000 in
set_option maxRecDepth 100000 in
theorem b_X12_topOf {N : Nat} {x1 : Int32} {σ : Sg} {z : Int32 × Sg} (C : Cx p s m args meth c cX12_topOf 2 (some .int) RX12 g A X) (hf : f_X12_topOf N x1 σ = some z) : Bk mw p l e rm_X12_topOf s m args below meth c 2 g A (MQ below (qI mw g A z.1 z.2) args s 0 0 A) 0 0 0 [(0, .ref (g.2.2 0)), (1, .int x1)] [] σ := by
  obtain ⟨hx, hb, hr, hml, hown, hts, hK, hlocks, hXX, hA, hXo⟩ := id C
  intro H locs ls hP hD hS hl
  unfold f_X12_topOf at hf
  refine lv_aload_n hx hb dX12_topOf_0 rfl (lv_at hl 0 rfl) ?_
  refine bk_get (wf := mw) (q0 := 0) (ci := 11) (k := 6) (v := .ref (g.2.2 6)) C hP wl_X12 rfl rfl (by decide) wa_160 rfl rfl dX12_topOf_1 ?_
  refine lv_iload_n hx hb dX12_topOf_4 rfl (lv_at hl 1 rfl) ?_
  obtain ⟨g1, hf⟩ := gd_s hf
  refine bk_iald (wf := mw) (q0 := 6) (n := 18) (j := x1.toNatClampNeg) C hP rfl g1 rfl dX12_topOf_5 ?_
  refine lv_aload_n hx hb dX12_topOf_6 rfl (lv_at hl 0 rfl) ?_
  refine bk_get (wf := mw) (q0 := 0) (ci := 11) (k := 26) (v := .ref (g.2.2 16)) C hP wl_X12 rfl rfl (by decide) wa_171 rfl rfl dX12_topOf_7 ?_
  refine lv_iload_n hx hb dX12_topOf_10 rfl (lv_at hl 1 rfl) ?_
  obtain ⟨g2, hf⟩ := gd_s hf
  refine bk_iald (wf := mw) (q0 := 16) (n := 9) (j := x1.toNatClampNeg) C hP rfl g2 rfl dX12_topOf_11 ?_
  refine lv_iadd hx hb dX12_topOf_12 ?_
  cases hf
  exact bk_iret C hP hD hS rfl dX12_topOf_13
theorem c_X12_topOf {N : Nat} {x1 : Int32} {σ : Sg} {z : Int32 × Sg} (hX : xOK g X) (hf : f_X12_topOf N x1 σ = some z) : MetI l yX12_topOf (Cond.code yX12_topOf cX12_topOf 2 (some .int) :: wsA) rm_X12_topOf mw g X [.ref (g.2.2 0), .int x1] σ z.1 z.2 :=
  MetI_of hX (by decide) (Nat.le_of_ble_eq_true rfl) (fun p e s m args below meth c A C => b_X12_topOf C hf)
-- X12_isBetween: isBetween(III)Z
abbrev rm_X12_isBetween : Room := { frames := 1, cells := 0, slots := 0, locals := 24 }
theorem nd_X12_isBetween : yX12_isBetween.cls ≠ "java/lang/invoke/MethodHandle" ∧ yX12_isBetween.cls ≠ "java/lang/invoke/VarHandle" ∧ (parseMethodDescriptor yX12_isBetween.desc).map (fun d => d.parameters.length) = some 3 := by decide +kernel
def f_X12_isBetween_b52 (N : Nat) (σ : Sg) : Option (Int32 × Sg) :=
some ((0 : Int32), σ)
set_option maxHeartbeats 4000000 in
set_option maxRecDepth 100000 in
theorem b_X12_isBetween_b52 {N : Nat} {σ : Sg} {z : Int32 × Sg} (C : Cx p s m args meth c cX12_isBetween 4 (some .boolean) RX12 g A X) (hf : f_X12_isBetween_b52 N σ = some z) : Bk mw p l e rm_X12_isBetween s m args below meth c 4 g A (MQ below (qI mw g A z.1 z.2) args s 0 0 A) 0 0 52 [] [] σ := by
  obtain ⟨hx, hb, hr, hml, hown, hts, hK, hlocks, hXX, hA, hXo⟩ := id C
  intro H locs ls hP hD hS hl
  unfold f_X12_isBetween_b52 at hf
  refine lv_iconst (v := (0 : Int32)) hx hb dX12_isBetween_52 (by decide) ?_
  cases hf
  exact bk_zret C hP hD hS (by decide) rfl dX12_isBetween_53
def f_X12_isBetween (N : Nat) (x1 : Int32) (x2 : Int32) (x3 : Int32) (σ : Sg) : Option (Int32 × Sg) :=
if (x1 < 0 ∨ 18 ≤ x1.toNatClampNeg) then none else
if (x2 < 0 ∨ 18 ≤ x2.toNatClampNeg) then none else
if (x3 < 0 ∨ 18 ≤ x3.toNatClampNeg) then none else
if (σ 5 x1.toNatClampNeg) ≤ (if (σ 5 x3.toNatClampNeg) < (σ 5 x2.toNatClampNeg) then (σ 5 x3.toNatClampNeg) else (σ 5 x2.toNatClampNeg)) then (f_X12_isBetween_b52 N σ)
else (if (x1 < 0 ∨ 18 ≤ x1.toNatClampNeg) then none else
if (x2 < 0 ∨ 18 ≤ x2.toNatClampNeg) then none else
if (x3 < 0 ∨ 18 ≤ x3.toNatClampNeg) then none else
if (if (σ 5 x2.toNatClampNeg) < (σ 5 x3.toNatClampNeg) then (σ 5 x3.toNatClampNeg) else (σ 5 x2.toNatClampNeg)) ≤ (σ 5 x1.toNatClampNeg) then (f_X12_isBetween_b52 N σ)
else (some ((1 : Int32), σ)))
set_option maxHeartbeats 4000000 in
set_option maxRecDepth 100000 in
theorem b_X12_isBetween {N : Nat} {x1 : Int32} {x2 : Int32} {x3 : Int32} {σ : Sg} {z : Int32 × Sg} (C : Cx p s m args meth c cX12_isBetween 4 (some .boolean) RX12 g A X) (hf : f_X12_isBetween N x1 x2 x3 σ = some z) : Bk mw p l e rm_X12_isBetween s m args below meth c 4 g A (MQ below (qI mw g A z.1 z.2) args s 0 0 A) 0 0 0 [(0, .ref (g.2.2 0)), (1, .int x1), (2, .int x2), (3, .int x3)] [] σ := by
  obtain ⟨hx, hb, hr, hml, hown, hts, hK, hlocks, hXX, hA, hXo⟩ := id C
  intro H locs ls hP hD hS hl
  unfold f_X12_isBetween at hf
  refine lv_aload_n hx hb dX12_isBetween_0 rfl (lv_at hl 0 rfl) ?_
  refine bk_get (wf := mw) (q0 := 0) (ci := 11) (k := 5) (v := .ref (g.2.2 5)) C hP wl_X12 rfl rfl (by decide) wa_159 rfl rfl dX12_isBetween_1 ?_
  refine lv_iload_n hx hb dX12_isBetween_4 rfl (lv_at hl 1 rfl) ?_
  obtain ⟨g1, hf⟩ := gd_s hf
  refine bk_iald (wf := mw) (q0 := 5) (n := 18) (j := x1.toNatClampNeg) C hP rfl g1 rfl dX12_isBetween_5 ?_
  refine lv_aload_n hx hb dX12_isBetween_6 rfl (lv_at hl 0 rfl) ?_
  refine bk_get (wf := mw) (q0 := 0) (ci := 11) (k := 5) (v := .ref (g.2.2 5)) C hP wl_X12 rfl rfl (by decide) wa_159 rfl rfl dX12_isBetween_7 ?_
  refine lv_iload_n hx hb dX12_isBetween_10 rfl (lv_at hl 2 rfl) ?_
  obtain ⟨g2, hf⟩ := gd_s hf
  refine bk_iald (wf := mw) (q0 := 5) (n := 18) (j := x2.toNatClampNeg) C hP rfl g2 rfl dX12_isBetween_11 ?_
  refine lv_aload_n hx hb dX12_isBetween_12 rfl (lv_at hl 0 rfl) ?_
  refine bk_get (wf := mw) (q0 := 0) (ci := 11) (k := 5) (v := .ref (g.2.2 5)) C hP wl_X12 rfl rfl (by decide) wa_159 rfl rfl dX12_isBetween_13 ?_
  refine lv_iload_n hx hb dX12_isBetween_16 rfl (lv_at hl 3 rfl) ?_
  obtain ⟨g3, hf⟩ := gd_s hf
  refine bk_iald (wf := mw) (q0 := 5) (n := 18) (j := x3.toNatClampNeg) C hP rfl g3 rfl dX12_isBetween_17 ?_
  refine va_mmin hx hb (hml.trans hl.1.symm) hown (hts _ wa_520) (hts _ wa_230) (hts _ wa_231) (hts _ wa_232) (Nat.le_of_ble_eq_true rfl) (Nat.le_of_ble_eq_true rfl) (Nat.le_of_ble_eq_true rfl) (Nat.le_of_ble_eq_true rfl) dX12_isBetween_18 ?_
  refine lv_icmp_le (tgt := 52) hx hb dX12_isBetween_21 (by decide) (fun t21 => ?_) (fun t21 => ?_)
  · have hf := (if_pos t21).symm.trans hf
    exact b_X12_isBetween_b52 C hf H locs ls hP hD hS (lv_sub hl [] rfl)
  · have hf := (if_neg t21).symm.trans hf
    refine lv_aload_n hx hb dX12_isBetween_24 rfl (lv_at hl 0 rfl) ?_
    refine bk_get (wf := mw) (q0 := 0) (ci := 11) (k := 5) (v := .ref (g.2.2 5)) C hP wl_X12 rfl rfl (by decide) wa_159 rfl rfl dX12_isBetween_25 ?_
    refine lv_iload_n hx hb dX12_isBetween_28 rfl (lv_at hl 1 rfl) ?_
    obtain ⟨g4, hf⟩ := gd_s hf
    refine bk_iald (wf := mw) (q0 := 5) (n := 18) (j := x1.toNatClampNeg) C hP rfl g4 rfl dX12_isBetween_29 ?_
    refine lv_aload_n hx hb dX12_isBetween_30 rfl (lv_at hl 0 rfl) ?_
    refine bk_get (wf := mw) (q0 := 0) (ci := 11) (k := 5) (v := .ref (g.2.2 5)) C hP wl_X12 rfl rfl (by decide) wa_159 rfl rfl dX12_isBetween_31 ?_
    refine lv_iload_n hx hb dX12_isBetween_34 rfl (lv_at hl 2 rfl) ?_
    obtain ⟨g5, hf⟩ := gd_s hf
    refine bk_iald (wf := mw) (q0 := 5) (n := 18) (j := x2.toNatClampNeg) C hP rfl g5 rfl dX12_isBetween_35 ?_
    refine lv_aload_n hx hb dX12_isBetween_36 rfl (lv_at hl 0 rfl) ?_
    refine bk_get (wf := mw) (q0 := 0) (ci := 11) (k := 5) (v := .ref (g.2.2 5)) C hP wl_X12 rfl rfl (by decide) wa_159 rfl rfl dX12_isBetween_37 ?_
    refine lv_iload_n hx hb dX12_isBetween_40 rfl (lv_at hl 3 rfl) ?_
    obtain ⟨g6, hf⟩ := gd_s hf
    refine bk_iald (wf := mw) (q0 := 5) (n := 18) (j := x3.toNatClampNeg) C hP rfl g6 rfl dX12_isBetween_41 ?_
    refine va_mmax hx hb (hml.trans hl.1.symm) hown (hts _ wa_748) (hts _ wa_749) (hts _ wa_231) (hts _ wa_750) (Nat.le_of_ble_eq_true rfl) (Nat.le_of_ble_eq_true rfl) (Nat.le_of_ble_eq_true rfl) (Nat.le_of_ble_eq_true rfl) dX12_isBetween_42 ?_
    refine lv_icmp_ge (tgt := 52) hx hb dX12_isBetween_45 (by decide) (fun t45 => ?_) (fun t45 => ?_)
    · have hf := (if_pos t45).symm.trans hf
      exact b_X12_isBetween_b52 C hf H locs ls hP hD hS (lv_sub hl [] rfl)
    · have hf := (if_neg t45).symm.trans hf
      refine lv_iconst (v := (1 : Int32)) hx hb dX12_isBetween_48 (by decide) ?_
      refine lv_goto (tgt := 53) hx hb dX12_isBetween_49 (by decide) ?_
      cases hf
      exact bk_zret C hP hD hS (by decide) rfl dX12_isBetween_53
theorem c_X12_isBetween {N : Nat} {x1 : Int32} {x2 : Int32} {x3 : Int32} {σ : Sg} {z : Int32 × Sg} (hX : xOK g X) (hf : f_X12_isBetween N x1 x2 x3 σ = some z) : MetI l yX12_isBetween (Cond.code yX12_isBetween cX12_isBetween 4 (some .boolean) :: wsA) rm_X12_isBetween mw g X [.ref (g.2.2 0), .int x1, .int x2, .int x3] σ z.1 z.2 :=
  MetI_of hX (by decide) (Nat.le_of_ble_eq_true rfl) (fun p e s m args below meth c A C => b_X12_isBetween C hf)
-- X12_isBelow: isBelow(III)Z
abbrev rm_X12_isBelow : Room := { frames := 1, cells := 0, slots := 0, locals := 21 }
theorem nd_X12_isBelow : yX12_isBelow.cls ≠ "java/lang/invoke/MethodHandle" ∧ yX12_isBelow.cls ≠ "java/lang/invoke/VarHandle" ∧ (parseMethodDescriptor yX12_isBelow.desc).map (fun d => d.parameters.length) = some 3 := by decide +kernel
def f_X12_isBelow_b42 (N : Nat) (x1 : Int32) (x4 : Int32) (t0 : Int32) (σ : Sg) : Option (Int32 × Sg) :=
(f_X12_topOf N x1 σ).bind fun q1 =>
if (t0 < 0 ∨ 18 ≤ t0.toNatClampNeg) then none else
if (x4 < 0 ∨ 18 ≤ x4.toNatClampNeg) then none else
(f_X12_topOf N x4 (q1.2)).bind fun q4 =>
if (t0 < 0 ∨ 18 ≤ t0.toNatClampNeg) then none else
if (x1 < 0 ∨ 18 ≤ x1.toNatClampNeg) then none else
(f_X12_topOf N t0 (q4.2)).bind fun q7 =>
if (x1 < 0 ∨ 18 ≤ x1.toNatClampNeg) then none else
if (x4 < 0 ∨ 18 ≤ x4.toNatClampNeg) then none else
if ((q4.1 * (((q4.2) 5 t0.toNatClampNeg) - ((q4.2) 5 x1.toNatClampNeg))) + (q7.1 * (((q7.2) 5 x1.toNatClampNeg) - ((q7.2) 5 x4.toNatClampNeg)))) ≤ (q1.1 * (((q1.2) 5 t0.toNatClampNeg) - ((q1.2) 5 x4.toNatClampNeg))) then (some ((0 : Int32), (q7.2)))
else (some ((1 : Int32), (q7.2)))
set_option maxHeartbeats 4000000 in
set_option maxRecDepth 100000 in
theorem b_X12_isBelow_b42 {N : Nat} {x1 : Int32} {x4 : Int32} {t0 : Int32} {σ : Sg} {z : Int32 × Sg} (C : Cx p s m args meth c cX12_isBelow 6 (some .boolean) RX12 g A X) (hf : f_X12_isBelow_b42 N x1 x4 t0 σ = some z) : Bk mw p l e rm_X12_isBelow s m args below meth c 6 g A (MQ below (qI mw g A z.1 z.2) args s 0 0 A) 0 0 42 [(0, .ref (g.2.2 0)), (1, .int x1), (4, .int x4)] [.int t0] σ := by
  obtain ⟨hx, hb, hr, hml, hown, hts, hK, hlocks, hXX, hA, hXo⟩ := id C
  intro H locs ls hP hD hS hl
  unfold f_X12_isBelow_b42 at hf
  refine lv_istore (lv' := [(5, .int t0), (0, .ref (g.2.2 0)), (1, .int x1), (4, .int x4)]) hx hb dX12_isBelow_42 hl (by decide) rfl (fun ls hl => ?_)
  refine lv_aload_n hx hb dX12_isBelow_44 rfl (lv_at hl 1 rfl) ?_
  refine lv_iload_n hx hb dX12_isBelow_45 rfl (lv_at hl 2 rfl) ?_
  obtain ⟨q1, hq1, hf⟩ := bi_s hf
  refine bk_VI (wf := mw) (q0 := 0) (ci := 11) (rest := []) [.int x1] C hP hD hS hl.1 (c_X12_topOf hXo hq1) (cwA_V 1 hts wa_758 wa_755 wa_756 wa_757 wa_5 rfl rfl nd_X12_topOf ⟨Nat.le_of_ble_eq_true rfl, Nat.le_of_ble_eq_true rfl⟩) rfl rfl rfl rfl (Nat.le_of_ble_eq_true rfl) dX12_isBelow_46 ⟨Nat.le_of_ble_eq_true rfl, Nat.le_of_ble_eq_true rfl⟩ (fun H locs hP hD hS => ?_)
  refine lv_aload_n hx hb dX12_isBelow_49 rfl (lv_at hl 1 rfl) ?_
  refine bk_get (wf := mw) (q0 := 0) (ci := 11) (k := 5) (v := .ref (g.2.2 5)) C hP wl_X12 rfl rfl (by decide) wa_159 rfl rfl dX12_isBelow_50 ?_
  refine lv_iload hx hb dX12_isBelow_53 (lv_at hl 0 rfl) ?_
  obtain ⟨g2, hf⟩ := gd_s hf
  refine bk_iald (wf := mw) (q0 := 5) (n := 18) (j := t0.toNatClampNeg) C hP rfl g2 rfl dX12_isBelow_55 ?_
  refine lv_aload_n hx hb dX12_isBelow_56 rfl (lv_at hl 1 rfl) ?_
  refine bk_get (wf := mw) (q0 := 0) (ci := 11) (k := 5) (v := .ref (g.2.2 5)) C hP wl_X12 rfl rfl (by decide) wa_159 rfl rfl dX12_isBelow_57 ?_
  refine lv_iload hx hb dX12_isBelow_60 (lv_at hl 3 rfl) ?_
  obtain ⟨g3, hf⟩ := gd_s hf
  refine bk_iald (wf := mw) (q0 := 5) (n := 18) (j := x4.toNatClampNeg) C hP rfl g3 rfl dX12_isBelow_62 ?_
  refine lv_isub hx hb dX12_isBelow_63 ?_
  refine lv_imul hx hb dX12_isBelow_64 ?_
  refine lv_aload_n hx hb dX12_isBelow_65 rfl (lv_at hl 1 rfl) ?_
  refine lv_iload hx hb dX12_isBelow_66 (lv_at hl 3 rfl) ?_
  obtain ⟨q4, hq4, hf⟩ := bi_s hf
  refine bk_VI (wf := mw) (q0 := 0) (ci := 11) (rest := [.int (q1.1 * (((q1.2) 5 t0.toNatClampNeg) - ((q1.2) 5 x4.toNatClampNeg)))]) [.int x4] C hP hD hS hl.1 (c_X12_topOf hXo hq4) (cwA_V 1 hts wa_758 wa_755 wa_756 wa_757 wa_5 rfl rfl nd_X12_topOf ⟨Nat.le_of_ble_eq_true rfl, Nat.le_of_ble_eq_true rfl⟩) rfl rfl rfl rfl (Nat.le_of_ble_eq_true rfl) dX12_isBelow_68 ⟨Nat.le_of_ble_eq_true rfl, Nat.le_of_ble_eq_true rfl⟩ (fun H locs hP hD hS => ?_)
  refine lv_aload_n hx hb dX12_isBelow_71 rfl (lv_at hl 1 rfl) ?_
  refine bk_get (wf := mw) (q0 := 0) (ci := 11) (k := 5) (v := .ref (g.2.2 5)) C hP wl_X12 rfl rfl (by decide) wa_159 rfl rfl dX12_isBelow_72 ?_
  refine lv_iload hx hb dX12_isBelow_75 (lv_at hl 0 rfl) ?_
  obtain ⟨g5, hf⟩ := gd_s hf
  refine bk_iald (wf := mw) (q0 := 5) (n := 18) (j := t0.toNatClampNeg) C hP rfl g5 rfl dX12_isBelow_77 ?_
  refine lv_aload_n hx hb dX12_isBelow_78 rfl (lv_at hl 1 rfl) ?_
  refine bk_get (wf := mw) (q0 := 0) (ci := 11) (k := 5) (v := .ref (g.2.2 5)) C hP wl_X12 rfl rfl (by decide) wa_159 rfl rfl dX12_isBelow_79 ?_
  refine lv_iload_n hx hb dX12_isBelow_82 rfl (lv_at hl 2 rfl) ?_
  obtain ⟨g6, hf⟩ := gd_s hf
  refine bk_iald (wf := mw) (q0 := 5) (n := 18) (j := x1.toNatClampNeg) C hP rfl g6 rfl dX12_isBelow_83 ?_
  refine lv_isub hx hb dX12_isBelow_84 ?_
  refine lv_imul hx hb dX12_isBelow_85 ?_
  refine lv_aload_n hx hb dX12_isBelow_86 rfl (lv_at hl 1 rfl) ?_
  refine lv_iload hx hb dX12_isBelow_87 (lv_at hl 0 rfl) ?_
  obtain ⟨q7, hq7, hf⟩ := bi_s hf
  refine bk_VI (wf := mw) (q0 := 0) (ci := 11) (rest := [.int (q4.1 * (((q4.2) 5 t0.toNatClampNeg) - ((q4.2) 5 x1.toNatClampNeg))), .int (q1.1 * (((q1.2) 5 t0.toNatClampNeg) - ((q1.2) 5 x4.toNatClampNeg)))]) [.int t0] C hP hD hS hl.1 (c_X12_topOf hXo hq7) (cwA_V 1 hts wa_758 wa_755 wa_756 wa_757 wa_5 rfl rfl nd_X12_topOf ⟨Nat.le_of_ble_eq_true rfl, Nat.le_of_ble_eq_true rfl⟩) rfl rfl rfl rfl (Nat.le_of_ble_eq_true rfl) dX12_isBelow_89 ⟨Nat.le_of_ble_eq_true rfl, Nat.le_of_ble_eq_true rfl⟩ (fun H locs hP hD hS => ?_)
  refine lv_aload_n hx hb dX12_isBelow_92 rfl (lv_at hl 1 rfl) ?_
  refine bk_get (wf := mw) (q0 := 0) (ci := 11) (k := 5) (v := .ref (g.2.2 5)) C hP wl_X12 rfl rfl (by decide) wa_159 rfl rfl dX12_isBelow_93 ?_
  refine lv_iload_n hx hb dX12_isBelow_96 rfl (lv_at hl 2 rfl) ?_
  obtain ⟨g8, hf⟩ := gd_s hf
  refine bk_iald (wf := mw) (q0 := 5) (n := 18) (j := x1.toNatClampNeg) C hP rfl g8 rfl dX12_isBelow_97 ?_
  refine lv_aload_n hx hb dX12_isBelow_98 rfl (lv_at hl 1 rfl) ?_
  refine bk_get (wf := mw) (q0 := 0) (ci := 11) (k := 5) (v := .ref (g.2.2 5)) C hP wl_X12 rfl rfl (by decide) wa_159 rfl rfl dX12_isBelow_99 ?_
  refine lv_iload hx hb dX12_isBelow_102 (lv_at hl 3 rfl) ?_
  obtain ⟨g9, hf⟩ := gd_s hf
  refine bk_iald (wf := mw) (q0 := 5) (n := 18) (j := x4.toNatClampNeg) C hP rfl g9 rfl dX12_isBelow_104 ?_
  refine lv_isub hx hb dX12_isBelow_105 ?_
  refine lv_imul hx hb dX12_isBelow_106 ?_
  refine lv_iadd hx hb dX12_isBelow_107 ?_
  refine lv_icmp_ge (tgt := 115) hx hb dX12_isBelow_108 (by decide) (fun t108 => ?_) (fun t108 => ?_)
  · have hf := (if_pos t108).symm.trans hf
    refine lv_iconst (v := (0 : Int32)) hx hb dX12_isBelow_115 (by decide) ?_
    cases hf
    exact bk_zret C hP hD hS (by decide) rfl dX12_isBelow_116
  · have hf := (if_neg t108).symm.trans hf
    refine lv_iconst (v := (1 : Int32)) hx hb dX12_isBelow_111 (by decide) ?_
    refine lv_goto (tgt := 116) hx hb dX12_isBelow_112 (by decide) ?_
    cases hf
    exact bk_zret C hP hD hS (by decide) rfl dX12_isBelow_116
def f_X12_isBelow_b20 (N : Nat) (x1 : Int32) (x2 : Int32) (x3 : Int32) (t0 : Int32) (σ : Sg) : Option (Int32 × Sg) :=
if (x2 < 0 ∨ 18 ≤ x2.toNatClampNeg) then none else
if (x3 < 0 ∨ 18 ≤ x3.toNatClampNeg) then none else
if (σ 5 x3.toNatClampNeg) ≤ (σ 5 x2.toNatClampNeg) then (f_X12_isBelow_b42 N x1 t0 x2 σ)
else (f_X12_isBelow_b42 N x1 t0 x3 σ)
set_option maxHeartbeats 4000000 in
set_option maxRecDepth 100000 in
theorem b_X12_isBelow_b20 {N : Nat} {x1 : Int32} {x2 : Int32} {x3 : Int32} {t0 : Int32} {σ : Sg} {z : Int32 × Sg} (C : Cx p s m args meth c cX12_isBelow 6 (some .boolean) RX12 g A X) (hf : f_X12_isBelow_b20 N x1 x2 x3 t0 σ = some z) : Bk mw p l e rm_X12_isBelow s m args below meth c 6 g A (MQ below (qI mw g A z.1 z.2) args s 0 0 A) 0 0 20 [(0, .ref (g.2.2 0)), (1, .int x1), (2, .int x2), (3, .int x3)] [.int t0] σ := by
  obtain ⟨hx, hb, hr, hml, hown, hts, hK, hlocks, hXX, hA, hXo⟩ := id C
  intro H locs ls hP hD hS hl
  unfold f_X12_isBelow_b20 at hf
  refine lv_istore (lv' := [(4, .int t0), (0, .ref (g.2.2 0)), (1, .int x1), (2, .int x2), (3, .int x3)]) hx hb dX12_isBelow_20 hl (by decide) rfl (fun ls hl => ?_)
  refine lv_aload_n hx hb dX12_isBelow_22 rfl (lv_at hl 1 rfl) ?_
  refine bk_get (wf := mw) (q0 := 0) (ci := 11) (k := 5) (v := .ref (g.2.2 5)) C hP wl_X12 rfl rfl (by decide) wa_159 rfl rfl dX12_isBelow_23 ?_
  refine lv_iload_n hx hb dX12_isBelow_26 rfl (lv_at hl 3 rfl) ?_
  obtain ⟨g10, hf⟩ := gd_s hf
  refine bk_iald (wf := mw) (q0 := 5) (n := 18) (j := x2.toNatClampNeg) C hP rfl g10 rfl dX12_isBelow_27 ?_
  refine lv_aload_n hx hb dX12_isBelow_28 rfl (lv_at hl 1 rfl) ?_
  refine bk_get (wf := mw) (q0 := 0) (ci := 11) (k := 5) (v := .ref (g.2.2 5)) C hP wl_X12 rfl rfl (by decide) wa_159 rfl rfl dX12_isBelow_29 ?_
  refine lv_iload_n hx hb dX12_isBelow_32 rfl (lv_at hl 4 rfl) ?_
  obtain ⟨g11, hf⟩ := gd_s hf
  refine bk_iald (wf := mw) (q0 := 5) (n := 18) (j := x3.toNatClampNeg) C hP rfl g11 rfl dX12_isBelow_33 ?_
  refine lv_icmp_ge (tgt := 41) hx hb dX12_isBelow_34 (by decide) (fun t34 => ?_) (fun t34 => ?_)
  · have hf := (if_pos t34).symm.trans hf
    refine lv_iload_n hx hb dX12_isBelow_41 rfl (lv_at hl 3 rfl) ?_
    exact b_X12_isBelow_b42 C hf H locs ls hP hD hS (lv_sub hl [1, 2, 0] rfl)
  · have hf := (if_neg t34).symm.trans hf
    refine lv_iload_n hx hb dX12_isBelow_37 rfl (lv_at hl 4 rfl) ?_
    refine lv_goto (tgt := 42) hx hb dX12_isBelow_38 (by decide) ?_
    exact b_X12_isBelow_b42 C hf H locs ls hP hD hS (lv_sub hl [1, 2, 0] rfl)
def f_X12_isBelow (N : Nat) (x1 : Int32) (x2 : Int32) (x3 : Int32) (σ : Sg) : Option (Int32 × Sg) :=
if (x2 < 0 ∨ 18 ≤ x2.toNatClampNeg) then none else
if (x3 < 0 ∨ 18 ≤ x3.toNatClampNeg) then none else
if (σ 5 x3.toNatClampNeg) ≤ (σ 5 x2.toNatClampNeg) then (f_X12_isBelow_b20 N x1 x2 x3 x3 σ)
else (f_X12_isBelow_b20 N x1 x2 x3 x2 σ)
set_option maxHeartbeats 4000000 in
set_option maxRecDepth 100000 in
theorem b_X12_isBelow {N : Nat} {x1 : Int32} {x2 : Int32} {x3 : Int32} {σ : Sg} {z : Int32 × Sg} (C : Cx p s m args meth c cX12_isBelow 6 (some .boolean) RX12 g A X) (hf : f_X12_isBelow N x1 x2 x3 σ = some z) : Bk mw p l e rm_X12_isBelow s m args below meth c 6 g A (MQ below (qI mw g A z.1 z.2) args s 0 0 A) 0 0 0 [(0, .ref (g.2.2 0)), (1, .int x1), (2, .int x2), (3, .int x3)] [] σ := by
  obtain ⟨hx, hb, hr, hml, hown, hts, hK, hlocks, hXX, hA, hXo⟩ := id C
  intro H locs ls hP hD hS hl
  unfold f_X12_isBelow at hf
  refine lv_aload_n hx hb dX12_isBelow_0 rfl (lv_at hl 0 rfl) ?_
  refine bk_get (wf := mw) (q0 := 0) (ci := 11) (k := 5) (v := .ref (g.2.2 5)) C hP wl_X12 rfl rfl (by decide) wa_159 rfl rfl dX12_isBelow_1 ?_
  refine lv_iload_n hx hb dX12_isBelow_4 rfl (lv_at hl 2 rfl) ?_
  obtain ⟨g12, hf⟩ := gd_s hf
  refine bk_iald (wf := mw) (q0 := 5) (n := 18) (j := x2.toNatClampNeg) C hP rfl g12 rfl dX12_isBelow_5 ?_
  refine lv_aload_n hx hb dX12_isBelow_6 rfl (lv_at hl 0 rfl) ?_
  refine bk_get (wf := mw) (q0 := 0) (ci := 11) (k := 5) (v := .ref (g.2.2 5)) C hP wl_X12 rfl rfl (by decide) wa_159 rfl rfl dX12_isBelow_7 ?_
  refine lv_iload_n hx hb dX12_isBelow_10 rfl (lv_at hl 3 rfl) ?_
  obtain ⟨g13, hf⟩ := gd_s hf
  refine bk_iald (wf := mw) (q0 := 5) (n := 18) (j := x3.toNatClampNeg) C hP rfl g13 rfl dX12_isBelow_11 ?_
  refine lv_icmp_ge (tgt := 19) hx hb dX12_isBelow_12 (by decide) (fun t12 => ?_) (fun t12 => ?_)
  · have hf := (if_pos t12).symm.trans hf
    refine lv_iload_n hx hb dX12_isBelow_19 rfl (lv_at hl 3 rfl) ?_
    exact b_X12_isBelow_b20 C hf H locs ls hP hD hS (lv_sub hl [0, 1, 2, 3] rfl)
  · have hf := (if_neg t12).symm.trans hf
    refine lv_iload_n hx hb dX12_isBelow_15 rfl (lv_at hl 2 rfl) ?_
    refine lv_goto (tgt := 20) hx hb dX12_isBelow_16 (by decide) ?_
    exact b_X12_isBelow_b20 C hf H locs ls hP hD hS (lv_sub hl [0, 1, 2, 3] rfl)
theorem c_X12_isBelow {N : Nat} {x1 : Int32} {x2 : Int32} {x3 : Int32} {σ : Sg} {z : Int32 × Sg} (hX : xOK g X) (hf : f_X12_isBelow N x1 x2 x3 σ = some z) : MetI l yX12_isBelow (Cond.code yX12_isBelow cX12_isBelow 6 (some .boolean) :: wsA) rm_X12_isBelow mw g X [.ref (g.2.2 0), .int x1, .int x2, .int x3] σ z.1 z.2 :=
  MetI_of hX (by decide) (Nat.le_of_ble_eq_true rfl) (fun p e s m args below meth c A C => b_X12_isBelow C hf)
-- X12_inTheWay: inTheWay(II)I
abbrev rm_X12_inTheWay : Room := { frames := 2, cells := 0, slots := 0, locals := 47 }
theorem nd_X12_inTheWay : yX12_inTheWay.cls ≠ "java/lang/invoke/MethodHandle" ∧ yX12_inTheWay.cls ≠ "java/lang/invoke/VarHandle" ∧ (parseMethodDescriptor yX12_inTheWay.desc).map (fun d => d.parameters.length) = some 2 := by decide +kernel
def f_X12_inTheWay_b47 (N : Nat) (x1 : Int32) (x2 : Int32) (x4 : Int32) (t0 : Int32) (t1 : Int32) (σ : Sg) : Option (Nat × Int32 × Int32 × Sg) :=
bd (t0 ||| t1) fun v1 =>
bd (x4 + (1 : Int32)) fun v2 =>
some (0, v1, v2, σ)
set_option maxHeartbeats 4000000 in
set_option maxRecDepth 100000 in
theorem b_X12_inTheWay_b47 {N : Nat} {x1 : Int32} {x2 : Int32} {x4 : Int32} {t0 : Int32} {t1 : Int32} {σ : Sg} {z : Nat × Int32 × Int32 × Sg} (C : Cx p s m args meth c cX12_inTheWay 5 (some .int) RX12 g A X) (hf : f_X12_inTheWay_b47 N x1 x2 x4 t0 t1 σ = some z) (k0 : z.1 = 0 → Bk mw p l e rm_X12_inTheWay s m args below meth c 5 g A Q 0 0 5 [(0, .ref (g.2.2 0)), (1, .int x1), (2, .int x2), (3, .int z.2.1), (4, .int z.2.2.1)] [] z.2.2.2) (k : ¬ z.1 = 0 → Bk mw p l e rm_X12_inTheWay s m args below meth c 5 g A Q 0 0 55 [(3, .int z.2.1)] [] z.2.2.2) : Bk mw p l e rm_X12_inTheWay s m args below meth c 5 g A Q 0 0 47 [(0, .ref (g.2.2 0)), (1, .int x1), (2, .int x2), (4, .int x4)] [.int t1, .int t0] σ := by
  obtain ⟨hx, hb, hr, hml, hown, hts, hK, hlocks, hXX, hA, hXo⟩ := id C
  intro H locs ls hP hD hS hl
  unfold f_X12_inTheWay_b47 at hf
  refine lv_ior hx hb dX12_inTheWay_47 ?_
  obtain ⟨v1, ev1, hf⟩ := bd_s hf
  rw [← ev1]
  refine lv_istore_n (lv' := [(3, .int v1), (0, .ref (g.2.2 0)), (1, .int x1), (2, .int x2), (4, .int x4)]) hx hb dX12_inTheWay_48 rfl hl (by decide) rfl (fun ls hl => ?_)
  obtain ⟨v2, ev2, hf⟩ := bd_s hf
  refine lv_iinc (v := v2) (lv' := [(4, .int v2), (3, .int v1), (0, .ref (g.2.2 0)), (1, .int x1), (2, .int x2)]) hx hb dX12_inTheWay_49 hl (k := 4) rfl (by rw [ev2]; rfl) (by decide) rfl (fun ls hl => ?_)
  refine lv_goto (tgt := 5) hx hb dX12_inTheWay_52 (by decide) ?_
  cases hf
  exact k0 rfl H locs ls hP hD hS (lv_sub hl [2, 3, 4, 1, 0] rfl)
def f_X12_inTheWay_b46 (N : Nat) (x1 : Int32) (x2 : Int32) (x4 : Int32) (t0 : Int32) (σ : Sg) : Option (Nat × Int32 × Int32 × Sg) :=
f_X12_inTheWay_b47 N x1 x2 x4 t0 (0 : Int32) σ
set_option maxHeartbeats 4000000 in
set_option maxRecDepth 100000 in
theorem b_X12_inTheWay_b46 {N : Nat} {x1 : Int32} {x2 : Int32} {x4 : Int32} {t0 : Int32} {σ : Sg} {z : Nat × Int32 × Int32 × Sg} (C : Cx p s m args meth c cX12_inTheWay 5 (some .int) RX12 g A X) (hf : f_X12_inTheWay_b46 N x1 x2 x4 t0 σ = some z) (k0 : z.1 = 0 → Bk mw p l e rm_X12_inTheWay s m args below meth c 5 g A Q 0 0 5 [(0, .ref (g.2.2 0)), (1, .int x1), (2, .int x2), (3, .int z.2.1), (4, .int z.2.2.1)] [] z.2.2.2) (k : ¬ z.1 = 0 → Bk mw p l e rm_X12_inTheWay s m args below meth c 5 g A Q 0 0 55 [(3, .int z.2.1)] [] z.2.2.2) : Bk mw p l e rm_X12_inTheWay s m args below meth c 5 g A Q 0 0 46 [(0, .ref (g.2.2 0)), (1, .int x1), (2, .int x2), (4, .int x4)] [.int t0] σ := by
  obtain ⟨hx, hb, hr, hml, hown, hts, hK, hlocks, hXX, hA, hXo⟩ := id C
  intro H locs ls hP hD hS hl
  unfold f_X12_inTheWay_b46 at hf
  refine lv_iconst (v := (0 : Int32)) hx hb dX12_inTheWay_46 (by decide) ?_
  exact b_X12_inTheWay_b47 C hf k0 k H locs ls hP hD hS (lv_sub hl [0, 1, 2, 3] rfl)
def s_X12_inTheWay_h5 (N : Nat) (x1 : Int32) (x2 : Int32) (x3 : Int32) (x4 : Int32) (σ : Sg) : Option (Nat × Int32 × Int32 × Sg) :=
if (σ 3 0) ≤ x4 then (some (1, x3, 0, σ))
else ((f_X12_isBetween N x4 x1 x2 σ).bind fun q3 =>
if q3.1 = 0 then (f_X12_inTheWay_b46 N x1 x2 x4 x3 (q3.2))
else ((f_X12_isBelow N x4 x1 x2 (q3.2)).bind fun q4 =>
if q4.1 = 0 then (f_X12_inTheWay_b47 N x1 x2 x4 x3 ((1 : Int32) <<< (x4 &&& 31)) (q4.2))
else (f_X12_inTheWay_b46 N x1 x2 x4 x3 (q4.2))))
set_option maxHeartbeats 4000000 in
set_option maxRecDepth 100000 in
theorem e_X12_inTheWay_h5 {N : Nat} {x1 : Int32} {x2 : Int32} {x3 : Int32} {x4 : Int32} {σ : Sg} {z : Nat × Int32 × Int32 × Sg} (C : Cx p s m args meth c cX12_inTheWay 5 (some .int) RX12 g A X) (hf : s_X12_inTheWay_h5 N x1 x2 x3 x4 σ = some z) (k0 : z.1 = 0 → Bk mw p l e rm_X12_inTheWay s m args below meth c 5 g A Q 0 0 5 [(0, .ref (g.2.2 0)), (1, .int x1), (2, .int x2), (3, .int z.2.1), (4, .int z.2.2.1)] [] z.2.2.2) (k : ¬ z.1 = 0 → Bk mw p l e rm_X12_inTheWay s m args below meth c 5 g A Q 0 0 55 [(3, .int z.2.1)] [] z.2.2.2) : Bk mw p l e rm_X12_inTheWay s m args below meth c 5 g A Q 0 0 5 [(0, .ref (g.2.2 0)), (1, .int x1), (2, .int x2), (3, .int x3), (4, .int x4)] [] σ := by
  obtain ⟨hx, hb, hr, hml, hown, hts, hK, hlocks, hXX, hA, hXo⟩ := id C
  intro H locs ls hP hD hS hl
  unfold s_X12_inTheWay_h5 at hf
  refine lv_iload hx hb dX12_inTheWay_5 (lv_at hl 4 rfl) ?_
  refine lv_aload_n hx hb dX12_inTheWay_7 rfl (lv_at hl 0 rfl) ?_
  refine bk_get (wf := mw) (q0 := 0) (ci := 11) (k := 3) (v := .ref (g.2.2 3)) C hP wl_X12 rfl rfl (by decide) wa_157 rfl rfl dX12_inTheWay_8 ?_
  refine lv_iconst (v := (0 : Int32)) hx hb dX12_inTheWay_11 (by decide) ?_
  refine bk_iald (wf := mw) (q0 := 3) (n := 10) (j := 0) C hP rfl (vin_l (by decide) (by decide)) (by decide) dX12_inTheWay_12 ?_
  refine lv_icmp_ge (tgt := 55) hx hb dX12_inTheWay_13 (by decide) (fun t13 => ?_) (fun t13 => ?_)
  · have hf := (if_pos t13).symm.trans hf
    cases hf
    exact (k (show ¬ (1 : Nat) = 0 by decide)) H locs ls hP hD hS (lv_sub hl [3] rfl)
  · have hf := (if_neg t13).symm.trans hf
    refine lv_iload_n hx hb dX12_inTheWay_16 rfl (lv_at hl 3 rfl) ?_
    refine lv_aload_n hx hb dX12_inTheWay_17 rfl (lv_at hl 0 rfl) ?_
    refine lv_iload hx hb dX12_inTheWay_18 (lv_at hl 4 rfl) ?_
    refine lv_iload_n hx hb dX12_inTheWay_20 rfl (lv_at hl 1 rfl) ?_
    refine lv_iload_n hx hb dX12_inTheWay_21 rfl (lv_at hl 2 rfl) ?_
    obtain ⟨q3, hq3, hf⟩ := bi_s hf
    refine bk_VI (wf := mw) (q0 := 0) (ci := 11) (rest := [.int x3]) [.int x4, .int x1, .int x2] C hP hD hS hl.1 (c_X12_isBetween hXo hq3) (cwA_V 3 hts wa_747 wa_744 wa_745 wa_746 wa_5 rfl rfl nd_X12_isBetween ⟨Nat.le_of_ble_eq_true rfl, Nat.le_of_ble_eq_true rfl⟩) rfl rfl rfl rfl (Nat.le_of_ble_eq_true rfl) dX12_inTheWay_22 ⟨Nat.le_of_ble_eq_true rfl, Nat.le_of_ble_eq_true rfl⟩ (fun H locs hP hD hS => ?_)
    refine lv_if_eq (tgt := 46) hx hb dX12_inTheWay_25 (by decide) (fun t25 => ?_) (fun t25 => ?_)
    · have hf := (if_pos t25).symm.trans hf
      exact b_X12_inTheWay_b46 C hf k0 k H locs ls hP hD hS (lv_sub hl [0, 1, 2, 4] rfl)
    · have hf := (if_neg t25).symm.trans hf
      refine lv_aload_n hx hb dX12_inTheWay_28 rfl (lv_at hl 0 rfl) ?_
      refine lv_iload hx hb dX12_inTheWay_29 (lv_at hl 4 rfl) ?_
      refine lv_iload_n hx hb dX12_inTheWay_31 rfl (lv_at hl 1 rfl) ?_
      refine lv_iload_n hx hb dX12_inTheWay_32 rfl (lv_at hl 2 rfl) ?_
      obtain ⟨q4, hq4, hf⟩ := bi_s hf
      refine bk_VI (wf := mw) (q0 := 0) (ci := 11) (rest := [.int x3]) [.int x4, .int x1, .int x2] C hP hD hS hl.1 (c_X12_isBelow hXo hq4) (cwA_V 3 hts wa_754 wa_751 wa_752 wa_753 wa_5 rfl rfl nd_X12_isBelow ⟨Nat.le_of_ble_eq_true rfl, Nat.le_of_ble_eq_true rfl⟩) rfl rfl rfl rfl (Nat.le_of_ble_eq_true rfl) dX12_inTheWay_33 ⟨Nat.le_of_ble_eq_true rfl, Nat.le_of_ble_eq_true rfl⟩ (fun H locs hP hD hS => ?_)
      refine lv_if_ne (tgt := 46) hx hb dX12_inTheWay_36 (by decide) (fun t36 => ?_) (fun t36 => ?_)
      · have hf := (if_neg t36).symm.trans hf
        exact b_X12_inTheWay_b46 C hf k0 k H locs ls hP hD hS (lv_sub hl [0, 1, 2, 4] rfl)
      · have hf := (if_pos t36).symm.trans hf
        refine lv_iconst (v := (1 : Int32)) hx hb dX12_inTheWay_39 (by decide) ?_
        refine lv_iload hx hb dX12_inTheWay_40 (lv_at hl 4 rfl) ?_
        refine lv_ishl hx hb dX12_inTheWay_42 ?_
        refine lv_goto (tgt := 47) hx hb dX12_inTheWay_43 (by decide) ?_
        exact b_X12_inTheWay_b47 C hf k0 k H locs ls hP hD hS (lv_sub hl [0, 1, 2, 4] rfl)
theorem lp_X12_inTheWay_h5 {N : Nat} {n : Nat} {x1 : Int32} {x2 : Int32} {x3 : Int32} {x4 : Int32} {σ : Sg} {z : Nat × Int32 × Int32 × Sg} (C : Cx p s m args meth c cX12_inTheWay 5 (some .int) RX12 g A X) (hz : it (fun q => s_X12_inTheWay_h5 N x1 x2 q.1 q.2.1 q.2.2) n (x3, x4, σ) = some z) (k : Bk mw p l e rm_X12_inTheWay s m args below meth c 5 g A Q 0 0 55 [(3, .int z.2.1)] [] z.2.2.2) : Bk mw p l e rm_X12_inTheWay s m args below meth c 5 g A Q 0 0 5 [(0, .ref (g.2.2 0)), (1, .int x1), (2, .int x2), (3, .int x3), (4, .int x4)] [] σ :=
  it_W (S := Int32 × Int32 × Sg) (fun q => Bk mw p l e rm_X12_inTheWay s m args below meth c 5 g A Q 0 0 5 [(0, .ref (g.2.2 0)), (1, .int x1), (2, .int x2), (3, .int q.1), (4, .int q.2.1)] [] q.2.2) (fun z => Bk mw p l e rm_X12_inTheWay s m args below meth c 5 g A Q 0 0 55 [(3, .int z.2.1)] [] z.2.2.2) (fun q z hq k0 k => e_X12_inTheWay_h5 C hq k0 k) n (x3, x4, σ) z hz k
def f_X12_inTheWay (N : Nat) (x1 : Int32) (x2 : Int32) (σ : Sg) : Option (Int32 × Sg) :=
(it (fun q => s_X12_inTheWay_h5 N x1 x2 q.1 q.2.1 q.2.2) N ((0 : Int32), (0 : Int32), σ)).bind fun z5 =>
some ((z5.2.1), (z5.2.2.2))
set_option maxHeartbeats 4000000 in
set_option maxRecDepth 100000 in
theorem b_X12_inTheWay {N : Nat} {x1 : Int32} {x2 : Int32} {σ : Sg} {z : Int32 × Sg} (C : Cx p s m args meth c cX12_inTheWay 5 (some .int) RX12 g A X) (hf : f_X12_inTheWay N x1 x2 σ = some z) : Bk mw p l e rm_X12_inTheWay s m args below meth c 5 g A (MQ below (qI mw g A z.1 z.2) args s 0 0 A) 0 0 0 [(0, .ref (g.2.2 0)), (1, .int x1), (2, .int x2)] [] σ := by
  obtain ⟨hx, hb, hr, hml, hown, hts, hK, hlocks, hXX, hA, hXo⟩ := id C
  intro H locs ls hP hD hS hl
  unfold f_X12_inTheWay at hf
  refine lv_iconst (v := (0 : Int32)) hx hb dX12_inTheWay_0 (by decide) ?_
  refine lv_istore_n (lv' := [(3, .int (0 : Int32)), (0, .ref (g.2.2 0)), (1, .int x1), (2, .int x2)]) hx hb dX12_inTheWay_1 rfl hl (by decide) rfl (fun ls hl => ?_)
  refine lv_iconst (v := (0 : Int32)) hx hb dX12_inTheWay_2 (by decide) ?_
  refine lv_istore (lv' := [(4, .int (0 : Int32)), (3, .int (0 : Int32)), (0, .ref (g.2.2 0)), (1, .int x1), (2, .int x2)]) hx hb dX12_inTheWay_3 hl (by decide) rfl (fun ls hl => ?_)
  obtain ⟨z5, hz5, hf⟩ := bi_s hf
  refine lp_X12_inTheWay_h5 C hz5 ?_ H locs ls hP hD hS (lv_sub hl [2, 3, 4, 1, 0] rfl)
  intro H locs ls hP hD hS hl
  refine lv_iload_n hx hb dX12_inTheWay_55 rfl (lv_at hl 0 rfl) ?_
  cases hf
  exact bk_iret C hP hD hS rfl dX12_inTheWay_56
theorem c_X12_inTheWay {N : Nat} {x1 : Int32} {x2 : Int32} {σ : Sg} {z : Int32 × Sg} (hX : xOK g X) (hf : f_X12_inTheWay N x1 x2 σ = some z) : MetI l yX12_inTheWay (Cond.code yX12_inTheWay cX12_inTheWay 5 (some .int) :: wsA) rm_X12_inTheWay mw g X [.ref (g.2.2 0), .int x1, .int x2] σ z.1 z.2 :=
  MetI_of hX (by decide) (Nat.le_of_ble_eq_true rfl) (fun p e s m args below meth c A C => b_X12_inTheWay C hf)
-- X12_inSight: inSight(II)Z
abbrev rm_X12_inSight : Room := { frames := 3, cells := 0, slots := 0, locals := 71 }
theorem nd_X12_inSight : yX12_inSight.cls ≠ "java/lang/invoke/MethodHandle" ∧ yX12_inSight.cls ≠ "java/lang/invoke/VarHandle" ∧ (parseMethodDescriptor yX12_inSight.desc).map (fun d => d.parameters.length) = some 2 := by decide +kernel
def f_X12_inSight_b51 (N : Nat) (σ : Sg) : Option (Int32 × Sg) :=
some ((0 : Int32), σ)
set_option maxHeartbeats 4000000 in
set_option maxRecDepth 100000 in
theorem b_X12_inSight_b51 {N : Nat} {σ : Sg} {z : Int32 × Sg} (C : Cx p s m args meth c cX12_inSight 3 (some .boolean) RX12 g A X) (hf : f_X12_inSight_b51 N σ = some z) : Bk mw p l e rm_X12_inSight s m args below meth c 3 g A (MQ below (qI mw g A z.1 z.2) args s 0 0 A) 0 0 51 [] [] σ := by
  obtain ⟨hx, hb, hr, hml, hown, hts, hK, hlocks, hXX, hA, hXo⟩ := id C
  intro H locs ls hP hD hS hl
  unfold f_X12_inSight_b51 at hf
  refine lv_iconst (v := (0 : Int32)) hx hb dX12_inSight_51 (by decide) ?_
  cases hf
  exact bk_zret C hP hD hS (by decide) rfl dX12_inSight_52
def f_X12_inSight (N : Nat) (x1 : Int32) (x2 : Int32) (σ : Sg) : Option (Int32 × Sg) :=
if x1 = x2 then (f_X12_inSight_b51 N σ)
else (if (x1 < 0 ∨ 18 ≤ x1.toNatClampNeg) then none else
if (x2 < 0 ∨ 18 ≤ x2.toNatClampNeg) then none else
(f_X12_mistOf N σ).bind fun q3 =>
if ((σ 3 1) - ((9 : Int32) * q3.1)) < (if 0 ≤ ((σ 5 x1.toNatClampNeg) - (σ 5 x2.toNatClampNeg)) then ((σ 5 x1.toNatClampNeg) - (σ 5 x2.toNatClampNeg)) else 0 - ((σ 5 x1.toNatClampNeg) - (σ 5 x2.toNatClampNeg))) then (f_X12_inSight_b51 N (q3.2))
else ((f_X12_inTheWay N x1 x2 (q3.2)).bind fun q4 =>
if q4.1 = 0 then (some ((1 : Int32), (q4.2)))
else (f_X12_inSight_b51 N (q4.2))))
set_option maxHeartbeats 4000000 in
set_option maxRecDepth 100000 in
theorem b_X12_inSight {N : Nat} {x1 : Int32} {x2 : Int32} {σ : Sg} {z : Int32 × Sg} (C : Cx p s m args meth c cX12_inSight 3 (some .boolean) RX12 g A X) (hf : f_X12_inSight N x1 x2 σ = some z) : Bk mw p l e rm_X12_inSight s m args below meth c 3 g A (MQ below (qI mw g A z.1 z.2) args s 0 0 A) 0 0 0 [(0, .ref (g.2.2 0)), (1, .int x1), (2, .int x2)] [] σ := by
  obtain ⟨hx, hb, hr, hml, hown, hts, hK, hlocks, hXX, hA, hXo⟩ := id C
  intro H locs ls hP hD hS hl
  unfold f_X12_inSight at hf
  refine lv_iload_n hx hb dX12_inSight_0 rfl (lv_at hl 1 rfl) ?_
  refine lv_iload_n hx hb dX12_inSight_1 rfl (lv_at hl 2 rfl) ?_
  refine lv_icmp_eq (tgt := 51) hx hb dX12_inSight_2 (by decide) (fun t2 => ?_) (fun t2 => ?_)
  · have hf := (if_pos t2).symm.trans hf
    exact b_X12_inSight_b51 C hf H locs ls hP hD hS (lv_sub hl [] rfl)
  · have hf := (if_neg t2).symm.trans hf
    refine lv_aload_n hx hb dX12_inSight_5 rfl (lv_at hl 0 rfl) ?_
    refine bk_get (wf := mw) (q0 := 0) (ci := 11) (k := 5) (v := .ref (g.2.2 5)) C hP wl_X12 rfl rfl (by decide) wa_159 rfl rfl dX12_inSight_6 ?_
    refine lv_iload_n hx hb dX12_inSight_9 rfl (lv_at hl 1 rfl) ?_
    obtain ⟨g1, hf⟩ := gd_s hf
    refine bk_iald (wf := mw) (q0 := 5) (n := 18) (j := x1.toNatClampNeg) C hP rfl g1 rfl dX12_inSight_10 ?_
    refine lv_aload_n hx hb dX12_inSight_11 rfl (lv_at hl 0 rfl) ?_
    refine bk_get (wf := mw) (q0 := 0) (ci := 11) (k := 5) (v := .ref (g.2.2 5)) C hP wl_X12 rfl rfl (by decide) wa_159 rfl rfl dX12_inSight_12 ?_
    refine lv_iload_n hx hb dX12_inSight_15 rfl (lv_at hl 2 rfl) ?_
    obtain ⟨g2, hf⟩ := gd_s hf
    refine bk_iald (wf := mw) (q0 := 5) (n := 18) (j := x2.toNatClampNeg) C hP rfl g2 rfl dX12_inSight_16 ?_
    refine lv_isub hx hb dX12_inSight_17 ?_
    refine va_mabs hx hb (hml.trans hl.1.symm) hown (hts _ wa_739) (hts _ wa_498) (hts _ wa_231) (hts _ wa_499) (Nat.le_of_ble_eq_true rfl) (Nat.le_of_ble_eq_true rfl) (Nat.le_of_ble_eq_true rfl) (Nat.le_of_ble_eq_true rfl) dX12_inSight_18 ?_
    refine lv_aload_n hx hb dX12_inSight_21 rfl (lv_at hl 0 rfl) ?_
    refine bk_get (wf := mw) (q0 := 0) (ci := 11) (k := 3) (v := .ref (g.2.2 3)) C hP wl_X12 rfl rfl (by decide) wa_157 rfl rfl dX12_inSight_22 ?_
    refine lv_iconst (v := (1 : Int32)) hx hb dX12_inSight_25 (by decide) ?_
    refine bk_iald (wf := mw) (q0 := 3) (n := 10) (j := 1) C hP rfl (vin_l (by decide) (by decide)) (by decide) dX12_inSight_26 ?_
    refine lv_bipush (v := (9 : Int32)) hx hb dX12_inSight_27 (by decide) ?_
    refine lv_aload_n hx hb dX12_inSight_29 rfl (lv_at hl 0 rfl) ?_
    obtain ⟨q3, hq3, hf⟩ := bi_s hf
    refine bk_VI (wf := mw) (q0 := 0) (ci := 11) (rest := [.int (9 : Int32), .int (σ 3 1), .int (if 0 ≤ ((σ 5 x1.toNatClampNeg) - (σ 5 x2.toNatClampNeg)) then ((σ 5 x1.toNatClampNeg) - (σ 5 x2.toNatClampNeg)) else 0 - ((σ 5 x1.toNatClampNeg) - (σ 5 x2.toNatClampNeg)))]) [] C hP hD hS hl.1 (c_X12_mistOf hXo hq3) (cwA_V 0 hts wa_715 wa_712 wa_713 wa_714 wa_5 rfl rfl nd_X12_mistOf ⟨Nat.le_of_ble_eq_true rfl, Nat.le_of_ble_eq_true rfl⟩) rfl rfl rfl rfl (Nat.le_of_ble_eq_true rfl) dX12_inSight_30 ⟨Nat.le_of_ble_eq_true rfl, Nat.le_of_ble_eq_true rfl⟩ (fun H locs hP hD hS => ?_)
    refine lv_imul hx hb dX12_inSight_33 ?_
    refine lv_isub hx hb dX12_inSight_34 ?_
    refine lv_icmp_gt (tgt := 51) hx hb dX12_inSight_35 (by decide) (fun t35 => ?_) (fun t35 => ?_)
    · have hf := (if_pos t35).symm.trans hf
      exact b_X12_inSight_b51 C hf H locs ls hP hD hS (lv_sub hl [] rfl)
    · have hf := (if_neg t35).symm.trans hf
      refine lv_aload_n hx hb dX12_inSight_38 rfl (lv_at hl 0 rfl) ?_
      refine lv_iload_n hx hb dX12_inSight_39 rfl (lv_at hl 1 rfl) ?_
      refine lv_iload_n hx hb dX12_inSight_40 rfl (lv_at hl 2 rfl) ?_
      obtain ⟨q4, hq4, hf⟩ := bi_s hf
      refine bk_VI (wf := mw) (q0 := 0) (ci := 11) (rest := []) [.int x1, .int x2] C hP hD hS hl.1 (c_X12_inTheWay hXo hq4) (cwA_V 2 hts wa_743 wa_740 wa_741 wa_742 wa_5 rfl rfl nd_X12_inTheWay ⟨Nat.le_of_ble_eq_true rfl, Nat.le_of_ble_eq_true rfl⟩) rfl rfl rfl rfl (Nat.le_of_ble_eq_true rfl) dX12_inSight_41 ⟨Nat.le_of_ble_eq_true rfl, Nat.le_of_ble_eq_true rfl⟩ (fun H locs hP hD hS => ?_)
      refine lv_if_ne (tgt := 51) hx hb dX12_inSight_44 (by decide) (fun t44 => ?_) (fun t44 => ?_)
      · have hf := (if_neg t44).symm.trans hf
        exact b_X12_inSight_b51 C hf H locs ls hP hD hS (lv_sub hl [] rfl)
      · have hf := (if_pos t44).symm.trans hf
        refine lv_iconst (v := (1 : Int32)) hx hb dX12_inSight_47 (by decide) ?_
        refine lv_goto (tgt := 52) hx hb dX12_inSight_48 (by decide) ?_
        cases hf
        exact bk_zret C hP hD hS (by decide) rfl dX12_inSight_52
theorem c_X12_inSight {N : Nat} {x1 : Int32} {x2 : Int32} {σ : Sg} {z : Int32 × Sg} (hX : xOK g X) (hf : f_X12_inSight N x1 x2 σ = some z) : MetI l yX12_inSight (Cond.code yX12_inSight cX12_inSight 3 (some .boolean) :: wsA) rm_X12_inSight mw g X [.ref (g.2.2 0), .int x1, .int x2] σ z.1 z.2 :=
  MetI_of hX (by decide) (Nat.le_of_ble_eq_true rfl) (fun p e s m args below meth c A C => b_X12_inSight C hf)
-- X12_seesOf: seesOf(I)I
abbrev rm_X12_seesOf : Room := { frames := 4, cells := 0, slots := 0, locals := 93 }
theorem nd_X12_seesOf : yX12_seesOf.cls ≠ "java/lang/invoke/MethodHandle" ∧ yX12_seesOf.cls ≠ "java/lang/invoke/VarHandle" ∧ (parseMethodDescriptor yX12_seesOf.desc).map (fun d => d.parameters.length) = some 1 := by decide +kernel
def f_X12_seesOf_b31 (N : Nat) (x1 : Int32) (x3 : Int32) (t0 : Int32) (t1 : Int32) (σ : Sg) : Option (Nat × Int32 × Int32 × Sg) :=
bd (t0 ||| t1) fun v1 =>
bd (x3 + (1 : Int32)) fun v2 =>
some (0, v1, v2, σ)
set_option maxHeartbeats 4000000 in
set_option maxRecDepth 100000 in
theorem b_X12_seesOf_b31 {N : Nat} {x1 : Int32} {x3 : Int32} {t0 : Int32} {t1 : Int32} {σ : Sg} {z : Nat × Int32 × Int32 × Sg} (C : Cx p s m args meth c cX12_seesOf 4 (some .int) RX12 g A X) (hf : f_X12_seesOf_b31 N x1 x3 t0 t1 σ = some z) (k0 : z.1 = 0 → Bk mw p l e rm_X12_seesOf s m args below meth c 4 g A Q 0 0 4 [(0, .ref (g.2.2 0)), (1, .int x1), (2, .int z.2.1), (3, .int z.2.2.1)] [] z.2.2.2) (k : ¬ z.1 = 0 → Bk mw p l e rm_X12_seesOf s m args below meth c 4 g A Q 0 0 39 [(2, .int z.2.1)] [] z.2.2.2) : Bk mw p l e rm_X12_seesOf s m args below meth c 4 g A Q 0 0 31 [(0, .ref (g.2.2 0)), (1, .int x1), (3, .int x3)] [.int t1, .int t0] σ := by
  obtain ⟨hx, hb, hr, hml, hown, hts, hK, hlocks, hXX, hA, hXo⟩ := id C
  intro H locs ls hP hD hS hl
  unfold f_X12_seesOf_b31 at hf
  refine lv_ior hx hb dX12_seesOf_31 ?_
  obtain ⟨v1, ev1, hf⟩ := bd_s hf
  rw [← ev1]
  refine lv_istore_n (lv' := [(2, .int v1), (0, .ref (g.2.2 0)), (1, .int x1), (3, .int x3)]) hx hb dX12_seesOf_32 rfl hl (by decide) rfl (fun ls hl => ?_)
  obtain ⟨v2, ev2, hf⟩ := bd_s hf
  refine lv_iinc (v := v2) (lv' := [(3, .int v2), (2, .int v1), (0, .ref (g.2.2 0)), (1, .int x1)]) hx hb dX12_seesOf_33 hl (k := 3) rfl (by rw [ev2]; rfl) (by decide) rfl (fun ls hl => ?_)
  refine lv_goto (tgt := 4) hx hb dX12_seesOf_36 (by decide) ?_
  cases hf
  exact k0 rfl H locs ls hP hD hS (lv_sub hl [2, 3, 1, 0] rfl)
def s_X12_seesOf_h4 (N : Nat) (x1 : Int32) (x2 : Int32) (x3 : Int32) (σ : Sg) : Option (Nat × Int32 × Int32 × Sg) :=
if (σ 3 0) ≤ x3 then (some (1, x2, 0, σ))
else ((f_X12_inSight N x1 x3 σ).bind fun q3 =>
if q3.1 = 0 then (f_X12_seesOf_b31 N x1 x3 x2 (0 : Int32) (q3.2))
else (f_X12_seesOf_b31 N x1 x3 x2 ((1 : Int32) <<< (x3 &&& 31)) (q3.2)))
set_option maxHeartbeats 4000000 in
set_option maxRecDepth 100000 in
theorem e_X12_seesOf_h4 {N : Nat} {x1 : Int32} {x2 : Int32} {x3 : Int32} {σ : Sg} {z : Nat × Int32 × Int32 × Sg} (C : Cx p s m args meth c cX12_seesOf 4 (some .int) RX12 g A X) (hf : s_X12_seesOf_h4 N x1 x2 x3 σ = some z) (k0 : z.1 = 0 → Bk mw p l e rm_X12_seesOf s m args below meth c 4 g A Q 0 0 4 [(0, .ref (g.2.2 0)), (1, .int x1), (2, .int z.2.1), (3, .int z.2.2.1)] [] z.2.2.2) (k : ¬ z.1 = 0 → Bk mw p l e rm_X12_seesOf s m args below meth c 4 g A Q 0 0 39 [(2, .int z.2.1)] [] z.2.2.2) : Bk mw p l e rm_X12_seesOf s m args below meth c 4 g A Q 0 0 4 [(0, .ref (g.2.2 0)), (1, .int x1), (2, .int x2), (3, .int x3)] [] σ := by
  obtain ⟨hx, hb, hr, hml, hown, hts, hK, hlocks, hXX, hA, hXo⟩ := id C
  intro H locs ls hP hD hS hl
  unfold s_X12_seesOf_h4 at hf
  refine lv_iload_n hx hb dX12_seesOf_4 rfl (lv_at hl 3 rfl) ?_
  refine lv_aload_n hx hb dX12_seesOf_5 rfl (lv_at hl 0 rfl) ?_
  refine bk_get (wf := mw) (q0 := 0) (ci := 11) (k := 3) (v := .ref (g.2.2 3)) C hP wl_X12 rfl rfl (by decide) wa_157 rfl rfl dX12_seesOf_6 ?_
  refine lv_iconst (v := (0 : Int32)) hx hb dX12_seesOf_9 (by decide) ?_
  refine bk_iald (wf := mw) (q0 := 3) (n := 10) (j := 0) C hP rfl (vin_l (by decide) (by decide)) (by decide) dX12_seesOf_10 ?_
  refine lv_icmp_ge (tgt := 39) hx hb dX12_seesOf_11 (by decide) (fun t11 => ?_) (fun t11 => ?_)
  · have hf := (if_pos t11).symm.trans hf
    cases hf
    exact (k (show ¬ (1 : Nat) = 0 by decide)) H locs ls hP hD hS (lv_sub hl [2] rfl)
  · have hf := (if_neg t11).symm.trans hf
    refine lv_iload_n hx hb dX12_seesOf_14 rfl (lv_at hl 2 rfl) ?_
    refine lv_aload_n hx hb dX12_seesOf_15 rfl (lv_at hl 0 rfl) ?_
    refine lv_iload_n hx hb dX12_seesOf_16 rfl (lv_at hl 1 rfl) ?_
    refine lv_iload_n hx hb dX12_seesOf_17 rfl (lv_at hl 3 rfl) ?_
    obtain ⟨q3, hq3, hf⟩ := bi_s hf
    refine bk_VI (wf := mw) (q0 := 0) (ci := 11) (rest := [.int x2]) [.int x1, .int x3] C hP hD hS hl.1 (c_X12_inSight hXo hq3) (cwA_V 2 hts wa_738 wa_735 wa_736 wa_737 wa_5 rfl rfl nd_X12_inSight ⟨Nat.le_of_ble_eq_true rfl, Nat.le_of_ble_eq_true rfl⟩) rfl rfl rfl rfl (Nat.le_of_ble_eq_true rfl) dX12_seesOf_18 ⟨Nat.le_of_ble_eq_true rfl, Nat.le_of_ble_eq_true rfl⟩ (fun H locs hP hD hS => ?_)
    refine lv_if_eq (tgt := 30) hx hb dX12_seesOf_21 (by decide) (fun t21 => ?_) (fun t21 => ?_)
    · have hf := (if_pos t21).symm.trans hf
      refine lv_iconst (v := (0 : Int32)) hx hb dX12_seesOf_30 (by decide) ?_
      exact b_X12_seesOf_b31 C hf k0 k H locs ls hP hD hS (lv_sub hl [0, 1, 3] rfl)
    · have hf := (if_neg t21).symm.trans hf
      refine lv_iconst (v := (1 : Int32)) hx hb dX12_seesOf_24 (by decide) ?_
      refine lv_iload_n hx hb dX12_seesOf_25 rfl (lv_at hl 3 rfl) ?_
      refine lv_ishl hx hb dX12_seesOf_26 ?_
      refine lv_goto (tgt := 31) hx hb dX12_seesOf_27 (by decide) ?_
      exact b_X12_seesOf_b31 C hf k0 k H locs ls hP hD hS (lv_sub hl [0, 1, 3] rfl)
theorem lp_X12_seesOf_h4 {N : Nat} {n : Nat} {x1 : Int32} {x2 : Int32} {x3 : Int32} {σ : Sg} {z : Nat × Int32 × Int32 × Sg} (C : Cx p s m args meth c cX12_seesOf 4 (some .int) RX12 g A X) (hz : it (fun q => s_X12_seesOf_h4 N x1 q.1 q.2.1 q.2.2) n (x2, x3, σ) = some z) (k : Bk mw p l e rm_X12_seesOf s m args below meth c 4 g A Q 0 0 39 [(2, .int z.2.1)] [] z.2.2.2) : Bk mw p l e rm_X12_seesOf s m args below meth c 4 g A Q 0 0 4 [(0, .ref (g.2.2 0)), (1, .int x1), (2, .int x2), (3, .int x3)] [] σ :=
  it_W (S := Int32 × Int32 × Sg) (fun q => Bk mw p l e rm_X12_seesOf s m args below meth c 4 g A Q 0 0 4 [(0, .ref (g.2.2 0)), (1, .int x1), (2, .int q.1), (3, .int q.2.1)] [] q.2.2) (fun z => Bk mw p l e rm_X12_seesOf s m args below meth c 4 g A Q 0 0 39 [(2, .int z.2.1)] [] z.2.2.2) (fun q z hq k0 k => e_X12_seesOf_h4 C hq k0 k) n (x2, x3, σ) z hz k
def f_X12_seesOf (N : Nat) (x1 : Int32) (σ : Sg) : Option (Int32 × Sg) :=
(it (fun q => s_X12_seesOf_h4 N x1 q.1 q.2.1 q.2.2) N ((0 : Int32), (0 : Int32), σ)).bind fun z4 =>
some ((z4.2.1), (z4.2.2.2))
set_option maxHeartbeats 4000000 in
set_option maxRecDepth 100000 in
theorem b_X12_seesOf {N : Nat} {x1 : Int32} {σ : Sg} {z : Int32 × Sg} (C : Cx p s m args meth c cX12_seesOf 4 (some .int) RX12 g A X) (hf : f_X12_seesOf N x1 σ = some z) : Bk mw p l e rm_X12_seesOf s m args below meth c 4 g A (MQ below (qI mw g A z.1 z.2) args s 0 0 A) 0 0 0 [(0, .ref (g.2.2 0)), (1, .int x1)] [] σ := by
  obtain ⟨hx, hb, hr, hml, hown, hts, hK, hlocks, hXX, hA, hXo⟩ := id C
  intro H locs ls hP hD hS hl
  unfold f_X12_seesOf at hf
  refine lv_iconst (v := (0 : Int32)) hx hb dX12_seesOf_0 (by decide) ?_
  refine lv_istore_n (lv' := [(2, .int (0 : Int32)), (0, .ref (g.2.2 0)), (1, .int x1)]) hx hb dX12_seesOf_1 rfl hl (by decide) rfl (fun ls hl => ?_)
  refine lv_iconst (v := (0 : Int32)) hx hb dX12_seesOf_2 (by decide) ?_
  refine lv_istore_n (lv' := [(3, .int (0 : Int32)), (2, .int (0 : Int32)), (0, .ref (g.2.2 0)), (1, .int x1)]) hx hb dX12_seesOf_3 rfl hl (by decide) rfl (fun ls hl => ?_)
  obtain ⟨z4, hz4, hf⟩ := bi_s hf
  refine lp_X12_seesOf_h4 C hz4 ?_ H locs ls hP hD hS (lv_sub hl [2, 3, 1, 0] rfl)
  intro H locs ls hP hD hS hl
  refine lv_iload_n hx hb dX12_seesOf_39 rfl (lv_at hl 0 rfl) ?_
  cases hf
  exact bk_iret C hP hD hS rfl dX12_seesOf_40
theorem c_X12_seesOf {N : Nat} {x1 : Int32} {σ : Sg} {z : Int32 × Sg} (hX : xOK g X) (hf : f_X12_seesOf N x1 σ = some z) : MetI l yX12_seesOf (Cond.code yX12_seesOf cX12_seesOf 4 (some .int) :: wsA) rm_X12_seesOf mw g X [.ref (g.2.2 0), .int x1] σ z.1 z.2 :=
  MetI_of hX (by decide) (Nat.le_of_ble_eq_true rfl) (fun p e s m args below meth c A C => b_X12_seesOf C hf)
-- X12_reckon: reckon(III)I
abbrev rm_X12_reckon : Room := { frames := 0, cells := 0, slots := 0, locals := 0 }
theorem nd_X12_reckon : yX12_reckon.cls ≠ "java/lang/invoke/MethodHandle" ∧ yX12_reckon.cls ≠ "java/lang/invoke/VarHandle" ∧ (parseMethodDescriptor yX12_reckon.desc).map (fun d => d.parameters.length) = some 3 := by decide +kernel
def f_X12_reckon_b112 (N : Nat) (σ : Sg) : Option (Int32 × Sg) :=
some ((1 : Int32), σ)
set_option maxHeartbeats 4000000 in
set_option maxRecDepth 100000 in
theorem b_X12_reckon_b112 {N : Nat} {σ : Sg} {z : Int32 × Sg} (C : Cx p s m args meth c cX12_reckon 3 (some .int) RX12 g A X) (hf : f_X12_reckon_b112 N σ = some z) : Bk mw p l e rm_X12_reckon s m args below meth c 3 g A (MQ below (qI mw g A z.1 z.2) args s 0 0 A) 0 0 112 [] [] σ := by
  obtain ⟨hx, hb, hr, hml, hown, hts, hK, hlocks, hXX, hA, hXo⟩ := id C
  intro H locs ls hP hD hS hl
  unfold f_X12_reckon_b112 at hf
  refine lv_iconst (v := (1 : Int32)) hx hb dX12_reckon_112 (by decide) ?_
  refine lv_goto (tgt := 117) hx hb dX12_reckon_113 (by decide) ?_
  cases hf
  exact bk_iret C hP hD hS rfl dX12_reckon_117
def f_X12_reckon_b102 (N : Nat) (σ : Sg) : Option (Int32 × Sg) :=
some ((0 : Int32), σ)
set_option maxHeartbeats 4000000 in
set_option maxRecDepth 100000 in
theorem b_X12_reckon_b102 {N : Nat} {σ : Sg} {z : Int32 × Sg} (C : Cx p s m args meth c cX12_reckon 3 (some .int) RX12 g A X) (hf : f_X12_reckon_b102 N σ = some z) : Bk mw p l e rm_X12_reckon s m args below meth c 3 g A (MQ below (qI mw g A z.1 z.2) args s 0 0 A) 0 0 102 [] [] σ := by
  obtain ⟨hx, hb, hr, hml, hown, hts, hK, hlocks, hXX, hA, hXo⟩ := id C
  intro H locs ls hP hD hS hl
  unfold f_X12_reckon_b102 at hf
  refine lv_iconst (v := (0 : Int32)) hx hb dX12_reckon_102 (by decide) ?_
  cases hf
  exact bk_iret C hP hD hS rfl dX12_reckon_103
def f_X12_reckon (N : Nat) (x0 : Int32) (x1 : Int32) (x2 : Int32) (σ : Sg) : Option (Int32 × Sg) :=
if ((x0).toInt < -26 ∨ -20 < (x0).toInt) then (if x1 = 0 then (if x2 = 0 then (some ((0 : Int32), σ))
else (f_X12_reckon_b112 N σ))
else (f_X12_reckon_b112 N σ))
else if x0 = (-26 : Int32) then (if x1 = 0 then (f_X12_reckon_b102 N σ)
else (if x2 = 0 then (f_X12_reckon_b102 N σ)
else (some ((1 : Int32), σ))))
else if x0 = (-25 : Int32) then (if x1 = x2 then (some ((1 : Int32), σ))
else (some ((0 : Int32), σ)))
else if x0 = (-24 : Int32) then (if x2 ≤ x1 then (some ((0 : Int32), σ))
else (some ((1 : Int32), σ)))
else if x0 = (-23 : Int32) then (if x2 = 0 then (some ((0 : Int32), σ))
else (if x2 = 0 then none else
some ((x1 / x2), σ)))
else if x0 = (-22 : Int32) then (some ((x1 * x2), σ))
else if x0 = (-21 : Int32) then (some ((x1 - x2), σ))
else if x0 = (-20 : Int32) then (some ((x1 + x2), σ))
else none
set_option maxHeartbeats 4000000 in
set_option maxRecDepth 100000 in
theorem b_X12_reckon {N : Nat} {x0 : Int32} {x1 : Int32} {x2 : Int32} {σ : Sg} {z : Int32 × Sg} (C : Cx p s m args meth c cX12_reckon 3 (some .int) RX12 g A X) (hf : f_X12_reckon N x0 x1 x2 σ = some z) : Bk mw p l e rm_X12_reckon s m args below meth c 3 g A (MQ below (qI mw g A z.1 z.2) args s 0 0 A) 0 0 0 [(0, .int x0), (1, .int x1), (2, .int x2)] [] σ := by
  obtain ⟨hx, hb, hr, hml, hown, hts, hK, hlocks, hXX, hA, hXo⟩ := id C
  intro H locs ls hP hD hS hl
  unfold f_X12_reckon at hf
  refine lv_iload_n hx hb dX12_reckon_0 rfl (lv_at hl 0 rfl) ?_
  by_cases t1 : ((x0).toInt < -26 ∨ -20 < (x0).toInt)
  · have hf := (if_pos t1).symm.trans hf
    refine lv_tableOut (tgt := 104) hx hb dX12_reckon_1 t1 (by decide) ?_
    refine lv_iload_n hx hb dX12_reckon_104 rfl (lv_at hl 1 rfl) ?_
    refine lv_if_ne (tgt := 112) hx hb dX12_reckon_105 (by decide) (fun t105 => ?_) (fun t105 => ?_)
    · have hf := (if_neg t105).symm.trans hf
      exact b_X12_reckon_b112 C hf H locs ls hP hD hS (lv_sub hl [] rfl)
    · have hf := (if_pos t105).symm.trans hf
      refine lv_iload_n hx hb dX12_reckon_108 rfl (lv_at hl 2 rfl) ?_
      refine lv_if_eq (tgt := 116) hx hb dX12_reckon_109 (by decide) (fun t109 => ?_) (fun t109 => ?_)
      · have hf := (if_pos t109).symm.trans hf
        refine lv_iconst (v := (0 : Int32)) hx hb dX12_reckon_116 (by decide) ?_
        cases hf
        exact bk_iret C hP hD hS rfl dX12_reckon_117
      · have hf := (if_neg t109).symm.trans hf
        exact b_X12_reckon_b112 C hf H locs ls hP hD hS (lv_sub hl [] rfl)
  · have hf := (if_neg t1).symm.trans hf
    have t1l := fun q => t1 (Or.inl q)
    have t1h := fun q => t1 (Or.inr q)
    by_cases u1_0 : x0 = (-26 : Int32)
    · have hf := (if_pos u1_0).symm.trans hf
      refine lv_tableIn (off := 89) (tgt := 90) hx hb dX12_reckon_1 t1l t1h (by rw [u1_0]; rfl) (by decide) ?_
      refine lv_iload_n hx hb dX12_reckon_90 rfl (lv_at hl 1 rfl) ?_
      refine lv_if_eq (tgt := 102) hx hb dX12_reckon_91 (by decide) (fun t91 => ?_) (fun t91 => ?_)
      · have hf := (if_pos t91).symm.trans hf
        exact b_X12_reckon_b102 C hf H locs ls hP hD hS (lv_sub hl [] rfl)
      · have hf := (if_neg t91).symm.trans hf
        refine lv_iload_n hx hb dX12_reckon_94 rfl (lv_at hl 2 rfl) ?_
        refine lv_if_eq (tgt := 102) hx hb dX12_reckon_95 (by decide) (fun t95 => ?_) (fun t95 => ?_)
        · have hf := (if_pos t95).symm.trans hf
          exact b_X12_reckon_b102 C hf H locs ls hP hD hS (lv_sub hl [] rfl)
        · have hf := (if_neg t95).symm.trans hf
          refine lv_iconst (v := (1 : Int32)) hx hb dX12_reckon_98 (by decide) ?_
          refine lv_goto (tgt := 103) hx hb dX12_reckon_99 (by decide) ?_
          cases hf
          exact bk_iret C hP hD hS rfl dX12_reckon_103
    · have hf := (if_neg u1_0).symm.trans hf
      by_cases u1_1 : x0 = (-25 : Int32)
      · have hf := (if_pos u1_1).symm.trans hf
        refine lv_tableIn (off := 78) (tgt := 79) hx hb dX12_reckon_1 t1l t1h (by rw [u1_1]; rfl) (by decide) ?_
        refine lv_iload_n hx hb dX12_reckon_79 rfl (lv_at hl 1 rfl) ?_
        refine lv_iload_n hx hb dX12_reckon_80 rfl (lv_at hl 2 rfl) ?_
        refine lv_icmp_ne (tgt := 88) hx hb dX12_reckon_81 (by decide) (fun t81 => ?_) (fun t81 => ?_)
        · have hf := (if_neg t81).symm.trans hf
          refine lv_iconst (v := (0 : Int32)) hx hb dX12_reckon_88 (by decide) ?_
          cases hf
          exact bk_iret C hP hD hS rfl dX12_reckon_89
        · have hf := (if_pos t81).symm.trans hf
          refine lv_iconst (v := (1 : Int32)) hx hb dX12_reckon_84 (by decide) ?_
          refine lv_goto (tgt := 89) hx hb dX12_reckon_85 (by decide) ?_
          cases hf
          exact bk_iret C hP hD hS rfl dX12_reckon_89
      · have hf := (if_neg u1_1).symm.trans hf
        by_cases u1_2 : x0 = (-24 : Int32)
        · have hf := (if_pos u1_2).symm.trans hf
          refine lv_tableIn (off := 67) (tgt := 68) hx hb dX12_reckon_1 t1l t1h (by rw [u1_2]; rfl) (by decide) ?_
          refine lv_iload_n hx hb dX12_reckon_68 rfl (lv_at hl 1 rfl) ?_
          refine lv_iload_n hx hb dX12_reckon_69 rfl (lv_at hl 2 rfl) ?_
          refine lv_icmp_ge (tgt := 77) hx hb dX12_reckon_70 (by decide) (fun t70 => ?_) (fun t70 => ?_)
          · have hf := (if_pos t70).symm.trans hf
            refine lv_iconst (v := (0 : Int32)) hx hb dX12_reckon_77 (by decide) ?_
            cases hf
            exact bk_iret C hP hD hS rfl dX12_reckon_78
          · have hf := (if_neg t70).symm.trans hf
            refine lv_iconst (v := (1 : Int32)) hx hb dX12_reckon_73 (by decide) ?_
            refine lv_goto (tgt := 78) hx hb dX12_reckon_74 (by decide) ?_
            cases hf
            exact bk_iret C hP hD hS rfl dX12_reckon_78
        · have hf := (if_neg u1_2).symm.trans hf
          by_cases u1_3 : x0 = (-23 : Int32)
          · have hf := (if_pos u1_3).symm.trans hf
            refine lv_tableIn (off := 55) (tgt := 56) hx hb dX12_reckon_1 t1l t1h (by rw [u1_3]; rfl) (by decide) ?_
            refine lv_iload_n hx hb dX12_reckon_56 rfl (lv_at hl 2 rfl) ?_
            refine lv_if_ne (tgt := 64) hx hb dX12_reckon_57 (by decide) (fun t57 => ?_) (fun t57 => ?_)
            · have hf := (if_neg t57).symm.trans hf
              refine lv_iload_n hx hb dX12_reckon_64 rfl (lv_at hl 1 rfl) ?_
              refine lv_iload_n hx hb dX12_reckon_65 rfl (lv_at hl 2 rfl) ?_
              obtain ⟨g1, hf⟩ := gd_s hf
              refine lv_idiv hx hb dX12_reckon_66 g1 ?_
              cases hf
              exact bk_iret C hP hD hS rfl dX12_reckon_67
            · have hf := (if_pos t57).symm.trans hf
              refine lv_iconst (v := (0 : Int32)) hx hb dX12_reckon_60 (by decide) ?_
              refine lv_goto (tgt := 67) hx hb dX12_reckon_61 (by decide) ?_
              cases hf
              exact bk_iret C hP hD hS rfl dX12_reckon_67
          · have hf := (if_neg u1_3).symm.trans hf
            by_cases u1_4 : x0 = (-22 : Int32)
            · have hf := (if_pos u1_4).symm.trans hf
              refine lv_tableIn (off := 51) (tgt := 52) hx hb dX12_reckon_1 t1l t1h (by rw [u1_4]; rfl) (by decide) ?_
              refine lv_iload_n hx hb dX12_reckon_52 rfl (lv_at hl 1 rfl) ?_
              refine lv_iload_n hx hb dX12_reckon_53 rfl (lv_at hl 2 rfl) ?_
              refine lv_imul hx hb dX12_reckon_54 ?_
              cases hf
              exact bk_iret C hP hD hS rfl dX12_reckon_55
            · have hf := (if_neg u1_4).symm.trans hf
              by_cases u1_5 : x0 = (-21 : Int32)
              · have hf := (if_pos u1_5).symm.trans hf
                refine lv_tableIn (off := 47) (tgt := 48) hx hb dX12_reckon_1 t1l t1h (by rw [u1_5]; rfl) (by decide) ?_
                refine lv_iload_n hx hb dX12_reckon_48 rfl (lv_at hl 1 rfl) ?_
                refine lv_iload_n hx hb dX12_reckon_49 rfl (lv_at hl 2 rfl) ?_
                refine lv_isub hx hb dX12_reckon_50 ?_
                cases hf
                exact bk_iret C hP hD hS rfl dX12_reckon_51
              · have hf := (if_neg u1_5).symm.trans hf
                by_cases u1_6 : x0 = (-20 : Int32)
                · have hf := (if_pos u1_6).symm.trans hf
                  refine lv_tableIn (off := 43) (tgt := 44) hx hb dX12_reckon_1 t1l t1h (by rw [u1_6]; rfl) (by decide) ?_
                  refine lv_iload_n hx hb dX12_reckon_44 rfl (lv_at hl 1 rfl) ?_
                  refine lv_iload_n hx hb dX12_reckon_45 rfl (lv_at hl 2 rfl) ?_
                  refine lv_iadd hx hb dX12_reckon_46 ?_
                  cases hf
                  exact bk_iret C hP hD hS rfl dX12_reckon_47
                · have hf := (if_neg u1_6).symm.trans hf
                  cases hf
theorem c_X12_reckon {N : Nat} {x0 : Int32} {x1 : Int32} {x2 : Int32} {σ : Sg} {z : Int32 × Sg} (hX : xOK g X) (hf : f_X12_reckon N x0 x1 x2 σ = some z) : MetI l yX12_reckon (Cond.code yX12_reckon cX12_reckon 3 (some .int) :: wsA) rm_X12_reckon mw g X [.int x0, .int x1, .int x2] σ z.1 z.2 :=
  MetI_of hX (by decide) (Nat.le_of_ble_eq_true rfl) (fun p e s m args below meth c A C => b_X12_reckon C hf)
-- X12_valueNow: valueNow()I
abbrev rm_X12_valueNow : Room := { frames := 1, cells := 0, slots := 0, locals := 22 }
theorem nd_X12_valueNow : yX12_valueNow.cls ≠ "java/lang/invoke/MethodHandle" ∧ yX12_valueNow.cls ≠ "java/lang/invoke/VarHandle" ∧ (parseMethodDescriptor yX12_valueNow.desc).map (fun d => d.parameters.length) = some 0 := by decide +kernel
def f_X12_valueNow_b117 (N : Nat) (x1 : Int32) (x2 : Int32) (σ : Sg) : Option (Nat × Int32 × Int32 × Sg) :=
bd (x2 + (1 : Int32)) fun v1 =>
some (0, x1, v1, σ)
set_option maxHeartbeats 4000000 in
set_option maxRecDepth 100000 in
theorem b_X12_valueNow_b117 {N : Nat} {x1 : Int32} {x2 : Int32} {σ : Sg} {z : Nat × Int32 × Int32 × Sg} (C : Cx p s m args meth c cX12_valueNow 4 (some .int) RX12 g A X) (hf : f_X12_valueNow_b117 N x1 x2 σ = some z) (k0 : z.1 = 0 → Bk mw p l e rm_X12_valueNow s m args below meth c 4 g A Q 0 0 4 [(0, .ref (g.2.2 0)), (1, .int z.2.1), (2, .int z.2.2.1)] [] z.2.2.2) (k : ¬ z.1 = 0 → Bk mw p l e rm_X12_valueNow s m args below meth c 4 g A Q 0 0 123 [(0, .ref (g.2.2 0))] [] z.2.2.2) : Bk mw p l e rm_X12_valueNow s m args below meth c 4 g A Q 0 0 117 [(0, .ref (g.2.2 0)), (1, .int x1), (2, .int x2)] [] σ := by
  obtain ⟨hx, hb, hr, hml, hown, hts, hK, hlocks, hXX, hA, hXo⟩ := id C
  intro H locs ls hP hD hS hl
  unfold f_X12_valueNow_b117 at hf
  obtain ⟨v1, ev1, hf⟩ := bd_s hf
  refine lv_iinc (v := v1) (lv' := [(2, .int v1), (0, .ref (g.2.2 0)), (1, .int x1)]) hx hb dX12_valueNow_117 hl (k := 2) rfl (by rw [ev1]; rfl) (by decide) rfl (fun ls hl => ?_)
  refine lv_goto (tgt := 4) hx hb dX12_valueNow_120 (by decide) ?_
  cases hf
  exact k0 rfl H locs ls hP hD hS (lv_sub hl [1, 2, 0] rfl)
def f_X12_valueNow_b84 (N : Nat) (x1 : Int32) (x2 : Int32) (t1 : Int32) (t2 : Int32) (σ : Sg) : Option (Nat × Int32 × Int32 × Sg) :=
if (t1 < 0 ∨ 64 ≤ t1.toNatClampNeg) then none else
bd (wr σ 19 (t1.toNatClampNeg) t2) fun σ3 =>
f_X12_valueNow_b117 N x1 x2 σ3
set_option maxHeartbeats 4000000 in
set_option maxRecDepth 100000 in
theorem b_X12_valueNow_b84 {N : Nat} {x1 : Int32} {x2 : Int32} {t1 : Int32} {t2 : Int32} {σ : Sg} {z : Nat × Int32 × Int32 × Sg} (C : Cx p s m args meth c cX12_valueNow 4 (some .int) RX12 g A X) (hf : f_X12_valueNow_b84 N x1 x2 t1 t2 σ = some z) (k0 : z.1 = 0 → Bk mw p l e rm_X12_valueNow s m args below meth c 4 g A Q 0 0 4 [(0, .ref (g.2.2 0)), (1, .int z.2.1), (2, .int z.2.2.1)] [] z.2.2.2) (k : ¬ z.1 = 0 → Bk mw p l e rm_X12_valueNow s m args below meth c 4 g A Q 0 0 123 [(0, .ref (g.2.2 0))] [] z.2.2.2) : Bk mw p l e rm_X12_valueNow s m args below meth c 4 g A Q 0 0 84 [(0, .ref (g.2.2 0)), (1, .int x1), (2, .int x2)] [.int t2, .int t1, .ref (g.2.2 19)] σ := by
  obtain ⟨hx, hb, hr, hml, hown, hts, hK, hlocks, hXX, hA, hXo⟩ := id C
  intro H locs ls hP hD hS hl
  unfold f_X12_valueNow_b84 at hf
  obtain ⟨g2, hf⟩ := gd_s hf
  obtain ⟨σ3, eσ3, hf⟩ := bd_s hf
  refine bk_iast (wf := mw) (σ1 := σ3) (q0 := 19) (n := 64) (j := t1.toNatClampNeg) C hP hD hS rfl g2 rfl (by rw [eσ3]; exact mw_a19 g _ _ _) dX12_valueNow_84 (fun H locs hP hD hS => ?_)
  refine lv_goto (tgt := 117) hx hb dX12_valueNow_85 (by decide) ?_
  exact b_X12_valueNow_b117 C hf k0 k H locs ls hP hD hS (lv_sub hl [0, 1, 2] rfl)
def f_X12_valueNow_b48 (N : Nat) (x1 : Int32) (x2 : Int32) (t1 : Int32) (t2 : Int32) (σ : Sg) : Option (Nat × Int32 × Int32 × Sg) :=
if (t1 < 0 ∨ 64 ≤ t1.toNatClampNeg) then none else
bd (wr σ 19 (t1.toNatClampNeg) t2) fun σ5 =>
bd (x1 + (1 : Int32)) fun v6 =>
f_X12_valueNow_b117 N v6 x2 σ5
set_option maxHeartbeats 4000000 in
set_option maxRecDepth 100000 in
theorem b_X12_valueNow_b48 {N : Nat} {x1 : Int32} {x2 : Int32} {t1 : Int32} {t2 : Int32} {σ : Sg} {z : Nat × Int32 × Int32 × Sg} (C : Cx p s m args meth c cX12_valueNow 4 (some .int) RX12 g A X) (hf : f_X12_valueNow_b48 N x1 x2 t1 t2 σ = some z) (k0 : z.1 = 0 → Bk mw p l e rm_X12_valueNow s m args below meth c 4 g A Q 0 0 4 [(0, .ref (g.2.2 0)), (1, .int z.2.1), (2, .int z.2.2.1)] [] z.2.2.2) (k : ¬ z.1 = 0 → Bk mw p l e rm_X12_valueNow s m args below meth c 4 g A Q 0 0 123 [(0, .ref (g.2.2 0))] [] z.2.2.2) : Bk mw p l e rm_X12_valueNow s m args below meth c 4 g A Q 0 0 48 [(0, .ref (g.2.2 0)), (1, .int x1), (2, .int x2)] [.int t2, .int t1, .ref (g.2.2 19)] σ := by
  obtain ⟨hx, hb, hr, hml, hown, hts, hK, hlocks, hXX, hA, hXo⟩ := id C
  intro H locs ls hP hD hS hl
  unfold f_X12_valueNow_b48 at hf
  obtain ⟨g4, hf⟩ := gd_s hf
  obtain ⟨σ5, eσ5, hf⟩ := bd_s hf
  refine bk_iast (wf := mw) (σ1 := σ5) (q0 := 19) (n := 64) (j := t1.toNatClampNeg) C hP hD hS rfl g4 rfl (by rw [eσ5]; exact mw_a19 g _ _ _) dX12_valueNow_48 (fun H locs hP hD hS => ?_)
  obtain ⟨v6, ev6, hf⟩ := bd_s hf
  refine lv_iinc (v := v6) (lv' := [(1, .int v6), (0, .ref (g.2.2 0)), (2, .int x2)]) hx hb dX12_valueNow_49 hl (k := 1) rfl (by rw [ev6]; rfl) (by decide) rfl (fun ls hl => ?_)
  refine lv_goto (tgt := 117) hx hb dX12_valueNow_52 (by decide) ?_
  exact b_X12_valueNow_b117 C hf k0 k H locs ls hP hD hS (lv_sub hl [1, 0, 2] rfl)
def s_X12_valueNow_h4 (N : Nat) (x1 : Int32) (x2 : Int32) (σ : Sg) : Option (Nat × Int32 × Int32 × Sg) :=
if (σ 3 4) ≤ x2 then (some (1, 0, 0, σ))
else (if (x2 < 0 ∨ 1400 ≤ x2.toNatClampNeg) then none else
bd (σ 10 x2.toNatClampNeg) fun v8 =>
if v8 ≤ (-20 : Int32) then (if v8 = (-28 : Int32) then (if ((x1 - (1 : Int32)) < 0 ∨ 64 ≤ (x1 - (1 : Int32)).toNatClampNeg) then none else
if (σ 19 (x1 - (1 : Int32)).toNatClampNeg) = 0 then (f_X12_valueNow_b84 N x1 x2 (x1 - (1 : Int32)) (1 : Int32) σ)
else (f_X12_valueNow_b84 N x1 x2 (x1 - (1 : Int32)) (0 : Int32) σ))
else (bd (x1 + (-1 : Int32)) fun v9 =>
if ((v9 - (1 : Int32)) < 0 ∨ 64 ≤ (v9 - (1 : Int32)).toNatClampNeg) then none else
if (v9 < 0 ∨ 64 ≤ v9.toNatClampNeg) then none else
(f_X12_reckon N v8 (σ 19 (v9 - (1 : Int32)).toNatClampNeg) (σ 19 v9.toNatClampNeg) σ).bind fun q12 =>
if ((v9 - (1 : Int32)) < 0 ∨ 64 ≤ (v9 - (1 : Int32)).toNatClampNeg) then none else
bd (wr (q12.2) 19 ((v9 - (1 : Int32)).toNatClampNeg) q12.1) fun σ14 =>
f_X12_valueNow_b117 N v9 x2 σ14))
else (if v8 < 0 then (if (((-1 : Int32) - v8) < 0 ∨ 6 ≤ ((-1 : Int32) - v8).toNatClampNeg) then none else
f_X12_valueNow_b48 N x1 x2 x1 (σ 18 ((-1 : Int32) - v8).toNatClampNeg) σ)
else (f_X12_valueNow_b48 N x1 x2 x1 v8 σ)))
set_option maxHeartbeats 4000000 in
set_option maxRecDepth 100000 in
theorem e_X12_valueNow_h4 {N : Nat} {x1 : Int32} {x2 : Int32} {σ : Sg} {z : Nat × Int32 × Int32 × Sg} (C : Cx p s m args meth c cX12_valueNow 4 (some .int) RX12 g A X) (hf : s_X12_valueNow_h4 N x1 x2 σ = some z) (k0 : z.1 = 0 → Bk mw p l e rm_X12_valueNow s m args below meth c 4 g A Q 0 0 4 [(0, .ref (g.2.2 0)), (1, .int z.2.1), (2, .int z.2.2.1)] [] z.2.2.2) (k : ¬ z.1 = 0 → Bk mw p l e rm_X12_valueNow s m args below meth c 4 g A Q 0 0 123 [(0, .ref (g.2.2 0))] [] z.2.2.2) : Bk mw p l e rm_X12_valueNow s m args below meth c 4 g A Q 0 0 4 [(0, .ref (g.2.2 0)), (1, .int x1), (2, .int x2)] [] σ := by
  obtain ⟨hx, hb, hr, hml, hown, hts, hK, hlocks, hXX, hA, hXo⟩ := id C
  intro H locs ls hP hD hS hl
  unfold s_X12_valueNow_h4 at hf
  refine lv_iload_n hx hb dX12_valueNow_4 rfl (lv_at hl 2 rfl) ?_
  refine lv_aload_n hx hb dX12_valueNow_5 rfl (lv_at hl 0 rfl) ?_
  refine bk_get (wf := mw) (q0 := 0) (ci := 11) (k := 3) (v := .ref (g.2.2 3)) C hP wl_X12 rfl rfl (by decide) wa_157 rfl rfl dX12_valueNow_6 ?_
  refine lv_iconst (v := (4 : Int32)) hx hb dX12_valueNow_9 (by decide) ?_
  refine bk_iald (wf := mw) (q0 := 3) (n := 10) (j := 4) C hP rfl (vin_l (by decide) (by decide)) (by decide) dX12_valueNow_10 ?_
  refine lv_icmp_ge (tgt := 123) hx hb dX12_valueNow_11 (by decide) (fun t11 => ?_) (fun t11 => ?_)
  · have hf := (if_pos t11).symm.trans hf
    cases hf
    exact (k (show ¬ (1 : Nat) = 0 by decide)) H locs ls hP hD hS (lv_sub hl [0] rfl)
  · have hf := (if_neg t11).symm.trans hf
    refine lv_aload_n hx hb dX12_valueNow_14 rfl (lv_at hl 0 rfl) ?_
    refine bk_get (wf := mw) (q0 := 0) (ci := 11) (k := 10) (v := .ref (g.2.2 10)) C hP wl_X12 rfl rfl (by decide) wa_164 rfl rfl dX12_valueNow_15 ?_
    refine lv_iload_n hx hb dX12_valueNow_18 rfl (lv_at hl 2 rfl) ?_
    obtain ⟨g7, hf⟩ := gd_s hf
    refine bk_iald (wf := mw) (q0 := 10) (n := 1400) (j := x2.toNatClampNeg) C hP rfl g7 rfl dX12_valueNow_19 ?_
    obtain ⟨v8, ev8, hf⟩ := bd_s hf
    rw [← ev8]
    refine lv_istore_n (lv' := [(3, .int v8), (0, .ref (g.2.2 0)), (1, .int x1), (2, .int x2)]) hx hb dX12_valueNow_20 rfl hl (by decide) rfl (fun ls hl => ?_)
    refine lv_iload_n hx hb dX12_valueNow_21 rfl (lv_at hl 0 rfl) ?_
    refine lv_bipush (v := (-20 : Int32)) hx hb dX12_valueNow_22 (by decide) ?_
    refine lv_icmp_le (tgt := 55) hx hb dX12_valueNow_24 (by decide) (fun t24 => ?_) (fun t24 => ?_)
    · have hf := (if_pos t24).symm.trans hf
      refine lv_iload_n hx hb dX12_valueNow_55 rfl (lv_at hl 0 rfl) ?_
      refine lv_bipush (v := (-28 : Int32)) hx hb dX12_valueNow_56 (by decide) ?_
      refine lv_icmp_ne (tgt := 88) hx hb dX12_valueNow_58 (by decide) (fun t58 => ?_) (fun t58 => ?_)
      · have hf := (if_neg t58).symm.trans hf
        obtain ⟨v9, ev9, hf⟩ := bd_s hf
        refine lv_iinc (v := v9) (lv' := [(1, .int v9), (3, .int v8), (0, .ref (g.2.2 0)), (2, .int x2)]) hx hb dX12_valueNow_88 hl (k := 2) rfl (by rw [ev9]; rfl) (by decide) rfl (fun ls hl => ?_)
        refine lv_aload_n hx hb dX12_valueNow_91 rfl (lv_at hl 2 rfl) ?_
        refine bk_get (wf := mw) (q0 := 0) (ci := 11) (k := 34) (v := .ref (g.2.2 19)) C hP wl_X12 rfl rfl (by decide) wa_175 rfl rfl dX12_valueNow_92 ?_
        refine lv_iload_n hx hb dX12_valueNow_95 rfl (lv_at hl 0 rfl) ?_
        refine lv_iconst (v := (1 : Int32)) hx hb dX12_valueNow_96 (by decide) ?_
        refine lv_isub hx hb dX12_valueNow_97 ?_
        refine lv_iload_n hx hb dX12_valueNow_98 rfl (lv_at hl 1 rfl) ?_
        refine lv_aload_n hx hb dX12_valueNow_99 rfl (lv_at hl 2 rfl) ?_
        refine bk_get (wf := mw) (q0 := 0) (ci := 11) (k := 34) (v := .ref (g.2.2 19)) C hP wl_X12 rfl rfl (by decide) wa_175 rfl rfl dX12_valueNow_100 ?_
        refine lv_iload_n hx hb dX12_valueNow_103 rfl (lv_at hl 0 rfl) ?_
        refine lv_iconst (v := (1 : Int32)) hx hb dX12_valueNow_104 (by decide) ?_
        refine lv_isub hx hb dX12_valueNow_105 ?_
        obtain ⟨g10, hf⟩ := gd_s hf
        refine bk_iald (wf := mw) (q0 := 19) (n := 64) (j := (v9 - (1 : Int32)).toNatClampNeg) C hP rfl g10 rfl dX12_valueNow_106 ?_
        refine lv_aload_n hx hb dX12_valueNow_107 rfl (lv_at hl 2 rfl) ?_
        refine bk_get (wf := mw) (q0 := 0) (ci := 11) (k := 34) (v := .ref (g.2.2 19)) C hP wl_X12 rfl rfl (by decide) wa_175 rfl rfl dX12_valueNow_108 ?_
        refine lv_iload_n hx hb dX12_valueNow_111 rfl (lv_at hl 0 rfl) ?_
        obtain ⟨g11, hf⟩ := gd_s hf
        refine bk_iald (wf := mw) (q0 := 19) (n := 64) (j := v9.toNatClampNeg) C hP rfl g11 rfl dX12_valueNow_112 ?_
        obtain ⟨q12, hq12, hf⟩ := bi_s hf
        refine bk_SI (wf := mw) (rest := [.int (v9 - (1 : Int32)), .ref (g.2.2 19)]) [.int v8, .int (σ 19 (v9 - (1 : Int32)).toNatClampNeg), .int (σ 19 v9.toNatClampNeg)] C hP hD hS hl.1 (c_X12_reckon hXo hq12) (cwA_S 3 hts wa_915 wa_913 wa_914 wa_5 rfl rfl nd_X12_reckon ⟨Nat.le_of_ble_eq_true rfl, Nat.le_of_ble_eq_true rfl⟩) rfl rfl (Nat.le_of_ble_eq_true rfl) dX12_valueNow_113 ⟨Nat.le_of_ble_eq_true rfl, Nat.le_of_ble_eq_true rfl⟩ (fun H locs hP hD hS => ?_)
        obtain ⟨g13, hf⟩ := gd_s hf
        obtain ⟨σ14, eσ14, hf⟩ := bd_s hf
        refine bk_iast (wf := mw) (σ1 := σ14) (q0 := 19) (n := 64) (j := (v9 - (1 : Int32)).toNatClampNeg) C hP hD hS rfl g13 rfl (by rw [eσ14]; exact mw_a19 g _ _ _) dX12_valueNow_116 (fun H locs hP hD hS => ?_)
        exact b_X12_valueNow_b117 C hf k0 k H locs ls hP hD hS (lv_sub hl [2, 0, 3] rfl)
      · have hf := (if_pos t58).symm.trans hf
        refine lv_aload_n hx hb dX12_valueNow_61 rfl (lv_at hl 1 rfl) ?_
        refine bk_get (wf := mw) (q0 := 0) (ci := 11) (k := 34) (v := .ref (g.2.2 19)) C hP wl_X12 rfl rfl (by decide) wa_175 rfl rfl dX12_valueNow_62 ?_
        refine lv_iload_n hx hb dX12_valueNow_65 rfl (lv_at hl 2 rfl) ?_
        refine lv_iconst (v := (1 : Int32)) hx hb dX12_valueNow_66 (by decide) ?_
        refine lv_isub hx hb dX12_valueNow_67 ?_
        refine lv_aload_n hx hb dX12_valueNow_68 rfl (lv_at hl 1 rfl) ?_
        refine bk_get (wf := mw) (q0 := 0) (ci := 11) (k := 34) (v := .ref (g.2.2 19)) C hP wl_X12 rfl rfl (by decide) wa_175 rfl rfl dX12_valueNow_69 ?_
        refine lv_iload_n hx hb dX12_valueNow_72 rfl (lv_at hl 2 rfl) ?_
        refine lv_iconst (v := (1 : Int32)) hx hb dX12_valueNow_73 (by decide) ?_
        refine lv_isub hx hb dX12_valueNow_74 ?_
        obtain ⟨g15, hf⟩ := gd_s hf
        refine bk_iald (wf := mw) (q0 := 19) (n := 64) (j := (x1 - (1 : Int32)).toNatClampNeg) C hP rfl g15 rfl dX12_valueNow_75 ?_
        refine lv_if_eq (tgt := 83) hx hb dX12_valueNow_76 (by decide) (fun t76 => ?_) (fun t76 => ?_)
        · have hf := (if_pos t76).symm.trans hf
          refine lv_iconst (v := (1 : Int32)) hx hb dX12_valueNow_83 (by decide) ?_
          exact b_X12_valueNow_b84 C hf k0 k H locs ls hP hD hS (lv_sub hl [1, 2, 3] rfl)
        · have hf := (if_neg t76).symm.trans hf
          refine lv_iconst (v := (0 : Int32)) hx hb dX12_valueNow_79 (by decide) ?_
          refine lv_goto (tgt := 84) hx hb dX12_valueNow_80 (by decide) ?_
          exact b_X12_valueNow_b84 C hf k0 k H locs ls hP hD hS (lv_sub hl [1, 2, 3] rfl)
    · have hf := (if_neg t24).symm.trans hf
      refine lv_aload_n hx hb dX12_valueNow_27 rfl (lv_at hl 1 rfl) ?_
      refine bk_get (wf := mw) (q0 := 0) (ci := 11) (k := 34) (v := .ref (g.2.2 19)) C hP wl_X12 rfl rfl (by decide) wa_175 rfl rfl dX12_valueNow_28 ?_
      refine lv_iload_n hx hb dX12_valueNow_31 rfl (lv_at hl 2 rfl) ?_
      refine lv_iload_n hx hb dX12_valueNow_32 rfl (lv_at hl 0 rfl) ?_
      refine lv_if_lt (tgt := 40) hx hb dX12_valueNow_33 (by decide) (fun t33 => ?_) (fun t33 => ?_)
      · have hf := (if_pos t33).symm.trans hf
        refine lv_aload_n hx hb dX12_valueNow_40 rfl (lv_at hl 1 rfl) ?_
        refine bk_get (wf := mw) (q0 := 0) (ci := 11) (k := 33) (v := .ref (g.2.2 18)) C hP wl_X12 rfl rfl (by decide) wa_174 rfl rfl dX12_valueNow_41 ?_
        refine lv_iconst (v := (-1 : Int32)) hx hb dX12_valueNow_44 (by decide) ?_
        refine lv_iload_n hx hb dX12_valueNow_45 rfl (lv_at hl 0 rfl) ?_
        refine lv_isub hx hb dX12_valueNow_46 ?_
        obtain ⟨g16, hf⟩ := gd_s hf
        refine bk_iald (wf := mw) (q0 := 18) (n := 6) (j := ((-1 : Int32) - v8).toNatClampNeg) C hP rfl g16 rfl dX12_valueNow_47 ?_
        exact b_X12_valueNow_b48 C hf k0 k H locs ls hP hD hS (lv_sub hl [1, 2, 3] rfl)
      · have hf := (if_neg t33).symm.trans hf
        refine lv_iload_n hx hb dX12_valueNow_36 rfl (lv_at hl 0 rfl) ?_
        refine lv_goto (tgt := 48) hx hb dX12_valueNow_37 (by decide) ?_
        exact b_X12_valueNow_b48 C hf k0 k H locs ls hP hD hS (lv_sub hl [1, 2, 3] rfl)
theorem lp_X12_valueNow_h4 {N : Nat} {n : Nat} {x1 : Int32} {x2 : Int32} {σ : Sg} {z : Nat × Int32 × Int32 × Sg} (C : Cx p s m args meth c cX12_valueNow 4 (some .int) RX12 g A X) (hz : it (fun q => s_X12_valueNow_h4 N q.1 q.2.1 q.2.2) n (x1, x2, σ) = some z) (k : Bk mw p l e rm_X12_valueNow s m args below meth c 4 g A Q 0 0 123 [(0, .ref (g.2.2 0))] [] z.2.2.2) : Bk mw p l e rm_X12_valueNow s m args below meth c 4 g A Q 0 0 4 [(0, .ref (g.2.2 0)), (1, .int x1), (2, .int x2)] [] σ :=
  it_W (S := Int32 × Int32 × Sg) (fun q => Bk mw p l e rm_X12_valueNow s m args below meth c 4 g A Q 0 0 4 [(0, .ref (g.2.2 0)), (1, .int q.1), (2, .int q.2.1)] [] q.2.2) (fun z => Bk mw p l e rm_X12_valueNow s m args below meth c 4 g A Q 0 0 123 [(0, .ref (g.2.2 0))] [] z.2.2.2) (fun q z hq k0 k => e_X12_valueNow_h4 C hq k0 k) n (x1, x2, σ) z hz k
def f_X12_valueNow (N : Nat) (σ : Sg) : Option (Int32 × Sg) :=
(it (fun q => s_X12_valueNow_h4 N q.1 q.2.1 q.2.2) N ((0 : Int32), (0 : Int32), σ)).bind fun z17 =>
some (((z17.2.2.2) 19 0), (z17.2.2.2))
set_option maxHeartbeats 4000000 in
set_option maxRecDepth 100000 in
theorem b_X12_valueNow {N : Nat} {σ : Sg} {z : Int32 × Sg} (C : Cx p s m args meth c cX12_valueNow 4 (some .int) RX12 g A X) (hf : f_X12_valueNow N σ = some z) : Bk mw p l e rm_X12_valueNow s m args below meth c 4 g A (MQ below (qI mw g A z.1 z.2) args s 0 0 A) 0 0 0 [(0, .ref (g.2.2 0))] [] σ := by
  obtain ⟨hx, hb, hr, hml, hown, hts, hK, hlocks, hXX, hA, hXo⟩ := id C
  intro H locs ls hP hD hS hl
  unfold f_X12_valueNow at hf
  refine lv_iconst (v := (0 : Int32)) hx hb dX12_valueNow_0 (by decide) ?_
  refine lv_istore_n (lv' := [(1, .int (0 : Int32)), (0, .ref (g.2.2 0))]) hx hb dX12_valueNow_1 rfl hl (by decide) rfl (fun ls hl => ?_)
  refine lv_iconst (v := (0 : Int32)) hx hb dX12_valueNow_2 (by decide) ?_
  refine lv_istore_n (lv' := [(2, .int (0 : Int32)), (1, .int (0 : Int32)), (0, .ref (g.2.2 0))]) hx hb dX12_valueNow_3 rfl hl (by decide) rfl (fun ls hl => ?_)
  obtain ⟨z17, hz17, hf⟩ := bi_s hf
  refine lp_X12_valueNow_h4 C hz17 ?_ H locs ls hP hD hS (lv_sub hl [2, 1, 0] rfl)
  intro H locs ls hP hD hS hl
  refine lv_aload_n hx hb dX12_valueNow_123 rfl (lv_at hl 0 rfl) ?_
  refine bk_get (wf := mw) (q0 := 0) (ci := 11) (k := 34) (v := .ref (g.2.2 19)) C hP wl_X12 rfl rfl (by decide) wa_175 rfl rfl dX12_valueNow_124 ?_
  refine lv_iconst (v := (0 : Int32)) hx hb dX12_valueNow_127 (by decide) ?_
  refine bk_iald (wf := mw) (q0 := 19) (n := 64) (j := 0) C hP rfl (vin_l (by decide) (by decide)) (by decide) dX12_valueNow_128 ?_
  cases hf
  exact bk_iret C hP hD hS rfl dX12_valueNow_129
theorem c_X12_valueNow {N : Nat} {σ : Sg} {z : Int32 × Sg} (hX : xOK g X) (hf : f_X12_valueNow N σ = some z) : MetI l yX12_valueNow (Cond.code yX12_valueNow cX12_valueNow 4 (some .int) :: wsA) rm_X12_valueNow mw g X [.ref (g.2.2 0)] σ z.1 z.2 :=
  MetI_of hX (by decide) (Nat.le_of_ble_eq_true rfl) (fun p e s m args below meth c A C => b_X12_valueNow C hf)
-- X12_minds: minds(II)Z
abbrev rm_X12_minds : Room := { frames := 2, cells := 0, slots := 0, locals := 45 }
theorem nd_X12_minds : yX12_minds.cls ≠ "java/lang/invoke/MethodHandle" ∧ yX12_minds.cls ≠ "java/lang/invoke/VarHandle" ∧ (parseMethodDescriptor yX12_minds.desc).map (fun d => d.parameters.length) = some 2 := by decide +kernel
def f_X12_minds_b90 (N : Nat) (x1 : Int32) (x2 : Int32) (x3 : Int32) (x4 : Int32) (σ : Sg) : Option (Nat × Int32 × Int32 × Sg) :=
bd (x4 + (1 : Int32)) fun v1 =>
some (0, x3, v1, σ)
set_option maxHeartbeats 4000000 in
set_option maxRecDepth 100000 in
theorem b_X12_minds_b90 {N : Nat} {x1 : Int32} {x2 : Int32} {x3 : Int32} {x4 : Int32} {σ : Sg} {z : Nat × Int32 × Int32 × Sg} (C : Cx p s m args meth c cX12_minds 5 (some .boolean) RX12 g A X) (hf : f_X12_minds_b90 N x1 x2 x3 x4 σ = some z) (k0 : z.1 = 0 → Bk mw p l e rm_X12_minds s m args below meth c 5 g A Q 0 0 26 [(0, .ref (g.2.2 0)), (1, .int x1), (2, .int x2), (3, .int z.2.1), (4, .int z.2.2.1)] [] z.2.2.2) (k : ¬ z.1 = 0 → Bk mw p l e rm_X12_minds s m args below meth c 5 g A Q 0 0 96 [(0, .ref (g.2.2 0)), (1, .int x1), (2, .int x2), (3, .int z.2.1)] [] z.2.2.2) : Bk mw p l e rm_X12_minds s m args below meth c 5 g A Q 0 0 90 [(0, .ref (g.2.2 0)), (1, .int x1), (2, .int x2), (3, .int x3), (4, .int x4)] [] σ := by
  obtain ⟨hx, hb, hr, hml, hown, hts, hK, hlocks, hXX, hA, hXo⟩ := id C
  intro H locs ls hP hD hS hl
  unfold f_X12_minds_b90 at hf
  obtain ⟨v1, ev1, hf⟩ := bd_s hf
  refine lv_iinc (v := v1) (lv' := [(4, .int v1), (0, .ref (g.2.2 0)), (1, .int x1), (2, .int x2), (3, .int x3)]) hx hb dX12_minds_90 hl (k := 4) rfl (by rw [ev1]; rfl) (by decide) rfl (fun ls hl => ?_)
  refine lv_goto (tgt := 26) hx hb dX12_minds_93 (by decide) ?_
  cases hf
  exact k0 rfl H locs ls hP hD hS (lv_sub hl [1, 2, 3, 4, 0] rfl)
def f_X12_minds_b87 (N : Nat) (x1 : Int32) (x2 : Int32) (x4 : Int32) (σ : Sg) : Option (Nat × Int32 × Int32 × Sg) :=
f_X12_minds_b90 N x1 x2 x4 x4 σ
set_option maxHeartbeats 4000000 in
set_option maxRecDepth 100000 in
theorem b_X12_minds_b87 {N : Nat} {x1 : Int32} {x2 : Int32} {x4 : Int32} {σ : Sg} {z : Nat × Int32 × Int32 × Sg} (C : Cx p s m args meth c cX12_minds 5 (some .boolean) RX12 g A X) (hf : f_X12_minds_b87 N x1 x2 x4 σ = some z) (k0 : z.1 = 0 → Bk mw p l e rm_X12_minds s m args below meth c 5 g A Q 0 0 26 [(0, .ref (g.2.2 0)), (1, .int x1), (2, .int x2), (3, .int z.2.1), (4, .int z.2.2.1)] [] z.2.2.2) (k : ¬ z.1 = 0 → Bk mw p l e rm_X12_minds s m args below meth c 5 g A Q 0 0 96 [(0, .ref (g.2.2 0)), (1, .int x1), (2, .int x2), (3, .int z.2.1)] [] z.2.2.2) : Bk mw p l e rm_X12_minds s m args below meth c 5 g A Q 0 0 87 [(0, .ref (g.2.2 0)), (1, .int x1), (2, .int x2), (4, .int x4)] [] σ := by
  obtain ⟨hx, hb, hr, hml, hown, hts, hK, hlocks, hXX, hA, hXo⟩ := id C
  intro H locs ls hP hD hS hl
  unfold f_X12_minds_b87 at hf
  refine lv_iload hx hb dX12_minds_87 (lv_at hl 3 rfl) ?_
  refine lv_istore_n (lv' := [(3, .int x4), (0, .ref (g.2.2 0)), (1, .int x1), (2, .int x2), (4, .int x4)]) hx hb dX12_minds_89 rfl hl (by decide) rfl (fun ls hl => ?_)
  exact b_X12_minds_b90 C hf k0 k H locs ls hP hD hS (lv_sub hl [1, 2, 3, 0, 4] rfl)
def s_X12_minds_h26 (N : Nat) (x1 : Int32) (x2 : Int32) (x3 : Int32) (x4 : Int32) (σ : Sg) : Option (Nat × Int32 × Int32 × Sg) :=
if (σ 3 0) ≤ x4 then (some (1, x3, 0, σ))
else ((f_X12_isOf N x2 x4 σ).bind fun q2 =>
if q2.1 = 0 then (f_X12_minds_b90 N x1 x2 x3 x4 (q2.2))
else (if x3 = (-1 : Int32) then (f_X12_minds_b87 N x1 x2 x4 (q2.2))
else (if (x4 < 0 ∨ 18 ≤ x4.toNatClampNeg) then none else
if (x1 < 0 ∨ 18 ≤ x1.toNatClampNeg) then none else
if (x3 < 0 ∨ 18 ≤ x3.toNatClampNeg) then none else
if (x1 < 0 ∨ 18 ≤ x1.toNatClampNeg) then none else
if (if 0 ≤ (((q2.2) 5 x3.toNatClampNeg) - ((q2.2) 5 x1.toNatClampNeg)) then (((q2.2) 5 x3.toNatClampNeg) - ((q2.2) 5 x1.toNatClampNeg)) else 0 - (((q2.2) 5 x3.toNatClampNeg) - ((q2.2) 5 x1.toNatClampNeg))) ≤ (if 0 ≤ (((q2.2) 5 x4.toNatClampNeg) - ((q2.2) 5 x1.toNatClampNeg)) then (((q2.2) 5 x4.toNatClampNeg) - ((q2.2) 5 x1.toNatClampNeg)) else 0 - (((q2.2) 5 x4.toNatClampNeg) - ((q2.2) 5 x1.toNatClampNeg))) then (f_X12_minds_b90 N x1 x2 x3 x4 (q2.2))
else (f_X12_minds_b87 N x1 x2 x4 (q2.2)))))
set_option maxHeartbeats 4000000 in
set_option maxRecDepth 100000 in
theorem e_X12_minds_h26 {N : Nat} {x1 : Int32} {x2 : Int32} {x3 : Int32} {x4 : Int32} {σ : Sg} {z : Nat × Int32 × Int32 × Sg} (C : Cx p s m args meth c cX12_minds 5 (some .boolean) RX12 g A X) (hf : s_X12_minds_h26 N x1 x2 x3 x4 σ = some z) (k0 : z.1 = 0 → Bk mw p l e rm_X12_minds s m args below meth c 5 g A Q 0 0 26 [(0, .ref (g.2.2 0)), (1, .int x1), (2, .int x2), (3, .int z.2.1), (4, .int z.2.2.1)] [] z.2.2.2) (k : ¬ z.1 = 0 → Bk mw p l e rm_X12_minds s m args below meth c 5 g A Q 0 0 96 [(0, .ref (g.2.2 0)), (1, .int x1), (2, .int x2), (3, .int z.2.1)] [] z.2.2.2) : Bk mw p l e rm_X12_minds s m args below meth c 5 g A Q 0 0 26 [(0, .ref (g.2.2 0)), (1, .int x1), (2, .int x2), (3, .int x3), (4, .int x4)] [] σ := by
  obtain ⟨hx, hb, hr, hml, hown, hts, hK, hlocks, hXX, hA, hXo⟩ := id C
  intro H locs ls hP hD hS hl
  unfold s_X12_minds_h26 at hf
  refine lv_iload hx hb dX12_minds_26 (lv_at hl 4 rfl) ?_
  refine lv_aload_n hx hb dX12_minds_28 rfl (lv_at hl 0 rfl) ?_
  refine bk_get (wf := mw) (q0 := 0) (ci := 11) (k := 3) (v := .ref (g.2.2 3)) C hP wl_X12 rfl rfl (by decide) wa_157 rfl rfl dX12_minds_29 ?_
  refine lv_iconst (v := (0 : Int32)) hx hb dX12_minds_32 (by decide) ?_
  refine bk_iald (wf := mw) (q0 := 3) (n := 10) (j := 0) C hP rfl (vin_l (by decide) (by decide)) (by decide) dX12_minds_33 ?_
  refine lv_icmp_ge (tgt := 96) hx hb dX12_minds_34 (by decide) (fun t34 => ?_) (fun t34 => ?_)
  · have hf := (if_pos t34).symm.trans hf
    cases hf
    exact (k (show ¬ (1 : Nat) = 0 by decide)) H locs ls hP hD hS (lv_sub hl [0, 1, 2, 3] rfl)
  · have hf := (if_neg t34).symm.trans hf
    refine lv_iload_n hx hb dX12_minds_37 rfl (lv_at hl 2 rfl) ?_
    refine lv_iload hx hb dX12_minds_38 (lv_at hl 4 rfl) ?_
    obtain ⟨q2, hq2, hf⟩ := bi_s hf
    refine bk_SI (wf := mw) (rest := []) [.int x2, .int x4] C hP hD hS hl.1 (c_X12_isOf hXo hq2) (cwA_S 2 hts wa_726 wa_724 wa_725 wa_5 rfl rfl nd_X12_isOf ⟨Nat.le_of_ble_eq_true rfl, Nat.le_of_ble_eq_true rfl⟩) rfl rfl (Nat.le_of_ble_eq_true rfl) dX12_minds_40 ⟨Nat.le_of_ble_eq_true rfl, Nat.le_of_ble_eq_true rfl⟩ (fun H locs hP hD hS => ?_)
    refine lv_if_eq (tgt := 90) hx hb dX12_minds_43 (by decide) (fun t43 => ?_) (fun t43 => ?_)
    · have hf := (if_pos t43).symm.trans hf
      exact b_X12_minds_b90 C hf k0 k H locs ls hP hD hS (lv_sub hl [0, 1, 2, 3, 4] rfl)
    · have hf := (if_neg t43).symm.trans hf
      refine lv_iload_n hx hb dX12_minds_46 rfl (lv_at hl 3 rfl) ?_
      refine lv_iconst (v := (-1 : Int32)) hx hb dX12_minds_47 (by decide) ?_
      refine lv_icmp_eq (tgt := 87) hx hb dX12_minds_48 (by decide) (fun t48 => ?_) (fun t48 => ?_)
      · have hf := (if_pos t48).symm.trans hf
        exact b_X12_minds_b87 C hf k0 k H locs ls hP hD hS (lv_sub hl [0, 1, 2, 4] rfl)
      · have hf := (if_neg t48).symm.trans hf
        refine lv_aload_n hx hb dX12_minds_51 rfl (lv_at hl 0 rfl) ?_
        refine bk_get (wf := mw) (q0 := 0) (ci := 11) (k := 5) (v := .ref (g.2.2 5)) C hP wl_X12 rfl rfl (by decide) wa_159 rfl rfl dX12_minds_52 ?_
        refine lv_iload hx hb dX12_minds_55 (lv_at hl 4 rfl) ?_
        obtain ⟨g3, hf⟩ := gd_s hf
        refine bk_iald (wf := mw) (q0 := 5) (n := 18) (j := x4.toNatClampNeg) C hP rfl g3 rfl dX12_minds_57 ?_
        refine lv_aload_n hx hb dX12_minds_58 rfl (lv_at hl 0 rfl) ?_
        refine bk_get (wf := mw) (q0 := 0) (ci := 11) (k := 5) (v := .ref (g.2.2 5)) C hP wl_X12 rfl rfl (by decide) wa_159 rfl rfl dX12_minds_59 ?_
        refine lv_iload_n hx hb dX12_minds_62 rfl (lv_at hl 1 rfl) ?_
        obtain ⟨g4, hf⟩ := gd_s hf
        refine bk_iald (wf := mw) (q0 := 5) (n := 18) (j := x1.toNatClampNeg) C hP rfl g4 rfl dX12_minds_63 ?_
        refine lv_isub hx hb dX12_minds_64 ?_
        refine va_mabs hx hb (hml.trans hl.1.symm) hown (hts _ wa_739) (hts _ wa_498) (hts _ wa_231) (hts _ wa_499) (Nat.le_of_ble_eq_true rfl) (Nat.le_of_ble_eq_true rfl) (Nat.le_of_ble_eq_true rfl) (Nat.le_of_ble_eq_true rfl) dX12_minds_65 ?_
        refine lv_aload_n hx hb dX12_minds_68 rfl (lv_at hl 0 rfl) ?_
        refine bk_get (wf := mw) (q0 := 0) (ci := 11) (k := 5) (v := .ref (g.2.2 5)) C hP wl_X12 rfl rfl (by decide) wa_159 rfl rfl dX12_minds_69 ?_
        refine lv_iload_n hx hb dX12_minds_72 rfl (lv_at hl 3 rfl) ?_
        obtain ⟨g5, hf⟩ := gd_s hf
        refine bk_iald (wf := mw) (q0 := 5) (n := 18) (j := x3.toNatClampNeg) C hP rfl g5 rfl dX12_minds_73 ?_
        refine lv_aload_n hx hb dX12_minds_74 rfl (lv_at hl 0 rfl) ?_
        refine bk_get (wf := mw) (q0 := 0) (ci := 11) (k := 5) (v := .ref (g.2.2 5)) C hP wl_X12 rfl rfl (by decide) wa_159 rfl rfl dX12_minds_75 ?_
        refine lv_iload_n hx hb dX12_minds_78 rfl (lv_at hl 1 rfl) ?_
        obtain ⟨g6, hf⟩ := gd_s hf
        refine bk_iald (wf := mw) (q0 := 5) (n := 18) (j := x1.toNatClampNeg) C hP rfl g6 rfl dX12_minds_79 ?_
        refine lv_isub hx hb dX12_minds_80 ?_
        refine va_mabs hx hb (hml.trans hl.1.symm) hown (hts _ wa_739) (hts _ wa_498) (hts _ wa_231) (hts _ wa_499) (Nat.le_of_ble_eq_true rfl) (Nat.le_of_ble_eq_true rfl) (Nat.le_of_ble_eq_true rfl) (Nat.le_of_ble_eq_true rfl) dX12_minds_81 ?_
        refine lv_icmp_ge (tgt := 90) hx hb dX12_minds_84 (by decide) (fun t84 => ?_) (fun t84 => ?_)
        · have hf := (if_pos t84).symm.trans hf
          exact b_X12_minds_b90 C hf k0 k H locs ls hP hD hS (lv_sub hl [0, 1, 2, 3, 4] rfl)
        · have hf := (if_neg t84).symm.trans hf
          exact b_X12_minds_b87 C hf k0 k H locs ls hP hD hS (lv_sub hl [0, 1, 2, 4] rfl)
theorem lp_X12_minds_h26 {N : Nat} {n : Nat} {x1 : Int32} {x2 : Int32} {x3 : Int32} {x4 : Int32} {σ : Sg} {z : Nat × Int32 × Int32 × Sg} (C : Cx p s m args meth c cX12_minds 5 (some .boolean) RX12 g A X) (hz : it (fun q => s_X12_minds_h26 N x1 x2 q.1 q.2.1 q.2.2) n (x3, x4, σ) = some z) (k : Bk mw p l e rm_X12_minds s m args below meth c 5 g A Q 0 0 96 [(0, .ref (g.2.2 0)), (1, .int x1), (2, .int x2), (3, .int z.2.1)] [] z.2.2.2) : Bk mw p l e rm_X12_minds s m args below meth c 5 g A Q 0 0 26 [(0, .ref (g.2.2 0)), (1, .int x1), (2, .int x2), (3, .int x3), (4, .int x4)] [] σ :=
  it_W (S := Int32 × Int32 × Sg) (fun q => Bk mw p l e rm_X12_minds s m args below meth c 5 g A Q 0 0 26 [(0, .ref (g.2.2 0)), (1, .int x1), (2, .int x2), (3, .int q.1), (4, .int q.2.1)] [] q.2.2) (fun z => Bk mw p l e rm_X12_minds s m args below meth c 5 g A Q 0 0 96 [(0, .ref (g.2.2 0)), (1, .int x1), (2, .int x2), (3, .int z.2.1)] [] z.2.2.2) (fun q z hq k0 k => e_X12_minds_h26 C hq k0 k) n (x3, x4, σ) z hz k
def f_X12_minds_b19 (N : Nat) (σ : Sg) : Option (Int32 × Sg) :=
some ((1 : Int32), σ)
set_option maxHeartbeats 4000000 in
set_option maxRecDepth 100000 in
theorem b_X12_minds_b19 {N : Nat} {σ : Sg} {z : Int32 × Sg} (C : Cx p s m args meth c cX12_minds 5 (some .boolean) RX12 g A X) (hf : f_X12_minds_b19 N σ = some z) : Bk mw p l e rm_X12_minds s m args below meth c 5 g A (MQ below (qI mw g A z.1 z.2) args s 0 0 A) 0 0 19 [] [] σ := by
  obtain ⟨hx, hb, hr, hml, hown, hts, hK, hlocks, hXX, hA, hXo⟩ := id C
  intro H locs ls hP hD hS hl
  unfold f_X12_minds_b19 at hf
  refine lv_iconst (v := (1 : Int32)) hx hb dX12_minds_19 (by decide) ?_
  cases hf
  exact bk_zret C hP hD hS (by decide) rfl dX12_minds_20
def f_X12_minds (N : Nat) (x1 : Int32) (x2 : Int32) (σ : Sg) : Option (Int32 × Sg) :=
if (σ 3 4) = 0 then (f_X12_minds_b19 N σ)
else (if (x1 < 0 ∨ 18 ≤ x1.toNatClampNeg) then none else
if (σ 4 x1.toNatClampNeg) = (1 : Int32) then (f_X12_minds_b19 N σ)
else ((it (fun q => s_X12_minds_h26 N x1 x2 q.1 q.2.1 q.2.2) N ((-1 : Int32), (0 : Int32), σ)).bind fun z8 =>
(f_X12_bitsOf N x2 (z8.2.2.2)).bind fun q9 =>
bd (wr (q9.2) 18 0 q9.1) fun σ10 =>
if ((z8.2.1) < 0 ∨ 18 ≤ (z8.2.1).toNatClampNeg) then none else
if (x1 < 0 ∨ 18 ≤ x1.toNatClampNeg) then none else
bd (wr σ10 18 1 (if 0 ≤ ((σ10 5 (z8.2.1).toNatClampNeg) - (σ10 5 x1.toNatClampNeg)) then ((σ10 5 (z8.2.1).toNatClampNeg) - (σ10 5 x1.toNatClampNeg)) else 0 - ((σ10 5 (z8.2.1).toNatClampNeg) - (σ10 5 x1.toNatClampNeg)))) fun σ13 =>
if ((z8.2.1) < 0 ∨ 18 ≤ (z8.2.1).toNatClampNeg) then none else
if (x1 < 0 ∨ 18 ≤ x1.toNatClampNeg) then none else
bd (wr σ13 18 2 ((σ13 6 (z8.2.1).toNatClampNeg) - (σ13 6 x1.toNatClampNeg))) fun σ16 =>
if (x1 < 0 ∨ 9 ≤ x1.toNatClampNeg) then none else
bd (wr σ16 18 3 (σ16 15 x1.toNatClampNeg)) fun σ18 =>
(f_X12_mistOf N σ18).bind fun q19 =>
bd (wr (q19.2) 18 4 q19.1) fun σ20 =>
bd (wr σ20 18 5 (σ20 0 28)) fun σ21 =>
(f_X12_valueNow N σ21).bind fun q22 =>
if q22.1 ≤ 0 then (some ((0 : Int32), (q22.2)))
else (some ((1 : Int32), (q22.2)))))
set_option maxHeartbeats 4000000 in
set_option maxRecDepth 100000 in
theorem b_X12_minds {N : Nat} {x1 : Int32} {x2 : Int32} {σ : Sg} {z : Int32 × Sg} (C : Cx p s m args meth c cX12_minds 5 (some .boolean) RX12 g A X) (hf : f_X12_minds N x1 x2 σ = some z) : Bk mw p l e rm_X12_minds s m args below meth c 5 g A (MQ below (qI mw g A z.1 z.2) args s 0 0 A) 0 0 0 [(0, .ref (g.2.2 0)), (1, .int x1), (2, .int x2)] [] σ := by
  obtain ⟨hx, hb, hr, hml, hown, hts, hK, hlocks, hXX, hA, hXo⟩ := id C
  intro H locs ls hP hD hS hl
  unfold f_X12_minds at hf
  refine lv_aload_n hx hb dX12_minds_0 rfl (lv_at hl 0 rfl) ?_
  refine bk_get (wf := mw) (q0 := 0) (ci := 11) (k := 3) (v := .ref (g.2.2 3)) C hP wl_X12 rfl rfl (by decide) wa_157 rfl rfl dX12_minds_1 ?_
  refine lv_iconst (v := (4 : Int32)) hx hb dX12_minds_4 (by decide) ?_
  refine bk_iald (wf := mw) (q0 := 3) (n := 10) (j := 4) C hP rfl (vin_l (by decide) (by decide)) (by decide) dX12_minds_5 ?_
  refine lv_if_eq (tgt := 19) hx hb dX12_minds_6 (by decide) (fun t6 => ?_) (fun t6 => ?_)
  · have hf := (if_pos t6).symm.trans hf
    exact b_X12_minds_b19 C hf H locs ls hP hD hS (lv_sub hl [] rfl)
  · have hf := (if_neg t6).symm.trans hf
    refine lv_aload_n hx hb dX12_minds_9 rfl (lv_at hl 0 rfl) ?_
    refine bk_get (wf := mw) (q0 := 0) (ci := 11) (k := 4) (v := .ref (g.2.2 4)) C hP wl_X12 rfl rfl (by decide) wa_158 rfl rfl dX12_minds_10 ?_
    refine lv_iload_n hx hb dX12_minds_13 rfl (lv_at hl 1 rfl) ?_
    obtain ⟨g7, hf⟩ := gd_s hf
    refine bk_iald (wf := mw) (q0 := 4) (n := 18) (j := x1.toNatClampNeg) C hP rfl g7 rfl dX12_minds_14 ?_
    refine lv_iconst (v := (1 : Int32)) hx hb dX12_minds_15 (by decide) ?_
    refine lv_icmp_ne (tgt := 21) hx hb dX12_minds_16 (by decide) (fun t16 => ?_) (fun t16 => ?_)
    · have hf := (if_neg t16).symm.trans hf
      refine lv_iconst (v := (-1 : Int32)) hx hb dX12_minds_21 (by decide) ?_
      refine lv_istore_n (lv' := [(3, .int (-1 : Int32)), (0, .ref (g.2.2 0)), (1, .int x1), (2, .int x2)]) hx hb dX12_minds_22 rfl hl (by decide) rfl (fun ls hl => ?_)
      refine lv_iconst (v := (0 : Int32)) hx hb dX12_minds_23 (by decide) ?_
      refine lv_istore (lv' := [(4, .int (0 : Int32)), (3, .int (-1 : Int32)), (0, .ref (g.2.2 0)), (1, .int x1), (2, .int x2)]) hx hb dX12_minds_24 hl (by decide) rfl (fun ls hl => ?_)
      obtain ⟨z8, hz8, hf⟩ := bi_s hf
      refine lp_X12_minds_h26 C hz8 ?_ H locs ls hP hD hS (lv_sub hl [2, 3, 4, 1, 0] rfl)
      intro H locs ls hP hD hS hl
      refine lv_aload_n hx hb dX12_minds_96 rfl (lv_at hl 0 rfl) ?_
      refine bk_get (wf := mw) (q0 := 0) (ci := 11) (k := 33) (v := .ref (g.2.2 18)) C hP wl_X12 rfl rfl (by decide) wa_174 rfl rfl dX12_minds_97 ?_
      refine lv_iconst (v := (0 : Int32)) hx hb dX12_minds_100 (by decide) ?_
      refine lv_iload_n hx hb dX12_minds_101 rfl (lv_at hl 2 rfl) ?_
      obtain ⟨q9, hq9, hf⟩ := bi_s hf
      refine bk_SI (wf := mw) (rest := [.int (0 : Int32), .ref (g.2.2 18)]) [.int x2] C hP hD hS hl.1 (c_X12_bitsOf hXo hq9) (cwA_S 1 hts wa_769 wa_767 wa_768 wa_5 rfl rfl nd_X12_bitsOf ⟨Nat.le_of_ble_eq_true rfl, Nat.le_of_ble_eq_true rfl⟩) rfl rfl (Nat.le_of_ble_eq_true rfl) dX12_minds_102 ⟨Nat.le_of_ble_eq_true rfl, Nat.le_of_ble_eq_true rfl⟩ (fun H locs hP hD hS => ?_)
      obtain ⟨σ10, eσ10, hf⟩ := bd_s hf
      refine bk_iast (wf := mw) (σ1 := σ10) (q0 := 18) (n := 6) (j := 0) C hP hD hS rfl (vin_l (by decide) (by decide)) (by decide) (by rw [eσ10]; exact mw_a18 g _ _ _) dX12_minds_105 (fun H locs hP hD hS => ?_)
      refine lv_aload_n hx hb dX12_minds_106 rfl (lv_at hl 0 rfl) ?_
      refine bk_get (wf := mw) (q0 := 0) (ci := 11) (k := 33) (v := .ref (g.2.2 18)) C hP wl_X12 rfl rfl (by decide) wa_174 rfl rfl dX12_minds_107 ?_
      refine lv_iconst (v := (1 : Int32)) hx hb dX12_minds_110 (by decide) ?_
      refine lv_aload_n hx hb dX12_minds_111 rfl (lv_at hl 0 rfl) ?_
      refine bk_get (wf := mw) (q0 := 0) (ci := 11) (k := 5) (v := .ref (g.2.2 5)) C hP wl_X12 rfl rfl (by decide) wa_159 rfl rfl dX12_minds_112 ?_
      refine lv_iload_n hx hb dX12_minds_115 rfl (lv_at hl 3 rfl) ?_
      obtain ⟨g11, hf⟩ := gd_s hf
      refine bk_iald (wf := mw) (q0 := 5) (n := 18) (j := (z8.2.1).toNatClampNeg) C hP rfl g11 rfl dX12_minds_116 ?_
      refine lv_aload_n hx hb dX12_minds_117 rfl (lv_at hl 0 rfl) ?_
      refine bk_get (wf := mw) (q0 := 0) (ci := 11) (k := 5) (v := .ref (g.2.2 5)) C hP wl_X12 rfl rfl (by decide) wa_159 rfl rfl dX12_minds_118 ?_
      refine lv_iload_n hx hb dX12_minds_121 rfl (lv_at hl 1 rfl) ?_
      obtain ⟨g12, hf⟩ := gd_s hf
      refine bk_iald (wf := mw) (q0 := 5) (n := 18) (j := x1.toNatClampNeg) C hP rfl g12 rfl dX12_minds_122 ?_
      refine lv_isub hx hb dX12_minds_123 ?_
      refine va_mabs hx hb (hml.trans hl.1.symm) hown (hts _ wa_739) (hts _ wa_498) (hts _ wa_231) (hts _ wa_499) (Nat.le_of_ble_eq_true rfl) (Nat.le_of_ble_eq_true rfl) (Nat.le_of_ble_eq_true rfl) (Nat.le_of_ble_eq_true rfl) dX12_minds_124 ?_
      obtain ⟨σ13, eσ13, hf⟩ := bd_s hf
      refine bk_iast (wf := mw) (σ1 := σ13) (q0 := 18) (n := 6) (j := 1) C hP hD hS rfl (vin_l (by decide) (by decide)) (by decide) (by rw [eσ13]; exact mw_a18 g _ _ _) dX12_minds_127 (fun H locs hP hD hS => ?_)
      refine lv_aload_n hx hb dX12_minds_128 rfl (lv_at hl 0 rfl) ?_
      refine bk_get (wf := mw) (q0 := 0) (ci := 11) (k := 33) (v := .ref (g.2.2 18)) C hP wl_X12 rfl rfl (by decide) wa_174 rfl rfl dX12_minds_129 ?_
      refine lv_iconst (v := (2 : Int32)) hx hb dX12_minds_132 (by decide) ?_
      refine lv_aload_n hx hb dX12_minds_133 rfl (lv_at hl 0 rfl) ?_
      refine bk_get (wf := mw) (q0 := 0) (ci := 11) (k := 6) (v := .ref (g.2.2 6)) C hP wl_X12 rfl rfl (by decide) wa_160 rfl rfl dX12_minds_134 ?_
      refine lv_iload_n hx hb dX12_minds_137 rfl (lv_at hl 3 rfl) ?_
      obtain ⟨g14, hf⟩ := gd_s hf
      refine bk_iald (wf := mw) (q0 := 6) (n := 18) (j := (z8.2.1).toNatClampNeg) C hP rfl g14 rfl dX12_minds_138 ?_
      refine lv_aload_n hx hb dX12_minds_139 rfl (lv_at hl 0 rfl) ?_
      refine bk_get (wf := mw) (q0 := 0) (ci := 11) (k := 6) (v := .ref (g.2.2 6)) C hP wl_X12 rfl rfl (by decide) wa_160 rfl rfl dX12_minds_140 ?_
      refine lv_iload_n hx hb dX12_minds_143 rfl (lv_at hl 1 rfl) ?_
      obtain ⟨g15, hf⟩ := gd_s hf
      refine bk_iald (wf := mw) (q0 := 6) (n := 18) (j := x1.toNatClampNeg) C hP rfl g15 rfl dX12_minds_144 ?_
      refine lv_isub hx hb dX12_minds_145 ?_
      obtain ⟨σ16, eσ16, hf⟩ := bd_s hf
      refine bk_iast (wf := mw) (σ1 := σ16) (q0 := 18) (n := 6) (j := 2) C hP hD hS rfl (vin_l (by decide) (by decide)) (by decide) (by rw [eσ16]; exact mw_a18 g _ _ _) dX12_minds_146 (fun H locs hP hD hS => ?_)
      refine lv_aload_n hx hb dX12_minds_147 rfl (lv_at hl 0 rfl) ?_
      refine bk_get (wf := mw) (q0 := 0) (ci := 11) (k := 33) (v := .ref (g.2.2 18)) C hP wl_X12 rfl rfl (by decide) wa_174 rfl rfl dX12_minds_148 ?_
      refine lv_iconst (v := (3 : Int32)) hx hb dX12_minds_151 (by decide) ?_
      refine lv_aload_n hx hb dX12_minds_152 rfl (lv_at hl 0 rfl) ?_
      refine bk_get (wf := mw) (q0 := 0) (ci := 11) (k := 25) (v := .ref (g.2.2 15)) C hP wl_X12 rfl rfl (by decide) wa_170 rfl rfl dX12_minds_153 ?_
      refine lv_iload_n hx hb dX12_minds_156 rfl (lv_at hl 1 rfl) ?_
      obtain ⟨g17, hf⟩ := gd_s hf
      refine bk_iald (wf := mw) (q0 := 15) (n := 9) (j := x1.toNatClampNeg) C hP rfl g17 rfl dX12_minds_157 ?_
      obtain ⟨σ18, eσ18, hf⟩ := bd_s hf
      refine bk_iast (wf := mw) (σ1 := σ18) (q0 := 18) (n := 6) (j := 3) C hP hD hS rfl (vin_l (by decide) (by decide)) (by decide) (by rw [eσ18]; exact mw_a18 g _ _ _) dX12_minds_158 (fun H locs hP hD hS => ?_)
      refine lv_aload_n hx hb dX12_minds_159 rfl (lv_at hl 0 rfl) ?_
      refine bk_get (wf := mw) (q0 := 0) (ci := 11) (k := 33) (v := .ref (g.2.2 18)) C hP wl_X12 rfl rfl (by decide) wa_174 rfl rfl dX12_minds_160 ?_
      refine lv_iconst (v := (4 : Int32)) hx hb dX12_minds_163 (by decide) ?_
      refine lv_aload_n hx hb dX12_minds_164 rfl (lv_at hl 0 rfl) ?_
      obtain ⟨q19, hq19, hf⟩ := bi_s hf
      refine bk_VI (wf := mw) (q0 := 0) (ci := 11) (rest := [.int (4 : Int32), .ref (g.2.2 18)]) [] C hP hD hS hl.1 (c_X12_mistOf hXo hq19) (cwA_V 0 hts wa_715 wa_712 wa_713 wa_714 wa_5 rfl rfl nd_X12_mistOf ⟨Nat.le_of_ble_eq_true rfl, Nat.le_of_ble_eq_true rfl⟩) rfl rfl rfl rfl (Nat.le_of_ble_eq_true rfl) dX12_minds_165 ⟨Nat.le_of_ble_eq_true rfl, Nat.le_of_ble_eq_true rfl⟩ (fun H locs hP hD hS => ?_)
      obtain ⟨σ20, eσ20, hf⟩ := bd_s hf
      refine bk_iast (wf := mw) (σ1 := σ20) (q0 := 18) (n := 6) (j := 4) C hP hD hS rfl (vin_l (by decide) (by decide)) (by decide) (by rw [eσ20]; exact mw_a18 g _ _ _) dX12_minds_168 (fun H locs hP hD hS => ?_)
      refine lv_aload_n hx hb dX12_minds_169 rfl (lv_at hl 0 rfl) ?_
      refine bk_get (wf := mw) (q0 := 0) (ci := 11) (k := 33) (v := .ref (g.2.2 18)) C hP wl_X12 rfl rfl (by decide) wa_174 rfl rfl dX12_minds_170 ?_
      refine lv_iconst (v := (5 : Int32)) hx hb dX12_minds_173 (by decide) ?_
      refine lv_aload_n hx hb dX12_minds_174 rfl (lv_at hl 0 rfl) ?_
      refine bk_get (wf := mw) (q0 := 0) (ci := 11) (k := 28) (v := .int (σ20 0 28)) C hP wl_X12 rfl rfl (by decide) wa_613 rfl rfl dX12_minds_175 ?_
      obtain ⟨σ21, eσ21, hf⟩ := bd_s hf
      refine bk_iast (wf := mw) (σ1 := σ21) (q0 := 18) (n := 6) (j := 5) C hP hD hS rfl (vin_l (by decide) (by decide)) (by decide) (by rw [eσ21]; exact mw_a18 g _ _ _) dX12_minds_178 (fun H locs hP hD hS => ?_)
      refine lv_aload_n hx hb dX12_minds_179 rfl (lv_at hl 0 rfl) ?_
      obtain ⟨q22, hq22, hf⟩ := bi_s hf
      refine bk_VI (wf := mw) (q0 := 0) (ci := 11) (rest := []) [] C hP hD hS hl.1 (c_X12_valueNow hXo hq22) (cwA_V 0 hts wa_912 wa_909 wa_910 wa_911 wa_5 rfl rfl nd_X12_valueNow ⟨Nat.le_of_ble_eq_true rfl, Nat.le_of_ble_eq_true rfl⟩) rfl rfl rfl rfl (Nat.le_of_ble_eq_true rfl) dX12_minds_180 ⟨Nat.le_of_ble_eq_true rfl, Nat.le_of_ble_eq_true rfl⟩ (fun H locs hP hD hS => ?_)
      refine lv_if_le (tgt := 190) hx hb dX12_minds_183 (by decide) (fun t183 => ?_) (fun t183 => ?_)
      · have hf := (if_pos t183).symm.trans hf
        refine lv_iconst (v := (0 : Int32)) hx hb dX12_minds_190 (by decide) ?_
        cases hf
        exact bk_zret C hP hD hS (by decide) rfl dX12_minds_191
      · have hf := (if_neg t183).symm.trans hf
        refine lv_iconst (v := (1 : Int32)) hx hb dX12_minds_186 (by decide) ?_
        refine lv_goto (tgt := 191) hx hb dX12_minds_187 (by decide) ?_
        cases hf
        exact bk_zret C hP hD hS (by decide) rfl dX12_minds_191
    · have hf := (if_pos t16).symm.trans hf
      exact b_X12_minds_b19 C hf H locs ls hP hD hS (lv_sub hl [] rfl)
theorem c_X12_minds {N : Nat} {x1 : Int32} {x2 : Int32} {σ : Sg} {z : Int32 × Sg} (hX : xOK g X) (hf : f_X12_minds N x1 x2 σ = some z) : MetI l yX12_minds (Cond.code yX12_minds cX12_minds 5 (some .boolean) :: wsA) rm_X12_minds mw g X [.ref (g.2.2 0), .int x1, .int x2] σ z.1 z.2 :=
  MetI_of hX (by decide) (Nat.le_of_ble_eq_true rfl) (fun p e s m args below meth c A C => b_X12_minds C hf)
end GEN
