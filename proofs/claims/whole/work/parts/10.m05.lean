section GEN
variable {p : Program} {l : Launch} {e : Env} {s : State} {m : MethodId} {args : Array Value} {below : List Frame} {meth : Method} {c : Code} {g : WG} {A : Nat → Prop} {X : Xt} {Q : State → Prop}
-- X12_way: way(II)I
abbrev rm_X12_way : Room := { frames := 5, cells := 0, slots := 0, locals := 116 }
theorem nd_X12_way : yX12_way.cls ≠ "java/lang/invoke/MethodHandle" ∧ yX12_way.cls ≠ "java/lang/invoke/VarHandle" ∧ (parseMethodDescriptor yX12_way.desc).map (fun d => d.parameters.length) = some 2 := by decide +kernel
def f_X12_way_b90 (N : Nat) (x2 : Int32) (x3 : Int32) (x4 : Int32) (x6 : Int32) (t0 : Int32) (t1 : Int32) (σ : Sg) : Option (Nat × Int32 × Int32 × Sg) :=
bd (t0 ||| t1) fun v1 =>
bd (x6 + (1 : Int32)) fun v2 =>
some (0, v1, v2, σ)
set_option maxHeartbeats 4000000 in
set_option maxRecDepth 100000 in
theorem b_X12_way_b90 {N : Nat} {x2 : Int32} {x3 : Int32} {x4 : Int32} {x6 : Int32} {t0 : Int32} {t1 : Int32} {σ : Sg} {z : Nat × Int32 × Int32 × Sg} (C : Cx p s m args meth c cX12_way 7 (some .int) RX12 g A X) (hf : f_X12_way_b90 N x2 x3 x4 x6 t0 t1 σ = some z) (k0 : z.1 = 0 → Bk mw p l e rm_X12_way s m args below meth c 7 g A Q 0 0 58 [(0, .ref (g.2.2 0)), (2, .int x2), (3, .int x3), (4, .int x4), (5, .int z.2.1), (6, .int z.2.2.1)] [] z.2.2.2) (k : ¬ z.1 = 0 → Bk mw p l e rm_X12_way s m args below meth c 7 g A Q 0 0 99 [(0, .ref (g.2.2 0)), (2, .int x2), (4, .int x4), (5, .int z.2.1)] [] z.2.2.2) : Bk mw p l e rm_X12_way s m args below meth c 7 g A Q 0 0 90 [(0, .ref (g.2.2 0)), (2, .int x2), (3, .int x3), (4, .int x4), (6, .int x6)] [.int t1, .int t0] σ := by
  obtain ⟨hx, hb, hr, hml, hown, hts, hK, hlocks, hXX, hA, hXo⟩ := id C
  intro H locs ls hP hD hS hl
  unfold f_X12_way_b90 at hf
  refine lv_ior hx hb dX12_way_90 ?_
  obtain ⟨v1, ev1, hf⟩ := bd_s hf
  rw [← ev1]
  refine lv_istore (lv' := [(5, .int v1), (0, .ref (g.2.2 0)), (2, .int x2), (3, .int x3), (4, .int x4), (6, .int x6)]) hx hb dX12_way_91 hl (by decide) rfl (fun ls hl => ?_)
  obtain ⟨v2, ev2, hf⟩ := bd_s hf
  refine lv_iinc (v := v2) (lv' := [(6, .int v2), (5, .int v1), (0, .ref (g.2.2 0)), (2, .int x2), (3, .int x3), (4, .int x4)]) hx hb dX12_way_93 hl (k := 5) rfl (by rw [ev2]; rfl) (by decide) rfl (fun ls hl => ?_)
  refine lv_goto (tgt := 58) hx hb dX12_way_96 (by decide) ?_
  cases hf
  exact k0 rfl H locs ls hP hD hS (lv_sub hl [2, 3, 4, 5, 1, 0] rfl)
def s_X12_way_h58 (N : Nat) (x2 : Int32) (x3 : Int32) (x4 : Int32) (x5 : Int32) (x6 : Int32) (σ : Sg) : Option (Nat × Int32 × Int32 × Sg) :=
if (σ 3 0) ≤ x6 then (some (1, x5, 0, σ))
else ((f_X12_isOf N x3 x6 σ).bind fun q3 =>
if q3.1 = 0 then (f_X12_way_b90 N x2 x3 x4 x6 x5 (0 : Int32) (q3.2))
else ((f_X12_seesOf N x6 (q3.2)).bind fun q4 =>
f_X12_way_b90 N x2 x3 x4 x6 x5 q4.1 (q4.2)))
set_option maxHeartbeats 4000000 in
set_option maxRecDepth 100000 in
theorem e_X12_way_h58 {N : Nat} {x2 : Int32} {x3 : Int32} {x4 : Int32} {x5 : Int32} {x6 : Int32} {σ : Sg} {z : Nat × Int32 × Int32 × Sg} (C : Cx p s m args meth c cX12_way 7 (some .int) RX12 g A X) (hf : s_X12_way_h58 N x2 x3 x4 x5 x6 σ = some z) (k0 : z.1 = 0 → Bk mw p l e rm_X12_way s m args below meth c 7 g A Q 0 0 58 [(0, .ref (g.2.2 0)), (2, .int x2), (3, .int x3), (4, .int x4), (5, .int z.2.1), (6, .int z.2.2.1)] [] z.2.2.2) (k : ¬ z.1 = 0 → Bk mw p l e rm_X12_way s m args below meth c 7 g A Q 0 0 99 [(0, .ref (g.2.2 0)), (2, .int x2), (4, .int x4), (5, .int z.2.1)] [] z.2.2.2) : Bk mw p l e rm_X12_way s m args below meth c 7 g A Q 0 0 58 [(0, .ref (g.2.2 0)), (2, .int x2), (3, .int x3), (4, .int x4), (5, .int x5), (6, .int x6)] [] σ := by
  obtain ⟨hx, hb, hr, hml, hown, hts, hK, hlocks, hXX, hA, hXo⟩ := id C
  intro H locs ls hP hD hS hl
  unfold s_X12_way_h58 at hf
  refine lv_iload hx hb dX12_way_58 (lv_at hl 5 rfl) ?_
  refine lv_aload_n hx hb dX12_way_60 rfl (lv_at hl 0 rfl) ?_
  refine bk_get (wf := mw) (q0 := 0) (ci := 11) (k := 3) (v := .ref (g.2.2 3)) C hP wl_X12 rfl rfl (by decide) wa_157 rfl rfl dX12_way_61 ?_
  refine lv_iconst (v := (0 : Int32)) hx hb dX12_way_64 (by decide) ?_
  refine bk_iald (wf := mw) (q0 := 3) (n := 10) (j := 0) C hP rfl (vin_l (by decide) (by decide)) (by decide) dX12_way_65 ?_
  refine lv_icmp_ge (tgt := 99) hx hb dX12_way_66 (by decide) (fun t66 => ?_) (fun t66 => ?_)
  · have hf := (if_pos t66).symm.trans hf
    cases hf
    exact (k (show ¬ (1 : Nat) = 0 by decide)) H locs ls hP hD hS (lv_sub hl [0, 1, 3, 4] rfl)
  · have hf := (if_neg t66).symm.trans hf
    refine lv_iload hx hb dX12_way_69 (lv_at hl 4 rfl) ?_
    refine lv_iload_n hx hb dX12_way_71 rfl (lv_at hl 2 rfl) ?_
    refine lv_iload hx hb dX12_way_72 (lv_at hl 5 rfl) ?_
    obtain ⟨q3, hq3, hf⟩ := bi_s hf
    refine bk_SI (wf := mw) (rest := [.int x5]) [.int x3, .int x6] C hP hD hS hl.1 (c_X12_isOf hXo hq3) (cwA_S 2 hts wa_726 wa_724 wa_725 wa_5 rfl rfl nd_X12_isOf ⟨Nat.le_of_ble_eq_true rfl, Nat.le_of_ble_eq_true rfl⟩) rfl rfl (Nat.le_of_ble_eq_true rfl) dX12_way_74 ⟨Nat.le_of_ble_eq_true rfl, Nat.le_of_ble_eq_true rfl⟩ (fun H locs hP hD hS => ?_)
    refine lv_if_eq (tgt := 89) hx hb dX12_way_77 (by decide) (fun t77 => ?_) (fun t77 => ?_)
    · have hf := (if_pos t77).symm.trans hf
      refine lv_iconst (v := (0 : Int32)) hx hb dX12_way_89 (by decide) ?_
      exact b_X12_way_b90 C hf k0 k H locs ls hP hD hS (lv_sub hl [0, 1, 2, 3, 5] rfl)
    · have hf := (if_neg t77).symm.trans hf
      refine lv_aload_n hx hb dX12_way_80 rfl (lv_at hl 0 rfl) ?_
      refine lv_iload hx hb dX12_way_81 (lv_at hl 5 rfl) ?_
      obtain ⟨q4, hq4, hf⟩ := bi_s hf
      refine bk_VI (wf := mw) (q0 := 0) (ci := 11) (rest := [.int x5]) [.int x6] C hP hD hS hl.1 (c_X12_seesOf hXo hq4) (cwA_V 1 hts wa_734 wa_731 wa_732 wa_733 wa_5 rfl rfl nd_X12_seesOf ⟨Nat.le_of_ble_eq_true rfl, Nat.le_of_ble_eq_true rfl⟩) rfl rfl rfl rfl (Nat.le_of_ble_eq_true rfl) dX12_way_83 ⟨Nat.le_of_ble_eq_true rfl, Nat.le_of_ble_eq_true rfl⟩ (fun H locs hP hD hS => ?_)
      refine lv_goto (tgt := 90) hx hb dX12_way_86 (by decide) ?_
      exact b_X12_way_b90 C hf k0 k H locs ls hP hD hS (lv_sub hl [0, 1, 2, 3, 5] rfl)
theorem lp_X12_way_h58 {N : Nat} {n : Nat} {x2 : Int32} {x3 : Int32} {x4 : Int32} {x5 : Int32} {x6 : Int32} {σ : Sg} {z : Nat × Int32 × Int32 × Sg} (C : Cx p s m args meth c cX12_way 7 (some .int) RX12 g A X) (hz : it (fun q => s_X12_way_h58 N x2 x3 x4 q.1 q.2.1 q.2.2) n (x5, x6, σ) = some z) (k : Bk mw p l e rm_X12_way s m args below meth c 7 g A Q 0 0 99 [(0, .ref (g.2.2 0)), (2, .int x2), (4, .int x4), (5, .int z.2.1)] [] z.2.2.2) : Bk mw p l e rm_X12_way s m args below meth c 7 g A Q 0 0 58 [(0, .ref (g.2.2 0)), (2, .int x2), (3, .int x3), (4, .int x4), (5, .int x5), (6, .int x6)] [] σ :=
  it_W (S := Int32 × Int32 × Sg) (fun q => Bk mw p l e rm_X12_way s m args below meth c 7 g A Q 0 0 58 [(0, .ref (g.2.2 0)), (2, .int x2), (3, .int x3), (4, .int x4), (5, .int q.1), (6, .int q.2.1)] [] q.2.2) (fun z => Bk mw p l e rm_X12_way s m args below meth c 7 g A Q 0 0 99 [(0, .ref (g.2.2 0)), (2, .int x2), (4, .int x4), (5, .int z.2.1)] [] z.2.2.2) (fun q z hq k0 k => e_X12_way_h58 C hq k0 k) n (x5, x6, σ) z hz k
def s_X12_way_h34 (N : Nat) (x2 : Int32) (x3 : Int32) (x4 : Int32) (σ : Sg) : Option (Nat × Int32 × Int32 × Sg) :=
if (9 : Int32) ≤ x4 then (some (2, 0, 0, σ))
else ((f_X12_isOf N x3 x2 σ).bind fun q5 =>
if q5.1 = 0 then ((it (fun q => s_X12_way_h58 N x2 x3 x4 q.1 q.2.1 q.2.2) N (x3, (0 : Int32), (q5.2))).bind fun z6 =>
bd (z6.2.1) fun v7 =>
bd (x4 + (1 : Int32)) fun v8 =>
some (0, v7, v8, (z6.2.2.2)))
else (some (1, 0, x4, (q5.2))))
set_option maxHeartbeats 4000000 in
set_option maxRecDepth 100000 in
theorem e_X12_way_h34 {N : Nat} {x2 : Int32} {x3 : Int32} {x4 : Int32} {σ : Sg} {z : Nat × Int32 × Int32 × Sg} (C : Cx p s m args meth c cX12_way 7 (some .int) RX12 g A X) (hf : s_X12_way_h34 N x2 x3 x4 σ = some z) (k0 : z.1 = 0 → Bk mw p l e rm_X12_way s m args below meth c 7 g A Q 0 0 34 [(0, .ref (g.2.2 0)), (2, .int x2), (3, .int z.2.1), (4, .int z.2.2.1)] [] z.2.2.2) (k : ¬ z.1 = 0 → ((z.1 = 1 → Bk mw p l e rm_X12_way s m args below meth c 7 g A Q 0 0 49 [(4, .int z.2.2.1)] [] z.2.2.2) ∧ (¬ z.1 = 1 → Bk mw p l e rm_X12_way s m args below meth c 7 g A Q 0 0 108 [] [] z.2.2.2))) : Bk mw p l e rm_X12_way s m args below meth c 7 g A Q 0 0 34 [(0, .ref (g.2.2 0)), (2, .int x2), (3, .int x3), (4, .int x4)] [] σ := by
  obtain ⟨hx, hb, hr, hml, hown, hts, hK, hlocks, hXX, hA, hXo⟩ := id C
  intro H locs ls hP hD hS hl
  unfold s_X12_way_h34 at hf
  refine lv_iload hx hb dX12_way_34 (lv_at hl 3 rfl) ?_
  refine lv_bipush (v := (9 : Int32)) hx hb dX12_way_36 (by decide) ?_
  refine lv_icmp_ge (tgt := 108) hx hb dX12_way_38 (by decide) (fun t38 => ?_) (fun t38 => ?_)
  · have hf := (if_pos t38).symm.trans hf
    cases hf
    exact ((k (show ¬ (2 : Nat) = 0 by decide)).2 (show ¬ (2 : Nat) = 1 by decide)) H locs ls hP hD hS (lv_sub hl [] rfl)
  · have hf := (if_neg t38).symm.trans hf
    refine lv_iload_n hx hb dX12_way_41 rfl (lv_at hl 2 rfl) ?_
    refine lv_iload_n hx hb dX12_way_42 rfl (lv_at hl 1 rfl) ?_
    obtain ⟨q5, hq5, hf⟩ := bi_s hf
    refine bk_SI (wf := mw) (rest := []) [.int x3, .int x2] C hP hD hS hl.1 (c_X12_isOf hXo hq5) (cwA_S 2 hts wa_726 wa_724 wa_725 wa_5 rfl rfl nd_X12_isOf ⟨Nat.le_of_ble_eq_true rfl, Nat.le_of_ble_eq_true rfl⟩) rfl rfl (Nat.le_of_ble_eq_true rfl) dX12_way_43 ⟨Nat.le_of_ble_eq_true rfl, Nat.le_of_ble_eq_true rfl⟩ (fun H locs hP hD hS => ?_)
    refine lv_if_eq (tgt := 52) hx hb dX12_way_46 (by decide) (fun t46 => ?_) (fun t46 => ?_)
    · have hf := (if_pos t46).symm.trans hf
      refine lv_iload_n hx hb dX12_way_52 rfl (lv_at hl 2 rfl) ?_
      refine lv_istore (lv' := [(5, .int x3), (0, .ref (g.2.2 0)), (2, .int x2), (3, .int x3), (4, .int x4)]) hx hb dX12_way_53 hl (by decide) rfl (fun ls hl => ?_)
      refine lv_iconst (v := (0 : Int32)) hx hb dX12_way_55 (by decide) ?_
      refine lv_istore (lv' := [(6, .int (0 : Int32)), (5, .int x3), (0, .ref (g.2.2 0)), (2, .int x2), (3, .int x3), (4, .int x4)]) hx hb dX12_way_56 hl (by decide) rfl (fun ls hl => ?_)
      obtain ⟨z6, hz6, hf⟩ := bi_s hf
      refine lp_X12_way_h58 C hz6 ?_ H locs ls hP hD hS (lv_sub hl [2, 3, 4, 5, 1, 0] rfl)
      intro H locs ls hP hD hS hl
      refine lv_iload hx hb dX12_way_99 (lv_at hl 3 rfl) ?_
      obtain ⟨v7, ev7, hf⟩ := bd_s hf
      rw [← ev7]
      refine lv_istore_n (lv' := [(3, .int v7), (0, .ref (g.2.2 0)), (2, .int x2), (4, .int x4), (5, .int (z6.2.1))]) hx hb dX12_way_101 rfl hl (by decide) rfl (fun ls hl => ?_)
      obtain ⟨v8, ev8, hf⟩ := bd_s hf
      refine lv_iinc (v := v8) (lv' := [(4, .int v8), (3, .int v7), (0, .ref (g.2.2 0)), (2, .int x2), (5, .int (z6.2.1))]) hx hb dX12_way_102 hl (k := 3) rfl (by rw [ev8]; rfl) (by decide) rfl (fun ls hl => ?_)
      refine lv_goto (tgt := 34) hx hb dX12_way_105 (by decide) ?_
      cases hf
      exact k0 rfl H locs ls hP hD hS (lv_sub hl [2, 3, 1, 0] rfl)
    · have hf := (if_neg t46).symm.trans hf
      cases hf
      exact ((k (show ¬ (1 : Nat) = 0 by decide)).1 rfl) H locs ls hP hD hS (lv_sub hl [3] rfl)
theorem lp_X12_way_h34 {N : Nat} {n : Nat} {x2 : Int32} {x3 : Int32} {x4 : Int32} {σ : Sg} {z : Nat × Int32 × Int32 × Sg} (C : Cx p s m args meth c cX12_way 7 (some .int) RX12 g A X) (hz : it (fun q => s_X12_way_h34 N x2 q.1 q.2.1 q.2.2) n (x3, x4, σ) = some z) (k : ((z.1 = 1 → Bk mw p l e rm_X12_way s m args below meth c 7 g A Q 0 0 49 [(4, .int z.2.2.1)] [] z.2.2.2) ∧ (¬ z.1 = 1 → Bk mw p l e rm_X12_way s m args below meth c 7 g A Q 0 0 108 [] [] z.2.2.2))) : Bk mw p l e rm_X12_way s m args below meth c 7 g A Q 0 0 34 [(0, .ref (g.2.2 0)), (2, .int x2), (3, .int x3), (4, .int x4)] [] σ :=
  it_W (S := Int32 × Int32 × Sg) (fun q => Bk mw p l e rm_X12_way s m args below meth c 7 g A Q 0 0 34 [(0, .ref (g.2.2 0)), (2, .int x2), (3, .int q.1), (4, .int q.2.1)] [] q.2.2) (fun z => ((z.1 = 1 → Bk mw p l e rm_X12_way s m args below meth c 7 g A Q 0 0 49 [(4, .int z.2.2.1)] [] z.2.2.2) ∧ (¬ z.1 = 1 → Bk mw p l e rm_X12_way s m args below meth c 7 g A Q 0 0 108 [] [] z.2.2.2))) (fun q z hq k0 k => e_X12_way_h34 C hq k0 k) n (x3, x4, σ) z hz k
def f_X12_way_b21 (N : Nat) (σ : Sg) : Option (Int32 × Sg) :=
(f_X12_fail N (1 : Int32) σ).bind fun q9 =>
some (q9.1, (q9.2))
set_option maxHeartbeats 4000000 in
set_option maxRecDepth 100000 in
theorem b_X12_way_b21 {N : Nat} {σ : Sg} {z : Int32 × Sg} (C : Cx p s m args meth c cX12_way 7 (some .int) RX12 g A X) (hf : f_X12_way_b21 N σ = some z) : Bk mw p l e rm_X12_way s m args below meth c 7 g A (MQ below (qI mw g A z.1 z.2) args s 0 0 A) 0 0 21 [(0, .ref (g.2.2 0))] [] σ := by
  obtain ⟨hx, hb, hr, hml, hown, hts, hK, hlocks, hXX, hA, hXo⟩ := id C
  intro H locs ls hP hD hS hl
  unfold f_X12_way_b21 at hf
  refine lv_aload_n hx hb dX12_way_21 rfl (lv_at hl 0 rfl) ?_
  refine lv_iconst (v := (1 : Int32)) hx hb dX12_way_22 (by decide) ?_
  obtain ⟨q9, hq9, hf⟩ := bi_s hf
  refine bk_VI (wf := mw) (q0 := 0) (ci := 11) (rest := []) [.int (1 : Int32)] C hP hD hS hl.1 (c_X12_fail hXo hq9) (cwA_V 1 hts wa_512 wa_509 wa_510 wa_511 wa_5 rfl rfl nd_X12_fail ⟨Nat.le_of_ble_eq_true rfl, Nat.le_of_ble_eq_true rfl⟩) rfl rfl rfl rfl (Nat.le_of_ble_eq_true rfl) dX12_way_23 ⟨Nat.le_of_ble_eq_true rfl, Nat.le_of_ble_eq_true rfl⟩ (fun H locs hP hD hS => ?_)
  cases hf
  exact bk_iret C hP hD hS rfl dX12_way_26
def f_X12_way (N : Nat) (x1 : Int32) (x2 : Int32) (σ : Sg) : Option (Int32 × Sg) :=
bd (wr σ 0 2 (0 : Int32)) fun σ10 =>
(f_X12_isFarm N x1 σ10).bind fun q11 =>
if q11.1 = 0 then (f_X12_way_b21 N (q11.2))
else ((f_X12_isFarm N x2 (q11.2)).bind fun q12 =>
if q12.1 = 0 then (f_X12_way_b21 N (q12.2))
else (bd ((1 : Int32) <<< (x1 &&& 31)) fun v13 =>
(it (fun q => s_X12_way_h34 N x2 q.1 q.2.1 q.2.2) N (v13, (0 : Int32), (q12.2))).bind fun z14 =>
if z14.1 = 1 then (some ((z14.2.2.1), (z14.2.2.2)))
else (some ((-1 : Int32), (z14.2.2.2)))))
set_option maxHeartbeats 4000000 in
set_option maxRecDepth 100000 in
theorem b_X12_way {N : Nat} {x1 : Int32} {x2 : Int32} {σ : Sg} {z : Int32 × Sg} (C : Cx p s m args meth c cX12_way 7 (some .int) RX12 g A X) (hf : f_X12_way N x1 x2 σ = some z) : Bk mw p l e rm_X12_way s m args below meth c 7 g A (MQ below (qI mw g A z.1 z.2) args s 0 0 A) 0 0 0 [(0, .ref (g.2.2 0)), (1, .int x1), (2, .int x2)] [] σ := by
  obtain ⟨hx, hb, hr, hml, hown, hts, hK, hlocks, hXX, hA, hXo⟩ := id C
  intro H locs ls hP hD hS hl
  unfold f_X12_way at hf
  refine lv_aload_n hx hb dX12_way_0 rfl (lv_at hl 0 rfl) ?_
  refine lv_iconst (v := (0 : Int32)) hx hb dX12_way_1 (by decide) ?_
  obtain ⟨σ10, eσ10, hf⟩ := bd_s hf
  refine bk_put (wf := mw) (σ1 := σ10) (q0 := 0) (ci := 11) (k := 2) (v := .int (0 : Int32)) C hP hD hS wl_X12 tyX12_ok nmX12 rfl rfl (by decide) wa_205 rfl rfl rfl rfl rfl (Nat.le_of_ble_eq_true rfl) (by rw [eσ10]; exact mw_p0_2 g _ _) dX12_way_2 (fun H locs hP hD hS => ?_)
  refine lv_aload_n hx hb dX12_way_5 rfl (lv_at hl 0 rfl) ?_
  refine lv_iload_n hx hb dX12_way_6 rfl (lv_at hl 1 rfl) ?_
  obtain ⟨q11, hq11, hf⟩ := bi_s hf
  refine bk_VI (wf := mw) (q0 := 0) (ci := 11) (rest := []) [.int x1] C hP hD hS hl.1 (c_X12_isFarm hXo hq11) (cwA_V 1 hts wa_800 wa_797 wa_798 wa_799 wa_5 rfl rfl nd_X12_isFarm ⟨Nat.le_of_ble_eq_true rfl, Nat.le_of_ble_eq_true rfl⟩) rfl rfl rfl rfl (Nat.le_of_ble_eq_true rfl) dX12_way_7 ⟨Nat.le_of_ble_eq_true rfl, Nat.le_of_ble_eq_true rfl⟩ (fun H locs hP hD hS => ?_)
  refine lv_if_eq (tgt := 21) hx hb dX12_way_10 (by decide) (fun t10 => ?_) (fun t10 => ?_)
  · have hf := (if_pos t10).symm.trans hf
    exact b_X12_way_b21 C hf H locs ls hP hD hS (lv_sub hl [0] rfl)
  · have hf := (if_neg t10).symm.trans hf
    refine lv_aload_n hx hb dX12_way_13 rfl (lv_at hl 0 rfl) ?_
    refine lv_iload_n hx hb dX12_way_14 rfl (lv_at hl 2 rfl) ?_
    obtain ⟨q12, hq12, hf⟩ := bi_s hf
    refine bk_VI (wf := mw) (q0 := 0) (ci := 11) (rest := []) [.int x2] C hP hD hS hl.1 (c_X12_isFarm hXo hq12) (cwA_V 1 hts wa_800 wa_797 wa_798 wa_799 wa_5 rfl rfl nd_X12_isFarm ⟨Nat.le_of_ble_eq_true rfl, Nat.le_of_ble_eq_true rfl⟩) rfl rfl rfl rfl (Nat.le_of_ble_eq_true rfl) dX12_way_15 ⟨Nat.le_of_ble_eq_true rfl, Nat.le_of_ble_eq_true rfl⟩ (fun H locs hP hD hS => ?_)
    refine lv_if_ne (tgt := 27) hx hb dX12_way_18 (by decide) (fun t18 => ?_) (fun t18 => ?_)
    · have hf := (if_neg t18).symm.trans hf
      refine lv_iconst (v := (1 : Int32)) hx hb dX12_way_27 (by decide) ?_
      refine lv_iload_n hx hb dX12_way_28 rfl (lv_at hl 1 rfl) ?_
      refine lv_ishl hx hb dX12_way_29 ?_
      obtain ⟨v13, ev13, hf⟩ := bd_s hf
      rw [← ev13]
      refine lv_istore_n (lv' := [(3, .int v13), (0, .ref (g.2.2 0)), (1, .int x1), (2, .int x2)]) hx hb dX12_way_30 rfl hl (by decide) rfl (fun ls hl => ?_)
      refine lv_iconst (v := (0 : Int32)) hx hb dX12_way_31 (by decide) ?_
      refine lv_istore (lv' := [(4, .int (0 : Int32)), (3, .int v13), (0, .ref (g.2.2 0)), (1, .int x1), (2, .int x2)]) hx hb dX12_way_32 hl (by decide) rfl (fun ls hl => ?_)
      obtain ⟨z14, hz14, hf⟩ := bi_s hf
      refine lp_X12_way_h34 C hz14 ⟨fun t0 => ?_, fun t0 => ?_⟩ H locs ls hP hD hS (lv_sub hl [2, 4, 1, 0] rfl)
      · have hf := (if_pos t0).symm.trans hf
        intro H locs ls hP hD hS hl
        refine lv_iload hx hb dX12_way_49 (lv_at hl 0 rfl) ?_
        cases hf
        exact bk_iret C hP hD hS rfl dX12_way_51
      · have hf := (if_neg t0).symm.trans hf
        intro H locs ls hP hD hS hl
        refine lv_iconst (v := (-1 : Int32)) hx hb dX12_way_108 (by decide) ?_
        cases hf
        exact bk_iret C hP hD hS rfl dX12_way_109
    · have hf := (if_pos t18).symm.trans hf
      exact b_X12_way_b21 C hf H locs ls hP hD hS (lv_sub hl [0] rfl)
theorem c_X12_way {N : Nat} {x1 : Int32} {x2 : Int32} {σ : Sg} {z : Int32 × Sg} (hX : xOK g X) (hf : f_X12_way N x1 x2 σ = some z) : MetI l yX12_way (Cond.code yX12_way cX12_way 7 (some .int) :: wsA) rm_X12_way mw g X [.ref (g.2.2 0), .int x1, .int x2] σ z.1 z.2 :=
  MetI_of hX (by decide) (Nat.le_of_ble_eq_true rfl) (fun p e s m args below meth c A C => b_X12_way C hf)
-- X12_toHat: toHat(II)I
abbrev rm_X12_toHat : Room := { frames := 4, cells := 0, slots := 0, locals := 93 }
theorem nd_X12_toHat : yX12_toHat.cls ≠ "java/lang/invoke/MethodHandle" ∧ yX12_toHat.cls ≠ "java/lang/invoke/VarHandle" ∧ (parseMethodDescriptor yX12_toHat.desc).map (fun d => d.parameters.length) = some 2 := by decide +kernel
def f_X12_toHat_b67 (N : Nat) (x1 : Int32) (x2 : Int32) (x3 : Int32) (x4 : Int32) (x5 : Int32) (σ : Sg) : Option (Nat × Int32 × Int32 × Sg) :=
bd (x5 + (-1 : Int32)) fun v1 =>
some (0, x4, v1, σ)
set_option maxHeartbeats 4000000 in
set_option maxRecDepth 100000 in
theorem b_X12_toHat_b67 {N : Nat} {x1 : Int32} {x2 : Int32} {x3 : Int32} {x4 : Int32} {x5 : Int32} {σ : Sg} {z : Nat × Int32 × Int32 × Sg} (C : Cx p s m args meth c cX12_toHat 6 (some .int) RX12 g A X) (hf : f_X12_toHat_b67 N x1 x2 x3 x4 x5 σ = some z) (k0 : z.1 = 0 → Bk mw p l e rm_X12_toHat s m args below meth c 6 g A Q 0 0 41 [(0, .ref (g.2.2 0)), (1, .int x1), (2, .int x2), (3, .int x3), (4, .int z.2.1), (5, .int z.2.2.1)] [] z.2.2.2) (k : ¬ z.1 = 0 → Bk mw p l e rm_X12_toHat s m args below meth c 6 g A Q 0 0 73 [(0, .ref (g.2.2 0)), (1, .int x1), (3, .int x3), (4, .int z.2.1)] [] z.2.2.2) : Bk mw p l e rm_X12_toHat s m args below meth c 6 g A Q 0 0 67 [(0, .ref (g.2.2 0)), (1, .int x1), (2, .int x2), (3, .int x3), (4, .int x4), (5, .int x5)] [] σ := by
  obtain ⟨hx, hb, hr, hml, hown, hts, hK, hlocks, hXX, hA, hXo⟩ := id C
  intro H locs ls hP hD hS hl
  unfold f_X12_toHat_b67 at hf
  obtain ⟨v1, ev1, hf⟩ := bd_s hf
  refine lv_iinc (v := v1) (lv' := [(5, .int v1), (0, .ref (g.2.2 0)), (1, .int x1), (2, .int x2), (3, .int x3), (4, .int x4)]) hx hb dX12_toHat_67 hl (k := 5) rfl (by rw [ev1]; rfl) (by decide) rfl (fun ls hl => ?_)
  refine lv_goto (tgt := 41) hx hb dX12_toHat_70 (by decide) ?_
  cases hf
  exact k0 rfl H locs ls hP hD hS (lv_sub hl [1, 2, 3, 4, 5, 0] rfl)
def s_X12_toHat_h41 (N : Nat) (x1 : Int32) (x2 : Int32) (x3 : Int32) (x4 : Int32) (x5 : Int32) (σ : Sg) : Option (Nat × Int32 × Int32 × Sg) :=
if x5 < 0 then (some (1, x4, 0, σ))
else (if (x1 < 0 ∨ 9 ≤ x1.toNatClampNeg) then none else
bd (wr σ 16 (x1.toNatClampNeg) x5) fun σ3 =>
(f_X12_inSight N x1 x2 σ3).bind fun q4 =>
if q4.1 = 0 then (f_X12_toHat_b67 N x1 x2 x3 x4 x5 (q4.2))
else (f_X12_toHat_b67 N x1 x2 x3 x5 x5 (q4.2)))
set_option maxHeartbeats 4000000 in
set_option maxRecDepth 100000 in
theorem e_X12_toHat_h41 {N : Nat} {x1 : Int32} {x2 : Int32} {x3 : Int32} {x4 : Int32} {x5 : Int32} {σ : Sg} {z : Nat × Int32 × Int32 × Sg} (C : Cx p s m args meth c cX12_toHat 6 (some .int) RX12 g A X) (hf : s_X12_toHat_h41 N x1 x2 x3 x4 x5 σ = some z) (k0 : z.1 = 0 → Bk mw p l e rm_X12_toHat s m args below meth c 6 g A Q 0 0 41 [(0, .ref (g.2.2 0)), (1, .int x1), (2, .int x2), (3, .int x3), (4, .int z.2.1), (5, .int z.2.2.1)] [] z.2.2.2) (k : ¬ z.1 = 0 → Bk mw p l e rm_X12_toHat s m args below meth c 6 g A Q 0 0 73 [(0, .ref (g.2.2 0)), (1, .int x1), (3, .int x3), (4, .int z.2.1)] [] z.2.2.2) : Bk mw p l e rm_X12_toHat s m args below meth c 6 g A Q 0 0 41 [(0, .ref (g.2.2 0)), (1, .int x1), (2, .int x2), (3, .int x3), (4, .int x4), (5, .int x5)] [] σ := by
  obtain ⟨hx, hb, hr, hml, hown, hts, hK, hlocks, hXX, hA, hXo⟩ := id C
  intro H locs ls hP hD hS hl
  unfold s_X12_toHat_h41 at hf
  refine lv_iload hx hb dX12_toHat_41 (lv_at hl 5 rfl) ?_
  refine lv_if_lt (tgt := 73) hx hb dX12_toHat_43 (by decide) (fun t43 => ?_) (fun t43 => ?_)
  · have hf := (if_pos t43).symm.trans hf
    cases hf
    exact (k (show ¬ (1 : Nat) = 0 by decide)) H locs ls hP hD hS (lv_sub hl [0, 1, 3, 4] rfl)
  · have hf := (if_neg t43).symm.trans hf
    refine lv_aload_n hx hb dX12_toHat_46 rfl (lv_at hl 0 rfl) ?_
    refine bk_get (wf := mw) (q0 := 0) (ci := 11) (k := 26) (v := .ref (g.2.2 16)) C hP wl_X12 rfl rfl (by decide) wa_171 rfl rfl dX12_toHat_47 ?_
    refine lv_iload_n hx hb dX12_toHat_50 rfl (lv_at hl 1 rfl) ?_
    refine lv_iload hx hb dX12_toHat_51 (lv_at hl 5 rfl) ?_
    obtain ⟨g2, hf⟩ := gd_s hf
    obtain ⟨σ3, eσ3, hf⟩ := bd_s hf
    refine bk_iast (wf := mw) (σ1 := σ3) (q0 := 16) (n := 9) (j := x1.toNatClampNeg) C hP hD hS rfl g2 rfl (by rw [eσ3]; exact mw_a16 g _ _ _) dX12_toHat_53 (fun H locs hP hD hS => ?_)
    refine lv_aload_n hx hb dX12_toHat_54 rfl (lv_at hl 0 rfl) ?_
    refine lv_iload_n hx hb dX12_toHat_55 rfl (lv_at hl 1 rfl) ?_
    refine lv_iload_n hx hb dX12_toHat_56 rfl (lv_at hl 2 rfl) ?_
    obtain ⟨q4, hq4, hf⟩ := bi_s hf
    refine bk_VI (wf := mw) (q0 := 0) (ci := 11) (rest := []) [.int x1, .int x2] C hP hD hS hl.1 (c_X12_inSight hXo hq4) (cwA_V 2 hts wa_738 wa_735 wa_736 wa_737 wa_5 rfl rfl nd_X12_inSight ⟨Nat.le_of_ble_eq_true rfl, Nat.le_of_ble_eq_true rfl⟩) rfl rfl rfl rfl (Nat.le_of_ble_eq_true rfl) dX12_toHat_57 ⟨Nat.le_of_ble_eq_true rfl, Nat.le_of_ble_eq_true rfl⟩ (fun H locs hP hD hS => ?_)
    refine lv_if_eq (tgt := 67) hx hb dX12_toHat_60 (by decide) (fun t60 => ?_) (fun t60 => ?_)
    · have hf := (if_pos t60).symm.trans hf
      exact b_X12_toHat_b67 C hf k0 k H locs ls hP hD hS (lv_sub hl [0, 1, 2, 3, 4, 5] rfl)
    · have hf := (if_neg t60).symm.trans hf
      refine lv_iload hx hb dX12_toHat_63 (lv_at hl 5 rfl) ?_
      refine lv_istore (lv' := [(4, .int x5), (0, .ref (g.2.2 0)), (1, .int x1), (2, .int x2), (3, .int x3), (5, .int x5)]) hx hb dX12_toHat_65 hl (by decide) rfl (fun ls hl => ?_)
      exact b_X12_toHat_b67 C hf k0 k H locs ls hP hD hS (lv_sub hl [1, 2, 3, 4, 0, 5] rfl)
theorem lp_X12_toHat_h41 {N : Nat} {n : Nat} {x1 : Int32} {x2 : Int32} {x3 : Int32} {x4 : Int32} {x5 : Int32} {σ : Sg} {z : Nat × Int32 × Int32 × Sg} (C : Cx p s m args meth c cX12_toHat 6 (some .int) RX12 g A X) (hz : it (fun q => s_X12_toHat_h41 N x1 x2 x3 q.1 q.2.1 q.2.2) n (x4, x5, σ) = some z) (k : Bk mw p l e rm_X12_toHat s m args below meth c 6 g A Q 0 0 73 [(0, .ref (g.2.2 0)), (1, .int x1), (3, .int x3), (4, .int z.2.1)] [] z.2.2.2) : Bk mw p l e rm_X12_toHat s m args below meth c 6 g A Q 0 0 41 [(0, .ref (g.2.2 0)), (1, .int x1), (2, .int x2), (3, .int x3), (4, .int x4), (5, .int x5)] [] σ :=
  it_W (S := Int32 × Int32 × Sg) (fun q => Bk mw p l e rm_X12_toHat s m args below meth c 6 g A Q 0 0 41 [(0, .ref (g.2.2 0)), (1, .int x1), (2, .int x2), (3, .int x3), (4, .int q.1), (5, .int q.2.1)] [] q.2.2) (fun z => Bk mw p l e rm_X12_toHat s m args below meth c 6 g A Q 0 0 73 [(0, .ref (g.2.2 0)), (1, .int x1), (3, .int x3), (4, .int z.2.1)] [] z.2.2.2) (fun q z hq k0 k => e_X12_toHat_h41 C hq k0 k) n (x4, x5, σ) z hz k
def f_X12_toHat_b21 (N : Nat) (σ : Sg) : Option (Int32 × Sg) :=
(f_X12_fail N (1 : Int32) σ).bind fun q5 =>
some (q5.1, (q5.2))
set_option maxHeartbeats 4000000 in
set_option maxRecDepth 100000 in
theorem b_X12_toHat_b21 {N : Nat} {σ : Sg} {z : Int32 × Sg} (C : Cx p s m args meth c cX12_toHat 6 (some .int) RX12 g A X) (hf : f_X12_toHat_b21 N σ = some z) : Bk mw p l e rm_X12_toHat s m args below meth c 6 g A (MQ below (qI mw g A z.1 z.2) args s 0 0 A) 0 0 21 [(0, .ref (g.2.2 0))] [] σ := by
  obtain ⟨hx, hb, hr, hml, hown, hts, hK, hlocks, hXX, hA, hXo⟩ := id C
  intro H locs ls hP hD hS hl
  unfold f_X12_toHat_b21 at hf
  refine lv_aload_n hx hb dX12_toHat_21 rfl (lv_at hl 0 rfl) ?_
  refine lv_iconst (v := (1 : Int32)) hx hb dX12_toHat_22 (by decide) ?_
  obtain ⟨q5, hq5, hf⟩ := bi_s hf
  refine bk_VI (wf := mw) (q0 := 0) (ci := 11) (rest := []) [.int (1 : Int32)] C hP hD hS hl.1 (c_X12_fail hXo hq5) (cwA_V 1 hts wa_512 wa_509 wa_510 wa_511 wa_5 rfl rfl nd_X12_fail ⟨Nat.le_of_ble_eq_true rfl, Nat.le_of_ble_eq_true rfl⟩) rfl rfl rfl rfl (Nat.le_of_ble_eq_true rfl) dX12_toHat_23 ⟨Nat.le_of_ble_eq_true rfl, Nat.le_of_ble_eq_true rfl⟩ (fun H locs hP hD hS => ?_)
  cases hf
  exact bk_iret C hP hD hS rfl dX12_toHat_26
def f_X12_toHat (N : Nat) (x1 : Int32) (x2 : Int32) (σ : Sg) : Option (Int32 × Sg) :=
bd (wr σ 0 2 (0 : Int32)) fun σ6 =>
(f_X12_isFarm N x1 σ6).bind fun q7 =>
if q7.1 = 0 then (f_X12_toHat_b21 N (q7.2))
else ((f_X12_isFarm N x2 (q7.2)).bind fun q8 =>
if q8.1 = 0 then (f_X12_toHat_b21 N (q8.2))
else (if (x1 < 0 ∨ 9 ≤ x1.toNatClampNeg) then none else
bd ((q8.2) 16 x1.toNatClampNeg) fun v10 =>
(it (fun q => s_X12_toHat_h41 N x1 x2 v10 q.1 q.2.1 q.2.2) N ((-1 : Int32), (20 : Int32), (q8.2))).bind fun z11 =>
if (x1 < 0 ∨ 9 ≤ x1.toNatClampNeg) then none else
bd (wr (z11.2.2.2) 16 (x1.toNatClampNeg) v10) fun σ13 =>
some ((z11.2.1), σ13)))
set_option maxHeartbeats 4000000 in
set_option maxRecDepth 100000 in
theorem b_X12_toHat {N : Nat} {x1 : Int32} {x2 : Int32} {σ : Sg} {z : Int32 × Sg} (C : Cx p s m args meth c cX12_toHat 6 (some .int) RX12 g A X) (hf : f_X12_toHat N x1 x2 σ = some z) : Bk mw p l e rm_X12_toHat s m args below meth c 6 g A (MQ below (qI mw g A z.1 z.2) args s 0 0 A) 0 0 0 [(0, .ref (g.2.2 0)), (1, .int x1), (2, .int x2)] [] σ := by
  obtain ⟨hx, hb, hr, hml, hown, hts, hK, hlocks, hXX, hA, hXo⟩ := id C
  intro H locs ls hP hD hS hl
  unfold f_X12_toHat at hf
  refine lv_aload_n hx hb dX12_toHat_0 rfl (lv_at hl 0 rfl) ?_
  refine lv_iconst (v := (0 : Int32)) hx hb dX12_toHat_1 (by decide) ?_
  obtain ⟨σ6, eσ6, hf⟩ := bd_s hf
  refine bk_put (wf := mw) (σ1 := σ6) (q0 := 0) (ci := 11) (k := 2) (v := .int (0 : Int32)) C hP hD hS wl_X12 tyX12_ok nmX12 rfl rfl (by decide) wa_205 rfl rfl rfl rfl rfl (Nat.le_of_ble_eq_true rfl) (by rw [eσ6]; exact mw_p0_2 g _ _) dX12_toHat_2 (fun H locs hP hD hS => ?_)
  refine lv_aload_n hx hb dX12_toHat_5 rfl (lv_at hl 0 rfl) ?_
  refine lv_iload_n hx hb dX12_toHat_6 rfl (lv_at hl 1 rfl) ?_
  obtain ⟨q7, hq7, hf⟩ := bi_s hf
  refine bk_VI (wf := mw) (q0 := 0) (ci := 11) (rest := []) [.int x1] C hP hD hS hl.1 (c_X12_isFarm hXo hq7) (cwA_V 1 hts wa_800 wa_797 wa_798 wa_799 wa_5 rfl rfl nd_X12_isFarm ⟨Nat.le_of_ble_eq_true rfl, Nat.le_of_ble_eq_true rfl⟩) rfl rfl rfl rfl (Nat.le_of_ble_eq_true rfl) dX12_toHat_7 ⟨Nat.le_of_ble_eq_true rfl, Nat.le_of_ble_eq_true rfl⟩ (fun H locs hP hD hS => ?_)
  refine lv_if_eq (tgt := 21) hx hb dX12_toHat_10 (by decide) (fun t10 => ?_) (fun t10 => ?_)
  · have hf := (if_pos t10).symm.trans hf
    exact b_X12_toHat_b21 C hf H locs ls hP hD hS (lv_sub hl [0] rfl)
  · have hf := (if_neg t10).symm.trans hf
    refine lv_aload_n hx hb dX12_toHat_13 rfl (lv_at hl 0 rfl) ?_
    refine lv_iload_n hx hb dX12_toHat_14 rfl (lv_at hl 2 rfl) ?_
    obtain ⟨q8, hq8, hf⟩ := bi_s hf
    refine bk_VI (wf := mw) (q0 := 0) (ci := 11) (rest := []) [.int x2] C hP hD hS hl.1 (c_X12_isFarm hXo hq8) (cwA_V 1 hts wa_800 wa_797 wa_798 wa_799 wa_5 rfl rfl nd_X12_isFarm ⟨Nat.le_of_ble_eq_true rfl, Nat.le_of_ble_eq_true rfl⟩) rfl rfl rfl rfl (Nat.le_of_ble_eq_true rfl) dX12_toHat_15 ⟨Nat.le_of_ble_eq_true rfl, Nat.le_of_ble_eq_true rfl⟩ (fun H locs hP hD hS => ?_)
    refine lv_if_ne (tgt := 27) hx hb dX12_toHat_18 (by decide) (fun t18 => ?_) (fun t18 => ?_)
    · have hf := (if_neg t18).symm.trans hf
      refine lv_aload_n hx hb dX12_toHat_27 rfl (lv_at hl 0 rfl) ?_
      refine bk_get (wf := mw) (q0 := 0) (ci := 11) (k := 26) (v := .ref (g.2.2 16)) C hP wl_X12 rfl rfl (by decide) wa_171 rfl rfl dX12_toHat_28 ?_
      refine lv_iload_n hx hb dX12_toHat_31 rfl (lv_at hl 1 rfl) ?_
      obtain ⟨g9, hf⟩ := gd_s hf
      refine bk_iald (wf := mw) (q0 := 16) (n := 9) (j := x1.toNatClampNeg) C hP rfl g9 rfl dX12_toHat_32 ?_
      obtain ⟨v10, ev10, hf⟩ := bd_s hf
      rw [← ev10]
      refine lv_istore_n (lv' := [(3, .int v10), (0, .ref (g.2.2 0)), (1, .int x1), (2, .int x2)]) hx hb dX12_toHat_33 rfl hl (by decide) rfl (fun ls hl => ?_)
      refine lv_iconst (v := (-1 : Int32)) hx hb dX12_toHat_34 (by decide) ?_
      refine lv_istore (lv' := [(4, .int (-1 : Int32)), (3, .int v10), (0, .ref (g.2.2 0)), (1, .int x1), (2, .int x2)]) hx hb dX12_toHat_35 hl (by decide) rfl (fun ls hl => ?_)
      refine lv_bipush (v := (20 : Int32)) hx hb dX12_toHat_37 (by decide) ?_
      refine lv_istore (lv' := [(5, .int (20 : Int32)), (4, .int (-1 : Int32)), (3, .int v10), (0, .ref (g.2.2 0)), (1, .int x1), (2, .int x2)]) hx hb dX12_toHat_39 hl (by decide) rfl (fun ls hl => ?_)
      obtain ⟨z11, hz11, hf⟩ := bi_s hf
      refine lp_X12_toHat_h41 C hz11 ?_ H locs ls hP hD hS (lv_sub hl [3, 4, 5, 2, 1, 0] rfl)
      intro H locs ls hP hD hS hl
      refine lv_aload_n hx hb dX12_toHat_73 rfl (lv_at hl 0 rfl) ?_
      refine bk_get (wf := mw) (q0 := 0) (ci := 11) (k := 26) (v := .ref (g.2.2 16)) C hP wl_X12 rfl rfl (by decide) wa_171 rfl rfl dX12_toHat_74 ?_
      refine lv_iload_n hx hb dX12_toHat_77 rfl (lv_at hl 1 rfl) ?_
      refine lv_iload_n hx hb dX12_toHat_78 rfl (lv_at hl 2 rfl) ?_
      obtain ⟨g12, hf⟩ := gd_s hf
      obtain ⟨σ13, eσ13, hf⟩ := bd_s hf
      refine bk_iast (wf := mw) (σ1 := σ13) (q0 := 16) (n := 9) (j := x1.toNatClampNeg) C hP hD hS rfl g12 rfl (by rw [eσ13]; exact mw_a16 g _ _ _) dX12_toHat_79 (fun H locs hP hD hS => ?_)
      refine lv_iload hx hb dX12_toHat_80 (lv_at hl 3 rfl) ?_
      cases hf
      exact bk_iret C hP hD hS rfl dX12_toHat_82
    · have hf := (if_pos t18).symm.trans hf
      exact b_X12_toHat_b21 C hf H locs ls hP hD hS (lv_sub hl [0] rfl)
theorem c_X12_toHat {N : Nat} {x1 : Int32} {x2 : Int32} {σ : Sg} {z : Int32 × Sg} (hX : xOK g X) (hf : f_X12_toHat N x1 x2 σ = some z) : MetI l yX12_toHat (Cond.code yX12_toHat cX12_toHat 6 (some .int) :: wsA) rm_X12_toHat mw g X [.ref (g.2.2 0), .int x1, .int x2] σ z.1 z.2 :=
  MetI_of hX (by decide) (Nat.le_of_ble_eq_true rfl) (fun p e s m args below meth c A C => b_X12_toHat C hf)
-- X12_between: between(II)I
abbrev rm_X12_between : Room := { frames := 3, cells := 0, slots := 0, locals := 71 }
theorem nd_X12_between : yX12_between.cls ≠ "java/lang/invoke/MethodHandle" ∧ yX12_between.cls ≠ "java/lang/invoke/VarHandle" ∧ (parseMethodDescriptor yX12_between.desc).map (fun d => d.parameters.length) = some 2 := by decide +kernel
def f_X12_between_b30 (N : Nat) (σ : Sg) : Option (Int32 × Sg) :=
(f_X12_fail N (1 : Int32) σ).bind fun q1 =>
some (q1.1, (q1.2))
set_option maxHeartbeats 4000000 in
set_option maxRecDepth 100000 in
theorem b_X12_between_b30 {N : Nat} {σ : Sg} {z : Int32 × Sg} (C : Cx p s m args meth c cX12_between 3 (some .int) RX12 g A X) (hf : f_X12_between_b30 N σ = some z) : Bk mw p l e rm_X12_between s m args below meth c 3 g A (MQ below (qI mw g A z.1 z.2) args s 0 0 A) 0 0 30 [(0, .ref (g.2.2 0))] [] σ := by
  obtain ⟨hx, hb, hr, hml, hown, hts, hK, hlocks, hXX, hA, hXo⟩ := id C
  intro H locs ls hP hD hS hl
  unfold f_X12_between_b30 at hf
  refine lv_aload_n hx hb dX12_between_30 rfl (lv_at hl 0 rfl) ?_
  refine lv_iconst (v := (1 : Int32)) hx hb dX12_between_31 (by decide) ?_
  obtain ⟨q1, hq1, hf⟩ := bi_s hf
  refine bk_VI (wf := mw) (q0 := 0) (ci := 11) (rest := []) [.int (1 : Int32)] C hP hD hS hl.1 (c_X12_fail hXo hq1) (cwA_V 1 hts wa_512 wa_509 wa_510 wa_511 wa_5 rfl rfl nd_X12_fail ⟨Nat.le_of_ble_eq_true rfl, Nat.le_of_ble_eq_true rfl⟩) rfl rfl rfl rfl (Nat.le_of_ble_eq_true rfl) dX12_between_32 ⟨Nat.le_of_ble_eq_true rfl, Nat.le_of_ble_eq_true rfl⟩ (fun H locs hP hD hS => ?_)
  cases hf
  exact bk_iret C hP hD hS rfl dX12_between_35
def f_X12_between (N : Nat) (x1 : Int32) (x2 : Int32) (σ : Sg) : Option (Int32 × Sg) :=
bd (wr σ 0 2 (0 : Int32)) fun σ2 =>
(f_X12_isFarm N x1 σ2).bind fun q3 =>
if q3.1 = 0 then (f_X12_between_b30 N (q3.2))
else ((f_X12_isFarm N x2 (q3.2)).bind fun q4 =>
if q4.1 = 0 then (f_X12_between_b30 N (q4.2))
else ((f_X12_inTheWay N x1 x2 (q4.2)).bind fun q5 =>
some (q5.1, (q5.2))))
set_option maxHeartbeats 4000000 in
set_option maxRecDepth 100000 in
theorem b_X12_between {N : Nat} {x1 : Int32} {x2 : Int32} {σ : Sg} {z : Int32 × Sg} (C : Cx p s m args meth c cX12_between 3 (some .int) RX12 g A X) (hf : f_X12_between N x1 x2 σ = some z) : Bk mw p l e rm_X12_between s m args below meth c 3 g A (MQ below (qI mw g A z.1 z.2) args s 0 0 A) 0 0 0 [(0, .ref (g.2.2 0)), (1, .int x1), (2, .int x2)] [] σ := by
  obtain ⟨hx, hb, hr, hml, hown, hts, hK, hlocks, hXX, hA, hXo⟩ := id C
  intro H locs ls hP hD hS hl
  unfold f_X12_between at hf
  refine lv_aload_n hx hb dX12_between_0 rfl (lv_at hl 0 rfl) ?_
  refine lv_iconst (v := (0 : Int32)) hx hb dX12_between_1 (by decide) ?_
  obtain ⟨σ2, eσ2, hf⟩ := bd_s hf
  refine bk_put (wf := mw) (σ1 := σ2) (q0 := 0) (ci := 11) (k := 2) (v := .int (0 : Int32)) C hP hD hS wl_X12 tyX12_ok nmX12 rfl rfl (by decide) wa_205 rfl rfl rfl rfl rfl (Nat.le_of_ble_eq_true rfl) (by rw [eσ2]; exact mw_p0_2 g _ _) dX12_between_2 (fun H locs hP hD hS => ?_)
  refine lv_aload_n hx hb dX12_between_5 rfl (lv_at hl 0 rfl) ?_
  refine lv_iload_n hx hb dX12_between_6 rfl (lv_at hl 1 rfl) ?_
  obtain ⟨q3, hq3, hf⟩ := bi_s hf
  refine bk_VI (wf := mw) (q0 := 0) (ci := 11) (rest := []) [.int x1] C hP hD hS hl.1 (c_X12_isFarm hXo hq3) (cwA_V 1 hts wa_800 wa_797 wa_798 wa_799 wa_5 rfl rfl nd_X12_isFarm ⟨Nat.le_of_ble_eq_true rfl, Nat.le_of_ble_eq_true rfl⟩) rfl rfl rfl rfl (Nat.le_of_ble_eq_true rfl) dX12_between_7 ⟨Nat.le_of_ble_eq_true rfl, Nat.le_of_ble_eq_true rfl⟩ (fun H locs hP hD hS => ?_)
  refine lv_if_eq (tgt := 30) hx hb dX12_between_10 (by decide) (fun t10 => ?_) (fun t10 => ?_)
  · have hf := (if_pos t10).symm.trans hf
    exact b_X12_between_b30 C hf H locs ls hP hD hS (lv_sub hl [0] rfl)
  · have hf := (if_neg t10).symm.trans hf
    refine lv_aload_n hx hb dX12_between_13 rfl (lv_at hl 0 rfl) ?_
    refine lv_iload_n hx hb dX12_between_14 rfl (lv_at hl 2 rfl) ?_
    obtain ⟨q4, hq4, hf⟩ := bi_s hf
    refine bk_VI (wf := mw) (q0 := 0) (ci := 11) (rest := []) [.int x2] C hP hD hS hl.1 (c_X12_isFarm hXo hq4) (cwA_V 1 hts wa_800 wa_797 wa_798 wa_799 wa_5 rfl rfl nd_X12_isFarm ⟨Nat.le_of_ble_eq_true rfl, Nat.le_of_ble_eq_true rfl⟩) rfl rfl rfl rfl (Nat.le_of_ble_eq_true rfl) dX12_between_15 ⟨Nat.le_of_ble_eq_true rfl, Nat.le_of_ble_eq_true rfl⟩ (fun H locs hP hD hS => ?_)
    refine lv_if_eq (tgt := 30) hx hb dX12_between_18 (by decide) (fun t18 => ?_) (fun t18 => ?_)
    · have hf := (if_pos t18).symm.trans hf
      exact b_X12_between_b30 C hf H locs ls hP hD hS (lv_sub hl [0] rfl)
    · have hf := (if_neg t18).symm.trans hf
      refine lv_aload_n hx hb dX12_between_21 rfl (lv_at hl 0 rfl) ?_
      refine lv_iload_n hx hb dX12_between_22 rfl (lv_at hl 1 rfl) ?_
      refine lv_iload_n hx hb dX12_between_23 rfl (lv_at hl 2 rfl) ?_
      obtain ⟨q5, hq5, hf⟩ := bi_s hf
      refine bk_VI (wf := mw) (q0 := 0) (ci := 11) (rest := []) [.int x1, .int x2] C hP hD hS hl.1 (c_X12_inTheWay hXo hq5) (cwA_V 2 hts wa_743 wa_740 wa_741 wa_742 wa_5 rfl rfl nd_X12_inTheWay ⟨Nat.le_of_ble_eq_true rfl, Nat.le_of_ble_eq_true rfl⟩) rfl rfl rfl rfl (Nat.le_of_ble_eq_true rfl) dX12_between_24 ⟨Nat.le_of_ble_eq_true rfl, Nat.le_of_ble_eq_true rfl⟩ (fun H locs hP hD hS => ?_)
      refine lv_goto (tgt := 35) hx hb dX12_between_27 (by decide) ?_
      cases hf
      exact bk_iret C hP hD hS rfl dX12_between_35
theorem c_X12_between {N : Nat} {x1 : Int32} {x2 : Int32} {σ : Sg} {z : Int32 × Sg} (hX : xOK g X) (hf : f_X12_between N x1 x2 σ = some z) : MetI l yX12_between (Cond.code yX12_between cX12_between 3 (some .int) :: wsA) rm_X12_between mw g X [.ref (g.2.2 0), .int x1, .int x2] σ z.1 z.2 :=
  MetI_of hX (by decide) (Nat.le_of_ble_eq_true rfl) (fun p e s m args below meth c A C => b_X12_between C hf)
-- X12_nextTo: nextTo(I)I
abbrev rm_X12_nextTo : Room := { frames := 0, cells := 0, slots := 0, locals := 0 }
theorem nd_X12_nextTo : yX12_nextTo.cls ≠ "java/lang/invoke/MethodHandle" ∧ yX12_nextTo.cls ≠ "java/lang/invoke/VarHandle" ∧ (parseMethodDescriptor yX12_nextTo.desc).map (fun d => d.parameters.length) = some 1 := by decide +kernel
def f_X12_nextTo_b51 (N : Nat) (x1 : Int32) (x2 : Int32) (x3 : Int32) (σ : Sg) : Option (Nat × Int32 × Int32 × Sg) :=
bd (x3 + (1 : Int32)) fun v1 =>
some (0, x2, v1, σ)
set_option maxHeartbeats 4000000 in
set_option maxRecDepth 100000 in
theorem b_X12_nextTo_b51 {N : Nat} {x1 : Int32} {x2 : Int32} {x3 : Int32} {σ : Sg} {z : Nat × Int32 × Int32 × Sg} (C : Cx p s m args meth c cX12_nextTo 4 (some .int) RX12 g A X) (hf : f_X12_nextTo_b51 N x1 x2 x3 σ = some z) (k0 : z.1 = 0 → Bk mw p l e rm_X12_nextTo s m args below meth c 4 g A Q 0 0 4 [(0, .ref (g.2.2 0)), (1, .int x1), (2, .int z.2.1), (3, .int z.2.2.1)] [] z.2.2.2) (k : ¬ z.1 = 0 → Bk mw p l e rm_X12_nextTo s m args below meth c 4 g A Q 0 0 57 [(2, .int z.2.1)] [] z.2.2.2) : Bk mw p l e rm_X12_nextTo s m args below meth c 4 g A Q 0 0 51 [(0, .ref (g.2.2 0)), (1, .int x1), (2, .int x2), (3, .int x3)] [] σ := by
  obtain ⟨hx, hb, hr, hml, hown, hts, hK, hlocks, hXX, hA, hXo⟩ := id C
  intro H locs ls hP hD hS hl
  unfold f_X12_nextTo_b51 at hf
  obtain ⟨v1, ev1, hf⟩ := bd_s hf
  refine lv_iinc (v := v1) (lv' := [(3, .int v1), (0, .ref (g.2.2 0)), (1, .int x1), (2, .int x2)]) hx hb dX12_nextTo_51 hl (k := 3) rfl (by rw [ev1]; rfl) (by decide) rfl (fun ls hl => ?_)
  refine lv_goto (tgt := 4) hx hb dX12_nextTo_54 (by decide) ?_
  cases hf
  exact k0 rfl H locs ls hP hD hS (lv_sub hl [1, 2, 3, 0] rfl)
def f_X12_nextTo_b49 (N : Nat) (x1 : Int32) (x3 : Int32) (σ : Sg) : Option (Nat × Int32 × Int32 × Sg) :=
f_X12_nextTo_b51 N x1 x3 x3 σ
set_option maxHeartbeats 4000000 in
set_option maxRecDepth 100000 in
theorem b_X12_nextTo_b49 {N : Nat} {x1 : Int32} {x3 : Int32} {σ : Sg} {z : Nat × Int32 × Int32 × Sg} (C : Cx p s m args meth c cX12_nextTo 4 (some .int) RX12 g A X) (hf : f_X12_nextTo_b49 N x1 x3 σ = some z) (k0 : z.1 = 0 → Bk mw p l e rm_X12_nextTo s m args below meth c 4 g A Q 0 0 4 [(0, .ref (g.2.2 0)), (1, .int x1), (2, .int z.2.1), (3, .int z.2.2.1)] [] z.2.2.2) (k : ¬ z.1 = 0 → Bk mw p l e rm_X12_nextTo s m args below meth c 4 g A Q 0 0 57 [(2, .int z.2.1)] [] z.2.2.2) : Bk mw p l e rm_X12_nextTo s m args below meth c 4 g A Q 0 0 49 [(0, .ref (g.2.2 0)), (1, .int x1), (3, .int x3)] [] σ := by
  obtain ⟨hx, hb, hr, hml, hown, hts, hK, hlocks, hXX, hA, hXo⟩ := id C
  intro H locs ls hP hD hS hl
  unfold f_X12_nextTo_b49 at hf
  refine lv_iload_n hx hb dX12_nextTo_49 rfl (lv_at hl 2 rfl) ?_
  refine lv_istore_n (lv' := [(2, .int x3), (0, .ref (g.2.2 0)), (1, .int x1), (3, .int x3)]) hx hb dX12_nextTo_50 rfl hl (by decide) rfl (fun ls hl => ?_)
  exact b_X12_nextTo_b51 C hf k0 k H locs ls hP hD hS (lv_sub hl [1, 2, 0, 3] rfl)
def s_X12_nextTo_h4 (N : Nat) (x1 : Int32) (x2 : Int32) (x3 : Int32) (σ : Sg) : Option (Nat × Int32 × Int32 × Sg) :=
if (σ 3 0) ≤ x3 then (some (1, x2, 0, σ))
else (if (x3 < 0 ∨ 18 ≤ x3.toNatClampNeg) then none else
if (x1 < 0 ∨ 18 ≤ x1.toNatClampNeg) then none else
if (σ 5 x3.toNatClampNeg) ≤ (σ 5 x1.toNatClampNeg) then (f_X12_nextTo_b51 N x1 x2 x3 σ)
else (if x2 = (-1 : Int32) then (f_X12_nextTo_b49 N x1 x3 σ)
else (if (x3 < 0 ∨ 18 ≤ x3.toNatClampNeg) then none else
if (x2 < 0 ∨ 18 ≤ x2.toNatClampNeg) then none else
if (σ 5 x2.toNatClampNeg) ≤ (σ 5 x3.toNatClampNeg) then (f_X12_nextTo_b51 N x1 x2 x3 σ)
else (f_X12_nextTo_b49 N x1 x3 σ))))
set_option maxHeartbeats 4000000 in
set_option maxRecDepth 100000 in
theorem e_X12_nextTo_h4 {N : Nat} {x1 : Int32} {x2 : Int32} {x3 : Int32} {σ : Sg} {z : Nat × Int32 × Int32 × Sg} (C : Cx p s m args meth c cX12_nextTo 4 (some .int) RX12 g A X) (hf : s_X12_nextTo_h4 N x1 x2 x3 σ = some z) (k0 : z.1 = 0 → Bk mw p l e rm_X12_nextTo s m args below meth c 4 g A Q 0 0 4 [(0, .ref (g.2.2 0)), (1, .int x1), (2, .int z.2.1), (3, .int z.2.2.1)] [] z.2.2.2) (k : ¬ z.1 = 0 → Bk mw p l e rm_X12_nextTo s m args below meth c 4 g A Q 0 0 57 [(2, .int z.2.1)] [] z.2.2.2) : Bk mw p l e rm_X12_nextTo s m args below meth c 4 g A Q 0 0 4 [(0, .ref (g.2.2 0)), (1, .int x1), (2, .int x2), (3, .int x3)] [] σ := by
  obtain ⟨hx, hb, hr, hml, hown, hts, hK, hlocks, hXX, hA, hXo⟩ := id C
  intro H locs ls hP hD hS hl
  unfold s_X12_nextTo_h4 at hf
  refine lv_iload_n hx hb dX12_nextTo_4 rfl (lv_at hl 3 rfl) ?_
  refine lv_aload_n hx hb dX12_nextTo_5 rfl (lv_at hl 0 rfl) ?_
  refine bk_get (wf := mw) (q0 := 0) (ci := 11) (k := 3) (v := .ref (g.2.2 3)) C hP wl_X12 rfl rfl (by decide) wa_157 rfl rfl dX12_nextTo_6 ?_
  refine lv_iconst (v := (0 : Int32)) hx hb dX12_nextTo_9 (by decide) ?_
  refine bk_iald (wf := mw) (q0 := 3) (n := 10) (j := 0) C hP rfl (vin_l (by decide) (by decide)) (by decide) dX12_nextTo_10 ?_
  refine lv_icmp_ge (tgt := 57) hx hb dX12_nextTo_11 (by decide) (fun t11 => ?_) (fun t11 => ?_)
  · have hf := (if_pos t11).symm.trans hf
    cases hf
    exact (k (show ¬ (1 : Nat) = 0 by decide)) H locs ls hP hD hS (lv_sub hl [2] rfl)
  · have hf := (if_neg t11).symm.trans hf
    refine lv_aload_n hx hb dX12_nextTo_14 rfl (lv_at hl 0 rfl) ?_
    refine bk_get (wf := mw) (q0 := 0) (ci := 11) (k := 5) (v := .ref (g.2.2 5)) C hP wl_X12 rfl rfl (by decide) wa_159 rfl rfl dX12_nextTo_15 ?_
    refine lv_iload_n hx hb dX12_nextTo_18 rfl (lv_at hl 3 rfl) ?_
    obtain ⟨g2, hf⟩ := gd_s hf
    refine bk_iald (wf := mw) (q0 := 5) (n := 18) (j := x3.toNatClampNeg) C hP rfl g2 rfl dX12_nextTo_19 ?_
    refine lv_aload_n hx hb dX12_nextTo_20 rfl (lv_at hl 0 rfl) ?_
    refine bk_get (wf := mw) (q0 := 0) (ci := 11) (k := 5) (v := .ref (g.2.2 5)) C hP wl_X12 rfl rfl (by decide) wa_159 rfl rfl dX12_nextTo_21 ?_
    refine lv_iload_n hx hb dX12_nextTo_24 rfl (lv_at hl 1 rfl) ?_
    obtain ⟨g3, hf⟩ := gd_s hf
    refine bk_iald (wf := mw) (q0 := 5) (n := 18) (j := x1.toNatClampNeg) C hP rfl g3 rfl dX12_nextTo_25 ?_
    refine lv_icmp_le (tgt := 51) hx hb dX12_nextTo_26 (by decide) (fun t26 => ?_) (fun t26 => ?_)
    · have hf := (if_pos t26).symm.trans hf
      exact b_X12_nextTo_b51 C hf k0 k H locs ls hP hD hS (lv_sub hl [0, 1, 2, 3] rfl)
    · have hf := (if_neg t26).symm.trans hf
      refine lv_iload_n hx hb dX12_nextTo_29 rfl (lv_at hl 2 rfl) ?_
      refine lv_iconst (v := (-1 : Int32)) hx hb dX12_nextTo_30 (by decide) ?_
      refine lv_icmp_eq (tgt := 49) hx hb dX12_nextTo_31 (by decide) (fun t31 => ?_) (fun t31 => ?_)
      · have hf := (if_pos t31).symm.trans hf
        exact b_X12_nextTo_b49 C hf k0 k H locs ls hP hD hS (lv_sub hl [0, 1, 3] rfl)
      · have hf := (if_neg t31).symm.trans hf
        refine lv_aload_n hx hb dX12_nextTo_34 rfl (lv_at hl 0 rfl) ?_
        refine bk_get (wf := mw) (q0 := 0) (ci := 11) (k := 5) (v := .ref (g.2.2 5)) C hP wl_X12 rfl rfl (by decide) wa_159 rfl rfl dX12_nextTo_35 ?_
        refine lv_iload_n hx hb dX12_nextTo_38 rfl (lv_at hl 3 rfl) ?_
        obtain ⟨g4, hf⟩ := gd_s hf
        refine bk_iald (wf := mw) (q0 := 5) (n := 18) (j := x3.toNatClampNeg) C hP rfl g4 rfl dX12_nextTo_39 ?_
        refine lv_aload_n hx hb dX12_nextTo_40 rfl (lv_at hl 0 rfl) ?_
        refine bk_get (wf := mw) (q0 := 0) (ci := 11) (k := 5) (v := .ref (g.2.2 5)) C hP wl_X12 rfl rfl (by decide) wa_159 rfl rfl dX12_nextTo_41 ?_
        refine lv_iload_n hx hb dX12_nextTo_44 rfl (lv_at hl 2 rfl) ?_
        obtain ⟨g5, hf⟩ := gd_s hf
        refine bk_iald (wf := mw) (q0 := 5) (n := 18) (j := x2.toNatClampNeg) C hP rfl g5 rfl dX12_nextTo_45 ?_
        refine lv_icmp_ge (tgt := 51) hx hb dX12_nextTo_46 (by decide) (fun t46 => ?_) (fun t46 => ?_)
        · have hf := (if_pos t46).symm.trans hf
          exact b_X12_nextTo_b51 C hf k0 k H locs ls hP hD hS (lv_sub hl [0, 1, 2, 3] rfl)
        · have hf := (if_neg t46).symm.trans hf
          exact b_X12_nextTo_b49 C hf k0 k H locs ls hP hD hS (lv_sub hl [0, 1, 3] rfl)
theorem lp_X12_nextTo_h4 {N : Nat} {n : Nat} {x1 : Int32} {x2 : Int32} {x3 : Int32} {σ : Sg} {z : Nat × Int32 × Int32 × Sg} (C : Cx p s m args meth c cX12_nextTo 4 (some .int) RX12 g A X) (hz : it (fun q => s_X12_nextTo_h4 N x1 q.1 q.2.1 q.2.2) n (x2, x3, σ) = some z) (k : Bk mw p l e rm_X12_nextTo s m args below meth c 4 g A Q 0 0 57 [(2, .int z.2.1)] [] z.2.2.2) : Bk mw p l e rm_X12_nextTo s m args below meth c 4 g A Q 0 0 4 [(0, .ref (g.2.2 0)), (1, .int x1), (2, .int x2), (3, .int x3)] [] σ :=
  it_W (S := Int32 × Int32 × Sg) (fun q => Bk mw p l e rm_X12_nextTo s m args below meth c 4 g A Q 0 0 4 [(0, .ref (g.2.2 0)), (1, .int x1), (2, .int q.1), (3, .int q.2.1)] [] q.2.2) (fun z => Bk mw p l e rm_X12_nextTo s m args below meth c 4 g A Q 0 0 57 [(2, .int z.2.1)] [] z.2.2.2) (fun q z hq k0 k => e_X12_nextTo_h4 C hq k0 k) n (x2, x3, σ) z hz k
def f_X12_nextTo (N : Nat) (x1 : Int32) (σ : Sg) : Option (Int32 × Sg) :=
(it (fun q => s_X12_nextTo_h4 N x1 q.1 q.2.1 q.2.2) N ((-1 : Int32), (0 : Int32), σ)).bind fun z6 =>
some ((z6.2.1), (z6.2.2.2))
set_option maxHeartbeats 4000000 in
set_option maxRecDepth 100000 in
theorem b_X12_nextTo {N : Nat} {x1 : Int32} {σ : Sg} {z : Int32 × Sg} (C : Cx p s m args meth c cX12_nextTo 4 (some .int) RX12 g A X) (hf : f_X12_nextTo N x1 σ = some z) : Bk mw p l e rm_X12_nextTo s m args below meth c 4 g A (MQ below (qI mw g A z.1 z.2) args s 0 0 A) 0 0 0 [(0, .ref (g.2.2 0)), (1, .int x1)] [] σ := by
  obtain ⟨hx, hb, hr, hml, hown, hts, hK, hlocks, hXX, hA, hXo⟩ := id C
  intro H locs ls hP hD hS hl
  unfold f_X12_nextTo at hf
  refine lv_iconst (v := (-1 : Int32)) hx hb dX12_nextTo_0 (by decide) ?_
  refine lv_istore_n (lv' := [(2, .int (-1 : Int32)), (0, .ref (g.2.2 0)), (1, .int x1)]) hx hb dX12_nextTo_1 rfl hl (by decide) rfl (fun ls hl => ?_)
  refine lv_iconst (v := (0 : Int32)) hx hb dX12_nextTo_2 (by decide) ?_
  refine lv_istore_n (lv' := [(3, .int (0 : Int32)), (2, .int (-1 : Int32)), (0, .ref (g.2.2 0)), (1, .int x1)]) hx hb dX12_nextTo_3 rfl hl (by decide) rfl (fun ls hl => ?_)
  obtain ⟨z6, hz6, hf⟩ := bi_s hf
  refine lp_X12_nextTo_h4 C hz6 ?_ H locs ls hP hD hS (lv_sub hl [2, 3, 1, 0] rfl)
  intro H locs ls hP hD hS hl
  refine lv_iload_n hx hb dX12_nextTo_57 rfl (lv_at hl 0 rfl) ?_
  cases hf
  exact bk_iret C hP hD hS rfl dX12_nextTo_58
theorem c_X12_nextTo {N : Nat} {x1 : Int32} {σ : Sg} {z : Int32 × Sg} (hX : xOK g X) (hf : f_X12_nextTo N x1 σ = some z) : MetI l yX12_nextTo (Cond.code yX12_nextTo cX12_nextTo 4 (some .int) :: wsA) rm_X12_nextTo mw g X [.ref (g.2.2 0), .int x1] σ z.1 z.2 :=
  MetI_of hX (by decide) (Nat.le_of_ble_eq_true rfl) (fun p e s m args below meth c A C => b_X12_nextTo C hf)
-- X12_line: line()I
abbrev rm_X12_line : Room := { frames := 4, cells := 0, slots := 0, locals := 93 }
theorem nd_X12_line : yX12_line.cls ≠ "java/lang/invoke/MethodHandle" ∧ yX12_line.cls ≠ "java/lang/invoke/VarHandle" ∧ (parseMethodDescriptor yX12_line.desc).map (fun d => d.parameters.length) = some 0 := by decide +kernel
def s_X12_line_h24 (N : Nat) (x1 : Int32) (x2 : Int32) (x3 : Int32) (x4 : Int32) (σ : Sg) : Option (Nat × Int32 × Int32 × Sg) :=
(f_X12_nextTo N x4 σ).bind fun q1 =>
if q1.1 = (-1 : Int32) then (some (1, x3, 0, (q1.2)))
else ((f_X12_nextTo N x4 (q1.2)).bind fun q2 =>
(f_X12_inSight N x4 q2.1 (q2.2)).bind fun q3 =>
if q3.1 = 0 then (some (1, x3, 0, (q3.2)))
else ((f_X12_nextTo N x4 (q3.2)).bind fun q4 =>
bd q4.1 fun v5 =>
bd (x3 + (1 : Int32)) fun v6 =>
some (0, v6, v5, (q4.2))))
set_option maxHeartbeats 4000000 in
set_option maxRecDepth 100000 in
theorem e_X12_line_h24 {N : Nat} {x1 : Int32} {x2 : Int32} {x3 : Int32} {x4 : Int32} {σ : Sg} {z : Nat × Int32 × Int32 × Sg} (C : Cx p s m args meth c cX12_line 5 (some .int) RX12 g A X) (hf : s_X12_line_h24 N x1 x2 x3 x4 σ = some z) (k0 : z.1 = 0 → Bk mw p l e rm_X12_line s m args below meth c 5 g A Q 0 0 24 [(0, .ref (g.2.2 0)), (1, .int x1), (2, .int x2), (3, .int z.2.1), (4, .int z.2.2.1)] [] z.2.2.2) (k : ¬ z.1 = 0 → Bk mw p l e rm_X12_line s m args below meth c 5 g A Q 0 0 63 [(0, .ref (g.2.2 0)), (1, .int x1), (2, .int x2), (3, .int z.2.1)] [] z.2.2.2) : Bk mw p l e rm_X12_line s m args below meth c 5 g A Q 0 0 24 [(0, .ref (g.2.2 0)), (1, .int x1), (2, .int x2), (3, .int x3), (4, .int x4)] [] σ := by
  obtain ⟨hx, hb, hr, hml, hown, hts, hK, hlocks, hXX, hA, hXo⟩ := id C
  intro H locs ls hP hD hS hl
  unfold s_X12_line_h24 at hf
  refine lv_aload_n hx hb dX12_line_24 rfl (lv_at hl 0 rfl) ?_
  refine lv_iload hx hb dX12_line_25 (lv_at hl 4 rfl) ?_
  obtain ⟨q1, hq1, hf⟩ := bi_s hf
  refine bk_VI (wf := mw) (q0 := 0) (ci := 11) (rest := []) [.int x4] C hP hD hS hl.1 (c_X12_nextTo hXo hq1) (cwA_V 1 hts wa_1239 wa_1236 wa_1237 wa_1238 wa_5 rfl rfl nd_X12_nextTo ⟨Nat.le_of_ble_eq_true rfl, Nat.le_of_ble_eq_true rfl⟩) rfl rfl rfl rfl (Nat.le_of_ble_eq_true rfl) dX12_line_27 ⟨Nat.le_of_ble_eq_true rfl, Nat.le_of_ble_eq_true rfl⟩ (fun H locs hP hD hS => ?_)
  refine lv_iconst (v := (-1 : Int32)) hx hb dX12_line_30 (by decide) ?_
  refine lv_icmp_eq (tgt := 63) hx hb dX12_line_31 (by decide) (fun t31 => ?_) (fun t31 => ?_)
  · have hf := (if_pos t31).symm.trans hf
    cases hf
    exact (k (show ¬ (1 : Nat) = 0 by decide)) H locs ls hP hD hS (lv_sub hl [0, 1, 2, 3] rfl)
  · have hf := (if_neg t31).symm.trans hf
    refine lv_aload_n hx hb dX12_line_34 rfl (lv_at hl 0 rfl) ?_
    refine lv_iload hx hb dX12_line_35 (lv_at hl 4 rfl) ?_
    refine lv_aload_n hx hb dX12_line_37 rfl (lv_at hl 0 rfl) ?_
    refine lv_iload hx hb dX12_line_38 (lv_at hl 4 rfl) ?_
    obtain ⟨q2, hq2, hf⟩ := bi_s hf
    refine bk_VI (wf := mw) (q0 := 0) (ci := 11) (rest := [.int x4, .ref (g.2.2 0)]) [.int x4] C hP hD hS hl.1 (c_X12_nextTo hXo hq2) (cwA_V 1 hts wa_1239 wa_1236 wa_1237 wa_1238 wa_5 rfl rfl nd_X12_nextTo ⟨Nat.le_of_ble_eq_true rfl, Nat.le_of_ble_eq_true rfl⟩) rfl rfl rfl rfl (Nat.le_of_ble_eq_true rfl) dX12_line_40 ⟨Nat.le_of_ble_eq_true rfl, Nat.le_of_ble_eq_true rfl⟩ (fun H locs hP hD hS => ?_)
    obtain ⟨q3, hq3, hf⟩ := bi_s hf
    refine bk_VI (wf := mw) (q0 := 0) (ci := 11) (rest := []) [.int x4, .int q2.1] C hP hD hS hl.1 (c_X12_inSight hXo hq3) (cwA_V 2 hts wa_738 wa_735 wa_736 wa_737 wa_5 rfl rfl nd_X12_inSight ⟨Nat.le_of_ble_eq_true rfl, Nat.le_of_ble_eq_true rfl⟩) rfl rfl rfl rfl (Nat.le_of_ble_eq_true rfl) dX12_line_43 ⟨Nat.le_of_ble_eq_true rfl, Nat.le_of_ble_eq_true rfl⟩ (fun H locs hP hD hS => ?_)
    refine lv_if_eq (tgt := 63) hx hb dX12_line_46 (by decide) (fun t46 => ?_) (fun t46 => ?_)
    · have hf := (if_pos t46).symm.trans hf
      cases hf
      exact (k (show ¬ (1 : Nat) = 0 by decide)) H locs ls hP hD hS (lv_sub hl [0, 1, 2, 3] rfl)
    · have hf := (if_neg t46).symm.trans hf
      refine lv_aload_n hx hb dX12_line_49 rfl (lv_at hl 0 rfl) ?_
      refine lv_iload hx hb dX12_line_50 (lv_at hl 4 rfl) ?_
      obtain ⟨q4, hq4, hf⟩ := bi_s hf
      refine bk_VI (wf := mw) (q0 := 0) (ci := 11) (rest := []) [.int x4] C hP hD hS hl.1 (c_X12_nextTo hXo hq4) (cwA_V 1 hts wa_1239 wa_1236 wa_1237 wa_1238 wa_5 rfl rfl nd_X12_nextTo ⟨Nat.le_of_ble_eq_true rfl, Nat.le_of_ble_eq_true rfl⟩) rfl rfl rfl rfl (Nat.le_of_ble_eq_true rfl) dX12_line_52 ⟨Nat.le_of_ble_eq_true rfl, Nat.le_of_ble_eq_true rfl⟩ (fun H locs hP hD hS => ?_)
      obtain ⟨v5, ev5, hf⟩ := bd_s hf
      rw [← ev5]
      refine lv_istore (lv' := [(4, .int v5), (0, .ref (g.2.2 0)), (1, .int x1), (2, .int x2), (3, .int x3)]) hx hb dX12_line_55 hl (by decide) rfl (fun ls hl => ?_)
      obtain ⟨v6, ev6, hf⟩ := bd_s hf
      refine lv_iinc (v := v6) (lv' := [(3, .int v6), (4, .int v5), (0, .ref (g.2.2 0)), (1, .int x1), (2, .int x2)]) hx hb dX12_line_57 hl (k := 4) rfl (by rw [ev6]; rfl) (by decide) rfl (fun ls hl => ?_)
      refine lv_goto (tgt := 24) hx hb dX12_line_60 (by decide) ?_
      cases hf
      exact k0 rfl H locs ls hP hD hS (lv_sub hl [2, 3, 4, 0, 1] rfl)
theorem lp_X12_line_h24 {N : Nat} {n : Nat} {x1 : Int32} {x2 : Int32} {x3 : Int32} {x4 : Int32} {σ : Sg} {z : Nat × Int32 × Int32 × Sg} (C : Cx p s m args meth c cX12_line 5 (some .int) RX12 g A X) (hz : it (fun q => s_X12_line_h24 N x1 x2 q.1 q.2.1 q.2.2) n (x3, x4, σ) = some z) (k : Bk mw p l e rm_X12_line s m args below meth c 5 g A Q 0 0 63 [(0, .ref (g.2.2 0)), (1, .int x1), (2, .int x2), (3, .int z.2.1)] [] z.2.2.2) : Bk mw p l e rm_X12_line s m args below meth c 5 g A Q 0 0 24 [(0, .ref (g.2.2 0)), (1, .int x1), (2, .int x2), (3, .int x3), (4, .int x4)] [] σ :=
  it_W (S := Int32 × Int32 × Sg) (fun q => Bk mw p l e rm_X12_line s m args below meth c 5 g A Q 0 0 24 [(0, .ref (g.2.2 0)), (1, .int x1), (2, .int x2), (3, .int q.1), (4, .int q.2.1)] [] q.2.2) (fun z => Bk mw p l e rm_X12_line s m args below meth c 5 g A Q 0 0 63 [(0, .ref (g.2.2 0)), (1, .int x1), (2, .int x2), (3, .int z.2.1)] [] z.2.2.2) (fun q z hq k0 k => e_X12_line_h24 C hq k0 k) n (x3, x4, σ) z hz k
def s_X12_line_h9 (N : Nat) (x1 : Int32) (x2 : Int32) (σ : Sg) : Option (Nat × Int32 × Int32 × Sg) :=
if (σ 3 0) ≤ x2 then (some (1, x1, 0, σ))
else ((it (fun q => s_X12_line_h24 N x1 x2 q.1 q.2.1 q.2.2) N ((1 : Int32), x2, σ)).bind fun z7 =>
bd (if x1 < (z7.2.1) then (z7.2.1) else x1) fun v8 =>
bd (x2 + (1 : Int32)) fun v9 =>
some (0, v8, v9, (z7.2.2.2)))
set_option maxHeartbeats 4000000 in
set_option maxRecDepth 100000 in
theorem e_X12_line_h9 {N : Nat} {x1 : Int32} {x2 : Int32} {σ : Sg} {z : Nat × Int32 × Int32 × Sg} (C : Cx p s m args meth c cX12_line 5 (some .int) RX12 g A X) (hf : s_X12_line_h9 N x1 x2 σ = some z) (k0 : z.1 = 0 → Bk mw p l e rm_X12_line s m args below meth c 5 g A Q 0 0 9 [(0, .ref (g.2.2 0)), (1, .int z.2.1), (2, .int z.2.2.1)] [] z.2.2.2) (k : ¬ z.1 = 0 → Bk mw p l e rm_X12_line s m args below meth c 5 g A Q 0 0 75 [(1, .int z.2.1)] [] z.2.2.2) : Bk mw p l e rm_X12_line s m args below meth c 5 g A Q 0 0 9 [(0, .ref (g.2.2 0)), (1, .int x1), (2, .int x2)] [] σ := by
  obtain ⟨hx, hb, hr, hml, hown, hts, hK, hlocks, hXX, hA, hXo⟩ := id C
  intro H locs ls hP hD hS hl
  unfold s_X12_line_h9 at hf
  refine lv_iload_n hx hb dX12_line_9 rfl (lv_at hl 2 rfl) ?_
  refine lv_aload_n hx hb dX12_line_10 rfl (lv_at hl 0 rfl) ?_
  refine bk_get (wf := mw) (q0 := 0) (ci := 11) (k := 3) (v := .ref (g.2.2 3)) C hP wl_X12 rfl rfl (by decide) wa_157 rfl rfl dX12_line_11 ?_
  refine lv_iconst (v := (0 : Int32)) hx hb dX12_line_14 (by decide) ?_
  refine bk_iald (wf := mw) (q0 := 3) (n := 10) (j := 0) C hP rfl (vin_l (by decide) (by decide)) (by decide) dX12_line_15 ?_
  refine lv_icmp_ge (tgt := 75) hx hb dX12_line_16 (by decide) (fun t16 => ?_) (fun t16 => ?_)
  · have hf := (if_pos t16).symm.trans hf
    cases hf
    exact (k (show ¬ (1 : Nat) = 0 by decide)) H locs ls hP hD hS (lv_sub hl [1] rfl)
  · have hf := (if_neg t16).symm.trans hf
    refine lv_iconst (v := (1 : Int32)) hx hb dX12_line_19 (by decide) ?_
    refine lv_istore_n (lv' := [(3, .int (1 : Int32)), (0, .ref (g.2.2 0)), (1, .int x1), (2, .int x2)]) hx hb dX12_line_20 rfl hl (by decide) rfl (fun ls hl => ?_)
    refine lv_iload_n hx hb dX12_line_21 rfl (lv_at hl 3 rfl) ?_
    refine lv_istore (lv' := [(4, .int x2), (3, .int (1 : Int32)), (0, .ref (g.2.2 0)), (1, .int x1), (2, .int x2)]) hx hb dX12_line_22 hl (by decide) rfl (fun ls hl => ?_)
    obtain ⟨z7, hz7, hf⟩ := bi_s hf
    refine lp_X12_line_h24 C hz7 ?_ H locs ls hP hD hS (lv_sub hl [2, 3, 4, 1, 0] rfl)
    intro H locs ls hP hD hS hl
    refine lv_iload_n hx hb dX12_line_63 rfl (lv_at hl 1 rfl) ?_
    refine lv_iload_n hx hb dX12_line_64 rfl (lv_at hl 3 rfl) ?_
    refine va_mmax hx hb (hml.trans hl.1.symm) hown (hts _ wa_748) (hts _ wa_749) (hts _ wa_231) (hts _ wa_750) (Nat.le_of_ble_eq_true rfl) (Nat.le_of_ble_eq_true rfl) (Nat.le_of_ble_eq_true rfl) (Nat.le_of_ble_eq_true rfl) dX12_line_65 ?_
    obtain ⟨v8, ev8, hf⟩ := bd_s hf
    rw [← ev8]
    refine lv_istore_n (lv' := [(1, .int v8), (0, .ref (g.2.2 0)), (2, .int x2), (3, .int (z7.2.1))]) hx hb dX12_line_68 rfl hl (by decide) rfl (fun ls hl => ?_)
    obtain ⟨v9, ev9, hf⟩ := bd_s hf
    refine lv_iinc (v := v9) (lv' := [(2, .int v9), (1, .int v8), (0, .ref (g.2.2 0)), (3, .int (z7.2.1))]) hx hb dX12_line_69 hl (k := 2) rfl (by rw [ev9]; rfl) (by decide) rfl (fun ls hl => ?_)
    refine lv_goto (tgt := 9) hx hb dX12_line_72 (by decide) ?_
    cases hf
    exact k0 rfl H locs ls hP hD hS (lv_sub hl [2, 1, 0] rfl)
theorem lp_X12_line_h9 {N : Nat} {n : Nat} {x1 : Int32} {x2 : Int32} {σ : Sg} {z : Nat × Int32 × Int32 × Sg} (C : Cx p s m args meth c cX12_line 5 (some .int) RX12 g A X) (hz : it (fun q => s_X12_line_h9 N q.1 q.2.1 q.2.2) n (x1, x2, σ) = some z) (k : Bk mw p l e rm_X12_line s m args below meth c 5 g A Q 0 0 75 [(1, .int z.2.1)] [] z.2.2.2) : Bk mw p l e rm_X12_line s m args below meth c 5 g A Q 0 0 9 [(0, .ref (g.2.2 0)), (1, .int x1), (2, .int x2)] [] σ :=
  it_W (S := Int32 × Int32 × Sg) (fun q => Bk mw p l e rm_X12_line s m args below meth c 5 g A Q 0 0 9 [(0, .ref (g.2.2 0)), (1, .int q.1), (2, .int q.2.1)] [] q.2.2) (fun z => Bk mw p l e rm_X12_line s m args below meth c 5 g A Q 0 0 75 [(1, .int z.2.1)] [] z.2.2.2) (fun q z hq k0 k => e_X12_line_h9 C hq k0 k) n (x1, x2, σ) z hz k
def f_X12_line (N : Nat) (σ : Sg) : Option (Int32 × Sg) :=
bd (wr σ 0 2 (0 : Int32)) fun σ10 =>
(it (fun q => s_X12_line_h9 N q.1 q.2.1 q.2.2) N ((0 : Int32), (0 : Int32), σ10)).bind fun z11 =>
some ((z11.2.1), (z11.2.2.2))
set_option maxHeartbeats 4000000 in
set_option maxRecDepth 100000 in
theorem b_X12_line {N : Nat} {σ : Sg} {z : Int32 × Sg} (C : Cx p s m args meth c cX12_line 5 (some .int) RX12 g A X) (hf : f_X12_line N σ = some z) : Bk mw p l e rm_X12_line s m args below meth c 5 g A (MQ below (qI mw g A z.1 z.2) args s 0 0 A) 0 0 0 [(0, .ref (g.2.2 0))] [] σ := by
  obtain ⟨hx, hb, hr, hml, hown, hts, hK, hlocks, hXX, hA, hXo⟩ := id C
  intro H locs ls hP hD hS hl
  unfold f_X12_line at hf
  refine lv_aload_n hx hb dX12_line_0 rfl (lv_at hl 0 rfl) ?_
  refine lv_iconst (v := (0 : Int32)) hx hb dX12_line_1 (by decide) ?_
  obtain ⟨σ10, eσ10, hf⟩ := bd_s hf
  refine bk_put (wf := mw) (σ1 := σ10) (q0 := 0) (ci := 11) (k := 2) (v := .int (0 : Int32)) C hP hD hS wl_X12 tyX12_ok nmX12 rfl rfl (by decide) wa_205 rfl rfl rfl rfl rfl (Nat.le_of_ble_eq_true rfl) (by rw [eσ10]; exact mw_p0_2 g _ _) dX12_line_2 (fun H locs hP hD hS => ?_)
  refine lv_iconst (v := (0 : Int32)) hx hb dX12_line_5 (by decide) ?_
  refine lv_istore_n (lv' := [(1, .int (0 : Int32)), (0, .ref (g.2.2 0))]) hx hb dX12_line_6 rfl hl (by decide) rfl (fun ls hl => ?_)
  refine lv_iconst (v := (0 : Int32)) hx hb dX12_line_7 (by decide) ?_
  refine lv_istore_n (lv' := [(2, .int (0 : Int32)), (1, .int (0 : Int32)), (0, .ref (g.2.2 0))]) hx hb dX12_line_8 rfl hl (by decide) rfl (fun ls hl => ?_)
  obtain ⟨z11, hz11, hf⟩ := bi_s hf
  refine lp_X12_line_h9 C hz11 ?_ H locs ls hP hD hS (lv_sub hl [2, 1, 0] rfl)
  intro H locs ls hP hD hS hl
  refine lv_iload_n hx hb dX12_line_75 rfl (lv_at hl 0 rfl) ?_
  cases hf
  exact bk_iret C hP hD hS rfl dX12_line_76
theorem c_X12_line {N : Nat} {σ : Sg} {z : Int32 × Sg} (hX : xOK g X) (hf : f_X12_line N σ = some z) : MetI l yX12_line (Cond.code yX12_line cX12_line 5 (some .int) :: wsA) rm_X12_line mw g X [.ref (g.2.2 0)] σ z.1 z.2 :=
  MetI_of hX (by decide) (Nat.le_of_ble_eq_true rfl) (fun p e s m args below meth c A C => b_X12_line C hf)
-- X12_hidden: hidden(I)I
abbrev rm_X12_hidden : Room := { frames := 5, cells := 0, slots := 0, locals := 116 }
theorem nd_X12_hidden : yX12_hidden.cls ≠ "java/lang/invoke/MethodHandle" ∧ yX12_hidden.cls ≠ "java/lang/invoke/VarHandle" ∧ (parseMethodDescriptor yX12_hidden.desc).map (fun d => d.parameters.length) = some 1 := by decide +kernel
def f_X12_hidden (N : Nat) (x1 : Int32) (σ : Sg) : Option (Int32 × Sg) :=
bd (wr σ 0 2 (0 : Int32)) fun σ1 =>
(f_X12_isFarm N x1 σ1).bind fun q2 =>
if q2.1 = 0 then ((f_X12_fail N (1 : Int32) (q2.2)).bind fun q3 =>
some (q3.1, (q3.2)))
else ((f_X12_all N (q2.2)).bind fun q4 =>
(f_X12_seesOf N x1 (q4.2)).bind fun q5 =>
some (((q4.1 &&& (q5.1 ^^^ (-1 : Int32))) &&& (((1 : Int32) <<< (x1 &&& 31)) ^^^ (-1 : Int32))), (q5.2)))
set_option maxHeartbeats 4000000 in
set_option maxRecDepth 100000 in
theorem b_X12_hidden {N : Nat} {x1 : Int32} {σ : Sg} {z : Int32 × Sg} (C : Cx p s m args meth c cX12_hidden 2 (some .int) RX12 g A X) (hf : f_X12_hidden N x1 σ = some z) : Bk mw p l e rm_X12_hidden s m args below meth c 2 g A (MQ below (qI mw g A z.1 z.2) args s 0 0 A) 0 0 0 [(0, .ref (g.2.2 0)), (1, .int x1)] [] σ := by
  obtain ⟨hx, hb, hr, hml, hown, hts, hK, hlocks, hXX, hA, hXo⟩ := id C
  intro H locs ls hP hD hS hl
  unfold f_X12_hidden at hf
  refine lv_aload_n hx hb dX12_hidden_0 rfl (lv_at hl 0 rfl) ?_
  refine lv_iconst (v := (0 : Int32)) hx hb dX12_hidden_1 (by decide) ?_
  obtain ⟨σ1, eσ1, hf⟩ := bd_s hf
  refine bk_put (wf := mw) (σ1 := σ1) (q0 := 0) (ci := 11) (k := 2) (v := .int (0 : Int32)) C hP hD hS wl_X12 tyX12_ok nmX12 rfl rfl (by decide) wa_205 rfl rfl rfl rfl rfl (Nat.le_of_ble_eq_true rfl) (by rw [eσ1]; exact mw_p0_2 g _ _) dX12_hidden_2 (fun H locs hP hD hS => ?_)
  refine lv_aload_n hx hb dX12_hidden_5 rfl (lv_at hl 0 rfl) ?_
  refine lv_iload_n hx hb dX12_hidden_6 rfl (lv_at hl 1 rfl) ?_
  obtain ⟨q2, hq2, hf⟩ := bi_s hf
  refine bk_VI (wf := mw) (q0 := 0) (ci := 11) (rest := []) [.int x1] C hP hD hS hl.1 (c_X12_isFarm hXo hq2) (cwA_V 1 hts wa_800 wa_797 wa_798 wa_799 wa_5 rfl rfl nd_X12_isFarm ⟨Nat.le_of_ble_eq_true rfl, Nat.le_of_ble_eq_true rfl⟩) rfl rfl rfl rfl (Nat.le_of_ble_eq_true rfl) dX12_hidden_7 ⟨Nat.le_of_ble_eq_true rfl, Nat.le_of_ble_eq_true rfl⟩ (fun H locs hP hD hS => ?_)
  refine lv_if_eq (tgt := 34) hx hb dX12_hidden_10 (by decide) (fun t10 => ?_) (fun t10 => ?_)
  · have hf := (if_pos t10).symm.trans hf
    refine lv_aload_n hx hb dX12_hidden_34 rfl (lv_at hl 0 rfl) ?_
    refine lv_iconst (v := (1 : Int32)) hx hb dX12_hidden_35 (by decide) ?_
    obtain ⟨q3, hq3, hf⟩ := bi_s hf
    refine bk_VI (wf := mw) (q0 := 0) (ci := 11) (rest := []) [.int (1 : Int32)] C hP hD hS hl.1 (c_X12_fail hXo hq3) (cwA_V 1 hts wa_512 wa_509 wa_510 wa_511 wa_5 rfl rfl nd_X12_fail ⟨Nat.le_of_ble_eq_true rfl, Nat.le_of_ble_eq_true rfl⟩) rfl rfl rfl rfl (Nat.le_of_ble_eq_true rfl) dX12_hidden_36 ⟨Nat.le_of_ble_eq_true rfl, Nat.le_of_ble_eq_true rfl⟩ (fun H locs hP hD hS => ?_)
    cases hf
    exact bk_iret C hP hD hS rfl dX12_hidden_39
  · have hf := (if_neg t10).symm.trans hf
    refine lv_aload_n hx hb dX12_hidden_13 rfl (lv_at hl 0 rfl) ?_
    obtain ⟨q4, hq4, hf⟩ := bi_s hf
    refine bk_VI (wf := mw) (q0 := 0) (ci := 11) (rest := []) [] C hP hD hS hl.1 (c_X12_all hXo hq4) (cwA_V 0 hts wa_766 wa_763 wa_764 wa_765 wa_5 rfl rfl nd_X12_all ⟨Nat.le_of_ble_eq_true rfl, Nat.le_of_ble_eq_true rfl⟩) rfl rfl rfl rfl (Nat.le_of_ble_eq_true rfl) dX12_hidden_14 ⟨Nat.le_of_ble_eq_true rfl, Nat.le_of_ble_eq_true rfl⟩ (fun H locs hP hD hS => ?_)
    refine lv_aload_n hx hb dX12_hidden_17 rfl (lv_at hl 0 rfl) ?_
    refine lv_iload_n hx hb dX12_hidden_18 rfl (lv_at hl 1 rfl) ?_
    obtain ⟨q5, hq5, hf⟩ := bi_s hf
    refine bk_VI (wf := mw) (q0 := 0) (ci := 11) (rest := [.int q4.1]) [.int x1] C hP hD hS hl.1 (c_X12_seesOf hXo hq5) (cwA_V 1 hts wa_734 wa_731 wa_732 wa_733 wa_5 rfl rfl nd_X12_seesOf ⟨Nat.le_of_ble_eq_true rfl, Nat.le_of_ble_eq_true rfl⟩) rfl rfl rfl rfl (Nat.le_of_ble_eq_true rfl) dX12_hidden_19 ⟨Nat.le_of_ble_eq_true rfl, Nat.le_of_ble_eq_true rfl⟩ (fun H locs hP hD hS => ?_)
    refine lv_iconst (v := (-1 : Int32)) hx hb dX12_hidden_22 (by decide) ?_
    refine lv_ixor hx hb dX12_hidden_23 ?_
    refine lv_iand hx hb dX12_hidden_24 ?_
    refine lv_iconst (v := (1 : Int32)) hx hb dX12_hidden_25 (by decide) ?_
    refine lv_iload_n hx hb dX12_hidden_26 rfl (lv_at hl 1 rfl) ?_
    refine lv_ishl hx hb dX12_hidden_27 ?_
    refine lv_iconst (v := (-1 : Int32)) hx hb dX12_hidden_28 (by decide) ?_
    refine lv_ixor hx hb dX12_hidden_29 ?_
    refine lv_iand hx hb dX12_hidden_30 ?_
    refine lv_goto (tgt := 39) hx hb dX12_hidden_31 (by decide) ?_
    cases hf
    exact bk_iret C hP hD hS rfl dX12_hidden_39
theorem c_X12_hidden {N : Nat} {x1 : Int32} {σ : Sg} {z : Int32 × Sg} (hX : xOK g X) (hf : f_X12_hidden N x1 σ = some z) : MetI l yX12_hidden (Cond.code yX12_hidden cX12_hidden 2 (some .int) :: wsA) rm_X12_hidden mw g X [.ref (g.2.2 0), .int x1] σ z.1 z.2 :=
  MetI_of hX (by decide) (Nat.le_of_ble_eq_true rfl) (fun p e s m args below meth c A C => b_X12_hidden C hf)
-- X12_crowd: crowd(II)I
abbrev rm_X12_crowd : Room := { frames := 6, cells := 0, slots := 0, locals := 138 }
theorem nd_X12_crowd : yX12_crowd.cls ≠ "java/lang/invoke/MethodHandle" ∧ yX12_crowd.cls ≠ "java/lang/invoke/VarHandle" ∧ (parseMethodDescriptor yX12_crowd.desc).map (fun d => d.parameters.length) = some 2 := by decide +kernel
def f_X12_crowd_b91 (N : Nat) (x1 : Int32) (x2 : Int32) (x3 : Int32) (x5 : Int32) (t0 : Int32) (t1 : Int32) (σ : Sg) : Option (Nat × Int32 × Int32 × Int32 × Sg) :=
bd (t0 + t1) fun v1 =>
bd (x5 + (1 : Int32)) fun v2 =>
some (0, x3, v1, v2, σ)
set_option maxHeartbeats 4000000 in
set_option maxRecDepth 100000 in
theorem b_X12_crowd_b91 {N : Nat} {x1 : Int32} {x2 : Int32} {x3 : Int32} {x5 : Int32} {t0 : Int32} {t1 : Int32} {σ : Sg} {z : Nat × Int32 × Int32 × Int32 × Sg} (C : Cx p s m args meth c cX12_crowd 6 (some .int) RX12 g A X) (hf : f_X12_crowd_b91 N x1 x2 x3 x5 t0 t1 σ = some z) (k0 : z.1 = 0 → Bk mw p l e rm_X12_crowd s m args below meth c 6 g A Q 0 0 55 [(0, .ref (g.2.2 0)), (1, .int x1), (2, .int x2), (3, .int z.2.1), (4, .int z.2.2.1), (5, .int z.2.2.2.1)] [] z.2.2.2.2) (k : ¬ z.1 = 0 → Bk mw p l e rm_X12_crowd s m args below meth c 6 g A Q 0 0 100 [(0, .ref (g.2.2 0)), (2, .int x2), (3, .int z.2.1), (4, .int z.2.2.1)] [] z.2.2.2.2) : Bk mw p l e rm_X12_crowd s m args below meth c 6 g A Q 0 0 91 [(0, .ref (g.2.2 0)), (1, .int x1), (2, .int x2), (3, .int x3), (5, .int x5)] [.int t1, .int t0] σ := by
  obtain ⟨hx, hb, hr, hml, hown, hts, hK, hlocks, hXX, hA, hXo⟩ := id C
  intro H locs ls hP hD hS hl
  unfold f_X12_crowd_b91 at hf
  refine lv_iadd hx hb dX12_crowd_91 ?_
  obtain ⟨v1, ev1, hf⟩ := bd_s hf
  rw [← ev1]
  refine lv_istore (lv' := [(4, .int v1), (0, .ref (g.2.2 0)), (1, .int x1), (2, .int x2), (3, .int x3), (5, .int x5)]) hx hb dX12_crowd_92 hl (by decide) rfl (fun ls hl => ?_)
  obtain ⟨v2, ev2, hf⟩ := bd_s hf
  refine lv_iinc (v := v2) (lv' := [(5, .int v2), (4, .int v1), (0, .ref (g.2.2 0)), (1, .int x1), (2, .int x2), (3, .int x3)]) hx hb dX12_crowd_94 hl (k := 5) rfl (by rw [ev2]; rfl) (by decide) rfl (fun ls hl => ?_)
  refine lv_goto (tgt := 55) hx hb dX12_crowd_97 (by decide) ?_
  cases hf
  exact k0 rfl H locs ls hP hD hS (lv_sub hl [2, 3, 4, 5, 1, 0] rfl)
def s_X12_crowd_h55 (N : Nat) (x1 : Int32) (x2 : Int32) (x3 : Int32) (x4 : Int32) (x5 : Int32) (σ : Sg) : Option (Nat × Int32 × Int32 × Int32 × Sg) :=
if x1 ≤ x5 then (some (1, x3, x4, 0, σ))
else ((f_X12_aTick N σ).bind fun q3 =>
(f_X12_bitsOf N (q3 0 35) q3).bind fun q4 =>
bd (if x3 < q4.1 then q4.1 else x3) fun v5 =>
if ((q4.2) 0 35) = 0 then (f_X12_crowd_b91 N x1 x2 v5 x5 x4 (1 : Int32) (q4.2))
else (f_X12_crowd_b91 N x1 x2 v5 x5 x4 (0 : Int32) (q4.2)))
set_option maxHeartbeats 4000000 in
set_option maxRecDepth 100000 in
theorem e_X12_crowd_h55 {N : Nat} {x1 : Int32} {x2 : Int32} {x3 : Int32} {x4 : Int32} {x5 : Int32} {σ : Sg} {z : Nat × Int32 × Int32 × Int32 × Sg} (C : Cx p s m args meth c cX12_crowd 6 (some .int) RX12 g A X) (hf : s_X12_crowd_h55 N x1 x2 x3 x4 x5 σ = some z) (k0 : z.1 = 0 → Bk mw p l e rm_X12_crowd s m args below meth c 6 g A Q 0 0 55 [(0, .ref (g.2.2 0)), (1, .int x1), (2, .int x2), (3, .int z.2.1), (4, .int z.2.2.1), (5, .int z.2.2.2.1)] [] z.2.2.2.2) (k : ¬ z.1 = 0 → Bk mw p l e rm_X12_crowd s m args below meth c 6 g A Q 0 0 100 [(0, .ref (g.2.2 0)), (2, .int x2), (3, .int z.2.1), (4, .int z.2.2.1)] [] z.2.2.2.2) : Bk mw p l e rm_X12_crowd s m args below meth c 6 g A Q 0 0 55 [(0, .ref (g.2.2 0)), (1, .int x1), (2, .int x2), (3, .int x3), (4, .int x4), (5, .int x5)] [] σ := by
  obtain ⟨hx, hb, hr, hml, hown, hts, hK, hlocks, hXX, hA, hXo⟩ := id C
  intro H locs ls hP hD hS hl
  unfold s_X12_crowd_h55 at hf
  refine lv_iload hx hb dX12_crowd_55 (lv_at hl 5 rfl) ?_
  refine lv_iload_n hx hb dX12_crowd_57 rfl (lv_at hl 1 rfl) ?_
  refine lv_icmp_ge (tgt := 100) hx hb dX12_crowd_58 (by decide) (fun t58 => ?_) (fun t58 => ?_)
  · have hf := (if_pos t58).symm.trans hf
    cases hf
    exact (k (show ¬ (1 : Nat) = 0 by decide)) H locs ls hP hD hS (lv_sub hl [0, 2, 3, 4] rfl)
  · have hf := (if_neg t58).symm.trans hf
    refine lv_aload_n hx hb dX12_crowd_61 rfl (lv_at hl 0 rfl) ?_
    obtain ⟨q3, hq3, hf⟩ := bi_s hf
    refine bk_VV (wf := mw) (q0 := 0) (ci := 11) (rest := []) [] C hP hD hS hl.1 (c_X12_aTick hXo hq3) (cwA_V 0 hts wa_903 wa_900 wa_901 wa_902 wa_5 rfl rfl nd_X12_aTick ⟨Nat.le_of_ble_eq_true rfl, Nat.le_of_ble_eq_true rfl⟩) rfl rfl rfl rfl (Nat.le_of_ble_eq_true rfl) dX12_crowd_62 ⟨Nat.le_of_ble_eq_true rfl, Nat.le_of_ble_eq_true rfl⟩ (fun H locs hP hD hS => ?_)
    refine lv_iload_n hx hb dX12_crowd_65 rfl (lv_at hl 3 rfl) ?_
    refine lv_aload_n hx hb dX12_crowd_66 rfl (lv_at hl 0 rfl) ?_
    refine bk_get (wf := mw) (q0 := 0) (ci := 11) (k := 35) (v := .int (q3 0 35)) C hP wl_X12 rfl rfl (by decide) wa_904 rfl rfl dX12_crowd_67 ?_
    obtain ⟨q4, hq4, hf⟩ := bi_s hf
    refine bk_SI (wf := mw) (rest := [.int x3]) [.int (q3 0 35)] C hP hD hS hl.1 (c_X12_bitsOf hXo hq4) (cwA_S 1 hts wa_769 wa_767 wa_768 wa_5 rfl rfl nd_X12_bitsOf ⟨Nat.le_of_ble_eq_true rfl, Nat.le_of_ble_eq_true rfl⟩) rfl rfl (Nat.le_of_ble_eq_true rfl) dX12_crowd_70 ⟨Nat.le_of_ble_eq_true rfl, Nat.le_of_ble_eq_true rfl⟩ (fun H locs hP hD hS => ?_)
    refine va_mmax hx hb (hml.trans hl.1.symm) hown (hts _ wa_748) (hts _ wa_749) (hts _ wa_231) (hts _ wa_750) (Nat.le_of_ble_eq_true rfl) (Nat.le_of_ble_eq_true rfl) (Nat.le_of_ble_eq_true rfl) (Nat.le_of_ble_eq_true rfl) dX12_crowd_73 ?_
    obtain ⟨v5, ev5, hf⟩ := bd_s hf
    rw [← ev5]
    refine lv_istore_n (lv' := [(3, .int v5), (0, .ref (g.2.2 0)), (1, .int x1), (2, .int x2), (4, .int x4), (5, .int x5)]) hx hb dX12_crowd_76 rfl hl (by decide) rfl (fun ls hl => ?_)
    refine lv_iload hx hb dX12_crowd_77 (lv_at hl 4 rfl) ?_
    refine lv_aload_n hx hb dX12_crowd_79 rfl (lv_at hl 1 rfl) ?_
    refine bk_get (wf := mw) (q0 := 0) (ci := 11) (k := 35) (v := .int ((q4.2) 0 35)) C hP wl_X12 rfl rfl (by decide) wa_904 rfl rfl dX12_crowd_80 ?_
    refine lv_if_ne (tgt := 90) hx hb dX12_crowd_83 (by decide) (fun t83 => ?_) (fun t83 => ?_)
    · have hf := (if_neg t83).symm.trans hf
      refine lv_iconst (v := (0 : Int32)) hx hb dX12_crowd_90 (by decide) ?_
      exact b_X12_crowd_b91 C hf k0 k H locs ls hP hD hS (lv_sub hl [1, 2, 3, 0, 5] rfl)
    · have hf := (if_pos t83).symm.trans hf
      refine lv_iconst (v := (1 : Int32)) hx hb dX12_crowd_86 (by decide) ?_
      refine lv_goto (tgt := 91) hx hb dX12_crowd_87 (by decide) ?_
      exact b_X12_crowd_b91 C hf k0 k H locs ls hP hD hS (lv_sub hl [1, 2, 3, 0, 5] rfl)
theorem lp_X12_crowd_h55 {N : Nat} {n : Nat} {x1 : Int32} {x2 : Int32} {x3 : Int32} {x4 : Int32} {x5 : Int32} {σ : Sg} {z : Nat × Int32 × Int32 × Int32 × Sg} (C : Cx p s m args meth c cX12_crowd 6 (some .int) RX12 g A X) (hz : it (fun q => s_X12_crowd_h55 N x1 x2 q.1 q.2.1 q.2.2.1 q.2.2.2) n (x3, x4, x5, σ) = some z) (k : Bk mw p l e rm_X12_crowd s m args below meth c 6 g A Q 0 0 100 [(0, .ref (g.2.2 0)), (2, .int x2), (3, .int z.2.1), (4, .int z.2.2.1)] [] z.2.2.2.2) : Bk mw p l e rm_X12_crowd s m args below meth c 6 g A Q 0 0 55 [(0, .ref (g.2.2 0)), (1, .int x1), (2, .int x2), (3, .int x3), (4, .int x4), (5, .int x5)] [] σ :=
  it_W (S := Int32 × Int32 × Int32 × Sg) (fun q => Bk mw p l e rm_X12_crowd s m args below meth c 6 g A Q 0 0 55 [(0, .ref (g.2.2 0)), (1, .int x1), (2, .int x2), (3, .int q.1), (4, .int q.2.1), (5, .int q.2.2.1)] [] q.2.2.2) (fun z => Bk mw p l e rm_X12_crowd s m args below meth c 6 g A Q 0 0 100 [(0, .ref (g.2.2 0)), (2, .int x2), (3, .int z.2.1), (4, .int z.2.2.1)] [] z.2.2.2.2) (fun q z hq k0 k => e_X12_crowd_h55 C hq k0 k) n (x3, x4, x5, σ) z hz k
def f_X12_crowd_b14 (N : Nat) (σ : Sg) : Option (Int32 × Sg) :=
(f_X12_fail N (1 : Int32) σ).bind fun q6 =>
some (q6.1, (q6.2))
set_option maxHeartbeats 4000000 in
set_option maxRecDepth 100000 in
theorem b_X12_crowd_b14 {N : Nat} {σ : Sg} {z : Int32 × Sg} (C : Cx p s m args meth c cX12_crowd 6 (some .int) RX12 g A X) (hf : f_X12_crowd_b14 N σ = some z) : Bk mw p l e rm_X12_crowd s m args below meth c 6 g A (MQ below (qI mw g A z.1 z.2) args s 0 0 A) 0 0 14 [(0, .ref (g.2.2 0))] [] σ := by
  obtain ⟨hx, hb, hr, hml, hown, hts, hK, hlocks, hXX, hA, hXo⟩ := id C
  intro H locs ls hP hD hS hl
  unfold f_X12_crowd_b14 at hf
  refine lv_aload_n hx hb dX12_crowd_14 rfl (lv_at hl 0 rfl) ?_
  refine lv_iconst (v := (1 : Int32)) hx hb dX12_crowd_15 (by decide) ?_
  obtain ⟨q6, hq6, hf⟩ := bi_s hf
  refine bk_VI (wf := mw) (q0 := 0) (ci := 11) (rest := []) [.int (1 : Int32)] C hP hD hS hl.1 (c_X12_fail hXo hq6) (cwA_V 1 hts wa_512 wa_509 wa_510 wa_511 wa_5 rfl rfl nd_X12_fail ⟨Nat.le_of_ble_eq_true rfl, Nat.le_of_ble_eq_true rfl⟩) rfl rfl rfl rfl (Nat.le_of_ble_eq_true rfl) dX12_crowd_16 ⟨Nat.le_of_ble_eq_true rfl, Nat.le_of_ble_eq_true rfl⟩ (fun H locs hP hD hS => ?_)
  cases hf
  exact bk_iret C hP hD hS rfl dX12_crowd_19
def f_X12_crowd (N : Nat) (x1 : Int32) (x2 : Int32) (σ : Sg) : Option (Int32 × Sg) :=
bd (wr σ 0 2 (0 : Int32)) fun σ7 =>
if x2 < 0 then (f_X12_crowd_b14 N σ7)
else (if x2 ≤ (1 : Int32) then ((f_X12_isIn N (x1).toInt64 (1 : Int64) (60 : Int64) σ7).bind fun q8 =>
if q8.1 = 0 then ((f_X12_fail N (2 : Int32) (q8.2)).bind fun q12 =>
some (q12.1, (q12.2)))
else ((f_X12_pack_21 N (0 : Int32) (q8.2)).bind fun q9 =>
(it (fun q => s_X12_crowd_h55 N x1 x2 q.1 q.2.1 q.2.2.1 q.2.2.2) N ((0 : Int32), (0 : Int32), (0 : Int32), q9)).bind fun z10 =>
(f_X12_unpack_21 N (0 : Int32) (z10.2.2.2.2)).bind fun q11 =>
if x2 = 0 then (some ((z10.2.1), q11))
else (some ((z10.2.2.1), q11))))
else (f_X12_crowd_b14 N σ7))
set_option maxHeartbeats 4000000 in
set_option maxRecDepth 100000 in
theorem b_X12_crowd {N : Nat} {x1 : Int32} {x2 : Int32} {σ : Sg} {z : Int32 × Sg} (C : Cx p s m args meth c cX12_crowd 6 (some .int) RX12 g A X) (hf : f_X12_crowd N x1 x2 σ = some z) : Bk mw p l e rm_X12_crowd s m args below meth c 6 g A (MQ below (qI mw g A z.1 z.2) args s 0 0 A) 0 0 0 [(0, .ref (g.2.2 0)), (1, .int x1), (2, .int x2)] [] σ := by
  obtain ⟨hx, hb, hr, hml, hown, hts, hK, hlocks, hXX, hA, hXo⟩ := id C
  intro H locs ls hP hD hS hl
  unfold f_X12_crowd at hf
  refine lv_aload_n hx hb dX12_crowd_0 rfl (lv_at hl 0 rfl) ?_
  refine lv_iconst (v := (0 : Int32)) hx hb dX12_crowd_1 (by decide) ?_
  obtain ⟨σ7, eσ7, hf⟩ := bd_s hf
  refine bk_put (wf := mw) (σ1 := σ7) (q0 := 0) (ci := 11) (k := 2) (v := .int (0 : Int32)) C hP hD hS wl_X12 tyX12_ok nmX12 rfl rfl (by decide) wa_205 rfl rfl rfl rfl rfl (Nat.le_of_ble_eq_true rfl) (by rw [eσ7]; exact mw_p0_2 g _ _) dX12_crowd_2 (fun H locs hP hD hS => ?_)
  refine lv_iload_n hx hb dX12_crowd_5 rfl (lv_at hl 2 rfl) ?_
  refine lv_if_lt (tgt := 14) hx hb dX12_crowd_6 (by decide) (fun t6 => ?_) (fun t6 => ?_)
  · have hf := (if_pos t6).symm.trans hf
    exact b_X12_crowd_b14 C hf H locs ls hP hD hS (lv_sub hl [0] rfl)
  · have hf := (if_neg t6).symm.trans hf
    refine lv_iload_n hx hb dX12_crowd_9 rfl (lv_at hl 2 rfl) ?_
    refine lv_iconst (v := (1 : Int32)) hx hb dX12_crowd_10 (by decide) ?_
    refine lv_icmp_le (tgt := 20) hx hb dX12_crowd_11 (by decide) (fun t11 => ?_) (fun t11 => ?_)
    · have hf := (if_pos t11).symm.trans hf
      refine lv_iload_n hx hb dX12_crowd_20 rfl (lv_at hl 1 rfl) ?_
      refine lv_i2l hx hb dX12_crowd_21 rfl ?_
      refine lv_lconst (v := (1 : Int64)) hx hb dX12_crowd_22 (by decide) ?_
      refine lv_ldc2 (v := (60 : Int64)) hx hb hown (hts _ wa_1025) dX12_crowd_23 ?_
      obtain ⟨q8, hq8, hf⟩ := bi_s hf
      refine bk_SI (wf := mw) (rest := []) [.long (x1).toInt64, .long (1 : Int64), .long (60 : Int64)] C hP hD hS hl.1 (c_X12_isIn hXo hq8) (cwA_S 3 hts wa_803 wa_801 wa_802 wa_5 rfl rfl nd_X12_isIn ⟨Nat.le_of_ble_eq_true rfl, Nat.le_of_ble_eq_true rfl⟩) rfl rfl (Nat.le_of_ble_eq_true rfl) dX12_crowd_26 ⟨Nat.le_of_ble_eq_true rfl, Nat.le_of_ble_eq_true rfl⟩ (fun H locs hP hD hS => ?_)
      refine lv_if_ne (tgt := 38) hx hb dX12_crowd_29 (by decide) (fun t29 => ?_) (fun t29 => ?_)
      · have hf := (if_neg t29).symm.trans hf
        refine lv_aload_n hx hb dX12_crowd_38 rfl (lv_at hl 0 rfl) ?_
        refine lv_aload_n hx hb dX12_crowd_39 rfl (lv_at hl 0 rfl) ?_
        refine bk_get (wf := mw) (q0 := 0) (ci := 11) (k := 37) (v := .ref (g.2.2 21)) C hP wl_X12 rfl rfl (by decide) wa_177 rfl rfl dX12_crowd_40 ?_
        refine lv_iconst (v := (0 : Int32)) hx hb dX12_crowd_43 (by decide) ?_
        obtain ⟨q9, hq9, hf⟩ := bi_s hf
        refine bk_VV (wf := mw) (q0 := 0) (ci := 11) (rest := []) [.ref (g.2.2 21), .int (0 : Int32)] C hP hD hS hl.1 (c_X12_pack_21 hXo hq9) (cwA_V 2 hts wa_895 wa_892 wa_893 wa_894 wa_5 rfl rfl nd_X12_pack ⟨Nat.le_of_ble_eq_true rfl, Nat.le_of_ble_eq_true rfl⟩) rfl rfl rfl rfl (Nat.le_of_ble_eq_true rfl) dX12_crowd_44 ⟨Nat.le_of_ble_eq_true rfl, Nat.le_of_ble_eq_true rfl⟩ (fun H locs hP hD hS => ?_)
        refine lv_iconst (v := (0 : Int32)) hx hb dX12_crowd_47 (by decide) ?_
        refine lv_istore_n (lv' := [(3, .int (0 : Int32)), (0, .ref (g.2.2 0)), (1, .int x1), (2, .int x2)]) hx hb dX12_crowd_48 rfl hl (by decide) rfl (fun ls hl => ?_)
        refine lv_iconst (v := (0 : Int32)) hx hb dX12_crowd_49 (by decide) ?_
        refine lv_istore (lv' := [(4, .int (0 : Int32)), (3, .int (0 : Int32)), (0, .ref (g.2.2 0)), (1, .int x1), (2, .int x2)]) hx hb dX12_crowd_50 hl (by decide) rfl (fun ls hl => ?_)
        refine lv_iconst (v := (0 : Int32)) hx hb dX12_crowd_52 (by decide) ?_
        refine lv_istore (lv' := [(5, .int (0 : Int32)), (4, .int (0 : Int32)), (3, .int (0 : Int32)), (0, .ref (g.2.2 0)), (1, .int x1), (2, .int x2)]) hx hb dX12_crowd_53 hl (by decide) rfl (fun ls hl => ?_)
        obtain ⟨z10, hz10, hf⟩ := bi_s hf
        refine lp_X12_crowd_h55 C hz10 ?_ H locs ls hP hD hS (lv_sub hl [3, 4, 5, 2, 1, 0] rfl)
        intro H locs ls hP hD hS hl
        refine lv_aload_n hx hb dX12_crowd_100 rfl (lv_at hl 0 rfl) ?_
        refine lv_aload_n hx hb dX12_crowd_101 rfl (lv_at hl 0 rfl) ?_
        refine bk_get (wf := mw) (q0 := 0) (ci := 11) (k := 37) (v := .ref (g.2.2 21)) C hP wl_X12 rfl rfl (by decide) wa_177 rfl rfl dX12_crowd_102 ?_
        refine lv_iconst (v := (0 : Int32)) hx hb dX12_crowd_105 (by decide) ?_
        obtain ⟨q11, hq11, hf⟩ := bi_s hf
        refine bk_VV (wf := mw) (q0 := 0) (ci := 11) (rest := []) [.ref (g.2.2 21), .int (0 : Int32)] C hP hD hS hl.1 (c_X12_unpack_21 hXo hq11) (cwA_V 2 hts wa_1010 wa_1007 wa_1008 wa_1009 wa_5 rfl rfl nd_X12_unpack ⟨Nat.le_of_ble_eq_true rfl, Nat.le_of_ble_eq_true rfl⟩) rfl rfl rfl rfl (Nat.le_of_ble_eq_true rfl) dX12_crowd_106 ⟨Nat.le_of_ble_eq_true rfl, Nat.le_of_ble_eq_true rfl⟩ (fun H locs hP hD hS => ?_)
        refine lv_iload_n hx hb dX12_crowd_109 rfl (lv_at hl 1 rfl) ?_
        refine lv_if_ne (tgt := 117) hx hb dX12_crowd_110 (by decide) (fun t110 => ?_) (fun t110 => ?_)
        · have hf := (if_neg t110).symm.trans hf
          refine lv_iload hx hb dX12_crowd_117 (lv_at hl 3 rfl) ?_
          cases hf
          exact bk_iret C hP hD hS rfl dX12_crowd_119
        · have hf := (if_pos t110).symm.trans hf
          refine lv_iload_n hx hb dX12_crowd_113 rfl (lv_at hl 2 rfl) ?_
          refine lv_goto (tgt := 119) hx hb dX12_crowd_114 (by decide) ?_
          cases hf
          exact bk_iret C hP hD hS rfl dX12_crowd_119
      · have hf := (if_pos t29).symm.trans hf
        refine lv_aload_n hx hb dX12_crowd_32 rfl (lv_at hl 0 rfl) ?_
        refine lv_iconst (v := (2 : Int32)) hx hb dX12_crowd_33 (by decide) ?_
        obtain ⟨q12, hq12, hf⟩ := bi_s hf
        refine bk_VI (wf := mw) (q0 := 0) (ci := 11) (rest := []) [.int (2 : Int32)] C hP hD hS hl.1 (c_X12_fail hXo hq12) (cwA_V 1 hts wa_512 wa_509 wa_510 wa_511 wa_5 rfl rfl nd_X12_fail ⟨Nat.le_of_ble_eq_true rfl, Nat.le_of_ble_eq_true rfl⟩) rfl rfl rfl rfl (Nat.le_of_ble_eq_true rfl) dX12_crowd_34 ⟨Nat.le_of_ble_eq_true rfl, Nat.le_of_ble_eq_true rfl⟩ (fun H locs hP hD hS => ?_)
        cases hf
        exact bk_iret C hP hD hS rfl dX12_crowd_37
    · have hf := (if_neg t11).symm.trans hf
      exact b_X12_crowd_b14 C hf H locs ls hP hD hS (lv_sub hl [0] rfl)
theorem c_X12_crowd {N : Nat} {x1 : Int32} {x2 : Int32} {σ : Sg} {z : Int32 × Sg} (hX : xOK g X) (hf : f_X12_crowd N x1 x2 σ = some z) : MetI l yX12_crowd (Cond.code yX12_crowd cX12_crowd 6 (some .int) :: wsA) rm_X12_crowd mw g X [.ref (g.2.2 0), .int x1, .int x2] σ z.1 z.2 :=
  MetI_of hX (by decide) (Nat.le_of_ble_eq_true rfl) (fun p e s m args below meth c A C => b_X12_crowd C hf)
-- X12_see: see(IIZ)I
abbrev rm_X12_see : Room := { frames := 2, cells := 0, slots := 0, locals := 46 }
theorem nd_X12_see : yX12_see.cls ≠ "java/lang/invoke/MethodHandle" ∧ yX12_see.cls ≠ "java/lang/invoke/VarHandle" ∧ (parseMethodDescriptor yX12_see.desc).map (fun d => d.parameters.length) = some 3 := by decide +kernel
def f_X12_see_b40 (N : Nat) (σ : Sg) : Option (Int32 × Sg) :=
(f_X12_refuse N (2 : Int32) σ).bind fun q1 =>
some (q1.1, (q1.2))
set_option maxHeartbeats 4000000 in
set_option maxRecDepth 100000 in
theorem b_X12_see_b40 {N : Nat} {σ : Sg} {z : Int32 × Sg} (C : Cx p s m args meth c cX12_see 4 (some .int) RX12 g A X) (hf : f_X12_see_b40 N σ = some z) : Bk mw p l e rm_X12_see s m args below meth c 4 g A (MQ below (qI mw g A z.1 z.2) args s 0 0 A) 0 0 40 [(0, .ref (g.2.2 0))] [] σ := by
  obtain ⟨hx, hb, hr, hml, hown, hts, hK, hlocks, hXX, hA, hXo⟩ := id C
  intro H locs ls hP hD hS hl
  unfold f_X12_see_b40 at hf
  refine lv_aload_n hx hb dX12_see_40 rfl (lv_at hl 0 rfl) ?_
  refine lv_iconst (v := (2 : Int32)) hx hb dX12_see_41 (by decide) ?_
  obtain ⟨q1, hq1, hf⟩ := bi_s hf
  refine bk_VI (wf := mw) (q0 := 0) (ci := 11) (rest := []) [.int (2 : Int32)] C hP hD hS hl.1 (c_X12_refuse hXo hq1) (cwA_V 1 hts wa_887 wa_884 wa_885 wa_886 wa_5 rfl rfl nd_X12_refuse ⟨Nat.le_of_ble_eq_true rfl, Nat.le_of_ble_eq_true rfl⟩) rfl rfl rfl rfl (Nat.le_of_ble_eq_true rfl) dX12_see_42 ⟨Nat.le_of_ble_eq_true rfl, Nat.le_of_ble_eq_true rfl⟩ (fun H locs hP hD hS => ?_)
  cases hf
  exact bk_iret C hP hD hS rfl dX12_see_45
def f_X12_see (N : Nat) (x1 : Int32) (x2 : Int32) (x3 : Int32) (σ : Sg) : Option (Int32 × Sg) :=
bd (wr σ 0 2 (0 : Int32)) fun σ2 =>
(f_X12_isFarm N x1 σ2).bind fun q3 =>
if q3.1 = 0 then ((f_X12_fail N (1 : Int32) (q3.2)).bind fun q12 =>
some (q12.1, (q12.2)))
else (if ((q3.2) 0 31) = (8 : Int32) then (f_X12_see_b40 N (q3.2))
else ((f_X12_isIn N (x2).toInt64 (1 : Int64) (20 : Int64) (q3.2)).bind fun q4 =>
if q4.1 = 0 then (f_X12_see_b40 N (q4.2))
else (if (((q4.2) 0 31) < 0 ∨ 8 ≤ ((q4.2) 0 31).toNatClampNeg) then none else
bd (wr (q4.2) 24 (((q4.2) 0 31).toNatClampNeg) x1) fun σ6 =>
if ((σ6 0 31) < 0 ∨ 8 ≤ (σ6 0 31).toNatClampNeg) then none else
bd (wr σ6 25 ((σ6 0 31).toNatClampNeg) x2) fun σ8 =>
if ((σ8 0 31) < 0 ∨ 8 ≤ (σ8 0 31).toNatClampNeg) then none else
bd (wr σ8 27 ((σ8 0 31).toNatClampNeg) (vp_nar .boolean x3)) fun σ10 =>
bd (wr σ10 0 31 ((σ10 0 31) + (1 : Int32))) fun σ11 =>
some ((σ11 0 31), σ11))))
set_option maxHeartbeats 4000000 in
set_option maxRecDepth 100000 in
theorem b_X12_see {N : Nat} {x1 : Int32} {x2 : Int32} {x3 : Int32} {σ : Sg} {z : Int32 × Sg} (C : Cx p s m args meth c cX12_see 4 (some .int) RX12 g A X) (hf : f_X12_see N x1 x2 x3 σ = some z) : Bk mw p l e rm_X12_see s m args below meth c 4 g A (MQ below (qI mw g A z.1 z.2) args s 0 0 A) 0 0 0 [(0, .ref (g.2.2 0)), (1, .int x1), (2, .int x2), (3, .int x3)] [] σ := by
  obtain ⟨hx, hb, hr, hml, hown, hts, hK, hlocks, hXX, hA, hXo⟩ := id C
  intro H locs ls hP hD hS hl
  unfold f_X12_see at hf
  refine lv_aload_n hx hb dX12_see_0 rfl (lv_at hl 0 rfl) ?_
  refine lv_iconst (v := (0 : Int32)) hx hb dX12_see_1 (by decide) ?_
  obtain ⟨σ2, eσ2, hf⟩ := bd_s hf
  refine bk_put (wf := mw) (σ1 := σ2) (q0 := 0) (ci := 11) (k := 2) (v := .int (0 : Int32)) C hP hD hS wl_X12 tyX12_ok nmX12 rfl rfl (by decide) wa_205 rfl rfl rfl rfl rfl (Nat.le_of_ble_eq_true rfl) (by rw [eσ2]; exact mw_p0_2 g _ _) dX12_see_2 (fun H locs hP hD hS => ?_)
  refine lv_aload_n hx hb dX12_see_5 rfl (lv_at hl 0 rfl) ?_
  refine lv_iload_n hx hb dX12_see_6 rfl (lv_at hl 1 rfl) ?_
  obtain ⟨q3, hq3, hf⟩ := bi_s hf
  refine bk_VI (wf := mw) (q0 := 0) (ci := 11) (rest := []) [.int x1] C hP hD hS hl.1 (c_X12_isFarm hXo hq3) (cwA_V 1 hts wa_800 wa_797 wa_798 wa_799 wa_5 rfl rfl nd_X12_isFarm ⟨Nat.le_of_ble_eq_true rfl, Nat.le_of_ble_eq_true rfl⟩) rfl rfl rfl rfl (Nat.le_of_ble_eq_true rfl) dX12_see_7 ⟨Nat.le_of_ble_eq_true rfl, Nat.le_of_ble_eq_true rfl⟩ (fun H locs hP hD hS => ?_)
  refine lv_if_ne (tgt := 19) hx hb dX12_see_10 (by decide) (fun t10 => ?_) (fun t10 => ?_)
  · have hf := (if_neg t10).symm.trans hf
    refine lv_aload_n hx hb dX12_see_19 rfl (lv_at hl 0 rfl) ?_
    refine bk_get (wf := mw) (q0 := 0) (ci := 11) (k := 31) (v := .int ((q3.2) 0 31)) C hP wl_X12 rfl rfl (by decide) wa_616 rfl rfl dX12_see_20 ?_
    refine lv_bipush (v := (8 : Int32)) hx hb dX12_see_23 (by decide) ?_
    refine lv_icmp_eq (tgt := 40) hx hb dX12_see_25 (by decide) (fun t25 => ?_) (fun t25 => ?_)
    · have hf := (if_pos t25).symm.trans hf
      exact b_X12_see_b40 C hf H locs ls hP hD hS (lv_sub hl [0] rfl)
    · have hf := (if_neg t25).symm.trans hf
      refine lv_iload_n hx hb dX12_see_28 rfl (lv_at hl 2 rfl) ?_
      refine lv_i2l hx hb dX12_see_29 rfl ?_
      refine lv_lconst (v := (1 : Int64)) hx hb dX12_see_30 (by decide) ?_
      refine lv_ldc2 (v := (20 : Int64)) hx hb hown (hts _ wa_883) dX12_see_31 ?_
      obtain ⟨q4, hq4, hf⟩ := bi_s hf
      refine bk_SI (wf := mw) (rest := []) [.long (x2).toInt64, .long (1 : Int64), .long (20 : Int64)] C hP hD hS hl.1 (c_X12_isIn hXo hq4) (cwA_S 3 hts wa_803 wa_801 wa_802 wa_5 rfl rfl nd_X12_isIn ⟨Nat.le_of_ble_eq_true rfl, Nat.le_of_ble_eq_true rfl⟩) rfl rfl (Nat.le_of_ble_eq_true rfl) dX12_see_34 ⟨Nat.le_of_ble_eq_true rfl, Nat.le_of_ble_eq_true rfl⟩ (fun H locs hP hD hS => ?_)
      refine lv_if_ne (tgt := 46) hx hb dX12_see_37 (by decide) (fun t37 => ?_) (fun t37 => ?_)
      · have hf := (if_neg t37).symm.trans hf
        refine lv_aload_n hx hb dX12_see_46 rfl (lv_at hl 0 rfl) ?_
        refine bk_get (wf := mw) (q0 := 0) (ci := 11) (k := 40) (v := .ref (g.2.2 24)) C hP wl_X12 rfl rfl (by decide) wa_180 rfl rfl dX12_see_47 ?_
        refine lv_aload_n hx hb dX12_see_50 rfl (lv_at hl 0 rfl) ?_
        refine bk_get (wf := mw) (q0 := 0) (ci := 11) (k := 31) (v := .int ((q4.2) 0 31)) C hP wl_X12 rfl rfl (by decide) wa_616 rfl rfl dX12_see_51 ?_
        refine lv_iload_n hx hb dX12_see_54 rfl (lv_at hl 1 rfl) ?_
        obtain ⟨g5, hf⟩ := gd_s hf
        obtain ⟨σ6, eσ6, hf⟩ := bd_s hf
        refine bk_iast (wf := mw) (σ1 := σ6) (q0 := 24) (n := 8) (j := ((q4.2) 0 31).toNatClampNeg) C hP hD hS rfl g5 rfl (by rw [eσ6]; exact mw_a24 g _ _ _) dX12_see_55 (fun H locs hP hD hS => ?_)
        refine lv_aload_n hx hb dX12_see_56 rfl (lv_at hl 0 rfl) ?_
        refine bk_get (wf := mw) (q0 := 0) (ci := 11) (k := 41) (v := .ref (g.2.2 25)) C hP wl_X12 rfl rfl (by decide) wa_181 rfl rfl dX12_see_57 ?_
        refine lv_aload_n hx hb dX12_see_60 rfl (lv_at hl 0 rfl) ?_
        refine bk_get (wf := mw) (q0 := 0) (ci := 11) (k := 31) (v := .int (σ6 0 31)) C hP wl_X12 rfl rfl (by decide) wa_616 rfl rfl dX12_see_61 ?_
        refine lv_iload_n hx hb dX12_see_64 rfl (lv_at hl 2 rfl) ?_
        obtain ⟨g7, hf⟩ := gd_s hf
        obtain ⟨σ8, eσ8, hf⟩ := bd_s hf
        refine bk_iast (wf := mw) (σ1 := σ8) (q0 := 25) (n := 8) (j := (σ6 0 31).toNatClampNeg) C hP hD hS rfl g7 rfl (by rw [eσ8]; exact mw_a25 g _ _ _) dX12_see_65 (fun H locs hP hD hS => ?_)
        refine lv_aload_n hx hb dX12_see_66 rfl (lv_at hl 0 rfl) ?_
        refine bk_get (wf := mw) (q0 := 0) (ci := 11) (k := 43) (v := .ref (g.2.2 27)) C hP wl_X12 rfl rfl (by decide) wa_184 rfl rfl dX12_see_67 ?_
        refine lv_aload_n hx hb dX12_see_70 rfl (lv_at hl 0 rfl) ?_
        refine bk_get (wf := mw) (q0 := 0) (ci := 11) (k := 31) (v := .int (σ8 0 31)) C hP wl_X12 rfl rfl (by decide) wa_616 rfl rfl dX12_see_71 ?_
        refine lv_iload_n hx hb dX12_see_74 rfl (lv_at hl 3 rfl) ?_
        obtain ⟨g9, hf⟩ := gd_s hf
        obtain ⟨σ10, eσ10, hf⟩ := bd_s hf
        refine bk_zast (wf := mw) (σ1 := σ10) (q0 := 27) (n := 8) (j := (σ8 0 31).toNatClampNeg) C hP hD hS rfl g9 rfl (by rw [eσ10]; exact mw_a27 g _ _ _) dX12_see_75 (fun H locs hP hD hS => ?_)
        refine lv_aload_n hx hb dX12_see_76 rfl (lv_at hl 0 rfl) ?_
        refine lv_dup hx hb dX12_see_77 rfl ?_
        refine bk_get (wf := mw) (q0 := 0) (ci := 11) (k := 31) (v := .int (σ10 0 31)) C hP wl_X12 rfl rfl (by decide) wa_616 rfl rfl dX12_see_78 ?_
        refine lv_iconst (v := (1 : Int32)) hx hb dX12_see_81 (by decide) ?_
        refine lv_iadd hx hb dX12_see_82 ?_
        obtain ⟨σ11, eσ11, hf⟩ := bd_s hf
        refine bk_put (wf := mw) (σ1 := σ11) (q0 := 0) (ci := 11) (k := 31) (v := .int ((σ10 0 31) + (1 : Int32))) C hP hD hS wl_X12 tyX12_ok nmX12 rfl rfl (by decide) wa_616 rfl rfl rfl rfl rfl (Nat.le_of_ble_eq_true rfl) (by rw [eσ11]; exact mw_p0_31 g _ _) dX12_see_83 (fun H locs hP hD hS => ?_)
        refine lv_aload_n hx hb dX12_see_86 rfl (lv_at hl 0 rfl) ?_
        refine bk_get (wf := mw) (q0 := 0) (ci := 11) (k := 31) (v := .int (σ11 0 31)) C hP wl_X12 rfl rfl (by decide) wa_616 rfl rfl dX12_see_87 ?_
        cases hf
        exact bk_iret C hP hD hS rfl dX12_see_90
      · have hf := (if_pos t37).symm.trans hf
        exact b_X12_see_b40 C hf H locs ls hP hD hS (lv_sub hl [0] rfl)
  · have hf := (if_pos t10).symm.trans hf
    refine lv_aload_n hx hb dX12_see_13 rfl (lv_at hl 0 rfl) ?_
    refine lv_iconst (v := (1 : Int32)) hx hb dX12_see_14 (by decide) ?_
    obtain ⟨q12, hq12, hf⟩ := bi_s hf
    refine bk_VI (wf := mw) (q0 := 0) (ci := 11) (rest := []) [.int (1 : Int32)] C hP hD hS hl.1 (c_X12_fail hXo hq12) (cwA_V 1 hts wa_512 wa_509 wa_510 wa_511 wa_5 rfl rfl nd_X12_fail ⟨Nat.le_of_ble_eq_true rfl, Nat.le_of_ble_eq_true rfl⟩) rfl rfl rfl rfl (Nat.le_of_ble_eq_true rfl) dX12_see_15 ⟨Nat.le_of_ble_eq_true rfl, Nat.le_of_ble_eq_true rfl⟩ (fun H locs hP hD hS => ?_)
    cases hf
    exact bk_iret C hP hD hS rfl dX12_see_18
theorem c_X12_see {N : Nat} {x1 : Int32} {x2 : Int32} {x3 : Int32} {σ : Sg} {z : Int32 × Sg} (hX : xOK g X) (hf : f_X12_see N x1 x2 x3 σ = some z) : MetI l yX12_see (Cond.code yX12_see cX12_see 4 (some .int) :: wsA) rm_X12_see mw g X [.ref (g.2.2 0), .int x1, .int x2, .int x3] σ z.1 z.2 :=
  MetI_of hX (by decide) (Nat.le_of_ble_eq_true rfl) (fun p e s m args below meth c A C => b_X12_see C hf)
-- X12_pack_26: pack([II)V
abbrev rm_X12_pack_26 : Room := { frames := 0, cells := 0, slots := 0, locals := 0 }
def s_X12_pack_26_h18 (N : Nat) (x2 : Int32) (x3 : Int32) (σ : Sg) : Option (Nat × Int32 × Sg) :=
if (9 : Int32) ≤ x3 then (some (1, 0, σ))
else (if (x3 < 0 ∨ 9 ≤ x3.toNatClampNeg) then none else
if (((x2 + (2 : Int32)) + x3) < 0 ∨ 38 ≤ ((x2 + (2 : Int32)) + x3).toNatClampNeg) then none else
bd (wr σ 26 (((x2 + (2 : Int32)) + x3).toNatClampNeg) (σ 13 x3.toNatClampNeg)) fun σ3 =>
if (x3 < 0 ∨ 9 ≤ x3.toNatClampNeg) then none else
if ((((x2 + (2 : Int32)) + (9 : Int32)) + x3) < 0 ∨ 38 ≤ (((x2 + (2 : Int32)) + (9 : Int32)) + x3).toNatClampNeg) then none else
bd (wr σ3 26 ((((x2 + (2 : Int32)) + (9 : Int32)) + x3).toNatClampNeg) (σ3 14 x3.toNatClampNeg)) fun σ6 =>
if (x3 < 0 ∨ 9 ≤ x3.toNatClampNeg) then none else
if ((((x2 + (2 : Int32)) + (18 : Int32)) + x3) < 0 ∨ 38 ≤ (((x2 + (2 : Int32)) + (18 : Int32)) + x3).toNatClampNeg) then none else
bd (wr σ6 26 ((((x2 + (2 : Int32)) + (18 : Int32)) + x3).toNatClampNeg) (σ6 15 x3.toNatClampNeg)) fun σ9 =>
if (x3 < 0 ∨ 9 ≤ x3.toNatClampNeg) then none else
if ((((x2 + (2 : Int32)) + (27 : Int32)) + x3) < 0 ∨ 38 ≤ (((x2 + (2 : Int32)) + (27 : Int32)) + x3).toNatClampNeg) then none else
bd (wr σ9 26 ((((x2 + (2 : Int32)) + (27 : Int32)) + x3).toNatClampNeg) (σ9 16 x3.toNatClampNeg)) fun σ12 =>
bd (x3 + (1 : Int32)) fun v13 =>
some (0, v13, σ12))
set_option maxHeartbeats 4000000 in
set_option maxRecDepth 100000 in
theorem e_X12_pack_26_h18 {N : Nat} {x2 : Int32} {x3 : Int32} {σ : Sg} {z : Nat × Int32 × Sg} (C : Cx p s m args meth c cX12_pack 4 none RX12 g A X) (hf : s_X12_pack_26_h18 N x2 x3 σ = some z) (k0 : z.1 = 0 → Bk mw p l e rm_X12_pack_26 s m args below meth c 4 g A Q 0 0 18 [(0, .ref (g.2.2 0)), (1, .ref (g.2.2 26)), (2, .int x2), (3, .int z.2.1)] [] z.2.2) (k : ¬ z.1 = 0 → Bk mw p l e rm_X12_pack_26 s m args below meth c 4 g A Q 0 0 91 [] [] z.2.2) : Bk mw p l e rm_X12_pack_26 s m args below meth c 4 g A Q 0 0 18 [(0, .ref (g.2.2 0)), (1, .ref (g.2.2 26)), (2, .int x2), (3, .int x3)] [] σ := by
  obtain ⟨hx, hb, hr, hml, hown, hts, hK, hlocks, hXX, hA, hXo⟩ := id C
  intro H locs ls hP hD hS hl
  unfold s_X12_pack_26_h18 at hf
  refine lv_iload_n hx hb dX12_pack_18 rfl (lv_at hl 3 rfl) ?_
  refine lv_bipush (v := (9 : Int32)) hx hb dX12_pack_19 (by decide) ?_
  refine lv_icmp_ge (tgt := 91) hx hb dX12_pack_21 (by decide) (fun t21 => ?_) (fun t21 => ?_)
  · have hf := (if_pos t21).symm.trans hf
    cases hf
    exact (k (show ¬ (1 : Nat) = 0 by decide)) H locs ls hP hD hS (lv_sub hl [] rfl)
  · have hf := (if_neg t21).symm.trans hf
    refine lv_aload_n hx hb dX12_pack_24 rfl (lv_at hl 1 rfl) ?_
    refine lv_iload_n hx hb dX12_pack_25 rfl (lv_at hl 2 rfl) ?_
    refine lv_iconst (v := (2 : Int32)) hx hb dX12_pack_26 (by decide) ?_
    refine lv_iadd hx hb dX12_pack_27 ?_
    refine lv_iload_n hx hb dX12_pack_28 rfl (lv_at hl 3 rfl) ?_
    refine lv_iadd hx hb dX12_pack_29 ?_
    refine lv_aload_n hx hb dX12_pack_30 rfl (lv_at hl 0 rfl) ?_
    refine bk_get (wf := mw) (q0 := 0) (ci := 11) (k := 23) (v := .ref (g.2.2 13)) C hP wl_X12 rfl rfl (by decide) wa_168 rfl rfl dX12_pack_31 ?_
    refine lv_iload_n hx hb dX12_pack_34 rfl (lv_at hl 3 rfl) ?_
    obtain ⟨g1, hf⟩ := gd_s hf
    refine bk_iald (wf := mw) (q0 := 13) (n := 9) (j := x3.toNatClampNeg) C hP rfl g1 rfl dX12_pack_35 ?_
    obtain ⟨g2, hf⟩ := gd_s hf
    obtain ⟨σ3, eσ3, hf⟩ := bd_s hf
    refine bk_iast (wf := mw) (σ1 := σ3) (q0 := 26) (n := 38) (j := ((x2 + (2 : Int32)) + x3).toNatClampNeg) C hP hD hS rfl g2 rfl (by rw [eσ3]; exact mw_a26 g _ _ _) dX12_pack_36 (fun H locs hP hD hS => ?_)
    refine lv_aload_n hx hb dX12_pack_37 rfl (lv_at hl 1 rfl) ?_
    refine lv_iload_n hx hb dX12_pack_38 rfl (lv_at hl 2 rfl) ?_
    refine lv_iconst (v := (2 : Int32)) hx hb dX12_pack_39 (by decide) ?_
    refine lv_iadd hx hb dX12_pack_40 ?_
    refine lv_bipush (v := (9 : Int32)) hx hb dX12_pack_41 (by decide) ?_
    refine lv_iadd hx hb dX12_pack_43 ?_
    refine lv_iload_n hx hb dX12_pack_44 rfl (lv_at hl 3 rfl) ?_
    refine lv_iadd hx hb dX12_pack_45 ?_
    refine lv_aload_n hx hb dX12_pack_46 rfl (lv_at hl 0 rfl) ?_
    refine bk_get (wf := mw) (q0 := 0) (ci := 11) (k := 24) (v := .ref (g.2.2 14)) C hP wl_X12 rfl rfl (by decide) wa_169 rfl rfl dX12_pack_47 ?_
    refine lv_iload_n hx hb dX12_pack_50 rfl (lv_at hl 3 rfl) ?_
    obtain ⟨g4, hf⟩ := gd_s hf
    refine bk_iald (wf := mw) (q0 := 14) (n := 9) (j := x3.toNatClampNeg) C hP rfl g4 rfl dX12_pack_51 ?_
    obtain ⟨g5, hf⟩ := gd_s hf
    obtain ⟨σ6, eσ6, hf⟩ := bd_s hf
    refine bk_iast (wf := mw) (σ1 := σ6) (q0 := 26) (n := 38) (j := (((x2 + (2 : Int32)) + (9 : Int32)) + x3).toNatClampNeg) C hP hD hS rfl g5 rfl (by rw [eσ6]; exact mw_a26 g _ _ _) dX12_pack_52 (fun H locs hP hD hS => ?_)
    refine lv_aload_n hx hb dX12_pack_53 rfl (lv_at hl 1 rfl) ?_
    refine lv_iload_n hx hb dX12_pack_54 rfl (lv_at hl 2 rfl) ?_
    refine lv_iconst (v := (2 : Int32)) hx hb dX12_pack_55 (by decide) ?_
    refine lv_iadd hx hb dX12_pack_56 ?_
    refine lv_bipush (v := (18 : Int32)) hx hb dX12_pack_57 (by decide) ?_
    refine lv_iadd hx hb dX12_pack_59 ?_
    refine lv_iload_n hx hb dX12_pack_60 rfl (lv_at hl 3 rfl) ?_
    refine lv_iadd hx hb dX12_pack_61 ?_
    refine lv_aload_n hx hb dX12_pack_62 rfl (lv_at hl 0 rfl) ?_
    refine bk_get (wf := mw) (q0 := 0) (ci := 11) (k := 25) (v := .ref (g.2.2 15)) C hP wl_X12 rfl rfl (by decide) wa_170 rfl rfl dX12_pack_63 ?_
    refine lv_iload_n hx hb dX12_pack_66 rfl (lv_at hl 3 rfl) ?_
    obtain ⟨g7, hf⟩ := gd_s hf
    refine bk_iald (wf := mw) (q0 := 15) (n := 9) (j := x3.toNatClampNeg) C hP rfl g7 rfl dX12_pack_67 ?_
    obtain ⟨g8, hf⟩ := gd_s hf
    obtain ⟨σ9, eσ9, hf⟩ := bd_s hf
    refine bk_iast (wf := mw) (σ1 := σ9) (q0 := 26) (n := 38) (j := (((x2 + (2 : Int32)) + (18 : Int32)) + x3).toNatClampNeg) C hP hD hS rfl g8 rfl (by rw [eσ9]; exact mw_a26 g _ _ _) dX12_pack_68 (fun H locs hP hD hS => ?_)
    refine lv_aload_n hx hb dX12_pack_69 rfl (lv_at hl 1 rfl) ?_
    refine lv_iload_n hx hb dX12_pack_70 rfl (lv_at hl 2 rfl) ?_
    refine lv_iconst (v := (2 : Int32)) hx hb dX12_pack_71 (by decide) ?_
    refine lv_iadd hx hb dX12_pack_72 ?_
    refine lv_bipush (v := (27 : Int32)) hx hb dX12_pack_73 (by decide) ?_
    refine lv_iadd hx hb dX12_pack_75 ?_
    refine lv_iload_n hx hb dX12_pack_76 rfl (lv_at hl 3 rfl) ?_
    refine lv_iadd hx hb dX12_pack_77 ?_
    refine lv_aload_n hx hb dX12_pack_78 rfl (lv_at hl 0 rfl) ?_
    refine bk_get (wf := mw) (q0 := 0) (ci := 11) (k := 26) (v := .ref (g.2.2 16)) C hP wl_X12 rfl rfl (by decide) wa_171 rfl rfl dX12_pack_79 ?_
    refine lv_iload_n hx hb dX12_pack_82 rfl (lv_at hl 3 rfl) ?_
    obtain ⟨g10, hf⟩ := gd_s hf
    refine bk_iald (wf := mw) (q0 := 16) (n := 9) (j := x3.toNatClampNeg) C hP rfl g10 rfl dX12_pack_83 ?_
    obtain ⟨g11, hf⟩ := gd_s hf
    obtain ⟨σ12, eσ12, hf⟩ := bd_s hf
    refine bk_iast (wf := mw) (σ1 := σ12) (q0 := 26) (n := 38) (j := (((x2 + (2 : Int32)) + (27 : Int32)) + x3).toNatClampNeg) C hP hD hS rfl g11 rfl (by rw [eσ12]; exact mw_a26 g _ _ _) dX12_pack_84 (fun H locs hP hD hS => ?_)
    obtain ⟨v13, ev13, hf⟩ := bd_s hf
    refine lv_iinc (v := v13) (lv' := [(3, .int v13), (0, .ref (g.2.2 0)), (1, .ref (g.2.2 26)), (2, .int x2)]) hx hb dX12_pack_85 hl (k := 3) rfl (by rw [ev13]; rfl) (by decide) rfl (fun ls hl => ?_)
    refine lv_goto (tgt := 18) hx hb dX12_pack_88 (by decide) ?_
    cases hf
    exact k0 rfl H locs ls hP hD hS (lv_sub hl [1, 2, 3, 0] rfl)
theorem lp_X12_pack_26_h18 {N : Nat} {n : Nat} {x2 : Int32} {x3 : Int32} {σ : Sg} {z : Nat × Int32 × Sg} (C : Cx p s m args meth c cX12_pack 4 none RX12 g A X) (hz : it (fun q => s_X12_pack_26_h18 N x2 q.1 q.2) n (x3, σ) = some z) (k : Bk mw p l e rm_X12_pack_26 s m args below meth c 4 g A Q 0 0 91 [] [] z.2.2) : Bk mw p l e rm_X12_pack_26 s m args below meth c 4 g A Q 0 0 18 [(0, .ref (g.2.2 0)), (1, .ref (g.2.2 26)), (2, .int x2), (3, .int x3)] [] σ :=
  it_W (S := Int32 × Sg) (fun q => Bk mw p l e rm_X12_pack_26 s m args below meth c 4 g A Q 0 0 18 [(0, .ref (g.2.2 0)), (1, .ref (g.2.2 26)), (2, .int x2), (3, .int q.1)] [] q.2) (fun z => Bk mw p l e rm_X12_pack_26 s m args below meth c 4 g A Q 0 0 91 [] [] z.2.2) (fun q z hq k0 k => e_X12_pack_26_h18 C hq k0 k) n (x3, σ) z hz k
def f_X12_pack_26 (N : Nat) (x2 : Int32) (σ : Sg) : Option (Sg) :=
if (x2 < 0 ∨ 38 ≤ x2.toNatClampNeg) then none else
bd (wr σ 26 (x2.toNatClampNeg) (σ 0 28)) fun σ15 =>
if ((x2 + (1 : Int32)) < 0 ∨ 38 ≤ (x2 + (1 : Int32)).toNatClampNeg) then none else
bd (wr σ15 26 ((x2 + (1 : Int32)).toNatClampNeg) (σ15 0 29)) fun σ17 =>
(it (fun q => s_X12_pack_26_h18 N x2 q.1 q.2) N ((0 : Int32), σ17)).bind fun z18 =>
some (z18.2.2)
set_option maxHeartbeats 4000000 in
set_option maxRecDepth 100000 in
theorem b_X12_pack_26 {N : Nat} {x2 : Int32} {σ : Sg} {z : Sg} (C : Cx p s m args meth c cX12_pack 4 none RX12 g A X) (hf : f_X12_pack_26 N x2 σ = some z) : Bk mw p l e rm_X12_pack_26 s m args below meth c 4 g A (MQ below (qV mw g A z) args s 0 0 A) 0 0 0 [(0, .ref (g.2.2 0)), (1, .ref (g.2.2 26)), (2, .int x2)] [] σ := by
  obtain ⟨hx, hb, hr, hml, hown, hts, hK, hlocks, hXX, hA, hXo⟩ := id C
  intro H locs ls hP hD hS hl
  unfold f_X12_pack_26 at hf
  refine lv_aload_n hx hb dX12_pack_0 rfl (lv_at hl 1 rfl) ?_
  refine lv_iload_n hx hb dX12_pack_1 rfl (lv_at hl 2 rfl) ?_
  refine lv_aload_n hx hb dX12_pack_2 rfl (lv_at hl 0 rfl) ?_
  refine bk_get (wf := mw) (q0 := 0) (ci := 11) (k := 28) (v := .int (σ 0 28)) C hP wl_X12 rfl rfl (by decide) wa_613 rfl rfl dX12_pack_3 ?_
  obtain ⟨g14, hf⟩ := gd_s hf
  obtain ⟨σ15, eσ15, hf⟩ := bd_s hf
  refine bk_iast (wf := mw) (σ1 := σ15) (q0 := 26) (n := 38) (j := x2.toNatClampNeg) C hP hD hS rfl g14 rfl (by rw [eσ15]; exact mw_a26 g _ _ _) dX12_pack_6 (fun H locs hP hD hS => ?_)
  refine lv_aload_n hx hb dX12_pack_7 rfl (lv_at hl 1 rfl) ?_
  refine lv_iload_n hx hb dX12_pack_8 rfl (lv_at hl 2 rfl) ?_
  refine lv_iconst (v := (1 : Int32)) hx hb dX12_pack_9 (by decide) ?_
  refine lv_iadd hx hb dX12_pack_10 ?_
  refine lv_aload_n hx hb dX12_pack_11 rfl (lv_at hl 0 rfl) ?_
  refine bk_get (wf := mw) (q0 := 0) (ci := 11) (k := 29) (v := .int (σ15 0 29)) C hP wl_X12 rfl rfl (by decide) wa_614 rfl rfl dX12_pack_12 ?_
  obtain ⟨g16, hf⟩ := gd_s hf
  obtain ⟨σ17, eσ17, hf⟩ := bd_s hf
  refine bk_iast (wf := mw) (σ1 := σ17) (q0 := 26) (n := 38) (j := (x2 + (1 : Int32)).toNatClampNeg) C hP hD hS rfl g16 rfl (by rw [eσ17]; exact mw_a26 g _ _ _) dX12_pack_15 (fun H locs hP hD hS => ?_)
  refine lv_iconst (v := (0 : Int32)) hx hb dX12_pack_16 (by decide) ?_
  refine lv_istore_n (lv' := [(3, .int (0 : Int32)), (0, .ref (g.2.2 0)), (1, .ref (g.2.2 26)), (2, .int x2)]) hx hb dX12_pack_17 rfl hl (by decide) rfl (fun ls hl => ?_)
  obtain ⟨z18, hz18, hf⟩ := bi_s hf
  refine lp_X12_pack_26_h18 C hz18 ?_ H locs ls hP hD hS (lv_sub hl [1, 2, 3, 0] rfl)
  intro H locs ls hP hD hS hl
  cases hf
  exact bk_vret C hP hD hS rfl dX12_pack_91
theorem c_X12_pack_26 {N : Nat} {x2 : Int32} {σ : Sg} {z : Sg} (hX : xOK g X) (hf : f_X12_pack_26 N x2 σ = some z) : MetV l yX12_pack (Cond.code yX12_pack cX12_pack 4 none :: wsA) rm_X12_pack_26 mw g X [.ref (g.2.2 0), .ref (g.2.2 26), .int x2] σ z :=
  MetV_of hX (by decide) (Nat.le_of_ble_eq_true rfl) (fun p e s m args below meth c A C => b_X12_pack_26 C hf)
-- X12_unpack_26: unpack([II)V
abbrev rm_X12_unpack_26 : Room := { frames := 0, cells := 0, slots := 0, locals := 0 }
def s_X12_unpack_26_h18 (N : Nat) (x2 : Int32) (x3 : Int32) (σ : Sg) : Option (Nat × Int32 × Sg) :=
if (9 : Int32) ≤ x3 then (some (1, 0, σ))
else (if (((x2 + (2 : Int32)) + x3) < 0 ∨ 38 ≤ ((x2 + (2 : Int32)) + x3).toNatClampNeg) then none else
if (x3 < 0 ∨ 9 ≤ x3.toNatClampNeg) then none else
bd (wr σ 13 (x3.toNatClampNeg) (σ 26 ((x2 + (2 : Int32)) + x3).toNatClampNeg)) fun σ3 =>
if ((((x2 + (2 : Int32)) + (9 : Int32)) + x3) < 0 ∨ 38 ≤ (((x2 + (2 : Int32)) + (9 : Int32)) + x3).toNatClampNeg) then none else
if (x3 < 0 ∨ 9 ≤ x3.toNatClampNeg) then none else
bd (wr σ3 14 (x3.toNatClampNeg) (σ3 26 (((x2 + (2 : Int32)) + (9 : Int32)) + x3).toNatClampNeg)) fun σ6 =>
if ((((x2 + (2 : Int32)) + (18 : Int32)) + x3) < 0 ∨ 38 ≤ (((x2 + (2 : Int32)) + (18 : Int32)) + x3).toNatClampNeg) then none else
if (x3 < 0 ∨ 9 ≤ x3.toNatClampNeg) then none else
bd (wr σ6 15 (x3.toNatClampNeg) (σ6 26 (((x2 + (2 : Int32)) + (18 : Int32)) + x3).toNatClampNeg)) fun σ9 =>
if ((((x2 + (2 : Int32)) + (27 : Int32)) + x3) < 0 ∨ 38 ≤ (((x2 + (2 : Int32)) + (27 : Int32)) + x3).toNatClampNeg) then none else
if (x3 < 0 ∨ 9 ≤ x3.toNatClampNeg) then none else
bd (wr σ9 16 (x3.toNatClampNeg) (σ9 26 (((x2 + (2 : Int32)) + (27 : Int32)) + x3).toNatClampNeg)) fun σ12 =>
bd (x3 + (1 : Int32)) fun v13 =>
some (0, v13, σ12))
set_option maxHeartbeats 4000000 in
set_option maxRecDepth 100000 in
theorem e_X12_unpack_26_h18 {N : Nat} {x2 : Int32} {x3 : Int32} {σ : Sg} {z : Nat × Int32 × Sg} (C : Cx p s m args meth c cX12_unpack 4 none RX12 g A X) (hf : s_X12_unpack_26_h18 N x2 x3 σ = some z) (k0 : z.1 = 0 → Bk mw p l e rm_X12_unpack_26 s m args below meth c 4 g A Q 0 0 18 [(0, .ref (g.2.2 0)), (1, .ref (g.2.2 26)), (2, .int x2), (3, .int z.2.1)] [] z.2.2) (k : ¬ z.1 = 0 → Bk mw p l e rm_X12_unpack_26 s m args below meth c 4 g A Q 0 0 91 [] [] z.2.2) : Bk mw p l e rm_X12_unpack_26 s m args below meth c 4 g A Q 0 0 18 [(0, .ref (g.2.2 0)), (1, .ref (g.2.2 26)), (2, .int x2), (3, .int x3)] [] σ := by
  obtain ⟨hx, hb, hr, hml, hown, hts, hK, hlocks, hXX, hA, hXo⟩ := id C
  intro H locs ls hP hD hS hl
  unfold s_X12_unpack_26_h18 at hf
  refine lv_iload_n hx hb dX12_unpack_18 rfl (lv_at hl 3 rfl) ?_
  refine lv_bipush (v := (9 : Int32)) hx hb dX12_unpack_19 (by decide) ?_
  refine lv_icmp_ge (tgt := 91) hx hb dX12_unpack_21 (by decide) (fun t21 => ?_) (fun t21 => ?_)
  · have hf := (if_pos t21).symm.trans hf
    cases hf
    exact (k (show ¬ (1 : Nat) = 0 by decide)) H locs ls hP hD hS (lv_sub hl [] rfl)
  · have hf := (if_neg t21).symm.trans hf
    refine lv_aload_n hx hb dX12_unpack_24 rfl (lv_at hl 0 rfl) ?_
    refine bk_get (wf := mw) (q0 := 0) (ci := 11) (k := 23) (v := .ref (g.2.2 13)) C hP wl_X12 rfl rfl (by decide) wa_168 rfl rfl dX12_unpack_25 ?_
    refine lv_iload_n hx hb dX12_unpack_28 rfl (lv_at hl 3 rfl) ?_
    refine lv_aload_n hx hb dX12_unpack_29 rfl (lv_at hl 1 rfl) ?_
    refine lv_iload_n hx hb dX12_unpack_30 rfl (lv_at hl 2 rfl) ?_
    refine lv_iconst (v := (2 : Int32)) hx hb dX12_unpack_31 (by decide) ?_
    refine lv_iadd hx hb dX12_unpack_32 ?_
    refine lv_iload_n hx hb dX12_unpack_33 rfl (lv_at hl 3 rfl) ?_
    refine lv_iadd hx hb dX12_unpack_34 ?_
    obtain ⟨g1, hf⟩ := gd_s hf
    refine bk_iald (wf := mw) (q0 := 26) (n := 38) (j := ((x2 + (2 : Int32)) + x3).toNatClampNeg) C hP rfl g1 rfl dX12_unpack_35 ?_
    obtain ⟨g2, hf⟩ := gd_s hf
    obtain ⟨σ3, eσ3, hf⟩ := bd_s hf
    refine bk_iast (wf := mw) (σ1 := σ3) (q0 := 13) (n := 9) (j := x3.toNatClampNeg) C hP hD hS rfl g2 rfl (by rw [eσ3]; exact mw_a13 g _ _ _) dX12_unpack_36 (fun H locs hP hD hS => ?_)
    refine lv_aload_n hx hb dX12_unpack_37 rfl (lv_at hl 0 rfl) ?_
    refine bk_get (wf := mw) (q0 := 0) (ci := 11) (k := 24) (v := .ref (g.2.2 14)) C hP wl_X12 rfl rfl (by decide) wa_169 rfl rfl dX12_unpack_38 ?_
    refine lv_iload_n hx hb dX12_unpack_41 rfl (lv_at hl 3 rfl) ?_
    refine lv_aload_n hx hb dX12_unpack_42 rfl (lv_at hl 1 rfl) ?_
    refine lv_iload_n hx hb dX12_unpack_43 rfl (lv_at hl 2 rfl) ?_
    refine lv_iconst (v := (2 : Int32)) hx hb dX12_unpack_44 (by decide) ?_
    refine lv_iadd hx hb dX12_unpack_45 ?_
    refine lv_bipush (v := (9 : Int32)) hx hb dX12_unpack_46 (by decide) ?_
    refine lv_iadd hx hb dX12_unpack_48 ?_
    refine lv_iload_n hx hb dX12_unpack_49 rfl (lv_at hl 3 rfl) ?_
    refine lv_iadd hx hb dX12_unpack_50 ?_
    obtain ⟨g4, hf⟩ := gd_s hf
    refine bk_iald (wf := mw) (q0 := 26) (n := 38) (j := (((x2 + (2 : Int32)) + (9 : Int32)) + x3).toNatClampNeg) C hP rfl g4 rfl dX12_unpack_51 ?_
    obtain ⟨g5, hf⟩ := gd_s hf
    obtain ⟨σ6, eσ6, hf⟩ := bd_s hf
    refine bk_iast (wf := mw) (σ1 := σ6) (q0 := 14) (n := 9) (j := x3.toNatClampNeg) C hP hD hS rfl g5 rfl (by rw [eσ6]; exact mw_a14 g _ _ _) dX12_unpack_52 (fun H locs hP hD hS => ?_)
    refine lv_aload_n hx hb dX12_unpack_53 rfl (lv_at hl 0 rfl) ?_
    refine bk_get (wf := mw) (q0 := 0) (ci := 11) (k := 25) (v := .ref (g.2.2 15)) C hP wl_X12 rfl rfl (by decide) wa_170 rfl rfl dX12_unpack_54 ?_
    refine lv_iload_n hx hb dX12_unpack_57 rfl (lv_at hl 3 rfl) ?_
    refine lv_aload_n hx hb dX12_unpack_58 rfl (lv_at hl 1 rfl) ?_
    refine lv_iload_n hx hb dX12_unpack_59 rfl (lv_at hl 2 rfl) ?_
    refine lv_iconst (v := (2 : Int32)) hx hb dX12_unpack_60 (by decide) ?_
    refine lv_iadd hx hb dX12_unpack_61 ?_
    refine lv_bipush (v := (18 : Int32)) hx hb dX12_unpack_62 (by decide) ?_
    refine lv_iadd hx hb dX12_unpack_64 ?_
    refine lv_iload_n hx hb dX12_unpack_65 rfl (lv_at hl 3 rfl) ?_
    refine lv_iadd hx hb dX12_unpack_66 ?_
    obtain ⟨g7, hf⟩ := gd_s hf
    refine bk_iald (wf := mw) (q0 := 26) (n := 38) (j := (((x2 + (2 : Int32)) + (18 : Int32)) + x3).toNatClampNeg) C hP rfl g7 rfl dX12_unpack_67 ?_
    obtain ⟨g8, hf⟩ := gd_s hf
    obtain ⟨σ9, eσ9, hf⟩ := bd_s hf
    refine bk_iast (wf := mw) (σ1 := σ9) (q0 := 15) (n := 9) (j := x3.toNatClampNeg) C hP hD hS rfl g8 rfl (by rw [eσ9]; exact mw_a15 g _ _ _) dX12_unpack_68 (fun H locs hP hD hS => ?_)
    refine lv_aload_n hx hb dX12_unpack_69 rfl (lv_at hl 0 rfl) ?_
    refine bk_get (wf := mw) (q0 := 0) (ci := 11) (k := 26) (v := .ref (g.2.2 16)) C hP wl_X12 rfl rfl (by decide) wa_171 rfl rfl dX12_unpack_70 ?_
    refine lv_iload_n hx hb dX12_unpack_73 rfl (lv_at hl 3 rfl) ?_
    refine lv_aload_n hx hb dX12_unpack_74 rfl (lv_at hl 1 rfl) ?_
    refine lv_iload_n hx hb dX12_unpack_75 rfl (lv_at hl 2 rfl) ?_
    refine lv_iconst (v := (2 : Int32)) hx hb dX12_unpack_76 (by decide) ?_
    refine lv_iadd hx hb dX12_unpack_77 ?_
    refine lv_bipush (v := (27 : Int32)) hx hb dX12_unpack_78 (by decide) ?_
    refine lv_iadd hx hb dX12_unpack_80 ?_
    refine lv_iload_n hx hb dX12_unpack_81 rfl (lv_at hl 3 rfl) ?_
    refine lv_iadd hx hb dX12_unpack_82 ?_
    obtain ⟨g10, hf⟩ := gd_s hf
    refine bk_iald (wf := mw) (q0 := 26) (n := 38) (j := (((x2 + (2 : Int32)) + (27 : Int32)) + x3).toNatClampNeg) C hP rfl g10 rfl dX12_unpack_83 ?_
    obtain ⟨g11, hf⟩ := gd_s hf
    obtain ⟨σ12, eσ12, hf⟩ := bd_s hf
    refine bk_iast (wf := mw) (σ1 := σ12) (q0 := 16) (n := 9) (j := x3.toNatClampNeg) C hP hD hS rfl g11 rfl (by rw [eσ12]; exact mw_a16 g _ _ _) dX12_unpack_84 (fun H locs hP hD hS => ?_)
    obtain ⟨v13, ev13, hf⟩ := bd_s hf
    refine lv_iinc (v := v13) (lv' := [(3, .int v13), (0, .ref (g.2.2 0)), (1, .ref (g.2.2 26)), (2, .int x2)]) hx hb dX12_unpack_85 hl (k := 3) rfl (by rw [ev13]; rfl) (by decide) rfl (fun ls hl => ?_)
    refine lv_goto (tgt := 18) hx hb dX12_unpack_88 (by decide) ?_
    cases hf
    exact k0 rfl H locs ls hP hD hS (lv_sub hl [1, 2, 3, 0] rfl)
theorem lp_X12_unpack_26_h18 {N : Nat} {n : Nat} {x2 : Int32} {x3 : Int32} {σ : Sg} {z : Nat × Int32 × Sg} (C : Cx p s m args meth c cX12_unpack 4 none RX12 g A X) (hz : it (fun q => s_X12_unpack_26_h18 N x2 q.1 q.2) n (x3, σ) = some z) (k : Bk mw p l e rm_X12_unpack_26 s m args below meth c 4 g A Q 0 0 91 [] [] z.2.2) : Bk mw p l e rm_X12_unpack_26 s m args below meth c 4 g A Q 0 0 18 [(0, .ref (g.2.2 0)), (1, .ref (g.2.2 26)), (2, .int x2), (3, .int x3)] [] σ :=
  it_W (S := Int32 × Sg) (fun q => Bk mw p l e rm_X12_unpack_26 s m args below meth c 4 g A Q 0 0 18 [(0, .ref (g.2.2 0)), (1, .ref (g.2.2 26)), (2, .int x2), (3, .int q.1)] [] q.2) (fun z => Bk mw p l e rm_X12_unpack_26 s m args below meth c 4 g A Q 0 0 91 [] [] z.2.2) (fun q z hq k0 k => e_X12_unpack_26_h18 C hq k0 k) n (x3, σ) z hz k
def f_X12_unpack_26 (N : Nat) (x2 : Int32) (σ : Sg) : Option (Sg) :=
if (x2 < 0 ∨ 38 ≤ x2.toNatClampNeg) then none else
bd (wr σ 0 28 (σ 26 x2.toNatClampNeg)) fun σ15 =>
if ((x2 + (1 : Int32)) < 0 ∨ 38 ≤ (x2 + (1 : Int32)).toNatClampNeg) then none else
bd (wr σ15 0 29 (σ15 26 (x2 + (1 : Int32)).toNatClampNeg)) fun σ17 =>
(it (fun q => s_X12_unpack_26_h18 N x2 q.1 q.2) N ((0 : Int32), σ17)).bind fun z18 =>
some (z18.2.2)
set_option maxHeartbeats 4000000 in
set_option maxRecDepth 100000 in
theorem b_X12_unpack_26 {N : Nat} {x2 : Int32} {σ : Sg} {z : Sg} (C : Cx p s m args meth c cX12_unpack 4 none RX12 g A X) (hf : f_X12_unpack_26 N x2 σ = some z) : Bk mw p l e rm_X12_unpack_26 s m args below meth c 4 g A (MQ below (qV mw g A z) args s 0 0 A) 0 0 0 [(0, .ref (g.2.2 0)), (1, .ref (g.2.2 26)), (2, .int x2)] [] σ := by
  obtain ⟨hx, hb, hr, hml, hown, hts, hK, hlocks, hXX, hA, hXo⟩ := id C
  intro H locs ls hP hD hS hl
  unfold f_X12_unpack_26 at hf
  refine lv_aload_n hx hb dX12_unpack_0 rfl (lv_at hl 0 rfl) ?_
  refine lv_aload_n hx hb dX12_unpack_1 rfl (lv_at hl 1 rfl) ?_
  refine lv_iload_n hx hb dX12_unpack_2 rfl (lv_at hl 2 rfl) ?_
  obtain ⟨g14, hf⟩ := gd_s hf
  refine bk_iald (wf := mw) (q0 := 26) (n := 38) (j := x2.toNatClampNeg) C hP rfl g14 rfl dX12_unpack_3 ?_
  obtain ⟨σ15, eσ15, hf⟩ := bd_s hf
  refine bk_put (wf := mw) (σ1 := σ15) (q0 := 0) (ci := 11) (k := 28) (v := .int (σ 26 x2.toNatClampNeg)) C hP hD hS wl_X12 tyX12_ok nmX12 rfl rfl (by decide) wa_613 rfl rfl rfl rfl rfl (Nat.le_of_ble_eq_true rfl) (by rw [eσ15]; exact mw_p0_28 g _ _) dX12_unpack_4 (fun H locs hP hD hS => ?_)
  refine lv_aload_n hx hb dX12_unpack_7 rfl (lv_at hl 0 rfl) ?_
  refine lv_aload_n hx hb dX12_unpack_8 rfl (lv_at hl 1 rfl) ?_
  refine lv_iload_n hx hb dX12_unpack_9 rfl (lv_at hl 2 rfl) ?_
  refine lv_iconst (v := (1 : Int32)) hx hb dX12_unpack_10 (by decide) ?_
  refine lv_iadd hx hb dX12_unpack_11 ?_
  obtain ⟨g16, hf⟩ := gd_s hf
  refine bk_iald (wf := mw) (q0 := 26) (n := 38) (j := (x2 + (1 : Int32)).toNatClampNeg) C hP rfl g16 rfl dX12_unpack_12 ?_
  obtain ⟨σ17, eσ17, hf⟩ := bd_s hf
  refine bk_put (wf := mw) (σ1 := σ17) (q0 := 0) (ci := 11) (k := 29) (v := .int (σ15 26 (x2 + (1 : Int32)).toNatClampNeg)) C hP hD hS wl_X12 tyX12_ok nmX12 rfl rfl (by decide) wa_614 rfl rfl rfl rfl rfl (Nat.le_of_ble_eq_true rfl) (by rw [eσ17]; exact mw_p0_29 g _ _) dX12_unpack_13 (fun H locs hP hD hS => ?_)
  refine lv_iconst (v := (0 : Int32)) hx hb dX12_unpack_16 (by decide) ?_
  refine lv_istore_n (lv' := [(3, .int (0 : Int32)), (0, .ref (g.2.2 0)), (1, .ref (g.2.2 26)), (2, .int x2)]) hx hb dX12_unpack_17 rfl hl (by decide) rfl (fun ls hl => ?_)
  obtain ⟨z18, hz18, hf⟩ := bi_s hf
  refine lp_X12_unpack_26_h18 C hz18 ?_ H locs ls hP hD hS (lv_sub hl [1, 2, 3, 0] rfl)
  intro H locs ls hP hD hS hl
  cases hf
  exact bk_vret C hP hD hS rfl dX12_unpack_91
theorem c_X12_unpack_26 {N : Nat} {x2 : Int32} {σ : Sg} {z : Sg} (hX : xOK g X) (hf : f_X12_unpack_26 N x2 σ = some z) : MetV l yX12_unpack (Cond.code yX12_unpack cX12_unpack 4 none :: wsA) rm_X12_unpack_26 mw g X [.ref (g.2.2 0), .ref (g.2.2 26), .int x2] σ z :=
  MetV_of hX (by decide) (Nat.le_of_ble_eq_true rfl) (fun p e s m args below meth c A C => b_X12_unpack_26 C hf)
-- X12_isAsSeen: isAsSeen()Z
abbrev rm_X12_isAsSeen : Room := { frames := 6, cells := 0, slots := 0, locals := 138 }
theorem nd_X12_isAsSeen : yX12_isAsSeen.cls ≠ "java/lang/invoke/MethodHandle" ∧ yX12_isAsSeen.cls ≠ "java/lang/invoke/VarHandle" ∧ (parseMethodDescriptor yX12_isAsSeen.desc).map (fun d => d.parameters.length) = some 0 := by decide +kernel
def f_X12_isAsSeen_b78 (N : Nat) (x2 : Int32) (x3 : Int32) (t0 : Int32) (σ : Sg) : Option (Nat × Int32 × Int32 × Sg) :=
bd (x3 + (1 : Int32)) fun v1 =>
some (0, t0, v1, σ)
set_option maxHeartbeats 4000000 in
set_option maxRecDepth 100000 in
theorem b_X12_isAsSeen_b78 {N : Nat} {x2 : Int32} {x3 : Int32} {t0 : Int32} {σ : Sg} {z : Nat × Int32 × Int32 × Sg} (C : Cx p s m args meth c cX12_isAsSeen 4 (some .boolean) RX12 g A X) (hf : f_X12_isAsSeen_b78 N x2 x3 t0 σ = some z) (k0 : z.1 = 0 → Bk mw p l e rm_X12_isAsSeen s m args below meth c 4 g A Q 0 0 29 [(0, .ref (g.2.2 0)), (1, .int z.2.1), (2, .int x2), (3, .int z.2.2.1)] [] z.2.2.2) (k : ¬ z.1 = 0 → Bk mw p l e rm_X12_isAsSeen s m args below meth c 4 g A Q 0 0 85 [(0, .ref (g.2.2 0)), (1, .int z.2.1), (2, .int x2)] [] z.2.2.2) : Bk mw p l e rm_X12_isAsSeen s m args below meth c 4 g A Q 0 0 78 [(0, .ref (g.2.2 0)), (2, .int x2), (3, .int x3)] [.int t0] σ := by
  obtain ⟨hx, hb, hr, hml, hown, hts, hK, hlocks, hXX, hA, hXo⟩ := id C
  intro H locs ls hP hD hS hl
  unfold f_X12_isAsSeen_b78 at hf
  refine lv_istore_n (lv' := [(1, .int t0), (0, .ref (g.2.2 0)), (2, .int x2), (3, .int x3)]) hx hb dX12_isAsSeen_78 rfl hl (by decide) rfl (fun ls hl => ?_)
  obtain ⟨v1, ev1, hf⟩ := bd_s hf
  refine lv_iinc (v := v1) (lv' := [(3, .int v1), (1, .int t0), (0, .ref (g.2.2 0)), (2, .int x2)]) hx hb dX12_isAsSeen_79 hl (k := 3) rfl (by rw [ev1]; rfl) (by decide) rfl (fun ls hl => ?_)
  refine lv_goto (tgt := 29) hx hb dX12_isAsSeen_82 (by decide) ?_
  cases hf
  exact k0 rfl H locs ls hP hD hS (lv_sub hl [2, 1, 3, 0] rfl)
def f_X12_isAsSeen_b77 (N : Nat) (x2 : Int32) (x3 : Int32) (σ : Sg) : Option (Nat × Int32 × Int32 × Sg) :=
f_X12_isAsSeen_b78 N x2 x3 (0 : Int32) σ
set_option maxHeartbeats 4000000 in
set_option maxRecDepth 100000 in
theorem b_X12_isAsSeen_b77 {N : Nat} {x2 : Int32} {x3 : Int32} {σ : Sg} {z : Nat × Int32 × Int32 × Sg} (C : Cx p s m args meth c cX12_isAsSeen 4 (some .boolean) RX12 g A X) (hf : f_X12_isAsSeen_b77 N x2 x3 σ = some z) (k0 : z.1 = 0 → Bk mw p l e rm_X12_isAsSeen s m args below meth c 4 g A Q 0 0 29 [(0, .ref (g.2.2 0)), (1, .int z.2.1), (2, .int x2), (3, .int z.2.2.1)] [] z.2.2.2) (k : ¬ z.1 = 0 → Bk mw p l e rm_X12_isAsSeen s m args below meth c 4 g A Q 0 0 85 [(0, .ref (g.2.2 0)), (1, .int z.2.1), (2, .int x2)] [] z.2.2.2) : Bk mw p l e rm_X12_isAsSeen s m args below meth c 4 g A Q 0 0 77 [(0, .ref (g.2.2 0)), (2, .int x2), (3, .int x3)] [] σ := by
  obtain ⟨hx, hb, hr, hml, hown, hts, hK, hlocks, hXX, hA, hXo⟩ := id C
  intro H locs ls hP hD hS hl
  unfold f_X12_isAsSeen_b77 at hf
  refine lv_iconst (v := (0 : Int32)) hx hb dX12_isAsSeen_77 (by decide) ?_
  exact b_X12_isAsSeen_b78 C hf k0 k H locs ls hP hD hS (lv_sub hl [0, 1, 2] rfl)
def f_X12_isAsSeen_b73 (N : Nat) (x2 : Int32) (x3 : Int32) (σ : Sg) : Option (Nat × Int32 × Int32 × Sg) :=
f_X12_isAsSeen_b78 N x2 x3 (1 : Int32) σ
set_option maxHeartbeats 4000000 in
set_option maxRecDepth 100000 in
theorem b_X12_isAsSeen_b73 {N : Nat} {x2 : Int32} {x3 : Int32} {σ : Sg} {z : Nat × Int32 × Int32 × Sg} (C : Cx p s m args meth c cX12_isAsSeen 4 (some .boolean) RX12 g A X) (hf : f_X12_isAsSeen_b73 N x2 x3 σ = some z) (k0 : z.1 = 0 → Bk mw p l e rm_X12_isAsSeen s m args below meth c 4 g A Q 0 0 29 [(0, .ref (g.2.2 0)), (1, .int z.2.1), (2, .int x2), (3, .int z.2.2.1)] [] z.2.2.2) (k : ¬ z.1 = 0 → Bk mw p l e rm_X12_isAsSeen s m args below meth c 4 g A Q 0 0 85 [(0, .ref (g.2.2 0)), (1, .int z.2.1), (2, .int x2)] [] z.2.2.2) : Bk mw p l e rm_X12_isAsSeen s m args below meth c 4 g A Q 0 0 73 [(0, .ref (g.2.2 0)), (2, .int x2), (3, .int x3)] [] σ := by
  obtain ⟨hx, hb, hr, hml, hown, hts, hK, hlocks, hXX, hA, hXo⟩ := id C
  intro H locs ls hP hD hS hl
  unfold f_X12_isAsSeen_b73 at hf
  refine lv_iconst (v := (1 : Int32)) hx hb dX12_isAsSeen_73 (by decide) ?_
  refine lv_goto (tgt := 78) hx hb dX12_isAsSeen_74 (by decide) ?_
  exact b_X12_isAsSeen_b78 C hf k0 k H locs ls hP hD hS (lv_sub hl [0, 1, 2] rfl)
def s_X12_isAsSeen_h29 (N : Nat) (x2 : Int32) (x1 : Int32) (x3 : Int32) (σ : Sg) : Option (Nat × Int32 × Int32 × Sg) :=
if (σ 0 31) ≤ x3 then (some (1, x1, 0, σ))
else (if x1 = 0 then (f_X12_isAsSeen_b77 N x2 x3 σ)
else (if (x3 < 0 ∨ 8 ≤ x3.toNatClampNeg) then none else
if (σ 25 x3.toNatClampNeg) = x2 then (if (x3 < 0 ∨ 8 ≤ x3.toNatClampNeg) then none else
(f_X12_isOf N (σ 0 35) (σ 24 x3.toNatClampNeg) σ).bind fun q4 =>
if (x3 < 0 ∨ 8 ≤ x3.toNatClampNeg) then none else
if q4.1 = ((q4.2) 27 x3.toNatClampNeg) then (f_X12_isAsSeen_b73 N x2 x3 (q4.2))
else (f_X12_isAsSeen_b77 N x2 x3 (q4.2)))
else (f_X12_isAsSeen_b73 N x2 x3 σ)))
set_option maxHeartbeats 4000000 in
set_option maxRecDepth 100000 in
theorem e_X12_isAsSeen_h29 {N : Nat} {x2 : Int32} {x1 : Int32} {x3 : Int32} {σ : Sg} {z : Nat × Int32 × Int32 × Sg} (C : Cx p s m args meth c cX12_isAsSeen 4 (some .boolean) RX12 g A X) (hf : s_X12_isAsSeen_h29 N x2 x1 x3 σ = some z) (k0 : z.1 = 0 → Bk mw p l e rm_X12_isAsSeen s m args below meth c 4 g A Q 0 0 29 [(0, .ref (g.2.2 0)), (1, .int z.2.1), (2, .int x2), (3, .int z.2.2.1)] [] z.2.2.2) (k : ¬ z.1 = 0 → Bk mw p l e rm_X12_isAsSeen s m args below meth c 4 g A Q 0 0 85 [(0, .ref (g.2.2 0)), (1, .int z.2.1), (2, .int x2)] [] z.2.2.2) : Bk mw p l e rm_X12_isAsSeen s m args below meth c 4 g A Q 0 0 29 [(0, .ref (g.2.2 0)), (1, .int x1), (2, .int x2), (3, .int x3)] [] σ := by
  obtain ⟨hx, hb, hr, hml, hown, hts, hK, hlocks, hXX, hA, hXo⟩ := id C
  intro H locs ls hP hD hS hl
  unfold s_X12_isAsSeen_h29 at hf
  refine lv_iload_n hx hb dX12_isAsSeen_29 rfl (lv_at hl 3 rfl) ?_
  refine lv_aload_n hx hb dX12_isAsSeen_30 rfl (lv_at hl 0 rfl) ?_
  refine bk_get (wf := mw) (q0 := 0) (ci := 11) (k := 31) (v := .int (σ 0 31)) C hP wl_X12 rfl rfl (by decide) wa_616 rfl rfl dX12_isAsSeen_31 ?_
  refine lv_icmp_ge (tgt := 85) hx hb dX12_isAsSeen_34 (by decide) (fun t34 => ?_) (fun t34 => ?_)
  · have hf := (if_pos t34).symm.trans hf
    cases hf
    exact (k (show ¬ (1 : Nat) = 0 by decide)) H locs ls hP hD hS (lv_sub hl [0, 1, 2] rfl)
  · have hf := (if_neg t34).symm.trans hf
    refine lv_iload_n hx hb dX12_isAsSeen_37 rfl (lv_at hl 1 rfl) ?_
    refine lv_if_eq (tgt := 77) hx hb dX12_isAsSeen_38 (by decide) (fun t38 => ?_) (fun t38 => ?_)
    · have hf := (if_pos t38).symm.trans hf
      exact b_X12_isAsSeen_b77 C hf k0 k H locs ls hP hD hS (lv_sub hl [0, 2, 3] rfl)
    · have hf := (if_neg t38).symm.trans hf
      refine lv_aload_n hx hb dX12_isAsSeen_41 rfl (lv_at hl 0 rfl) ?_
      refine bk_get (wf := mw) (q0 := 0) (ci := 11) (k := 41) (v := .ref (g.2.2 25)) C hP wl_X12 rfl rfl (by decide) wa_181 rfl rfl dX12_isAsSeen_42 ?_
      refine lv_iload_n hx hb dX12_isAsSeen_45 rfl (lv_at hl 3 rfl) ?_
      obtain ⟨g2, hf⟩ := gd_s hf
      refine bk_iald (wf := mw) (q0 := 25) (n := 8) (j := x3.toNatClampNeg) C hP rfl g2 rfl dX12_isAsSeen_46 ?_
      refine lv_iload_n hx hb dX12_isAsSeen_47 rfl (lv_at hl 2 rfl) ?_
      refine lv_icmp_ne (tgt := 73) hx hb dX12_isAsSeen_48 (by decide) (fun t48 => ?_) (fun t48 => ?_)
      · have hf := (if_neg t48).symm.trans hf
        exact b_X12_isAsSeen_b73 C hf k0 k H locs ls hP hD hS (lv_sub hl [0, 2, 3] rfl)
      · have hf := (if_pos t48).symm.trans hf
        refine lv_aload_n hx hb dX12_isAsSeen_51 rfl (lv_at hl 0 rfl) ?_
        refine bk_get (wf := mw) (q0 := 0) (ci := 11) (k := 35) (v := .int (σ 0 35)) C hP wl_X12 rfl rfl (by decide) wa_904 rfl rfl dX12_isAsSeen_52 ?_
        refine lv_aload_n hx hb dX12_isAsSeen_55 rfl (lv_at hl 0 rfl) ?_
        refine bk_get (wf := mw) (q0 := 0) (ci := 11) (k := 40) (v := .ref (g.2.2 24)) C hP wl_X12 rfl rfl (by decide) wa_180 rfl rfl dX12_isAsSeen_56 ?_
        refine lv_iload_n hx hb dX12_isAsSeen_59 rfl (lv_at hl 3 rfl) ?_
        obtain ⟨g3, hf⟩ := gd_s hf
        refine bk_iald (wf := mw) (q0 := 24) (n := 8) (j := x3.toNatClampNeg) C hP rfl g3 rfl dX12_isAsSeen_60 ?_
        obtain ⟨q4, hq4, hf⟩ := bi_s hf
        refine bk_SI (wf := mw) (rest := []) [.int (σ 0 35), .int (σ 24 x3.toNatClampNeg)] C hP hD hS hl.1 (c_X12_isOf hXo hq4) (cwA_S 2 hts wa_726 wa_724 wa_725 wa_5 rfl rfl nd_X12_isOf ⟨Nat.le_of_ble_eq_true rfl, Nat.le_of_ble_eq_true rfl⟩) rfl rfl (Nat.le_of_ble_eq_true rfl) dX12_isAsSeen_61 ⟨Nat.le_of_ble_eq_true rfl, Nat.le_of_ble_eq_true rfl⟩ (fun H locs hP hD hS => ?_)
        refine lv_aload_n hx hb dX12_isAsSeen_64 rfl (lv_at hl 0 rfl) ?_
        refine bk_get (wf := mw) (q0 := 0) (ci := 11) (k := 43) (v := .ref (g.2.2 27)) C hP wl_X12 rfl rfl (by decide) wa_184 rfl rfl dX12_isAsSeen_65 ?_
        refine lv_iload_n hx hb dX12_isAsSeen_68 rfl (lv_at hl 3 rfl) ?_
        obtain ⟨g5, hf⟩ := gd_s hf
        refine bk_zald (wf := mw) (q0 := 27) (n := 8) (j := x3.toNatClampNeg) C hP rfl g5 rfl dX12_isAsSeen_69 ?_
        refine lv_icmp_ne (tgt := 77) hx hb dX12_isAsSeen_70 (by decide) (fun t70 => ?_) (fun t70 => ?_)
        · have hf := (if_neg t70).symm.trans hf
          exact b_X12_isAsSeen_b77 C hf k0 k H locs ls hP hD hS (lv_sub hl [0, 2, 3] rfl)
        · have hf := (if_pos t70).symm.trans hf
          exact b_X12_isAsSeen_b73 C hf k0 k H locs ls hP hD hS (lv_sub hl [0, 2, 3] rfl)
theorem lp_X12_isAsSeen_h29 {N : Nat} {n : Nat} {x2 : Int32} {x1 : Int32} {x3 : Int32} {σ : Sg} {z : Nat × Int32 × Int32 × Sg} (C : Cx p s m args meth c cX12_isAsSeen 4 (some .boolean) RX12 g A X) (hz : it (fun q => s_X12_isAsSeen_h29 N x2 q.1 q.2.1 q.2.2) n (x1, x3, σ) = some z) (k : Bk mw p l e rm_X12_isAsSeen s m args below meth c 4 g A Q 0 0 85 [(0, .ref (g.2.2 0)), (1, .int z.2.1), (2, .int x2)] [] z.2.2.2) : Bk mw p l e rm_X12_isAsSeen s m args below meth c 4 g A Q 0 0 29 [(0, .ref (g.2.2 0)), (1, .int x1), (2, .int x2), (3, .int x3)] [] σ :=
  it_W (S := Int32 × Int32 × Sg) (fun q => Bk mw p l e rm_X12_isAsSeen s m args below meth c 4 g A Q 0 0 29 [(0, .ref (g.2.2 0)), (1, .int q.1), (2, .int x2), (3, .int q.2.1)] [] q.2.2) (fun z => Bk mw p l e rm_X12_isAsSeen s m args below meth c 4 g A Q 0 0 85 [(0, .ref (g.2.2 0)), (1, .int z.2.1), (2, .int x2)] [] z.2.2.2) (fun q z hq k0 k => e_X12_isAsSeen_h29 C hq k0 k) n (x1, x3, σ) z hz k
def s_X12_isAsSeen_h13 (N : Nat) (x1 : Int32) (x2 : Int32) (σ : Sg) : Option (Nat × Int32 × Int32 × Sg) :=
if (20 : Int32) < x2 then (some (1, x1, 0, σ))
else (if x1 = 0 then (some (1, x1, 0, σ))
else ((f_X12_aTick N σ).bind fun q6 =>
(it (fun q => s_X12_isAsSeen_h29 N x2 q.1 q.2.1 q.2.2) N (x1, (0 : Int32), q6)).bind fun z7 =>
bd (x2 + (1 : Int32)) fun v8 =>
some (0, (z7.2.1), v8, (z7.2.2.2))))
set_option maxHeartbeats 4000000 in
set_option maxRecDepth 100000 in
theorem e_X12_isAsSeen_h13 {N : Nat} {x1 : Int32} {x2 : Int32} {σ : Sg} {z : Nat × Int32 × Int32 × Sg} (C : Cx p s m args meth c cX12_isAsSeen 4 (some .boolean) RX12 g A X) (hf : s_X12_isAsSeen_h13 N x1 x2 σ = some z) (k0 : z.1 = 0 → Bk mw p l e rm_X12_isAsSeen s m args below meth c 4 g A Q 0 0 13 [(0, .ref (g.2.2 0)), (1, .int z.2.1), (2, .int z.2.2.1)] [] z.2.2.2) (k : ¬ z.1 = 0 → Bk mw p l e rm_X12_isAsSeen s m args below meth c 4 g A Q 0 0 91 [(0, .ref (g.2.2 0)), (1, .int z.2.1)] [] z.2.2.2) : Bk mw p l e rm_X12_isAsSeen s m args below meth c 4 g A Q 0 0 13 [(0, .ref (g.2.2 0)), (1, .int x1), (2, .int x2)] [] σ := by
  obtain ⟨hx, hb, hr, hml, hown, hts, hK, hlocks, hXX, hA, hXo⟩ := id C
  intro H locs ls hP hD hS hl
  unfold s_X12_isAsSeen_h13 at hf
  refine lv_iload_n hx hb dX12_isAsSeen_13 rfl (lv_at hl 2 rfl) ?_
  refine lv_bipush (v := (20 : Int32)) hx hb dX12_isAsSeen_14 (by decide) ?_
  refine lv_icmp_gt (tgt := 91) hx hb dX12_isAsSeen_16 (by decide) (fun t16 => ?_) (fun t16 => ?_)
  · have hf := (if_pos t16).symm.trans hf
    cases hf
    exact (k (show ¬ (1 : Nat) = 0 by decide)) H locs ls hP hD hS (lv_sub hl [0, 1] rfl)
  · have hf := (if_neg t16).symm.trans hf
    refine lv_iload_n hx hb dX12_isAsSeen_19 rfl (lv_at hl 1 rfl) ?_
    refine lv_if_eq (tgt := 91) hx hb dX12_isAsSeen_20 (by decide) (fun t20 => ?_) (fun t20 => ?_)
    · have hf := (if_pos t20).symm.trans hf
      cases hf
      exact (k (show ¬ (1 : Nat) = 0 by decide)) H locs ls hP hD hS (lv_sub hl [0, 1] rfl)
    · have hf := (if_neg t20).symm.trans hf
      refine lv_aload_n hx hb dX12_isAsSeen_23 rfl (lv_at hl 0 rfl) ?_
      obtain ⟨q6, hq6, hf⟩ := bi_s hf
      refine bk_VV (wf := mw) (q0 := 0) (ci := 11) (rest := []) [] C hP hD hS hl.1 (c_X12_aTick hXo hq6) (cwA_V 0 hts wa_903 wa_900 wa_901 wa_902 wa_5 rfl rfl nd_X12_aTick ⟨Nat.le_of_ble_eq_true rfl, Nat.le_of_ble_eq_true rfl⟩) rfl rfl rfl rfl (Nat.le_of_ble_eq_true rfl) dX12_isAsSeen_24 ⟨Nat.le_of_ble_eq_true rfl, Nat.le_of_ble_eq_true rfl⟩ (fun H locs hP hD hS => ?_)
      refine lv_iconst (v := (0 : Int32)) hx hb dX12_isAsSeen_27 (by decide) ?_
      refine lv_istore_n (lv' := [(3, .int (0 : Int32)), (0, .ref (g.2.2 0)), (1, .int x1), (2, .int x2)]) hx hb dX12_isAsSeen_28 rfl hl (by decide) rfl (fun ls hl => ?_)
      obtain ⟨z7, hz7, hf⟩ := bi_s hf
      refine lp_X12_isAsSeen_h29 C hz7 ?_ H locs ls hP hD hS (lv_sub hl [1, 2, 3, 0] rfl)
      intro H locs ls hP hD hS hl
      obtain ⟨v8, ev8, hf⟩ := bd_s hf
      refine lv_iinc (v := v8) (lv' := [(2, .int v8), (0, .ref (g.2.2 0)), (1, .int (z7.2.1))]) hx hb dX12_isAsSeen_85 hl (k := 2) rfl (by rw [ev8]; rfl) (by decide) rfl (fun ls hl => ?_)
      refine lv_goto (tgt := 13) hx hb dX12_isAsSeen_88 (by decide) ?_
      cases hf
      exact k0 rfl H locs ls hP hD hS (lv_sub hl [1, 2, 0] rfl)
theorem lp_X12_isAsSeen_h13 {N : Nat} {n : Nat} {x1 : Int32} {x2 : Int32} {σ : Sg} {z : Nat × Int32 × Int32 × Sg} (C : Cx p s m args meth c cX12_isAsSeen 4 (some .boolean) RX12 g A X) (hz : it (fun q => s_X12_isAsSeen_h13 N q.1 q.2.1 q.2.2) n (x1, x2, σ) = some z) (k : Bk mw p l e rm_X12_isAsSeen s m args below meth c 4 g A Q 0 0 91 [(0, .ref (g.2.2 0)), (1, .int z.2.1)] [] z.2.2.2) : Bk mw p l e rm_X12_isAsSeen s m args below meth c 4 g A Q 0 0 13 [(0, .ref (g.2.2 0)), (1, .int x1), (2, .int x2)] [] σ :=
  it_W (S := Int32 × Int32 × Sg) (fun q => Bk mw p l e rm_X12_isAsSeen s m args below meth c 4 g A Q 0 0 13 [(0, .ref (g.2.2 0)), (1, .int q.1), (2, .int q.2.1)] [] q.2.2) (fun z => Bk mw p l e rm_X12_isAsSeen s m args below meth c 4 g A Q 0 0 91 [(0, .ref (g.2.2 0)), (1, .int z.2.1)] [] z.2.2.2) (fun q z hq k0 k => e_X12_isAsSeen_h13 C hq k0 k) n (x1, x2, σ) z hz k
def f_X12_isAsSeen (N : Nat) (σ : Sg) : Option (Int32 × Sg) :=
(f_X12_pack_26 N (0 : Int32) σ).bind fun q9 =>
(it (fun q => s_X12_isAsSeen_h13 N q.1 q.2.1 q.2.2) N ((1 : Int32), (1 : Int32), q9)).bind fun z10 =>
(f_X12_unpack_26 N (0 : Int32) (z10.2.2.2)).bind fun q11 =>
if ¬ ((z10.2.1) = 0 ∨ (z10.2.1) = 1) then none else some ((z10.2.1), q11)
set_option maxHeartbeats 4000000 in
set_option maxRecDepth 100000 in
theorem b_X12_isAsSeen {N : Nat} {σ : Sg} {z : Int32 × Sg} (C : Cx p s m args meth c cX12_isAsSeen 4 (some .boolean) RX12 g A X) (hf : f_X12_isAsSeen N σ = some z) : Bk mw p l e rm_X12_isAsSeen s m args below meth c 4 g A (MQ below (qI mw g A z.1 z.2) args s 0 0 A) 0 0 0 [(0, .ref (g.2.2 0))] [] σ := by
  obtain ⟨hx, hb, hr, hml, hown, hts, hK, hlocks, hXX, hA, hXo⟩ := id C
  intro H locs ls hP hD hS hl
  unfold f_X12_isAsSeen at hf
  refine lv_aload_n hx hb dX12_isAsSeen_0 rfl (lv_at hl 0 rfl) ?_
  refine lv_aload_n hx hb dX12_isAsSeen_1 rfl (lv_at hl 0 rfl) ?_
  refine bk_get (wf := mw) (q0 := 0) (ci := 11) (k := 42) (v := .ref (g.2.2 26)) C hP wl_X12 rfl rfl (by decide) wa_182 rfl rfl dX12_isAsSeen_2 ?_
  refine lv_iconst (v := (0 : Int32)) hx hb dX12_isAsSeen_5 (by decide) ?_
  obtain ⟨q9, hq9, hf⟩ := bi_s hf
  refine bk_VV (wf := mw) (q0 := 0) (ci := 11) (rest := []) [.ref (g.2.2 26), .int (0 : Int32)] C hP hD hS hl.1 (c_X12_pack_26 hXo hq9) (cwA_V 2 hts wa_895 wa_892 wa_893 wa_894 wa_5 rfl rfl nd_X12_pack ⟨Nat.le_of_ble_eq_true rfl, Nat.le_of_ble_eq_true rfl⟩) rfl rfl rfl rfl (Nat.le_of_ble_eq_true rfl) dX12_isAsSeen_6 ⟨Nat.le_of_ble_eq_true rfl, Nat.le_of_ble_eq_true rfl⟩ (fun H locs hP hD hS => ?_)
  refine lv_iconst (v := (1 : Int32)) hx hb dX12_isAsSeen_9 (by decide) ?_
  refine lv_istore_n (lv' := [(1, .int (1 : Int32)), (0, .ref (g.2.2 0))]) hx hb dX12_isAsSeen_10 rfl hl (by decide) rfl (fun ls hl => ?_)
  refine lv_iconst (v := (1 : Int32)) hx hb dX12_isAsSeen_11 (by decide) ?_
  refine lv_istore_n (lv' := [(2, .int (1 : Int32)), (1, .int (1 : Int32)), (0, .ref (g.2.2 0))]) hx hb dX12_isAsSeen_12 rfl hl (by decide) rfl (fun ls hl => ?_)
  obtain ⟨z10, hz10, hf⟩ := bi_s hf
  refine lp_X12_isAsSeen_h13 C hz10 ?_ H locs ls hP hD hS (lv_sub hl [2, 1, 0] rfl)
  intro H locs ls hP hD hS hl
  refine lv_aload_n hx hb dX12_isAsSeen_91 rfl (lv_at hl 0 rfl) ?_
  refine lv_aload_n hx hb dX12_isAsSeen_92 rfl (lv_at hl 0 rfl) ?_
  refine bk_get (wf := mw) (q0 := 0) (ci := 11) (k := 42) (v := .ref (g.2.2 26)) C hP wl_X12 rfl rfl (by decide) wa_182 rfl rfl dX12_isAsSeen_93 ?_
  refine lv_iconst (v := (0 : Int32)) hx hb dX12_isAsSeen_96 (by decide) ?_
  obtain ⟨q11, hq11, hf⟩ := bi_s hf
  refine bk_VV (wf := mw) (q0 := 0) (ci := 11) (rest := []) [.ref (g.2.2 26), .int (0 : Int32)] C hP hD hS hl.1 (c_X12_unpack_26 hXo hq11) (cwA_V 2 hts wa_1010 wa_1007 wa_1008 wa_1009 wa_5 rfl rfl nd_X12_unpack ⟨Nat.le_of_ble_eq_true rfl, Nat.le_of_ble_eq_true rfl⟩) rfl rfl rfl rfl (Nat.le_of_ble_eq_true rfl) dX12_isAsSeen_97 ⟨Nat.le_of_ble_eq_true rfl, Nat.le_of_ble_eq_true rfl⟩ (fun H locs hP hD hS => ?_)
  refine lv_iload_n hx hb dX12_isAsSeen_100 rfl (lv_at hl 1 rfl) ?_
  obtain ⟨g12, hf⟩ := gd_s hf
  cases hf
  exact bk_zret C hP hD hS (Decidable.not_not.mp g12) rfl dX12_isAsSeen_101
theorem c_X12_isAsSeen {N : Nat} {σ : Sg} {z : Int32 × Sg} (hX : xOK g X) (hf : f_X12_isAsSeen N σ = some z) : MetI l yX12_isAsSeen (Cond.code yX12_isAsSeen cX12_isAsSeen 4 (some .boolean) :: wsA) rm_X12_isAsSeen mw g X [.ref (g.2.2 0)] σ z.1 z.2 :=
  MetI_of hX (by decide) (Nat.le_of_ble_eq_true rfl) (fun p e s m args below meth c A C => b_X12_isAsSeen C hf)
-- X12_tellFits: tellFits()V
abbrev rm_X12_tellFits : Room := { frames := 7, cells := 0, slots := 0, locals := 161 }
theorem nd_X12_tellFits : yX12_tellFits.cls ≠ "java/lang/invoke/MethodHandle" ∧ yX12_tellFits.cls ≠ "java/lang/invoke/VarHandle" ∧ (parseMethodDescriptor yX12_tellFits.desc).map (fun d => d.parameters.length) = some 0 := by decide +kernel
def f_X12_tellFits_b58 (N : Nat) (x1 : Int32) (x2 : Int32) (t1 : Int32) (t2 : Int32) (σ : Sg) : Option (Nat × Int32 × Sg) :=
bd (wr σ 0 44 (t1 ||| t2)) fun σ1 =>
if (x1 < 0 ∨ 9 ≤ x1.toNatClampNeg) then none else
bd (wr σ1 13 (x1.toNatClampNeg) x2) fun σ3 =>
bd (x1 + (1 : Int32)) fun v4 =>
some (0, v4, σ3)
set_option maxHeartbeats 4000000 in
set_option maxRecDepth 100000 in
theorem b_X12_tellFits_b58 {N : Nat} {x1 : Int32} {x2 : Int32} {t1 : Int32} {t2 : Int32} {σ : Sg} {z : Nat × Int32 × Sg} (C : Cx p s m args meth c cX12_tellFits 3 none RX12 g A X) (hf : f_X12_tellFits_b58 N x1 x2 t1 t2 σ = some z) (k0 : z.1 = 0 → Bk mw p l e rm_X12_tellFits s m args below meth c 3 g A Q 0 0 7 [(0, .ref (g.2.2 0)), (1, .int z.2.1)] [] z.2.2) (k : ¬ z.1 = 0 → Bk mw p l e rm_X12_tellFits s m args below meth c 3 g A Q 0 0 75 [] [] z.2.2) : Bk mw p l e rm_X12_tellFits s m args below meth c 3 g A Q 0 0 58 [(0, .ref (g.2.2 0)), (1, .int x1), (2, .int x2)] [.int t2, .int t1, .ref (g.2.2 0)] σ := by
  obtain ⟨hx, hb, hr, hml, hown, hts, hK, hlocks, hXX, hA, hXo⟩ := id C
  intro H locs ls hP hD hS hl
  unfold f_X12_tellFits_b58 at hf
  refine lv_ior hx hb dX12_tellFits_58 ?_
  obtain ⟨σ1, eσ1, hf⟩ := bd_s hf
  refine bk_put (wf := mw) (σ1 := σ1) (q0 := 0) (ci := 11) (k := 44) (v := .int (t1 ||| t2)) C hP hD hS wl_X12 tyX12_ok nmX12 rfl rfl (by decide) wa_1306 rfl rfl rfl rfl rfl (Nat.le_of_ble_eq_true rfl) (by rw [eσ1]; exact mw_p0_44 g _ _) dX12_tellFits_59 (fun H locs hP hD hS => ?_)
  refine lv_aload_n hx hb dX12_tellFits_62 rfl (lv_at hl 0 rfl) ?_
  refine bk_get (wf := mw) (q0 := 0) (ci := 11) (k := 23) (v := .ref (g.2.2 13)) C hP wl_X12 rfl rfl (by decide) wa_168 rfl rfl dX12_tellFits_63 ?_
  refine lv_iload_n hx hb dX12_tellFits_66 rfl (lv_at hl 1 rfl) ?_
  refine lv_iload_n hx hb dX12_tellFits_67 rfl (lv_at hl 2 rfl) ?_
  obtain ⟨g2, hf⟩ := gd_s hf
  obtain ⟨σ3, eσ3, hf⟩ := bd_s hf
  refine bk_iast (wf := mw) (σ1 := σ3) (q0 := 13) (n := 9) (j := x1.toNatClampNeg) C hP hD hS rfl g2 rfl (by rw [eσ3]; exact mw_a13 g _ _ _) dX12_tellFits_68 (fun H locs hP hD hS => ?_)
  obtain ⟨v4, ev4, hf⟩ := bd_s hf
  refine lv_iinc (v := v4) (lv' := [(1, .int v4), (0, .ref (g.2.2 0)), (2, .int x2)]) hx hb dX12_tellFits_69 hl (k := 1) rfl (by rw [ev4]; rfl) (by decide) rfl (fun ls hl => ?_)
  refine lv_goto (tgt := 7) hx hb dX12_tellFits_72 (by decide) ?_
  cases hf
  exact k0 rfl H locs ls hP hD hS (lv_sub hl [1, 0] rfl)
def f_X12_tellFits_b57 (N : Nat) (x1 : Int32) (x2 : Int32) (t1 : Int32) (σ : Sg) : Option (Nat × Int32 × Sg) :=
f_X12_tellFits_b58 N x1 x2 t1 (0 : Int32) σ
set_option maxHeartbeats 4000000 in
set_option maxRecDepth 100000 in
theorem b_X12_tellFits_b57 {N : Nat} {x1 : Int32} {x2 : Int32} {t1 : Int32} {σ : Sg} {z : Nat × Int32 × Sg} (C : Cx p s m args meth c cX12_tellFits 3 none RX12 g A X) (hf : f_X12_tellFits_b57 N x1 x2 t1 σ = some z) (k0 : z.1 = 0 → Bk mw p l e rm_X12_tellFits s m args below meth c 3 g A Q 0 0 7 [(0, .ref (g.2.2 0)), (1, .int z.2.1)] [] z.2.2) (k : ¬ z.1 = 0 → Bk mw p l e rm_X12_tellFits s m args below meth c 3 g A Q 0 0 75 [] [] z.2.2) : Bk mw p l e rm_X12_tellFits s m args below meth c 3 g A Q 0 0 57 [(0, .ref (g.2.2 0)), (1, .int x1), (2, .int x2)] [.int t1, .ref (g.2.2 0)] σ := by
  obtain ⟨hx, hb, hr, hml, hown, hts, hK, hlocks, hXX, hA, hXo⟩ := id C
  intro H locs ls hP hD hS hl
  unfold f_X12_tellFits_b57 at hf
  refine lv_iconst (v := (0 : Int32)) hx hb dX12_tellFits_57 (by decide) ?_
  exact b_X12_tellFits_b58 C hf k0 k H locs ls hP hD hS (lv_sub hl [0, 1, 2] rfl)
def s_X12_tellFits_h7 (N : Nat) (x1 : Int32) (σ : Sg) : Option (Nat × Int32 × Sg) :=
if (σ 3 0) ≤ x1 then (some (1, 0, σ))
else (if (x1 < 0 ∨ 9 ≤ x1.toNatClampNeg) then none else
bd (σ 13 x1.toNatClampNeg) fun v6 =>
if (x1 < 0 ∨ 9 ≤ x1.toNatClampNeg) then none else
bd (wr σ 13 (x1.toNatClampNeg) (1 : Int32)) fun σ8 =>
(f_X12_isAsleep N x1 σ8).bind fun q9 =>
if q9.1 = 0 then ((f_X12_isAsSeen N (q9.2)).bind fun q10 =>
if q10.1 = 0 then (f_X12_tellFits_b57 N x1 v6 (σ8 0 44) (q10.2))
else (f_X12_tellFits_b58 N x1 v6 (σ8 0 44) ((1 : Int32) <<< (x1 &&& 31)) (q10.2)))
else (f_X12_tellFits_b57 N x1 v6 (σ8 0 44) (q9.2)))
set_option maxHeartbeats 4000000 in
set_option maxRecDepth 100000 in
theorem e_X12_tellFits_h7 {N : Nat} {x1 : Int32} {σ : Sg} {z : Nat × Int32 × Sg} (C : Cx p s m args meth c cX12_tellFits 3 none RX12 g A X) (hf : s_X12_tellFits_h7 N x1 σ = some z) (k0 : z.1 = 0 → Bk mw p l e rm_X12_tellFits s m args below meth c 3 g A Q 0 0 7 [(0, .ref (g.2.2 0)), (1, .int z.2.1)] [] z.2.2) (k : ¬ z.1 = 0 → Bk mw p l e rm_X12_tellFits s m args below meth c 3 g A Q 0 0 75 [] [] z.2.2) : Bk mw p l e rm_X12_tellFits s m args below meth c 3 g A Q 0 0 7 [(0, .ref (g.2.2 0)), (1, .int x1)] [] σ := by
  obtain ⟨hx, hb, hr, hml, hown, hts, hK, hlocks, hXX, hA, hXo⟩ := id C
  intro H locs ls hP hD hS hl
  unfold s_X12_tellFits_h7 at hf
  refine lv_iload_n hx hb dX12_tellFits_7 rfl (lv_at hl 1 rfl) ?_
  refine lv_aload_n hx hb dX12_tellFits_8 rfl (lv_at hl 0 rfl) ?_
  refine bk_get (wf := mw) (q0 := 0) (ci := 11) (k := 3) (v := .ref (g.2.2 3)) C hP wl_X12 rfl rfl (by decide) wa_157 rfl rfl dX12_tellFits_9 ?_
  refine lv_iconst (v := (0 : Int32)) hx hb dX12_tellFits_12 (by decide) ?_
  refine bk_iald (wf := mw) (q0 := 3) (n := 10) (j := 0) C hP rfl (vin_l (by decide) (by decide)) (by decide) dX12_tellFits_13 ?_
  refine lv_icmp_ge (tgt := 75) hx hb dX12_tellFits_14 (by decide) (fun t14 => ?_) (fun t14 => ?_)
  · have hf := (if_pos t14).symm.trans hf
    cases hf
    exact (k (show ¬ (1 : Nat) = 0 by decide)) H locs ls hP hD hS (lv_sub hl [] rfl)
  · have hf := (if_neg t14).symm.trans hf
    refine lv_aload_n hx hb dX12_tellFits_17 rfl (lv_at hl 0 rfl) ?_
    refine bk_get (wf := mw) (q0 := 0) (ci := 11) (k := 23) (v := .ref (g.2.2 13)) C hP wl_X12 rfl rfl (by decide) wa_168 rfl rfl dX12_tellFits_18 ?_
    refine lv_iload_n hx hb dX12_tellFits_21 rfl (lv_at hl 1 rfl) ?_
    obtain ⟨g5, hf⟩ := gd_s hf
    refine bk_iald (wf := mw) (q0 := 13) (n := 9) (j := x1.toNatClampNeg) C hP rfl g5 rfl dX12_tellFits_22 ?_
    obtain ⟨v6, ev6, hf⟩ := bd_s hf
    rw [← ev6]
    refine lv_istore_n (lv' := [(2, .int v6), (0, .ref (g.2.2 0)), (1, .int x1)]) hx hb dX12_tellFits_23 rfl hl (by decide) rfl (fun ls hl => ?_)
    refine lv_aload_n hx hb dX12_tellFits_24 rfl (lv_at hl 1 rfl) ?_
    refine bk_get (wf := mw) (q0 := 0) (ci := 11) (k := 23) (v := .ref (g.2.2 13)) C hP wl_X12 rfl rfl (by decide) wa_168 rfl rfl dX12_tellFits_25 ?_
    refine lv_iload_n hx hb dX12_tellFits_28 rfl (lv_at hl 2 rfl) ?_
    refine lv_iconst (v := (1 : Int32)) hx hb dX12_tellFits_29 (by decide) ?_
    obtain ⟨g7, hf⟩ := gd_s hf
    obtain ⟨σ8, eσ8, hf⟩ := bd_s hf
    refine bk_iast (wf := mw) (σ1 := σ8) (q0 := 13) (n := 9) (j := x1.toNatClampNeg) C hP hD hS rfl g7 rfl (by rw [eσ8]; exact mw_a13 g _ _ _) dX12_tellFits_30 (fun H locs hP hD hS => ?_)
    refine lv_aload_n hx hb dX12_tellFits_31 rfl (lv_at hl 1 rfl) ?_
    refine lv_dup hx hb dX12_tellFits_32 rfl ?_
    refine bk_get (wf := mw) (q0 := 0) (ci := 11) (k := 44) (v := .int (σ8 0 44)) C hP wl_X12 rfl rfl (by decide) wa_1306 rfl rfl dX12_tellFits_33 ?_
    refine lv_aload_n hx hb dX12_tellFits_36 rfl (lv_at hl 1 rfl) ?_
    refine lv_iload_n hx hb dX12_tellFits_37 rfl (lv_at hl 2 rfl) ?_
    obtain ⟨q9, hq9, hf⟩ := bi_s hf
    refine bk_VI (wf := mw) (q0 := 0) (ci := 11) (rest := [.int (σ8 0 44), .ref (g.2.2 0)]) [.int x1] C hP hD hS hl.1 (c_X12_isAsleep hXo hq9) (cwA_V 1 hts wa_943 wa_940 wa_941 wa_942 wa_5 rfl rfl nd_X12_isAsleep ⟨Nat.le_of_ble_eq_true rfl, Nat.le_of_ble_eq_true rfl⟩) rfl rfl rfl rfl (Nat.le_of_ble_eq_true rfl) dX12_tellFits_38 ⟨Nat.le_of_ble_eq_true rfl, Nat.le_of_ble_eq_true rfl⟩ (fun H locs hP hD hS => ?_)
    refine lv_if_ne (tgt := 57) hx hb dX12_tellFits_41 (by decide) (fun t41 => ?_) (fun t41 => ?_)
    · have hf := (if_neg t41).symm.trans hf
      exact b_X12_tellFits_b57 C hf k0 k H locs ls hP hD hS (lv_sub hl [1, 2, 0] rfl)
    · have hf := (if_pos t41).symm.trans hf
      refine lv_aload_n hx hb dX12_tellFits_44 rfl (lv_at hl 1 rfl) ?_
      obtain ⟨q10, hq10, hf⟩ := bi_s hf
      refine bk_VI (wf := mw) (q0 := 0) (ci := 11) (rest := [.int (σ8 0 44), .ref (g.2.2 0)]) [] C hP hD hS hl.1 (c_X12_isAsSeen hXo hq10) (cwA_V 0 hts wa_1310 wa_1307 wa_1308 wa_1309 wa_5 rfl rfl nd_X12_isAsSeen ⟨Nat.le_of_ble_eq_true rfl, Nat.le_of_ble_eq_true rfl⟩) rfl rfl rfl rfl (Nat.le_of_ble_eq_true rfl) dX12_tellFits_45 ⟨Nat.le_of_ble_eq_true rfl, Nat.le_of_ble_eq_true rfl⟩ (fun H locs hP hD hS => ?_)
      refine lv_if_eq (tgt := 57) hx hb dX12_tellFits_48 (by decide) (fun t48 => ?_) (fun t48 => ?_)
      · have hf := (if_pos t48).symm.trans hf
        exact b_X12_tellFits_b57 C hf k0 k H locs ls hP hD hS (lv_sub hl [1, 2, 0] rfl)
      · have hf := (if_neg t48).symm.trans hf
        refine lv_iconst (v := (1 : Int32)) hx hb dX12_tellFits_51 (by decide) ?_
        refine lv_iload_n hx hb dX12_tellFits_52 rfl (lv_at hl 2 rfl) ?_
        refine lv_ishl hx hb dX12_tellFits_53 ?_
        refine lv_goto (tgt := 58) hx hb dX12_tellFits_54 (by decide) ?_
        exact b_X12_tellFits_b58 C hf k0 k H locs ls hP hD hS (lv_sub hl [1, 2, 0] rfl)
theorem lp_X12_tellFits_h7 {N : Nat} {n : Nat} {x1 : Int32} {σ : Sg} {z : Nat × Int32 × Sg} (C : Cx p s m args meth c cX12_tellFits 3 none RX12 g A X) (hz : it (fun q => s_X12_tellFits_h7 N q.1 q.2) n (x1, σ) = some z) (k : Bk mw p l e rm_X12_tellFits s m args below meth c 3 g A Q 0 0 75 [] [] z.2.2) : Bk mw p l e rm_X12_tellFits s m args below meth c 3 g A Q 0 0 7 [(0, .ref (g.2.2 0)), (1, .int x1)] [] σ :=
  it_W (S := Int32 × Sg) (fun q => Bk mw p l e rm_X12_tellFits s m args below meth c 3 g A Q 0 0 7 [(0, .ref (g.2.2 0)), (1, .int q.1)] [] q.2) (fun z => Bk mw p l e rm_X12_tellFits s m args below meth c 3 g A Q 0 0 75 [] [] z.2.2) (fun q z hq k0 k => e_X12_tellFits_h7 C hq k0 k) n (x1, σ) z hz k
def f_X12_tellFits (N : Nat) (σ : Sg) : Option (Sg) :=
bd (wr σ 0 44 (0 : Int32)) fun σ11 =>
(it (fun q => s_X12_tellFits_h7 N q.1 q.2) N ((0 : Int32), σ11)).bind fun z12 =>
some (z12.2.2)
set_option maxHeartbeats 4000000 in
set_option maxRecDepth 100000 in
theorem b_X12_tellFits {N : Nat} {σ : Sg} {z : Sg} (C : Cx p s m args meth c cX12_tellFits 3 none RX12 g A X) (hf : f_X12_tellFits N σ = some z) : Bk mw p l e rm_X12_tellFits s m args below meth c 3 g A (MQ below (qV mw g A z) args s 0 0 A) 0 0 0 [(0, .ref (g.2.2 0))] [] σ := by
  obtain ⟨hx, hb, hr, hml, hown, hts, hK, hlocks, hXX, hA, hXo⟩ := id C
  intro H locs ls hP hD hS hl
  unfold f_X12_tellFits at hf
  refine lv_aload_n hx hb dX12_tellFits_0 rfl (lv_at hl 0 rfl) ?_
  refine lv_iconst (v := (0 : Int32)) hx hb dX12_tellFits_1 (by decide) ?_
  obtain ⟨σ11, eσ11, hf⟩ := bd_s hf
  refine bk_put (wf := mw) (σ1 := σ11) (q0 := 0) (ci := 11) (k := 44) (v := .int (0 : Int32)) C hP hD hS wl_X12 tyX12_ok nmX12 rfl rfl (by decide) wa_1306 rfl rfl rfl rfl rfl (Nat.le_of_ble_eq_true rfl) (by rw [eσ11]; exact mw_p0_44 g _ _) dX12_tellFits_2 (fun H locs hP hD hS => ?_)
  refine lv_iconst (v := (0 : Int32)) hx hb dX12_tellFits_5 (by decide) ?_
  refine lv_istore_n (lv' := [(1, .int (0 : Int32)), (0, .ref (g.2.2 0))]) hx hb dX12_tellFits_6 rfl hl (by decide) rfl (fun ls hl => ?_)
  obtain ⟨z12, hz12, hf⟩ := bi_s hf
  refine lp_X12_tellFits_h7 C hz12 ?_ H locs ls hP hD hS (lv_sub hl [1, 0] rfl)
  intro H locs ls hP hD hS hl
  cases hf
  exact bk_vret C hP hD hS rfl dX12_tellFits_75
theorem c_X12_tellFits {N : Nat} {σ : Sg} {z : Sg} (hX : xOK g X) (hf : f_X12_tellFits N σ = some z) : MetV l yX12_tellFits (Cond.code yX12_tellFits cX12_tellFits 3 none :: wsA) rm_X12_tellFits mw g X [.ref (g.2.2 0)] σ z :=
  MetV_of hX (by decide) (Nat.le_of_ble_eq_true rfl) (fun p e s m args below meth c A C => b_X12_tellFits C hf)
-- X12_begun: begun(I)I
abbrev rm_X12_begun : Room := { frames := 8, cells := 0, slots := 0, locals := 183 }
theorem nd_X12_begun : yX12_begun.cls ≠ "java/lang/invoke/MethodHandle" ∧ yX12_begun.cls ≠ "java/lang/invoke/VarHandle" ∧ (parseMethodDescriptor yX12_begun.desc).map (fun d => d.parameters.length) = some 1 := by decide +kernel
def f_X12_begun_b67 (N : Nat) (x1 : Int32) (x2 : Int32) (x3 : Int32) (σ : Sg) : Option (Nat × Int32 × Int32 × Sg) :=
bd (x3 + (-1 : Int32)) fun v1 =>
some (0, x2, v1, σ)
set_option maxHeartbeats 4000000 in
set_option maxRecDepth 100000 in
theorem b_X12_begun_b67 {N : Nat} {x1 : Int32} {x2 : Int32} {x3 : Int32} {σ : Sg} {z : Nat × Int32 × Int32 × Sg} (C : Cx p s m args meth c cX12_begun 4 (some .int) RX12 g A X) (hf : f_X12_begun_b67 N x1 x2 x3 σ = some z) (k0 : z.1 = 0 → Bk mw p l e rm_X12_begun s m args below meth c 4 g A Q 0 0 50 [(0, .ref (g.2.2 0)), (1, .int x1), (2, .int z.2.1), (3, .int z.2.2.1)] [] z.2.2.2) (k : ¬ z.1 = 0 → Bk mw p l e rm_X12_begun s m args below meth c 4 g A Q 0 0 73 [(0, .ref (g.2.2 0)), (1, .int x1), (2, .int z.2.1)] [] z.2.2.2) : Bk mw p l e rm_X12_begun s m args below meth c 4 g A Q 0 0 67 [(0, .ref (g.2.2 0)), (1, .int x1), (2, .int x2), (3, .int x3)] [] σ := by
  obtain ⟨hx, hb, hr, hml, hown, hts, hK, hlocks, hXX, hA, hXo⟩ := id C
  intro H locs ls hP hD hS hl
  unfold f_X12_begun_b67 at hf
  obtain ⟨v1, ev1, hf⟩ := bd_s hf
  refine lv_iinc (v := v1) (lv' := [(3, .int v1), (0, .ref (g.2.2 0)), (1, .int x1), (2, .int x2)]) hx hb dX12_begun_67 hl (k := 3) rfl (by rw [ev1]; rfl) (by decide) rfl (fun ls hl => ?_)
  refine lv_goto (tgt := 50) hx hb dX12_begun_70 (by decide) ?_
  cases hf
  exact k0 rfl H locs ls hP hD hS (lv_sub hl [1, 2, 3, 0] rfl)
def s_X12_begun_h50 (N : Nat) (x1 : Int32) (x2 : Int32) (x3 : Int32) (σ : Sg) : Option (Nat × Int32 × Int32 × Sg) :=
if x3 < 0 then (some (1, x2, 0, σ))
else ((f_X12_isOf N (σ 0 44) x3 σ).bind fun q2 =>
if q2.1 = 0 then (f_X12_begun_b67 N x1 x2 x3 (q2.2))
else (f_X12_begun_b67 N x1 x3 x3 (q2.2)))
set_option maxHeartbeats 4000000 in
set_option maxRecDepth 100000 in
theorem e_X12_begun_h50 {N : Nat} {x1 : Int32} {x2 : Int32} {x3 : Int32} {σ : Sg} {z : Nat × Int32 × Int32 × Sg} (C : Cx p s m args meth c cX12_begun 4 (some .int) RX12 g A X) (hf : s_X12_begun_h50 N x1 x2 x3 σ = some z) (k0 : z.1 = 0 → Bk mw p l e rm_X12_begun s m args below meth c 4 g A Q 0 0 50 [(0, .ref (g.2.2 0)), (1, .int x1), (2, .int z.2.1), (3, .int z.2.2.1)] [] z.2.2.2) (k : ¬ z.1 = 0 → Bk mw p l e rm_X12_begun s m args below meth c 4 g A Q 0 0 73 [(0, .ref (g.2.2 0)), (1, .int x1), (2, .int z.2.1)] [] z.2.2.2) : Bk mw p l e rm_X12_begun s m args below meth c 4 g A Q 0 0 50 [(0, .ref (g.2.2 0)), (1, .int x1), (2, .int x2), (3, .int x3)] [] σ := by
  obtain ⟨hx, hb, hr, hml, hown, hts, hK, hlocks, hXX, hA, hXo⟩ := id C
  intro H locs ls hP hD hS hl
  unfold s_X12_begun_h50 at hf
  refine lv_iload_n hx hb dX12_begun_50 rfl (lv_at hl 3 rfl) ?_
  refine lv_if_lt (tgt := 73) hx hb dX12_begun_51 (by decide) (fun t51 => ?_) (fun t51 => ?_)
  · have hf := (if_pos t51).symm.trans hf
    cases hf
    exact (k (show ¬ (1 : Nat) = 0 by decide)) H locs ls hP hD hS (lv_sub hl [0, 1, 2] rfl)
  · have hf := (if_neg t51).symm.trans hf
    refine lv_aload_n hx hb dX12_begun_54 rfl (lv_at hl 0 rfl) ?_
    refine bk_get (wf := mw) (q0 := 0) (ci := 11) (k := 44) (v := .int (σ 0 44)) C hP wl_X12 rfl rfl (by decide) wa_1306 rfl rfl dX12_begun_55 ?_
    refine lv_iload_n hx hb dX12_begun_58 rfl (lv_at hl 3 rfl) ?_
    obtain ⟨q2, hq2, hf⟩ := bi_s hf
    refine bk_SI (wf := mw) (rest := []) [.int (σ 0 44), .int x3] C hP hD hS hl.1 (c_X12_isOf hXo hq2) (cwA_S 2 hts wa_726 wa_724 wa_725 wa_5 rfl rfl nd_X12_isOf ⟨Nat.le_of_ble_eq_true rfl, Nat.le_of_ble_eq_true rfl⟩) rfl rfl (Nat.le_of_ble_eq_true rfl) dX12_begun_59 ⟨Nat.le_of_ble_eq_true rfl, Nat.le_of_ble_eq_true rfl⟩ (fun H locs hP hD hS => ?_)
    refine lv_if_eq (tgt := 67) hx hb dX12_begun_62 (by decide) (fun t62 => ?_) (fun t62 => ?_)
    · have hf := (if_pos t62).symm.trans hf
      exact b_X12_begun_b67 C hf k0 k H locs ls hP hD hS (lv_sub hl [0, 1, 2, 3] rfl)
    · have hf := (if_neg t62).symm.trans hf
      refine lv_iload_n hx hb dX12_begun_65 rfl (lv_at hl 3 rfl) ?_
      refine lv_istore_n (lv' := [(2, .int x3), (0, .ref (g.2.2 0)), (1, .int x1), (3, .int x3)]) hx hb dX12_begun_66 rfl hl (by decide) rfl (fun ls hl => ?_)
      exact b_X12_begun_b67 C hf k0 k H locs ls hP hD hS (lv_sub hl [1, 2, 0, 3] rfl)
theorem lp_X12_begun_h50 {N : Nat} {n : Nat} {x1 : Int32} {x2 : Int32} {x3 : Int32} {σ : Sg} {z : Nat × Int32 × Int32 × Sg} (C : Cx p s m args meth c cX12_begun 4 (some .int) RX12 g A X) (hz : it (fun q => s_X12_begun_h50 N x1 q.1 q.2.1 q.2.2) n (x2, x3, σ) = some z) (k : Bk mw p l e rm_X12_begun s m args below meth c 4 g A Q 0 0 73 [(0, .ref (g.2.2 0)), (1, .int x1), (2, .int z.2.1)] [] z.2.2.2) : Bk mw p l e rm_X12_begun s m args below meth c 4 g A Q 0 0 50 [(0, .ref (g.2.2 0)), (1, .int x1), (2, .int x2), (3, .int x3)] [] σ :=
  it_W (S := Int32 × Int32 × Sg) (fun q => Bk mw p l e rm_X12_begun s m args below meth c 4 g A Q 0 0 50 [(0, .ref (g.2.2 0)), (1, .int x1), (2, .int q.1), (3, .int q.2.1)] [] q.2.2) (fun z => Bk mw p l e rm_X12_begun s m args below meth c 4 g A Q 0 0 73 [(0, .ref (g.2.2 0)), (1, .int x1), (2, .int z.2.1)] [] z.2.2.2) (fun q z hq k0 k => e_X12_begun_h50 C hq k0 k) n (x2, x3, σ) z hz k
def f_X12_begun (N : Nat) (x1 : Int32) (σ : Sg) : Option (Int32 × Sg) :=
bd (wr σ 0 2 (0 : Int32)) fun σ3 =>
(f_X12_isIn N (x1).toInt64 (0 : Int64) (2 : Int64) σ3).bind fun q4 =>
if q4.1 = 0 then ((f_X12_fail N (1 : Int32) (q4.2)).bind fun q9 =>
some (q9.1, (q9.2)))
else (if x1 = (2 : Int32) then ((f_X12_isAsSeen N (q4.2)).bind fun q8 =>
if q8.1 = 0 then (some ((0 : Int32), (q8.2)))
else (some ((1 : Int32), (q8.2))))
else ((f_X12_tellFits N (q4.2)).bind fun q5 =>
(it (fun q => s_X12_begun_h50 N x1 q.1 q.2.1 q.2.2) N ((-1 : Int32), (8 : Int32), q5)).bind fun z6 =>
if x1 = 0 then ((f_X12_bitsOf N ((z6.2.2.2) 0 44) (z6.2.2.2)).bind fun q7 =>
some (q7.1, (q7.2)))
else (some ((z6.2.1), (z6.2.2.2)))))
set_option maxHeartbeats 4000000 in
set_option maxRecDepth 100000 in
theorem b_X12_begun {N : Nat} {x1 : Int32} {σ : Sg} {z : Int32 × Sg} (C : Cx p s m args meth c cX12_begun 4 (some .int) RX12 g A X) (hf : f_X12_begun N x1 σ = some z) : Bk mw p l e rm_X12_begun s m args below meth c 4 g A (MQ below (qI mw g A z.1 z.2) args s 0 0 A) 0 0 0 [(0, .ref (g.2.2 0)), (1, .int x1)] [] σ := by
  obtain ⟨hx, hb, hr, hml, hown, hts, hK, hlocks, hXX, hA, hXo⟩ := id C
  intro H locs ls hP hD hS hl
  unfold f_X12_begun at hf
  refine lv_aload_n hx hb dX12_begun_0 rfl (lv_at hl 0 rfl) ?_
  refine lv_iconst (v := (0 : Int32)) hx hb dX12_begun_1 (by decide) ?_
  obtain ⟨σ3, eσ3, hf⟩ := bd_s hf
  refine bk_put (wf := mw) (σ1 := σ3) (q0 := 0) (ci := 11) (k := 2) (v := .int (0 : Int32)) C hP hD hS wl_X12 tyX12_ok nmX12 rfl rfl (by decide) wa_205 rfl rfl rfl rfl rfl (Nat.le_of_ble_eq_true rfl) (by rw [eσ3]; exact mw_p0_2 g _ _) dX12_begun_2 (fun H locs hP hD hS => ?_)
  refine lv_iload_n hx hb dX12_begun_5 rfl (lv_at hl 1 rfl) ?_
  refine lv_i2l hx hb dX12_begun_6 rfl ?_
  refine lv_lconst (v := (0 : Int64)) hx hb dX12_begun_7 (by decide) ?_
  refine lv_ldc2 (v := (2 : Int64)) hx hb hown (hts _ wa_1305) dX12_begun_8 ?_
  obtain ⟨q4, hq4, hf⟩ := bi_s hf
  refine bk_SI (wf := mw) (rest := []) [.long (x1).toInt64, .long (0 : Int64), .long (2 : Int64)] C hP hD hS hl.1 (c_X12_isIn hXo hq4) (cwA_S 3 hts wa_803 wa_801 wa_802 wa_5 rfl rfl nd_X12_isIn ⟨Nat.le_of_ble_eq_true rfl, Nat.le_of_ble_eq_true rfl⟩) rfl rfl (Nat.le_of_ble_eq_true rfl) dX12_begun_11 ⟨Nat.le_of_ble_eq_true rfl, Nat.le_of_ble_eq_true rfl⟩ (fun H locs hP hD hS => ?_)
  refine lv_if_ne (tgt := 23) hx hb dX12_begun_14 (by decide) (fun t14 => ?_) (fun t14 => ?_)
  · have hf := (if_neg t14).symm.trans hf
    refine lv_iload_n hx hb dX12_begun_23 rfl (lv_at hl 1 rfl) ?_
    refine lv_iconst (v := (2 : Int32)) hx hb dX12_begun_24 (by decide) ?_
    refine lv_icmp_ne (tgt := 41) hx hb dX12_begun_25 (by decide) (fun t25 => ?_) (fun t25 => ?_)
    · have hf := (if_neg t25).symm.trans hf
      refine lv_aload_n hx hb dX12_begun_41 rfl (lv_at hl 0 rfl) ?_
      obtain ⟨q5, hq5, hf⟩ := bi_s hf
      refine bk_VV (wf := mw) (q0 := 0) (ci := 11) (rest := []) [] C hP hD hS hl.1 (c_X12_tellFits hXo hq5) (cwA_V 0 hts wa_1314 wa_1311 wa_1312 wa_1313 wa_5 rfl rfl nd_X12_tellFits ⟨Nat.le_of_ble_eq_true rfl, Nat.le_of_ble_eq_true rfl⟩) rfl rfl rfl rfl (Nat.le_of_ble_eq_true rfl) dX12_begun_42 ⟨Nat.le_of_ble_eq_true rfl, Nat.le_of_ble_eq_true rfl⟩ (fun H locs hP hD hS => ?_)
      refine lv_iconst (v := (-1 : Int32)) hx hb dX12_begun_45 (by decide) ?_
      refine lv_istore_n (lv' := [(2, .int (-1 : Int32)), (0, .ref (g.2.2 0)), (1, .int x1)]) hx hb dX12_begun_46 rfl hl (by decide) rfl (fun ls hl => ?_)
      refine lv_bipush (v := (8 : Int32)) hx hb dX12_begun_47 (by decide) ?_
      refine lv_istore_n (lv' := [(3, .int (8 : Int32)), (2, .int (-1 : Int32)), (0, .ref (g.2.2 0)), (1, .int x1)]) hx hb dX12_begun_49 rfl hl (by decide) rfl (fun ls hl => ?_)
      obtain ⟨z6, hz6, hf⟩ := bi_s hf
      refine lp_X12_begun_h50 C hz6 ?_ H locs ls hP hD hS (lv_sub hl [2, 3, 1, 0] rfl)
      intro H locs ls hP hD hS hl
      refine lv_iload_n hx hb dX12_begun_73 rfl (lv_at hl 1 rfl) ?_
      refine lv_if_ne (tgt := 87) hx hb dX12_begun_74 (by decide) (fun t74 => ?_) (fun t74 => ?_)
      · have hf := (if_neg t74).symm.trans hf
        refine lv_iload_n hx hb dX12_begun_87 rfl (lv_at hl 2 rfl) ?_
        cases hf
        exact bk_iret C hP hD hS rfl dX12_begun_88
      · have hf := (if_pos t74).symm.trans hf
        refine lv_aload_n hx hb dX12_begun_77 rfl (lv_at hl 0 rfl) ?_
        refine bk_get (wf := mw) (q0 := 0) (ci := 11) (k := 44) (v := .int ((z6.2.2.2) 0 44)) C hP wl_X12 rfl rfl (by decide) wa_1306 rfl rfl dX12_begun_78 ?_
        obtain ⟨q7, hq7, hf⟩ := bi_s hf
        refine bk_SI (wf := mw) (rest := []) [.int ((z6.2.2.2) 0 44)] C hP hD hS hl.1 (c_X12_bitsOf hXo hq7) (cwA_S 1 hts wa_769 wa_767 wa_768 wa_5 rfl rfl nd_X12_bitsOf ⟨Nat.le_of_ble_eq_true rfl, Nat.le_of_ble_eq_true rfl⟩) rfl rfl (Nat.le_of_ble_eq_true rfl) dX12_begun_81 ⟨Nat.le_of_ble_eq_true rfl, Nat.le_of_ble_eq_true rfl⟩ (fun H locs hP hD hS => ?_)
        refine lv_goto (tgt := 88) hx hb dX12_begun_84 (by decide) ?_
        cases hf
        exact bk_iret C hP hD hS rfl dX12_begun_88
    · have hf := (if_pos t25).symm.trans hf
      refine lv_aload_n hx hb dX12_begun_28 rfl (lv_at hl 0 rfl) ?_
      obtain ⟨q8, hq8, hf⟩ := bi_s hf
      refine bk_VI (wf := mw) (q0 := 0) (ci := 11) (rest := []) [] C hP hD hS hl.1 (c_X12_isAsSeen hXo hq8) (cwA_V 0 hts wa_1310 wa_1307 wa_1308 wa_1309 wa_5 rfl rfl nd_X12_isAsSeen ⟨Nat.le_of_ble_eq_true rfl, Nat.le_of_ble_eq_true rfl⟩) rfl rfl rfl rfl (Nat.le_of_ble_eq_true rfl) dX12_begun_29 ⟨Nat.le_of_ble_eq_true rfl, Nat.le_of_ble_eq_true rfl⟩ (fun H locs hP hD hS => ?_)
      refine lv_if_eq (tgt := 39) hx hb dX12_begun_32 (by decide) (fun t32 => ?_) (fun t32 => ?_)
      · have hf := (if_pos t32).symm.trans hf
        refine lv_iconst (v := (0 : Int32)) hx hb dX12_begun_39 (by decide) ?_
        cases hf
        exact bk_iret C hP hD hS rfl dX12_begun_40
      · have hf := (if_neg t32).symm.trans hf
        refine lv_iconst (v := (1 : Int32)) hx hb dX12_begun_35 (by decide) ?_
        refine lv_goto (tgt := 40) hx hb dX12_begun_36 (by decide) ?_
        cases hf
        exact bk_iret C hP hD hS rfl dX12_begun_40
  · have hf := (if_pos t14).symm.trans hf
    refine lv_aload_n hx hb dX12_begun_17 rfl (lv_at hl 0 rfl) ?_
    refine lv_iconst (v := (1 : Int32)) hx hb dX12_begun_18 (by decide) ?_
    obtain ⟨q9, hq9, hf⟩ := bi_s hf
    refine bk_VI (wf := mw) (q0 := 0) (ci := 11) (rest := []) [.int (1 : Int32)] C hP hD hS hl.1 (c_X12_fail hXo hq9) (cwA_V 1 hts wa_512 wa_509 wa_510 wa_511 wa_5 rfl rfl nd_X12_fail ⟨Nat.le_of_ble_eq_true rfl, Nat.le_of_ble_eq_true rfl⟩) rfl rfl rfl rfl (Nat.le_of_ble_eq_true rfl) dX12_begun_19 ⟨Nat.le_of_ble_eq_true rfl, Nat.le_of_ble_eq_true rfl⟩ (fun H locs hP hD hS => ?_)
    cases hf
    exact bk_iret C hP hD hS rfl dX12_begun_22
theorem c_X12_begun {N : Nat} {x1 : Int32} {σ : Sg} {z : Int32 × Sg} (hX : xOK g X) (hf : f_X12_begun N x1 σ = some z) : MetI l yX12_begun (Cond.code yX12_begun cX12_begun 4 (some .int) :: wsA) rm_X12_begun mw g X [.ref (g.2.2 0), .int x1] σ z.1 z.2 :=
  MetI_of hX (by decide) (Nat.le_of_ble_eq_true rfl) (fun p e s m args below meth c A C => b_X12_begun C hf)
-- X12_unlike: unlike(I)I
abbrev rm_X12_unlike : Room := { frames := 1, cells := 0, slots := 0, locals := 21 }
theorem nd_X12_unlike : yX12_unlike.cls ≠ "java/lang/invoke/MethodHandle" ∧ yX12_unlike.cls ≠ "java/lang/invoke/VarHandle" ∧ (parseMethodDescriptor yX12_unlike.desc).map (fun d => d.parameters.length) = some 1 := by decide +kernel
def f_X12_unlike_b81 (N : Nat) (x1 : Int32) (x2 : Int32) (x3 : Int32) (x5 : Int32) (t0 : Int32) (σ : Sg) : Option (Nat × Int32 × Int32 × Sg) :=
bd (x5 + (1 : Int32)) fun v1 =>
some (0, t0, v1, σ)
set_option maxHeartbeats 4000000 in
set_option maxRecDepth 100000 in
theorem b_X12_unlike_b81 {N : Nat} {x1 : Int32} {x2 : Int32} {x3 : Int32} {x5 : Int32} {t0 : Int32} {σ : Sg} {z : Nat × Int32 × Int32 × Sg} (C : Cx p s m args meth c cX12_unlike 6 (some .int) RX12 g A X) (hf : f_X12_unlike_b81 N x1 x2 x3 x5 t0 σ = some z) (k0 : z.1 = 0 → Bk mw p l e rm_X12_unlike s m args below meth c 6 g A Q 0 0 27 [(0, .ref (g.2.2 0)), (1, .int x1), (2, .int x2), (3, .int x3), (4, .int z.2.1), (5, .int z.2.2.1)] [] z.2.2.2) (k : ¬ z.1 = 0 → Bk mw p l e rm_X12_unlike s m args below meth c 6 g A Q 0 0 89 [(0, .ref (g.2.2 0)), (1, .int x1), (2, .int x2), (3, .int x3), (4, .int z.2.1)] [] z.2.2.2) : Bk mw p l e rm_X12_unlike s m args below meth c 6 g A Q 0 0 81 [(0, .ref (g.2.2 0)), (1, .int x1), (2, .int x2), (3, .int x3), (5, .int x5)] [.int t0] σ := by
  obtain ⟨hx, hb, hr, hml, hown, hts, hK, hlocks, hXX, hA, hXo⟩ := id C
  intro H locs ls hP hD hS hl
  unfold f_X12_unlike_b81 at hf
  refine lv_istore (lv' := [(4, .int t0), (0, .ref (g.2.2 0)), (1, .int x1), (2, .int x2), (3, .int x3), (5, .int x5)]) hx hb dX12_unlike_81 hl (by decide) rfl (fun ls hl => ?_)
  obtain ⟨v1, ev1, hf⟩ := bd_s hf
  refine lv_iinc (v := v1) (lv' := [(5, .int v1), (4, .int t0), (0, .ref (g.2.2 0)), (1, .int x1), (2, .int x2), (3, .int x3)]) hx hb dX12_unlike_83 hl (k := 5) rfl (by rw [ev1]; rfl) (by decide) rfl (fun ls hl => ?_)
  refine lv_goto (tgt := 27) hx hb dX12_unlike_86 (by decide) ?_
  cases hf
  exact k0 rfl H locs ls hP hD hS (lv_sub hl [2, 3, 4, 5, 1, 0] rfl)
def f_X12_unlike_b76 (N : Nat) (x1 : Int32) (x2 : Int32) (x3 : Int32) (x5 : Int32) (σ : Sg) : Option (Nat × Int32 × Int32 × Sg) :=
f_X12_unlike_b81 N x1 x2 x3 x5 (1 : Int32) σ
set_option maxHeartbeats 4000000 in
set_option maxRecDepth 100000 in
theorem b_X12_unlike_b76 {N : Nat} {x1 : Int32} {x2 : Int32} {x3 : Int32} {x5 : Int32} {σ : Sg} {z : Nat × Int32 × Int32 × Sg} (C : Cx p s m args meth c cX12_unlike 6 (some .int) RX12 g A X) (hf : f_X12_unlike_b76 N x1 x2 x3 x5 σ = some z) (k0 : z.1 = 0 → Bk mw p l e rm_X12_unlike s m args below meth c 6 g A Q 0 0 27 [(0, .ref (g.2.2 0)), (1, .int x1), (2, .int x2), (3, .int x3), (4, .int z.2.1), (5, .int z.2.2.1)] [] z.2.2.2) (k : ¬ z.1 = 0 → Bk mw p l e rm_X12_unlike s m args below meth c 6 g A Q 0 0 89 [(0, .ref (g.2.2 0)), (1, .int x1), (2, .int x2), (3, .int x3), (4, .int z.2.1)] [] z.2.2.2) : Bk mw p l e rm_X12_unlike s m args below meth c 6 g A Q 0 0 76 [(0, .ref (g.2.2 0)), (1, .int x1), (2, .int x2), (3, .int x3), (5, .int x5)] [] σ := by
  obtain ⟨hx, hb, hr, hml, hown, hts, hK, hlocks, hXX, hA, hXo⟩ := id C
  intro H locs ls hP hD hS hl
  unfold f_X12_unlike_b76 at hf
  refine lv_iconst (v := (1 : Int32)) hx hb dX12_unlike_76 (by decide) ?_
  refine lv_goto (tgt := 81) hx hb dX12_unlike_77 (by decide) ?_
  exact b_X12_unlike_b81 C hf k0 k H locs ls hP hD hS (lv_sub hl [0, 1, 2, 3, 4] rfl)
def s_X12_unlike_h27 (N : Nat) (x1 : Int32) (x2 : Int32) (x3 : Int32) (x4 : Int32) (x5 : Int32) (σ : Sg) : Option (Nat × Int32 × Int32 × Sg) :=
if x3 ≤ x5 then (some (1, x4, 0, σ))
else (if x4 = 0 then (some (1, x4, 0, σ))
else ((f_X12_isOf N (σ 0 44) x5 σ).bind fun q2 =>
if q2.1 = 0 then (f_X12_unlike_b76 N x1 x2 x3 x5 (q2.2))
else (if ((((20 : Int32) * x5) + x1) < 0 ∨ 180 ≤ (((20 : Int32) * x5) + x1).toNatClampNeg) then none else
if ((((20 : Int32) * x3) + x1) < 0 ∨ 180 ≤ (((20 : Int32) * x3) + x1).toNatClampNeg) then none else
if ((q2.2) 28 (((20 : Int32) * x5) + x1).toNatClampNeg) = ((q2.2) 28 (((20 : Int32) * x3) + x1).toNatClampNeg) then (f_X12_unlike_b81 N x1 x2 x3 x5 (0 : Int32) (q2.2))
else (f_X12_unlike_b76 N x1 x2 x3 x5 (q2.2)))))
set_option maxHeartbeats 4000000 in
set_option maxRecDepth 100000 in
theorem e_X12_unlike_h27 {N : Nat} {x1 : Int32} {x2 : Int32} {x3 : Int32} {x4 : Int32} {x5 : Int32} {σ : Sg} {z : Nat × Int32 × Int32 × Sg} (C : Cx p s m args meth c cX12_unlike 6 (some .int) RX12 g A X) (hf : s_X12_unlike_h27 N x1 x2 x3 x4 x5 σ = some z) (k0 : z.1 = 0 → Bk mw p l e rm_X12_unlike s m args below meth c 6 g A Q 0 0 27 [(0, .ref (g.2.2 0)), (1, .int x1), (2, .int x2), (3, .int x3), (4, .int z.2.1), (5, .int z.2.2.1)] [] z.2.2.2) (k : ¬ z.1 = 0 → Bk mw p l e rm_X12_unlike s m args below meth c 6 g A Q 0 0 89 [(0, .ref (g.2.2 0)), (1, .int x1), (2, .int x2), (3, .int x3), (4, .int z.2.1)] [] z.2.2.2) : Bk mw p l e rm_X12_unlike s m args below meth c 6 g A Q 0 0 27 [(0, .ref (g.2.2 0)), (1, .int x1), (2, .int x2), (3, .int x3), (4, .int x4), (5, .int x5)] [] σ := by
  obtain ⟨hx, hb, hr, hml, hown, hts, hK, hlocks, hXX, hA, hXo⟩ := id C
  intro H locs ls hP hD hS hl
  unfold s_X12_unlike_h27 at hf
  refine lv_iload hx hb dX12_unlike_27 (lv_at hl 5 rfl) ?_
  refine lv_iload_n hx hb dX12_unlike_29 rfl (lv_at hl 3 rfl) ?_
  refine lv_icmp_ge (tgt := 89) hx hb dX12_unlike_30 (by decide) (fun t30 => ?_) (fun t30 => ?_)
  · have hf := (if_pos t30).symm.trans hf
    cases hf
    exact (k (show ¬ (1 : Nat) = 0 by decide)) H locs ls hP hD hS (lv_sub hl [0, 1, 2, 3, 4] rfl)
  · have hf := (if_neg t30).symm.trans hf
    refine lv_iload hx hb dX12_unlike_33 (lv_at hl 4 rfl) ?_
    refine lv_if_eq (tgt := 89) hx hb dX12_unlike_35 (by decide) (fun t35 => ?_) (fun t35 => ?_)
    · have hf := (if_pos t35).symm.trans hf
      cases hf
      exact (k (show ¬ (1 : Nat) = 0 by decide)) H locs ls hP hD hS (lv_sub hl [0, 1, 2, 3, 4] rfl)
    · have hf := (if_neg t35).symm.trans hf
      refine lv_aload_n hx hb dX12_unlike_38 rfl (lv_at hl 0 rfl) ?_
      refine bk_get (wf := mw) (q0 := 0) (ci := 11) (k := 44) (v := .int (σ 0 44)) C hP wl_X12 rfl rfl (by decide) wa_1306 rfl rfl dX12_unlike_39 ?_
      refine lv_iload hx hb dX12_unlike_42 (lv_at hl 5 rfl) ?_
      obtain ⟨q2, hq2, hf⟩ := bi_s hf
      refine bk_SI (wf := mw) (rest := []) [.int (σ 0 44), .int x5] C hP hD hS hl.1 (c_X12_isOf hXo hq2) (cwA_S 2 hts wa_726 wa_724 wa_725 wa_5 rfl rfl nd_X12_isOf ⟨Nat.le_of_ble_eq_true rfl, Nat.le_of_ble_eq_true rfl⟩) rfl rfl (Nat.le_of_ble_eq_true rfl) dX12_unlike_44 ⟨Nat.le_of_ble_eq_true rfl, Nat.le_of_ble_eq_true rfl⟩ (fun H locs hP hD hS => ?_)
      refine lv_if_eq (tgt := 76) hx hb dX12_unlike_47 (by decide) (fun t47 => ?_) (fun t47 => ?_)
      · have hf := (if_pos t47).symm.trans hf
        exact b_X12_unlike_b76 C hf k0 k H locs ls hP hD hS (lv_sub hl [0, 1, 2, 3, 5] rfl)
      · have hf := (if_neg t47).symm.trans hf
        refine lv_aload_n hx hb dX12_unlike_50 rfl (lv_at hl 0 rfl) ?_
        refine bk_get (wf := mw) (q0 := 0) (ci := 11) (k := 45) (v := .ref (g.2.2 28)) C hP wl_X12 rfl rfl (by decide) wa_185 rfl rfl dX12_unlike_51 ?_
        refine lv_bipush (v := (20 : Int32)) hx hb dX12_unlike_54 (by decide) ?_
        refine lv_iload hx hb dX12_unlike_56 (lv_at hl 5 rfl) ?_
        refine lv_imul hx hb dX12_unlike_58 ?_
        refine lv_iload_n hx hb dX12_unlike_59 rfl (lv_at hl 1 rfl) ?_
        refine lv_iadd hx hb dX12_unlike_60 ?_
        obtain ⟨g3, hf⟩ := gd_s hf
        refine bk_iald (wf := mw) (q0 := 28) (n := 180) (j := (((20 : Int32) * x5) + x1).toNatClampNeg) C hP rfl g3 rfl dX12_unlike_61 ?_
        refine lv_aload_n hx hb dX12_unlike_62 rfl (lv_at hl 0 rfl) ?_
        refine bk_get (wf := mw) (q0 := 0) (ci := 11) (k := 45) (v := .ref (g.2.2 28)) C hP wl_X12 rfl rfl (by decide) wa_185 rfl rfl dX12_unlike_63 ?_
        refine lv_bipush (v := (20 : Int32)) hx hb dX12_unlike_66 (by decide) ?_
        refine lv_iload_n hx hb dX12_unlike_68 rfl (lv_at hl 3 rfl) ?_
        refine lv_imul hx hb dX12_unlike_69 ?_
        refine lv_iload_n hx hb dX12_unlike_70 rfl (lv_at hl 1 rfl) ?_
        refine lv_iadd hx hb dX12_unlike_71 ?_
        obtain ⟨g4, hf⟩ := gd_s hf
        refine bk_iald (wf := mw) (q0 := 28) (n := 180) (j := (((20 : Int32) * x3) + x1).toNatClampNeg) C hP rfl g4 rfl dX12_unlike_72 ?_
        refine lv_icmp_eq (tgt := 80) hx hb dX12_unlike_73 (by decide) (fun t73 => ?_) (fun t73 => ?_)
        · have hf := (if_pos t73).symm.trans hf
          refine lv_iconst (v := (0 : Int32)) hx hb dX12_unlike_80 (by decide) ?_
          exact b_X12_unlike_b81 C hf k0 k H locs ls hP hD hS (lv_sub hl [0, 1, 2, 3, 5] rfl)
        · have hf := (if_neg t73).symm.trans hf
          exact b_X12_unlike_b76 C hf k0 k H locs ls hP hD hS (lv_sub hl [0, 1, 2, 3, 5] rfl)
theorem lp_X12_unlike_h27 {N : Nat} {n : Nat} {x1 : Int32} {x2 : Int32} {x3 : Int32} {x4 : Int32} {x5 : Int32} {σ : Sg} {z : Nat × Int32 × Int32 × Sg} (C : Cx p s m args meth c cX12_unlike 6 (some .int) RX12 g A X) (hz : it (fun q => s_X12_unlike_h27 N x1 x2 x3 q.1 q.2.1 q.2.2) n (x4, x5, σ) = some z) (k : Bk mw p l e rm_X12_unlike s m args below meth c 6 g A Q 0 0 89 [(0, .ref (g.2.2 0)), (1, .int x1), (2, .int x2), (3, .int x3), (4, .int z.2.1)] [] z.2.2.2) : Bk mw p l e rm_X12_unlike s m args below meth c 6 g A Q 0 0 27 [(0, .ref (g.2.2 0)), (1, .int x1), (2, .int x2), (3, .int x3), (4, .int x4), (5, .int x5)] [] σ :=
  it_W (S := Int32 × Int32 × Sg) (fun q => Bk mw p l e rm_X12_unlike s m args below meth c 6 g A Q 0 0 27 [(0, .ref (g.2.2 0)), (1, .int x1), (2, .int x2), (3, .int x3), (4, .int q.1), (5, .int q.2.1)] [] q.2.2) (fun z => Bk mw p l e rm_X12_unlike s m args below meth c 6 g A Q 0 0 89 [(0, .ref (g.2.2 0)), (1, .int x1), (2, .int x2), (3, .int x3), (4, .int z.2.1)] [] z.2.2.2) (fun q z hq k0 k => e_X12_unlike_h27 C hq k0 k) n (x4, x5, σ) z hz k
def f_X12_unlike_b100 (N : Nat) (x1 : Int32) (x3 : Int32) (t0 : Int32) (t1 : Int32) (σ : Sg) : Option (Nat × Int32 × Int32 × Sg) :=
bd (t0 + t1) fun v5 =>
bd (x3 + (1 : Int32)) fun v6 =>
some (0, v5, v6, σ)
set_option maxHeartbeats 4000000 in
set_option maxRecDepth 100000 in
theorem b_X12_unlike_b100 {N : Nat} {x1 : Int32} {x3 : Int32} {t0 : Int32} {t1 : Int32} {σ : Sg} {z : Nat × Int32 × Int32 × Sg} (C : Cx p s m args meth c cX12_unlike 6 (some .int) RX12 g A X) (hf : f_X12_unlike_b100 N x1 x3 t0 t1 σ = some z) (k0 : z.1 = 0 → Bk mw p l e rm_X12_unlike s m args below meth c 6 g A Q 0 0 4 [(0, .ref (g.2.2 0)), (1, .int x1), (2, .int z.2.1), (3, .int z.2.2.1)] [] z.2.2.2) (k : ¬ z.1 = 0 → Bk mw p l e rm_X12_unlike s m args below meth c 6 g A Q 0 0 108 [(2, .int z.2.1)] [] z.2.2.2) : Bk mw p l e rm_X12_unlike s m args below meth c 6 g A Q 0 0 100 [(0, .ref (g.2.2 0)), (1, .int x1), (3, .int x3)] [.int t1, .int t0] σ := by
  obtain ⟨hx, hb, hr, hml, hown, hts, hK, hlocks, hXX, hA, hXo⟩ := id C
  intro H locs ls hP hD hS hl
  unfold f_X12_unlike_b100 at hf
  refine lv_iadd hx hb dX12_unlike_100 ?_
  obtain ⟨v5, ev5, hf⟩ := bd_s hf
  rw [← ev5]
  refine lv_istore_n (lv' := [(2, .int v5), (0, .ref (g.2.2 0)), (1, .int x1), (3, .int x3)]) hx hb dX12_unlike_101 rfl hl (by decide) rfl (fun ls hl => ?_)
  obtain ⟨v6, ev6, hf⟩ := bd_s hf
  refine lv_iinc (v := v6) (lv' := [(3, .int v6), (2, .int v5), (0, .ref (g.2.2 0)), (1, .int x1)]) hx hb dX12_unlike_102 hl (k := 3) rfl (by rw [ev6]; rfl) (by decide) rfl (fun ls hl => ?_)
  refine lv_goto (tgt := 4) hx hb dX12_unlike_105 (by decide) ?_
  cases hf
  exact k0 rfl H locs ls hP hD hS (lv_sub hl [2, 3, 1, 0] rfl)
def s_X12_unlike_h4 (N : Nat) (x1 : Int32) (x2 : Int32) (x3 : Int32) (σ : Sg) : Option (Nat × Int32 × Int32 × Sg) :=
if (σ 3 0) ≤ x3 then (some (1, x2, 0, σ))
else ((f_X12_isOf N (σ 0 44) x3 σ).bind fun q7 =>
bd q7.1 fun v8 =>
(it (fun q => s_X12_unlike_h27 N x1 x2 x3 q.1 q.2.1 q.2.2) N (v8, (0 : Int32), (q7.2))).bind fun z9 =>
if (z9.2.1) = 0 then (f_X12_unlike_b100 N x1 x3 x2 (0 : Int32) (z9.2.2.2))
else (f_X12_unlike_b100 N x1 x3 x2 (1 : Int32) (z9.2.2.2)))
set_option maxHeartbeats 4000000 in
set_option maxRecDepth 100000 in
theorem e_X12_unlike_h4 {N : Nat} {x1 : Int32} {x2 : Int32} {x3 : Int32} {σ : Sg} {z : Nat × Int32 × Int32 × Sg} (C : Cx p s m args meth c cX12_unlike 6 (some .int) RX12 g A X) (hf : s_X12_unlike_h4 N x1 x2 x3 σ = some z) (k0 : z.1 = 0 → Bk mw p l e rm_X12_unlike s m args below meth c 6 g A Q 0 0 4 [(0, .ref (g.2.2 0)), (1, .int x1), (2, .int z.2.1), (3, .int z.2.2.1)] [] z.2.2.2) (k : ¬ z.1 = 0 → Bk mw p l e rm_X12_unlike s m args below meth c 6 g A Q 0 0 108 [(2, .int z.2.1)] [] z.2.2.2) : Bk mw p l e rm_X12_unlike s m args below meth c 6 g A Q 0 0 4 [(0, .ref (g.2.2 0)), (1, .int x1), (2, .int x2), (3, .int x3)] [] σ := by
  obtain ⟨hx, hb, hr, hml, hown, hts, hK, hlocks, hXX, hA, hXo⟩ := id C
  intro H locs ls hP hD hS hl
  unfold s_X12_unlike_h4 at hf
  refine lv_iload_n hx hb dX12_unlike_4 rfl (lv_at hl 3 rfl) ?_
  refine lv_aload_n hx hb dX12_unlike_5 rfl (lv_at hl 0 rfl) ?_
  refine bk_get (wf := mw) (q0 := 0) (ci := 11) (k := 3) (v := .ref (g.2.2 3)) C hP wl_X12 rfl rfl (by decide) wa_157 rfl rfl dX12_unlike_6 ?_
  refine lv_iconst (v := (0 : Int32)) hx hb dX12_unlike_9 (by decide) ?_
  refine bk_iald (wf := mw) (q0 := 3) (n := 10) (j := 0) C hP rfl (vin_l (by decide) (by decide)) (by decide) dX12_unlike_10 ?_
  refine lv_icmp_ge (tgt := 108) hx hb dX12_unlike_11 (by decide) (fun t11 => ?_) (fun t11 => ?_)
  · have hf := (if_pos t11).symm.trans hf
    cases hf
    exact (k (show ¬ (1 : Nat) = 0 by decide)) H locs ls hP hD hS (lv_sub hl [2] rfl)
  · have hf := (if_neg t11).symm.trans hf
    refine lv_aload_n hx hb dX12_unlike_14 rfl (lv_at hl 0 rfl) ?_
    refine bk_get (wf := mw) (q0 := 0) (ci := 11) (k := 44) (v := .int (σ 0 44)) C hP wl_X12 rfl rfl (by decide) wa_1306 rfl rfl dX12_unlike_15 ?_
    refine lv_iload_n hx hb dX12_unlike_18 rfl (lv_at hl 3 rfl) ?_
    obtain ⟨q7, hq7, hf⟩ := bi_s hf
    refine bk_SI (wf := mw) (rest := []) [.int (σ 0 44), .int x3] C hP hD hS hl.1 (c_X12_isOf hXo hq7) (cwA_S 2 hts wa_726 wa_724 wa_725 wa_5 rfl rfl nd_X12_isOf ⟨Nat.le_of_ble_eq_true rfl, Nat.le_of_ble_eq_true rfl⟩) rfl rfl (Nat.le_of_ble_eq_true rfl) dX12_unlike_19 ⟨Nat.le_of_ble_eq_true rfl, Nat.le_of_ble_eq_true rfl⟩ (fun H locs hP hD hS => ?_)
    obtain ⟨v8, ev8, hf⟩ := bd_s hf
    rw [← ev8]
    refine lv_istore (lv' := [(4, .int v8), (0, .ref (g.2.2 0)), (1, .int x1), (2, .int x2), (3, .int x3)]) hx hb dX12_unlike_22 hl (by decide) rfl (fun ls hl => ?_)
    refine lv_iconst (v := (0 : Int32)) hx hb dX12_unlike_24 (by decide) ?_
    refine lv_istore (lv' := [(5, .int (0 : Int32)), (4, .int v8), (0, .ref (g.2.2 0)), (1, .int x1), (2, .int x2), (3, .int x3)]) hx hb dX12_unlike_25 hl (by decide) rfl (fun ls hl => ?_)
    obtain ⟨z9, hz9, hf⟩ := bi_s hf
    refine lp_X12_unlike_h27 C hz9 ?_ H locs ls hP hD hS (lv_sub hl [2, 3, 4, 5, 1, 0] rfl)
    intro H locs ls hP hD hS hl
    refine lv_iload_n hx hb dX12_unlike_89 rfl (lv_at hl 2 rfl) ?_
    refine lv_iload hx hb dX12_unlike_90 (lv_at hl 4 rfl) ?_
    refine lv_if_eq (tgt := 99) hx hb dX12_unlike_92 (by decide) (fun t92 => ?_) (fun t92 => ?_)
    · have hf := (if_pos t92).symm.trans hf
      refine lv_iconst (v := (0 : Int32)) hx hb dX12_unlike_99 (by decide) ?_
      exact b_X12_unlike_b100 C hf k0 k H locs ls hP hD hS (lv_sub hl [0, 1, 3] rfl)
    · have hf := (if_neg t92).symm.trans hf
      refine lv_iconst (v := (1 : Int32)) hx hb dX12_unlike_95 (by decide) ?_
      refine lv_goto (tgt := 100) hx hb dX12_unlike_96 (by decide) ?_
      exact b_X12_unlike_b100 C hf k0 k H locs ls hP hD hS (lv_sub hl [0, 1, 3] rfl)
theorem lp_X12_unlike_h4 {N : Nat} {n : Nat} {x1 : Int32} {x2 : Int32} {x3 : Int32} {σ : Sg} {z : Nat × Int32 × Int32 × Sg} (C : Cx p s m args meth c cX12_unlike 6 (some .int) RX12 g A X) (hz : it (fun q => s_X12_unlike_h4 N x1 q.1 q.2.1 q.2.2) n (x2, x3, σ) = some z) (k : Bk mw p l e rm_X12_unlike s m args below meth c 6 g A Q 0 0 108 [(2, .int z.2.1)] [] z.2.2.2) : Bk mw p l e rm_X12_unlike s m args below meth c 6 g A Q 0 0 4 [(0, .ref (g.2.2 0)), (1, .int x1), (2, .int x2), (3, .int x3)] [] σ :=
  it_W (S := Int32 × Int32 × Sg) (fun q => Bk mw p l e rm_X12_unlike s m args below meth c 6 g A Q 0 0 4 [(0, .ref (g.2.2 0)), (1, .int x1), (2, .int q.1), (3, .int q.2.1)] [] q.2.2) (fun z => Bk mw p l e rm_X12_unlike s m args below meth c 6 g A Q 0 0 108 [(2, .int z.2.1)] [] z.2.2.2) (fun q z hq k0 k => e_X12_unlike_h4 C hq k0 k) n (x2, x3, σ) z hz k
def f_X12_unlike (N : Nat) (x1 : Int32) (σ : Sg) : Option (Int32 × Sg) :=
(it (fun q => s_X12_unlike_h4 N x1 q.1 q.2.1 q.2.2) N ((0 : Int32), (0 : Int32), σ)).bind fun z10 =>
some ((z10.2.1), (z10.2.2.2))
set_option maxHeartbeats 4000000 in
set_option maxRecDepth 100000 in
theorem b_X12_unlike {N : Nat} {x1 : Int32} {σ : Sg} {z : Int32 × Sg} (C : Cx p s m args meth c cX12_unlike 6 (some .int) RX12 g A X) (hf : f_X12_unlike N x1 σ = some z) : Bk mw p l e rm_X12_unlike s m args below meth c 6 g A (MQ below (qI mw g A z.1 z.2) args s 0 0 A) 0 0 0 [(0, .ref (g.2.2 0)), (1, .int x1)] [] σ := by
  obtain ⟨hx, hb, hr, hml, hown, hts, hK, hlocks, hXX, hA, hXo⟩ := id C
  intro H locs ls hP hD hS hl
  unfold f_X12_unlike at hf
  refine lv_iconst (v := (0 : Int32)) hx hb dX12_unlike_0 (by decide) ?_
  refine lv_istore_n (lv' := [(2, .int (0 : Int32)), (0, .ref (g.2.2 0)), (1, .int x1)]) hx hb dX12_unlike_1 rfl hl (by decide) rfl (fun ls hl => ?_)
  refine lv_iconst (v := (0 : Int32)) hx hb dX12_unlike_2 (by decide) ?_
  refine lv_istore_n (lv' := [(3, .int (0 : Int32)), (2, .int (0 : Int32)), (0, .ref (g.2.2 0)), (1, .int x1)]) hx hb dX12_unlike_3 rfl hl (by decide) rfl (fun ls hl => ?_)
  obtain ⟨z10, hz10, hf⟩ := bi_s hf
  refine lp_X12_unlike_h4 C hz10 ?_ H locs ls hP hD hS (lv_sub hl [2, 3, 1, 0] rfl)
  intro H locs ls hP hD hS hl
  refine lv_iload_n hx hb dX12_unlike_108 rfl (lv_at hl 0 rfl) ?_
  cases hf
  exact bk_iret C hP hD hS rfl dX12_unlike_109
theorem c_X12_unlike {N : Nat} {x1 : Int32} {σ : Sg} {z : Int32 × Sg} (hX : xOK g X) (hf : f_X12_unlike N x1 σ = some z) : MetI l yX12_unlike (Cond.code yX12_unlike cX12_unlike 6 (some .int) :: wsA) rm_X12_unlike mw g X [.ref (g.2.2 0), .int x1] σ z.1 z.2 :=
  MetI_of hX (by decide) (Nat.le_of_ble_eq_true rfl) (fun p e s m args below meth c A C => b_X12_unlike C hf)
-- X12_look: look(I)I
abbrev rm_X12_look : Room := { frames := 8, cells := 0, slots := 0, locals := 183 }
theorem nd_X12_look : yX12_look.cls ≠ "java/lang/invoke/MethodHandle" ∧ yX12_look.cls ≠ "java/lang/invoke/VarHandle" ∧ (parseMethodDescriptor yX12_look.desc).map (fun d => d.parameters.length) = some 1 := by decide +kernel
def f_X12_look_b153 (N : Nat) (x1 : Int32) (x2 : Int32) (x3 : Int32) (x4 : Int32) (σ : Sg) : Option (Nat × Int32 × Int32 × Int32 × Sg) :=
bd (x4 + (1 : Int32)) fun v1 =>
some (0, x2, x3, v1, σ)
set_option maxHeartbeats 4000000 in
set_option maxRecDepth 100000 in
theorem b_X12_look_b153 {N : Nat} {x1 : Int32} {x2 : Int32} {x3 : Int32} {x4 : Int32} {σ : Sg} {z : Nat × Int32 × Int32 × Int32 × Sg} (C : Cx p s m args meth c cX12_look 6 (some .int) RX12 g A X) (hf : f_X12_look_b153 N x1 x2 x3 x4 σ = some z) (k0 : z.1 = 0 → Bk mw p l e rm_X12_look s m args below meth c 6 g A Q 0 0 121 [(0, .ref (g.2.2 0)), (1, .int x1), (2, .int z.2.1), (3, .int z.2.2.1), (4, .int z.2.2.2.1)] [] z.2.2.2.2) (k : ¬ z.1 = 0 → Bk mw p l e rm_X12_look s m args below meth c 6 g A Q 0 0 159 [(1, .int x1), (2, .int z.2.1), (3, .int z.2.2.1)] [] z.2.2.2.2) : Bk mw p l e rm_X12_look s m args below meth c 6 g A Q 0 0 153 [(0, .ref (g.2.2 0)), (1, .int x1), (2, .int x2), (3, .int x3), (4, .int x4)] [] σ := by
  obtain ⟨hx, hb, hr, hml, hown, hts, hK, hlocks, hXX, hA, hXo⟩ := id C
  intro H locs ls hP hD hS hl
  unfold f_X12_look_b153 at hf
  obtain ⟨v1, ev1, hf⟩ := bd_s hf
  refine lv_iinc (v := v1) (lv' := [(4, .int v1), (0, .ref (g.2.2 0)), (1, .int x1), (2, .int x2), (3, .int x3)]) hx hb dX12_look_153 hl (k := 4) rfl (by rw [ev1]; rfl) (by decide) rfl (fun ls hl => ?_)
  refine lv_goto (tgt := 121) hx hb dX12_look_156 (by decide) ?_
  cases hf
  exact k0 rfl H locs ls hP hD hS (lv_sub hl [1, 2, 3, 4, 0] rfl)
def s_X12_look_h121 (N : Nat) (x1 : Int32) (x2 : Int32) (x3 : Int32) (x4 : Int32) (σ : Sg) : Option (Nat × Int32 × Int32 × Int32 × Sg) :=
if (20 : Int32) ≤ x4 then (some (1, x2, x3, 0, σ))
else ((f_X12_unlike N x4 σ).bind fun q2 =>
bd q2.1 fun v3 =>
if x3 < v3 then (bd (x4 + (1 : Int32)) fun v4 =>
f_X12_look_b153 N x1 v4 v3 x4 (q2.2))
else (f_X12_look_b153 N x1 x2 x3 x4 (q2.2)))
set_option maxHeartbeats 4000000 in
set_option maxRecDepth 100000 in
theorem e_X12_look_h121 {N : Nat} {x1 : Int32} {x2 : Int32} {x3 : Int32} {x4 : Int32} {σ : Sg} {z : Nat × Int32 × Int32 × Int32 × Sg} (C : Cx p s m args meth c cX12_look 6 (some .int) RX12 g A X) (hf : s_X12_look_h121 N x1 x2 x3 x4 σ = some z) (k0 : z.1 = 0 → Bk mw p l e rm_X12_look s m args below meth c 6 g A Q 0 0 121 [(0, .ref (g.2.2 0)), (1, .int x1), (2, .int z.2.1), (3, .int z.2.2.1), (4, .int z.2.2.2.1)] [] z.2.2.2.2) (k : ¬ z.1 = 0 → Bk mw p l e rm_X12_look s m args below meth c 6 g A Q 0 0 159 [(1, .int x1), (2, .int z.2.1), (3, .int z.2.2.1)] [] z.2.2.2.2) : Bk mw p l e rm_X12_look s m args below meth c 6 g A Q 0 0 121 [(0, .ref (g.2.2 0)), (1, .int x1), (2, .int x2), (3, .int x3), (4, .int x4)] [] σ := by
  obtain ⟨hx, hb, hr, hml, hown, hts, hK, hlocks, hXX, hA, hXo⟩ := id C
  intro H locs ls hP hD hS hl
  unfold s_X12_look_h121 at hf
  refine lv_iload hx hb dX12_look_121 (lv_at hl 4 rfl) ?_
  refine lv_bipush (v := (20 : Int32)) hx hb dX12_look_123 (by decide) ?_
  refine lv_icmp_ge (tgt := 159) hx hb dX12_look_125 (by decide) (fun t125 => ?_) (fun t125 => ?_)
  · have hf := (if_pos t125).symm.trans hf
    cases hf
    exact (k (show ¬ (1 : Nat) = 0 by decide)) H locs ls hP hD hS (lv_sub hl [1, 2, 3] rfl)
  · have hf := (if_neg t125).symm.trans hf
    refine lv_aload_n hx hb dX12_look_128 rfl (lv_at hl 0 rfl) ?_
    refine lv_iload hx hb dX12_look_129 (lv_at hl 4 rfl) ?_
    obtain ⟨q2, hq2, hf⟩ := bi_s hf
    refine bk_VI (wf := mw) (q0 := 0) (ci := 11) (rest := []) [.int x4] C hP hD hS hl.1 (c_X12_unlike hXo hq2) (cwA_V 1 hts wa_1337 wa_1334 wa_1335 wa_1336 wa_5 rfl rfl nd_X12_unlike ⟨Nat.le_of_ble_eq_true rfl, Nat.le_of_ble_eq_true rfl⟩) rfl rfl rfl rfl (Nat.le_of_ble_eq_true rfl) dX12_look_131 ⟨Nat.le_of_ble_eq_true rfl, Nat.le_of_ble_eq_true rfl⟩ (fun H locs hP hD hS => ?_)
    obtain ⟨v3, ev3, hf⟩ := bd_s hf
    rw [← ev3]
    refine lv_istore (lv' := [(5, .int v3), (0, .ref (g.2.2 0)), (1, .int x1), (2, .int x2), (3, .int x3), (4, .int x4)]) hx hb dX12_look_134 hl (by decide) rfl (fun ls hl => ?_)
    refine lv_iload hx hb dX12_look_136 (lv_at hl 0 rfl) ?_
    refine lv_iload_n hx hb dX12_look_138 rfl (lv_at hl 4 rfl) ?_
    refine lv_icmp_gt (tgt := 145) hx hb dX12_look_139 (by decide) (fun t139 => ?_) (fun t139 => ?_)
    · have hf := (if_pos t139).symm.trans hf
      refine lv_iload hx hb dX12_look_145 (lv_at hl 5 rfl) ?_
      refine lv_iconst (v := (1 : Int32)) hx hb dX12_look_147 (by decide) ?_
      refine lv_iadd hx hb dX12_look_148 ?_
      obtain ⟨v4, ev4, hf⟩ := bd_s hf
      rw [← ev4]
      refine lv_istore_n (lv' := [(2, .int v4), (5, .int v3), (0, .ref (g.2.2 0)), (1, .int x1), (3, .int x3), (4, .int x4)]) hx hb dX12_look_149 rfl hl (by decide) rfl (fun ls hl => ?_)
      refine lv_iload hx hb dX12_look_150 (lv_at hl 1 rfl) ?_
      refine lv_istore_n (lv' := [(3, .int v3), (2, .int v4), (5, .int v3), (0, .ref (g.2.2 0)), (1, .int x1), (4, .int x4)]) hx hb dX12_look_152 rfl hl (by decide) rfl (fun ls hl => ?_)
      exact b_X12_look_b153 C hf k0 k H locs ls hP hD hS (lv_sub hl [3, 4, 1, 0, 5] rfl)
    · have hf := (if_neg t139).symm.trans hf
      refine lv_goto (tgt := 153) hx hb dX12_look_142 (by decide) ?_
      exact b_X12_look_b153 C hf k0 k H locs ls hP hD hS (lv_sub hl [1, 2, 3, 4, 5] rfl)
theorem lp_X12_look_h121 {N : Nat} {n : Nat} {x1 : Int32} {x2 : Int32} {x3 : Int32} {x4 : Int32} {σ : Sg} {z : Nat × Int32 × Int32 × Int32 × Sg} (C : Cx p s m args meth c cX12_look 6 (some .int) RX12 g A X) (hz : it (fun q => s_X12_look_h121 N x1 q.1 q.2.1 q.2.2.1 q.2.2.2) n (x2, x3, x4, σ) = some z) (k : Bk mw p l e rm_X12_look s m args below meth c 6 g A Q 0 0 159 [(1, .int x1), (2, .int z.2.1), (3, .int z.2.2.1)] [] z.2.2.2.2) : Bk mw p l e rm_X12_look s m args below meth c 6 g A Q 0 0 121 [(0, .ref (g.2.2 0)), (1, .int x1), (2, .int x2), (3, .int x3), (4, .int x4)] [] σ :=
  it_W (S := Int32 × Int32 × Int32 × Sg) (fun q => Bk mw p l e rm_X12_look s m args below meth c 6 g A Q 0 0 121 [(0, .ref (g.2.2 0)), (1, .int x1), (2, .int q.1), (3, .int q.2.1), (4, .int q.2.2.1)] [] q.2.2.2) (fun z => Bk mw p l e rm_X12_look s m args below meth c 6 g A Q 0 0 159 [(1, .int x1), (2, .int z.2.1), (3, .int z.2.2.1)] [] z.2.2.2.2) (fun q z hq k0 k => e_X12_look_h121 C hq k0 k) n (x2, x3, x4, σ) z hz k
def s_X12_look_h68 (N : Nat) (x1 : Int32) (x2 : Int32) (x3 : Int32) (σ : Sg) : Option (Nat × Int32 × Sg) :=
if (20 : Int32) ≤ x3 then (some (1, 0, σ))
else ((f_X12_aTick N σ).bind fun q5 =>
if ((((20 : Int32) * x2) + x3) < 0 ∨ 180 ≤ (((20 : Int32) * x2) + x3).toNatClampNeg) then none else
bd (wr q5 28 ((((20 : Int32) * x2) + x3).toNatClampNeg) (q5 0 35)) fun σ7 =>
bd (x3 + (1 : Int32)) fun v8 =>
some (0, v8, σ7))
set_option maxHeartbeats 4000000 in
set_option maxRecDepth 100000 in
theorem e_X12_look_h68 {N : Nat} {x1 : Int32} {x2 : Int32} {x3 : Int32} {σ : Sg} {z : Nat × Int32 × Sg} (C : Cx p s m args meth c cX12_look 6 (some .int) RX12 g A X) (hf : s_X12_look_h68 N x1 x2 x3 σ = some z) (k0 : z.1 = 0 → Bk mw p l e rm_X12_look s m args below meth c 6 g A Q 0 0 68 [(0, .ref (g.2.2 0)), (1, .int x1), (2, .int x2), (3, .int z.2.1)] [] z.2.2) (k : ¬ z.1 = 0 → Bk mw p l e rm_X12_look s m args below meth c 6 g A Q 0 0 99 [(0, .ref (g.2.2 0)), (1, .int x1), (2, .int x2)] [] z.2.2) : Bk mw p l e rm_X12_look s m args below meth c 6 g A Q 0 0 68 [(0, .ref (g.2.2 0)), (1, .int x1), (2, .int x2), (3, .int x3)] [] σ := by
  obtain ⟨hx, hb, hr, hml, hown, hts, hK, hlocks, hXX, hA, hXo⟩ := id C
  intro H locs ls hP hD hS hl
  unfold s_X12_look_h68 at hf
  refine lv_iload_n hx hb dX12_look_68 rfl (lv_at hl 3 rfl) ?_
  refine lv_bipush (v := (20 : Int32)) hx hb dX12_look_69 (by decide) ?_
  refine lv_icmp_ge (tgt := 99) hx hb dX12_look_71 (by decide) (fun t71 => ?_) (fun t71 => ?_)
  · have hf := (if_pos t71).symm.trans hf
    cases hf
    exact (k (show ¬ (1 : Nat) = 0 by decide)) H locs ls hP hD hS (lv_sub hl [0, 1, 2] rfl)
  · have hf := (if_neg t71).symm.trans hf
    refine lv_aload_n hx hb dX12_look_74 rfl (lv_at hl 0 rfl) ?_
    obtain ⟨q5, hq5, hf⟩ := bi_s hf
    refine bk_VV (wf := mw) (q0 := 0) (ci := 11) (rest := []) [] C hP hD hS hl.1 (c_X12_aTick hXo hq5) (cwA_V 0 hts wa_903 wa_900 wa_901 wa_902 wa_5 rfl rfl nd_X12_aTick ⟨Nat.le_of_ble_eq_true rfl, Nat.le_of_ble_eq_true rfl⟩) rfl rfl rfl rfl (Nat.le_of_ble_eq_true rfl) dX12_look_75 ⟨Nat.le_of_ble_eq_true rfl, Nat.le_of_ble_eq_true rfl⟩ (fun H locs hP hD hS => ?_)
    refine lv_aload_n hx hb dX12_look_78 rfl (lv_at hl 0 rfl) ?_
    refine bk_get (wf := mw) (q0 := 0) (ci := 11) (k := 45) (v := .ref (g.2.2 28)) C hP wl_X12 rfl rfl (by decide) wa_185 rfl rfl dX12_look_79 ?_
    refine lv_bipush (v := (20 : Int32)) hx hb dX12_look_82 (by decide) ?_
    refine lv_iload_n hx hb dX12_look_84 rfl (lv_at hl 2 rfl) ?_
    refine lv_imul hx hb dX12_look_85 ?_
    refine lv_iload_n hx hb dX12_look_86 rfl (lv_at hl 3 rfl) ?_
    refine lv_iadd hx hb dX12_look_87 ?_
    refine lv_aload_n hx hb dX12_look_88 rfl (lv_at hl 0 rfl) ?_
    refine bk_get (wf := mw) (q0 := 0) (ci := 11) (k := 35) (v := .int (q5 0 35)) C hP wl_X12 rfl rfl (by decide) wa_904 rfl rfl dX12_look_89 ?_
    obtain ⟨g6, hf⟩ := gd_s hf
    obtain ⟨σ7, eσ7, hf⟩ := bd_s hf
    refine bk_iast (wf := mw) (σ1 := σ7) (q0 := 28) (n := 180) (j := (((20 : Int32) * x2) + x3).toNatClampNeg) C hP hD hS rfl g6 rfl (by rw [eσ7]; exact mw_a28 g _ _ _) dX12_look_92 (fun H locs hP hD hS => ?_)
    obtain ⟨v8, ev8, hf⟩ := bd_s hf
    refine lv_iinc (v := v8) (lv' := [(3, .int v8), (0, .ref (g.2.2 0)), (1, .int x1), (2, .int x2)]) hx hb dX12_look_93 hl (k := 3) rfl (by rw [ev8]; rfl) (by decide) rfl (fun ls hl => ?_)
    refine lv_goto (tgt := 68) hx hb dX12_look_96 (by decide) ?_
    cases hf
    exact k0 rfl H locs ls hP hD hS (lv_sub hl [1, 2, 3, 0] rfl)
theorem lp_X12_look_h68 {N : Nat} {n : Nat} {x1 : Int32} {x2 : Int32} {x3 : Int32} {σ : Sg} {z : Nat × Int32 × Sg} (C : Cx p s m args meth c cX12_look 6 (some .int) RX12 g A X) (hz : it (fun q => s_X12_look_h68 N x1 x2 q.1 q.2) n (x3, σ) = some z) (k : Bk mw p l e rm_X12_look s m args below meth c 6 g A Q 0 0 99 [(0, .ref (g.2.2 0)), (1, .int x1), (2, .int x2)] [] z.2.2) : Bk mw p l e rm_X12_look s m args below meth c 6 g A Q 0 0 68 [(0, .ref (g.2.2 0)), (1, .int x1), (2, .int x2), (3, .int x3)] [] σ :=
  it_W (S := Int32 × Sg) (fun q => Bk mw p l e rm_X12_look s m args below meth c 6 g A Q 0 0 68 [(0, .ref (g.2.2 0)), (1, .int x1), (2, .int x2), (3, .int q.1)] [] q.2) (fun z => Bk mw p l e rm_X12_look s m args below meth c 6 g A Q 0 0 99 [(0, .ref (g.2.2 0)), (1, .int x1), (2, .int x2)] [] z.2.2) (fun q z hq k0 k => e_X12_look_h68 C hq k0 k) n (x3, σ) z hz k
def f_X12_look_b108 (N : Nat) (x1 : Int32) (x2 : Int32) (σ : Sg) : Option (Nat × Int32 × Sg) :=
bd (x2 + (1 : Int32)) fun v9 =>
some (0, v9, σ)
set_option maxHeartbeats 4000000 in
set_option maxRecDepth 100000 in
theorem b_X12_look_b108 {N : Nat} {x1 : Int32} {x2 : Int32} {σ : Sg} {z : Nat × Int32 × Sg} (C : Cx p s m args meth c cX12_look 6 (some .int) RX12 g A X) (hf : f_X12_look_b108 N x1 x2 σ = some z) (k0 : z.1 = 0 → Bk mw p l e rm_X12_look s m args below meth c 6 g A Q 0 0 35 [(0, .ref (g.2.2 0)), (1, .int x1), (2, .int z.2.1)] [] z.2.2) (k : ¬ z.1 = 0 → Bk mw p l e rm_X12_look s m args below meth c 6 g A Q 0 0 114 [(0, .ref (g.2.2 0)), (1, .int x1)] [] z.2.2) : Bk mw p l e rm_X12_look s m args below meth c 6 g A Q 0 0 108 [(0, .ref (g.2.2 0)), (1, .int x1), (2, .int x2)] [] σ := by
  obtain ⟨hx, hb, hr, hml, hown, hts, hK, hlocks, hXX, hA, hXo⟩ := id C
  intro H locs ls hP hD hS hl
  unfold f_X12_look_b108 at hf
  obtain ⟨v9, ev9, hf⟩ := bd_s hf
  refine lv_iinc (v := v9) (lv' := [(2, .int v9), (0, .ref (g.2.2 0)), (1, .int x1)]) hx hb dX12_look_108 hl (k := 2) rfl (by rw [ev9]; rfl) (by decide) rfl (fun ls hl => ?_)
  refine lv_goto (tgt := 35) hx hb dX12_look_111 (by decide) ?_
  cases hf
  exact k0 rfl H locs ls hP hD hS (lv_sub hl [1, 2, 0] rfl)
def s_X12_look_h35 (N : Nat) (x1 : Int32) (x2 : Int32) (σ : Sg) : Option (Nat × Int32 × Sg) :=
if (σ 3 0) ≤ x2 then (some (1, 0, σ))
else ((f_X12_isOf N (σ 0 44) x2 σ).bind fun q10 =>
if q10.1 = 0 then (f_X12_look_b108 N x1 x2 (q10.2))
else (if (x2 < 0 ∨ 9 ≤ x2.toNatClampNeg) then none else
bd (wr (q10.2) 13 (x2.toNatClampNeg) (1 : Int32)) fun σ12 =>
(it (fun q => s_X12_look_h68 N x1 x2 q.1 q.2) N ((0 : Int32), σ12)).bind fun z13 =>
(f_X12_unpack_21 N (0 : Int32) (z13.2.2)).bind fun q14 =>
f_X12_look_b108 N x1 x2 q14))
set_option maxHeartbeats 4000000 in
set_option maxRecDepth 100000 in
theorem e_X12_look_h35 {N : Nat} {x1 : Int32} {x2 : Int32} {σ : Sg} {z : Nat × Int32 × Sg} (C : Cx p s m args meth c cX12_look 6 (some .int) RX12 g A X) (hf : s_X12_look_h35 N x1 x2 σ = some z) (k0 : z.1 = 0 → Bk mw p l e rm_X12_look s m args below meth c 6 g A Q 0 0 35 [(0, .ref (g.2.2 0)), (1, .int x1), (2, .int z.2.1)] [] z.2.2) (k : ¬ z.1 = 0 → Bk mw p l e rm_X12_look s m args below meth c 6 g A Q 0 0 114 [(0, .ref (g.2.2 0)), (1, .int x1)] [] z.2.2) : Bk mw p l e rm_X12_look s m args below meth c 6 g A Q 0 0 35 [(0, .ref (g.2.2 0)), (1, .int x1), (2, .int x2)] [] σ := by
  obtain ⟨hx, hb, hr, hml, hown, hts, hK, hlocks, hXX, hA, hXo⟩ := id C
  intro H locs ls hP hD hS hl
  unfold s_X12_look_h35 at hf
  refine lv_iload_n hx hb dX12_look_35 rfl (lv_at hl 2 rfl) ?_
  refine lv_aload_n hx hb dX12_look_36 rfl (lv_at hl 0 rfl) ?_
  refine bk_get (wf := mw) (q0 := 0) (ci := 11) (k := 3) (v := .ref (g.2.2 3)) C hP wl_X12 rfl rfl (by decide) wa_157 rfl rfl dX12_look_37 ?_
  refine lv_iconst (v := (0 : Int32)) hx hb dX12_look_40 (by decide) ?_
  refine bk_iald (wf := mw) (q0 := 3) (n := 10) (j := 0) C hP rfl (vin_l (by decide) (by decide)) (by decide) dX12_look_41 ?_
  refine lv_icmp_ge (tgt := 114) hx hb dX12_look_42 (by decide) (fun t42 => ?_) (fun t42 => ?_)
  · have hf := (if_pos t42).symm.trans hf
    cases hf
    exact (k (show ¬ (1 : Nat) = 0 by decide)) H locs ls hP hD hS (lv_sub hl [0, 1] rfl)
  · have hf := (if_neg t42).symm.trans hf
    refine lv_aload_n hx hb dX12_look_45 rfl (lv_at hl 0 rfl) ?_
    refine bk_get (wf := mw) (q0 := 0) (ci := 11) (k := 44) (v := .int (σ 0 44)) C hP wl_X12 rfl rfl (by decide) wa_1306 rfl rfl dX12_look_46 ?_
    refine lv_iload_n hx hb dX12_look_49 rfl (lv_at hl 2 rfl) ?_
    obtain ⟨q10, hq10, hf⟩ := bi_s hf
    refine bk_SI (wf := mw) (rest := []) [.int (σ 0 44), .int x2] C hP hD hS hl.1 (c_X12_isOf hXo hq10) (cwA_S 2 hts wa_726 wa_724 wa_725 wa_5 rfl rfl nd_X12_isOf ⟨Nat.le_of_ble_eq_true rfl, Nat.le_of_ble_eq_true rfl⟩) rfl rfl (Nat.le_of_ble_eq_true rfl) dX12_look_50 ⟨Nat.le_of_ble_eq_true rfl, Nat.le_of_ble_eq_true rfl⟩ (fun H locs hP hD hS => ?_)
    refine lv_if_ne (tgt := 59) hx hb dX12_look_53 (by decide) (fun t53 => ?_) (fun t53 => ?_)
    · have hf := (if_neg t53).symm.trans hf
      refine lv_aload_n hx hb dX12_look_59 rfl (lv_at hl 0 rfl) ?_
      refine bk_get (wf := mw) (q0 := 0) (ci := 11) (k := 23) (v := .ref (g.2.2 13)) C hP wl_X12 rfl rfl (by decide) wa_168 rfl rfl dX12_look_60 ?_
      refine lv_iload_n hx hb dX12_look_63 rfl (lv_at hl 2 rfl) ?_
      refine lv_iconst (v := (1 : Int32)) hx hb dX12_look_64 (by decide) ?_
      obtain ⟨g11, hf⟩ := gd_s hf
      obtain ⟨σ12, eσ12, hf⟩ := bd_s hf
      refine bk_iast (wf := mw) (σ1 := σ12) (q0 := 13) (n := 9) (j := x2.toNatClampNeg) C hP hD hS rfl g11 rfl (by rw [eσ12]; exact mw_a13 g _ _ _) dX12_look_65 (fun H locs hP hD hS => ?_)
      refine lv_iconst (v := (0 : Int32)) hx hb dX12_look_66 (by decide) ?_
      refine lv_istore_n (lv' := [(3, .int (0 : Int32)), (0, .ref (g.2.2 0)), (1, .int x1), (2, .int x2)]) hx hb dX12_look_67 rfl hl (by decide) rfl (fun ls hl => ?_)
      obtain ⟨z13, hz13, hf⟩ := bi_s hf
      refine lp_X12_look_h68 C hz13 ?_ H locs ls hP hD hS (lv_sub hl [1, 2, 3, 0] rfl)
      intro H locs ls hP hD hS hl
      refine lv_aload_n hx hb dX12_look_99 rfl (lv_at hl 0 rfl) ?_
      refine lv_aload_n hx hb dX12_look_100 rfl (lv_at hl 0 rfl) ?_
      refine bk_get (wf := mw) (q0 := 0) (ci := 11) (k := 37) (v := .ref (g.2.2 21)) C hP wl_X12 rfl rfl (by decide) wa_177 rfl rfl dX12_look_101 ?_
      refine lv_iconst (v := (0 : Int32)) hx hb dX12_look_104 (by decide) ?_
      obtain ⟨q14, hq14, hf⟩ := bi_s hf
      refine bk_VV (wf := mw) (q0 := 0) (ci := 11) (rest := []) [.ref (g.2.2 21), .int (0 : Int32)] C hP hD hS hl.1 (c_X12_unpack_21 hXo hq14) (cwA_V 2 hts wa_1010 wa_1007 wa_1008 wa_1009 wa_5 rfl rfl nd_X12_unpack ⟨Nat.le_of_ble_eq_true rfl, Nat.le_of_ble_eq_true rfl⟩) rfl rfl rfl rfl (Nat.le_of_ble_eq_true rfl) dX12_look_105 ⟨Nat.le_of_ble_eq_true rfl, Nat.le_of_ble_eq_true rfl⟩ (fun H locs hP hD hS => ?_)
      exact b_X12_look_b108 C hf k0 k H locs ls hP hD hS (lv_sub hl [0, 1, 2] rfl)
    · have hf := (if_pos t53).symm.trans hf
      refine lv_goto (tgt := 108) hx hb dX12_look_56 (by decide) ?_
      exact b_X12_look_b108 C hf k0 k H locs ls hP hD hS (lv_sub hl [0, 1, 2] rfl)
theorem lp_X12_look_h35 {N : Nat} {n : Nat} {x1 : Int32} {x2 : Int32} {σ : Sg} {z : Nat × Int32 × Sg} (C : Cx p s m args meth c cX12_look 6 (some .int) RX12 g A X) (hz : it (fun q => s_X12_look_h35 N x1 q.1 q.2) n (x2, σ) = some z) (k : Bk mw p l e rm_X12_look s m args below meth c 6 g A Q 0 0 114 [(0, .ref (g.2.2 0)), (1, .int x1)] [] z.2.2) : Bk mw p l e rm_X12_look s m args below meth c 6 g A Q 0 0 35 [(0, .ref (g.2.2 0)), (1, .int x1), (2, .int x2)] [] σ :=
  it_W (S := Int32 × Sg) (fun q => Bk mw p l e rm_X12_look s m args below meth c 6 g A Q 0 0 35 [(0, .ref (g.2.2 0)), (1, .int x1), (2, .int q.1)] [] q.2) (fun z => Bk mw p l e rm_X12_look s m args below meth c 6 g A Q 0 0 114 [(0, .ref (g.2.2 0)), (1, .int x1)] [] z.2.2) (fun q z hq k0 k => e_X12_look_h35 C hq k0 k) n (x2, σ) z hz k
def f_X12_look_b14 (N : Nat) (σ : Sg) : Option (Int32 × Sg) :=
(f_X12_fail N (1 : Int32) σ).bind fun q15 =>
some (q15.1, (q15.2))
set_option maxHeartbeats 4000000 in
set_option maxRecDepth 100000 in
theorem b_X12_look_b14 {N : Nat} {σ : Sg} {z : Int32 × Sg} (C : Cx p s m args meth c cX12_look 6 (some .int) RX12 g A X) (hf : f_X12_look_b14 N σ = some z) : Bk mw p l e rm_X12_look s m args below meth c 6 g A (MQ below (qI mw g A z.1 z.2) args s 0 0 A) 0 0 14 [(0, .ref (g.2.2 0))] [] σ := by
  obtain ⟨hx, hb, hr, hml, hown, hts, hK, hlocks, hXX, hA, hXo⟩ := id C
  intro H locs ls hP hD hS hl
  unfold f_X12_look_b14 at hf
  refine lv_aload_n hx hb dX12_look_14 rfl (lv_at hl 0 rfl) ?_
  refine lv_iconst (v := (1 : Int32)) hx hb dX12_look_15 (by decide) ?_
  obtain ⟨q15, hq15, hf⟩ := bi_s hf
  refine bk_VI (wf := mw) (q0 := 0) (ci := 11) (rest := []) [.int (1 : Int32)] C hP hD hS hl.1 (c_X12_fail hXo hq15) (cwA_V 1 hts wa_512 wa_509 wa_510 wa_511 wa_5 rfl rfl nd_X12_fail ⟨Nat.le_of_ble_eq_true rfl, Nat.le_of_ble_eq_true rfl⟩) rfl rfl rfl rfl (Nat.le_of_ble_eq_true rfl) dX12_look_16 ⟨Nat.le_of_ble_eq_true rfl, Nat.le_of_ble_eq_true rfl⟩ (fun H locs hP hD hS => ?_)
  cases hf
  exact bk_iret C hP hD hS rfl dX12_look_19
def f_X12_look (N : Nat) (x1 : Int32) (σ : Sg) : Option (Int32 × Sg) :=
bd (wr σ 0 2 (0 : Int32)) fun σ16 =>
if x1 < 0 then (f_X12_look_b14 N σ16)
else (if x1 ≤ (1 : Int32) then ((f_X12_tellFits N σ16).bind fun q17 =>
(f_X12_pack_21 N (0 : Int32) q17).bind fun q18 =>
(it (fun q => s_X12_look_h35 N x1 q.1 q.2) N ((0 : Int32), q18)).bind fun z19 =>
(it (fun q => s_X12_look_h121 N x1 q.1 q.2.1 q.2.2.1 q.2.2.2) N ((-1 : Int32), (0 : Int32), (0 : Int32), (z19.2.2))).bind fun z20 =>
if x1 = 0 then (some ((z20.2.1), (z20.2.2.2.2)))
else (some ((z20.2.2.1), (z20.2.2.2.2))))
else (f_X12_look_b14 N σ16))
set_option maxHeartbeats 4000000 in
set_option maxRecDepth 100000 in
theorem b_X12_look {N : Nat} {x1 : Int32} {σ : Sg} {z : Int32 × Sg} (C : Cx p s m args meth c cX12_look 6 (some .int) RX12 g A X) (hf : f_X12_look N x1 σ = some z) : Bk mw p l e rm_X12_look s m args below meth c 6 g A (MQ below (qI mw g A z.1 z.2) args s 0 0 A) 0 0 0 [(0, .ref (g.2.2 0)), (1, .int x1)] [] σ := by
  obtain ⟨hx, hb, hr, hml, hown, hts, hK, hlocks, hXX, hA, hXo⟩ := id C
  intro H locs ls hP hD hS hl
  unfold f_X12_look at hf
  refine lv_aload_n hx hb dX12_look_0 rfl (lv_at hl 0 rfl) ?_
  refine lv_iconst (v := (0 : Int32)) hx hb dX12_look_1 (by decide) ?_
  obtain ⟨σ16, eσ16, hf⟩ := bd_s hf
  refine bk_put (wf := mw) (σ1 := σ16) (q0 := 0) (ci := 11) (k := 2) (v := .int (0 : Int32)) C hP hD hS wl_X12 tyX12_ok nmX12 rfl rfl (by decide) wa_205 rfl rfl rfl rfl rfl (Nat.le_of_ble_eq_true rfl) (by rw [eσ16]; exact mw_p0_2 g _ _) dX12_look_2 (fun H locs hP hD hS => ?_)
  refine lv_iload_n hx hb dX12_look_5 rfl (lv_at hl 1 rfl) ?_
  refine lv_if_lt (tgt := 14) hx hb dX12_look_6 (by decide) (fun t6 => ?_) (fun t6 => ?_)
  · have hf := (if_pos t6).symm.trans hf
    exact b_X12_look_b14 C hf H locs ls hP hD hS (lv_sub hl [0] rfl)
  · have hf := (if_neg t6).symm.trans hf
    refine lv_iload_n hx hb dX12_look_9 rfl (lv_at hl 1 rfl) ?_
    refine lv_iconst (v := (1 : Int32)) hx hb dX12_look_10 (by decide) ?_
    refine lv_icmp_le (tgt := 20) hx hb dX12_look_11 (by decide) (fun t11 => ?_) (fun t11 => ?_)
    · have hf := (if_pos t11).symm.trans hf
      refine lv_aload_n hx hb dX12_look_20 rfl (lv_at hl 0 rfl) ?_
      obtain ⟨q17, hq17, hf⟩ := bi_s hf
      refine bk_VV (wf := mw) (q0 := 0) (ci := 11) (rest := []) [] C hP hD hS hl.1 (c_X12_tellFits hXo hq17) (cwA_V 0 hts wa_1314 wa_1311 wa_1312 wa_1313 wa_5 rfl rfl nd_X12_tellFits ⟨Nat.le_of_ble_eq_true rfl, Nat.le_of_ble_eq_true rfl⟩) rfl rfl rfl rfl (Nat.le_of_ble_eq_true rfl) dX12_look_21 ⟨Nat.le_of_ble_eq_true rfl, Nat.le_of_ble_eq_true rfl⟩ (fun H locs hP hD hS => ?_)
      refine lv_aload_n hx hb dX12_look_24 rfl (lv_at hl 0 rfl) ?_
      refine lv_aload_n hx hb dX12_look_25 rfl (lv_at hl 0 rfl) ?_
      refine bk_get (wf := mw) (q0 := 0) (ci := 11) (k := 37) (v := .ref (g.2.2 21)) C hP wl_X12 rfl rfl (by decide) wa_177 rfl rfl dX12_look_26 ?_
      refine lv_iconst (v := (0 : Int32)) hx hb dX12_look_29 (by decide) ?_
      obtain ⟨q18, hq18, hf⟩ := bi_s hf
      refine bk_VV (wf := mw) (q0 := 0) (ci := 11) (rest := []) [.ref (g.2.2 21), .int (0 : Int32)] C hP hD hS hl.1 (c_X12_pack_21 hXo hq18) (cwA_V 2 hts wa_895 wa_892 wa_893 wa_894 wa_5 rfl rfl nd_X12_pack ⟨Nat.le_of_ble_eq_true rfl, Nat.le_of_ble_eq_true rfl⟩) rfl rfl rfl rfl (Nat.le_of_ble_eq_true rfl) dX12_look_30 ⟨Nat.le_of_ble_eq_true rfl, Nat.le_of_ble_eq_true rfl⟩ (fun H locs hP hD hS => ?_)
      refine lv_iconst (v := (0 : Int32)) hx hb dX12_look_33 (by decide) ?_
      refine lv_istore_n (lv' := [(2, .int (0 : Int32)), (0, .ref (g.2.2 0)), (1, .int x1)]) hx hb dX12_look_34 rfl hl (by decide) rfl (fun ls hl => ?_)
      obtain ⟨z19, hz19, hf⟩ := bi_s hf
      refine lp_X12_look_h35 C hz19 ?_ H locs ls hP hD hS (lv_sub hl [1, 2, 0] rfl)
      intro H locs ls hP hD hS hl
      refine lv_iconst (v := (-1 : Int32)) hx hb dX12_look_114 (by decide) ?_
      refine lv_istore_n (lv' := [(2, .int (-1 : Int32)), (0, .ref (g.2.2 0)), (1, .int x1)]) hx hb dX12_look_115 rfl hl (by decide) rfl (fun ls hl => ?_)
      refine lv_iconst (v := (0 : Int32)) hx hb dX12_look_116 (by decide) ?_
      refine lv_istore_n (lv' := [(3, .int (0 : Int32)), (2, .int (-1 : Int32)), (0, .ref (g.2.2 0)), (1, .int x1)]) hx hb dX12_look_117 rfl hl (by decide) rfl (fun ls hl => ?_)
      refine lv_iconst (v := (0 : Int32)) hx hb dX12_look_118 (by decide) ?_
      refine lv_istore (lv' := [(4, .int (0 : Int32)), (3, .int (0 : Int32)), (2, .int (-1 : Int32)), (0, .ref (g.2.2 0)), (1, .int x1)]) hx hb dX12_look_119 hl (by decide) rfl (fun ls hl => ?_)
      obtain ⟨z20, hz20, hf⟩ := bi_s hf
      refine lp_X12_look_h121 C hz20 ?_ H locs ls hP hD hS (lv_sub hl [3, 4, 2, 1, 0] rfl)
      intro H locs ls hP hD hS hl
      refine lv_iload_n hx hb dX12_look_159 rfl (lv_at hl 0 rfl) ?_
      refine lv_if_ne (tgt := 167) hx hb dX12_look_160 (by decide) (fun t160 => ?_) (fun t160 => ?_)
      · have hf := (if_neg t160).symm.trans hf
        refine lv_iload_n hx hb dX12_look_167 rfl (lv_at hl 2 rfl) ?_
        cases hf
        exact bk_iret C hP hD hS rfl dX12_look_168
      · have hf := (if_pos t160).symm.trans hf
        refine lv_iload_n hx hb dX12_look_163 rfl (lv_at hl 1 rfl) ?_
        refine lv_goto (tgt := 168) hx hb dX12_look_164 (by decide) ?_
        cases hf
        exact bk_iret C hP hD hS rfl dX12_look_168
    · have hf := (if_neg t11).symm.trans hf
      exact b_X12_look_b14 C hf H locs ls hP hD hS (lv_sub hl [0] rfl)
theorem c_X12_look {N : Nat} {x1 : Int32} {σ : Sg} {z : Int32 × Sg} (hX : xOK g X) (hf : f_X12_look N x1 σ = some z) : MetI l yX12_look (Cond.code yX12_look cX12_look 6 (some .int) :: wsA) rm_X12_look mw g X [.ref (g.2.2 0), .int x1] σ z.1 z.2 :=
  MetI_of hX (by decide) (Nat.le_of_ble_eq_true rfl) (fun p e s m args below meth c A C => b_X12_look C hf)
-- X12_forget: forget()V
abbrev rm_X12_forget : Room := { frames := 0, cells := 0, slots := 0, locals := 0 }
theorem nd_X12_forget : yX12_forget.cls ≠ "java/lang/invoke/MethodHandle" ∧ yX12_forget.cls ≠ "java/lang/invoke/VarHandle" ∧ (parseMethodDescriptor yX12_forget.desc).map (fun d => d.parameters.length) = some 0 := by decide +kernel
def f_X12_forget (N : Nat) (σ : Sg) : Option (Sg) :=
bd (wr σ 0 2 (0 : Int32)) fun σ1 =>
bd (wr σ1 0 31 (0 : Int32)) fun σ2 =>
some σ2
set_option maxHeartbeats 4000000 in
set_option maxRecDepth 100000 in
theorem b_X12_forget {N : Nat} {σ : Sg} {z : Sg} (C : Cx p s m args meth c cX12_forget 1 none RX12 g A X) (hf : f_X12_forget N σ = some z) : Bk mw p l e rm_X12_forget s m args below meth c 1 g A (MQ below (qV mw g A z) args s 0 0 A) 0 0 0 [(0, .ref (g.2.2 0))] [] σ := by
  obtain ⟨hx, hb, hr, hml, hown, hts, hK, hlocks, hXX, hA, hXo⟩ := id C
  intro H locs ls hP hD hS hl
  unfold f_X12_forget at hf
  refine lv_aload_n hx hb dX12_forget_0 rfl (lv_at hl 0 rfl) ?_
  refine lv_iconst (v := (0 : Int32)) hx hb dX12_forget_1 (by decide) ?_
  obtain ⟨σ1, eσ1, hf⟩ := bd_s hf
  refine bk_put (wf := mw) (σ1 := σ1) (q0 := 0) (ci := 11) (k := 2) (v := .int (0 : Int32)) C hP hD hS wl_X12 tyX12_ok nmX12 rfl rfl (by decide) wa_205 rfl rfl rfl rfl rfl (Nat.le_of_ble_eq_true rfl) (by rw [eσ1]; exact mw_p0_2 g _ _) dX12_forget_2 (fun H locs hP hD hS => ?_)
  refine lv_aload_n hx hb dX12_forget_5 rfl (lv_at hl 0 rfl) ?_
  refine lv_iconst (v := (0 : Int32)) hx hb dX12_forget_6 (by decide) ?_
  obtain ⟨σ2, eσ2, hf⟩ := bd_s hf
  refine bk_put (wf := mw) (σ1 := σ2) (q0 := 0) (ci := 11) (k := 31) (v := .int (0 : Int32)) C hP hD hS wl_X12 tyX12_ok nmX12 rfl rfl (by decide) wa_616 rfl rfl rfl rfl rfl (Nat.le_of_ble_eq_true rfl) (by rw [eσ2]; exact mw_p0_31 g _ _) dX12_forget_7 (fun H locs hP hD hS => ?_)
  cases hf
  exact bk_vret C hP hD hS rfl dX12_forget_10
theorem c_X12_forget {N : Nat} {σ : Sg} {z : Sg} (hX : xOK g X) (hf : f_X12_forget N σ = some z) : MetV l yX12_forget (Cond.code yX12_forget cX12_forget 1 none :: wsA) rm_X12_forget mw g X [.ref (g.2.2 0)] σ z :=
  MetV_of hX (by decide) (Nat.le_of_ble_eq_true rfl) (fun p e s m args below meth c A C => b_X12_forget C hf)
-- X12_nodsMore: nodsMore(II)Z
abbrev rm_X12_nodsMore : Room := { frames := 1, cells := 0, slots := 0, locals := 21 }
theorem nd_X12_nodsMore : yX12_nodsMore.cls ≠ "java/lang/invoke/MethodHandle" ∧ yX12_nodsMore.cls ≠ "java/lang/invoke/VarHandle" ∧ (parseMethodDescriptor yX12_nodsMore.desc).map (fun d => d.parameters.length) = some 2 := by decide +kernel
def f_X12_nodsMore_b24 (N : Nat) (σ : Sg) : Option (Int32 × Sg) :=
some ((0 : Int32), σ)
set_option maxHeartbeats 4000000 in
set_option maxRecDepth 100000 in
theorem b_X12_nodsMore_b24 {N : Nat} {σ : Sg} {z : Int32 × Sg} (C : Cx p s m args meth c cX12_nodsMore 3 (some .boolean) RX12 g A X) (hf : f_X12_nodsMore_b24 N σ = some z) : Bk mw p l e rm_X12_nodsMore s m args below meth c 3 g A (MQ below (qI mw g A z.1 z.2) args s 0 0 A) 0 0 24 [] [] σ := by
  obtain ⟨hx, hb, hr, hml, hown, hts, hK, hlocks, hXX, hA, hXo⟩ := id C
  intro H locs ls hP hD hS hl
  unfold f_X12_nodsMore_b24 at hf
  refine lv_iconst (v := (0 : Int32)) hx hb dX12_nodsMore_24 (by decide) ?_
  cases hf
  exact bk_zret C hP hD hS (by decide) rfl dX12_nodsMore_25
def f_X12_nodsMore (N : Nat) (x1 : Int32) (x2 : Int32) (σ : Sg) : Option (Int32 × Sg) :=
(f_X12_isOf N x2 x1 σ).bind fun q1 =>
if q1.1 = 0 then (f_X12_nodsMore_b24 N (q1.2))
else (if (x1 < 0 ∨ 9 ≤ x1.toNatClampNeg) then none else
if (999 : Int32) ≤ ((q1.2) 15 x1.toNatClampNeg) then (f_X12_nodsMore_b24 N (q1.2))
else (some ((1 : Int32), (q1.2))))
set_option maxHeartbeats 4000000 in
set_option maxRecDepth 100000 in
theorem b_X12_nodsMore {N : Nat} {x1 : Int32} {x2 : Int32} {σ : Sg} {z : Int32 × Sg} (C : Cx p s m args meth c cX12_nodsMore 3 (some .boolean) RX12 g A X) (hf : f_X12_nodsMore N x1 x2 σ = some z) : Bk mw p l e rm_X12_nodsMore s m args below meth c 3 g A (MQ below (qI mw g A z.1 z.2) args s 0 0 A) 0 0 0 [(0, .ref (g.2.2 0)), (1, .int x1), (2, .int x2)] [] σ := by
  obtain ⟨hx, hb, hr, hml, hown, hts, hK, hlocks, hXX, hA, hXo⟩ := id C
  intro H locs ls hP hD hS hl
  unfold f_X12_nodsMore at hf
  refine lv_iload_n hx hb dX12_nodsMore_0 rfl (lv_at hl 2 rfl) ?_
  refine lv_iload_n hx hb dX12_nodsMore_1 rfl (lv_at hl 1 rfl) ?_
  obtain ⟨q1, hq1, hf⟩ := bi_s hf
  refine bk_SI (wf := mw) (rest := []) [.int x2, .int x1] C hP hD hS hl.1 (c_X12_isOf hXo hq1) (cwA_S 2 hts wa_726 wa_724 wa_725 wa_5 rfl rfl nd_X12_isOf ⟨Nat.le_of_ble_eq_true rfl, Nat.le_of_ble_eq_true rfl⟩) rfl rfl (Nat.le_of_ble_eq_true rfl) dX12_nodsMore_2 ⟨Nat.le_of_ble_eq_true rfl, Nat.le_of_ble_eq_true rfl⟩ (fun H locs hP hD hS => ?_)
  refine lv_if_eq (tgt := 24) hx hb dX12_nodsMore_5 (by decide) (fun t5 => ?_) (fun t5 => ?_)
  · have hf := (if_pos t5).symm.trans hf
    exact b_X12_nodsMore_b24 C hf H locs ls hP hD hS (lv_sub hl [] rfl)
  · have hf := (if_neg t5).symm.trans hf
    refine lv_aload_n hx hb dX12_nodsMore_8 rfl (lv_at hl 0 rfl) ?_
    refine bk_get (wf := mw) (q0 := 0) (ci := 11) (k := 25) (v := .ref (g.2.2 15)) C hP wl_X12 rfl rfl (by decide) wa_170 rfl rfl dX12_nodsMore_9 ?_
    refine lv_iload_n hx hb dX12_nodsMore_12 rfl (lv_at hl 1 rfl) ?_
    obtain ⟨g2, hf⟩ := gd_s hf
    refine bk_iald (wf := mw) (q0 := 15) (n := 9) (j := x1.toNatClampNeg) C hP rfl g2 rfl dX12_nodsMore_13 ?_
    refine lv_sipush (v := (999 : Int32)) hx hb dX12_nodsMore_14 (by decide) ?_
    refine lv_icmp_ge (tgt := 24) hx hb dX12_nodsMore_17 (by decide) (fun t17 => ?_) (fun t17 => ?_)
    · have hf := (if_pos t17).symm.trans hf
      exact b_X12_nodsMore_b24 C hf H locs ls hP hD hS (lv_sub hl [] rfl)
    · have hf := (if_neg t17).symm.trans hf
      refine lv_iconst (v := (1 : Int32)) hx hb dX12_nodsMore_20 (by decide) ?_
      refine lv_goto (tgt := 25) hx hb dX12_nodsMore_21 (by decide) ?_
      cases hf
      exact bk_zret C hP hD hS (by decide) rfl dX12_nodsMore_25
theorem c_X12_nodsMore {N : Nat} {x1 : Int32} {x2 : Int32} {σ : Sg} {z : Int32 × Sg} (hX : xOK g X) (hf : f_X12_nodsMore N x1 x2 σ = some z) : MetI l yX12_nodsMore (Cond.code yX12_nodsMore cX12_nodsMore 3 (some .boolean) :: wsA) rm_X12_nodsMore mw g X [.ref (g.2.2 0), .int x1, .int x2] σ z.1 z.2 :=
  MetI_of hX (by decide) (Nat.le_of_ble_eq_true rfl) (fun p e s m args below meth c A C => b_X12_nodsMore C hf)
-- X12_byMist: byMist(III)I
abbrev rm_X12_byMist : Room := { frames := 6, cells := 0, slots := 0, locals := 138 }
theorem nd_X12_byMist : yX12_byMist.cls ≠ "java/lang/invoke/MethodHandle" ∧ yX12_byMist.cls ≠ "java/lang/invoke/VarHandle" ∧ (parseMethodDescriptor yX12_byMist.desc).map (fun d => d.parameters.length) = some 3 := by decide +kernel
def f_X12_byMist_b127 (N : Nat) (x1 : Int32) (x2 : Int32) (x3 : Int32) (x4 : Int32) (x5 : Int32) (x7 : Int32) (x8 : Int32) (t0 : Int32) (t1 : Int32) (σ : Sg) : Option (Nat × Int32 × Int32 × Int32 × Sg) :=
bd (t0 * t1) fun v1 =>
(f_X12_aTick N σ).bind fun q2 =>
bd (x7 ||| (q2 0 35)) fun v3 =>
bd (x8 + (1 : Int32)) fun v4 =>
some (0, v1, v3, v4, q2)
set_option maxHeartbeats 4000000 in
set_option maxRecDepth 100000 in
theorem b_X12_byMist_b127 {N : Nat} {x1 : Int32} {x2 : Int32} {x3 : Int32} {x4 : Int32} {x5 : Int32} {x7 : Int32} {x8 : Int32} {t0 : Int32} {t1 : Int32} {σ : Sg} {z : Nat × Int32 × Int32 × Int32 × Sg} (C : Cx p s m args meth c cX12_byMist 9 (some .int) RX12 g A X) (hf : f_X12_byMist_b127 N x1 x2 x3 x4 x5 x7 x8 t0 t1 σ = some z) (k0 : z.1 = 0 → Bk mw p l e rm_X12_byMist s m args below meth c 9 g A Q 0 0 81 [(0, .ref (g.2.2 0)), (1, .int x1), (2, .int x2), (3, .int x3), (4, .int x4), (5, .int x5), (6, .int z.2.1), (7, .int z.2.2.1), (8, .int z.2.2.2.1)] [] z.2.2.2.2) (k : ¬ z.1 = 0 → Bk mw p l e rm_X12_byMist s m args below meth c 9 g A Q 0 0 149 [(0, .ref (g.2.2 0)), (1, .int x1), (2, .int x2), (3, .int x3), (4, .int x4), (5, .int x5), (6, .int z.2.1), (7, .int z.2.2.1)] [] z.2.2.2.2) : Bk mw p l e rm_X12_byMist s m args below meth c 9 g A Q 0 0 127 [(0, .ref (g.2.2 0)), (1, .int x1), (2, .int x2), (3, .int x3), (4, .int x4), (5, .int x5), (7, .int x7), (8, .int x8)] [.int t1, .int t0] σ := by
  obtain ⟨hx, hb, hr, hml, hown, hts, hK, hlocks, hXX, hA, hXo⟩ := id C
  intro H locs ls hP hD hS hl
  unfold f_X12_byMist_b127 at hf
  refine lv_imul hx hb dX12_byMist_127 ?_
  obtain ⟨v1, ev1, hf⟩ := bd_s hf
  rw [← ev1]
  refine lv_istore (lv' := [(6, .int v1), (0, .ref (g.2.2 0)), (1, .int x1), (2, .int x2), (3, .int x3), (4, .int x4), (5, .int x5), (7, .int x7), (8, .int x8)]) hx hb dX12_byMist_128 hl (by decide) rfl (fun ls hl => ?_)
  refine lv_aload_n hx hb dX12_byMist_130 rfl (lv_at hl 1 rfl) ?_
  obtain ⟨q2, hq2, hf⟩ := bi_s hf
  refine bk_VV (wf := mw) (q0 := 0) (ci := 11) (rest := []) [] C hP hD hS hl.1 (c_X12_aTick hXo hq2) (cwA_V 0 hts wa_903 wa_900 wa_901 wa_902 wa_5 rfl rfl nd_X12_aTick ⟨Nat.le_of_ble_eq_true rfl, Nat.le_of_ble_eq_true rfl⟩) rfl rfl rfl rfl (Nat.le_of_ble_eq_true rfl) dX12_byMist_131 ⟨Nat.le_of_ble_eq_true rfl, Nat.le_of_ble_eq_true rfl⟩ (fun H locs hP hD hS => ?_)
  refine lv_iload hx hb dX12_byMist_134 (lv_at hl 7 rfl) ?_
  refine lv_aload_n hx hb dX12_byMist_136 rfl (lv_at hl 1 rfl) ?_
  refine bk_get (wf := mw) (q0 := 0) (ci := 11) (k := 35) (v := .int (q2 0 35)) C hP wl_X12 rfl rfl (by decide) wa_904 rfl rfl dX12_byMist_137 ?_
  refine lv_ior hx hb dX12_byMist_140 ?_
  obtain ⟨v3, ev3, hf⟩ := bd_s hf
  rw [← ev3]
  refine lv_istore (lv' := [(7, .int v3), (6, .int v1), (0, .ref (g.2.2 0)), (1, .int x1), (2, .int x2), (3, .int x3), (4, .int x4), (5, .int x5), (8, .int x8)]) hx hb dX12_byMist_141 hl (by decide) rfl (fun ls hl => ?_)
  obtain ⟨v4, ev4, hf⟩ := bd_s hf
  refine lv_iinc (v := v4) (lv' := [(8, .int v4), (7, .int v3), (6, .int v1), (0, .ref (g.2.2 0)), (1, .int x1), (2, .int x2), (3, .int x3), (4, .int x4), (5, .int x5)]) hx hb dX12_byMist_143 hl (k := 8) rfl (by rw [ev4]; rfl) (by decide) rfl (fun ls hl => ?_)
  refine lv_goto (tgt := 81) hx hb dX12_byMist_146 (by decide) ?_
  cases hf
  exact k0 rfl H locs ls hP hD hS (lv_sub hl [3, 4, 5, 6, 7, 8, 2, 1, 0] rfl)
def f_X12_byMist_b104 (N : Nat) (x1 : Int32) (x2 : Int32) (x3 : Int32) (x4 : Int32) (x5 : Int32) (x6 : Int32) (x7 : Int32) (x8 : Int32) (t1 : Int32) (σ : Sg) : Option (Nat × Int32 × Int32 × Int32 × Sg) :=
bd (wr σ 0 32 t1) fun σ5 =>
(f_X12_isOf N x5 x8 σ5).bind fun q6 =>
if q6.1 = 0 then (f_X12_byMist_b127 N x1 x2 x3 x4 x5 x7 x8 x6 ((10 : Int32) - x3) (q6.2))
else (f_X12_byMist_b127 N x1 x2 x3 x4 x5 x7 x8 x6 x3 (q6.2))
set_option maxHeartbeats 4000000 in
set_option maxRecDepth 100000 in
theorem b_X12_byMist_b104 {N : Nat} {x1 : Int32} {x2 : Int32} {x3 : Int32} {x4 : Int32} {x5 : Int32} {x6 : Int32} {x7 : Int32} {x8 : Int32} {t1 : Int32} {σ : Sg} {z : Nat × Int32 × Int32 × Int32 × Sg} (C : Cx p s m args meth c cX12_byMist 9 (some .int) RX12 g A X) (hf : f_X12_byMist_b104 N x1 x2 x3 x4 x5 x6 x7 x8 t1 σ = some z) (k0 : z.1 = 0 → Bk mw p l e rm_X12_byMist s m args below meth c 9 g A Q 0 0 81 [(0, .ref (g.2.2 0)), (1, .int x1), (2, .int x2), (3, .int x3), (4, .int x4), (5, .int x5), (6, .int z.2.1), (7, .int z.2.2.1), (8, .int z.2.2.2.1)] [] z.2.2.2.2) (k : ¬ z.1 = 0 → Bk mw p l e rm_X12_byMist s m args below meth c 9 g A Q 0 0 149 [(0, .ref (g.2.2 0)), (1, .int x1), (2, .int x2), (3, .int x3), (4, .int x4), (5, .int x5), (6, .int z.2.1), (7, .int z.2.2.1)] [] z.2.2.2.2) : Bk mw p l e rm_X12_byMist s m args below meth c 9 g A Q 0 0 104 [(0, .ref (g.2.2 0)), (1, .int x1), (2, .int x2), (3, .int x3), (4, .int x4), (5, .int x5), (6, .int x6), (7, .int x7), (8, .int x8)] [.int t1, .ref (g.2.2 0)] σ := by
  obtain ⟨hx, hb, hr, hml, hown, hts, hK, hlocks, hXX, hA, hXo⟩ := id C
  intro H locs ls hP hD hS hl
  unfold f_X12_byMist_b104 at hf
  obtain ⟨σ5, eσ5, hf⟩ := bd_s hf
  refine bk_put (wf := mw) (σ1 := σ5) (q0 := 0) (ci := 11) (k := 32) (v := .int t1) C hP hD hS wl_X12 tyX12_ok nmX12 rfl rfl (by decide) wa_173 rfl rfl rfl rfl rfl (Nat.le_of_ble_eq_true rfl) (by rw [eσ5]; exact mw_p0_32 g _ _) dX12_byMist_104 (fun H locs hP hD hS => ?_)
  refine lv_iload hx hb dX12_byMist_107 (lv_at hl 6 rfl) ?_
  refine lv_iload hx hb dX12_byMist_109 (lv_at hl 5 rfl) ?_
  refine lv_iload hx hb dX12_byMist_111 (lv_at hl 8 rfl) ?_
  obtain ⟨q6, hq6, hf⟩ := bi_s hf
  refine bk_SI (wf := mw) (rest := [.int x6]) [.int x5, .int x8] C hP hD hS hl.1 (c_X12_isOf hXo hq6) (cwA_S 2 hts wa_726 wa_724 wa_725 wa_5 rfl rfl nd_X12_isOf ⟨Nat.le_of_ble_eq_true rfl, Nat.le_of_ble_eq_true rfl⟩) rfl rfl (Nat.le_of_ble_eq_true rfl) dX12_byMist_113 ⟨Nat.le_of_ble_eq_true rfl, Nat.le_of_ble_eq_true rfl⟩ (fun H locs hP hD hS => ?_)
  refine lv_if_eq (tgt := 123) hx hb dX12_byMist_116 (by decide) (fun t116 => ?_) (fun t116 => ?_)
  · have hf := (if_pos t116).symm.trans hf
    refine lv_bipush (v := (10 : Int32)) hx hb dX12_byMist_123 (by decide) ?_
    refine lv_iload_n hx hb dX12_byMist_125 rfl (lv_at hl 3 rfl) ?_
    refine lv_isub hx hb dX12_byMist_126 ?_
    exact b_X12_byMist_b127 C hf k0 k H locs ls hP hD hS (lv_sub hl [0, 1, 2, 3, 4, 5, 7, 8] rfl)
  · have hf := (if_neg t116).symm.trans hf
    refine lv_iload_n hx hb dX12_byMist_119 rfl (lv_at hl 3 rfl) ?_
    refine lv_goto (tgt := 127) hx hb dX12_byMist_120 (by decide) ?_
    exact b_X12_byMist_b127 C hf k0 k H locs ls hP hD hS (lv_sub hl [0, 1, 2, 3, 4, 5, 7, 8] rfl)
def s_X12_byMist_h81 (N : Nat) (x1 : Int32) (x2 : Int32) (x3 : Int32) (x4 : Int32) (x5 : Int32) (x6 : Int32) (x7 : Int32) (x8 : Int32) (σ : Sg) : Option (Nat × Int32 × Int32 × Int32 × Sg) :=
if x2 ≤ x8 then (some (1, x6, x7, 0, σ))
else ((f_X12_isOf N x5 x8 σ).bind fun q7 =>
if q7.1 = 0 then (f_X12_byMist_b104 N x1 x2 x3 x4 x5 x6 x7 x8 (0 : Int32) (q7.2))
else (f_X12_byMist_b104 N x1 x2 x3 x4 x5 x6 x7 x8 (9 : Int32) (q7.2)))
set_option maxHeartbeats 4000000 in
set_option maxRecDepth 100000 in
theorem e_X12_byMist_h81 {N : Nat} {x1 : Int32} {x2 : Int32} {x3 : Int32} {x4 : Int32} {x5 : Int32} {x6 : Int32} {x7 : Int32} {x8 : Int32} {σ : Sg} {z : Nat × Int32 × Int32 × Int32 × Sg} (C : Cx p s m args meth c cX12_byMist 9 (some .int) RX12 g A X) (hf : s_X12_byMist_h81 N x1 x2 x3 x4 x5 x6 x7 x8 σ = some z) (k0 : z.1 = 0 → Bk mw p l e rm_X12_byMist s m args below meth c 9 g A Q 0 0 81 [(0, .ref (g.2.2 0)), (1, .int x1), (2, .int x2), (3, .int x3), (4, .int x4), (5, .int x5), (6, .int z.2.1), (7, .int z.2.2.1), (8, .int z.2.2.2.1)] [] z.2.2.2.2) (k : ¬ z.1 = 0 → Bk mw p l e rm_X12_byMist s m args below meth c 9 g A Q 0 0 149 [(0, .ref (g.2.2 0)), (1, .int x1), (2, .int x2), (3, .int x3), (4, .int x4), (5, .int x5), (6, .int z.2.1), (7, .int z.2.2.1)] [] z.2.2.2.2) : Bk mw p l e rm_X12_byMist s m args below meth c 9 g A Q 0 0 81 [(0, .ref (g.2.2 0)), (1, .int x1), (2, .int x2), (3, .int x3), (4, .int x4), (5, .int x5), (6, .int x6), (7, .int x7), (8, .int x8)] [] σ := by
  obtain ⟨hx, hb, hr, hml, hown, hts, hK, hlocks, hXX, hA, hXo⟩ := id C
  intro H locs ls hP hD hS hl
  unfold s_X12_byMist_h81 at hf
  refine lv_iload hx hb dX12_byMist_81 (lv_at hl 8 rfl) ?_
  refine lv_iload_n hx hb dX12_byMist_83 rfl (lv_at hl 2 rfl) ?_
  refine lv_icmp_ge (tgt := 149) hx hb dX12_byMist_84 (by decide) (fun t84 => ?_) (fun t84 => ?_)
  · have hf := (if_pos t84).symm.trans hf
    cases hf
    exact (k (show ¬ (1 : Nat) = 0 by decide)) H locs ls hP hD hS (lv_sub hl [0, 1, 2, 3, 4, 5, 6, 7] rfl)
  · have hf := (if_neg t84).symm.trans hf
    refine lv_aload_n hx hb dX12_byMist_87 rfl (lv_at hl 0 rfl) ?_
    refine lv_iload hx hb dX12_byMist_88 (lv_at hl 5 rfl) ?_
    refine lv_iload hx hb dX12_byMist_90 (lv_at hl 8 rfl) ?_
    obtain ⟨q7, hq7, hf⟩ := bi_s hf
    refine bk_SI (wf := mw) (rest := [.ref (g.2.2 0)]) [.int x5, .int x8] C hP hD hS hl.1 (c_X12_isOf hXo hq7) (cwA_S 2 hts wa_726 wa_724 wa_725 wa_5 rfl rfl nd_X12_isOf ⟨Nat.le_of_ble_eq_true rfl, Nat.le_of_ble_eq_true rfl⟩) rfl rfl (Nat.le_of_ble_eq_true rfl) dX12_byMist_92 ⟨Nat.le_of_ble_eq_true rfl, Nat.le_of_ble_eq_true rfl⟩ (fun H locs hP hD hS => ?_)
    refine lv_if_eq (tgt := 103) hx hb dX12_byMist_95 (by decide) (fun t95 => ?_) (fun t95 => ?_)
    · have hf := (if_pos t95).symm.trans hf
      refine lv_iconst (v := (0 : Int32)) hx hb dX12_byMist_103 (by decide) ?_
      exact b_X12_byMist_b104 C hf k0 k H locs ls hP hD hS (lv_sub hl [0, 1, 2, 3, 4, 5, 6, 7, 8] rfl)
    · have hf := (if_neg t95).symm.trans hf
      refine lv_bipush (v := (9 : Int32)) hx hb dX12_byMist_98 (by decide) ?_
      refine lv_goto (tgt := 104) hx hb dX12_byMist_100 (by decide) ?_
      exact b_X12_byMist_b104 C hf k0 k H locs ls hP hD hS (lv_sub hl [0, 1, 2, 3, 4, 5, 6, 7, 8] rfl)
theorem lp_X12_byMist_h81 {N : Nat} {n : Nat} {x1 : Int32} {x2 : Int32} {x3 : Int32} {x4 : Int32} {x5 : Int32} {x6 : Int32} {x7 : Int32} {x8 : Int32} {σ : Sg} {z : Nat × Int32 × Int32 × Int32 × Sg} (C : Cx p s m args meth c cX12_byMist 9 (some .int) RX12 g A X) (hz : it (fun q => s_X12_byMist_h81 N x1 x2 x3 x4 x5 q.1 q.2.1 q.2.2.1 q.2.2.2) n (x6, x7, x8, σ) = some z) (k : Bk mw p l e rm_X12_byMist s m args below meth c 9 g A Q 0 0 149 [(0, .ref (g.2.2 0)), (1, .int x1), (2, .int x2), (3, .int x3), (4, .int x4), (5, .int x5), (6, .int z.2.1), (7, .int z.2.2.1)] [] z.2.2.2.2) : Bk mw p l e rm_X12_byMist s m args below meth c 9 g A Q 0 0 81 [(0, .ref (g.2.2 0)), (1, .int x1), (2, .int x2), (3, .int x3), (4, .int x4), (5, .int x5), (6, .int x6), (7, .int x7), (8, .int x8)] [] σ :=
  it_W (S := Int32 × Int32 × Int32 × Sg) (fun q => Bk mw p l e rm_X12_byMist s m args below meth c 9 g A Q 0 0 81 [(0, .ref (g.2.2 0)), (1, .int x1), (2, .int x2), (3, .int x3), (4, .int x4), (5, .int x5), (6, .int q.1), (7, .int q.2.1), (8, .int q.2.2.1)] [] q.2.2.2) (fun z => Bk mw p l e rm_X12_byMist s m args below meth c 9 g A Q 0 0 149 [(0, .ref (g.2.2 0)), (1, .int x1), (2, .int x2), (3, .int x3), (4, .int x4), (5, .int x5), (6, .int z.2.1), (7, .int z.2.2.1)] [] z.2.2.2.2) (fun q z hq k0 k => e_X12_byMist_h81 C hq k0 k) n (x6, x7, x8, σ) z hz k
def f_X12_byMist_b176 (N : Nat) (x1 : Int32) (x2 : Int32) (x3 : Int32) (x5 : Int32) (t0 : Int32) (t1 : Int32) (σ : Sg) : Option (Nat × Int32 × Int32 × Sg) :=
bd (t0 + t1) fun v8 =>
bd (x5 + (1 : Int32)) fun v9 =>
some (0, v8, v9, σ)
set_option maxHeartbeats 4000000 in
set_option maxRecDepth 100000 in
theorem b_X12_byMist_b176 {N : Nat} {x1 : Int32} {x2 : Int32} {x3 : Int32} {x5 : Int32} {t0 : Int32} {t1 : Int32} {σ : Sg} {z : Nat × Int32 × Int32 × Sg} (C : Cx p s m args meth c cX12_byMist 9 (some .int) RX12 g A X) (hf : f_X12_byMist_b176 N x1 x2 x3 x5 t0 t1 σ = some z) (k0 : z.1 = 0 → Bk mw p l e rm_X12_byMist s m args below meth c 9 g A Q 0 0 64 [(0, .ref (g.2.2 0)), (1, .int x1), (2, .int x2), (3, .int x3), (4, .int z.2.1), (5, .int z.2.2.1)] [] z.2.2.2) (k : ¬ z.1 = 0 → Bk mw p l e rm_X12_byMist s m args below meth c 9 g A Q 0 0 185 [(0, .ref (g.2.2 0)), (4, .int z.2.1)] [] z.2.2.2) : Bk mw p l e rm_X12_byMist s m args below meth c 9 g A Q 0 0 176 [(0, .ref (g.2.2 0)), (1, .int x1), (2, .int x2), (3, .int x3), (5, .int x5)] [.int t1, .int t0] σ := by
  obtain ⟨hx, hb, hr, hml, hown, hts, hK, hlocks, hXX, hA, hXo⟩ := id C
  intro H locs ls hP hD hS hl
  unfold f_X12_byMist_b176 at hf
  refine lv_iadd hx hb dX12_byMist_176 ?_
  obtain ⟨v8, ev8, hf⟩ := bd_s hf
  rw [← ev8]
  refine lv_istore (lv' := [(4, .int v8), (0, .ref (g.2.2 0)), (1, .int x1), (2, .int x2), (3, .int x3), (5, .int x5)]) hx hb dX12_byMist_177 hl (by decide) rfl (fun ls hl => ?_)
  obtain ⟨v9, ev9, hf⟩ := bd_s hf
  refine lv_iinc (v := v9) (lv' := [(5, .int v9), (4, .int v8), (0, .ref (g.2.2 0)), (1, .int x1), (2, .int x2), (3, .int x3)]) hx hb dX12_byMist_179 hl (k := 5) rfl (by rw [ev9]; rfl) (by decide) rfl (fun ls hl => ?_)
  refine lv_goto (tgt := 64) hx hb dX12_byMist_182 (by decide) ?_
  cases hf
  exact k0 rfl H locs ls hP hD hS (lv_sub hl [2, 3, 4, 5, 1, 0] rfl)
def s_X12_byMist_h64 (N : Nat) (x1 : Int32) (x2 : Int32) (x3 : Int32) (x4 : Int32) (x5 : Int32) (σ : Sg) : Option (Nat × Int32 × Int32 × Sg) :=
if ((1 : Int32) <<< (x2 &&& 31)) ≤ x5 then (some (1, x4, 0, σ))
else ((it (fun q => s_X12_byMist_h81 N x1 x2 x3 x4 x5 q.1 q.2.1 q.2.2.1 q.2.2.2) N ((1 : Int32), (0 : Int32), (0 : Int32), σ)).bind fun z10 =>
(f_X12_unpack_21 N (0 : Int32) (z10.2.2.2.2)).bind fun q11 =>
(f_X12_nodsMore N x1 (z10.2.2.1) q11).bind fun q12 =>
if q12.1 = 0 then (f_X12_byMist_b176 N x1 x2 x3 x5 x4 (0 : Int32) (q12.2))
else (f_X12_byMist_b176 N x1 x2 x3 x5 x4 (z10.2.1) (q12.2)))
set_option maxHeartbeats 4000000 in
set_option maxRecDepth 100000 in
theorem e_X12_byMist_h64 {N : Nat} {x1 : Int32} {x2 : Int32} {x3 : Int32} {x4 : Int32} {x5 : Int32} {σ : Sg} {z : Nat × Int32 × Int32 × Sg} (C : Cx p s m args meth c cX12_byMist 9 (some .int) RX12 g A X) (hf : s_X12_byMist_h64 N x1 x2 x3 x4 x5 σ = some z) (k0 : z.1 = 0 → Bk mw p l e rm_X12_byMist s m args below meth c 9 g A Q 0 0 64 [(0, .ref (g.2.2 0)), (1, .int x1), (2, .int x2), (3, .int x3), (4, .int z.2.1), (5, .int z.2.2.1)] [] z.2.2.2) (k : ¬ z.1 = 0 → Bk mw p l e rm_X12_byMist s m args below meth c 9 g A Q 0 0 185 [(0, .ref (g.2.2 0)), (4, .int z.2.1)] [] z.2.2.2) : Bk mw p l e rm_X12_byMist s m args below meth c 9 g A Q 0 0 64 [(0, .ref (g.2.2 0)), (1, .int x1), (2, .int x2), (3, .int x3), (4, .int x4), (5, .int x5)] [] σ := by
  obtain ⟨hx, hb, hr, hml, hown, hts, hK, hlocks, hXX, hA, hXo⟩ := id C
  intro H locs ls hP hD hS hl
  unfold s_X12_byMist_h64 at hf
  refine lv_iload hx hb dX12_byMist_64 (lv_at hl 5 rfl) ?_
  refine lv_iconst (v := (1 : Int32)) hx hb dX12_byMist_66 (by decide) ?_
  refine lv_iload_n hx hb dX12_byMist_67 rfl (lv_at hl 2 rfl) ?_
  refine lv_ishl hx hb dX12_byMist_68 ?_
  refine lv_icmp_ge (tgt := 185) hx hb dX12_byMist_69 (by decide) (fun t69 => ?_) (fun t69 => ?_)
  · have hf := (if_pos t69).symm.trans hf
    cases hf
    exact (k (show ¬ (1 : Nat) = 0 by decide)) H locs ls hP hD hS (lv_sub hl [0, 4] rfl)
  · have hf := (if_neg t69).symm.trans hf
    refine lv_iconst (v := (1 : Int32)) hx hb dX12_byMist_72 (by decide) ?_
    refine lv_istore (lv' := [(6, .int (1 : Int32)), (0, .ref (g.2.2 0)), (1, .int x1), (2, .int x2), (3, .int x3), (4, .int x4), (5, .int x5)]) hx hb dX12_byMist_73 hl (by decide) rfl (fun ls hl => ?_)
    refine lv_iconst (v := (0 : Int32)) hx hb dX12_byMist_75 (by decide) ?_
    refine lv_istore (lv' := [(7, .int (0 : Int32)), (6, .int (1 : Int32)), (0, .ref (g.2.2 0)), (1, .int x1), (2, .int x2), (3, .int x3), (4, .int x4), (5, .int x5)]) hx hb dX12_byMist_76 hl (by decide) rfl (fun ls hl => ?_)
    refine lv_iconst (v := (0 : Int32)) hx hb dX12_byMist_78 (by decide) ?_
    refine lv_istore (lv' := [(8, .int (0 : Int32)), (7, .int (0 : Int32)), (6, .int (1 : Int32)), (0, .ref (g.2.2 0)), (1, .int x1), (2, .int x2), (3, .int x3), (4, .int x4), (5, .int x5)]) hx hb dX12_byMist_79 hl (by decide) rfl (fun ls hl => ?_)
    obtain ⟨z10, hz10, hf⟩ := bi_s hf
    refine lp_X12_byMist_h81 C hz10 ?_ H locs ls hP hD hS (lv_sub hl [3, 4, 5, 6, 7, 8, 2, 1, 0] rfl)
    intro H locs ls hP hD hS hl
    refine lv_aload_n hx hb dX12_byMist_149 rfl (lv_at hl 0 rfl) ?_
    refine lv_aload_n hx hb dX12_byMist_150 rfl (lv_at hl 0 rfl) ?_
    refine bk_get (wf := mw) (q0 := 0) (ci := 11) (k := 37) (v := .ref (g.2.2 21)) C hP wl_X12 rfl rfl (by decide) wa_177 rfl rfl dX12_byMist_151 ?_
    refine lv_iconst (v := (0 : Int32)) hx hb dX12_byMist_154 (by decide) ?_
    obtain ⟨q11, hq11, hf⟩ := bi_s hf
    refine bk_VV (wf := mw) (q0 := 0) (ci := 11) (rest := []) [.ref (g.2.2 21), .int (0 : Int32)] C hP hD hS hl.1 (c_X12_unpack_21 hXo hq11) (cwA_V 2 hts wa_1010 wa_1007 wa_1008 wa_1009 wa_5 rfl rfl nd_X12_unpack ⟨Nat.le_of_ble_eq_true rfl, Nat.le_of_ble_eq_true rfl⟩) rfl rfl rfl rfl (Nat.le_of_ble_eq_true rfl) dX12_byMist_155 ⟨Nat.le_of_ble_eq_true rfl, Nat.le_of_ble_eq_true rfl⟩ (fun H locs hP hD hS => ?_)
    refine lv_iload hx hb dX12_byMist_158 (lv_at hl 4 rfl) ?_
    refine lv_aload_n hx hb dX12_byMist_160 rfl (lv_at hl 0 rfl) ?_
    refine lv_iload_n hx hb dX12_byMist_161 rfl (lv_at hl 1 rfl) ?_
    refine lv_iload hx hb dX12_byMist_162 (lv_at hl 7 rfl) ?_
    obtain ⟨q12, hq12, hf⟩ := bi_s hf
    refine bk_VI (wf := mw) (q0 := 0) (ci := 11) (rest := [.int x4]) [.int x1, .int (z10.2.2.1)] C hP hD hS hl.1 (c_X12_nodsMore hXo hq12) (cwA_V 2 hts wa_1363 wa_1360 wa_1361 wa_1362 wa_5 rfl rfl nd_X12_nodsMore ⟨Nat.le_of_ble_eq_true rfl, Nat.le_of_ble_eq_true rfl⟩) rfl rfl rfl rfl (Nat.le_of_ble_eq_true rfl) dX12_byMist_164 ⟨Nat.le_of_ble_eq_true rfl, Nat.le_of_ble_eq_true rfl⟩ (fun H locs hP hD hS => ?_)
    refine lv_if_eq (tgt := 175) hx hb dX12_byMist_167 (by decide) (fun t167 => ?_) (fun t167 => ?_)
    · have hf := (if_pos t167).symm.trans hf
      refine lv_iconst (v := (0 : Int32)) hx hb dX12_byMist_175 (by decide) ?_
      exact b_X12_byMist_b176 C hf k0 k H locs ls hP hD hS (lv_sub hl [0, 1, 2, 3, 5] rfl)
    · have hf := (if_neg t167).symm.trans hf
      refine lv_iload hx hb dX12_byMist_170 (lv_at hl 6 rfl) ?_
      refine lv_goto (tgt := 176) hx hb dX12_byMist_172 (by decide) ?_
      exact b_X12_byMist_b176 C hf k0 k H locs ls hP hD hS (lv_sub hl [0, 1, 2, 3, 5] rfl)
theorem lp_X12_byMist_h64 {N : Nat} {n : Nat} {x1 : Int32} {x2 : Int32} {x3 : Int32} {x4 : Int32} {x5 : Int32} {σ : Sg} {z : Nat × Int32 × Int32 × Sg} (C : Cx p s m args meth c cX12_byMist 9 (some .int) RX12 g A X) (hz : it (fun q => s_X12_byMist_h64 N x1 x2 x3 q.1 q.2.1 q.2.2) n (x4, x5, σ) = some z) (k : Bk mw p l e rm_X12_byMist s m args below meth c 9 g A Q 0 0 185 [(0, .ref (g.2.2 0)), (4, .int z.2.1)] [] z.2.2.2) : Bk mw p l e rm_X12_byMist s m args below meth c 9 g A Q 0 0 64 [(0, .ref (g.2.2 0)), (1, .int x1), (2, .int x2), (3, .int x3), (4, .int x4), (5, .int x5)] [] σ :=
  it_W (S := Int32 × Int32 × Sg) (fun q => Bk mw p l e rm_X12_byMist s m args below meth c 9 g A Q 0 0 64 [(0, .ref (g.2.2 0)), (1, .int x1), (2, .int x2), (3, .int x3), (4, .int q.1), (5, .int q.2.1)] [] q.2.2) (fun z => Bk mw p l e rm_X12_byMist s m args below meth c 9 g A Q 0 0 185 [(0, .ref (g.2.2 0)), (4, .int z.2.1)] [] z.2.2.2) (fun q z hq k0 k => e_X12_byMist_h64 C hq k0 k) n (x4, x5, σ) z hz k
def f_X12_byMist_b43 (N : Nat) (σ : Sg) : Option (Int32 × Sg) :=
(f_X12_fail N (2 : Int32) σ).bind fun q13 =>
some (q13.1, (q13.2))
set_option maxHeartbeats 4000000 in
set_option maxRecDepth 100000 in
theorem b_X12_byMist_b43 {N : Nat} {σ : Sg} {z : Int32 × Sg} (C : Cx p s m args meth c cX12_byMist 9 (some .int) RX12 g A X) (hf : f_X12_byMist_b43 N σ = some z) : Bk mw p l e rm_X12_byMist s m args below meth c 9 g A (MQ below (qI mw g A z.1 z.2) args s 0 0 A) 0 0 43 [(0, .ref (g.2.2 0))] [] σ := by
  obtain ⟨hx, hb, hr, hml, hown, hts, hK, hlocks, hXX, hA, hXo⟩ := id C
  intro H locs ls hP hD hS hl
  unfold f_X12_byMist_b43 at hf
  refine lv_aload_n hx hb dX12_byMist_43 rfl (lv_at hl 0 rfl) ?_
  refine lv_iconst (v := (2 : Int32)) hx hb dX12_byMist_44 (by decide) ?_
  obtain ⟨q13, hq13, hf⟩ := bi_s hf
  refine bk_VI (wf := mw) (q0 := 0) (ci := 11) (rest := []) [.int (2 : Int32)] C hP hD hS hl.1 (c_X12_fail hXo hq13) (cwA_V 1 hts wa_512 wa_509 wa_510 wa_511 wa_5 rfl rfl nd_X12_fail ⟨Nat.le_of_ble_eq_true rfl, Nat.le_of_ble_eq_true rfl⟩) rfl rfl rfl rfl (Nat.le_of_ble_eq_true rfl) dX12_byMist_45 ⟨Nat.le_of_ble_eq_true rfl, Nat.le_of_ble_eq_true rfl⟩ (fun H locs hP hD hS => ?_)
  cases hf
  exact bk_iret C hP hD hS rfl dX12_byMist_48
def f_X12_byMist (N : Nat) (x1 : Int32) (x2 : Int32) (x3 : Int32) (σ : Sg) : Option (Int32 × Sg) :=
bd (wr σ 0 2 (0 : Int32)) fun σ14 =>
(f_X12_isFarm N x1 σ14).bind fun q15 =>
if q15.1 = 0 then ((f_X12_fail N (1 : Int32) (q15.2)).bind fun q21 =>
some (q21.1, (q21.2)))
else ((f_X12_isIn N (x2).toInt64 (1 : Int64) (5 : Int64) (q15.2)).bind fun q16 =>
if q16.1 = 0 then (f_X12_byMist_b43 N (q16.2))
else ((f_X12_isIn N (x3).toInt64 (0 : Int64) (10 : Int64) (q16.2)).bind fun q17 =>
if q17.1 = 0 then (f_X12_byMist_b43 N (q17.2))
else ((f_X12_pack_21 N (0 : Int32) (q17.2)).bind fun q18 =>
(it (fun q => s_X12_byMist_h64 N x1 x2 x3 q.1 q.2.1 q.2.2) N ((0 : Int32), (0 : Int32), q18)).bind fun z19 =>
bd (wr (z19.2.2.2) 0 32 (-1 : Int32)) fun σ20 =>
some ((z19.2.1), σ20))))
set_option maxHeartbeats 4000000 in
set_option maxRecDepth 100000 in
theorem b_X12_byMist {N : Nat} {x1 : Int32} {x2 : Int32} {x3 : Int32} {σ : Sg} {z : Int32 × Sg} (C : Cx p s m args meth c cX12_byMist 9 (some .int) RX12 g A X) (hf : f_X12_byMist N x1 x2 x3 σ = some z) : Bk mw p l e rm_X12_byMist s m args below meth c 9 g A (MQ below (qI mw g A z.1 z.2) args s 0 0 A) 0 0 0 [(0, .ref (g.2.2 0)), (1, .int x1), (2, .int x2), (3, .int x3)] [] σ := by
  obtain ⟨hx, hb, hr, hml, hown, hts, hK, hlocks, hXX, hA, hXo⟩ := id C
  intro H locs ls hP hD hS hl
  unfold f_X12_byMist at hf
  refine lv_aload_n hx hb dX12_byMist_0 rfl (lv_at hl 0 rfl) ?_
  refine lv_iconst (v := (0 : Int32)) hx hb dX12_byMist_1 (by decide) ?_
  obtain ⟨σ14, eσ14, hf⟩ := bd_s hf
  refine bk_put (wf := mw) (σ1 := σ14) (q0 := 0) (ci := 11) (k := 2) (v := .int (0 : Int32)) C hP hD hS wl_X12 tyX12_ok nmX12 rfl rfl (by decide) wa_205 rfl rfl rfl rfl rfl (Nat.le_of_ble_eq_true rfl) (by rw [eσ14]; exact mw_p0_2 g _ _) dX12_byMist_2 (fun H locs hP hD hS => ?_)
  refine lv_aload_n hx hb dX12_byMist_5 rfl (lv_at hl 0 rfl) ?_
  refine lv_iload_n hx hb dX12_byMist_6 rfl (lv_at hl 1 rfl) ?_
  obtain ⟨q15, hq15, hf⟩ := bi_s hf
  refine bk_VI (wf := mw) (q0 := 0) (ci := 11) (rest := []) [.int x1] C hP hD hS hl.1 (c_X12_isFarm hXo hq15) (cwA_V 1 hts wa_800 wa_797 wa_798 wa_799 wa_5 rfl rfl nd_X12_isFarm ⟨Nat.le_of_ble_eq_true rfl, Nat.le_of_ble_eq_true rfl⟩) rfl rfl rfl rfl (Nat.le_of_ble_eq_true rfl) dX12_byMist_7 ⟨Nat.le_of_ble_eq_true rfl, Nat.le_of_ble_eq_true rfl⟩ (fun H locs hP hD hS => ?_)
  refine lv_if_ne (tgt := 19) hx hb dX12_byMist_10 (by decide) (fun t10 => ?_) (fun t10 => ?_)
  · have hf := (if_neg t10).symm.trans hf
    refine lv_iload_n hx hb dX12_byMist_19 rfl (lv_at hl 2 rfl) ?_
    refine lv_i2l hx hb dX12_byMist_20 rfl ?_
    refine lv_lconst (v := (1 : Int64)) hx hb dX12_byMist_21 (by decide) ?_
    refine lv_ldc2 (v := (5 : Int64)) hx hb hown (hts _ wa_1358) dX12_byMist_22 ?_
    obtain ⟨q16, hq16, hf⟩ := bi_s hf
    refine bk_SI (wf := mw) (rest := []) [.long (x2).toInt64, .long (1 : Int64), .long (5 : Int64)] C hP hD hS hl.1 (c_X12_isIn hXo hq16) (cwA_S 3 hts wa_803 wa_801 wa_802 wa_5 rfl rfl nd_X12_isIn ⟨Nat.le_of_ble_eq_true rfl, Nat.le_of_ble_eq_true rfl⟩) rfl rfl (Nat.le_of_ble_eq_true rfl) dX12_byMist_25 ⟨Nat.le_of_ble_eq_true rfl, Nat.le_of_ble_eq_true rfl⟩ (fun H locs hP hD hS => ?_)
    refine lv_if_eq (tgt := 43) hx hb dX12_byMist_28 (by decide) (fun t28 => ?_) (fun t28 => ?_)
    · have hf := (if_pos t28).symm.trans hf
      exact b_X12_byMist_b43 C hf H locs ls hP hD hS (lv_sub hl [0] rfl)
    · have hf := (if_neg t28).symm.trans hf
      refine lv_iload_n hx hb dX12_byMist_31 rfl (lv_at hl 3 rfl) ?_
      refine lv_i2l hx hb dX12_byMist_32 rfl ?_
      refine lv_lconst (v := (0 : Int64)) hx hb dX12_byMist_33 (by decide) ?_
      refine lv_ldc2 (v := (10 : Int64)) hx hb hown (hts _ wa_1359) dX12_byMist_34 ?_
      obtain ⟨q17, hq17, hf⟩ := bi_s hf
      refine bk_SI (wf := mw) (rest := []) [.long (x3).toInt64, .long (0 : Int64), .long (10 : Int64)] C hP hD hS hl.1 (c_X12_isIn hXo hq17) (cwA_S 3 hts wa_803 wa_801 wa_802 wa_5 rfl rfl nd_X12_isIn ⟨Nat.le_of_ble_eq_true rfl, Nat.le_of_ble_eq_true rfl⟩) rfl rfl (Nat.le_of_ble_eq_true rfl) dX12_byMist_37 ⟨Nat.le_of_ble_eq_true rfl, Nat.le_of_ble_eq_true rfl⟩ (fun H locs hP hD hS => ?_)
      refine lv_if_ne (tgt := 49) hx hb dX12_byMist_40 (by decide) (fun t40 => ?_) (fun t40 => ?_)
      · have hf := (if_neg t40).symm.trans hf
        refine lv_iconst (v := (0 : Int32)) hx hb dX12_byMist_49 (by decide) ?_
        refine lv_istore (lv' := [(4, .int (0 : Int32)), (0, .ref (g.2.2 0)), (1, .int x1), (2, .int x2), (3, .int x3)]) hx hb dX12_byMist_50 hl (by decide) rfl (fun ls hl => ?_)
        refine lv_aload_n hx hb dX12_byMist_52 rfl (lv_at hl 1 rfl) ?_
        refine lv_aload_n hx hb dX12_byMist_53 rfl (lv_at hl 1 rfl) ?_
        refine bk_get (wf := mw) (q0 := 0) (ci := 11) (k := 37) (v := .ref (g.2.2 21)) C hP wl_X12 rfl rfl (by decide) wa_177 rfl rfl dX12_byMist_54 ?_
        refine lv_iconst (v := (0 : Int32)) hx hb dX12_byMist_57 (by decide) ?_
        obtain ⟨q18, hq18, hf⟩ := bi_s hf
        refine bk_VV (wf := mw) (q0 := 0) (ci := 11) (rest := []) [.ref (g.2.2 21), .int (0 : Int32)] C hP hD hS hl.1 (c_X12_pack_21 hXo hq18) (cwA_V 2 hts wa_895 wa_892 wa_893 wa_894 wa_5 rfl rfl nd_X12_pack ⟨Nat.le_of_ble_eq_true rfl, Nat.le_of_ble_eq_true rfl⟩) rfl rfl rfl rfl (Nat.le_of_ble_eq_true rfl) dX12_byMist_58 ⟨Nat.le_of_ble_eq_true rfl, Nat.le_of_ble_eq_true rfl⟩ (fun H locs hP hD hS => ?_)
        refine lv_iconst (v := (0 : Int32)) hx hb dX12_byMist_61 (by decide) ?_
        refine lv_istore (lv' := [(5, .int (0 : Int32)), (4, .int (0 : Int32)), (0, .ref (g.2.2 0)), (1, .int x1), (2, .int x2), (3, .int x3)]) hx hb dX12_byMist_62 hl (by decide) rfl (fun ls hl => ?_)
        obtain ⟨z19, hz19, hf⟩ := bi_s hf
        refine lp_X12_byMist_h64 C hz19 ?_ H locs ls hP hD hS (lv_sub hl [2, 3, 4, 5, 1, 0] rfl)
        intro H locs ls hP hD hS hl
        refine lv_aload_n hx hb dX12_byMist_185 rfl (lv_at hl 0 rfl) ?_
        refine lv_iconst (v := (-1 : Int32)) hx hb dX12_byMist_186 (by decide) ?_
        obtain ⟨σ20, eσ20, hf⟩ := bd_s hf
        refine bk_put (wf := mw) (σ1 := σ20) (q0 := 0) (ci := 11) (k := 32) (v := .int (-1 : Int32)) C hP hD hS wl_X12 tyX12_ok nmX12 rfl rfl (by decide) wa_173 rfl rfl rfl rfl rfl (Nat.le_of_ble_eq_true rfl) (by rw [eσ20]; exact mw_p0_32 g _ _) dX12_byMist_187 (fun H locs hP hD hS => ?_)
        refine lv_iload hx hb dX12_byMist_190 (lv_at hl 1 rfl) ?_
        cases hf
        exact bk_iret C hP hD hS rfl dX12_byMist_192
      · have hf := (if_pos t40).symm.trans hf
        exact b_X12_byMist_b43 C hf H locs ls hP hD hS (lv_sub hl [0] rfl)
  · have hf := (if_pos t10).symm.trans hf
    refine lv_aload_n hx hb dX12_byMist_13 rfl (lv_at hl 0 rfl) ?_
    refine lv_iconst (v := (1 : Int32)) hx hb dX12_byMist_14 (by decide) ?_
    obtain ⟨q21, hq21, hf⟩ := bi_s hf
    refine bk_VI (wf := mw) (q0 := 0) (ci := 11) (rest := []) [.int (1 : Int32)] C hP hD hS hl.1 (c_X12_fail hXo hq21) (cwA_V 1 hts wa_512 wa_509 wa_510 wa_511 wa_5 rfl rfl nd_X12_fail ⟨Nat.le_of_ble_eq_true rfl, Nat.le_of_ble_eq_true rfl⟩) rfl rfl rfl rfl (Nat.le_of_ble_eq_true rfl) dX12_byMist_15 ⟨Nat.le_of_ble_eq_true rfl, Nat.le_of_ble_eq_true rfl⟩ (fun H locs hP hD hS => ?_)
    cases hf
    exact bk_iret C hP hD hS rfl dX12_byMist_18
theorem c_X12_byMist {N : Nat} {x1 : Int32} {x2 : Int32} {x3 : Int32} {σ : Sg} {z : Int32 × Sg} (hX : xOK g X) (hf : f_X12_byMist N x1 x2 x3 σ = some z) : MetI l yX12_byMist (Cond.code yX12_byMist cX12_byMist 9 (some .int) :: wsA) rm_X12_byMist mw g X [.ref (g.2.2 0), .int x1, .int x2, .int x3] σ z.1 z.2 :=
  MetI_of hX (by decide) (Nat.le_of_ble_eq_true rfl) (fun p e s m args below meth c A C => b_X12_byMist C hf)
end GEN
