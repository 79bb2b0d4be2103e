section GEN
variable {p : Program} {l : Launch} {e : Env} {s : State} {m : MethodId} {args : Array Value} {below : List Frame} {meth : Method} {c : Code} {g : WG} {A : Nat → Prop} {X : Xt} {Q : State → Prop}
-- X12_copyTo_17_31: copyTo([I[I)V
abbrev rm_X12_copyTo_17_31 : Room := { frames := 0, cells := 0, slots := 0, locals := 0 }
def s_X12_copyTo_17_31_h2 (N : Nat) (x2 : Int32) (σ : Sg) : Option (Nat × Int32 × Sg) :=
if (1520 : Int32) ≤ x2 then (some (1, 0, σ))
else (if (x2 < 0 ∨ 1520 ≤ x2.toNatClampNeg) then none else
if (x2 < 0 ∨ 1520 ≤ x2.toNatClampNeg) then none else
bd (wr σ 17 (x2.toNatClampNeg) (σ 31 x2.toNatClampNeg)) fun σ3 =>
bd (x2 + (1 : Int32)) fun v4 =>
some (0, v4, σ3))
set_option maxHeartbeats 4000000 in
set_option maxRecDepth 100000 in
theorem e_X12_copyTo_17_31_h2 {N : Nat} {x2 : Int32} {σ : Sg} {z : Nat × Int32 × Sg} (C : Cx p s m args meth c cX12_copyTo 3 none RX12 g A X) (hf : s_X12_copyTo_17_31_h2 N x2 σ = some z) (k0 : z.1 = 0 → Bk mw p l e rm_X12_copyTo_17_31 s m args below meth c 3 g A Q 0 0 2 [(0, .ref (g.2.2 17)), (1, .ref (g.2.2 31)), (2, .int z.2.1)] [] z.2.2) (k : ¬ z.1 = 0 → Bk mw p l e rm_X12_copyTo_17_31 s m args below meth c 3 g A Q 0 0 20 [] [] z.2.2) : Bk mw p l e rm_X12_copyTo_17_31 s m args below meth c 3 g A Q 0 0 2 [(0, .ref (g.2.2 17)), (1, .ref (g.2.2 31)), (2, .int x2)] [] σ := by
  obtain ⟨hx, hb, hr, hml, hown, hts, hK, hlocks, hXX, hA, hXo⟩ := id C
  intro H locs ls hP hD hS hl
  unfold s_X12_copyTo_17_31_h2 at hf
  refine lv_iload_n hx hb dX12_copyTo_2 rfl (lv_at hl 2 rfl) ?_
  refine lv_aload_n hx hb dX12_copyTo_3 rfl (lv_at hl 0 rfl) ?_
  refine bk_alen (wf := mw) (q0 := 17) (t0 := 0) (v := (1520 : Int32)) C hP rfl rfl (show Int32.ofNat 1520 = (1520 : Int32) by decide) dX12_copyTo_4 ?_
  refine lv_icmp_ge (tgt := 20) hx hb dX12_copyTo_5 (by decide) (fun t5 => ?_) (fun t5 => ?_)
  · have hf := (if_pos t5).symm.trans hf
    cases hf
    exact (k (show ¬ (1 : Nat) = 0 by decide)) H locs ls hP hD hS (lv_sub hl [] rfl)
  · have hf := (if_neg t5).symm.trans hf
    refine lv_aload_n hx hb dX12_copyTo_8 rfl (lv_at hl 0 rfl) ?_
    refine lv_iload_n hx hb dX12_copyTo_9 rfl (lv_at hl 2 rfl) ?_
    refine lv_aload_n hx hb dX12_copyTo_10 rfl (lv_at hl 1 rfl) ?_
    refine lv_iload_n hx hb dX12_copyTo_11 rfl (lv_at hl 2 rfl) ?_
    obtain ⟨g1, hf⟩ := gd_s hf
    refine bk_iald (wf := mw) (q0 := 31) (n := 1520) (j := x2.toNatClampNeg) C hP rfl g1 rfl dX12_copyTo_12 ?_
    obtain ⟨g2, hf⟩ := gd_s hf
    obtain ⟨σ3, eσ3, hf⟩ := bd_s hf
    refine bk_iast (wf := mw) (σ1 := σ3) (q0 := 17) (n := 1520) (j := x2.toNatClampNeg) C hP hD hS rfl g2 rfl (by rw [eσ3]; exact mw_a17 g _ _ _) dX12_copyTo_13 (fun H locs hP hD hS => ?_)
    obtain ⟨v4, ev4, hf⟩ := bd_s hf
    refine lv_iinc (v := v4) (lv' := [(2, .int v4), (0, .ref (g.2.2 17)), (1, .ref (g.2.2 31))]) hx hb dX12_copyTo_14 hl (k := 2) rfl (by rw [ev4]; rfl) (by decide) rfl (fun ls hl => ?_)
    refine lv_goto (tgt := 2) hx hb dX12_copyTo_17 (by decide) ?_
    cases hf
    exact k0 rfl H locs ls hP hD hS (lv_sub hl [1, 2, 0] rfl)
theorem lp_X12_copyTo_17_31_h2 {N n : Nat} {x2 : Int32} {σ : Sg} {z : Nat × Int32 × Sg} (C : Cx p s m args meth c cX12_copyTo 3 none RX12 g A X) (hz : it (fun q => s_X12_copyTo_17_31_h2 N q.1 q.2) n (x2, σ) = some z) (k : Bk mw p l e rm_X12_copyTo_17_31 s m args below meth c 3 g A Q 0 0 20 [] [] z.2.2) : Bk mw p l e rm_X12_copyTo_17_31 s m args below meth c 3 g A Q 0 0 2 [(0, .ref (g.2.2 17)), (1, .ref (g.2.2 31)), (2, .int x2)] [] σ :=
  it_W (S := Int32 × Sg) (fun q => Bk mw p l e rm_X12_copyTo_17_31 s m args below meth c 3 g A Q 0 0 2 [(0, .ref (g.2.2 17)), (1, .ref (g.2.2 31)), (2, .int q.1)] [] q.2) (fun z => Bk mw p l e rm_X12_copyTo_17_31 s m args below meth c 3 g A Q 0 0 20 [] [] z.2.2) (fun q z hq k0 k => e_X12_copyTo_17_31_h2 C hq k0 k) n (x2, σ) z hz k
def f_X12_copyTo_17_31 (N : Nat) (σ : Sg) : Option (Sg) :=
(it (fun q => s_X12_copyTo_17_31_h2 N q.1 q.2) N ((0 : Int32), σ)).bind fun z5 =>
some (z5.2.2)
set_option maxHeartbeats 4000000 in
set_option maxRecDepth 100000 in
theorem b_X12_copyTo_17_31 {N : Nat} {σ : Sg} {z : Sg} (C : Cx p s m args meth c cX12_copyTo 3 none RX12 g A X) (hf : f_X12_copyTo_17_31 N σ = some z) : Bk mw p l e rm_X12_copyTo_17_31 s m args below meth c 3 g A (MQ below (qV mw g A z) args s 0 0 A) 0 0 0 [(0, .ref (g.2.2 17)), (1, .ref (g.2.2 31))] [] σ := by
  obtain ⟨hx, hb, hr, hml, hown, hts, hK, hlocks, hXX, hA, hXo⟩ := id C
  intro H locs ls hP hD hS hl
  unfold f_X12_copyTo_17_31 at hf
  refine lv_iconst (v := (0 : Int32)) hx hb dX12_copyTo_0 (by decide) ?_
  refine lv_istore_n (lv' := [(2, .int (0 : Int32)), (0, .ref (g.2.2 17)), (1, .ref (g.2.2 31))]) hx hb dX12_copyTo_1 rfl hl (by decide) rfl (fun ls hl => ?_)
  obtain ⟨z5, hz5, hf⟩ := bi_s hf
  refine lp_X12_copyTo_17_31_h2 C hz5 ?_ H locs ls hP hD hS (lv_sub hl [1, 2, 0] rfl)
  intro H locs ls hP hD hS hl
  cases hf
  exact bk_vret C hP hD hS rfl dX12_copyTo_20
theorem c_X12_copyTo_17_31 {N : Nat} {σ : Sg} {z : Sg} (hX : xOK g X) (hf : f_X12_copyTo_17_31 N σ = some z) : MetV l yX12_copyTo (Cond.code yX12_copyTo cX12_copyTo 3 none :: wsA) rm_X12_copyTo_17_31 mw g X [.ref (g.2.2 17), .ref (g.2.2 31)] σ z :=
  MetV_of hX (by decide) (Nat.le_of_ble_eq_true rfl) (fun p e s m args below meth c A C => b_X12_copyTo_17_31 C hf)
-- X12_copyTo_24_32: copyTo([I[I)V
abbrev rm_X12_copyTo_24_32 : Room := { frames := 0, cells := 0, slots := 0, locals := 0 }
def s_X12_copyTo_24_32_h2 (N : Nat) (x2 : Int32) (σ : Sg) : Option (Nat × Int32 × Sg) :=
if (8 : Int32) ≤ x2 then (some (1, 0, σ))
else (if (x2 < 0 ∨ 8 ≤ x2.toNatClampNeg) then none else
if (x2 < 0 ∨ 8 ≤ x2.toNatClampNeg) then none else
bd (wr σ 24 (x2.toNatClampNeg) (σ 32 x2.toNatClampNeg)) fun σ3 =>
bd (x2 + (1 : Int32)) fun v4 =>
some (0, v4, σ3))
set_option maxHeartbeats 4000000 in
set_option maxRecDepth 100000 in
theorem e_X12_copyTo_24_32_h2 {N : Nat} {x2 : Int32} {σ : Sg} {z : Nat × Int32 × Sg} (C : Cx p s m args meth c cX12_copyTo 3 none RX12 g A X) (hf : s_X12_copyTo_24_32_h2 N x2 σ = some z) (k0 : z.1 = 0 → Bk mw p l e rm_X12_copyTo_24_32 s m args below meth c 3 g A Q 0 0 2 [(0, .ref (g.2.2 24)), (1, .ref (g.2.2 32)), (2, .int z.2.1)] [] z.2.2) (k : ¬ z.1 = 0 → Bk mw p l e rm_X12_copyTo_24_32 s m args below meth c 3 g A Q 0 0 20 [] [] z.2.2) : Bk mw p l e rm_X12_copyTo_24_32 s m args below meth c 3 g A Q 0 0 2 [(0, .ref (g.2.2 24)), (1, .ref (g.2.2 32)), (2, .int x2)] [] σ := by
  obtain ⟨hx, hb, hr, hml, hown, hts, hK, hlocks, hXX, hA, hXo⟩ := id C
  intro H locs ls hP hD hS hl
  unfold s_X12_copyTo_24_32_h2 at hf
  refine lv_iload_n hx hb dX12_copyTo_2 rfl (lv_at hl 2 rfl) ?_
  refine lv_aload_n hx hb dX12_copyTo_3 rfl (lv_at hl 0 rfl) ?_
  refine bk_alen (wf := mw) (q0 := 24) (t0 := 0) (v := (8 : Int32)) C hP rfl rfl (show Int32.ofNat 8 = (8 : Int32) by decide) dX12_copyTo_4 ?_
  refine lv_icmp_ge (tgt := 20) hx hb dX12_copyTo_5 (by decide) (fun t5 => ?_) (fun t5 => ?_)
  · have hf := (if_pos t5).symm.trans hf
    cases hf
    exact (k (show ¬ (1 : Nat) = 0 by decide)) H locs ls hP hD hS (lv_sub hl [] rfl)
  · have hf := (if_neg t5).symm.trans hf
    refine lv_aload_n hx hb dX12_copyTo_8 rfl (lv_at hl 0 rfl) ?_
    refine lv_iload_n hx hb dX12_copyTo_9 rfl (lv_at hl 2 rfl) ?_
    refine lv_aload_n hx hb dX12_copyTo_10 rfl (lv_at hl 1 rfl) ?_
    refine lv_iload_n hx hb dX12_copyTo_11 rfl (lv_at hl 2 rfl) ?_
    obtain ⟨g1, hf⟩ := gd_s hf
    refine bk_iald (wf := mw) (q0 := 32) (n := 8) (j := x2.toNatClampNeg) C hP rfl g1 rfl dX12_copyTo_12 ?_
    obtain ⟨g2, hf⟩ := gd_s hf
    obtain ⟨σ3, eσ3, hf⟩ := bd_s hf
    refine bk_iast (wf := mw) (σ1 := σ3) (q0 := 24) (n := 8) (j := x2.toNatClampNeg) C hP hD hS rfl g2 rfl (by rw [eσ3]; exact mw_a24 g _ _ _) dX12_copyTo_13 (fun H locs hP hD hS => ?_)
    obtain ⟨v4, ev4, hf⟩ := bd_s hf
    refine lv_iinc (v := v4) (lv' := [(2, .int v4), (0, .ref (g.2.2 24)), (1, .ref (g.2.2 32))]) hx hb dX12_copyTo_14 hl (k := 2) rfl (by rw [ev4]; rfl) (by decide) rfl (fun ls hl => ?_)
    refine lv_goto (tgt := 2) hx hb dX12_copyTo_17 (by decide) ?_
    cases hf
    exact k0 rfl H locs ls hP hD hS (lv_sub hl [1, 2, 0] rfl)
theorem lp_X12_copyTo_24_32_h2 {N n : Nat} {x2 : Int32} {σ : Sg} {z : Nat × Int32 × Sg} (C : Cx p s m args meth c cX12_copyTo 3 none RX12 g A X) (hz : it (fun q => s_X12_copyTo_24_32_h2 N q.1 q.2) n (x2, σ) = some z) (k : Bk mw p l e rm_X12_copyTo_24_32 s m args below meth c 3 g A Q 0 0 20 [] [] z.2.2) : Bk mw p l e rm_X12_copyTo_24_32 s m args below meth c 3 g A Q 0 0 2 [(0, .ref (g.2.2 24)), (1, .ref (g.2.2 32)), (2, .int x2)] [] σ :=
  it_W (S := Int32 × Sg) (fun q => Bk mw p l e rm_X12_copyTo_24_32 s m args below meth c 3 g A Q 0 0 2 [(0, .ref (g.2.2 24)), (1, .ref (g.2.2 32)), (2, .int q.1)] [] q.2) (fun z => Bk mw p l e rm_X12_copyTo_24_32 s m args below meth c 3 g A Q 0 0 20 [] [] z.2.2) (fun q z hq k0 k => e_X12_copyTo_24_32_h2 C hq k0 k) n (x2, σ) z hz k
def f_X12_copyTo_24_32 (N : Nat) (σ : Sg) : Option (Sg) :=
(it (fun q => s_X12_copyTo_24_32_h2 N q.1 q.2) N ((0 : Int32), σ)).bind fun z5 =>
some (z5.2.2)
set_option maxHeartbeats 4000000 in
set_option maxRecDepth 100000 in
theorem b_X12_copyTo_24_32 {N : Nat} {σ : Sg} {z : Sg} (C : Cx p s m args meth c cX12_copyTo 3 none RX12 g A X) (hf : f_X12_copyTo_24_32 N σ = some z) : Bk mw p l e rm_X12_copyTo_24_32 s m args below meth c 3 g A (MQ below (qV mw g A z) args s 0 0 A) 0 0 0 [(0, .ref (g.2.2 24)), (1, .ref (g.2.2 32))] [] σ := by
  obtain ⟨hx, hb, hr, hml, hown, hts, hK, hlocks, hXX, hA, hXo⟩ := id C
  intro H locs ls hP hD hS hl
  unfold f_X12_copyTo_24_32 at hf
  refine lv_iconst (v := (0 : Int32)) hx hb dX12_copyTo_0 (by decide) ?_
  refine lv_istore_n (lv' := [(2, .int (0 : Int32)), (0, .ref (g.2.2 24)), (1, .ref (g.2.2 32))]) hx hb dX12_copyTo_1 rfl hl (by decide) rfl (fun ls hl => ?_)
  obtain ⟨z5, hz5, hf⟩ := bi_s hf
  refine lp_X12_copyTo_24_32_h2 C hz5 ?_ H locs ls hP hD hS (lv_sub hl [1, 2, 0] rfl)
  intro H locs ls hP hD hS hl
  cases hf
  exact bk_vret C hP hD hS rfl dX12_copyTo_20
theorem c_X12_copyTo_24_32 {N : Nat} {σ : Sg} {z : Sg} (hX : xOK g X) (hf : f_X12_copyTo_24_32 N σ = some z) : MetV l yX12_copyTo (Cond.code yX12_copyTo cX12_copyTo 3 none :: wsA) rm_X12_copyTo_24_32 mw g X [.ref (g.2.2 24), .ref (g.2.2 32)] σ z :=
  MetV_of hX (by decide) (Nat.le_of_ble_eq_true rfl) (fun p e s m args below meth c A C => b_X12_copyTo_24_32 C hf)
-- X12_copyTo_25_33: copyTo([I[I)V
abbrev rm_X12_copyTo_25_33 : Room := { frames := 0, cells := 0, slots := 0, locals := 0 }
def s_X12_copyTo_25_33_h2 (N : Nat) (x2 : Int32) (σ : Sg) : Option (Nat × Int32 × Sg) :=
if (8 : Int32) ≤ x2 then (some (1, 0, σ))
else (if (x2 < 0 ∨ 8 ≤ x2.toNatClampNeg) then none else
if (x2 < 0 ∨ 8 ≤ x2.toNatClampNeg) then none else
bd (wr σ 25 (x2.toNatClampNeg) (σ 33 x2.toNatClampNeg)) fun σ3 =>
bd (x2 + (1 : Int32)) fun v4 =>
some (0, v4, σ3))
set_option maxHeartbeats 4000000 in
set_option maxRecDepth 100000 in
theorem e_X12_copyTo_25_33_h2 {N : Nat} {x2 : Int32} {σ : Sg} {z : Nat × Int32 × Sg} (C : Cx p s m args meth c cX12_copyTo 3 none RX12 g A X) (hf : s_X12_copyTo_25_33_h2 N x2 σ = some z) (k0 : z.1 = 0 → Bk mw p l e rm_X12_copyTo_25_33 s m args below meth c 3 g A Q 0 0 2 [(0, .ref (g.2.2 25)), (1, .ref (g.2.2 33)), (2, .int z.2.1)] [] z.2.2) (k : ¬ z.1 = 0 → Bk mw p l e rm_X12_copyTo_25_33 s m args below meth c 3 g A Q 0 0 20 [] [] z.2.2) : Bk mw p l e rm_X12_copyTo_25_33 s m args below meth c 3 g A Q 0 0 2 [(0, .ref (g.2.2 25)), (1, .ref (g.2.2 33)), (2, .int x2)] [] σ := by
  obtain ⟨hx, hb, hr, hml, hown, hts, hK, hlocks, hXX, hA, hXo⟩ := id C
  intro H locs ls hP hD hS hl
  unfold s_X12_copyTo_25_33_h2 at hf
  refine lv_iload_n hx hb dX12_copyTo_2 rfl (lv_at hl 2 rfl) ?_
  refine lv_aload_n hx hb dX12_copyTo_3 rfl (lv_at hl 0 rfl) ?_
  refine bk_alen (wf := mw) (q0 := 25) (t0 := 0) (v := (8 : Int32)) C hP rfl rfl (show Int32.ofNat 8 = (8 : Int32) by decide) dX12_copyTo_4 ?_
  refine lv_icmp_ge (tgt := 20) hx hb dX12_copyTo_5 (by decide) (fun t5 => ?_) (fun t5 => ?_)
  · have hf := (if_pos t5).symm.trans hf
    cases hf
    exact (k (show ¬ (1 : Nat) = 0 by decide)) H locs ls hP hD hS (lv_sub hl [] rfl)
  · have hf := (if_neg t5).symm.trans hf
    refine lv_aload_n hx hb dX12_copyTo_8 rfl (lv_at hl 0 rfl) ?_
    refine lv_iload_n hx hb dX12_copyTo_9 rfl (lv_at hl 2 rfl) ?_
    refine lv_aload_n hx hb dX12_copyTo_10 rfl (lv_at hl 1 rfl) ?_
    refine lv_iload_n hx hb dX12_copyTo_11 rfl (lv_at hl 2 rfl) ?_
    obtain ⟨g1, hf⟩ := gd_s hf
    refine bk_iald (wf := mw) (q0 := 33) (n := 8) (j := x2.toNatClampNeg) C hP rfl g1 rfl dX12_copyTo_12 ?_
    obtain ⟨g2, hf⟩ := gd_s hf
    obtain ⟨σ3, eσ3, hf⟩ := bd_s hf
    refine bk_iast (wf := mw) (σ1 := σ3) (q0 := 25) (n := 8) (j := x2.toNatClampNeg) C hP hD hS rfl g2 rfl (by rw [eσ3]; exact mw_a25 g _ _ _) dX12_copyTo_13 (fun H locs hP hD hS => ?_)
    obtain ⟨v4, ev4, hf⟩ := bd_s hf
    refine lv_iinc (v := v4) (lv' := [(2, .int v4), (0, .ref (g.2.2 25)), (1, .ref (g.2.2 33))]) hx hb dX12_copyTo_14 hl (k := 2) rfl (by rw [ev4]; rfl) (by decide) rfl (fun ls hl => ?_)
    refine lv_goto (tgt := 2) hx hb dX12_copyTo_17 (by decide) ?_
    cases hf
    exact k0 rfl H locs ls hP hD hS (lv_sub hl [1, 2, 0] rfl)
theorem lp_X12_copyTo_25_33_h2 {N n : Nat} {x2 : Int32} {σ : Sg} {z : Nat × Int32 × Sg} (C : Cx p s m args meth c cX12_copyTo 3 none RX12 g A X) (hz : it (fun q => s_X12_copyTo_25_33_h2 N q.1 q.2) n (x2, σ) = some z) (k : Bk mw p l e rm_X12_copyTo_25_33 s m args below meth c 3 g A Q 0 0 20 [] [] z.2.2) : Bk mw p l e rm_X12_copyTo_25_33 s m args below meth c 3 g A Q 0 0 2 [(0, .ref (g.2.2 25)), (1, .ref (g.2.2 33)), (2, .int x2)] [] σ :=
  it_W (S := Int32 × Sg) (fun q => Bk mw p l e rm_X12_copyTo_25_33 s m args below meth c 3 g A Q 0 0 2 [(0, .ref (g.2.2 25)), (1, .ref (g.2.2 33)), (2, .int q.1)] [] q.2) (fun z => Bk mw p l e rm_X12_copyTo_25_33 s m args below meth c 3 g A Q 0 0 20 [] [] z.2.2) (fun q z hq k0 k => e_X12_copyTo_25_33_h2 C hq k0 k) n (x2, σ) z hz k
def f_X12_copyTo_25_33 (N : Nat) (σ : Sg) : Option (Sg) :=
(it (fun q => s_X12_copyTo_25_33_h2 N q.1 q.2) N ((0 : Int32), σ)).bind fun z5 =>
some (z5.2.2)
set_option maxHeartbeats 4000000 in
set_option maxRecDepth 100000 in
theorem b_X12_copyTo_25_33 {N : Nat} {σ : Sg} {z : Sg} (C : Cx p s m args meth c cX12_copyTo 3 none RX12 g A X) (hf : f_X12_copyTo_25_33 N σ = some z) : Bk mw p l e rm_X12_copyTo_25_33 s m args below meth c 3 g A (MQ below (qV mw g A z) args s 0 0 A) 0 0 0 [(0, .ref (g.2.2 25)), (1, .ref (g.2.2 33))] [] σ := by
  obtain ⟨hx, hb, hr, hml, hown, hts, hK, hlocks, hXX, hA, hXo⟩ := id C
  intro H locs ls hP hD hS hl
  unfold f_X12_copyTo_25_33 at hf
  refine lv_iconst (v := (0 : Int32)) hx hb dX12_copyTo_0 (by decide) ?_
  refine lv_istore_n (lv' := [(2, .int (0 : Int32)), (0, .ref (g.2.2 25)), (1, .ref (g.2.2 33))]) hx hb dX12_copyTo_1 rfl hl (by decide) rfl (fun ls hl => ?_)
  obtain ⟨z5, hz5, hf⟩ := bi_s hf
  refine lp_X12_copyTo_25_33_h2 C hz5 ?_ H locs ls hP hD hS (lv_sub hl [1, 2, 0] rfl)
  intro H locs ls hP hD hS hl
  cases hf
  exact bk_vret C hP hD hS rfl dX12_copyTo_20
theorem c_X12_copyTo_25_33 {N : Nat} {σ : Sg} {z : Sg} (hX : xOK g X) (hf : f_X12_copyTo_25_33 N σ = some z) : MetV l yX12_copyTo (Cond.code yX12_copyTo cX12_copyTo 3 none :: wsA) rm_X12_copyTo_25_33 mw g X [.ref (g.2.2 25), .ref (g.2.2 33)] σ z :=
  MetV_of hX (by decide) (Nat.le_of_ble_eq_true rfl) (fun p e s m args below meth c A C => b_X12_copyTo_25_33 C hf)
-- X12_copyTo_11_34: copyTo([I[I)V
abbrev rm_X12_copyTo_11_34 : Room := { frames := 0, cells := 0, slots := 0, locals := 0 }
def s_X12_copyTo_11_34_h2 (N : Nat) (x2 : Int32) (σ : Sg) : Option (Nat × Int32 × Sg) :=
if (3 : Int32) ≤ x2 then (some (1, 0, σ))
else (if (x2 < 0 ∨ 3 ≤ x2.toNatClampNeg) then none else
if (x2 < 0 ∨ 3 ≤ x2.toNatClampNeg) then none else
bd (wr σ 11 (x2.toNatClampNeg) (σ 34 x2.toNatClampNeg)) fun σ3 =>
bd (x2 + (1 : Int32)) fun v4 =>
some (0, v4, σ3))
set_option maxHeartbeats 4000000 in
set_option maxRecDepth 100000 in
theorem e_X12_copyTo_11_34_h2 {N : Nat} {x2 : Int32} {σ : Sg} {z : Nat × Int32 × Sg} (C : Cx p s m args meth c cX12_copyTo 3 none RX12 g A X) (hf : s_X12_copyTo_11_34_h2 N x2 σ = some z) (k0 : z.1 = 0 → Bk mw p l e rm_X12_copyTo_11_34 s m args below meth c 3 g A Q 0 0 2 [(0, .ref (g.2.2 11)), (1, .ref (g.2.2 34)), (2, .int z.2.1)] [] z.2.2) (k : ¬ z.1 = 0 → Bk mw p l e rm_X12_copyTo_11_34 s m args below meth c 3 g A Q 0 0 20 [] [] z.2.2) : Bk mw p l e rm_X12_copyTo_11_34 s m args below meth c 3 g A Q 0 0 2 [(0, .ref (g.2.2 11)), (1, .ref (g.2.2 34)), (2, .int x2)] [] σ := by
  obtain ⟨hx, hb, hr, hml, hown, hts, hK, hlocks, hXX, hA, hXo⟩ := id C
  intro H locs ls hP hD hS hl
  unfold s_X12_copyTo_11_34_h2 at hf
  refine lv_iload_n hx hb dX12_copyTo_2 rfl (lv_at hl 2 rfl) ?_
  refine lv_aload_n hx hb dX12_copyTo_3 rfl (lv_at hl 0 rfl) ?_
  refine bk_alen (wf := mw) (q0 := 11) (t0 := 0) (v := (3 : Int32)) C hP rfl rfl (show Int32.ofNat 3 = (3 : Int32) by decide) dX12_copyTo_4 ?_
  refine lv_icmp_ge (tgt := 20) hx hb dX12_copyTo_5 (by decide) (fun t5 => ?_) (fun t5 => ?_)
  · have hf := (if_pos t5).symm.trans hf
    cases hf
    exact (k (show ¬ (1 : Nat) = 0 by decide)) H locs ls hP hD hS (lv_sub hl [] rfl)
  · have hf := (if_neg t5).symm.trans hf
    refine lv_aload_n hx hb dX12_copyTo_8 rfl (lv_at hl 0 rfl) ?_
    refine lv_iload_n hx hb dX12_copyTo_9 rfl (lv_at hl 2 rfl) ?_
    refine lv_aload_n hx hb dX12_copyTo_10 rfl (lv_at hl 1 rfl) ?_
    refine lv_iload_n hx hb dX12_copyTo_11 rfl (lv_at hl 2 rfl) ?_
    obtain ⟨g1, hf⟩ := gd_s hf
    refine bk_iald (wf := mw) (q0 := 34) (n := 3) (j := x2.toNatClampNeg) C hP rfl g1 rfl dX12_copyTo_12 ?_
    obtain ⟨g2, hf⟩ := gd_s hf
    obtain ⟨σ3, eσ3, hf⟩ := bd_s hf
    refine bk_iast (wf := mw) (σ1 := σ3) (q0 := 11) (n := 3) (j := x2.toNatClampNeg) C hP hD hS rfl g2 rfl (by rw [eσ3]; exact mw_a11 g _ _ _) dX12_copyTo_13 (fun H locs hP hD hS => ?_)
    obtain ⟨v4, ev4, hf⟩ := bd_s hf
    refine lv_iinc (v := v4) (lv' := [(2, .int v4), (0, .ref (g.2.2 11)), (1, .ref (g.2.2 34))]) hx hb dX12_copyTo_14 hl (k := 2) rfl (by rw [ev4]; rfl) (by decide) rfl (fun ls hl => ?_)
    refine lv_goto (tgt := 2) hx hb dX12_copyTo_17 (by decide) ?_
    cases hf
    exact k0 rfl H locs ls hP hD hS (lv_sub hl [1, 2, 0] rfl)
theorem lp_X12_copyTo_11_34_h2 {N n : Nat} {x2 : Int32} {σ : Sg} {z : Nat × Int32 × Sg} (C : Cx p s m args meth c cX12_copyTo 3 none RX12 g A X) (hz : it (fun q => s_X12_copyTo_11_34_h2 N q.1 q.2) n (x2, σ) = some z) (k : Bk mw p l e rm_X12_copyTo_11_34 s m args below meth c 3 g A Q 0 0 20 [] [] z.2.2) : Bk mw p l e rm_X12_copyTo_11_34 s m args below meth c 3 g A Q 0 0 2 [(0, .ref (g.2.2 11)), (1, .ref (g.2.2 34)), (2, .int x2)] [] σ :=
  it_W (S := Int32 × Sg) (fun q => Bk mw p l e rm_X12_copyTo_11_34 s m args below meth c 3 g A Q 0 0 2 [(0, .ref (g.2.2 11)), (1, .ref (g.2.2 34)), (2, .int q.1)] [] q.2) (fun z => Bk mw p l e rm_X12_copyTo_11_34 s m args below meth c 3 g A Q 0 0 20 [] [] z.2.2) (fun q z hq k0 k => e_X12_copyTo_11_34_h2 C hq k0 k) n (x2, σ) z hz k
def f_X12_copyTo_11_34 (N : Nat) (σ : Sg) : Option (Sg) :=
(it (fun q => s_X12_copyTo_11_34_h2 N q.1 q.2) N ((0 : Int32), σ)).bind fun z5 =>
some (z5.2.2)
set_option maxHeartbeats 4000000 in
set_option maxRecDepth 100000 in
theorem b_X12_copyTo_11_34 {N : Nat} {σ : Sg} {z : Sg} (C : Cx p s m args meth c cX12_copyTo 3 none RX12 g A X) (hf : f_X12_copyTo_11_34 N σ = some z) : Bk mw p l e rm_X12_copyTo_11_34 s m args below meth c 3 g A (MQ below (qV mw g A z) args s 0 0 A) 0 0 0 [(0, .ref (g.2.2 11)), (1, .ref (g.2.2 34))] [] σ := by
  obtain ⟨hx, hb, hr, hml, hown, hts, hK, hlocks, hXX, hA, hXo⟩ := id C
  intro H locs ls hP hD hS hl
  unfold f_X12_copyTo_11_34 at hf
  refine lv_iconst (v := (0 : Int32)) hx hb dX12_copyTo_0 (by decide) ?_
  refine lv_istore_n (lv' := [(2, .int (0 : Int32)), (0, .ref (g.2.2 11)), (1, .ref (g.2.2 34))]) hx hb dX12_copyTo_1 rfl hl (by decide) rfl (fun ls hl => ?_)
  obtain ⟨z5, hz5, hf⟩ := bi_s hf
  refine lp_X12_copyTo_11_34_h2 C hz5 ?_ H locs ls hP hD hS (lv_sub hl [1, 2, 0] rfl)
  intro H locs ls hP hD hS hl
  cases hf
  exact bk_vret C hP hD hS rfl dX12_copyTo_20
theorem c_X12_copyTo_11_34 {N : Nat} {σ : Sg} {z : Sg} (hX : xOK g X) (hf : f_X12_copyTo_11_34 N σ = some z) : MetV l yX12_copyTo (Cond.code yX12_copyTo cX12_copyTo 3 none :: wsA) rm_X12_copyTo_11_34 mw g X [.ref (g.2.2 11), .ref (g.2.2 34)] σ z :=
  MetV_of hX (by decide) (Nat.le_of_ble_eq_true rfl) (fun p e s m args below meth c A C => b_X12_copyTo_11_34 C hf)
-- X12_restore: restore()Z
abbrev rm_X12_restore : Room := { frames := 1, cells := 0, slots := 0, locals := 23 }
theorem nd_X12_restore : yX12_restore.cls ≠ "java/lang/invoke/MethodHandle" ∧ yX12_restore.cls ≠ "java/lang/invoke/VarHandle" ∧ (parseMethodDescriptor yX12_restore.desc).map (fun d => d.parameters.length) = some 0 := by decide +kernel
def s_X12_restore_h74 (N : Nat) (x1 : Int32) (σ : Sg) : Option (Nat × Int32 × Sg) :=
if (8 : Int32) ≤ x1 then (some (1, 0, σ))
else (if (x1 < 0 ∨ 8 ≤ x1.toNatClampNeg) then none else
if (x1 < 0 ∨ 8 ≤ x1.toNatClampNeg) then none else
bd (wr σ 27 (x1.toNatClampNeg) (vp_nar .boolean (σ 35 x1.toNatClampNeg))) fun σ3 =>
bd (x1 + (1 : Int32)) fun v4 =>
some (0, v4, σ3))
set_option maxHeartbeats 4000000 in
set_option maxRecDepth 100000 in
theorem e_X12_restore_h74 {N : Nat} {x1 : Int32} {σ : Sg} {z : Nat × Int32 × Sg} (C : Cx p s m args meth c cX12_restore 2 (some .boolean) RX12 g A X) (hf : s_X12_restore_h74 N x1 σ = some z) (k0 : z.1 = 0 → Bk mw p l e rm_X12_restore s m args below meth c 2 g A Q 0 0 74 [(0, .ref (g.2.2 0)), (1, .int z.2.1)] [] z.2.2) (k : ¬ z.1 = 0 → Bk mw p l e rm_X12_restore s m args below meth c 2 g A Q 0 0 98 [(0, .ref (g.2.2 0))] [] z.2.2) : Bk mw p l e rm_X12_restore s m args below meth c 2 g A Q 0 0 74 [(0, .ref (g.2.2 0)), (1, .int x1)] [] σ := by
  obtain ⟨hx, hb, hr, hml, hown, hts, hK, hlocks, hXX, hA, hXo⟩ := id C
  intro H locs ls hP hD hS hl
  unfold s_X12_restore_h74 at hf
  refine lv_iload_n hx hb dX12_restore_74 rfl (lv_at hl 1 rfl) ?_
  refine lv_bipush (v := (8 : Int32)) hx hb dX12_restore_75 (by decide) ?_
  refine lv_icmp_ge (tgt := 98) hx hb dX12_restore_77 (by decide) (fun t77 => ?_) (fun t77 => ?_)
  · have hf := (if_pos t77).symm.trans hf
    cases hf
    exact (k (show ¬ (1 : Nat) = 0 by decide)) H locs ls hP hD hS (lv_sub hl [0] rfl)
  · have hf := (if_neg t77).symm.trans hf
    refine lv_aload_n hx hb dX12_restore_80 rfl (lv_at hl 0 rfl) ?_
    refine bk_get (wf := mw) (q0 := 0) (ci := 11) (k := 43) (v := .ref (g.2.2 27)) C hP wl_X12 rfl rfl (by decide) wa_184 rfl rfl dX12_restore_81 ?_
    refine lv_iload_n hx hb dX12_restore_84 rfl (lv_at hl 1 rfl) ?_
    refine lv_aload_n hx hb dX12_restore_85 rfl (lv_at hl 0 rfl) ?_
    refine bk_get (wf := mw) (q0 := 0) (ci := 11) (k := 56) (v := .ref (g.2.2 35)) C hP wl_X12 rfl rfl (by decide) wa_192 rfl rfl dX12_restore_86 ?_
    refine lv_iload_n hx hb dX12_restore_89 rfl (lv_at hl 1 rfl) ?_
    obtain ⟨g1, hf⟩ := gd_s hf
    refine bk_zald (wf := mw) (q0 := 35) (n := 8) (j := x1.toNatClampNeg) C hP rfl g1 rfl dX12_restore_90 ?_
    obtain ⟨g2, hf⟩ := gd_s hf
    obtain ⟨σ3, eσ3, hf⟩ := bd_s hf
    refine bk_zast (wf := mw) (σ1 := σ3) (q0 := 27) (n := 8) (j := x1.toNatClampNeg) C hP hD hS rfl g2 rfl (by rw [eσ3]; exact mw_a27 g _ _ _) dX12_restore_91 (fun H locs hP hD hS => ?_)
    obtain ⟨v4, ev4, hf⟩ := bd_s hf
    refine lv_iinc (v := v4) (lv' := [(1, .int v4), (0, .ref (g.2.2 0))]) hx hb dX12_restore_92 hl (k := 1) rfl (by rw [ev4]; rfl) (by decide) rfl (fun ls hl => ?_)
    refine lv_goto (tgt := 74) hx hb dX12_restore_95 (by decide) ?_
    cases hf
    exact k0 rfl H locs ls hP hD hS (lv_sub hl [1, 0] rfl)
theorem lp_X12_restore_h74 {N n : Nat} {x1 : Int32} {σ : Sg} {z : Nat × Int32 × Sg} (C : Cx p s m args meth c cX12_restore 2 (some .boolean) RX12 g A X) (hz : it (fun q => s_X12_restore_h74 N q.1 q.2) n (x1, σ) = some z) (k : Bk mw p l e rm_X12_restore s m args below meth c 2 g A Q 0 0 98 [(0, .ref (g.2.2 0))] [] z.2.2) : Bk mw p l e rm_X12_restore s m args below meth c 2 g A Q 0 0 74 [(0, .ref (g.2.2 0)), (1, .int x1)] [] σ :=
  it_W (S := Int32 × Sg) (fun q => Bk mw p l e rm_X12_restore s m args below meth c 2 g A Q 0 0 74 [(0, .ref (g.2.2 0)), (1, .int q.1)] [] q.2) (fun z => Bk mw p l e rm_X12_restore s m args below meth c 2 g A Q 0 0 98 [(0, .ref (g.2.2 0))] [] z.2.2) (fun q z hq k0 k => e_X12_restore_h74 C hq k0 k) n (x1, σ) z hz k
def f_X12_restore (N : Nat) (σ : Sg) : Option (Int32 × Sg) :=
bd (wr σ 0 2 (0 : Int32)) fun σ5 =>
if (σ5 0 48) = 0 then (some ((0 : Int32), σ5))
else (bd (wr σ5 0 30 (σ5 0 49)) fun σ6 =>
bd (wr σ6 0 31 (σ6 0 50)) fun σ7 =>
(f_X12_unpack_30 N (0 : Int32) σ7).bind fun q8 =>
(f_X12_copyTo_17_31 N q8).bind fun q9 =>
(f_X12_copyTo_24_32 N q9).bind fun q10 =>
(f_X12_copyTo_25_33 N q10).bind fun q11 =>
(it (fun q => s_X12_restore_h74 N q.1 q.2) N ((0 : Int32), q11)).bind fun z12 =>
(f_X12_copyTo_11_34 N (z12.2.2)).bind fun q13 =>
some ((1 : Int32), q13))
set_option maxHeartbeats 4000000 in
set_option maxRecDepth 100000 in
theorem b_X12_restore {N : Nat} {σ : Sg} {z : Int32 × Sg} (C : Cx p s m args meth c cX12_restore 2 (some .boolean) RX12 g A X) (hf : f_X12_restore N σ = some z) : Bk mw p l e rm_X12_restore s m args below meth c 2 g A (MQ below (qI mw g A z.1 z.2) args s 0 0 A) 0 0 0 [(0, .ref (g.2.2 0))] [] σ := by
  obtain ⟨hx, hb, hr, hml, hown, hts, hK, hlocks, hXX, hA, hXo⟩ := id C
  intro H locs ls hP hD hS hl
  unfold f_X12_restore at hf
  refine lv_aload_n hx hb dX12_restore_0 rfl (lv_at hl 0 rfl) ?_
  refine lv_iconst (v := (0 : Int32)) hx hb dX12_restore_1 (by decide) ?_
  obtain ⟨σ5, eσ5, hf⟩ := bd_s hf
  refine bk_put (wf := mw) (σ1 := σ5) (q0 := 0) (ci := 11) (k := 2) (v := .int (0 : Int32)) C hP hD hS wl_X12 tyX12_ok nmX12 rfl rfl (by decide) wa_205 rfl rfl rfl rfl rfl (Nat.le_of_ble_eq_true rfl) (by rw [eσ5]; exact mw_p0_2 g _ _) dX12_restore_2 (fun H locs hP hD hS => ?_)
  refine lv_aload_n hx hb dX12_restore_5 rfl (lv_at hl 0 rfl) ?_
  refine bk_get (wf := mw) (q0 := 0) (ci := 11) (k := 48) (v := .int (σ5 0 48)) C hP wl_X12 rfl rfl (by decide) wa_617 rfl rfl dX12_restore_6 ?_
  refine lv_if_ne (tgt := 14) hx hb dX12_restore_9 (by decide) (fun t9 => ?_) (fun t9 => ?_)
  · have hf := (if_neg t9).symm.trans hf
    refine lv_aload_n hx hb dX12_restore_14 rfl (lv_at hl 0 rfl) ?_
    refine lv_aload_n hx hb dX12_restore_15 rfl (lv_at hl 0 rfl) ?_
    refine bk_get (wf := mw) (q0 := 0) (ci := 11) (k := 49) (v := .int (σ5 0 49)) C hP wl_X12 rfl rfl (by decide) wa_1442 rfl rfl dX12_restore_16 ?_
    obtain ⟨σ6, eσ6, hf⟩ := bd_s hf
    refine bk_put (wf := mw) (σ1 := σ6) (q0 := 0) (ci := 11) (k := 30) (v := .int (σ5 0 49)) C hP hD hS wl_X12 tyX12_ok nmX12 rfl rfl (by decide) wa_615 rfl rfl rfl rfl rfl (Nat.le_of_ble_eq_true rfl) (by rw [eσ6]; exact mw_p0_30 g _ _) dX12_restore_19 (fun H locs hP hD hS => ?_)
    refine lv_aload_n hx hb dX12_restore_22 rfl (lv_at hl 0 rfl) ?_
    refine lv_aload_n hx hb dX12_restore_23 rfl (lv_at hl 0 rfl) ?_
    refine bk_get (wf := mw) (q0 := 0) (ci := 11) (k := 50) (v := .int (σ6 0 50)) C hP wl_X12 rfl rfl (by decide) wa_1443 rfl rfl dX12_restore_24 ?_
    obtain ⟨σ7, eσ7, hf⟩ := bd_s hf
    refine bk_put (wf := mw) (σ1 := σ7) (q0 := 0) (ci := 11) (k := 31) (v := .int (σ6 0 50)) C hP hD hS wl_X12 tyX12_ok nmX12 rfl rfl (by decide) wa_616 rfl rfl rfl rfl rfl (Nat.le_of_ble_eq_true rfl) (by rw [eσ7]; exact mw_p0_31 g _ _) dX12_restore_27 (fun H locs hP hD hS => ?_)
    refine lv_aload_n hx hb dX12_restore_30 rfl (lv_at hl 0 rfl) ?_
    refine lv_aload_n hx hb dX12_restore_31 rfl (lv_at hl 0 rfl) ?_
    refine bk_get (wf := mw) (q0 := 0) (ci := 11) (k := 51) (v := .ref (g.2.2 30)) C hP wl_X12 rfl rfl (by decide) wa_187 rfl rfl dX12_restore_32 ?_
    refine lv_iconst (v := (0 : Int32)) hx hb dX12_restore_35 (by decide) ?_
    obtain ⟨q8, hq8, hf⟩ := bi_s hf
    refine bk_VV (wf := mw) (q0 := 0) (ci := 11) (rest := []) [.ref (g.2.2 30), .int (0 : Int32)] C hP hD hS hl.1 (c_X12_unpack_30 hXo hq8) (cwA_V 2 hts wa_1010 wa_1007 wa_1008 wa_1009 wa_5 rfl rfl nd_X12_unpack ⟨Nat.le_of_ble_eq_true rfl, Nat.le_of_ble_eq_true rfl⟩) rfl rfl rfl rfl (Nat.le_of_ble_eq_true rfl) dX12_restore_36 ⟨Nat.le_of_ble_eq_true rfl, Nat.le_of_ble_eq_true rfl⟩ (fun H locs hP hD hS => ?_)
    refine lv_aload_n hx hb dX12_restore_39 rfl (lv_at hl 0 rfl) ?_
    refine bk_get (wf := mw) (q0 := 0) (ci := 11) (k := 27) (v := .ref (g.2.2 17)) C hP wl_X12 rfl rfl (by decide) wa_172 rfl rfl dX12_restore_40 ?_
    refine lv_aload_n hx hb dX12_restore_43 rfl (lv_at hl 0 rfl) ?_
    refine bk_get (wf := mw) (q0 := 0) (ci := 11) (k := 52) (v := .ref (g.2.2 31)) C hP wl_X12 rfl rfl (by decide) wa_188 rfl rfl dX12_restore_44 ?_
    obtain ⟨q9, hq9, hf⟩ := bi_s hf
    refine bk_SV (wf := mw) (rest := []) [.ref (g.2.2 17), .ref (g.2.2 31)] C hP hD hS hl.1 (c_X12_copyTo_17_31 hXo hq9) (cwA_S 2 hts wa_1446 wa_1444 wa_1445 wa_5 rfl rfl nd_X12_copyTo ⟨Nat.le_of_ble_eq_true rfl, Nat.le_of_ble_eq_true rfl⟩) rfl rfl (Nat.le_of_ble_eq_true rfl) dX12_restore_47 ⟨Nat.le_of_ble_eq_true rfl, Nat.le_of_ble_eq_true rfl⟩ (fun H locs hP hD hS => ?_)
    refine lv_aload_n hx hb dX12_restore_50 rfl (lv_at hl 0 rfl) ?_
    refine bk_get (wf := mw) (q0 := 0) (ci := 11) (k := 40) (v := .ref (g.2.2 24)) C hP wl_X12 rfl rfl (by decide) wa_180 rfl rfl dX12_restore_51 ?_
    refine lv_aload_n hx hb dX12_restore_54 rfl (lv_at hl 0 rfl) ?_
    refine bk_get (wf := mw) (q0 := 0) (ci := 11) (k := 53) (v := .ref (g.2.2 32)) C hP wl_X12 rfl rfl (by decide) wa_189 rfl rfl dX12_restore_55 ?_
    obtain ⟨q10, hq10, hf⟩ := bi_s hf
    refine bk_SV (wf := mw) (rest := []) [.ref (g.2.2 24), .ref (g.2.2 32)] C hP hD hS hl.1 (c_X12_copyTo_24_32 hXo hq10) (cwA_S 2 hts wa_1446 wa_1444 wa_1445 wa_5 rfl rfl nd_X12_copyTo ⟨Nat.le_of_ble_eq_true rfl, Nat.le_of_ble_eq_true rfl⟩) rfl rfl (Nat.le_of_ble_eq_true rfl) dX12_restore_58 ⟨Nat.le_of_ble_eq_true rfl, Nat.le_of_ble_eq_true rfl⟩ (fun H locs hP hD hS => ?_)
    refine lv_aload_n hx hb dX12_restore_61 rfl (lv_at hl 0 rfl) ?_
    refine bk_get (wf := mw) (q0 := 0) (ci := 11) (k := 41) (v := .ref (g.2.2 25)) C hP wl_X12 rfl rfl (by decide) wa_181 rfl rfl dX12_restore_62 ?_
    refine lv_aload_n hx hb dX12_restore_65 rfl (lv_at hl 0 rfl) ?_
    refine bk_get (wf := mw) (q0 := 0) (ci := 11) (k := 54) (v := .ref (g.2.2 33)) C hP wl_X12 rfl rfl (by decide) wa_190 rfl rfl dX12_restore_66 ?_
    obtain ⟨q11, hq11, hf⟩ := bi_s hf
    refine bk_SV (wf := mw) (rest := []) [.ref (g.2.2 25), .ref (g.2.2 33)] C hP hD hS hl.1 (c_X12_copyTo_25_33 hXo hq11) (cwA_S 2 hts wa_1446 wa_1444 wa_1445 wa_5 rfl rfl nd_X12_copyTo ⟨Nat.le_of_ble_eq_true rfl, Nat.le_of_ble_eq_true rfl⟩) rfl rfl (Nat.le_of_ble_eq_true rfl) dX12_restore_69 ⟨Nat.le_of_ble_eq_true rfl, Nat.le_of_ble_eq_true rfl⟩ (fun H locs hP hD hS => ?_)
    refine lv_iconst (v := (0 : Int32)) hx hb dX12_restore_72 (by decide) ?_
    refine lv_istore_n (lv' := [(1, .int (0 : Int32)), (0, .ref (g.2.2 0))]) hx hb dX12_restore_73 rfl hl (by decide) rfl (fun ls hl => ?_)
    obtain ⟨z12, hz12, hf⟩ := bi_s hf
    refine lp_X12_restore_h74 C hz12 ?_ H locs ls hP hD hS (lv_sub hl [1, 0] rfl)
    intro H locs ls hP hD hS hl
    refine lv_aload_n hx hb dX12_restore_98 rfl (lv_at hl 0 rfl) ?_
    refine bk_get (wf := mw) (q0 := 0) (ci := 11) (k := 11) (v := .ref (g.2.2 11)) C hP wl_X12 rfl rfl (by decide) wa_165 rfl rfl dX12_restore_99 ?_
    refine lv_aload_n hx hb dX12_restore_102 rfl (lv_at hl 0 rfl) ?_
    refine bk_get (wf := mw) (q0 := 0) (ci := 11) (k := 55) (v := .ref (g.2.2 34)) C hP wl_X12 rfl rfl (by decide) wa_191 rfl rfl dX12_restore_103 ?_
    obtain ⟨q13, hq13, hf⟩ := bi_s hf
    refine bk_SV (wf := mw) (rest := []) [.ref (g.2.2 11), .ref (g.2.2 34)] C hP hD hS hl.1 (c_X12_copyTo_11_34 hXo hq13) (cwA_S 2 hts wa_1446 wa_1444 wa_1445 wa_5 rfl rfl nd_X12_copyTo ⟨Nat.le_of_ble_eq_true rfl, Nat.le_of_ble_eq_true rfl⟩) rfl rfl (Nat.le_of_ble_eq_true rfl) dX12_restore_106 ⟨Nat.le_of_ble_eq_true rfl, Nat.le_of_ble_eq_true rfl⟩ (fun H locs hP hD hS => ?_)
    refine lv_iconst (v := (1 : Int32)) hx hb dX12_restore_109 (by decide) ?_
    cases hf
    exact bk_zret C hP hD hS (by decide) rfl dX12_restore_110
  · have hf := (if_pos t9).symm.trans hf
    refine lv_iconst (v := (0 : Int32)) hx hb dX12_restore_12 (by decide) ?_
    cases hf
    exact bk_zret C hP hD hS (by decide) rfl dX12_restore_13
theorem c_X12_restore {N : Nat} {σ : Sg} {z : Int32 × Sg} (hX : xOK g X) (hf : f_X12_restore N σ = some z) : MetI l yX12_restore (Cond.code yX12_restore cX12_restore 2 (some .boolean) :: wsA) rm_X12_restore mw g X [.ref (g.2.2 0)] σ z.1 z.2 :=
  MetI_of hX (by decide) (Nat.le_of_ble_eq_true rfl) (fun p e s m args below meth c A C => b_X12_restore C hf)
end GEN
