section GEN
variable {p : Program} {l : Launch} {e : Env} {s : State} {m : MethodId} {args : Array Value} {below : List Frame} {meth : Method} {c : Code} {g : WG} {A : Nat → Prop} {X : Xt} {Q : State → Prop}
-- X12_pack_21: pack([II)V
abbrev rm_X12_pack_21 : Room := { frames := 0, cells := 0, slots := 0, locals := 0 }
def s_X12_pack_21_h18 (N : Nat) (x2 : Int32) (x3 : Int32) (σ : Sg) : Option (Nat × Int32 × Sg) :=
if (9 : Int32) ≤ x3 then (some (1, 0, σ))
else (if (x3 < 0 ∨ 9 ≤ x3.toNatClampNeg) then none else
if (((x2 + (2 : Int32)) + x3) < 0 ∨ 38 ≤ ((x2 + (2 : Int32)) + x3).toNatClampNeg) then none else
bd (wr σ 21 (((x2 + (2 : Int32)) + x3).toNatClampNeg) (σ 13 x3.toNatClampNeg)) fun σ3 =>
if (x3 < 0 ∨ 9 ≤ x3.toNatClampNeg) then none else
if ((((x2 + (2 : Int32)) + (9 : Int32)) + x3) < 0 ∨ 38 ≤ (((x2 + (2 : Int32)) + (9 : Int32)) + x3).toNatClampNeg) then none else
bd (wr σ3 21 ((((x2 + (2 : Int32)) + (9 : Int32)) + x3).toNatClampNeg) (σ3 14 x3.toNatClampNeg)) fun σ6 =>
if (x3 < 0 ∨ 9 ≤ x3.toNatClampNeg) then none else
if ((((x2 + (2 : Int32)) + (18 : Int32)) + x3) < 0 ∨ 38 ≤ (((x2 + (2 : Int32)) + (18 : Int32)) + x3).toNatClampNeg) then none else
bd (wr σ6 21 ((((x2 + (2 : Int32)) + (18 : Int32)) + x3).toNatClampNeg) (σ6 15 x3.toNatClampNeg)) fun σ9 =>
if (x3 < 0 ∨ 9 ≤ x3.toNatClampNeg) then none else
if ((((x2 + (2 : Int32)) + (27 : Int32)) + x3) < 0 ∨ 38 ≤ (((x2 + (2 : Int32)) + (27 : Int32)) + x3).toNatClampNeg) then none else
bd (wr σ9 21 ((((x2 + (2 : Int32)) + (27 : Int32)) + x3).toNatClampNeg) (σ9 16 x3.toNatClampNeg)) fun σ12 =>
bd (x3 + (1 : Int32)) fun v13 =>
some (0, v13, σ12))
set_option maxHeartbeats 4000000 in
set_option maxRecDepth 100000 in
theorem e_X12_pack_21_h18 {N : Nat} {x2 : Int32} {x3 : Int32} {σ : Sg} {z : Nat × Int32 × Sg} (C : Cx p s m args meth c cX12_pack 4 none RX12 g A X) (hf : s_X12_pack_21_h18 N x2 x3 σ = some z) (k0 : z.1 = 0 → Bk mw p l e rm_X12_pack_21 s m args below meth c 4 g A Q 0 0 18 [(0, .ref (g.2.2 0)), (1, .ref (g.2.2 21)), (2, .int x2), (3, .int z.2.1)] [] z.2.2) (k : ¬ z.1 = 0 → Bk mw p l e rm_X12_pack_21 s m args below meth c 4 g A Q 0 0 91 [] [] z.2.2) : Bk mw p l e rm_X12_pack_21 s m args below meth c 4 g A Q 0 0 18 [(0, .ref (g.2.2 0)), (1, .ref (g.2.2 21)), (2, .int x2), (3, .int x3)] [] σ := by
  obtain ⟨hx, hb, hr, hml, hown, hts, hK, hlocks, hXX, hA, hXo⟩ := id C
  intro H locs ls hP hD hS hl
  unfold s_X12_pack_21_h18 at hf
  refine lv_iload_n hx hb dX12_pack_18 rfl (lv_at hl 3 rfl) ?_
  refine lv_bipush (v := (9 : Int32)) hx hb dX12_pack_19 (by decide) ?_
  refine lv_icmp_ge (tgt := 91) hx hb dX12_pack_21 (by decide) (fun t21 => ?_) (fun t21 => ?_)
  · have hf := (if_pos t21).symm.trans hf
    cases hf
    exact (k (show ¬ (1 : Nat) = 0 by decide)) H locs ls hP hD hS (lv_sub hl [] rfl)
  · have hf := (if_neg t21).symm.trans hf
    refine lv_aload_n hx hb dX12_pack_24 rfl (lv_at hl 1 rfl) ?_
    refine lv_iload_n hx hb dX12_pack_25 rfl (lv_at hl 2 rfl) ?_
    refine lv_iconst (v := (2 : Int32)) hx hb dX12_pack_26 (by decide) ?_
    refine lv_iadd hx hb dX12_pack_27 ?_
    refine lv_iload_n hx hb dX12_pack_28 rfl (lv_at hl 3 rfl) ?_
    refine lv_iadd hx hb dX12_pack_29 ?_
    refine lv_aload_n hx hb dX12_pack_30 rfl (lv_at hl 0 rfl) ?_
    refine bk_get (wf := mw) (q0 := 0) (ci := 11) (k := 23) (v := .ref (g.2.2 13)) C hP wl_X12 rfl rfl (by decide) wa_168 rfl rfl dX12_pack_31 ?_
    refine lv_iload_n hx hb dX12_pack_34 rfl (lv_at hl 3 rfl) ?_
    obtain ⟨g1, hf⟩ := gd_s hf
    refine bk_iald (wf := mw) (q0 := 13) (n := 9) (j := x3.toNatClampNeg) C hP rfl g1 rfl dX12_pack_35 ?_
    obtain ⟨g2, hf⟩ := gd_s hf
    obtain ⟨σ3, eσ3, hf⟩ := bd_s hf
    refine bk_iast (wf := mw) (σ1 := σ3) (q0 := 21) (n := 38) (j := ((x2 + (2 : Int32)) + x3).toNatClampNeg) C hP hD hS rfl g2 rfl (by rw [eσ3]; exact mw_a21 g _ _ _) dX12_pack_36 (fun H locs hP hD hS => ?_)
    refine lv_aload_n hx hb dX12_pack_37 rfl (lv_at hl 1 rfl) ?_
    refine lv_iload_n hx hb dX12_pack_38 rfl (lv_at hl 2 rfl) ?_
    refine lv_iconst (v := (2 : Int32)) hx hb dX12_pack_39 (by decide) ?_
    refine lv_iadd hx hb dX12_pack_40 ?_
    refine lv_bipush (v := (9 : Int32)) hx hb dX12_pack_41 (by decide) ?_
    refine lv_iadd hx hb dX12_pack_43 ?_
    refine lv_iload_n hx hb dX12_pack_44 rfl (lv_at hl 3 rfl) ?_
    refine lv_iadd hx hb dX12_pack_45 ?_
    refine lv_aload_n hx hb dX12_pack_46 rfl (lv_at hl 0 rfl) ?_
    refine bk_get (wf := mw) (q0 := 0) (ci := 11) (k := 24) (v := .ref (g.2.2 14)) C hP wl_X12 rfl rfl (by decide) wa_169 rfl rfl dX12_pack_47 ?_
    refine lv_iload_n hx hb dX12_pack_50 rfl (lv_at hl 3 rfl) ?_
    obtain ⟨g4, hf⟩ := gd_s hf
    refine bk_iald (wf := mw) (q0 := 14) (n := 9) (j := x3.toNatClampNeg) C hP rfl g4 rfl dX12_pack_51 ?_
    obtain ⟨g5, hf⟩ := gd_s hf
    obtain ⟨σ6, eσ6, hf⟩ := bd_s hf
    refine bk_iast (wf := mw) (σ1 := σ6) (q0 := 21) (n := 38) (j := (((x2 + (2 : Int32)) + (9 : Int32)) + x3).toNatClampNeg) C hP hD hS rfl g5 rfl (by rw [eσ6]; exact mw_a21 g _ _ _) dX12_pack_52 (fun H locs hP hD hS => ?_)
    refine lv_aload_n hx hb dX12_pack_53 rfl (lv_at hl 1 rfl) ?_
    refine lv_iload_n hx hb dX12_pack_54 rfl (lv_at hl 2 rfl) ?_
    refine lv_iconst (v := (2 : Int32)) hx hb dX12_pack_55 (by decide) ?_
    refine lv_iadd hx hb dX12_pack_56 ?_
    refine lv_bipush (v := (18 : Int32)) hx hb dX12_pack_57 (by decide) ?_
    refine lv_iadd hx hb dX12_pack_59 ?_
    refine lv_iload_n hx hb dX12_pack_60 rfl (lv_at hl 3 rfl) ?_
    refine lv_iadd hx hb dX12_pack_61 ?_
    refine lv_aload_n hx hb dX12_pack_62 rfl (lv_at hl 0 rfl) ?_
    refine bk_get (wf := mw) (q0 := 0) (ci := 11) (k := 25) (v := .ref (g.2.2 15)) C hP wl_X12 rfl rfl (by decide) wa_170 rfl rfl dX12_pack_63 ?_
    refine lv_iload_n hx hb dX12_pack_66 rfl (lv_at hl 3 rfl) ?_
    obtain ⟨g7, hf⟩ := gd_s hf
    refine bk_iald (wf := mw) (q0 := 15) (n := 9) (j := x3.toNatClampNeg) C hP rfl g7 rfl dX12_pack_67 ?_
    obtain ⟨g8, hf⟩ := gd_s hf
    obtain ⟨σ9, eσ9, hf⟩ := bd_s hf
    refine bk_iast (wf := mw) (σ1 := σ9) (q0 := 21) (n := 38) (j := (((x2 + (2 : Int32)) + (18 : Int32)) + x3).toNatClampNeg) C hP hD hS rfl g8 rfl (by rw [eσ9]; exact mw_a21 g _ _ _) dX12_pack_68 (fun H locs hP hD hS => ?_)
    refine lv_aload_n hx hb dX12_pack_69 rfl (lv_at hl 1 rfl) ?_
    refine lv_iload_n hx hb dX12_pack_70 rfl (lv_at hl 2 rfl) ?_
    refine lv_iconst (v := (2 : Int32)) hx hb dX12_pack_71 (by decide) ?_
    refine lv_iadd hx hb dX12_pack_72 ?_
    refine lv_bipush (v := (27 : Int32)) hx hb dX12_pack_73 (by decide) ?_
    refine lv_iadd hx hb dX12_pack_75 ?_
    refine lv_iload_n hx hb dX12_pack_76 rfl (lv_at hl 3 rfl) ?_
    refine lv_iadd hx hb dX12_pack_77 ?_
    refine lv_aload_n hx hb dX12_pack_78 rfl (lv_at hl 0 rfl) ?_
    refine bk_get (wf := mw) (q0 := 0) (ci := 11) (k := 26) (v := .ref (g.2.2 16)) C hP wl_X12 rfl rfl (by decide) wa_171 rfl rfl dX12_pack_79 ?_
    refine lv_iload_n hx hb dX12_pack_82 rfl (lv_at hl 3 rfl) ?_
    obtain ⟨g10, hf⟩ := gd_s hf
    refine bk_iald (wf := mw) (q0 := 16) (n := 9) (j := x3.toNatClampNeg) C hP rfl g10 rfl dX12_pack_83 ?_
    obtain ⟨g11, hf⟩ := gd_s hf
    obtain ⟨σ12, eσ12, hf⟩ := bd_s hf
    refine bk_iast (wf := mw) (σ1 := σ12) (q0 := 21) (n := 38) (j := (((x2 + (2 : Int32)) + (27 : Int32)) + x3).toNatClampNeg) C hP hD hS rfl g11 rfl (by rw [eσ12]; exact mw_a21 g _ _ _) dX12_pack_84 (fun H locs hP hD hS => ?_)
    obtain ⟨v13, ev13, hf⟩ := bd_s hf
    refine lv_iinc (v := v13) (lv' := [(3, .int v13), (0, .ref (g.2.2 0)), (1, .ref (g.2.2 21)), (2, .int x2)]) hx hb dX12_pack_85 hl (k := 3) rfl (by rw [ev13]; rfl) (by decide) rfl (fun ls hl => ?_)
    refine lv_goto (tgt := 18) hx hb dX12_pack_88 (by decide) ?_
    cases hf
    exact k0 rfl H locs ls hP hD hS (lv_sub hl [1, 2, 3, 0] rfl)
theorem lp_X12_pack_21_h18 {N : Nat} {n : Nat} {x2 : Int32} {x3 : Int32} {σ : Sg} {z : Nat × Int32 × Sg} (C : Cx p s m args meth c cX12_pack 4 none RX12 g A X) (hz : it (fun q => s_X12_pack_21_h18 N x2 q.1 q.2) n (x3, σ) = some z) (k : Bk mw p l e rm_X12_pack_21 s m args below meth c 4 g A Q 0 0 91 [] [] z.2.2) : Bk mw p l e rm_X12_pack_21 s m args below meth c 4 g A Q 0 0 18 [(0, .ref (g.2.2 0)), (1, .ref (g.2.2 21)), (2, .int x2), (3, .int x3)] [] σ :=
  it_W (S := Int32 × Sg) (fun q => Bk mw p l e rm_X12_pack_21 s m args below meth c 4 g A Q 0 0 18 [(0, .ref (g.2.2 0)), (1, .ref (g.2.2 21)), (2, .int x2), (3, .int q.1)] [] q.2) (fun z => Bk mw p l e rm_X12_pack_21 s m args below meth c 4 g A Q 0 0 91 [] [] z.2.2) (fun q z hq k0 k => e_X12_pack_21_h18 C hq k0 k) n (x3, σ) z hz k
def f_X12_pack_21 (N : Nat) (x2 : Int32) (σ : Sg) : Option (Sg) :=
if (x2 < 0 ∨ 38 ≤ x2.toNatClampNeg) then none else
bd (wr σ 21 (x2.toNatClampNeg) (σ 0 28)) fun σ15 =>
if ((x2 + (1 : Int32)) < 0 ∨ 38 ≤ (x2 + (1 : Int32)).toNatClampNeg) then none else
bd (wr σ15 21 ((x2 + (1 : Int32)).toNatClampNeg) (σ15 0 29)) fun σ17 =>
(it (fun q => s_X12_pack_21_h18 N x2 q.1 q.2) N ((0 : Int32), σ17)).bind fun z18 =>
some (z18.2.2)
set_option maxHeartbeats 4000000 in
set_option maxRecDepth 100000 in
theorem b_X12_pack_21 {N : Nat} {x2 : Int32} {σ : Sg} {z : Sg} (C : Cx p s m args meth c cX12_pack 4 none RX12 g A X) (hf : f_X12_pack_21 N x2 σ = some z) : Bk mw p l e rm_X12_pack_21 s m args below meth c 4 g A (MQ below (qV mw g A z) args s 0 0 A) 0 0 0 [(0, .ref (g.2.2 0)), (1, .ref (g.2.2 21)), (2, .int x2)] [] σ := by
  obtain ⟨hx, hb, hr, hml, hown, hts, hK, hlocks, hXX, hA, hXo⟩ := id C
  intro H locs ls hP hD hS hl
  unfold f_X12_pack_21 at hf
  refine lv_aload_n hx hb dX12_pack_0 rfl (lv_at hl 1 rfl) ?_
  refine lv_iload_n hx hb dX12_pack_1 rfl (lv_at hl 2 rfl) ?_
  refine lv_aload_n hx hb dX12_pack_2 rfl (lv_at hl 0 rfl) ?_
  refine bk_get (wf := mw) (q0 := 0) (ci := 11) (k := 28) (v := .int (σ 0 28)) C hP wl_X12 rfl rfl (by decide) wa_613 rfl rfl dX12_pack_3 ?_
  obtain ⟨g14, hf⟩ := gd_s hf
  obtain ⟨σ15, eσ15, hf⟩ := bd_s hf
  refine bk_iast (wf := mw) (σ1 := σ15) (q0 := 21) (n := 38) (j := x2.toNatClampNeg) C hP hD hS rfl g14 rfl (by rw [eσ15]; exact mw_a21 g _ _ _) dX12_pack_6 (fun H locs hP hD hS => ?_)
  refine lv_aload_n hx hb dX12_pack_7 rfl (lv_at hl 1 rfl) ?_
  refine lv_iload_n hx hb dX12_pack_8 rfl (lv_at hl 2 rfl) ?_
  refine lv_iconst (v := (1 : Int32)) hx hb dX12_pack_9 (by decide) ?_
  refine lv_iadd hx hb dX12_pack_10 ?_
  refine lv_aload_n hx hb dX12_pack_11 rfl (lv_at hl 0 rfl) ?_
  refine bk_get (wf := mw) (q0 := 0) (ci := 11) (k := 29) (v := .int (σ15 0 29)) C hP wl_X12 rfl rfl (by decide) wa_614 rfl rfl dX12_pack_12 ?_
  obtain ⟨g16, hf⟩ := gd_s hf
  obtain ⟨σ17, eσ17, hf⟩ := bd_s hf
  refine bk_iast (wf := mw) (σ1 := σ17) (q0 := 21) (n := 38) (j := (x2 + (1 : Int32)).toNatClampNeg) C hP hD hS rfl g16 rfl (by rw [eσ17]; exact mw_a21 g _ _ _) dX12_pack_15 (fun H locs hP hD hS => ?_)
  refine lv_iconst (v := (0 : Int32)) hx hb dX12_pack_16 (by decide) ?_
  refine lv_istore_n (lv' := [(3, .int (0 : Int32)), (0, .ref (g.2.2 0)), (1, .ref (g.2.2 21)), (2, .int x2)]) hx hb dX12_pack_17 rfl hl (by decide) rfl (fun ls hl => ?_)
  obtain ⟨z18, hz18, hf⟩ := bi_s hf
  refine lp_X12_pack_21_h18 C hz18 ?_ H locs ls hP hD hS (lv_sub hl [1, 2, 3, 0] rfl)
  intro H locs ls hP hD hS hl
  cases hf
  exact bk_vret C hP hD hS rfl dX12_pack_91
theorem c_X12_pack_21 {N : Nat} {x2 : Int32} {σ : Sg} {z : Sg} (hX : xOK g X) (hf : f_X12_pack_21 N x2 σ = some z) : MetV l yX12_pack (Cond.code yX12_pack cX12_pack 4 none :: wsA) rm_X12_pack_21 mw g X [.ref (g.2.2 0), .ref (g.2.2 21), .int x2] σ z :=
  MetV_of hX (by decide) (Nat.le_of_ble_eq_true rfl) (fun p e s m args below meth c A C => b_X12_pack_21 C hf)
-- X12_unpack_21: unpack([II)V
abbrev rm_X12_unpack_21 : Room := { frames := 0, cells := 0, slots := 0, locals := 0 }
def s_X12_unpack_21_h18 (N : Nat) (x2 : Int32) (x3 : Int32) (σ : Sg) : Option (Nat × Int32 × Sg) :=
if (9 : Int32) ≤ x3 then (some (1, 0, σ))
else (if (((x2 + (2 : Int32)) + x3) < 0 ∨ 38 ≤ ((x2 + (2 : Int32)) + x3).toNatClampNeg) then none else
if (x3 < 0 ∨ 9 ≤ x3.toNatClampNeg) then none else
bd (wr σ 13 (x3.toNatClampNeg) (σ 21 ((x2 + (2 : Int32)) + x3).toNatClampNeg)) fun σ3 =>
if ((((x2 + (2 : Int32)) + (9 : Int32)) + x3) < 0 ∨ 38 ≤ (((x2 + (2 : Int32)) + (9 : Int32)) + x3).toNatClampNeg) then none else
if (x3 < 0 ∨ 9 ≤ x3.toNatClampNeg) then none else
bd (wr σ3 14 (x3.toNatClampNeg) (σ3 21 (((x2 + (2 : Int32)) + (9 : Int32)) + x3).toNatClampNeg)) fun σ6 =>
if ((((x2 + (2 : Int32)) + (18 : Int32)) + x3) < 0 ∨ 38 ≤ (((x2 + (2 : Int32)) + (18 : Int32)) + x3).toNatClampNeg) then none else
if (x3 < 0 ∨ 9 ≤ x3.toNatClampNeg) then none else
bd (wr σ6 15 (x3.toNatClampNeg) (σ6 21 (((x2 + (2 : Int32)) + (18 : Int32)) + x3).toNatClampNeg)) fun σ9 =>
if ((((x2 + (2 : Int32)) + (27 : Int32)) + x3) < 0 ∨ 38 ≤ (((x2 + (2 : Int32)) + (27 : Int32)) + x3).toNatClampNeg) then none else
if (x3 < 0 ∨ 9 ≤ x3.toNatClampNeg) then none else
bd (wr σ9 16 (x3.toNatClampNeg) (σ9 21 (((x2 + (2 : Int32)) + (27 : Int32)) + x3).toNatClampNeg)) fun σ12 =>
bd (x3 + (1 : Int32)) fun v13 =>
some (0, v13, σ12))
set_option maxHeartbeats 4000000 in
set_option maxRecDepth 100000 in
theorem e_X12_unpack_21_h18 {N : Nat} {x2 : Int32} {x3 : Int32} {σ : Sg} {z : Nat × Int32 × Sg} (C : Cx p s m args meth c cX12_unpack 4 none RX12 g A X) (hf : s_X12_unpack_21_h18 N x2 x3 σ = some z) (k0 : z.1 = 0 → Bk mw p l e rm_X12_unpack_21 s m args below meth c 4 g A Q 0 0 18 [(0, .ref (g.2.2 0)), (1, .ref (g.2.2 21)), (2, .int x2), (3, .int z.2.1)] [] z.2.2) (k : ¬ z.1 = 0 → Bk mw p l e rm_X12_unpack_21 s m args below meth c 4 g A Q 0 0 91 [] [] z.2.2) : Bk mw p l e rm_X12_unpack_21 s m args below meth c 4 g A Q 0 0 18 [(0, .ref (g.2.2 0)), (1, .ref (g.2.2 21)), (2, .int x2), (3, .int x3)] [] σ := by
  obtain ⟨hx, hb, hr, hml, hown, hts, hK, hlocks, hXX, hA, hXo⟩ := id C
  intro H locs ls hP hD hS hl
  unfold s_X12_unpack_21_h18 at hf
  refine lv_iload_n hx hb dX12_unpack_18 rfl (lv_at hl 3 rfl) ?_
  refine lv_bipush (v := (9 : Int32)) hx hb dX12_unpack_19 (by decide) ?_
  refine lv_icmp_ge (tgt := 91) hx hb dX12_unpack_21 (by decide) (fun t21 => ?_) (fun t21 => ?_)
  · have hf := (if_pos t21).symm.trans hf
    cases hf
    exact (k (show ¬ (1 : Nat) = 0 by decide)) H locs ls hP hD hS (lv_sub hl [] rfl)
  · have hf := (if_neg t21).symm.trans hf
    refine lv_aload_n hx hb dX12_unpack_24 rfl (lv_at hl 0 rfl) ?_
    refine bk_get (wf := mw) (q0 := 0) (ci := 11) (k := 23) (v := .ref (g.2.2 13)) C hP wl_X12 rfl rfl (by decide) wa_168 rfl rfl dX12_unpack_25 ?_
    refine lv_iload_n hx hb dX12_unpack_28 rfl (lv_at hl 3 rfl) ?_
    refine lv_aload_n hx hb dX12_unpack_29 rfl (lv_at hl 1 rfl) ?_
    refine lv_iload_n hx hb dX12_unpack_30 rfl (lv_at hl 2 rfl) ?_
    refine lv_iconst (v := (2 : Int32)) hx hb dX12_unpack_31 (by decide) ?_
    refine lv_iadd hx hb dX12_unpack_32 ?_
    refine lv_iload_n hx hb dX12_unpack_33 rfl (lv_at hl 3 rfl) ?_
    refine lv_iadd hx hb dX12_unpack_34 ?_
    obtain ⟨g1, hf⟩ := gd_s hf
    refine bk_iald (wf := mw) (q0 := 21) (n := 38) (j := ((x2 + (2 : Int32)) + x3).toNatClampNeg) C hP rfl g1 rfl dX12_unpack_35 ?_
    obtain ⟨g2, hf⟩ := gd_s hf
    obtain ⟨σ3, eσ3, hf⟩ := bd_s hf
    refine bk_iast (wf := mw) (σ1 := σ3) (q0 := 13) (n := 9) (j := x3.toNatClampNeg) C hP hD hS rfl g2 rfl (by rw [eσ3]; exact mw_a13 g _ _ _) dX12_unpack_36 (fun H locs hP hD hS => ?_)
    refine lv_aload_n hx hb dX12_unpack_37 rfl (lv_at hl 0 rfl) ?_
    refine bk_get (wf := mw) (q0 := 0) (ci := 11) (k := 24) (v := .ref (g.2.2 14)) C hP wl_X12 rfl rfl (by decide) wa_169 rfl rfl dX12_unpack_38 ?_
    refine lv_iload_n hx hb dX12_unpack_41 rfl (lv_at hl 3 rfl) ?_
    refine lv_aload_n hx hb dX12_unpack_42 rfl (lv_at hl 1 rfl) ?_
    refine lv_iload_n hx hb dX12_unpack_43 rfl (lv_at hl 2 rfl) ?_
    refine lv_iconst (v := (2 : Int32)) hx hb dX12_unpack_44 (by decide) ?_
    refine lv_iadd hx hb dX12_unpack_45 ?_
    refine lv_bipush (v := (9 : Int32)) hx hb dX12_unpack_46 (by decide) ?_
    refine lv_iadd hx hb dX12_unpack_48 ?_
    refine lv_iload_n hx hb dX12_unpack_49 rfl (lv_at hl 3 rfl) ?_
    refine lv_iadd hx hb dX12_unpack_50 ?_
    obtain ⟨g4, hf⟩ := gd_s hf
    refine bk_iald (wf := mw) (q0 := 21) (n := 38) (j := (((x2 + (2 : Int32)) + (9 : Int32)) + x3).toNatClampNeg) C hP rfl g4 rfl dX12_unpack_51 ?_
    obtain ⟨g5, hf⟩ := gd_s hf
    obtain ⟨σ6, eσ6, hf⟩ := bd_s hf
    refine bk_iast (wf := mw) (σ1 := σ6) (q0 := 14) (n := 9) (j := x3.toNatClampNeg) C hP hD hS rfl g5 rfl (by rw [eσ6]; exact mw_a14 g _ _ _) dX12_unpack_52 (fun H locs hP hD hS => ?_)
    refine lv_aload_n hx hb dX12_unpack_53 rfl (lv_at hl 0 rfl) ?_
    refine bk_get (wf := mw) (q0 := 0) (ci := 11) (k := 25) (v := .ref (g.2.2 15)) C hP wl_X12 rfl rfl (by decide) wa_170 rfl rfl dX12_unpack_54 ?_
    refine lv_iload_n hx hb dX12_unpack_57 rfl (lv_at hl 3 rfl) ?_
    refine lv_aload_n hx hb dX12_unpack_58 rfl (lv_at hl 1 rfl) ?_
    refine lv_iload_n hx hb dX12_unpack_59 rfl (lv_at hl 2 rfl) ?_
    refine lv_iconst (v := (2 : Int32)) hx hb dX12_unpack_60 (by decide) ?_
    refine lv_iadd hx hb dX12_unpack_61 ?_
    refine lv_bipush (v := (18 : Int32)) hx hb dX12_unpack_62 (by decide) ?_
    refine lv_iadd hx hb dX12_unpack_64 ?_
    refine lv_iload_n hx hb dX12_unpack_65 rfl (lv_at hl 3 rfl) ?_
    refine lv_iadd hx hb dX12_unpack_66 ?_
    obtain ⟨g7, hf⟩ := gd_s hf
    refine bk_iald (wf := mw) (q0 := 21) (n := 38) (j := (((x2 + (2 : Int32)) + (18 : Int32)) + x3).toNatClampNeg) C hP rfl g7 rfl dX12_unpack_67 ?_
    obtain ⟨g8, hf⟩ := gd_s hf
    obtain ⟨σ9, eσ9, hf⟩ := bd_s hf
    refine bk_iast (wf := mw) (σ1 := σ9) (q0 := 15) (n := 9) (j := x3.toNatClampNeg) C hP hD hS rfl g8 rfl (by rw [eσ9]; exact mw_a15 g _ _ _) dX12_unpack_68 (fun H locs hP hD hS => ?_)
    refine lv_aload_n hx hb dX12_unpack_69 rfl (lv_at hl 0 rfl) ?_
    refine bk_get (wf := mw) (q0 := 0) (ci := 11) (k := 26) (v := .ref (g.2.2 16)) C hP wl_X12 rfl rfl (by decide) wa_171 rfl rfl dX12_unpack_70 ?_
    refine lv_iload_n hx hb dX12_unpack_73 rfl (lv_at hl 3 rfl) ?_
    refine lv_aload_n hx hb dX12_unpack_74 rfl (lv_at hl 1 rfl) ?_
    refine lv_iload_n hx hb dX12_unpack_75 rfl (lv_at hl 2 rfl) ?_
    refine lv_iconst (v := (2 : Int32)) hx hb dX12_unpack_76 (by decide) ?_
    refine lv_iadd hx hb dX12_unpack_77 ?_
    refine lv_bipush (v := (27 : Int32)) hx hb dX12_unpack_78 (by decide) ?_
    refine lv_iadd hx hb dX12_unpack_80 ?_
    refine lv_iload_n hx hb dX12_unpack_81 rfl (lv_at hl 3 rfl) ?_
    refine lv_iadd hx hb dX12_unpack_82 ?_
    obtain ⟨g10, hf⟩ := gd_s hf
    refine bk_iald (wf := mw) (q0 := 21) (n := 38) (j := (((x2 + (2 : Int32)) + (27 : Int32)) + x3).toNatClampNeg) C hP rfl g10 rfl dX12_unpack_83 ?_
    obtain ⟨g11, hf⟩ := gd_s hf
    obtain ⟨σ12, eσ12, hf⟩ := bd_s hf
    refine bk_iast (wf := mw) (σ1 := σ12) (q0 := 16) (n := 9) (j := x3.toNatClampNeg) C hP hD hS rfl g11 rfl (by rw [eσ12]; exact mw_a16 g _ _ _) dX12_unpack_84 (fun H locs hP hD hS => ?_)
    obtain ⟨v13, ev13, hf⟩ := bd_s hf
    refine lv_iinc (v := v13) (lv' := [(3, .int v13), (0, .ref (g.2.2 0)), (1, .ref (g.2.2 21)), (2, .int x2)]) hx hb dX12_unpack_85 hl (k := 3) rfl (by rw [ev13]; rfl) (by decide) rfl (fun ls hl => ?_)
    refine lv_goto (tgt := 18) hx hb dX12_unpack_88 (by decide) ?_
    cases hf
    exact k0 rfl H locs ls hP hD hS (lv_sub hl [1, 2, 3, 0] rfl)
theorem lp_X12_unpack_21_h18 {N : Nat} {n : Nat} {x2 : Int32} {x3 : Int32} {σ : Sg} {z : Nat × Int32 × Sg} (C : Cx p s m args meth c cX12_unpack 4 none RX12 g A X) (hz : it (fun q => s_X12_unpack_21_h18 N x2 q.1 q.2) n (x3, σ) = some z) (k : Bk mw p l e rm_X12_unpack_21 s m args below meth c 4 g A Q 0 0 91 [] [] z.2.2) : Bk mw p l e rm_X12_unpack_21 s m args below meth c 4 g A Q 0 0 18 [(0, .ref (g.2.2 0)), (1, .ref (g.2.2 21)), (2, .int x2), (3, .int x3)] [] σ :=
  it_W (S := Int32 × Sg) (fun q => Bk mw p l e rm_X12_unpack_21 s m args below meth c 4 g A Q 0 0 18 [(0, .ref (g.2.2 0)), (1, .ref (g.2.2 21)), (2, .int x2), (3, .int q.1)] [] q.2) (fun z => Bk mw p l e rm_X12_unpack_21 s m args below meth c 4 g A Q 0 0 91 [] [] z.2.2) (fun q z hq k0 k => e_X12_unpack_21_h18 C hq k0 k) n (x3, σ) z hz k
def f_X12_unpack_21 (N : Nat) (x2 : Int32) (σ : Sg) : Option (Sg) :=
if (x2 < 0 ∨ 38 ≤ x2.toNatClampNeg) then none else
bd (wr σ 0 28 (σ 21 x2.toNatClampNeg)) fun σ15 =>
if ((x2 + (1 : Int32)) < 0 ∨ 38 ≤ (x2 + (1 : Int32)).toNatClampNeg) then none else
bd (wr σ15 0 29 (σ15 21 (x2 + (1 : Int32)).toNatClampNeg)) fun σ17 =>
(it (fun q => s_X12_unpack_21_h18 N x2 q.1 q.2) N ((0 : Int32), σ17)).bind fun z18 =>
some (z18.2.2)
set_option maxHeartbeats 4000000 in
set_option maxRecDepth 100000 in
theorem b_X12_unpack_21 {N : Nat} {x2 : Int32} {σ : Sg} {z : Sg} (C : Cx p s m args meth c cX12_unpack 4 none RX12 g A X) (hf : f_X12_unpack_21 N x2 σ = some z) : Bk mw p l e rm_X12_unpack_21 s m args below meth c 4 g A (MQ below (qV mw g A z) args s 0 0 A) 0 0 0 [(0, .ref (g.2.2 0)), (1, .ref (g.2.2 21)), (2, .int x2)] [] σ := by
  obtain ⟨hx, hb, hr, hml, hown, hts, hK, hlocks, hXX, hA, hXo⟩ := id C
  intro H locs ls hP hD hS hl
  unfold f_X12_unpack_21 at hf
  refine lv_aload_n hx hb dX12_unpack_0 rfl (lv_at hl 0 rfl) ?_
  refine lv_aload_n hx hb dX12_unpack_1 rfl (lv_at hl 1 rfl) ?_
  refine lv_iload_n hx hb dX12_unpack_2 rfl (lv_at hl 2 rfl) ?_
  obtain ⟨g14, hf⟩ := gd_s hf
  refine bk_iald (wf := mw) (q0 := 21) (n := 38) (j := x2.toNatClampNeg) C hP rfl g14 rfl dX12_unpack_3 ?_
  obtain ⟨σ15, eσ15, hf⟩ := bd_s hf
  refine bk_put (wf := mw) (σ1 := σ15) (q0 := 0) (ci := 11) (k := 28) (v := .int (σ 21 x2.toNatClampNeg)) C hP hD hS wl_X12 tyX12_ok nmX12 rfl rfl (by decide) wa_613 rfl rfl rfl rfl rfl (Nat.le_of_ble_eq_true rfl) (by rw [eσ15]; exact mw_p0_28 g _ _) dX12_unpack_4 (fun H locs hP hD hS => ?_)
  refine lv_aload_n hx hb dX12_unpack_7 rfl (lv_at hl 0 rfl) ?_
  refine lv_aload_n hx hb dX12_unpack_8 rfl (lv_at hl 1 rfl) ?_
  refine lv_iload_n hx hb dX12_unpack_9 rfl (lv_at hl 2 rfl) ?_
  refine lv_iconst (v := (1 : Int32)) hx hb dX12_unpack_10 (by decide) ?_
  refine lv_iadd hx hb dX12_unpack_11 ?_
  obtain ⟨g16, hf⟩ := gd_s hf
  refine bk_iald (wf := mw) (q0 := 21) (n := 38) (j := (x2 + (1 : Int32)).toNatClampNeg) C hP rfl g16 rfl dX12_unpack_12 ?_
  obtain ⟨σ17, eσ17, hf⟩ := bd_s hf
  refine bk_put (wf := mw) (σ1 := σ17) (q0 := 0) (ci := 11) (k := 29) (v := .int (σ15 21 (x2 + (1 : Int32)).toNatClampNeg)) C hP hD hS wl_X12 tyX12_ok nmX12 rfl rfl (by decide) wa_614 rfl rfl rfl rfl rfl (Nat.le_of_ble_eq_true rfl) (by rw [eσ17]; exact mw_p0_29 g _ _) dX12_unpack_13 (fun H locs hP hD hS => ?_)
  refine lv_iconst (v := (0 : Int32)) hx hb dX12_unpack_16 (by decide) ?_
  refine lv_istore_n (lv' := [(3, .int (0 : Int32)), (0, .ref (g.2.2 0)), (1, .ref (g.2.2 21)), (2, .int x2)]) hx hb dX12_unpack_17 rfl hl (by decide) rfl (fun ls hl => ?_)
  obtain ⟨z18, hz18, hf⟩ := bi_s hf
  refine lp_X12_unpack_21_h18 C hz18 ?_ H locs ls hP hD hS (lv_sub hl [1, 2, 3, 0] rfl)
  intro H locs ls hP hD hS hl
  cases hf
  exact bk_vret C hP hD hS rfl dX12_unpack_91
theorem c_X12_unpack_21 {N : Nat} {x2 : Int32} {σ : Sg} {z : Sg} (hX : xOK g X) (hf : f_X12_unpack_21 N x2 σ = some z) : MetV l yX12_unpack (Cond.code yX12_unpack cX12_unpack 4 none :: wsA) rm_X12_unpack_21 mw g X [.ref (g.2.2 0), .ref (g.2.2 21), .int x2] σ z :=
  MetV_of hX (by decide) (Nat.le_of_ble_eq_true rfl) (fun p e s m args below meth c A C => b_X12_unpack_21 C hf)
-- X12_nodding: nodding(I)I
abbrev rm_X12_nodding : Room := { frames := 7, cells := 0, slots := 0, locals := 160 }
theorem nd_X12_nodding : yX12_nodding.cls ≠ "java/lang/invoke/MethodHandle" ∧ yX12_nodding.cls ≠ "java/lang/invoke/VarHandle" ∧ (parseMethodDescriptor yX12_nodding.desc).map (fun d => d.parameters.length) = some 1 := by decide +kernel
def f_X12_nodding (N : Nat) (x1 : Int32) (σ : Sg) : Option (Int32 × Sg) :=
bd (wr σ 0 2 (0 : Int32)) fun σ1 =>
(f_X12_isIn N (x1).toInt64 (1 : Int64) (60 : Int64) σ1).bind fun q2 =>
if q2.1 = 0 then ((f_X12_fail N (1 : Int32) (q2.2)).bind fun q6 =>
some (q6.1, (q6.2)))
else ((f_X12_pack_21 N (0 : Int32) (q2.2)).bind fun q3 =>
(f_X12_goOn N x1 q3).bind fun q4 =>
(f_X12_unpack_21 N (0 : Int32) q4).bind fun q5 =>
some ((q5 0 35), q5))
set_option maxHeartbeats 4000000 in
set_option maxRecDepth 100000 in
theorem b_X12_nodding {N : Nat} {x1 : Int32} {σ : Sg} {z : Int32 × Sg} (C : Cx p s m args meth c cX12_nodding 2 (some .int) RX12 g A X) (hf : f_X12_nodding N x1 σ = some z) : Bk mw p l e rm_X12_nodding s m args below meth c 2 g A (MQ below (qI mw g A z.1 z.2) args s 0 0 A) 0 0 0 [(0, .ref (g.2.2 0)), (1, .int x1)] [] σ := by
  obtain ⟨hx, hb, hr, hml, hown, hts, hK, hlocks, hXX, hA, hXo⟩ := id C
  intro H locs ls hP hD hS hl
  unfold f_X12_nodding at hf
  refine lv_aload_n hx hb dX12_nodding_0 rfl (lv_at hl 0 rfl) ?_
  refine lv_iconst (v := (0 : Int32)) hx hb dX12_nodding_1 (by decide) ?_
  obtain ⟨σ1, eσ1, hf⟩ := bd_s hf
  refine bk_put (wf := mw) (σ1 := σ1) (q0 := 0) (ci := 11) (k := 2) (v := .int (0 : Int32)) C hP hD hS wl_X12 tyX12_ok nmX12 rfl rfl (by decide) wa_205 rfl rfl rfl rfl rfl (Nat.le_of_ble_eq_true rfl) (by rw [eσ1]; exact mw_p0_2 g _ _) dX12_nodding_2 (fun H locs hP hD hS => ?_)
  refine lv_iload_n hx hb dX12_nodding_5 rfl (lv_at hl 1 rfl) ?_
  refine lv_i2l hx hb dX12_nodding_6 rfl ?_
  refine lv_lconst (v := (1 : Int64)) hx hb dX12_nodding_7 (by decide) ?_
  refine lv_ldc2 (v := (60 : Int64)) hx hb hown (hts _ wa_1025) dX12_nodding_8 ?_
  obtain ⟨q2, hq2, hf⟩ := bi_s hf
  refine bk_SI (wf := mw) (rest := []) [.long (x1).toInt64, .long (1 : Int64), .long (60 : Int64)] C hP hD hS hl.1 (c_X12_isIn hXo hq2) (cwA_S 3 hts wa_803 wa_801 wa_802 wa_5 rfl rfl nd_X12_isIn ⟨Nat.le_of_ble_eq_true rfl, Nat.le_of_ble_eq_true rfl⟩) rfl rfl (Nat.le_of_ble_eq_true rfl) dX12_nodding_11 ⟨Nat.le_of_ble_eq_true rfl, Nat.le_of_ble_eq_true rfl⟩ (fun H locs hP hD hS => ?_)
  refine lv_if_ne (tgt := 23) hx hb dX12_nodding_14 (by decide) (fun t14 => ?_) (fun t14 => ?_)
  · have hf := (if_neg t14).symm.trans hf
    refine lv_aload_n hx hb dX12_nodding_23 rfl (lv_at hl 0 rfl) ?_
    refine lv_aload_n hx hb dX12_nodding_24 rfl (lv_at hl 0 rfl) ?_
    refine bk_get (wf := mw) (q0 := 0) (ci := 11) (k := 37) (v := .ref (g.2.2 21)) C hP wl_X12 rfl rfl (by decide) wa_177 rfl rfl dX12_nodding_25 ?_
    refine lv_iconst (v := (0 : Int32)) hx hb dX12_nodding_28 (by decide) ?_
    obtain ⟨q3, hq3, hf⟩ := bi_s hf
    refine bk_VV (wf := mw) (q0 := 0) (ci := 11) (rest := []) [.ref (g.2.2 21), .int (0 : Int32)] C hP hD hS hl.1 (c_X12_pack_21 hXo hq3) (cwA_V 2 hts wa_895 wa_892 wa_893 wa_894 wa_5 rfl rfl nd_X12_pack ⟨Nat.le_of_ble_eq_true rfl, Nat.le_of_ble_eq_true rfl⟩) rfl rfl rfl rfl (Nat.le_of_ble_eq_true rfl) dX12_nodding_29 ⟨Nat.le_of_ble_eq_true rfl, Nat.le_of_ble_eq_true rfl⟩ (fun H locs hP hD hS => ?_)
    refine lv_aload_n hx hb dX12_nodding_32 rfl (lv_at hl 0 rfl) ?_
    refine lv_iload_n hx hb dX12_nodding_33 rfl (lv_at hl 1 rfl) ?_
    obtain ⟨q4, hq4, hf⟩ := bi_s hf
    refine bk_VV (wf := mw) (q0 := 0) (ci := 11) (rest := []) [.int x1] C hP hD hS hl.1 (c_X12_goOn hXo hq4) (cwA_V 1 hts wa_899 wa_896 wa_897 wa_898 wa_5 rfl rfl nd_X12_goOn ⟨Nat.le_of_ble_eq_true rfl, Nat.le_of_ble_eq_true rfl⟩) rfl rfl rfl rfl (Nat.le_of_ble_eq_true rfl) dX12_nodding_34 ⟨Nat.le_of_ble_eq_true rfl, Nat.le_of_ble_eq_true rfl⟩ (fun H locs hP hD hS => ?_)
    refine lv_aload_n hx hb dX12_nodding_37 rfl (lv_at hl 0 rfl) ?_
    refine lv_aload_n hx hb dX12_nodding_38 rfl (lv_at hl 0 rfl) ?_
    refine bk_get (wf := mw) (q0 := 0) (ci := 11) (k := 37) (v := .ref (g.2.2 21)) C hP wl_X12 rfl rfl (by decide) wa_177 rfl rfl dX12_nodding_39 ?_
    refine lv_iconst (v := (0 : Int32)) hx hb dX12_nodding_42 (by decide) ?_
    obtain ⟨q5, hq5, hf⟩ := bi_s hf
    refine bk_VV (wf := mw) (q0 := 0) (ci := 11) (rest := []) [.ref (g.2.2 21), .int (0 : Int32)] C hP hD hS hl.1 (c_X12_unpack_21 hXo hq5) (cwA_V 2 hts wa_1010 wa_1007 wa_1008 wa_1009 wa_5 rfl rfl nd_X12_unpack ⟨Nat.le_of_ble_eq_true rfl, Nat.le_of_ble_eq_true rfl⟩) rfl rfl rfl rfl (Nat.le_of_ble_eq_true rfl) dX12_nodding_43 ⟨Nat.le_of_ble_eq_true rfl, Nat.le_of_ble_eq_true rfl⟩ (fun H locs hP hD hS => ?_)
    refine lv_aload_n hx hb dX12_nodding_46 rfl (lv_at hl 0 rfl) ?_
    refine bk_get (wf := mw) (q0 := 0) (ci := 11) (k := 35) (v := .int (q5 0 35)) C hP wl_X12 rfl rfl (by decide) wa_904 rfl rfl dX12_nodding_47 ?_
    cases hf
    exact bk_iret C hP hD hS rfl dX12_nodding_50
  · have hf := (if_pos t14).symm.trans hf
    refine lv_aload_n hx hb dX12_nodding_17 rfl (lv_at hl 0 rfl) ?_
    refine lv_iconst (v := (1 : Int32)) hx hb dX12_nodding_18 (by decide) ?_
    obtain ⟨q6, hq6, hf⟩ := bi_s hf
    refine bk_VI (wf := mw) (q0 := 0) (ci := 11) (rest := []) [.int (1 : Int32)] C hP hD hS hl.1 (c_X12_fail hXo hq6) (cwA_V 1 hts wa_512 wa_509 wa_510 wa_511 wa_5 rfl rfl nd_X12_fail ⟨Nat.le_of_ble_eq_true rfl, Nat.le_of_ble_eq_true rfl⟩) rfl rfl rfl rfl (Nat.le_of_ble_eq_true rfl) dX12_nodding_19 ⟨Nat.le_of_ble_eq_true rfl, Nat.le_of_ble_eq_true rfl⟩ (fun H locs hP hD hS => ?_)
    cases hf
    exact bk_iret C hP hD hS rfl dX12_nodding_22
theorem c_X12_nodding {N : Nat} {x1 : Int32} {σ : Sg} {z : Int32 × Sg} (hX : xOK g X) (hf : f_X12_nodding N x1 σ = some z) : MetI l yX12_nodding (Cond.code yX12_nodding cX12_nodding 2 (some .int) :: wsA) rm_X12_nodding mw g X [.ref (g.2.2 0), .int x1] σ z.1 z.2 :=
  MetI_of hX (by decide) (Nat.le_of_ble_eq_true rfl) (fun p e s m args below meth c A C => b_X12_nodding C hf)
-- X12_then: then(III)I
abbrev rm_X12_then : Room := { frames := 7, cells := 0, slots := 0, locals := 160 }
theorem nd_X12_then : yX12_then.cls ≠ "java/lang/invoke/MethodHandle" ∧ yX12_then.cls ≠ "java/lang/invoke/VarHandle" ∧ (parseMethodDescriptor yX12_then.desc).map (fun d => d.parameters.length) = some 3 := by decide +kernel
def f_X12_then_b79 (N : Nat) (t0 : Int32) (σ : Sg) : Option (Int32 × Sg) :=
(f_X12_unpack_21 N (0 : Int32) σ).bind fun q1 =>
some (t0, q1)
set_option maxHeartbeats 4000000 in
set_option maxRecDepth 100000 in
theorem b_X12_then_b79 {N : Nat} {t0 : Int32} {σ : Sg} {z : Int32 × Sg} (C : Cx p s m args meth c cX12_then 5 (some .int) RX12 g A X) (hf : f_X12_then_b79 N t0 σ = some z) : Bk mw p l e rm_X12_then s m args below meth c 5 g A (MQ below (qI mw g A z.1 z.2) args s 0 0 A) 0 0 79 [(0, .ref (g.2.2 0))] [.int t0] σ := by
  obtain ⟨hx, hb, hr, hml, hown, hts, hK, hlocks, hXX, hA, hXo⟩ := id C
  intro H locs ls hP hD hS hl
  unfold f_X12_then_b79 at hf
  refine lv_istore (lv' := [(4, .int t0), (0, .ref (g.2.2 0))]) hx hb dX12_then_79 hl (by decide) rfl (fun ls hl => ?_)
  refine lv_aload_n hx hb dX12_then_81 rfl (lv_at hl 1 rfl) ?_
  refine lv_aload_n hx hb dX12_then_82 rfl (lv_at hl 1 rfl) ?_
  refine bk_get (wf := mw) (q0 := 0) (ci := 11) (k := 37) (v := .ref (g.2.2 21)) C hP wl_X12 rfl rfl (by decide) wa_177 rfl rfl dX12_then_83 ?_
  refine lv_iconst (v := (0 : Int32)) hx hb dX12_then_86 (by decide) ?_
  obtain ⟨q1, hq1, hf⟩ := bi_s hf
  refine bk_VV (wf := mw) (q0 := 0) (ci := 11) (rest := []) [.ref (g.2.2 21), .int (0 : Int32)] C hP hD hS hl.1 (c_X12_unpack_21 hXo hq1) (cwA_V 2 hts wa_1010 wa_1007 wa_1008 wa_1009 wa_5 rfl rfl nd_X12_unpack ⟨Nat.le_of_ble_eq_true rfl, Nat.le_of_ble_eq_true rfl⟩) rfl rfl rfl rfl (Nat.le_of_ble_eq_true rfl) dX12_then_87 ⟨Nat.le_of_ble_eq_true rfl, Nat.le_of_ble_eq_true rfl⟩ (fun H locs hP hD hS => ?_)
  refine lv_iload hx hb dX12_then_90 (lv_at hl 0 rfl) ?_
  cases hf
  exact bk_iret C hP hD hS rfl dX12_then_92
def f_X12_then_b22 (N : Nat) (σ : Sg) : Option (Int32 × Sg) :=
(f_X12_fail N (1 : Int32) σ).bind fun q2 =>
some (q2.1, (q2.2))
set_option maxHeartbeats 4000000 in
set_option maxRecDepth 100000 in
theorem b_X12_then_b22 {N : Nat} {σ : Sg} {z : Int32 × Sg} (C : Cx p s m args meth c cX12_then 5 (some .int) RX12 g A X) (hf : f_X12_then_b22 N σ = some z) : Bk mw p l e rm_X12_then s m args below meth c 5 g A (MQ below (qI mw g A z.1 z.2) args s 0 0 A) 0 0 22 [(0, .ref (g.2.2 0))] [] σ := by
  obtain ⟨hx, hb, hr, hml, hown, hts, hK, hlocks, hXX, hA, hXo⟩ := id C
  intro H locs ls hP hD hS hl
  unfold f_X12_then_b22 at hf
  refine lv_aload_n hx hb dX12_then_22 rfl (lv_at hl 0 rfl) ?_
  refine lv_iconst (v := (1 : Int32)) hx hb dX12_then_23 (by decide) ?_
  obtain ⟨q2, hq2, hf⟩ := bi_s hf
  refine bk_VI (wf := mw) (q0 := 0) (ci := 11) (rest := []) [.int (1 : Int32)] C hP hD hS hl.1 (c_X12_fail hXo hq2) (cwA_V 1 hts wa_512 wa_509 wa_510 wa_511 wa_5 rfl rfl nd_X12_fail ⟨Nat.le_of_ble_eq_true rfl, Nat.le_of_ble_eq_true rfl⟩) rfl rfl rfl rfl (Nat.le_of_ble_eq_true rfl) dX12_then_24 ⟨Nat.le_of_ble_eq_true rfl, Nat.le_of_ble_eq_true rfl⟩ (fun H locs hP hD hS => ?_)
  cases hf
  exact bk_iret C hP hD hS rfl dX12_then_27
def f_X12_then (N : Nat) (x1 : Int32) (x2 : Int32) (x3 : Int32) (σ : Sg) : Option (Int32 × Sg) :=
bd (wr σ 0 2 (0 : Int32)) fun σ3 =>
(f_X12_isFarm N x1 σ3).bind fun q4 =>
if q4.1 = 0 then (f_X12_then_b22 N (q4.2))
else (if x3 < 0 then (f_X12_then_b22 N (q4.2))
else (if x3 ≤ (1 : Int32) then ((f_X12_isIn N (x2).toInt64 (0 : Int64) (60 : Int64) (q4.2)).bind fun q5 =>
if q5.1 = 0 then ((f_X12_fail N (2 : Int32) (q5.2)).bind fun q10 =>
some (q10.1, (q10.2)))
else ((f_X12_pack_21 N (0 : Int32) (q5.2)).bind fun q6 =>
(f_X12_goOn N x2 q6).bind fun q7 =>
if x3 = 0 then (if (x1 < 0 ∨ 9 ≤ x1.toNatClampNeg) then none else
f_X12_then_b79 N (q7 13 x1.toNatClampNeg) q7)
else (if (x1 < 0 ∨ 9 ≤ x1.toNatClampNeg) then none else
f_X12_then_b79 N (q7 15 x1.toNatClampNeg) q7)))
else (f_X12_then_b22 N (q4.2))))
set_option maxHeartbeats 4000000 in
set_option maxRecDepth 100000 in
theorem b_X12_then {N : Nat} {x1 : Int32} {x2 : Int32} {x3 : Int32} {σ : Sg} {z : Int32 × Sg} (C : Cx p s m args meth c cX12_then 5 (some .int) RX12 g A X) (hf : f_X12_then N x1 x2 x3 σ = some z) : Bk mw p l e rm_X12_then s m args below meth c 5 g A (MQ below (qI mw g A z.1 z.2) args s 0 0 A) 0 0 0 [(0, .ref (g.2.2 0)), (1, .int x1), (2, .int x2), (3, .int x3)] [] σ := by
  obtain ⟨hx, hb, hr, hml, hown, hts, hK, hlocks, hXX, hA, hXo⟩ := id C
  intro H locs ls hP hD hS hl
  unfold f_X12_then at hf
  refine lv_aload_n hx hb dX12_then_0 rfl (lv_at hl 0 rfl) ?_
  refine lv_iconst (v := (0 : Int32)) hx hb dX12_then_1 (by decide) ?_
  obtain ⟨σ3, eσ3, hf⟩ := bd_s hf
  refine bk_put (wf := mw) (σ1 := σ3) (q0 := 0) (ci := 11) (k := 2) (v := .int (0 : Int32)) C hP hD hS wl_X12 tyX12_ok nmX12 rfl rfl (by decide) wa_205 rfl rfl rfl rfl rfl (Nat.le_of_ble_eq_true rfl) (by rw [eσ3]; exact mw_p0_2 g _ _) dX12_then_2 (fun H locs hP hD hS => ?_)
  refine lv_aload_n hx hb dX12_then_5 rfl (lv_at hl 0 rfl) ?_
  refine lv_iload_n hx hb dX12_then_6 rfl (lv_at hl 1 rfl) ?_
  obtain ⟨q4, hq4, hf⟩ := bi_s hf
  refine bk_VI (wf := mw) (q0 := 0) (ci := 11) (rest := []) [.int x1] C hP hD hS hl.1 (c_X12_isFarm hXo hq4) (cwA_V 1 hts wa_800 wa_797 wa_798 wa_799 wa_5 rfl rfl nd_X12_isFarm ⟨Nat.le_of_ble_eq_true rfl, Nat.le_of_ble_eq_true rfl⟩) rfl rfl rfl rfl (Nat.le_of_ble_eq_true rfl) dX12_then_7 ⟨Nat.le_of_ble_eq_true rfl, Nat.le_of_ble_eq_true rfl⟩ (fun H locs hP hD hS => ?_)
  refine lv_if_eq (tgt := 22) hx hb dX12_then_10 (by decide) (fun t10 => ?_) (fun t10 => ?_)
  · have hf := (if_pos t10).symm.trans hf
    exact b_X12_then_b22 C hf H locs ls hP hD hS (lv_sub hl [0] rfl)
  · have hf := (if_neg t10).symm.trans hf
    refine lv_iload_n hx hb dX12_then_13 rfl (lv_at hl 3 rfl) ?_
    refine lv_if_lt (tgt := 22) hx hb dX12_then_14 (by decide) (fun t14 => ?_) (fun t14 => ?_)
    · have hf := (if_pos t14).symm.trans hf
      exact b_X12_then_b22 C hf H locs ls hP hD hS (lv_sub hl [0] rfl)
    · have hf := (if_neg t14).symm.trans hf
      refine lv_iload_n hx hb dX12_then_17 rfl (lv_at hl 3 rfl) ?_
      refine lv_iconst (v := (1 : Int32)) hx hb dX12_then_18 (by decide) ?_
      refine lv_icmp_le (tgt := 28) hx hb dX12_then_19 (by decide) (fun t19 => ?_) (fun t19 => ?_)
      · have hf := (if_pos t19).symm.trans hf
        refine lv_iload_n hx hb dX12_then_28 rfl (lv_at hl 2 rfl) ?_
        refine lv_i2l hx hb dX12_then_29 rfl ?_
        refine lv_lconst (v := (0 : Int64)) hx hb dX12_then_30 (by decide) ?_
        refine lv_ldc2 (v := (60 : Int64)) hx hb hown (hts _ wa_1025) dX12_then_31 ?_
        obtain ⟨q5, hq5, hf⟩ := bi_s hf
        refine bk_SI (wf := mw) (rest := []) [.long (x2).toInt64, .long (0 : Int64), .long (60 : Int64)] C hP hD hS hl.1 (c_X12_isIn hXo hq5) (cwA_S 3 hts wa_803 wa_801 wa_802 wa_5 rfl rfl nd_X12_isIn ⟨Nat.le_of_ble_eq_true rfl, Nat.le_of_ble_eq_true rfl⟩) rfl rfl (Nat.le_of_ble_eq_true rfl) dX12_then_34 ⟨Nat.le_of_ble_eq_true rfl, Nat.le_of_ble_eq_true rfl⟩ (fun H locs hP hD hS => ?_)
        refine lv_if_ne (tgt := 46) hx hb dX12_then_37 (by decide) (fun t37 => ?_) (fun t37 => ?_)
        · have hf := (if_neg t37).symm.trans hf
          refine lv_aload_n hx hb dX12_then_46 rfl (lv_at hl 0 rfl) ?_
          refine lv_aload_n hx hb dX12_then_47 rfl (lv_at hl 0 rfl) ?_
          refine bk_get (wf := mw) (q0 := 0) (ci := 11) (k := 37) (v := .ref (g.2.2 21)) C hP wl_X12 rfl rfl (by decide) wa_177 rfl rfl dX12_then_48 ?_
          refine lv_iconst (v := (0 : Int32)) hx hb dX12_then_51 (by decide) ?_
          obtain ⟨q6, hq6, hf⟩ := bi_s hf
          refine bk_VV (wf := mw) (q0 := 0) (ci := 11) (rest := []) [.ref (g.2.2 21), .int (0 : Int32)] C hP hD hS hl.1 (c_X12_pack_21 hXo hq6) (cwA_V 2 hts wa_895 wa_892 wa_893 wa_894 wa_5 rfl rfl nd_X12_pack ⟨Nat.le_of_ble_eq_true rfl, Nat.le_of_ble_eq_true rfl⟩) rfl rfl rfl rfl (Nat.le_of_ble_eq_true rfl) dX12_then_52 ⟨Nat.le_of_ble_eq_true rfl, Nat.le_of_ble_eq_true rfl⟩ (fun H locs hP hD hS => ?_)
          refine lv_aload_n hx hb dX12_then_55 rfl (lv_at hl 0 rfl) ?_
          refine lv_iload_n hx hb dX12_then_56 rfl (lv_at hl 2 rfl) ?_
          obtain ⟨q7, hq7, hf⟩ := bi_s hf
          refine bk_VV (wf := mw) (q0 := 0) (ci := 11) (rest := []) [.int x2] C hP hD hS hl.1 (c_X12_goOn hXo hq7) (cwA_V 1 hts wa_899 wa_896 wa_897 wa_898 wa_5 rfl rfl nd_X12_goOn ⟨Nat.le_of_ble_eq_true rfl, Nat.le_of_ble_eq_true rfl⟩) rfl rfl rfl rfl (Nat.le_of_ble_eq_true rfl) dX12_then_57 ⟨Nat.le_of_ble_eq_true rfl, Nat.le_of_ble_eq_true rfl⟩ (fun H locs hP hD hS => ?_)
          refine lv_iload_n hx hb dX12_then_60 rfl (lv_at hl 3 rfl) ?_
          refine lv_if_ne (tgt := 73) hx hb dX12_then_61 (by decide) (fun t61 => ?_) (fun t61 => ?_)
          · have hf := (if_neg t61).symm.trans hf
            refine lv_aload_n hx hb dX12_then_73 rfl (lv_at hl 0 rfl) ?_
            refine bk_get (wf := mw) (q0 := 0) (ci := 11) (k := 25) (v := .ref (g.2.2 15)) C hP wl_X12 rfl rfl (by decide) wa_170 rfl rfl dX12_then_74 ?_
            refine lv_iload_n hx hb dX12_then_77 rfl (lv_at hl 1 rfl) ?_
            obtain ⟨g8, hf⟩ := gd_s hf
            refine bk_iald (wf := mw) (q0 := 15) (n := 9) (j := x1.toNatClampNeg) C hP rfl g8 rfl dX12_then_78 ?_
            exact b_X12_then_b79 C hf H locs ls hP hD hS (lv_sub hl [0] rfl)
          · have hf := (if_pos t61).symm.trans hf
            refine lv_aload_n hx hb dX12_then_64 rfl (lv_at hl 0 rfl) ?_
            refine bk_get (wf := mw) (q0 := 0) (ci := 11) (k := 23) (v := .ref (g.2.2 13)) C hP wl_X12 rfl rfl (by decide) wa_168 rfl rfl dX12_then_65 ?_
            refine lv_iload_n hx hb dX12_then_68 rfl (lv_at hl 1 rfl) ?_
            obtain ⟨g9, hf⟩ := gd_s hf
            refine bk_iald (wf := mw) (q0 := 13) (n := 9) (j := x1.toNatClampNeg) C hP rfl g9 rfl dX12_then_69 ?_
            refine lv_goto (tgt := 79) hx hb dX12_then_70 (by decide) ?_
            exact b_X12_then_b79 C hf H locs ls hP hD hS (lv_sub hl [0] rfl)
        · have hf := (if_pos t37).symm.trans hf
          refine lv_aload_n hx hb dX12_then_40 rfl (lv_at hl 0 rfl) ?_
          refine lv_iconst (v := (2 : Int32)) hx hb dX12_then_41 (by decide) ?_
          obtain ⟨q10, hq10, hf⟩ := bi_s hf
          refine bk_VI (wf := mw) (q0 := 0) (ci := 11) (rest := []) [.int (2 : Int32)] C hP hD hS hl.1 (c_X12_fail hXo hq10) (cwA_V 1 hts wa_512 wa_509 wa_510 wa_511 wa_5 rfl rfl nd_X12_fail ⟨Nat.le_of_ble_eq_true rfl, Nat.le_of_ble_eq_true rfl⟩) rfl rfl rfl rfl (Nat.le_of_ble_eq_true rfl) dX12_then_42 ⟨Nat.le_of_ble_eq_true rfl, Nat.le_of_ble_eq_true rfl⟩ (fun H locs hP hD hS => ?_)
          cases hf
          exact bk_iret C hP hD hS rfl dX12_then_45
      · have hf := (if_neg t19).symm.trans hf
        exact b_X12_then_b22 C hf H locs ls hP hD hS (lv_sub hl [0] rfl)
theorem c_X12_then {N : Nat} {x1 : Int32} {x2 : Int32} {x3 : Int32} {σ : Sg} {z : Int32 × Sg} (hX : xOK g X) (hf : f_X12_then N x1 x2 x3 σ = some z) : MetI l yX12_then (Cond.code yX12_then cX12_then 5 (some .int) :: wsA) rm_X12_then mw g X [.ref (g.2.2 0), .int x1, .int x2, .int x3] σ z.1 z.2 :=
  MetI_of hX (by decide) (Nat.le_of_ble_eq_true rfl) (fun p e s m args below meth c A C => b_X12_then C hf)
-- X12_first: first(I)I
abbrev rm_X12_first : Room := { frames := 6, cells := 0, slots := 0, locals := 138 }
theorem nd_X12_first : yX12_first.cls ≠ "java/lang/invoke/MethodHandle" ∧ yX12_first.cls ≠ "java/lang/invoke/VarHandle" ∧ (parseMethodDescriptor yX12_first.desc).map (fun d => d.parameters.length) = some 1 := by decide +kernel
def f_X12_first_b60 (N : Nat) (x1 : Int32) (x2 : Int32) (x3 : Int32) (σ : Sg) : Option (Nat × Int32 × Int32 × Sg) :=
bd (x3 + (1 : Int32)) fun v1 =>
some (0, x2, v1, σ)
set_option maxHeartbeats 4000000 in
set_option maxRecDepth 100000 in
theorem b_X12_first_b60 {N : Nat} {x1 : Int32} {x2 : Int32} {x3 : Int32} {σ : Sg} {z : Nat × Int32 × Int32 × Sg} (C : Cx p s m args meth c cX12_first 4 (some .int) RX12 g A X) (hf : f_X12_first_b60 N x1 x2 x3 σ = some z) (k0 : z.1 = 0 → Bk mw p l e rm_X12_first s m args below meth c 4 g A Q 0 0 32 [(0, .ref (g.2.2 0)), (1, .int x1), (2, .int z.2.1), (3, .int z.2.2.1)] [] z.2.2.2) (k : ¬ z.1 = 0 → Bk mw p l e rm_X12_first s m args below meth c 4 g A Q 0 0 66 [(0, .ref (g.2.2 0)), (2, .int z.2.1)] [] z.2.2.2) : Bk mw p l e rm_X12_first s m args below meth c 4 g A Q 0 0 60 [(0, .ref (g.2.2 0)), (1, .int x1), (2, .int x2), (3, .int x3)] [] σ := by
  obtain ⟨hx, hb, hr, hml, hown, hts, hK, hlocks, hXX, hA, hXo⟩ := id C
  intro H locs ls hP hD hS hl
  unfold f_X12_first_b60 at hf
  obtain ⟨v1, ev1, hf⟩ := bd_s hf
  refine lv_iinc (v := v1) (lv' := [(3, .int v1), (0, .ref (g.2.2 0)), (1, .int x1), (2, .int x2)]) hx hb dX12_first_60 hl (k := 3) rfl (by rw [ev1]; rfl) (by decide) rfl (fun ls hl => ?_)
  refine lv_goto (tgt := 32) hx hb dX12_first_63 (by decide) ?_
  cases hf
  exact k0 rfl H locs ls hP hD hS (lv_sub hl [1, 2, 3, 0] rfl)
def s_X12_first_h32 (N : Nat) (x1 : Int32) (x2 : Int32) (x3 : Int32) (σ : Sg) : Option (Nat × Int32 × Int32 × Sg) :=
if (60 : Int32) < x3 then (some (1, x2, 0, σ))
else (if x2 = (-1 : Int32) then ((f_X12_aTick N σ).bind fun q2 =>
(f_X12_isOf N (q2 0 35) x1 q2).bind fun q3 =>
if q3.1 = 0 then (f_X12_first_b60 N x1 x2 x3 (q3.2))
else (f_X12_first_b60 N x1 x3 x3 (q3.2)))
else (some (1, x2, 0, σ)))
set_option maxHeartbeats 4000000 in
set_option maxRecDepth 100000 in
theorem e_X12_first_h32 {N : Nat} {x1 : Int32} {x2 : Int32} {x3 : Int32} {σ : Sg} {z : Nat × Int32 × Int32 × Sg} (C : Cx p s m args meth c cX12_first 4 (some .int) RX12 g A X) (hf : s_X12_first_h32 N x1 x2 x3 σ = some z) (k0 : z.1 = 0 → Bk mw p l e rm_X12_first s m args below meth c 4 g A Q 0 0 32 [(0, .ref (g.2.2 0)), (1, .int x1), (2, .int z.2.1), (3, .int z.2.2.1)] [] z.2.2.2) (k : ¬ z.1 = 0 → Bk mw p l e rm_X12_first s m args below meth c 4 g A Q 0 0 66 [(0, .ref (g.2.2 0)), (2, .int z.2.1)] [] z.2.2.2) : Bk mw p l e rm_X12_first s m args below meth c 4 g A Q 0 0 32 [(0, .ref (g.2.2 0)), (1, .int x1), (2, .int x2), (3, .int x3)] [] σ := by
  obtain ⟨hx, hb, hr, hml, hown, hts, hK, hlocks, hXX, hA, hXo⟩ := id C
  intro H locs ls hP hD hS hl
  unfold s_X12_first_h32 at hf
  refine lv_iload_n hx hb dX12_first_32 rfl (lv_at hl 3 rfl) ?_
  refine lv_bipush (v := (60 : Int32)) hx hb dX12_first_33 (by decide) ?_
  refine lv_icmp_gt (tgt := 66) hx hb dX12_first_35 (by decide) (fun t35 => ?_) (fun t35 => ?_)
  · have hf := (if_pos t35).symm.trans hf
    cases hf
    exact (k (show ¬ (1 : Nat) = 0 by decide)) H locs ls hP hD hS (lv_sub hl [0, 2] rfl)
  · have hf := (if_neg t35).symm.trans hf
    refine lv_iload_n hx hb dX12_first_38 rfl (lv_at hl 2 rfl) ?_
    refine lv_iconst (v := (-1 : Int32)) hx hb dX12_first_39 (by decide) ?_
    refine lv_icmp_ne (tgt := 66) hx hb dX12_first_40 (by decide) (fun t40 => ?_) (fun t40 => ?_)
    · have hf := (if_neg t40).symm.trans hf
      cases hf
      exact (k (show ¬ (1 : Nat) = 0 by decide)) H locs ls hP hD hS (lv_sub hl [0, 2] rfl)
    · have hf := (if_pos t40).symm.trans hf
      refine lv_aload_n hx hb dX12_first_43 rfl (lv_at hl 0 rfl) ?_
      obtain ⟨q2, hq2, hf⟩ := bi_s hf
      refine bk_VV (wf := mw) (q0 := 0) (ci := 11) (rest := []) [] C hP hD hS hl.1 (c_X12_aTick hXo hq2) (cwA_V 0 hts wa_903 wa_900 wa_901 wa_902 wa_5 rfl rfl nd_X12_aTick ⟨Nat.le_of_ble_eq_true rfl, Nat.le_of_ble_eq_true rfl⟩) rfl rfl rfl rfl (Nat.le_of_ble_eq_true rfl) dX12_first_44 ⟨Nat.le_of_ble_eq_true rfl, Nat.le_of_ble_eq_true rfl⟩ (fun H locs hP hD hS => ?_)
      refine lv_aload_n hx hb dX12_first_47 rfl (lv_at hl 0 rfl) ?_
      refine bk_get (wf := mw) (q0 := 0) (ci := 11) (k := 35) (v := .int (q2 0 35)) C hP wl_X12 rfl rfl (by decide) wa_904 rfl rfl dX12_first_48 ?_
      refine lv_iload_n hx hb dX12_first_51 rfl (lv_at hl 1 rfl) ?_
      obtain ⟨q3, hq3, hf⟩ := bi_s hf
      refine bk_SI (wf := mw) (rest := []) [.int (q2 0 35), .int x1] C hP hD hS hl.1 (c_X12_isOf hXo hq3) (cwA_S 2 hts wa_726 wa_724 wa_725 wa_5 rfl rfl nd_X12_isOf ⟨Nat.le_of_ble_eq_true rfl, Nat.le_of_ble_eq_true rfl⟩) rfl rfl (Nat.le_of_ble_eq_true rfl) dX12_first_52 ⟨Nat.le_of_ble_eq_true rfl, Nat.le_of_ble_eq_true rfl⟩ (fun H locs hP hD hS => ?_)
      refine lv_if_eq (tgt := 60) hx hb dX12_first_55 (by decide) (fun t55 => ?_) (fun t55 => ?_)
      · have hf := (if_pos t55).symm.trans hf
        exact b_X12_first_b60 C hf k0 k H locs ls hP hD hS (lv_sub hl [0, 1, 2, 3] rfl)
      · have hf := (if_neg t55).symm.trans hf
        refine lv_iload_n hx hb dX12_first_58 rfl (lv_at hl 3 rfl) ?_
        refine lv_istore_n (lv' := [(2, .int x3), (0, .ref (g.2.2 0)), (1, .int x1), (3, .int x3)]) hx hb dX12_first_59 rfl hl (by decide) rfl (fun ls hl => ?_)
        exact b_X12_first_b60 C hf k0 k H locs ls hP hD hS (lv_sub hl [1, 2, 0, 3] rfl)
theorem lp_X12_first_h32 {N : Nat} {n : Nat} {x1 : Int32} {x2 : Int32} {x3 : Int32} {σ : Sg} {z : Nat × Int32 × Int32 × Sg} (C : Cx p s m args meth c cX12_first 4 (some .int) RX12 g A X) (hz : it (fun q => s_X12_first_h32 N x1 q.1 q.2.1 q.2.2) n (x2, x3, σ) = some z) (k : Bk mw p l e rm_X12_first s m args below meth c 4 g A Q 0 0 66 [(0, .ref (g.2.2 0)), (2, .int z.2.1)] [] z.2.2.2) : Bk mw p l e rm_X12_first s m args below meth c 4 g A Q 0 0 32 [(0, .ref (g.2.2 0)), (1, .int x1), (2, .int x2), (3, .int x3)] [] σ :=
  it_W (S := Int32 × Int32 × Sg) (fun q => Bk mw p l e rm_X12_first s m args below meth c 4 g A Q 0 0 32 [(0, .ref (g.2.2 0)), (1, .int x1), (2, .int q.1), (3, .int q.2.1)] [] q.2.2) (fun z => Bk mw p l e rm_X12_first s m args below meth c 4 g A Q 0 0 66 [(0, .ref (g.2.2 0)), (2, .int z.2.1)] [] z.2.2.2) (fun q z hq k0 k => e_X12_first_h32 C hq k0 k) n (x2, x3, σ) z hz k
def f_X12_first (N : Nat) (x1 : Int32) (σ : Sg) : Option (Int32 × Sg) :=
bd (wr σ 0 2 (0 : Int32)) fun σ4 =>
(f_X12_isFarm N x1 σ4).bind fun q5 =>
if q5.1 = 0 then ((f_X12_fail N (1 : Int32) (q5.2)).bind fun q9 =>
some (q9.1, (q9.2)))
else ((f_X12_pack_21 N (0 : Int32) (q5.2)).bind fun q6 =>
(it (fun q => s_X12_first_h32 N x1 q.1 q.2.1 q.2.2) N ((-1 : Int32), (1 : Int32), q6)).bind fun z7 =>
(f_X12_unpack_21 N (0 : Int32) (z7.2.2.2)).bind fun q8 =>
some ((z7.2.1), q8))
set_option maxHeartbeats 4000000 in
set_option maxRecDepth 100000 in
theorem b_X12_first {N : Nat} {x1 : Int32} {σ : Sg} {z : Int32 × Sg} (C : Cx p s m args meth c cX12_first 4 (some .int) RX12 g A X) (hf : f_X12_first N x1 σ = some z) : Bk mw p l e rm_X12_first s m args below meth c 4 g A (MQ below (qI mw g A z.1 z.2) args s 0 0 A) 0 0 0 [(0, .ref (g.2.2 0)), (1, .int x1)] [] σ := by
  obtain ⟨hx, hb, hr, hml, hown, hts, hK, hlocks, hXX, hA, hXo⟩ := id C
  intro H locs ls hP hD hS hl
  unfold f_X12_first at hf
  refine lv_aload_n hx hb dX12_first_0 rfl (lv_at hl 0 rfl) ?_
  refine lv_iconst (v := (0 : Int32)) hx hb dX12_first_1 (by decide) ?_
  obtain ⟨σ4, eσ4, hf⟩ := bd_s hf
  refine bk_put (wf := mw) (σ1 := σ4) (q0 := 0) (ci := 11) (k := 2) (v := .int (0 : Int32)) C hP hD hS wl_X12 tyX12_ok nmX12 rfl rfl (by decide) wa_205 rfl rfl rfl rfl rfl (Nat.le_of_ble_eq_true rfl) (by rw [eσ4]; exact mw_p0_2 g _ _) dX12_first_2 (fun H locs hP hD hS => ?_)
  refine lv_aload_n hx hb dX12_first_5 rfl (lv_at hl 0 rfl) ?_
  refine lv_iload_n hx hb dX12_first_6 rfl (lv_at hl 1 rfl) ?_
  obtain ⟨q5, hq5, hf⟩ := bi_s hf
  refine bk_VI (wf := mw) (q0 := 0) (ci := 11) (rest := []) [.int x1] C hP hD hS hl.1 (c_X12_isFarm hXo hq5) (cwA_V 1 hts wa_800 wa_797 wa_798 wa_799 wa_5 rfl rfl nd_X12_isFarm ⟨Nat.le_of_ble_eq_true rfl, Nat.le_of_ble_eq_true rfl⟩) rfl rfl rfl rfl (Nat.le_of_ble_eq_true rfl) dX12_first_7 ⟨Nat.le_of_ble_eq_true rfl, Nat.le_of_ble_eq_true rfl⟩ (fun H locs hP hD hS => ?_)
  refine lv_if_ne (tgt := 19) hx hb dX12_first_10 (by decide) (fun t10 => ?_) (fun t10 => ?_)
  · have hf := (if_neg t10).symm.trans hf
    refine lv_aload_n hx hb dX12_first_19 rfl (lv_at hl 0 rfl) ?_
    refine lv_aload_n hx hb dX12_first_20 rfl (lv_at hl 0 rfl) ?_
    refine bk_get (wf := mw) (q0 := 0) (ci := 11) (k := 37) (v := .ref (g.2.2 21)) C hP wl_X12 rfl rfl (by decide) wa_177 rfl rfl dX12_first_21 ?_
    refine lv_iconst (v := (0 : Int32)) hx hb dX12_first_24 (by decide) ?_
    obtain ⟨q6, hq6, hf⟩ := bi_s hf
    refine bk_VV (wf := mw) (q0 := 0) (ci := 11) (rest := []) [.ref (g.2.2 21), .int (0 : Int32)] C hP hD hS hl.1 (c_X12_pack_21 hXo hq6) (cwA_V 2 hts wa_895 wa_892 wa_893 wa_894 wa_5 rfl rfl nd_X12_pack ⟨Nat.le_of_ble_eq_true rfl, Nat.le_of_ble_eq_true rfl⟩) rfl rfl rfl rfl (Nat.le_of_ble_eq_true rfl) dX12_first_25 ⟨Nat.le_of_ble_eq_true rfl, Nat.le_of_ble_eq_true rfl⟩ (fun H locs hP hD hS => ?_)
    refine lv_iconst (v := (-1 : Int32)) hx hb dX12_first_28 (by decide) ?_
    refine lv_istore_n (lv' := [(2, .int (-1 : Int32)), (0, .ref (g.2.2 0)), (1, .int x1)]) hx hb dX12_first_29 rfl hl (by decide) rfl (fun ls hl => ?_)
    refine lv_iconst (v := (1 : Int32)) hx hb dX12_first_30 (by decide) ?_
    refine lv_istore_n (lv' := [(3, .int (1 : Int32)), (2, .int (-1 : Int32)), (0, .ref (g.2.2 0)), (1, .int x1)]) hx hb dX12_first_31 rfl hl (by decide) rfl (fun ls hl => ?_)
    obtain ⟨z7, hz7, hf⟩ := bi_s hf
    refine lp_X12_first_h32 C hz7 ?_ H locs ls hP hD hS (lv_sub hl [2, 3, 1, 0] rfl)
    intro H locs ls hP hD hS hl
    refine lv_aload_n hx hb dX12_first_66 rfl (lv_at hl 0 rfl) ?_
    refine lv_aload_n hx hb dX12_first_67 rfl (lv_at hl 0 rfl) ?_
    refine bk_get (wf := mw) (q0 := 0) (ci := 11) (k := 37) (v := .ref (g.2.2 21)) C hP wl_X12 rfl rfl (by decide) wa_177 rfl rfl dX12_first_68 ?_
    refine lv_iconst (v := (0 : Int32)) hx hb dX12_first_71 (by decide) ?_
    obtain ⟨q8, hq8, hf⟩ := bi_s hf
    refine bk_VV (wf := mw) (q0 := 0) (ci := 11) (rest := []) [.ref (g.2.2 21), .int (0 : Int32)] C hP hD hS hl.1 (c_X12_unpack_21 hXo hq8) (cwA_V 2 hts wa_1010 wa_1007 wa_1008 wa_1009 wa_5 rfl rfl nd_X12_unpack ⟨Nat.le_of_ble_eq_true rfl, Nat.le_of_ble_eq_true rfl⟩) rfl rfl rfl rfl (Nat.le_of_ble_eq_true rfl) dX12_first_72 ⟨Nat.le_of_ble_eq_true rfl, Nat.le_of_ble_eq_true rfl⟩ (fun H locs hP hD hS => ?_)
    refine lv_iload_n hx hb dX12_first_75 rfl (lv_at hl 1 rfl) ?_
    cases hf
    exact bk_iret C hP hD hS rfl dX12_first_76
  · have hf := (if_pos t10).symm.trans hf
    refine lv_aload_n hx hb dX12_first_13 rfl (lv_at hl 0 rfl) ?_
    refine lv_iconst (v := (1 : Int32)) hx hb dX12_first_14 (by decide) ?_
    obtain ⟨q9, hq9, hf⟩ := bi_s hf
    refine bk_VI (wf := mw) (q0 := 0) (ci := 11) (rest := []) [.int (1 : Int32)] C hP hD hS hl.1 (c_X12_fail hXo hq9) (cwA_V 1 hts wa_512 wa_509 wa_510 wa_511 wa_5 rfl rfl nd_X12_fail ⟨Nat.le_of_ble_eq_true rfl, Nat.le_of_ble_eq_true rfl⟩) rfl rfl rfl rfl (Nat.le_of_ble_eq_true rfl) dX12_first_15 ⟨Nat.le_of_ble_eq_true rfl, Nat.le_of_ble_eq_true rfl⟩ (fun H locs hP hD hS => ?_)
    cases hf
    exact bk_iret C hP hD hS rfl dX12_first_18
theorem c_X12_first {N : Nat} {x1 : Int32} {σ : Sg} {z : Int32 × Sg} (hX : xOK g X) (hf : f_X12_first N x1 σ = some z) : MetI l yX12_first (Cond.code yX12_first cX12_first 4 (some .int) :: wsA) rm_X12_first mw g X [.ref (g.2.2 0), .int x1] σ z.1 z.2 :=
  MetI_of hX (by decide) (Nat.le_of_ble_eq_true rfl) (fun p e s m args below meth c A C => b_X12_first C hf)
-- X12_still: still()I
abbrev rm_X12_still : Room := { frames := 6, cells := 0, slots := 0, locals := 138 }
theorem nd_X12_still : yX12_still.cls ≠ "java/lang/invoke/MethodHandle" ∧ yX12_still.cls ≠ "java/lang/invoke/VarHandle" ∧ (parseMethodDescriptor yX12_still.desc).map (fun d => d.parameters.length) = some 0 := by decide +kernel
def f_X12_still_b38 (N : Nat) (x1 : Int32) (x2 : Int32) (σ : Sg) : Option (Nat × Int32 × Int32 × Sg) :=
(f_X12_aTick N σ).bind fun q1 =>
bd (x2 + (1 : Int32)) fun v2 =>
some (0, x1, v2, q1)
set_option maxHeartbeats 4000000 in
set_option maxRecDepth 100000 in
theorem b_X12_still_b38 {N : Nat} {x1 : Int32} {x2 : Int32} {σ : Sg} {z : Nat × Int32 × Int32 × Sg} (C : Cx p s m args meth c cX12_still 3 (some .int) RX12 g A X) (hf : f_X12_still_b38 N x1 x2 σ = some z) (k0 : z.1 = 0 → Bk mw p l e rm_X12_still s m args below meth c 3 g A Q 0 0 18 [(0, .ref (g.2.2 0)), (1, .int z.2.1), (2, .int z.2.2.1)] [] z.2.2.2) (k : ¬ z.1 = 0 → Bk mw p l e rm_X12_still s m args below meth c 3 g A Q 0 0 48 [(0, .ref (g.2.2 0)), (1, .int z.2.1)] [] z.2.2.2) : Bk mw p l e rm_X12_still s m args below meth c 3 g A Q 0 0 38 [(0, .ref (g.2.2 0)), (1, .int x1), (2, .int x2)] [] σ := by
  obtain ⟨hx, hb, hr, hml, hown, hts, hK, hlocks, hXX, hA, hXo⟩ := id C
  intro H locs ls hP hD hS hl
  unfold f_X12_still_b38 at hf
  refine lv_aload_n hx hb dX12_still_38 rfl (lv_at hl 0 rfl) ?_
  obtain ⟨q1, hq1, hf⟩ := bi_s hf
  refine bk_VV (wf := mw) (q0 := 0) (ci := 11) (rest := []) [] C hP hD hS hl.1 (c_X12_aTick hXo hq1) (cwA_V 0 hts wa_903 wa_900 wa_901 wa_902 wa_5 rfl rfl nd_X12_aTick ⟨Nat.le_of_ble_eq_true rfl, Nat.le_of_ble_eq_true rfl⟩) rfl rfl rfl rfl (Nat.le_of_ble_eq_true rfl) dX12_still_39 ⟨Nat.le_of_ble_eq_true rfl, Nat.le_of_ble_eq_true rfl⟩ (fun H locs hP hD hS => ?_)
  obtain ⟨v2, ev2, hf⟩ := bd_s hf
  refine lv_iinc (v := v2) (lv' := [(2, .int v2), (0, .ref (g.2.2 0)), (1, .int x1)]) hx hb dX12_still_42 hl (k := 2) rfl (by rw [ev2]; rfl) (by decide) rfl (fun ls hl => ?_)
  refine lv_goto (tgt := 18) hx hb dX12_still_45 (by decide) ?_
  cases hf
  exact k0 rfl H locs ls hP hD hS (lv_sub hl [1, 2, 0] rfl)
def s_X12_still_h18 (N : Nat) (x1 : Int32) (x2 : Int32) (σ : Sg) : Option (Nat × Int32 × Int32 × Sg) :=
if (60 : Int32) < x2 then (some (1, x1, 0, σ))
else (if x1 = (-1 : Int32) then ((f_X12_waitingNow N σ).bind fun q3 =>
if q3.1 = 0 then (f_X12_still_b38 N x2 x2 (q3.2))
else (f_X12_still_b38 N x1 x2 (q3.2)))
else (some (1, x1, 0, σ)))
set_option maxHeartbeats 4000000 in
set_option maxRecDepth 100000 in
theorem e_X12_still_h18 {N : Nat} {x1 : Int32} {x2 : Int32} {σ : Sg} {z : Nat × Int32 × Int32 × Sg} (C : Cx p s m args meth c cX12_still 3 (some .int) RX12 g A X) (hf : s_X12_still_h18 N x1 x2 σ = some z) (k0 : z.1 = 0 → Bk mw p l e rm_X12_still s m args below meth c 3 g A Q 0 0 18 [(0, .ref (g.2.2 0)), (1, .int z.2.1), (2, .int z.2.2.1)] [] z.2.2.2) (k : ¬ z.1 = 0 → Bk mw p l e rm_X12_still s m args below meth c 3 g A Q 0 0 48 [(0, .ref (g.2.2 0)), (1, .int z.2.1)] [] z.2.2.2) : Bk mw p l e rm_X12_still s m args below meth c 3 g A Q 0 0 18 [(0, .ref (g.2.2 0)), (1, .int x1), (2, .int x2)] [] σ := by
  obtain ⟨hx, hb, hr, hml, hown, hts, hK, hlocks, hXX, hA, hXo⟩ := id C
  intro H locs ls hP hD hS hl
  unfold s_X12_still_h18 at hf
  refine lv_iload_n hx hb dX12_still_18 rfl (lv_at hl 2 rfl) ?_
  refine lv_bipush (v := (60 : Int32)) hx hb dX12_still_19 (by decide) ?_
  refine lv_icmp_gt (tgt := 48) hx hb dX12_still_21 (by decide) (fun t21 => ?_) (fun t21 => ?_)
  · have hf := (if_pos t21).symm.trans hf
    cases hf
    exact (k (show ¬ (1 : Nat) = 0 by decide)) H locs ls hP hD hS (lv_sub hl [0, 1] rfl)
  · have hf := (if_neg t21).symm.trans hf
    refine lv_iload_n hx hb dX12_still_24 rfl (lv_at hl 1 rfl) ?_
    refine lv_iconst (v := (-1 : Int32)) hx hb dX12_still_25 (by decide) ?_
    refine lv_icmp_ne (tgt := 48) hx hb dX12_still_26 (by decide) (fun t26 => ?_) (fun t26 => ?_)
    · have hf := (if_neg t26).symm.trans hf
      cases hf
      exact (k (show ¬ (1 : Nat) = 0 by decide)) H locs ls hP hD hS (lv_sub hl [0, 1] rfl)
    · have hf := (if_pos t26).symm.trans hf
      refine lv_aload_n hx hb dX12_still_29 rfl (lv_at hl 0 rfl) ?_
      obtain ⟨q3, hq3, hf⟩ := bi_s hf
      refine bk_VI (wf := mw) (q0 := 0) (ci := 11) (rest := []) [] C hP hD hS hl.1 (c_X12_waitingNow hXo hq3) (cwA_V 0 hts wa_719 wa_716 wa_717 wa_718 wa_5 rfl rfl nd_X12_waitingNow ⟨Nat.le_of_ble_eq_true rfl, Nat.le_of_ble_eq_true rfl⟩) rfl rfl rfl rfl (Nat.le_of_ble_eq_true rfl) dX12_still_30 ⟨Nat.le_of_ble_eq_true rfl, Nat.le_of_ble_eq_true rfl⟩ (fun H locs hP hD hS => ?_)
      refine lv_if_ne (tgt := 38) hx hb dX12_still_33 (by decide) (fun t33 => ?_) (fun t33 => ?_)
      · have hf := (if_neg t33).symm.trans hf
        exact b_X12_still_b38 C hf k0 k H locs ls hP hD hS (lv_sub hl [0, 1, 2] rfl)
      · have hf := (if_pos t33).symm.trans hf
        refine lv_iload_n hx hb dX12_still_36 rfl (lv_at hl 2 rfl) ?_
        refine lv_istore_n (lv' := [(1, .int x2), (0, .ref (g.2.2 0)), (2, .int x2)]) hx hb dX12_still_37 rfl hl (by decide) rfl (fun ls hl => ?_)
        exact b_X12_still_b38 C hf k0 k H locs ls hP hD hS (lv_sub hl [1, 0, 2] rfl)
theorem lp_X12_still_h18 {N : Nat} {n : Nat} {x1 : Int32} {x2 : Int32} {σ : Sg} {z : Nat × Int32 × Int32 × Sg} (C : Cx p s m args meth c cX12_still 3 (some .int) RX12 g A X) (hz : it (fun q => s_X12_still_h18 N q.1 q.2.1 q.2.2) n (x1, x2, σ) = some z) (k : Bk mw p l e rm_X12_still s m args below meth c 3 g A Q 0 0 48 [(0, .ref (g.2.2 0)), (1, .int z.2.1)] [] z.2.2.2) : Bk mw p l e rm_X12_still s m args below meth c 3 g A Q 0 0 18 [(0, .ref (g.2.2 0)), (1, .int x1), (2, .int x2)] [] σ :=
  it_W (S := Int32 × Int32 × Sg) (fun q => Bk mw p l e rm_X12_still s m args below meth c 3 g A Q 0 0 18 [(0, .ref (g.2.2 0)), (1, .int q.1), (2, .int q.2.1)] [] q.2.2) (fun z => Bk mw p l e rm_X12_still s m args below meth c 3 g A Q 0 0 48 [(0, .ref (g.2.2 0)), (1, .int z.2.1)] [] z.2.2.2) (fun q z hq k0 k => e_X12_still_h18 C hq k0 k) n (x1, x2, σ) z hz k
def f_X12_still (N : Nat) (σ : Sg) : Option (Int32 × Sg) :=
bd (wr σ 0 2 (0 : Int32)) fun σ4 =>
(f_X12_pack_21 N (0 : Int32) σ4).bind fun q5 =>
(it (fun q => s_X12_still_h18 N q.1 q.2.1 q.2.2) N ((-1 : Int32), (0 : Int32), q5)).bind fun z6 =>
(f_X12_unpack_21 N (0 : Int32) (z6.2.2.2)).bind fun q7 =>
some ((z6.2.1), q7)
set_option maxHeartbeats 4000000 in
set_option maxRecDepth 100000 in
theorem b_X12_still {N : Nat} {σ : Sg} {z : Int32 × Sg} (C : Cx p s m args meth c cX12_still 3 (some .int) RX12 g A X) (hf : f_X12_still N σ = some z) : Bk mw p l e rm_X12_still s m args below meth c 3 g A (MQ below (qI mw g A z.1 z.2) args s 0 0 A) 0 0 0 [(0, .ref (g.2.2 0))] [] σ := by
  obtain ⟨hx, hb, hr, hml, hown, hts, hK, hlocks, hXX, hA, hXo⟩ := id C
  intro H locs ls hP hD hS hl
  unfold f_X12_still at hf
  refine lv_aload_n hx hb dX12_still_0 rfl (lv_at hl 0 rfl) ?_
  refine lv_iconst (v := (0 : Int32)) hx hb dX12_still_1 (by decide) ?_
  obtain ⟨σ4, eσ4, hf⟩ := bd_s hf
  refine bk_put (wf := mw) (σ1 := σ4) (q0 := 0) (ci := 11) (k := 2) (v := .int (0 : Int32)) C hP hD hS wl_X12 tyX12_ok nmX12 rfl rfl (by decide) wa_205 rfl rfl rfl rfl rfl (Nat.le_of_ble_eq_true rfl) (by rw [eσ4]; exact mw_p0_2 g _ _) dX12_still_2 (fun H locs hP hD hS => ?_)
  refine lv_aload_n hx hb dX12_still_5 rfl (lv_at hl 0 rfl) ?_
  refine lv_aload_n hx hb dX12_still_6 rfl (lv_at hl 0 rfl) ?_
  refine bk_get (wf := mw) (q0 := 0) (ci := 11) (k := 37) (v := .ref (g.2.2 21)) C hP wl_X12 rfl rfl (by decide) wa_177 rfl rfl dX12_still_7 ?_
  refine lv_iconst (v := (0 : Int32)) hx hb dX12_still_10 (by decide) ?_
  obtain ⟨q5, hq5, hf⟩ := bi_s hf
  refine bk_VV (wf := mw) (q0 := 0) (ci := 11) (rest := []) [.ref (g.2.2 21), .int (0 : Int32)] C hP hD hS hl.1 (c_X12_pack_21 hXo hq5) (cwA_V 2 hts wa_895 wa_892 wa_893 wa_894 wa_5 rfl rfl nd_X12_pack ⟨Nat.le_of_ble_eq_true rfl, Nat.le_of_ble_eq_true rfl⟩) rfl rfl rfl rfl (Nat.le_of_ble_eq_true rfl) dX12_still_11 ⟨Nat.le_of_ble_eq_true rfl, Nat.le_of_ble_eq_true rfl⟩ (fun H locs hP hD hS => ?_)
  refine lv_iconst (v := (-1 : Int32)) hx hb dX12_still_14 (by decide) ?_
  refine lv_istore_n (lv' := [(1, .int (-1 : Int32)), (0, .ref (g.2.2 0))]) hx hb dX12_still_15 rfl hl (by decide) rfl (fun ls hl => ?_)
  refine lv_iconst (v := (0 : Int32)) hx hb dX12_still_16 (by decide) ?_
  refine lv_istore_n (lv' := [(2, .int (0 : Int32)), (1, .int (-1 : Int32)), (0, .ref (g.2.2 0))]) hx hb dX12_still_17 rfl hl (by decide) rfl (fun ls hl => ?_)
  obtain ⟨z6, hz6, hf⟩ := bi_s hf
  refine lp_X12_still_h18 C hz6 ?_ H locs ls hP hD hS (lv_sub hl [2, 1, 0] rfl)
  intro H locs ls hP hD hS hl
  refine lv_aload_n hx hb dX12_still_48 rfl (lv_at hl 0 rfl) ?_
  refine lv_aload_n hx hb dX12_still_49 rfl (lv_at hl 0 rfl) ?_
  refine bk_get (wf := mw) (q0 := 0) (ci := 11) (k := 37) (v := .ref (g.2.2 21)) C hP wl_X12 rfl rfl (by decide) wa_177 rfl rfl dX12_still_50 ?_
  refine lv_iconst (v := (0 : Int32)) hx hb dX12_still_53 (by decide) ?_
  obtain ⟨q7, hq7, hf⟩ := bi_s hf
  refine bk_VV (wf := mw) (q0 := 0) (ci := 11) (rest := []) [.ref (g.2.2 21), .int (0 : Int32)] C hP hD hS hl.1 (c_X12_unpack_21 hXo hq7) (cwA_V 2 hts wa_1010 wa_1007 wa_1008 wa_1009 wa_5 rfl rfl nd_X12_unpack ⟨Nat.le_of_ble_eq_true rfl, Nat.le_of_ble_eq_true rfl⟩) rfl rfl rfl rfl (Nat.le_of_ble_eq_true rfl) dX12_still_54 ⟨Nat.le_of_ble_eq_true rfl, Nat.le_of_ble_eq_true rfl⟩ (fun H locs hP hD hS => ?_)
  refine lv_iload_n hx hb dX12_still_57 rfl (lv_at hl 1 rfl) ?_
  cases hf
  exact bk_iret C hP hD hS rfl dX12_still_58
theorem c_X12_still {N : Nat} {σ : Sg} {z : Int32 × Sg} (hX : xOK g X) (hf : f_X12_still N σ = some z) : MetI l yX12_still (Cond.code yX12_still cX12_still 3 (some .int) :: wsA) rm_X12_still mw g X [.ref (g.2.2 0)] σ z.1 z.2 :=
  MetI_of hX (by decide) (Nat.le_of_ble_eq_true rfl) (fun p e s m args below meth c A C => b_X12_still C hf)
-- X12_loudest: loudest(I)I
abbrev rm_X12_loudest : Room := { frames := 6, cells := 0, slots := 0, locals := 138 }
theorem nd_X12_loudest : yX12_loudest.cls ≠ "java/lang/invoke/MethodHandle" ∧ yX12_loudest.cls ≠ "java/lang/invoke/VarHandle" ∧ (parseMethodDescriptor yX12_loudest.desc).map (fun d => d.parameters.length) = some 1 := by decide +kernel
def f_X12_loudest_b74 (N : Nat) (x1 : Int32) (x2 : Int32) (x3 : Int32) (x4 : Int32) (σ : Sg) : Option (Nat × Int32 × Int32 × Int32 × Sg) :=
bd (x4 + (1 : Int32)) fun v1 =>
some (0, x2, x3, v1, σ)
set_option maxHeartbeats 4000000 in
set_option maxRecDepth 100000 in
theorem b_X12_loudest_b74 {N : Nat} {x1 : Int32} {x2 : Int32} {x3 : Int32} {x4 : Int32} {σ : Sg} {z : Nat × Int32 × Int32 × Int32 × Sg} (C : Cx p s m args meth c cX12_loudest 5 (some .int) RX12 g A X) (hf : f_X12_loudest_b74 N x1 x2 x3 x4 σ = some z) (k0 : z.1 = 0 → Bk mw p l e rm_X12_loudest s m args below meth c 5 g A Q 0 0 39 [(0, .ref (g.2.2 0)), (1, .int x1), (2, .int z.2.1), (3, .int z.2.2.1), (4, .int z.2.2.2.1)] [] z.2.2.2.2) (k : ¬ z.1 = 0 → Bk mw p l e rm_X12_loudest s m args below meth c 5 g A Q 0 0 80 [(0, .ref (g.2.2 0)), (2, .int z.2.1)] [] z.2.2.2.2) : Bk mw p l e rm_X12_loudest s m args below meth c 5 g A Q 0 0 74 [(0, .ref (g.2.2 0)), (1, .int x1), (2, .int x2), (3, .int x3), (4, .int x4)] [] σ := by
  obtain ⟨hx, hb, hr, hml, hown, hts, hK, hlocks, hXX, hA, hXo⟩ := id C
  intro H locs ls hP hD hS hl
  unfold f_X12_loudest_b74 at hf
  obtain ⟨v1, ev1, hf⟩ := bd_s hf
  refine lv_iinc (v := v1) (lv' := [(4, .int v1), (0, .ref (g.2.2 0)), (1, .int x1), (2, .int x2), (3, .int x3)]) hx hb dX12_loudest_74 hl (k := 4) rfl (by rw [ev1]; rfl) (by decide) rfl (fun ls hl => ?_)
  refine lv_goto (tgt := 39) hx hb dX12_loudest_77 (by decide) ?_
  cases hf
  exact k0 rfl H locs ls hP hD hS (lv_sub hl [1, 2, 3, 4, 0] rfl)
def s_X12_loudest_h39 (N : Nat) (x1 : Int32) (x2 : Int32) (x3 : Int32) (x4 : Int32) (σ : Sg) : Option (Nat × Int32 × Int32 × Int32 × Sg) :=
if x1 < x4 then (some (1, x2, 0, 0, σ))
else ((f_X12_aTick N σ).bind fun q2 =>
(f_X12_bitsOf N (q2 0 35) q2).bind fun q3 =>
if x3 < q3.1 then ((f_X12_bitsOf N ((q3.2) 0 35) (q3.2)).bind fun q4 =>
bd q4.1 fun v5 =>
f_X12_loudest_b74 N x1 x4 v5 x4 (q4.2))
else (f_X12_loudest_b74 N x1 x2 x3 x4 (q3.2)))
set_option maxHeartbeats 4000000 in
set_option maxRecDepth 100000 in
theorem e_X12_loudest_h39 {N : Nat} {x1 : Int32} {x2 : Int32} {x3 : Int32} {x4 : Int32} {σ : Sg} {z : Nat × Int32 × Int32 × Int32 × Sg} (C : Cx p s m args meth c cX12_loudest 5 (some .int) RX12 g A X) (hf : s_X12_loudest_h39 N x1 x2 x3 x4 σ = some z) (k0 : z.1 = 0 → Bk mw p l e rm_X12_loudest s m args below meth c 5 g A Q 0 0 39 [(0, .ref (g.2.2 0)), (1, .int x1), (2, .int z.2.1), (3, .int z.2.2.1), (4, .int z.2.2.2.1)] [] z.2.2.2.2) (k : ¬ z.1 = 0 → Bk mw p l e rm_X12_loudest s m args below meth c 5 g A Q 0 0 80 [(0, .ref (g.2.2 0)), (2, .int z.2.1)] [] z.2.2.2.2) : Bk mw p l e rm_X12_loudest s m args below meth c 5 g A Q 0 0 39 [(0, .ref (g.2.2 0)), (1, .int x1), (2, .int x2), (3, .int x3), (4, .int x4)] [] σ := by
  obtain ⟨hx, hb, hr, hml, hown, hts, hK, hlocks, hXX, hA, hXo⟩ := id C
  intro H locs ls hP hD hS hl
  unfold s_X12_loudest_h39 at hf
  refine lv_iload hx hb dX12_loudest_39 (lv_at hl 4 rfl) ?_
  refine lv_iload_n hx hb dX12_loudest_41 rfl (lv_at hl 1 rfl) ?_
  refine lv_icmp_gt (tgt := 80) hx hb dX12_loudest_42 (by decide) (fun t42 => ?_) (fun t42 => ?_)
  · have hf := (if_pos t42).symm.trans hf
    cases hf
    exact (k (show ¬ (1 : Nat) = 0 by decide)) H locs ls hP hD hS (lv_sub hl [0, 2] rfl)
  · have hf := (if_neg t42).symm.trans hf
    refine lv_aload_n hx hb dX12_loudest_45 rfl (lv_at hl 0 rfl) ?_
    obtain ⟨q2, hq2, hf⟩ := bi_s hf
    refine bk_VV (wf := mw) (q0 := 0) (ci := 11) (rest := []) [] C hP hD hS hl.1 (c_X12_aTick hXo hq2) (cwA_V 0 hts wa_903 wa_900 wa_901 wa_902 wa_5 rfl rfl nd_X12_aTick ⟨Nat.le_of_ble_eq_true rfl, Nat.le_of_ble_eq_true rfl⟩) rfl rfl rfl rfl (Nat.le_of_ble_eq_true rfl) dX12_loudest_46 ⟨Nat.le_of_ble_eq_true rfl, Nat.le_of_ble_eq_true rfl⟩ (fun H locs hP hD hS => ?_)
    refine lv_aload_n hx hb dX12_loudest_49 rfl (lv_at hl 0 rfl) ?_
    refine bk_get (wf := mw) (q0 := 0) (ci := 11) (k := 35) (v := .int (q2 0 35)) C hP wl_X12 rfl rfl (by decide) wa_904 rfl rfl dX12_loudest_50 ?_
    obtain ⟨q3, hq3, hf⟩ := bi_s hf
    refine bk_SI (wf := mw) (rest := []) [.int (q2 0 35)] C hP hD hS hl.1 (c_X12_bitsOf hXo hq3) (cwA_S 1 hts wa_769 wa_767 wa_768 wa_5 rfl rfl nd_X12_bitsOf ⟨Nat.le_of_ble_eq_true rfl, Nat.le_of_ble_eq_true rfl⟩) rfl rfl (Nat.le_of_ble_eq_true rfl) dX12_loudest_53 ⟨Nat.le_of_ble_eq_true rfl, Nat.le_of_ble_eq_true rfl⟩ (fun H locs hP hD hS => ?_)
    refine lv_iload_n hx hb dX12_loudest_56 rfl (lv_at hl 3 rfl) ?_
    refine lv_icmp_gt (tgt := 63) hx hb dX12_loudest_57 (by decide) (fun t57 => ?_) (fun t57 => ?_)
    · have hf := (if_pos t57).symm.trans hf
      refine lv_iload hx hb dX12_loudest_63 (lv_at hl 4 rfl) ?_
      refine lv_istore_n (lv' := [(2, .int x4), (0, .ref (g.2.2 0)), (1, .int x1), (3, .int x3), (4, .int x4)]) hx hb dX12_loudest_65 rfl hl (by decide) rfl (fun ls hl => ?_)
      refine lv_aload_n hx hb dX12_loudest_66 rfl (lv_at hl 1 rfl) ?_
      refine bk_get (wf := mw) (q0 := 0) (ci := 11) (k := 35) (v := .int ((q3.2) 0 35)) C hP wl_X12 rfl rfl (by decide) wa_904 rfl rfl dX12_loudest_67 ?_
      obtain ⟨q4, hq4, hf⟩ := bi_s hf
      refine bk_SI (wf := mw) (rest := []) [.int ((q3.2) 0 35)] C hP hD hS hl.1 (c_X12_bitsOf hXo hq4) (cwA_S 1 hts wa_769 wa_767 wa_768 wa_5 rfl rfl nd_X12_bitsOf ⟨Nat.le_of_ble_eq_true rfl, Nat.le_of_ble_eq_true rfl⟩) rfl rfl (Nat.le_of_ble_eq_true rfl) dX12_loudest_70 ⟨Nat.le_of_ble_eq_true rfl, Nat.le_of_ble_eq_true rfl⟩ (fun H locs hP hD hS => ?_)
      obtain ⟨v5, ev5, hf⟩ := bd_s hf
      rw [← ev5]
      refine lv_istore_n (lv' := [(3, .int v5), (2, .int x4), (0, .ref (g.2.2 0)), (1, .int x1), (4, .int x4)]) hx hb dX12_loudest_73 rfl hl (by decide) rfl (fun ls hl => ?_)
      exact b_X12_loudest_b74 C hf k0 k H locs ls hP hD hS (lv_sub hl [2, 3, 1, 0, 4] rfl)
    · have hf := (if_neg t57).symm.trans hf
      refine lv_goto (tgt := 74) hx hb dX12_loudest_60 (by decide) ?_
      exact b_X12_loudest_b74 C hf k0 k H locs ls hP hD hS (lv_sub hl [0, 1, 2, 3, 4] rfl)
theorem lp_X12_loudest_h39 {N : Nat} {n : Nat} {x1 : Int32} {x2 : Int32} {x3 : Int32} {x4 : Int32} {σ : Sg} {z : Nat × Int32 × Int32 × Int32 × Sg} (C : Cx p s m args meth c cX12_loudest 5 (some .int) RX12 g A X) (hz : it (fun q => s_X12_loudest_h39 N x1 q.1 q.2.1 q.2.2.1 q.2.2.2) n (x2, x3, x4, σ) = some z) (k : Bk mw p l e rm_X12_loudest s m args below meth c 5 g A Q 0 0 80 [(0, .ref (g.2.2 0)), (2, .int z.2.1)] [] z.2.2.2.2) : Bk mw p l e rm_X12_loudest s m args below meth c 5 g A Q 0 0 39 [(0, .ref (g.2.2 0)), (1, .int x1), (2, .int x2), (3, .int x3), (4, .int x4)] [] σ :=
  it_W (S := Int32 × Int32 × Int32 × Sg) (fun q => Bk mw p l e rm_X12_loudest s m args below meth c 5 g A Q 0 0 39 [(0, .ref (g.2.2 0)), (1, .int x1), (2, .int q.1), (3, .int q.2.1), (4, .int q.2.2.1)] [] q.2.2.2) (fun z => Bk mw p l e rm_X12_loudest s m args below meth c 5 g A Q 0 0 80 [(0, .ref (g.2.2 0)), (2, .int z.2.1)] [] z.2.2.2.2) (fun q z hq k0 k => e_X12_loudest_h39 C hq k0 k) n (x2, x3, x4, σ) z hz k
def f_X12_loudest (N : Nat) (x1 : Int32) (σ : Sg) : Option (Int32 × Sg) :=
bd (wr σ 0 2 (0 : Int32)) fun σ6 =>
(f_X12_isIn N (x1).toInt64 (1 : Int64) (60 : Int64) σ6).bind fun q7 =>
if q7.1 = 0 then ((f_X12_fail N (1 : Int32) (q7.2)).bind fun q11 =>
some (q11.1, (q11.2)))
else ((f_X12_pack_21 N (0 : Int32) (q7.2)).bind fun q8 =>
(it (fun q => s_X12_loudest_h39 N x1 q.1 q.2.1 q.2.2.1 q.2.2.2) N ((-1 : Int32), (-1 : Int32), (1 : Int32), q8)).bind fun z9 =>
(f_X12_unpack_21 N (0 : Int32) (z9.2.2.2.2)).bind fun q10 =>
some ((z9.2.1), q10))
set_option maxHeartbeats 4000000 in
set_option maxRecDepth 100000 in
theorem b_X12_loudest {N : Nat} {x1 : Int32} {σ : Sg} {z : Int32 × Sg} (C : Cx p s m args meth c cX12_loudest 5 (some .int) RX12 g A X) (hf : f_X12_loudest N x1 σ = some z) : Bk mw p l e rm_X12_loudest s m args below meth c 5 g A (MQ below (qI mw g A z.1 z.2) args s 0 0 A) 0 0 0 [(0, .ref (g.2.2 0)), (1, .int x1)] [] σ := by
  obtain ⟨hx, hb, hr, hml, hown, hts, hK, hlocks, hXX, hA, hXo⟩ := id C
  intro H locs ls hP hD hS hl
  unfold f_X12_loudest at hf
  refine lv_aload_n hx hb dX12_loudest_0 rfl (lv_at hl 0 rfl) ?_
  refine lv_iconst (v := (0 : Int32)) hx hb dX12_loudest_1 (by decide) ?_
  obtain ⟨σ6, eσ6, hf⟩ := bd_s hf
  refine bk_put (wf := mw) (σ1 := σ6) (q0 := 0) (ci := 11) (k := 2) (v := .int (0 : Int32)) C hP hD hS wl_X12 tyX12_ok nmX12 rfl rfl (by decide) wa_205 rfl rfl rfl rfl rfl (Nat.le_of_ble_eq_true rfl) (by rw [eσ6]; exact mw_p0_2 g _ _) dX12_loudest_2 (fun H locs hP hD hS => ?_)
  refine lv_iload_n hx hb dX12_loudest_5 rfl (lv_at hl 1 rfl) ?_
  refine lv_i2l hx hb dX12_loudest_6 rfl ?_
  refine lv_lconst (v := (1 : Int64)) hx hb dX12_loudest_7 (by decide) ?_
  refine lv_ldc2 (v := (60 : Int64)) hx hb hown (hts _ wa_1025) dX12_loudest_8 ?_
  obtain ⟨q7, hq7, hf⟩ := bi_s hf
  refine bk_SI (wf := mw) (rest := []) [.long (x1).toInt64, .long (1 : Int64), .long (60 : Int64)] C hP hD hS hl.1 (c_X12_isIn hXo hq7) (cwA_S 3 hts wa_803 wa_801 wa_802 wa_5 rfl rfl nd_X12_isIn ⟨Nat.le_of_ble_eq_true rfl, Nat.le_of_ble_eq_true rfl⟩) rfl rfl (Nat.le_of_ble_eq_true rfl) dX12_loudest_11 ⟨Nat.le_of_ble_eq_true rfl, Nat.le_of_ble_eq_true rfl⟩ (fun H locs hP hD hS => ?_)
  refine lv_if_ne (tgt := 23) hx hb dX12_loudest_14 (by decide) (fun t14 => ?_) (fun t14 => ?_)
  · have hf := (if_neg t14).symm.trans hf
    refine lv_aload_n hx hb dX12_loudest_23 rfl (lv_at hl 0 rfl) ?_
    refine lv_aload_n hx hb dX12_loudest_24 rfl (lv_at hl 0 rfl) ?_
    refine bk_get (wf := mw) (q0 := 0) (ci := 11) (k := 37) (v := .ref (g.2.2 21)) C hP wl_X12 rfl rfl (by decide) wa_177 rfl rfl dX12_loudest_25 ?_
    refine lv_iconst (v := (0 : Int32)) hx hb dX12_loudest_28 (by decide) ?_
    obtain ⟨q8, hq8, hf⟩ := bi_s hf
    refine bk_VV (wf := mw) (q0 := 0) (ci := 11) (rest := []) [.ref (g.2.2 21), .int (0 : Int32)] C hP hD hS hl.1 (c_X12_pack_21 hXo hq8) (cwA_V 2 hts wa_895 wa_892 wa_893 wa_894 wa_5 rfl rfl nd_X12_pack ⟨Nat.le_of_ble_eq_true rfl, Nat.le_of_ble_eq_true rfl⟩) rfl rfl rfl rfl (Nat.le_of_ble_eq_true rfl) dX12_loudest_29 ⟨Nat.le_of_ble_eq_true rfl, Nat.le_of_ble_eq_true rfl⟩ (fun H locs hP hD hS => ?_)
    refine lv_iconst (v := (-1 : Int32)) hx hb dX12_loudest_32 (by decide) ?_
    refine lv_istore_n (lv' := [(2, .int (-1 : Int32)), (0, .ref (g.2.2 0)), (1, .int x1)]) hx hb dX12_loudest_33 rfl hl (by decide) rfl (fun ls hl => ?_)
    refine lv_iconst (v := (-1 : Int32)) hx hb dX12_loudest_34 (by decide) ?_
    refine lv_istore_n (lv' := [(3, .int (-1 : Int32)), (2, .int (-1 : Int32)), (0, .ref (g.2.2 0)), (1, .int x1)]) hx hb dX12_loudest_35 rfl hl (by decide) rfl (fun ls hl => ?_)
    refine lv_iconst (v := (1 : Int32)) hx hb dX12_loudest_36 (by decide) ?_
    refine lv_istore (lv' := [(4, .int (1 : Int32)), (3, .int (-1 : Int32)), (2, .int (-1 : Int32)), (0, .ref (g.2.2 0)), (1, .int x1)]) hx hb dX12_loudest_37 hl (by decide) rfl (fun ls hl => ?_)
    obtain ⟨z9, hz9, hf⟩ := bi_s hf
    refine lp_X12_loudest_h39 C hz9 ?_ H locs ls hP hD hS (lv_sub hl [3, 4, 2, 1, 0] rfl)
    intro H locs ls hP hD hS hl
    refine lv_aload_n hx hb dX12_loudest_80 rfl (lv_at hl 0 rfl) ?_
    refine lv_aload_n hx hb dX12_loudest_81 rfl (lv_at hl 0 rfl) ?_
    refine bk_get (wf := mw) (q0 := 0) (ci := 11) (k := 37) (v := .ref (g.2.2 21)) C hP wl_X12 rfl rfl (by decide) wa_177 rfl rfl dX12_loudest_82 ?_
    refine lv_iconst (v := (0 : Int32)) hx hb dX12_loudest_85 (by decide) ?_
    obtain ⟨q10, hq10, hf⟩ := bi_s hf
    refine bk_VV (wf := mw) (q0 := 0) (ci := 11) (rest := []) [.ref (g.2.2 21), .int (0 : Int32)] C hP hD hS hl.1 (c_X12_unpack_21 hXo hq10) (cwA_V 2 hts wa_1010 wa_1007 wa_1008 wa_1009 wa_5 rfl rfl nd_X12_unpack ⟨Nat.le_of_ble_eq_true rfl, Nat.le_of_ble_eq_true rfl⟩) rfl rfl rfl rfl (Nat.le_of_ble_eq_true rfl) dX12_loudest_86 ⟨Nat.le_of_ble_eq_true rfl, Nat.le_of_ble_eq_true rfl⟩ (fun H locs hP hD hS => ?_)
    refine lv_iload_n hx hb dX12_loudest_89 rfl (lv_at hl 1 rfl) ?_
    cases hf
    exact bk_iret C hP hD hS rfl dX12_loudest_90
  · have hf := (if_pos t14).symm.trans hf
    refine lv_aload_n hx hb dX12_loudest_17 rfl (lv_at hl 0 rfl) ?_
    refine lv_iconst (v := (1 : Int32)) hx hb dX12_loudest_18 (by decide) ?_
    obtain ⟨q11, hq11, hf⟩ := bi_s hf
    refine bk_VI (wf := mw) (q0 := 0) (ci := 11) (rest := []) [.int (1 : Int32)] C hP hD hS hl.1 (c_X12_fail hXo hq11) (cwA_V 1 hts wa_512 wa_509 wa_510 wa_511 wa_5 rfl rfl nd_X12_fail ⟨Nat.le_of_ble_eq_true rfl, Nat.le_of_ble_eq_true rfl⟩) rfl rfl rfl rfl (Nat.le_of_ble_eq_true rfl) dX12_loudest_19 ⟨Nat.le_of_ble_eq_true rfl, Nat.le_of_ble_eq_true rfl⟩ (fun H locs hP hD hS => ?_)
    cases hf
    exact bk_iret C hP hD hS rfl dX12_loudest_22
theorem c_X12_loudest {N : Nat} {x1 : Int32} {σ : Sg} {z : Int32 × Sg} (hX : xOK g X) (hf : f_X12_loudest N x1 σ = some z) : MetI l yX12_loudest (Cond.code yX12_loudest cX12_loudest 5 (some .int) :: wsA) rm_X12_loudest mw g X [.ref (g.2.2 0), .int x1] σ z.1 z.2 :=
  MetI_of hX (by decide) (Nat.le_of_ble_eq_true rfl) (fun p e s m args below meth c A C => b_X12_loudest C hf)
-- X12_oftenest: oftenest(I)I
abbrev rm_X12_oftenest : Room := { frames := 6, cells := 0, slots := 0, locals := 138 }
theorem nd_X12_oftenest : yX12_oftenest.cls ≠ "java/lang/invoke/MethodHandle" ∧ yX12_oftenest.cls ≠ "java/lang/invoke/VarHandle" ∧ (parseMethodDescriptor yX12_oftenest.desc).map (fun d => d.parameters.length) = some 1 := by decide +kernel
def f_X12_oftenest_b150 (N : Nat) (x2 : Int32) (x3 : Int32) (σ : Sg) : Option (Nat × Int32 × Int32 × Sg) :=
bd (x3 + (1 : Int32)) fun v1 =>
some (0, x2, v1, σ)
set_option maxHeartbeats 4000000 in
set_option maxRecDepth 100000 in
theorem b_X12_oftenest_b150 {N : Nat} {x2 : Int32} {x3 : Int32} {σ : Sg} {z : Nat × Int32 × Int32 × Sg} (C : Cx p s m args meth c cX12_oftenest 4 (some .int) RX12 g A X) (hf : f_X12_oftenest_b150 N x2 x3 σ = some z) (k0 : z.1 = 0 → Bk mw p l e rm_X12_oftenest s m args below meth c 4 g A Q 0 0 118 [(0, .ref (g.2.2 0)), (2, .int z.2.1), (3, .int z.2.2.1)] [] z.2.2.2) (k : ¬ z.1 = 0 → Bk mw p l e rm_X12_oftenest s m args below meth c 4 g A Q 0 0 156 [(2, .int z.2.1)] [] z.2.2.2) : Bk mw p l e rm_X12_oftenest s m args below meth c 4 g A Q 0 0 150 [(0, .ref (g.2.2 0)), (2, .int x2), (3, .int x3)] [] σ := by
  obtain ⟨hx, hb, hr, hml, hown, hts, hK, hlocks, hXX, hA, hXo⟩ := id C
  intro H locs ls hP hD hS hl
  unfold f_X12_oftenest_b150 at hf
  obtain ⟨v1, ev1, hf⟩ := bd_s hf
  refine lv_iinc (v := v1) (lv' := [(3, .int v1), (0, .ref (g.2.2 0)), (2, .int x2)]) hx hb dX12_oftenest_150 hl (k := 2) rfl (by rw [ev1]; rfl) (by decide) rfl (fun ls hl => ?_)
  refine lv_goto (tgt := 118) hx hb dX12_oftenest_153 (by decide) ?_
  cases hf
  exact k0 rfl H locs ls hP hD hS (lv_sub hl [1, 2, 0] rfl)
def f_X12_oftenest_b148 (N : Nat) (x3 : Int32) (σ : Sg) : Option (Nat × Int32 × Int32 × Sg) :=
f_X12_oftenest_b150 N x3 x3 σ
set_option maxHeartbeats 4000000 in
set_option maxRecDepth 100000 in
theorem b_X12_oftenest_b148 {N : Nat} {x3 : Int32} {σ : Sg} {z : Nat × Int32 × Int32 × Sg} (C : Cx p s m args meth c cX12_oftenest 4 (some .int) RX12 g A X) (hf : f_X12_oftenest_b148 N x3 σ = some z) (k0 : z.1 = 0 → Bk mw p l e rm_X12_oftenest s m args below meth c 4 g A Q 0 0 118 [(0, .ref (g.2.2 0)), (2, .int z.2.1), (3, .int z.2.2.1)] [] z.2.2.2) (k : ¬ z.1 = 0 → Bk mw p l e rm_X12_oftenest s m args below meth c 4 g A Q 0 0 156 [(2, .int z.2.1)] [] z.2.2.2) : Bk mw p l e rm_X12_oftenest s m args below meth c 4 g A Q 0 0 148 [(0, .ref (g.2.2 0)), (3, .int x3)] [] σ := by
  obtain ⟨hx, hb, hr, hml, hown, hts, hK, hlocks, hXX, hA, hXo⟩ := id C
  intro H locs ls hP hD hS hl
  unfold f_X12_oftenest_b148 at hf
  refine lv_iload_n hx hb dX12_oftenest_148 rfl (lv_at hl 1 rfl) ?_
  refine lv_istore_n (lv' := [(2, .int x3), (0, .ref (g.2.2 0)), (3, .int x3)]) hx hb dX12_oftenest_149 rfl hl (by decide) rfl (fun ls hl => ?_)
  exact b_X12_oftenest_b150 C hf k0 k H locs ls hP hD hS (lv_sub hl [1, 0, 2] rfl)
def s_X12_oftenest_h118 (N : Nat) (x2 : Int32) (x3 : Int32) (σ : Sg) : Option (Nat × Int32 × Int32 × Sg) :=
if (σ 3 0) ≤ x3 then (some (1, x2, 0, σ))
else (if x2 = (-1 : Int32) then (f_X12_oftenest_b148 N x3 σ)
else (if (x3 < 0 ∨ 9 ≤ x3.toNatClampNeg) then none else
if (x2 < 0 ∨ 9 ≤ x2.toNatClampNeg) then none else
if (σ 22 x3.toNatClampNeg) ≤ (σ 22 x2.toNatClampNeg) then (f_X12_oftenest_b150 N x2 x3 σ)
else (f_X12_oftenest_b148 N x3 σ)))
set_option maxHeartbeats 4000000 in
set_option maxRecDepth 100000 in
theorem e_X12_oftenest_h118 {N : Nat} {x2 : Int32} {x3 : Int32} {σ : Sg} {z : Nat × Int32 × Int32 × Sg} (C : Cx p s m args meth c cX12_oftenest 4 (some .int) RX12 g A X) (hf : s_X12_oftenest_h118 N x2 x3 σ = some z) (k0 : z.1 = 0 → Bk mw p l e rm_X12_oftenest s m args below meth c 4 g A Q 0 0 118 [(0, .ref (g.2.2 0)), (2, .int z.2.1), (3, .int z.2.2.1)] [] z.2.2.2) (k : ¬ z.1 = 0 → Bk mw p l e rm_X12_oftenest s m args below meth c 4 g A Q 0 0 156 [(2, .int z.2.1)] [] z.2.2.2) : Bk mw p l e rm_X12_oftenest s m args below meth c 4 g A Q 0 0 118 [(0, .ref (g.2.2 0)), (2, .int x2), (3, .int x3)] [] σ := by
  obtain ⟨hx, hb, hr, hml, hown, hts, hK, hlocks, hXX, hA, hXo⟩ := id C
  intro H locs ls hP hD hS hl
  unfold s_X12_oftenest_h118 at hf
  refine lv_iload_n hx hb dX12_oftenest_118 rfl (lv_at hl 2 rfl) ?_
  refine lv_aload_n hx hb dX12_oftenest_119 rfl (lv_at hl 0 rfl) ?_
  refine bk_get (wf := mw) (q0 := 0) (ci := 11) (k := 3) (v := .ref (g.2.2 3)) C hP wl_X12 rfl rfl (by decide) wa_157 rfl rfl dX12_oftenest_120 ?_
  refine lv_iconst (v := (0 : Int32)) hx hb dX12_oftenest_123 (by decide) ?_
  refine bk_iald (wf := mw) (q0 := 3) (n := 10) (j := 0) C hP rfl (vin_l (by decide) (by decide)) (by decide) dX12_oftenest_124 ?_
  refine lv_icmp_ge (tgt := 156) hx hb dX12_oftenest_125 (by decide) (fun t125 => ?_) (fun t125 => ?_)
  · have hf := (if_pos t125).symm.trans hf
    cases hf
    exact (k (show ¬ (1 : Nat) = 0 by decide)) H locs ls hP hD hS (lv_sub hl [1] rfl)
  · have hf := (if_neg t125).symm.trans hf
    refine lv_iload_n hx hb dX12_oftenest_128 rfl (lv_at hl 1 rfl) ?_
    refine lv_iconst (v := (-1 : Int32)) hx hb dX12_oftenest_129 (by decide) ?_
    refine lv_icmp_eq (tgt := 148) hx hb dX12_oftenest_130 (by decide) (fun t130 => ?_) (fun t130 => ?_)
    · have hf := (if_pos t130).symm.trans hf
      exact b_X12_oftenest_b148 C hf k0 k H locs ls hP hD hS (lv_sub hl [0, 2] rfl)
    · have hf := (if_neg t130).symm.trans hf
      refine lv_aload_n hx hb dX12_oftenest_133 rfl (lv_at hl 0 rfl) ?_
      refine bk_get (wf := mw) (q0 := 0) (ci := 11) (k := 38) (v := .ref (g.2.2 22)) C hP wl_X12 rfl rfl (by decide) wa_178 rfl rfl dX12_oftenest_134 ?_
      refine lv_iload_n hx hb dX12_oftenest_137 rfl (lv_at hl 2 rfl) ?_
      obtain ⟨g2, hf⟩ := gd_s hf
      refine bk_iald (wf := mw) (q0 := 22) (n := 9) (j := x3.toNatClampNeg) C hP rfl g2 rfl dX12_oftenest_138 ?_
      refine lv_aload_n hx hb dX12_oftenest_139 rfl (lv_at hl 0 rfl) ?_
      refine bk_get (wf := mw) (q0 := 0) (ci := 11) (k := 38) (v := .ref (g.2.2 22)) C hP wl_X12 rfl rfl (by decide) wa_178 rfl rfl dX12_oftenest_140 ?_
      refine lv_iload_n hx hb dX12_oftenest_143 rfl (lv_at hl 1 rfl) ?_
      obtain ⟨g3, hf⟩ := gd_s hf
      refine bk_iald (wf := mw) (q0 := 22) (n := 9) (j := x2.toNatClampNeg) C hP rfl g3 rfl dX12_oftenest_144 ?_
      refine lv_icmp_le (tgt := 150) hx hb dX12_oftenest_145 (by decide) (fun t145 => ?_) (fun t145 => ?_)
      · have hf := (if_pos t145).symm.trans hf
        exact b_X12_oftenest_b150 C hf k0 k H locs ls hP hD hS (lv_sub hl [0, 1, 2] rfl)
      · have hf := (if_neg t145).symm.trans hf
        exact b_X12_oftenest_b148 C hf k0 k H locs ls hP hD hS (lv_sub hl [0, 2] rfl)
theorem lp_X12_oftenest_h118 {N : Nat} {n : Nat} {x2 : Int32} {x3 : Int32} {σ : Sg} {z : Nat × Int32 × Int32 × Sg} (C : Cx p s m args meth c cX12_oftenest 4 (some .int) RX12 g A X) (hz : it (fun q => s_X12_oftenest_h118 N q.1 q.2.1 q.2.2) n (x2, x3, σ) = some z) (k : Bk mw p l e rm_X12_oftenest s m args below meth c 4 g A Q 0 0 156 [(2, .int z.2.1)] [] z.2.2.2) : Bk mw p l e rm_X12_oftenest s m args below meth c 4 g A Q 0 0 118 [(0, .ref (g.2.2 0)), (2, .int x2), (3, .int x3)] [] σ :=
  it_W (S := Int32 × Int32 × Sg) (fun q => Bk mw p l e rm_X12_oftenest s m args below meth c 4 g A Q 0 0 118 [(0, .ref (g.2.2 0)), (2, .int q.1), (3, .int q.2.1)] [] q.2.2) (fun z => Bk mw p l e rm_X12_oftenest s m args below meth c 4 g A Q 0 0 156 [(2, .int z.2.1)] [] z.2.2.2) (fun q z hq k0 k => e_X12_oftenest_h118 C hq k0 k) n (x2, x3, σ) z hz k
def s_X12_oftenest_h66 (N : Nat) (x1 : Int32) (x2 : Int32) (x3 : Int32) (σ : Sg) : Option (Nat × Int32 × Sg) :=
if (σ 3 0) ≤ x3 then (some (1, 0, σ))
else (if (x3 < 0 ∨ 9 ≤ x3.toNatClampNeg) then none else
if (x3 < 0 ∨ 9 ≤ x3.toNatClampNeg) then none else
bd (wr σ 22 (x3.toNatClampNeg) ((σ 22 x3.toNatClampNeg) + (((σ 0 35) >>> (x3 &&& 31)) &&& (1 : Int32)))) fun σ6 =>
bd (x3 + (1 : Int32)) fun v7 =>
some (0, v7, σ6))
set_option maxHeartbeats 4000000 in
set_option maxRecDepth 100000 in
theorem e_X12_oftenest_h66 {N : Nat} {x1 : Int32} {x2 : Int32} {x3 : Int32} {σ : Sg} {z : Nat × Int32 × Sg} (C : Cx p s m args meth c cX12_oftenest 4 (some .int) RX12 g A X) (hf : s_X12_oftenest_h66 N x1 x2 x3 σ = some z) (k0 : z.1 = 0 → Bk mw p l e rm_X12_oftenest s m args below meth c 4 g A Q 0 0 66 [(0, .ref (g.2.2 0)), (1, .int x1), (2, .int x2), (3, .int z.2.1)] [] z.2.2) (k : ¬ z.1 = 0 → Bk mw p l e rm_X12_oftenest s m args below meth c 4 g A Q 0 0 99 [(0, .ref (g.2.2 0)), (1, .int x1), (2, .int x2)] [] z.2.2) : Bk mw p l e rm_X12_oftenest s m args below meth c 4 g A Q 0 0 66 [(0, .ref (g.2.2 0)), (1, .int x1), (2, .int x2), (3, .int x3)] [] σ := by
  obtain ⟨hx, hb, hr, hml, hown, hts, hK, hlocks, hXX, hA, hXo⟩ := id C
  intro H locs ls hP hD hS hl
  unfold s_X12_oftenest_h66 at hf
  refine lv_iload_n hx hb dX12_oftenest_66 rfl (lv_at hl 3 rfl) ?_
  refine lv_aload_n hx hb dX12_oftenest_67 rfl (lv_at hl 0 rfl) ?_
  refine bk_get (wf := mw) (q0 := 0) (ci := 11) (k := 3) (v := .ref (g.2.2 3)) C hP wl_X12 rfl rfl (by decide) wa_157 rfl rfl dX12_oftenest_68 ?_
  refine lv_iconst (v := (0 : Int32)) hx hb dX12_oftenest_71 (by decide) ?_
  refine bk_iald (wf := mw) (q0 := 3) (n := 10) (j := 0) C hP rfl (vin_l (by decide) (by decide)) (by decide) dX12_oftenest_72 ?_
  refine lv_icmp_ge (tgt := 99) hx hb dX12_oftenest_73 (by decide) (fun t73 => ?_) (fun t73 => ?_)
  · have hf := (if_pos t73).symm.trans hf
    cases hf
    exact (k (show ¬ (1 : Nat) = 0 by decide)) H locs ls hP hD hS (lv_sub hl [0, 1, 2] rfl)
  · have hf := (if_neg t73).symm.trans hf
    refine lv_aload_n hx hb dX12_oftenest_76 rfl (lv_at hl 0 rfl) ?_
    refine bk_get (wf := mw) (q0 := 0) (ci := 11) (k := 38) (v := .ref (g.2.2 22)) C hP wl_X12 rfl rfl (by decide) wa_178 rfl rfl dX12_oftenest_77 ?_
    refine lv_iload_n hx hb dX12_oftenest_80 rfl (lv_at hl 3 rfl) ?_
    refine lv_dup2_11 hx hb dX12_oftenest_81 rfl rfl ?_
    obtain ⟨g4, hf⟩ := gd_s hf
    refine bk_iald (wf := mw) (q0 := 22) (n := 9) (j := x3.toNatClampNeg) C hP rfl g4 rfl dX12_oftenest_82 ?_
    refine lv_aload_n hx hb dX12_oftenest_83 rfl (lv_at hl 0 rfl) ?_
    refine bk_get (wf := mw) (q0 := 0) (ci := 11) (k := 35) (v := .int (σ 0 35)) C hP wl_X12 rfl rfl (by decide) wa_904 rfl rfl dX12_oftenest_84 ?_
    refine lv_iload_n hx hb dX12_oftenest_87 rfl (lv_at hl 3 rfl) ?_
    refine lv_ishr hx hb dX12_oftenest_88 ?_
    refine lv_iconst (v := (1 : Int32)) hx hb dX12_oftenest_89 (by decide) ?_
    refine lv_iand hx hb dX12_oftenest_90 ?_
    refine lv_iadd hx hb dX12_oftenest_91 ?_
    obtain ⟨g5, hf⟩ := gd_s hf
    obtain ⟨σ6, eσ6, hf⟩ := bd_s hf
    refine bk_iast (wf := mw) (σ1 := σ6) (q0 := 22) (n := 9) (j := x3.toNatClampNeg) C hP hD hS rfl g5 rfl (by rw [eσ6]; exact mw_a22 g _ _ _) dX12_oftenest_92 (fun H locs hP hD hS => ?_)
    obtain ⟨v7, ev7, hf⟩ := bd_s hf
    refine lv_iinc (v := v7) (lv' := [(3, .int v7), (0, .ref (g.2.2 0)), (1, .int x1), (2, .int x2)]) hx hb dX12_oftenest_93 hl (k := 3) rfl (by rw [ev7]; rfl) (by decide) rfl (fun ls hl => ?_)
    refine lv_goto (tgt := 66) hx hb dX12_oftenest_96 (by decide) ?_
    cases hf
    exact k0 rfl H locs ls hP hD hS (lv_sub hl [1, 2, 3, 0] rfl)
theorem lp_X12_oftenest_h66 {N : Nat} {n : Nat} {x1 : Int32} {x2 : Int32} {x3 : Int32} {σ : Sg} {z : Nat × Int32 × Sg} (C : Cx p s m args meth c cX12_oftenest 4 (some .int) RX12 g A X) (hz : it (fun q => s_X12_oftenest_h66 N x1 x2 q.1 q.2) n (x3, σ) = some z) (k : Bk mw p l e rm_X12_oftenest s m args below meth c 4 g A Q 0 0 99 [(0, .ref (g.2.2 0)), (1, .int x1), (2, .int x2)] [] z.2.2) : Bk mw p l e rm_X12_oftenest s m args below meth c 4 g A Q 0 0 66 [(0, .ref (g.2.2 0)), (1, .int x1), (2, .int x2), (3, .int x3)] [] σ :=
  it_W (S := Int32 × Sg) (fun q => Bk mw p l e rm_X12_oftenest s m args below meth c 4 g A Q 0 0 66 [(0, .ref (g.2.2 0)), (1, .int x1), (2, .int x2), (3, .int q.1)] [] q.2) (fun z => Bk mw p l e rm_X12_oftenest s m args below meth c 4 g A Q 0 0 99 [(0, .ref (g.2.2 0)), (1, .int x1), (2, .int x2)] [] z.2.2) (fun q z hq k0 k => e_X12_oftenest_h66 C hq k0 k) n (x3, σ) z hz k
def s_X12_oftenest_h55 (N : Nat) (x1 : Int32) (x2 : Int32) (σ : Sg) : Option (Nat × Int32 × Sg) :=
if x1 ≤ x2 then (some (1, 0, σ))
else ((f_X12_aTick N σ).bind fun q8 =>
(it (fun q => s_X12_oftenest_h66 N x1 x2 q.1 q.2) N ((0 : Int32), q8)).bind fun z9 =>
bd (x2 + (1 : Int32)) fun v10 =>
some (0, v10, (z9.2.2)))
set_option maxHeartbeats 4000000 in
set_option maxRecDepth 100000 in
theorem e_X12_oftenest_h55 {N : Nat} {x1 : Int32} {x2 : Int32} {σ : Sg} {z : Nat × Int32 × Sg} (C : Cx p s m args meth c cX12_oftenest 4 (some .int) RX12 g A X) (hf : s_X12_oftenest_h55 N x1 x2 σ = some z) (k0 : z.1 = 0 → Bk mw p l e rm_X12_oftenest s m args below meth c 4 g A Q 0 0 55 [(0, .ref (g.2.2 0)), (1, .int x1), (2, .int z.2.1)] [] z.2.2) (k : ¬ z.1 = 0 → Bk mw p l e rm_X12_oftenest s m args below meth c 4 g A Q 0 0 105 [(0, .ref (g.2.2 0))] [] z.2.2) : Bk mw p l e rm_X12_oftenest s m args below meth c 4 g A Q 0 0 55 [(0, .ref (g.2.2 0)), (1, .int x1), (2, .int x2)] [] σ := by
  obtain ⟨hx, hb, hr, hml, hown, hts, hK, hlocks, hXX, hA, hXo⟩ := id C
  intro H locs ls hP hD hS hl
  unfold s_X12_oftenest_h55 at hf
  refine lv_iload_n hx hb dX12_oftenest_55 rfl (lv_at hl 2 rfl) ?_
  refine lv_iload_n hx hb dX12_oftenest_56 rfl (lv_at hl 1 rfl) ?_
  refine lv_icmp_ge (tgt := 105) hx hb dX12_oftenest_57 (by decide) (fun t57 => ?_) (fun t57 => ?_)
  · have hf := (if_pos t57).symm.trans hf
    cases hf
    exact (k (show ¬ (1 : Nat) = 0 by decide)) H locs ls hP hD hS (lv_sub hl [0] rfl)
  · have hf := (if_neg t57).symm.trans hf
    refine lv_aload_n hx hb dX12_oftenest_60 rfl (lv_at hl 0 rfl) ?_
    obtain ⟨q8, hq8, hf⟩ := bi_s hf
    refine bk_VV (wf := mw) (q0 := 0) (ci := 11) (rest := []) [] C hP hD hS hl.1 (c_X12_aTick hXo hq8) (cwA_V 0 hts wa_903 wa_900 wa_901 wa_902 wa_5 rfl rfl nd_X12_aTick ⟨Nat.le_of_ble_eq_true rfl, Nat.le_of_ble_eq_true rfl⟩) rfl rfl rfl rfl (Nat.le_of_ble_eq_true rfl) dX12_oftenest_61 ⟨Nat.le_of_ble_eq_true rfl, Nat.le_of_ble_eq_true rfl⟩ (fun H locs hP hD hS => ?_)
    refine lv_iconst (v := (0 : Int32)) hx hb dX12_oftenest_64 (by decide) ?_
    refine lv_istore_n (lv' := [(3, .int (0 : Int32)), (0, .ref (g.2.2 0)), (1, .int x1), (2, .int x2)]) hx hb dX12_oftenest_65 rfl hl (by decide) rfl (fun ls hl => ?_)
    obtain ⟨z9, hz9, hf⟩ := bi_s hf
    refine lp_X12_oftenest_h66 C hz9 ?_ H locs ls hP hD hS (lv_sub hl [1, 2, 3, 0] rfl)
    intro H locs ls hP hD hS hl
    obtain ⟨v10, ev10, hf⟩ := bd_s hf
    refine lv_iinc (v := v10) (lv' := [(2, .int v10), (0, .ref (g.2.2 0)), (1, .int x1)]) hx hb dX12_oftenest_99 hl (k := 2) rfl (by rw [ev10]; rfl) (by decide) rfl (fun ls hl => ?_)
    refine lv_goto (tgt := 55) hx hb dX12_oftenest_102 (by decide) ?_
    cases hf
    exact k0 rfl H locs ls hP hD hS (lv_sub hl [1, 2, 0] rfl)
theorem lp_X12_oftenest_h55 {N : Nat} {n : Nat} {x1 : Int32} {x2 : Int32} {σ : Sg} {z : Nat × Int32 × Sg} (C : Cx p s m args meth c cX12_oftenest 4 (some .int) RX12 g A X) (hz : it (fun q => s_X12_oftenest_h55 N x1 q.1 q.2) n (x2, σ) = some z) (k : Bk mw p l e rm_X12_oftenest s m args below meth c 4 g A Q 0 0 105 [(0, .ref (g.2.2 0))] [] z.2.2) : Bk mw p l e rm_X12_oftenest s m args below meth c 4 g A Q 0 0 55 [(0, .ref (g.2.2 0)), (1, .int x1), (2, .int x2)] [] σ :=
  it_W (S := Int32 × Sg) (fun q => Bk mw p l e rm_X12_oftenest s m args below meth c 4 g A Q 0 0 55 [(0, .ref (g.2.2 0)), (1, .int x1), (2, .int q.1)] [] q.2) (fun z => Bk mw p l e rm_X12_oftenest s m args below meth c 4 g A Q 0 0 105 [(0, .ref (g.2.2 0))] [] z.2.2) (fun q z hq k0 k => e_X12_oftenest_h55 C hq k0 k) n (x2, σ) z hz k
def s_X12_oftenest_h25 (N : Nat) (x1 : Int32) (x2 : Int32) (σ : Sg) : Option (Nat × Int32 × Sg) :=
if (9 : Int32) ≤ x2 then (some (1, 0, σ))
else (if (x2 < 0 ∨ 9 ≤ x2.toNatClampNeg) then none else
bd (wr σ 22 (x2.toNatClampNeg) (0 : Int32)) fun σ12 =>
bd (x2 + (1 : Int32)) fun v13 =>
some (0, v13, σ12))
set_option maxHeartbeats 4000000 in
set_option maxRecDepth 100000 in
theorem e_X12_oftenest_h25 {N : Nat} {x1 : Int32} {x2 : Int32} {σ : Sg} {z : Nat × Int32 × Sg} (C : Cx p s m args meth c cX12_oftenest 4 (some .int) RX12 g A X) (hf : s_X12_oftenest_h25 N x1 x2 σ = some z) (k0 : z.1 = 0 → Bk mw p l e rm_X12_oftenest s m args below meth c 4 g A Q 0 0 25 [(0, .ref (g.2.2 0)), (1, .int x1), (2, .int z.2.1)] [] z.2.2) (k : ¬ z.1 = 0 → Bk mw p l e rm_X12_oftenest s m args below meth c 4 g A Q 0 0 44 [(0, .ref (g.2.2 0)), (1, .int x1)] [] z.2.2) : Bk mw p l e rm_X12_oftenest s m args below meth c 4 g A Q 0 0 25 [(0, .ref (g.2.2 0)), (1, .int x1), (2, .int x2)] [] σ := by
  obtain ⟨hx, hb, hr, hml, hown, hts, hK, hlocks, hXX, hA, hXo⟩ := id C
  intro H locs ls hP hD hS hl
  unfold s_X12_oftenest_h25 at hf
  refine lv_iload_n hx hb dX12_oftenest_25 rfl (lv_at hl 2 rfl) ?_
  refine lv_bipush (v := (9 : Int32)) hx hb dX12_oftenest_26 (by decide) ?_
  refine lv_icmp_ge (tgt := 44) hx hb dX12_oftenest_28 (by decide) (fun t28 => ?_) (fun t28 => ?_)
  · have hf := (if_pos t28).symm.trans hf
    cases hf
    exact (k (show ¬ (1 : Nat) = 0 by decide)) H locs ls hP hD hS (lv_sub hl [0, 1] rfl)
  · have hf := (if_neg t28).symm.trans hf
    refine lv_aload_n hx hb dX12_oftenest_31 rfl (lv_at hl 0 rfl) ?_
    refine bk_get (wf := mw) (q0 := 0) (ci := 11) (k := 38) (v := .ref (g.2.2 22)) C hP wl_X12 rfl rfl (by decide) wa_178 rfl rfl dX12_oftenest_32 ?_
    refine lv_iload_n hx hb dX12_oftenest_35 rfl (lv_at hl 2 rfl) ?_
    refine lv_iconst (v := (0 : Int32)) hx hb dX12_oftenest_36 (by decide) ?_
    obtain ⟨g11, hf⟩ := gd_s hf
    obtain ⟨σ12, eσ12, hf⟩ := bd_s hf
    refine bk_iast (wf := mw) (σ1 := σ12) (q0 := 22) (n := 9) (j := x2.toNatClampNeg) C hP hD hS rfl g11 rfl (by rw [eσ12]; exact mw_a22 g _ _ _) dX12_oftenest_37 (fun H locs hP hD hS => ?_)
    obtain ⟨v13, ev13, hf⟩ := bd_s hf
    refine lv_iinc (v := v13) (lv' := [(2, .int v13), (0, .ref (g.2.2 0)), (1, .int x1)]) hx hb dX12_oftenest_38 hl (k := 2) rfl (by rw [ev13]; rfl) (by decide) rfl (fun ls hl => ?_)
    refine lv_goto (tgt := 25) hx hb dX12_oftenest_41 (by decide) ?_
    cases hf
    exact k0 rfl H locs ls hP hD hS (lv_sub hl [1, 2, 0] rfl)
theorem lp_X12_oftenest_h25 {N : Nat} {n : Nat} {x1 : Int32} {x2 : Int32} {σ : Sg} {z : Nat × Int32 × Sg} (C : Cx p s m args meth c cX12_oftenest 4 (some .int) RX12 g A X) (hz : it (fun q => s_X12_oftenest_h25 N x1 q.1 q.2) n (x2, σ) = some z) (k : Bk mw p l e rm_X12_oftenest s m args below meth c 4 g A Q 0 0 44 [(0, .ref (g.2.2 0)), (1, .int x1)] [] z.2.2) : Bk mw p l e rm_X12_oftenest s m args below meth c 4 g A Q 0 0 25 [(0, .ref (g.2.2 0)), (1, .int x1), (2, .int x2)] [] σ :=
  it_W (S := Int32 × Sg) (fun q => Bk mw p l e rm_X12_oftenest s m args below meth c 4 g A Q 0 0 25 [(0, .ref (g.2.2 0)), (1, .int x1), (2, .int q.1)] [] q.2) (fun z => Bk mw p l e rm_X12_oftenest s m args below meth c 4 g A Q 0 0 44 [(0, .ref (g.2.2 0)), (1, .int x1)] [] z.2.2) (fun q z hq k0 k => e_X12_oftenest_h25 C hq k0 k) n (x2, σ) z hz k
def f_X12_oftenest (N : Nat) (x1 : Int32) (σ : Sg) : Option (Int32 × Sg) :=
bd (wr σ 0 2 (0 : Int32)) fun σ14 =>
(f_X12_isIn N (x1).toInt64 (1 : Int64) (60 : Int64) σ14).bind fun q15 =>
if q15.1 = 0 then ((f_X12_fail N (1 : Int32) (q15.2)).bind fun q21 =>
some (q21.1, (q21.2)))
else ((it (fun q => s_X12_oftenest_h25 N x1 q.1 q.2) N ((0 : Int32), (q15.2))).bind fun z16 =>
(f_X12_pack_21 N (0 : Int32) (z16.2.2)).bind fun q17 =>
(it (fun q => s_X12_oftenest_h55 N x1 q.1 q.2) N ((0 : Int32), q17)).bind fun z18 =>
(f_X12_unpack_21 N (0 : Int32) (z18.2.2)).bind fun q19 =>
(it (fun q => s_X12_oftenest_h118 N q.1 q.2.1 q.2.2) N ((-1 : Int32), (0 : Int32), q19)).bind fun z20 =>
some ((z20.2.1), (z20.2.2.2)))
set_option maxHeartbeats 4000000 in
set_option maxRecDepth 100000 in
theorem b_X12_oftenest {N : Nat} {x1 : Int32} {σ : Sg} {z : Int32 × Sg} (C : Cx p s m args meth c cX12_oftenest 4 (some .int) RX12 g A X) (hf : f_X12_oftenest N x1 σ = some z) : Bk mw p l e rm_X12_oftenest s m args below meth c 4 g A (MQ below (qI mw g A z.1 z.2) args s 0 0 A) 0 0 0 [(0, .ref (g.2.2 0)), (1, .int x1)] [] σ := by
  obtain ⟨hx, hb, hr, hml, hown, hts, hK, hlocks, hXX, hA, hXo⟩ := id C
  intro H locs ls hP hD hS hl
  unfold f_X12_oftenest at hf
  refine lv_aload_n hx hb dX12_oftenest_0 rfl (lv_at hl 0 rfl) ?_
  refine lv_iconst (v := (0 : Int32)) hx hb dX12_oftenest_1 (by decide) ?_
  obtain ⟨σ14, eσ14, hf⟩ := bd_s hf
  refine bk_put (wf := mw) (σ1 := σ14) (q0 := 0) (ci := 11) (k := 2) (v := .int (0 : Int32)) C hP hD hS wl_X12 tyX12_ok nmX12 rfl rfl (by decide) wa_205 rfl rfl rfl rfl rfl (Nat.le_of_ble_eq_true rfl) (by rw [eσ14]; exact mw_p0_2 g _ _) dX12_oftenest_2 (fun H locs hP hD hS => ?_)
  refine lv_iload_n hx hb dX12_oftenest_5 rfl (lv_at hl 1 rfl) ?_
  refine lv_i2l hx hb dX12_oftenest_6 rfl ?_
  refine lv_lconst (v := (1 : Int64)) hx hb dX12_oftenest_7 (by decide) ?_
  refine lv_ldc2 (v := (60 : Int64)) hx hb hown (hts _ wa_1025) dX12_oftenest_8 ?_
  obtain ⟨q15, hq15, hf⟩ := bi_s hf
  refine bk_SI (wf := mw) (rest := []) [.long (x1).toInt64, .long (1 : Int64), .long (60 : Int64)] C hP hD hS hl.1 (c_X12_isIn hXo hq15) (cwA_S 3 hts wa_803 wa_801 wa_802 wa_5 rfl rfl nd_X12_isIn ⟨Nat.le_of_ble_eq_true rfl, Nat.le_of_ble_eq_true rfl⟩) rfl rfl (Nat.le_of_ble_eq_true rfl) dX12_oftenest_11 ⟨Nat.le_of_ble_eq_true rfl, Nat.le_of_ble_eq_true rfl⟩ (fun H locs hP hD hS => ?_)
  refine lv_if_ne (tgt := 23) hx hb dX12_oftenest_14 (by decide) (fun t14 => ?_) (fun t14 => ?_)
  · have hf := (if_neg t14).symm.trans hf
    refine lv_iconst (v := (0 : Int32)) hx hb dX12_oftenest_23 (by decide) ?_
    refine lv_istore_n (lv' := [(2, .int (0 : Int32)), (0, .ref (g.2.2 0)), (1, .int x1)]) hx hb dX12_oftenest_24 rfl hl (by decide) rfl (fun ls hl => ?_)
    obtain ⟨z16, hz16, hf⟩ := bi_s hf
    refine lp_X12_oftenest_h25 C hz16 ?_ H locs ls hP hD hS (lv_sub hl [1, 2, 0] rfl)
    intro H locs ls hP hD hS hl
    refine lv_aload_n hx hb dX12_oftenest_44 rfl (lv_at hl 0 rfl) ?_
    refine lv_aload_n hx hb dX12_oftenest_45 rfl (lv_at hl 0 rfl) ?_
    refine bk_get (wf := mw) (q0 := 0) (ci := 11) (k := 37) (v := .ref (g.2.2 21)) C hP wl_X12 rfl rfl (by decide) wa_177 rfl rfl dX12_oftenest_46 ?_
    refine lv_iconst (v := (0 : Int32)) hx hb dX12_oftenest_49 (by decide) ?_
    obtain ⟨q17, hq17, hf⟩ := bi_s hf
    refine bk_VV (wf := mw) (q0 := 0) (ci := 11) (rest := []) [.ref (g.2.2 21), .int (0 : Int32)] C hP hD hS hl.1 (c_X12_pack_21 hXo hq17) (cwA_V 2 hts wa_895 wa_892 wa_893 wa_894 wa_5 rfl rfl nd_X12_pack ⟨Nat.le_of_ble_eq_true rfl, Nat.le_of_ble_eq_true rfl⟩) rfl rfl rfl rfl (Nat.le_of_ble_eq_true rfl) dX12_oftenest_50 ⟨Nat.le_of_ble_eq_true rfl, Nat.le_of_ble_eq_true rfl⟩ (fun H locs hP hD hS => ?_)
    refine lv_iconst (v := (0 : Int32)) hx hb dX12_oftenest_53 (by decide) ?_
    refine lv_istore_n (lv' := [(2, .int (0 : Int32)), (0, .ref (g.2.2 0)), (1, .int x1)]) hx hb dX12_oftenest_54 rfl hl (by decide) rfl (fun ls hl => ?_)
    obtain ⟨z18, hz18, hf⟩ := bi_s hf
    refine lp_X12_oftenest_h55 C hz18 ?_ H locs ls hP hD hS (lv_sub hl [1, 2, 0] rfl)
    intro H locs ls hP hD hS hl
    refine lv_aload_n hx hb dX12_oftenest_105 rfl (lv_at hl 0 rfl) ?_
    refine lv_aload_n hx hb dX12_oftenest_106 rfl (lv_at hl 0 rfl) ?_
    refine bk_get (wf := mw) (q0 := 0) (ci := 11) (k := 37) (v := .ref (g.2.2 21)) C hP wl_X12 rfl rfl (by decide) wa_177 rfl rfl dX12_oftenest_107 ?_
    refine lv_iconst (v := (0 : Int32)) hx hb dX12_oftenest_110 (by decide) ?_
    obtain ⟨q19, hq19, hf⟩ := bi_s hf
    refine bk_VV (wf := mw) (q0 := 0) (ci := 11) (rest := []) [.ref (g.2.2 21), .int (0 : Int32)] C hP hD hS hl.1 (c_X12_unpack_21 hXo hq19) (cwA_V 2 hts wa_1010 wa_1007 wa_1008 wa_1009 wa_5 rfl rfl nd_X12_unpack ⟨Nat.le_of_ble_eq_true rfl, Nat.le_of_ble_eq_true rfl⟩) rfl rfl rfl rfl (Nat.le_of_ble_eq_true rfl) dX12_oftenest_111 ⟨Nat.le_of_ble_eq_true rfl, Nat.le_of_ble_eq_true rfl⟩ (fun H locs hP hD hS => ?_)
    refine lv_iconst (v := (-1 : Int32)) hx hb dX12_oftenest_114 (by decide) ?_
    refine lv_istore_n (lv' := [(2, .int (-1 : Int32)), (0, .ref (g.2.2 0))]) hx hb dX12_oftenest_115 rfl hl (by decide) rfl (fun ls hl => ?_)
    refine lv_iconst (v := (0 : Int32)) hx hb dX12_oftenest_116 (by decide) ?_
    refine lv_istore_n (lv' := [(3, .int (0 : Int32)), (2, .int (-1 : Int32)), (0, .ref (g.2.2 0))]) hx hb dX12_oftenest_117 rfl hl (by decide) rfl (fun ls hl => ?_)
    obtain ⟨z20, hz20, hf⟩ := bi_s hf
    refine lp_X12_oftenest_h118 C hz20 ?_ H locs ls hP hD hS (lv_sub hl [2, 1, 0] rfl)
    intro H locs ls hP hD hS hl
    refine lv_iload_n hx hb dX12_oftenest_156 rfl (lv_at hl 0 rfl) ?_
    cases hf
    exact bk_iret C hP hD hS rfl dX12_oftenest_157
  · have hf := (if_pos t14).symm.trans hf
    refine lv_aload_n hx hb dX12_oftenest_17 rfl (lv_at hl 0 rfl) ?_
    refine lv_iconst (v := (1 : Int32)) hx hb dX12_oftenest_18 (by decide) ?_
    obtain ⟨q21, hq21, hf⟩ := bi_s hf
    refine bk_VI (wf := mw) (q0 := 0) (ci := 11) (rest := []) [.int (1 : Int32)] C hP hD hS hl.1 (c_X12_fail hXo hq21) (cwA_V 1 hts wa_512 wa_509 wa_510 wa_511 wa_5 rfl rfl nd_X12_fail ⟨Nat.le_of_ble_eq_true rfl, Nat.le_of_ble_eq_true rfl⟩) rfl rfl rfl rfl (Nat.le_of_ble_eq_true rfl) dX12_oftenest_19 ⟨Nat.le_of_ble_eq_true rfl, Nat.le_of_ble_eq_true rfl⟩ (fun H locs hP hD hS => ?_)
    cases hf
    exact bk_iret C hP hD hS rfl dX12_oftenest_22
theorem c_X12_oftenest {N : Nat} {x1 : Int32} {σ : Sg} {z : Int32 × Sg} (hX : xOK g X) (hf : f_X12_oftenest N x1 σ = some z) : MetI l yX12_oftenest (Cond.code yX12_oftenest cX12_oftenest 4 (some .int) :: wsA) rm_X12_oftenest mw g X [.ref (g.2.2 0), .int x1] σ z.1 z.2 :=
  MetI_of hX (by decide) (Nat.le_of_ble_eq_true rfl) (fun p e s m args below meth c A C => b_X12_oftenest C hf)
-- X12_pack_23: pack([II)V
abbrev rm_X12_pack_23 : Room := { frames := 0, cells := 0, slots := 0, locals := 0 }
def s_X12_pack_23_h18 (N : Nat) (x2 : Int32) (x3 : Int32) (σ : Sg) : Option (Nat × Int32 × Sg) :=
if (9 : Int32) ≤ x3 then (some (1, 0, σ))
else (if (x3 < 0 ∨ 9 ≤ x3.toNatClampNeg) then none else
if (((x2 + (2 : Int32)) + x3) < 0 ∨ 38 ≤ ((x2 + (2 : Int32)) + x3).toNatClampNeg) then none else
bd (wr σ 23 (((x2 + (2 : Int32)) + x3).toNatClampNeg) (σ 13 x3.toNatClampNeg)) fun σ3 =>
if (x3 < 0 ∨ 9 ≤ x3.toNatClampNeg) then none else
if ((((x2 + (2 : Int32)) + (9 : Int32)) + x3) < 0 ∨ 38 ≤ (((x2 + (2 : Int32)) + (9 : Int32)) + x3).toNatClampNeg) then none else
bd (wr σ3 23 ((((x2 + (2 : Int32)) + (9 : Int32)) + x3).toNatClampNeg) (σ3 14 x3.toNatClampNeg)) fun σ6 =>
if (x3 < 0 ∨ 9 ≤ x3.toNatClampNeg) then none else
if ((((x2 + (2 : Int32)) + (18 : Int32)) + x3) < 0 ∨ 38 ≤ (((x2 + (2 : Int32)) + (18 : Int32)) + x3).toNatClampNeg) then none else
bd (wr σ6 23 ((((x2 + (2 : Int32)) + (18 : Int32)) + x3).toNatClampNeg) (σ6 15 x3.toNatClampNeg)) fun σ9 =>
if (x3 < 0 ∨ 9 ≤ x3.toNatClampNeg) then none else
if ((((x2 + (2 : Int32)) + (27 : Int32)) + x3) < 0 ∨ 38 ≤ (((x2 + (2 : Int32)) + (27 : Int32)) + x3).toNatClampNeg) then none else
bd (wr σ9 23 ((((x2 + (2 : Int32)) + (27 : Int32)) + x3).toNatClampNeg) (σ9 16 x3.toNatClampNeg)) fun σ12 =>
bd (x3 + (1 : Int32)) fun v13 =>
some (0, v13, σ12))
set_option maxHeartbeats 4000000 in
set_option maxRecDepth 100000 in
theorem e_X12_pack_23_h18 {N : Nat} {x2 : Int32} {x3 : Int32} {σ : Sg} {z : Nat × Int32 × Sg} (C : Cx p s m args meth c cX12_pack 4 none RX12 g A X) (hf : s_X12_pack_23_h18 N x2 x3 σ = some z) (k0 : z.1 = 0 → Bk mw p l e rm_X12_pack_23 s m args below meth c 4 g A Q 0 0 18 [(0, .ref (g.2.2 0)), (1, .ref (g.2.2 23)), (2, .int x2), (3, .int z.2.1)] [] z.2.2) (k : ¬ z.1 = 0 → Bk mw p l e rm_X12_pack_23 s m args below meth c 4 g A Q 0 0 91 [] [] z.2.2) : Bk mw p l e rm_X12_pack_23 s m args below meth c 4 g A Q 0 0 18 [(0, .ref (g.2.2 0)), (1, .ref (g.2.2 23)), (2, .int x2), (3, .int x3)] [] σ := by
  obtain ⟨hx, hb, hr, hml, hown, hts, hK, hlocks, hXX, hA, hXo⟩ := id C
  intro H locs ls hP hD hS hl
  unfold s_X12_pack_23_h18 at hf
  refine lv_iload_n hx hb dX12_pack_18 rfl (lv_at hl 3 rfl) ?_
  refine lv_bipush (v := (9 : Int32)) hx hb dX12_pack_19 (by decide) ?_
  refine lv_icmp_ge (tgt := 91) hx hb dX12_pack_21 (by decide) (fun t21 => ?_) (fun t21 => ?_)
  · have hf := (if_pos t21).symm.trans hf
    cases hf
    exact (k (show ¬ (1 : Nat) = 0 by decide)) H locs ls hP hD hS (lv_sub hl [] rfl)
  · have hf := (if_neg t21).symm.trans hf
    refine lv_aload_n hx hb dX12_pack_24 rfl (lv_at hl 1 rfl) ?_
    refine lv_iload_n hx hb dX12_pack_25 rfl (lv_at hl 2 rfl) ?_
    refine lv_iconst (v := (2 : Int32)) hx hb dX12_pack_26 (by decide) ?_
    refine lv_iadd hx hb dX12_pack_27 ?_
    refine lv_iload_n hx hb dX12_pack_28 rfl (lv_at hl 3 rfl) ?_
    refine lv_iadd hx hb dX12_pack_29 ?_
    refine lv_aload_n hx hb dX12_pack_30 rfl (lv_at hl 0 rfl) ?_
    refine bk_get (wf := mw) (q0 := 0) (ci := 11) (k := 23) (v := .ref (g.2.2 13)) C hP wl_X12 rfl rfl (by decide) wa_168 rfl rfl dX12_pack_31 ?_
    refine lv_iload_n hx hb dX12_pack_34 rfl (lv_at hl 3 rfl) ?_
    obtain ⟨g1, hf⟩ := gd_s hf
    refine bk_iald (wf := mw) (q0 := 13) (n := 9) (j := x3.toNatClampNeg) C hP rfl g1 rfl dX12_pack_35 ?_
    obtain ⟨g2, hf⟩ := gd_s hf
    obtain ⟨σ3, eσ3, hf⟩ := bd_s hf
    refine bk_iast (wf := mw) (σ1 := σ3) (q0 := 23) (n := 38) (j := ((x2 + (2 : Int32)) + x3).toNatClampNeg) C hP hD hS rfl g2 rfl (by rw [eσ3]; exact mw_a23 g _ _ _) dX12_pack_36 (fun H locs hP hD hS => ?_)
    refine lv_aload_n hx hb dX12_pack_37 rfl (lv_at hl 1 rfl) ?_
    refine lv_iload_n hx hb dX12_pack_38 rfl (lv_at hl 2 rfl) ?_
    refine lv_iconst (v := (2 : Int32)) hx hb dX12_pack_39 (by decide) ?_
    refine lv_iadd hx hb dX12_pack_40 ?_
    refine lv_bipush (v := (9 : Int32)) hx hb dX12_pack_41 (by decide) ?_
    refine lv_iadd hx hb dX12_pack_43 ?_
    refine lv_iload_n hx hb dX12_pack_44 rfl (lv_at hl 3 rfl) ?_
    refine lv_iadd hx hb dX12_pack_45 ?_
    refine lv_aload_n hx hb dX12_pack_46 rfl (lv_at hl 0 rfl) ?_
    refine bk_get (wf := mw) (q0 := 0) (ci := 11) (k := 24) (v := .ref (g.2.2 14)) C hP wl_X12 rfl rfl (by decide) wa_169 rfl rfl dX12_pack_47 ?_
    refine lv_iload_n hx hb dX12_pack_50 rfl (lv_at hl 3 rfl) ?_
    obtain ⟨g4, hf⟩ := gd_s hf
    refine bk_iald (wf := mw) (q0 := 14) (n := 9) (j := x3.toNatClampNeg) C hP rfl g4 rfl dX12_pack_51 ?_
    obtain ⟨g5, hf⟩ := gd_s hf
    obtain ⟨σ6, eσ6, hf⟩ := bd_s hf
    refine bk_iast (wf := mw) (σ1 := σ6) (q0 := 23) (n := 38) (j := (((x2 + (2 : Int32)) + (9 : Int32)) + x3).toNatClampNeg) C hP hD hS rfl g5 rfl (by rw [eσ6]; exact mw_a23 g _ _ _) dX12_pack_52 (fun H locs hP hD hS => ?_)
    refine lv_aload_n hx hb dX12_pack_53 rfl (lv_at hl 1 rfl) ?_
    refine lv_iload_n hx hb dX12_pack_54 rfl (lv_at hl 2 rfl) ?_
    refine lv_iconst (v := (2 : Int32)) hx hb dX12_pack_55 (by decide) ?_
    refine lv_iadd hx hb dX12_pack_56 ?_
    refine lv_bipush (v := (18 : Int32)) hx hb dX12_pack_57 (by decide) ?_
    refine lv_iadd hx hb dX12_pack_59 ?_
    refine lv_iload_n hx hb dX12_pack_60 rfl (lv_at hl 3 rfl) ?_
    refine lv_iadd hx hb dX12_pack_61 ?_
    refine lv_aload_n hx hb dX12_pack_62 rfl (lv_at hl 0 rfl) ?_
    refine bk_get (wf := mw) (q0 := 0) (ci := 11) (k := 25) (v := .ref (g.2.2 15)) C hP wl_X12 rfl rfl (by decide) wa_170 rfl rfl dX12_pack_63 ?_
    refine lv_iload_n hx hb dX12_pack_66 rfl (lv_at hl 3 rfl) ?_
    obtain ⟨g7, hf⟩ := gd_s hf
    refine bk_iald (wf := mw) (q0 := 15) (n := 9) (j := x3.toNatClampNeg) C hP rfl g7 rfl dX12_pack_67 ?_
    obtain ⟨g8, hf⟩ := gd_s hf
    obtain ⟨σ9, eσ9, hf⟩ := bd_s hf
    refine bk_iast (wf := mw) (σ1 := σ9) (q0 := 23) (n := 38) (j := (((x2 + (2 : Int32)) + (18 : Int32)) + x3).toNatClampNeg) C hP hD hS rfl g8 rfl (by rw [eσ9]; exact mw_a23 g _ _ _) dX12_pack_68 (fun H locs hP hD hS => ?_)
    refine lv_aload_n hx hb dX12_pack_69 rfl (lv_at hl 1 rfl) ?_
    refine lv_iload_n hx hb dX12_pack_70 rfl (lv_at hl 2 rfl) ?_
    refine lv_iconst (v := (2 : Int32)) hx hb dX12_pack_71 (by decide) ?_
    refine lv_iadd hx hb dX12_pack_72 ?_
    refine lv_bipush (v := (27 : Int32)) hx hb dX12_pack_73 (by decide) ?_
    refine lv_iadd hx hb dX12_pack_75 ?_
    refine lv_iload_n hx hb dX12_pack_76 rfl (lv_at hl 3 rfl) ?_
    refine lv_iadd hx hb dX12_pack_77 ?_
    refine lv_aload_n hx hb dX12_pack_78 rfl (lv_at hl 0 rfl) ?_
    refine bk_get (wf := mw) (q0 := 0) (ci := 11) (k := 26) (v := .ref (g.2.2 16)) C hP wl_X12 rfl rfl (by decide) wa_171 rfl rfl dX12_pack_79 ?_
    refine lv_iload_n hx hb dX12_pack_82 rfl (lv_at hl 3 rfl) ?_
    obtain ⟨g10, hf⟩ := gd_s hf
    refine bk_iald (wf := mw) (q0 := 16) (n := 9) (j := x3.toNatClampNeg) C hP rfl g10 rfl dX12_pack_83 ?_
    obtain ⟨g11, hf⟩ := gd_s hf
    obtain ⟨σ12, eσ12, hf⟩ := bd_s hf
    refine bk_iast (wf := mw) (σ1 := σ12) (q0 := 23) (n := 38) (j := (((x2 + (2 : Int32)) + (27 : Int32)) + x3).toNatClampNeg) C hP hD hS rfl g11 rfl (by rw [eσ12]; exact mw_a23 g _ _ _) dX12_pack_84 (fun H locs hP hD hS => ?_)
    obtain ⟨v13, ev13, hf⟩ := bd_s hf
    refine lv_iinc (v := v13) (lv' := [(3, .int v13), (0, .ref (g.2.2 0)), (1, .ref (g.2.2 23)), (2, .int x2)]) hx hb dX12_pack_85 hl (k := 3) rfl (by rw [ev13]; rfl) (by decide) rfl (fun ls hl => ?_)
    refine lv_goto (tgt := 18) hx hb dX12_pack_88 (by decide) ?_
    cases hf
    exact k0 rfl H locs ls hP hD hS (lv_sub hl [1, 2, 3, 0] rfl)
theorem lp_X12_pack_23_h18 {N : Nat} {n : Nat} {x2 : Int32} {x3 : Int32} {σ : Sg} {z : Nat × Int32 × Sg} (C : Cx p s m args meth c cX12_pack 4 none RX12 g A X) (hz : it (fun q => s_X12_pack_23_h18 N x2 q.1 q.2) n (x3, σ) = some z) (k : Bk mw p l e rm_X12_pack_23 s m args below meth c 4 g A Q 0 0 91 [] [] z.2.2) : Bk mw p l e rm_X12_pack_23 s m args below meth c 4 g A Q 0 0 18 [(0, .ref (g.2.2 0)), (1, .ref (g.2.2 23)), (2, .int x2), (3, .int x3)] [] σ :=
  it_W (S := Int32 × Sg) (fun q => Bk mw p l e rm_X12_pack_23 s m args below meth c 4 g A Q 0 0 18 [(0, .ref (g.2.2 0)), (1, .ref (g.2.2 23)), (2, .int x2), (3, .int q.1)] [] q.2) (fun z => Bk mw p l e rm_X12_pack_23 s m args below meth c 4 g A Q 0 0 91 [] [] z.2.2) (fun q z hq k0 k => e_X12_pack_23_h18 C hq k0 k) n (x3, σ) z hz k
def f_X12_pack_23 (N : Nat) (x2 : Int32) (σ : Sg) : Option (Sg) :=
if (x2 < 0 ∨ 38 ≤ x2.toNatClampNeg) then none else
bd (wr σ 23 (x2.toNatClampNeg) (σ 0 28)) fun σ15 =>
if ((x2 + (1 : Int32)) < 0 ∨ 38 ≤ (x2 + (1 : Int32)).toNatClampNeg) then none else
bd (wr σ15 23 ((x2 + (1 : Int32)).toNatClampNeg) (σ15 0 29)) fun σ17 =>
(it (fun q => s_X12_pack_23_h18 N x2 q.1 q.2) N ((0 : Int32), σ17)).bind fun z18 =>
some (z18.2.2)
set_option maxHeartbeats 4000000 in
set_option maxRecDepth 100000 in
theorem b_X12_pack_23 {N : Nat} {x2 : Int32} {σ : Sg} {z : Sg} (C : Cx p s m args meth c cX12_pack 4 none RX12 g A X) (hf : f_X12_pack_23 N x2 σ = some z) : Bk mw p l e rm_X12_pack_23 s m args below meth c 4 g A (MQ below (qV mw g A z) args s 0 0 A) 0 0 0 [(0, .ref (g.2.2 0)), (1, .ref (g.2.2 23)), (2, .int x2)] [] σ := by
  obtain ⟨hx, hb, hr, hml, hown, hts, hK, hlocks, hXX, hA, hXo⟩ := id C
  intro H locs ls hP hD hS hl
  unfold f_X12_pack_23 at hf
  refine lv_aload_n hx hb dX12_pack_0 rfl (lv_at hl 1 rfl) ?_
  refine lv_iload_n hx hb dX12_pack_1 rfl (lv_at hl 2 rfl) ?_
  refine lv_aload_n hx hb dX12_pack_2 rfl (lv_at hl 0 rfl) ?_
  refine bk_get (wf := mw) (q0 := 0) (ci := 11) (k := 28) (v := .int (σ 0 28)) C hP wl_X12 rfl rfl (by decide) wa_613 rfl rfl dX12_pack_3 ?_
  obtain ⟨g14, hf⟩ := gd_s hf
  obtain ⟨σ15, eσ15, hf⟩ := bd_s hf
  refine bk_iast (wf := mw) (σ1 := σ15) (q0 := 23) (n := 38) (j := x2.toNatClampNeg) C hP hD hS rfl g14 rfl (by rw [eσ15]; exact mw_a23 g _ _ _) dX12_pack_6 (fun H locs hP hD hS => ?_)
  refine lv_aload_n hx hb dX12_pack_7 rfl (lv_at hl 1 rfl) ?_
  refine lv_iload_n hx hb dX12_pack_8 rfl (lv_at hl 2 rfl) ?_
  refine lv_iconst (v := (1 : Int32)) hx hb dX12_pack_9 (by decide) ?_
  refine lv_iadd hx hb dX12_pack_10 ?_
  refine lv_aload_n hx hb dX12_pack_11 rfl (lv_at hl 0 rfl) ?_
  refine bk_get (wf := mw) (q0 := 0) (ci := 11) (k := 29) (v := .int (σ15 0 29)) C hP wl_X12 rfl rfl (by decide) wa_614 rfl rfl dX12_pack_12 ?_
  obtain ⟨g16, hf⟩ := gd_s hf
  obtain ⟨σ17, eσ17, hf⟩ := bd_s hf
  refine bk_iast (wf := mw) (σ1 := σ17) (q0 := 23) (n := 38) (j := (x2 + (1 : Int32)).toNatClampNeg) C hP hD hS rfl g16 rfl (by rw [eσ17]; exact mw_a23 g _ _ _) dX12_pack_15 (fun H locs hP hD hS => ?_)
  refine lv_iconst (v := (0 : Int32)) hx hb dX12_pack_16 (by decide) ?_
  refine lv_istore_n (lv' := [(3, .int (0 : Int32)), (0, .ref (g.2.2 0)), (1, .ref (g.2.2 23)), (2, .int x2)]) hx hb dX12_pack_17 rfl hl (by decide) rfl (fun ls hl => ?_)
  obtain ⟨z18, hz18, hf⟩ := bi_s hf
  refine lp_X12_pack_23_h18 C hz18 ?_ H locs ls hP hD hS (lv_sub hl [1, 2, 3, 0] rfl)
  intro H locs ls hP hD hS hl
  cases hf
  exact bk_vret C hP hD hS rfl dX12_pack_91
theorem c_X12_pack_23 {N : Nat} {x2 : Int32} {σ : Sg} {z : Sg} (hX : xOK g X) (hf : f_X12_pack_23 N x2 σ = some z) : MetV l yX12_pack (Cond.code yX12_pack cX12_pack 4 none :: wsA) rm_X12_pack_23 mw g X [.ref (g.2.2 0), .ref (g.2.2 23), .int x2] σ z :=
  MetV_of hX (by decide) (Nat.le_of_ble_eq_true rfl) (fun p e s m args below meth c A C => b_X12_pack_23 C hf)
-- X12_unpack_23: unpack([II)V
abbrev rm_X12_unpack_23 : Room := { frames := 0, cells := 0, slots := 0, locals := 0 }
def s_X12_unpack_23_h18 (N : Nat) (x2 : Int32) (x3 : Int32) (σ : Sg) : Option (Nat × Int32 × Sg) :=
if (9 : Int32) ≤ x3 then (some (1, 0, σ))
else (if (((x2 + (2 : Int32)) + x3) < 0 ∨ 38 ≤ ((x2 + (2 : Int32)) + x3).toNatClampNeg) then none else
if (x3 < 0 ∨ 9 ≤ x3.toNatClampNeg) then none else
bd (wr σ 13 (x3.toNatClampNeg) (σ 23 ((x2 + (2 : Int32)) + x3).toNatClampNeg)) fun σ3 =>
if ((((x2 + (2 : Int32)) + (9 : Int32)) + x3) < 0 ∨ 38 ≤ (((x2 + (2 : Int32)) + (9 : Int32)) + x3).toNatClampNeg) then none else
if (x3 < 0 ∨ 9 ≤ x3.toNatClampNeg) then none else
bd (wr σ3 14 (x3.toNatClampNeg) (σ3 23 (((x2 + (2 : Int32)) + (9 : Int32)) + x3).toNatClampNeg)) fun σ6 =>
if ((((x2 + (2 : Int32)) + (18 : Int32)) + x3) < 0 ∨ 38 ≤ (((x2 + (2 : Int32)) + (18 : Int32)) + x3).toNatClampNeg) then none else
if (x3 < 0 ∨ 9 ≤ x3.toNatClampNeg) then none else
bd (wr σ6 15 (x3.toNatClampNeg) (σ6 23 (((x2 + (2 : Int32)) + (18 : Int32)) + x3).toNatClampNeg)) fun σ9 =>
if ((((x2 + (2 : Int32)) + (27 : Int32)) + x3) < 0 ∨ 38 ≤ (((x2 + (2 : Int32)) + (27 : Int32)) + x3).toNatClampNeg) then none else
if (x3 < 0 ∨ 9 ≤ x3.toNatClampNeg) then none else
bd (wr σ9 16 (x3.toNatClampNeg) (σ9 23 (((x2 + (2 : Int32)) + (27 : Int32)) + x3).toNatClampNeg)) fun σ12 =>
bd (x3 + (1 : Int32)) fun v13 =>
some (0, v13, σ12))
set_option maxHeartbeats 4000000 in
set_option maxRecDepth 100000 in
theorem e_X12_unpack_23_h18 {N : Nat} {x2 : Int32} {x3 : Int32} {σ : Sg} {z : Nat × Int32 × Sg} (C : Cx p s m args meth c cX12_unpack 4 none RX12 g A X) (hf : s_X12_unpack_23_h18 N x2 x3 σ = some z) (k0 : z.1 = 0 → Bk mw p l e rm_X12_unpack_23 s m args below meth c 4 g A Q 0 0 18 [(0, .ref (g.2.2 0)), (1, .ref (g.2.2 23)), (2, .int x2), (3, .int z.2.1)] [] z.2.2) (k : ¬ z.1 = 0 → Bk mw p l e rm_X12_unpack_23 s m args below meth c 4 g A Q 0 0 91 [] [] z.2.2) : Bk mw p l e rm_X12_unpack_23 s m args below meth c 4 g A Q 0 0 18 [(0, .ref (g.2.2 0)), (1, .ref (g.2.2 23)), (2, .int x2), (3, .int x3)] [] σ := by
  obtain ⟨hx, hb, hr, hml, hown, hts, hK, hlocks, hXX, hA, hXo⟩ := id C
  intro H locs ls hP hD hS hl
  unfold s_X12_unpack_23_h18 at hf
  refine lv_iload_n hx hb dX12_unpack_18 rfl (lv_at hl 3 rfl) ?_
  refine lv_bipush (v := (9 : Int32)) hx hb dX12_unpack_19 (by decide) ?_
  refine lv_icmp_ge (tgt := 91) hx hb dX12_unpack_21 (by decide) (fun t21 => ?_) (fun t21 => ?_)
  · have hf := (if_pos t21).symm.trans hf
    cases hf
    exact (k (show ¬ (1 : Nat) = 0 by decide)) H locs ls hP hD hS (lv_sub hl [] rfl)
  · have hf := (if_neg t21).symm.trans hf
    refine lv_aload_n hx hb dX12_unpack_24 rfl (lv_at hl 0 rfl) ?_
    refine bk_get (wf := mw) (q0 := 0) (ci := 11) (k := 23) (v := .ref (g.2.2 13)) C hP wl_X12 rfl rfl (by decide) wa_168 rfl rfl dX12_unpack_25 ?_
    refine lv_iload_n hx hb dX12_unpack_28 rfl (lv_at hl 3 rfl) ?_
    refine lv_aload_n hx hb dX12_unpack_29 rfl (lv_at hl 1 rfl) ?_
    refine lv_iload_n hx hb dX12_unpack_30 rfl (lv_at hl 2 rfl) ?_
    refine lv_iconst (v := (2 : Int32)) hx hb dX12_unpack_31 (by decide) ?_
    refine lv_iadd hx hb dX12_unpack_32 ?_
    refine lv_iload_n hx hb dX12_unpack_33 rfl (lv_at hl 3 rfl) ?_
    refine lv_iadd hx hb dX12_unpack_34 ?_
    obtain ⟨g1, hf⟩ := gd_s hf
    refine bk_iald (wf := mw) (q0 := 23) (n := 38) (j := ((x2 + (2 : Int32)) + x3).toNatClampNeg) C hP rfl g1 rfl dX12_unpack_35 ?_
    obtain ⟨g2, hf⟩ := gd_s hf
    obtain ⟨σ3, eσ3, hf⟩ := bd_s hf
    refine bk_iast (wf := mw) (σ1 := σ3) (q0 := 13) (n := 9) (j := x3.toNatClampNeg) C hP hD hS rfl g2 rfl (by rw [eσ3]; exact mw_a13 g _ _ _) dX12_unpack_36 (fun H locs hP hD hS => ?_)
    refine lv_aload_n hx hb dX12_unpack_37 rfl (lv_at hl 0 rfl) ?_
    refine bk_get (wf := mw) (q0 := 0) (ci := 11) (k := 24) (v := .ref (g.2.2 14)) C hP wl_X12 rfl rfl (by decide) wa_169 rfl rfl dX12_unpack_38 ?_
    refine lv_iload_n hx hb dX12_unpack_41 rfl (lv_at hl 3 rfl) ?_
    refine lv_aload_n hx hb dX12_unpack_42 rfl (lv_at hl 1 rfl) ?_
    refine lv_iload_n hx hb dX12_unpack_43 rfl (lv_at hl 2 rfl) ?_
    refine lv_iconst (v := (2 : Int32)) hx hb dX12_unpack_44 (by decide) ?_
    refine lv_iadd hx hb dX12_unpack_45 ?_
    refine lv_bipush (v := (9 : Int32)) hx hb dX12_unpack_46 (by decide) ?_
    refine lv_iadd hx hb dX12_unpack_48 ?_
    refine lv_iload_n hx hb dX12_unpack_49 rfl (lv_at hl 3 rfl) ?_
    refine lv_iadd hx hb dX12_unpack_50 ?_
    obtain ⟨g4, hf⟩ := gd_s hf
    refine bk_iald (wf := mw) (q0 := 23) (n := 38) (j := (((x2 + (2 : Int32)) + (9 : Int32)) + x3).toNatClampNeg) C hP rfl g4 rfl dX12_unpack_51 ?_
    obtain ⟨g5, hf⟩ := gd_s hf
    obtain ⟨σ6, eσ6, hf⟩ := bd_s hf
    refine bk_iast (wf := mw) (σ1 := σ6) (q0 := 14) (n := 9) (j := x3.toNatClampNeg) C hP hD hS rfl g5 rfl (by rw [eσ6]; exact mw_a14 g _ _ _) dX12_unpack_52 (fun H locs hP hD hS => ?_)
    refine lv_aload_n hx hb dX12_unpack_53 rfl (lv_at hl 0 rfl) ?_
    refine bk_get (wf := mw) (q0 := 0) (ci := 11) (k := 25) (v := .ref (g.2.2 15)) C hP wl_X12 rfl rfl (by decide) wa_170 rfl rfl dX12_unpack_54 ?_
    refine lv_iload_n hx hb dX12_unpack_57 rfl (lv_at hl 3 rfl) ?_
    refine lv_aload_n hx hb dX12_unpack_58 rfl (lv_at hl 1 rfl) ?_
    refine lv_iload_n hx hb dX12_unpack_59 rfl (lv_at hl 2 rfl) ?_
    refine lv_iconst (v := (2 : Int32)) hx hb dX12_unpack_60 (by decide) ?_
    refine lv_iadd hx hb dX12_unpack_61 ?_
    refine lv_bipush (v := (18 : Int32)) hx hb dX12_unpack_62 (by decide) ?_
    refine lv_iadd hx hb dX12_unpack_64 ?_
    refine lv_iload_n hx hb dX12_unpack_65 rfl (lv_at hl 3 rfl) ?_
    refine lv_iadd hx hb dX12_unpack_66 ?_
    obtain ⟨g7, hf⟩ := gd_s hf
    refine bk_iald (wf := mw) (q0 := 23) (n := 38) (j := (((x2 + (2 : Int32)) + (18 : Int32)) + x3).toNatClampNeg) C hP rfl g7 rfl dX12_unpack_67 ?_
    obtain ⟨g8, hf⟩ := gd_s hf
    obtain ⟨σ9, eσ9, hf⟩ := bd_s hf
    refine bk_iast (wf := mw) (σ1 := σ9) (q0 := 15) (n := 9) (j := x3.toNatClampNeg) C hP hD hS rfl g8 rfl (by rw [eσ9]; exact mw_a15 g _ _ _) dX12_unpack_68 (fun H locs hP hD hS => ?_)
    refine lv_aload_n hx hb dX12_unpack_69 rfl (lv_at hl 0 rfl) ?_
    refine bk_get (wf := mw) (q0 := 0) (ci := 11) (k := 26) (v := .ref (g.2.2 16)) C hP wl_X12 rfl rfl (by decide) wa_171 rfl rfl dX12_unpack_70 ?_
    refine lv_iload_n hx hb dX12_unpack_73 rfl (lv_at hl 3 rfl) ?_
    refine lv_aload_n hx hb dX12_unpack_74 rfl (lv_at hl 1 rfl) ?_
    refine lv_iload_n hx hb dX12_unpack_75 rfl (lv_at hl 2 rfl) ?_
    refine lv_iconst (v := (2 : Int32)) hx hb dX12_unpack_76 (by decide) ?_
    refine lv_iadd hx hb dX12_unpack_77 ?_
    refine lv_bipush (v := (27 : Int32)) hx hb dX12_unpack_78 (by decide) ?_
    refine lv_iadd hx hb dX12_unpack_80 ?_
    refine lv_iload_n hx hb dX12_unpack_81 rfl (lv_at hl 3 rfl) ?_
    refine lv_iadd hx hb dX12_unpack_82 ?_
    obtain ⟨g10, hf⟩ := gd_s hf
    refine bk_iald (wf := mw) (q0 := 23) (n := 38) (j := (((x2 + (2 : Int32)) + (27 : Int32)) + x3).toNatClampNeg) C hP rfl g10 rfl dX12_unpack_83 ?_
    obtain ⟨g11, hf⟩ := gd_s hf
    obtain ⟨σ12, eσ12, hf⟩ := bd_s hf
    refine bk_iast (wf := mw) (σ1 := σ12) (q0 := 16) (n := 9) (j := x3.toNatClampNeg) C hP hD hS rfl g11 rfl (by rw [eσ12]; exact mw_a16 g _ _ _) dX12_unpack_84 (fun H locs hP hD hS => ?_)
    obtain ⟨v13, ev13, hf⟩ := bd_s hf
    refine lv_iinc (v := v13) (lv' := [(3, .int v13), (0, .ref (g.2.2 0)), (1, .ref (g.2.2 23)), (2, .int x2)]) hx hb dX12_unpack_85 hl (k := 3) rfl (by rw [ev13]; rfl) (by decide) rfl (fun ls hl => ?_)
    refine lv_goto (tgt := 18) hx hb dX12_unpack_88 (by decide) ?_
    cases hf
    exact k0 rfl H locs ls hP hD hS (lv_sub hl [1, 2, 3, 0] rfl)
theorem lp_X12_unpack_23_h18 {N : Nat} {n : Nat} {x2 : Int32} {x3 : Int32} {σ : Sg} {z : Nat × Int32 × Sg} (C : Cx p s m args meth c cX12_unpack 4 none RX12 g A X) (hz : it (fun q => s_X12_unpack_23_h18 N x2 q.1 q.2) n (x3, σ) = some z) (k : Bk mw p l e rm_X12_unpack_23 s m args below meth c 4 g A Q 0 0 91 [] [] z.2.2) : Bk mw p l e rm_X12_unpack_23 s m args below meth c 4 g A Q 0 0 18 [(0, .ref (g.2.2 0)), (1, .ref (g.2.2 23)), (2, .int x2), (3, .int x3)] [] σ :=
  it_W (S := Int32 × Sg) (fun q => Bk mw p l e rm_X12_unpack_23 s m args below meth c 4 g A Q 0 0 18 [(0, .ref (g.2.2 0)), (1, .ref (g.2.2 23)), (2, .int x2), (3, .int q.1)] [] q.2) (fun z => Bk mw p l e rm_X12_unpack_23 s m args below meth c 4 g A Q 0 0 91 [] [] z.2.2) (fun q z hq k0 k => e_X12_unpack_23_h18 C hq k0 k) n (x3, σ) z hz k
def f_X12_unpack_23 (N : Nat) (x2 : Int32) (σ : Sg) : Option (Sg) :=
if (x2 < 0 ∨ 38 ≤ x2.toNatClampNeg) then none else
bd (wr σ 0 28 (σ 23 x2.toNatClampNeg)) fun σ15 =>
if ((x2 + (1 : Int32)) < 0 ∨ 38 ≤ (x2 + (1 : Int32)).toNatClampNeg) then none else
bd (wr σ15 0 29 (σ15 23 (x2 + (1 : Int32)).toNatClampNeg)) fun σ17 =>
(it (fun q => s_X12_unpack_23_h18 N x2 q.1 q.2) N ((0 : Int32), σ17)).bind fun z18 =>
some (z18.2.2)
set_option maxHeartbeats 4000000 in
set_option maxRecDepth 100000 in
theorem b_X12_unpack_23 {N : Nat} {x2 : Int32} {σ : Sg} {z : Sg} (C : Cx p s m args meth c cX12_unpack 4 none RX12 g A X) (hf : f_X12_unpack_23 N x2 σ = some z) : Bk mw p l e rm_X12_unpack_23 s m args below meth c 4 g A (MQ below (qV mw g A z) args s 0 0 A) 0 0 0 [(0, .ref (g.2.2 0)), (1, .ref (g.2.2 23)), (2, .int x2)] [] σ := by
  obtain ⟨hx, hb, hr, hml, hown, hts, hK, hlocks, hXX, hA, hXo⟩ := id C
  intro H locs ls hP hD hS hl
  unfold f_X12_unpack_23 at hf
  refine lv_aload_n hx hb dX12_unpack_0 rfl (lv_at hl 0 rfl) ?_
  refine lv_aload_n hx hb dX12_unpack_1 rfl (lv_at hl 1 rfl) ?_
  refine lv_iload_n hx hb dX12_unpack_2 rfl (lv_at hl 2 rfl) ?_
  obtain ⟨g14, hf⟩ := gd_s hf
  refine bk_iald (wf := mw) (q0 := 23) (n := 38) (j := x2.toNatClampNeg) C hP rfl g14 rfl dX12_unpack_3 ?_
  obtain ⟨σ15, eσ15, hf⟩ := bd_s hf
  refine bk_put (wf := mw) (σ1 := σ15) (q0 := 0) (ci := 11) (k := 28) (v := .int (σ 23 x2.toNatClampNeg)) C hP hD hS wl_X12 tyX12_ok nmX12 rfl rfl (by decide) wa_613 rfl rfl rfl rfl rfl (Nat.le_of_ble_eq_true rfl) (by rw [eσ15]; exact mw_p0_28 g _ _) dX12_unpack_4 (fun H locs hP hD hS => ?_)
  refine lv_aload_n hx hb dX12_unpack_7 rfl (lv_at hl 0 rfl) ?_
  refine lv_aload_n hx hb dX12_unpack_8 rfl (lv_at hl 1 rfl) ?_
  refine lv_iload_n hx hb dX12_unpack_9 rfl (lv_at hl 2 rfl) ?_
  refine lv_iconst (v := (1 : Int32)) hx hb dX12_unpack_10 (by decide) ?_
  refine lv_iadd hx hb dX12_unpack_11 ?_
  obtain ⟨g16, hf⟩ := gd_s hf
  refine bk_iald (wf := mw) (q0 := 23) (n := 38) (j := (x2 + (1 : Int32)).toNatClampNeg) C hP rfl g16 rfl dX12_unpack_12 ?_
  obtain ⟨σ17, eσ17, hf⟩ := bd_s hf
  refine bk_put (wf := mw) (σ1 := σ17) (q0 := 0) (ci := 11) (k := 29) (v := .int (σ15 23 (x2 + (1 : Int32)).toNatClampNeg)) C hP hD hS wl_X12 tyX12_ok nmX12 rfl rfl (by decide) wa_614 rfl rfl rfl rfl rfl (Nat.le_of_ble_eq_true rfl) (by rw [eσ17]; exact mw_p0_29 g _ _) dX12_unpack_13 (fun H locs hP hD hS => ?_)
  refine lv_iconst (v := (0 : Int32)) hx hb dX12_unpack_16 (by decide) ?_
  refine lv_istore_n (lv' := [(3, .int (0 : Int32)), (0, .ref (g.2.2 0)), (1, .ref (g.2.2 23)), (2, .int x2)]) hx hb dX12_unpack_17 rfl hl (by decide) rfl (fun ls hl => ?_)
  obtain ⟨z18, hz18, hf⟩ := bi_s hf
  refine lp_X12_unpack_23_h18 C hz18 ?_ H locs ls hP hD hS (lv_sub hl [1, 2, 3, 0] rfl)
  intro H locs ls hP hD hS hl
  cases hf
  exact bk_vret C hP hD hS rfl dX12_unpack_91
theorem c_X12_unpack_23 {N : Nat} {x2 : Int32} {σ : Sg} {z : Sg} (hX : xOK g X) (hf : f_X12_unpack_23 N x2 σ = some z) : MetV l yX12_unpack (Cond.code yX12_unpack cX12_unpack 4 none :: wsA) rm_X12_unpack_23 mw g X [.ref (g.2.2 0), .ref (g.2.2 23), .int x2] σ z :=
  MetV_of hX (by decide) (Nat.le_of_ble_eq_true rfl) (fun p e s m args below meth c A C => b_X12_unpack_23 C hf)
-- X12_reachedBy: reachedBy(II)I
abbrev rm_X12_reachedBy : Room := { frames := 6, cells := 0, slots := 0, locals := 138 }
theorem nd_X12_reachedBy : yX12_reachedBy.cls ≠ "java/lang/invoke/MethodHandle" ∧ yX12_reachedBy.cls ≠ "java/lang/invoke/VarHandle" ∧ (parseMethodDescriptor yX12_reachedBy.desc).map (fun d => d.parameters.length) = some 2 := by decide +kernel
def s_X12_reachedBy_h65 (N : Nat) (x2 : Int32) (x3 : Int32) (x4 : Int32) (σ : Sg) : Option (Nat × Int32 × Int32 × Sg) :=
if x2 ≤ x4 then (some (1, x3, 0, σ))
else ((f_X12_aTick N σ).bind fun q1 =>
bd (x3 ||| (q1 0 35)) fun v2 =>
bd (x4 + (1 : Int32)) fun v3 =>
some (0, v2, v3, q1))
set_option maxHeartbeats 4000000 in
set_option maxRecDepth 100000 in
theorem e_X12_reachedBy_h65 {N : Nat} {x2 : Int32} {x3 : Int32} {x4 : Int32} {σ : Sg} {z : Nat × Int32 × Int32 × Sg} (C : Cx p s m args meth c cX12_reachedBy 5 (some .int) RX12 g A X) (hf : s_X12_reachedBy_h65 N x2 x3 x4 σ = some z) (k0 : z.1 = 0 → Bk mw p l e rm_X12_reachedBy s m args below meth c 5 g A Q 0 0 65 [(0, .ref (g.2.2 0)), (2, .int x2), (3, .int z.2.1), (4, .int z.2.2.1)] [] z.2.2.2) (k : ¬ z.1 = 0 → Bk mw p l e rm_X12_reachedBy s m args below meth c 5 g A Q 0 0 88 [(0, .ref (g.2.2 0)), (3, .int z.2.1)] [] z.2.2.2) : Bk mw p l e rm_X12_reachedBy s m args below meth c 5 g A Q 0 0 65 [(0, .ref (g.2.2 0)), (2, .int x2), (3, .int x3), (4, .int x4)] [] σ := by
  obtain ⟨hx, hb, hr, hml, hown, hts, hK, hlocks, hXX, hA, hXo⟩ := id C
  intro H locs ls hP hD hS hl
  unfold s_X12_reachedBy_h65 at hf
  refine lv_iload hx hb dX12_reachedBy_65 (lv_at hl 3 rfl) ?_
  refine lv_iload_n hx hb dX12_reachedBy_67 rfl (lv_at hl 1 rfl) ?_
  refine lv_icmp_ge (tgt := 88) hx hb dX12_reachedBy_68 (by decide) (fun t68 => ?_) (fun t68 => ?_)
  · have hf := (if_pos t68).symm.trans hf
    cases hf
    exact (k (show ¬ (1 : Nat) = 0 by decide)) H locs ls hP hD hS (lv_sub hl [0, 2] rfl)
  · have hf := (if_neg t68).symm.trans hf
    refine lv_aload_n hx hb dX12_reachedBy_71 rfl (lv_at hl 0 rfl) ?_
    obtain ⟨q1, hq1, hf⟩ := bi_s hf
    refine bk_VV (wf := mw) (q0 := 0) (ci := 11) (rest := []) [] C hP hD hS hl.1 (c_X12_aTick hXo hq1) (cwA_V 0 hts wa_903 wa_900 wa_901 wa_902 wa_5 rfl rfl nd_X12_aTick ⟨Nat.le_of_ble_eq_true rfl, Nat.le_of_ble_eq_true rfl⟩) rfl rfl rfl rfl (Nat.le_of_ble_eq_true rfl) dX12_reachedBy_72 ⟨Nat.le_of_ble_eq_true rfl, Nat.le_of_ble_eq_true rfl⟩ (fun H locs hP hD hS => ?_)
    refine lv_iload_n hx hb dX12_reachedBy_75 rfl (lv_at hl 2 rfl) ?_
    refine lv_aload_n hx hb dX12_reachedBy_76 rfl (lv_at hl 0 rfl) ?_
    refine bk_get (wf := mw) (q0 := 0) (ci := 11) (k := 35) (v := .int (q1 0 35)) C hP wl_X12 rfl rfl (by decide) wa_904 rfl rfl dX12_reachedBy_77 ?_
    refine lv_ior hx hb dX12_reachedBy_80 ?_
    obtain ⟨v2, ev2, hf⟩ := bd_s hf
    rw [← ev2]
    refine lv_istore_n (lv' := [(3, .int v2), (0, .ref (g.2.2 0)), (2, .int x2), (4, .int x4)]) hx hb dX12_reachedBy_81 rfl hl (by decide) rfl (fun ls hl => ?_)
    obtain ⟨v3, ev3, hf⟩ := bd_s hf
    refine lv_iinc (v := v3) (lv' := [(4, .int v3), (3, .int v2), (0, .ref (g.2.2 0)), (2, .int x2)]) hx hb dX12_reachedBy_82 hl (k := 3) rfl (by rw [ev3]; rfl) (by decide) rfl (fun ls hl => ?_)
    refine lv_goto (tgt := 65) hx hb dX12_reachedBy_85 (by decide) ?_
    cases hf
    exact k0 rfl H locs ls hP hD hS (lv_sub hl [2, 3, 1, 0] rfl)
theorem lp_X12_reachedBy_h65 {N : Nat} {n : Nat} {x2 : Int32} {x3 : Int32} {x4 : Int32} {σ : Sg} {z : Nat × Int32 × Int32 × Sg} (C : Cx p s m args meth c cX12_reachedBy 5 (some .int) RX12 g A X) (hz : it (fun q => s_X12_reachedBy_h65 N x2 q.1 q.2.1 q.2.2) n (x3, x4, σ) = some z) (k : Bk mw p l e rm_X12_reachedBy s m args below meth c 5 g A Q 0 0 88 [(0, .ref (g.2.2 0)), (3, .int z.2.1)] [] z.2.2.2) : Bk mw p l e rm_X12_reachedBy s m args below meth c 5 g A Q 0 0 65 [(0, .ref (g.2.2 0)), (2, .int x2), (3, .int x3), (4, .int x4)] [] σ :=
  it_W (S := Int32 × Int32 × Sg) (fun q => Bk mw p l e rm_X12_reachedBy s m args below meth c 5 g A Q 0 0 65 [(0, .ref (g.2.2 0)), (2, .int x2), (3, .int q.1), (4, .int q.2.1)] [] q.2.2) (fun z => Bk mw p l e rm_X12_reachedBy s m args below meth c 5 g A Q 0 0 88 [(0, .ref (g.2.2 0)), (3, .int z.2.1)] [] z.2.2.2) (fun q z hq k0 k => e_X12_reachedBy_h65 C hq k0 k) n (x3, x4, σ) z hz k
def f_X12_reachedBy_b54 (N : Nat) (x1 : Int32) (x2 : Int32) (x3 : Int32) (σ : Sg) : Option (Nat × Int32 × Sg) :=
bd (x3 + (1 : Int32)) fun v4 =>
some (0, v4, σ)
set_option maxHeartbeats 4000000 in
set_option maxRecDepth 100000 in
theorem b_X12_reachedBy_b54 {N : Nat} {x1 : Int32} {x2 : Int32} {x3 : Int32} {σ : Sg} {z : Nat × Int32 × Sg} (C : Cx p s m args meth c cX12_reachedBy 5 (some .int) RX12 g A X) (hf : f_X12_reachedBy_b54 N x1 x2 x3 σ = some z) (k0 : z.1 = 0 → Bk mw p l e rm_X12_reachedBy s m args below meth c 5 g A Q 0 0 15 [(0, .ref (g.2.2 0)), (1, .int x1), (2, .int x2), (3, .int z.2.1)] [] z.2.2) (k : ¬ z.1 = 0 → Bk mw p l e rm_X12_reachedBy s m args below meth c 5 g A Q 0 0 60 [(0, .ref (g.2.2 0)), (2, .int x2)] [] z.2.2) : Bk mw p l e rm_X12_reachedBy s m args below meth c 5 g A Q 0 0 54 [(0, .ref (g.2.2 0)), (1, .int x1), (2, .int x2), (3, .int x3)] [] σ := by
  obtain ⟨hx, hb, hr, hml, hown, hts, hK, hlocks, hXX, hA, hXo⟩ := id C
  intro H locs ls hP hD hS hl
  unfold f_X12_reachedBy_b54 at hf
  obtain ⟨v4, ev4, hf⟩ := bd_s hf
  refine lv_iinc (v := v4) (lv' := [(3, .int v4), (0, .ref (g.2.2 0)), (1, .int x1), (2, .int x2)]) hx hb dX12_reachedBy_54 hl (k := 3) rfl (by rw [ev4]; rfl) (by decide) rfl (fun ls hl => ?_)
  refine lv_goto (tgt := 15) hx hb dX12_reachedBy_57 (by decide) ?_
  cases hf
  exact k0 rfl H locs ls hP hD hS (lv_sub hl [1, 2, 3, 0] rfl)
def s_X12_reachedBy_h15 (N : Nat) (x1 : Int32) (x2 : Int32) (x3 : Int32) (σ : Sg) : Option (Nat × Int32 × Sg) :=
if (σ 3 0) ≤ x3 then (some (1, 0, σ))
else (if (x3 < 0 ∨ 9 ≤ x3.toNatClampNeg) then none else
bd (wr σ 14 (x3.toNatClampNeg) (0 : Int32)) fun σ6 =>
(f_X12_isOf N (x1 &&& ((σ6 0 29) ^^^ (-1 : Int32))) x3 σ6).bind fun q7 =>
if q7.1 = 0 then (f_X12_reachedBy_b54 N x1 x2 x3 (q7.2))
else (if (x3 < 0 ∨ 9 ≤ x3.toNatClampNeg) then none else
bd (wr (q7.2) 13 (x3.toNatClampNeg) (1 : Int32)) fun σ9 =>
f_X12_reachedBy_b54 N x1 x2 x3 σ9))
set_option maxHeartbeats 4000000 in
set_option maxRecDepth 100000 in
theorem e_X12_reachedBy_h15 {N : Nat} {x1 : Int32} {x2 : Int32} {x3 : Int32} {σ : Sg} {z : Nat × Int32 × Sg} (C : Cx p s m args meth c cX12_reachedBy 5 (some .int) RX12 g A X) (hf : s_X12_reachedBy_h15 N x1 x2 x3 σ = some z) (k0 : z.1 = 0 → Bk mw p l e rm_X12_reachedBy s m args below meth c 5 g A Q 0 0 15 [(0, .ref (g.2.2 0)), (1, .int x1), (2, .int x2), (3, .int z.2.1)] [] z.2.2) (k : ¬ z.1 = 0 → Bk mw p l e rm_X12_reachedBy s m args below meth c 5 g A Q 0 0 60 [(0, .ref (g.2.2 0)), (2, .int x2)] [] z.2.2) : Bk mw p l e rm_X12_reachedBy s m args below meth c 5 g A Q 0 0 15 [(0, .ref (g.2.2 0)), (1, .int x1), (2, .int x2), (3, .int x3)] [] σ := by
  obtain ⟨hx, hb, hr, hml, hown, hts, hK, hlocks, hXX, hA, hXo⟩ := id C
  intro H locs ls hP hD hS hl
  unfold s_X12_reachedBy_h15 at hf
  refine lv_iload_n hx hb dX12_reachedBy_15 rfl (lv_at hl 3 rfl) ?_
  refine lv_aload_n hx hb dX12_reachedBy_16 rfl (lv_at hl 0 rfl) ?_
  refine bk_get (wf := mw) (q0 := 0) (ci := 11) (k := 3) (v := .ref (g.2.2 3)) C hP wl_X12 rfl rfl (by decide) wa_157 rfl rfl dX12_reachedBy_17 ?_
  refine lv_iconst (v := (0 : Int32)) hx hb dX12_reachedBy_20 (by decide) ?_
  refine bk_iald (wf := mw) (q0 := 3) (n := 10) (j := 0) C hP rfl (vin_l (by decide) (by decide)) (by decide) dX12_reachedBy_21 ?_
  refine lv_icmp_ge (tgt := 60) hx hb dX12_reachedBy_22 (by decide) (fun t22 => ?_) (fun t22 => ?_)
  · have hf := (if_pos t22).symm.trans hf
    cases hf
    exact (k (show ¬ (1 : Nat) = 0 by decide)) H locs ls hP hD hS (lv_sub hl [0, 2] rfl)
  · have hf := (if_neg t22).symm.trans hf
    refine lv_aload_n hx hb dX12_reachedBy_25 rfl (lv_at hl 0 rfl) ?_
    refine bk_get (wf := mw) (q0 := 0) (ci := 11) (k := 24) (v := .ref (g.2.2 14)) C hP wl_X12 rfl rfl (by decide) wa_169 rfl rfl dX12_reachedBy_26 ?_
    refine lv_iload_n hx hb dX12_reachedBy_29 rfl (lv_at hl 3 rfl) ?_
    refine lv_iconst (v := (0 : Int32)) hx hb dX12_reachedBy_30 (by decide) ?_
    obtain ⟨g5, hf⟩ := gd_s hf
    obtain ⟨σ6, eσ6, hf⟩ := bd_s hf
    refine bk_iast (wf := mw) (σ1 := σ6) (q0 := 14) (n := 9) (j := x3.toNatClampNeg) C hP hD hS rfl g5 rfl (by rw [eσ6]; exact mw_a14 g _ _ _) dX12_reachedBy_31 (fun H locs hP hD hS => ?_)
    refine lv_iload_n hx hb dX12_reachedBy_32 rfl (lv_at hl 1 rfl) ?_
    refine lv_aload_n hx hb dX12_reachedBy_33 rfl (lv_at hl 0 rfl) ?_
    refine bk_get (wf := mw) (q0 := 0) (ci := 11) (k := 29) (v := .int (σ6 0 29)) C hP wl_X12 rfl rfl (by decide) wa_614 rfl rfl dX12_reachedBy_34 ?_
    refine lv_iconst (v := (-1 : Int32)) hx hb dX12_reachedBy_37 (by decide) ?_
    refine lv_ixor hx hb dX12_reachedBy_38 ?_
    refine lv_iand hx hb dX12_reachedBy_39 ?_
    refine lv_iload_n hx hb dX12_reachedBy_40 rfl (lv_at hl 3 rfl) ?_
    obtain ⟨q7, hq7, hf⟩ := bi_s hf
    refine bk_SI (wf := mw) (rest := []) [.int (x1 &&& ((σ6 0 29) ^^^ (-1 : Int32))), .int x3] C hP hD hS hl.1 (c_X12_isOf hXo hq7) (cwA_S 2 hts wa_726 wa_724 wa_725 wa_5 rfl rfl nd_X12_isOf ⟨Nat.le_of_ble_eq_true rfl, Nat.le_of_ble_eq_true rfl⟩) rfl rfl (Nat.le_of_ble_eq_true rfl) dX12_reachedBy_41 ⟨Nat.le_of_ble_eq_true rfl, Nat.le_of_ble_eq_true rfl⟩ (fun H locs hP hD hS => ?_)
    refine lv_if_eq (tgt := 54) hx hb dX12_reachedBy_44 (by decide) (fun t44 => ?_) (fun t44 => ?_)
    · have hf := (if_pos t44).symm.trans hf
      exact b_X12_reachedBy_b54 C hf k0 k H locs ls hP hD hS (lv_sub hl [0, 1, 2, 3] rfl)
    · have hf := (if_neg t44).symm.trans hf
      refine lv_aload_n hx hb dX12_reachedBy_47 rfl (lv_at hl 0 rfl) ?_
      refine bk_get (wf := mw) (q0 := 0) (ci := 11) (k := 23) (v := .ref (g.2.2 13)) C hP wl_X12 rfl rfl (by decide) wa_168 rfl rfl dX12_reachedBy_48 ?_
      refine lv_iload_n hx hb dX12_reachedBy_51 rfl (lv_at hl 3 rfl) ?_
      refine lv_iconst (v := (1 : Int32)) hx hb dX12_reachedBy_52 (by decide) ?_
      obtain ⟨g8, hf⟩ := gd_s hf
      obtain ⟨σ9, eσ9, hf⟩ := bd_s hf
      refine bk_iast (wf := mw) (σ1 := σ9) (q0 := 13) (n := 9) (j := x3.toNatClampNeg) C hP hD hS rfl g8 rfl (by rw [eσ9]; exact mw_a13 g _ _ _) dX12_reachedBy_53 (fun H locs hP hD hS => ?_)
      exact b_X12_reachedBy_b54 C hf k0 k H locs ls hP hD hS (lv_sub hl [0, 1, 2, 3] rfl)
theorem lp_X12_reachedBy_h15 {N : Nat} {n : Nat} {x1 : Int32} {x2 : Int32} {x3 : Int32} {σ : Sg} {z : Nat × Int32 × Sg} (C : Cx p s m args meth c cX12_reachedBy 5 (some .int) RX12 g A X) (hz : it (fun q => s_X12_reachedBy_h15 N x1 x2 q.1 q.2) n (x3, σ) = some z) (k : Bk mw p l e rm_X12_reachedBy s m args below meth c 5 g A Q 0 0 60 [(0, .ref (g.2.2 0)), (2, .int x2)] [] z.2.2) : Bk mw p l e rm_X12_reachedBy s m args below meth c 5 g A Q 0 0 15 [(0, .ref (g.2.2 0)), (1, .int x1), (2, .int x2), (3, .int x3)] [] σ :=
  it_W (S := Int32 × Sg) (fun q => Bk mw p l e rm_X12_reachedBy s m args below meth c 5 g A Q 0 0 15 [(0, .ref (g.2.2 0)), (1, .int x1), (2, .int x2), (3, .int q.1)] [] q.2) (fun z => Bk mw p l e rm_X12_reachedBy s m args below meth c 5 g A Q 0 0 60 [(0, .ref (g.2.2 0)), (2, .int x2)] [] z.2.2) (fun q z hq k0 k => e_X12_reachedBy_h15 C hq k0 k) n (x3, σ) z hz k
def f_X12_reachedBy (N : Nat) (x1 : Int32) (x2 : Int32) (σ : Sg) : Option (Int32 × Sg) :=
(f_X12_pack_23 N (0 : Int32) σ).bind fun q10 =>
(f_X12_hushAll N q10).bind fun q11 =>
(it (fun q => s_X12_reachedBy_h15 N x1 x2 q.1 q.2) N ((0 : Int32), q11)).bind fun z12 =>
(it (fun q => s_X12_reachedBy_h65 N x2 q.1 q.2.1 q.2.2) N ((0 : Int32), (0 : Int32), (z12.2.2))).bind fun z13 =>
(f_X12_unpack_23 N (0 : Int32) (z13.2.2.2)).bind fun q14 =>
some ((z13.2.1), q14)
set_option maxHeartbeats 4000000 in
set_option maxRecDepth 100000 in
theorem b_X12_reachedBy {N : Nat} {x1 : Int32} {x2 : Int32} {σ : Sg} {z : Int32 × Sg} (C : Cx p s m args meth c cX12_reachedBy 5 (some .int) RX12 g A X) (hf : f_X12_reachedBy N x1 x2 σ = some z) : Bk mw p l e rm_X12_reachedBy s m args below meth c 5 g A (MQ below (qI mw g A z.1 z.2) args s 0 0 A) 0 0 0 [(0, .ref (g.2.2 0)), (1, .int x1), (2, .int x2)] [] σ := by
  obtain ⟨hx, hb, hr, hml, hown, hts, hK, hlocks, hXX, hA, hXo⟩ := id C
  intro H locs ls hP hD hS hl
  unfold f_X12_reachedBy at hf
  refine lv_aload_n hx hb dX12_reachedBy_0 rfl (lv_at hl 0 rfl) ?_
  refine lv_aload_n hx hb dX12_reachedBy_1 rfl (lv_at hl 0 rfl) ?_
  refine bk_get (wf := mw) (q0 := 0) (ci := 11) (k := 39) (v := .ref (g.2.2 23)) C hP wl_X12 rfl rfl (by decide) wa_179 rfl rfl dX12_reachedBy_2 ?_
  refine lv_iconst (v := (0 : Int32)) hx hb dX12_reachedBy_5 (by decide) ?_
  obtain ⟨q10, hq10, hf⟩ := bi_s hf
  refine bk_VV (wf := mw) (q0 := 0) (ci := 11) (rest := []) [.ref (g.2.2 23), .int (0 : Int32)] C hP hD hS hl.1 (c_X12_pack_23 hXo hq10) (cwA_V 2 hts wa_895 wa_892 wa_893 wa_894 wa_5 rfl rfl nd_X12_pack ⟨Nat.le_of_ble_eq_true rfl, Nat.le_of_ble_eq_true rfl⟩) rfl rfl rfl rfl (Nat.le_of_ble_eq_true rfl) dX12_reachedBy_6 ⟨Nat.le_of_ble_eq_true rfl, Nat.le_of_ble_eq_true rfl⟩ (fun H locs hP hD hS => ?_)
  refine lv_aload_n hx hb dX12_reachedBy_9 rfl (lv_at hl 0 rfl) ?_
  obtain ⟨q11, hq11, hf⟩ := bi_s hf
  refine bk_VV (wf := mw) (q0 := 0) (ci := 11) (rest := []) [] C hP hD hS hl.1 (c_X12_hushAll hXo hq11) (cwA_V 0 hts wa_990 wa_987 wa_988 wa_989 wa_5 rfl rfl nd_X12_hushAll ⟨Nat.le_of_ble_eq_true rfl, Nat.le_of_ble_eq_true rfl⟩) rfl rfl rfl rfl (Nat.le_of_ble_eq_true rfl) dX12_reachedBy_10 ⟨Nat.le_of_ble_eq_true rfl, Nat.le_of_ble_eq_true rfl⟩ (fun H locs hP hD hS => ?_)
  refine lv_iconst (v := (0 : Int32)) hx hb dX12_reachedBy_13 (by decide) ?_
  refine lv_istore_n (lv' := [(3, .int (0 : Int32)), (0, .ref (g.2.2 0)), (1, .int x1), (2, .int x2)]) hx hb dX12_reachedBy_14 rfl hl (by decide) rfl (fun ls hl => ?_)
  obtain ⟨z12, hz12, hf⟩ := bi_s hf
  refine lp_X12_reachedBy_h15 C hz12 ?_ H locs ls hP hD hS (lv_sub hl [1, 2, 3, 0] rfl)
  intro H locs ls hP hD hS hl
  refine lv_iconst (v := (0 : Int32)) hx hb dX12_reachedBy_60 (by decide) ?_
  refine lv_istore_n (lv' := [(3, .int (0 : Int32)), (0, .ref (g.2.2 0)), (2, .int x2)]) hx hb dX12_reachedBy_61 rfl hl (by decide) rfl (fun ls hl => ?_)
  refine lv_iconst (v := (0 : Int32)) hx hb dX12_reachedBy_62 (by decide) ?_
  refine lv_istore (lv' := [(4, .int (0 : Int32)), (3, .int (0 : Int32)), (0, .ref (g.2.2 0)), (2, .int x2)]) hx hb dX12_reachedBy_63 hl (by decide) rfl (fun ls hl => ?_)
  obtain ⟨z13, hz13, hf⟩ := bi_s hf
  refine lp_X12_reachedBy_h65 C hz13 ?_ H locs ls hP hD hS (lv_sub hl [2, 3, 1, 0] rfl)
  intro H locs ls hP hD hS hl
  refine lv_aload_n hx hb dX12_reachedBy_88 rfl (lv_at hl 0 rfl) ?_
  refine lv_aload_n hx hb dX12_reachedBy_89 rfl (lv_at hl 0 rfl) ?_
  refine bk_get (wf := mw) (q0 := 0) (ci := 11) (k := 39) (v := .ref (g.2.2 23)) C hP wl_X12 rfl rfl (by decide) wa_179 rfl rfl dX12_reachedBy_90 ?_
  refine lv_iconst (v := (0 : Int32)) hx hb dX12_reachedBy_93 (by decide) ?_
  obtain ⟨q14, hq14, hf⟩ := bi_s hf
  refine bk_VV (wf := mw) (q0 := 0) (ci := 11) (rest := []) [.ref (g.2.2 23), .int (0 : Int32)] C hP hD hS hl.1 (c_X12_unpack_23 hXo hq14) (cwA_V 2 hts wa_1010 wa_1007 wa_1008 wa_1009 wa_5 rfl rfl nd_X12_unpack ⟨Nat.le_of_ble_eq_true rfl, Nat.le_of_ble_eq_true rfl⟩) rfl rfl rfl rfl (Nat.le_of_ble_eq_true rfl) dX12_reachedBy_94 ⟨Nat.le_of_ble_eq_true rfl, Nat.le_of_ble_eq_true rfl⟩ (fun H locs hP hD hS => ?_)
  refine lv_iload_n hx hb dX12_reachedBy_97 rfl (lv_at hl 1 rfl) ?_
  cases hf
  exact bk_iret C hP hD hS rfl dX12_reachedBy_98
theorem c_X12_reachedBy {N : Nat} {x1 : Int32} {x2 : Int32} {σ : Sg} {z : Int32 × Sg} (hX : xOK g X) (hf : f_X12_reachedBy N x1 x2 σ = some z) : MetI l yX12_reachedBy (Cond.code yX12_reachedBy cX12_reachedBy 5 (some .int) :: wsA) rm_X12_reachedBy mw g X [.ref (g.2.2 0), .int x1, .int x2] σ z.1 z.2 :=
  MetI_of hX (by decide) (Nat.le_of_ble_eq_true rfl) (fun p e s m args below meth c A C => b_X12_reachedBy C hf)
-- X12_reachesIn: reachesIn(III)Z
abbrev rm_X12_reachesIn : Room := { frames := 7, cells := 0, slots := 0, locals := 162 }
theorem nd_X12_reachesIn : yX12_reachesIn.cls ≠ "java/lang/invoke/MethodHandle" ∧ yX12_reachesIn.cls ≠ "java/lang/invoke/VarHandle" ∧ (parseMethodDescriptor yX12_reachesIn.desc).map (fun d => d.parameters.length) = some 3 := by decide +kernel
def f_X12_reachesIn (N : Nat) (x1 : Int32) (x2 : Int32) (x3 : Int32) (σ : Sg) : Option (Int32 × Sg) :=
(f_X12_reachedBy N ((1 : Int32) <<< (x1 &&& 31)) x3 σ).bind fun q1 =>
(f_X12_isOf N q1.1 x2 (q1.2)).bind fun q2 =>
if ¬ (q2.1 = 0 ∨ q2.1 = 1) then none else some (q2.1, (q2.2))
set_option maxHeartbeats 4000000 in
set_option maxRecDepth 100000 in
theorem b_X12_reachesIn {N : Nat} {x1 : Int32} {x2 : Int32} {x3 : Int32} {σ : Sg} {z : Int32 × Sg} (C : Cx p s m args meth c cX12_reachesIn 4 (some .boolean) RX12 g A X) (hf : f_X12_reachesIn N x1 x2 x3 σ = some z) : Bk mw p l e rm_X12_reachesIn s m args below meth c 4 g A (MQ below (qI mw g A z.1 z.2) args s 0 0 A) 0 0 0 [(0, .ref (g.2.2 0)), (1, .int x1), (2, .int x2), (3, .int x3)] [] σ := by
  obtain ⟨hx, hb, hr, hml, hown, hts, hK, hlocks, hXX, hA, hXo⟩ := id C
  intro H locs ls hP hD hS hl
  unfold f_X12_reachesIn at hf
  refine lv_aload_n hx hb dX12_reachesIn_0 rfl (lv_at hl 0 rfl) ?_
  refine lv_iconst (v := (1 : Int32)) hx hb dX12_reachesIn_1 (by decide) ?_
  refine lv_iload_n hx hb dX12_reachesIn_2 rfl (lv_at hl 1 rfl) ?_
  refine lv_ishl hx hb dX12_reachesIn_3 ?_
  refine lv_iload_n hx hb dX12_reachesIn_4 rfl (lv_at hl 3 rfl) ?_
  obtain ⟨q1, hq1, hf⟩ := bi_s hf
  refine bk_VI (wf := mw) (q0 := 0) (ci := 11) (rest := []) [.int ((1 : Int32) <<< (x1 &&& 31)), .int x3] C hP hD hS hl.1 (c_X12_reachedBy hXo hq1) (cwA_V 2 hts wa_1117 wa_1114 wa_1115 wa_1116 wa_5 rfl rfl nd_X12_reachedBy ⟨Nat.le_of_ble_eq_true rfl, Nat.le_of_ble_eq_true rfl⟩) rfl rfl rfl rfl (Nat.le_of_ble_eq_true rfl) dX12_reachesIn_5 ⟨Nat.le_of_ble_eq_true rfl, Nat.le_of_ble_eq_true rfl⟩ (fun H locs hP hD hS => ?_)
  refine lv_iload_n hx hb dX12_reachesIn_8 rfl (lv_at hl 2 rfl) ?_
  obtain ⟨q2, hq2, hf⟩ := bi_s hf
  refine bk_SI (wf := mw) (rest := []) [.int q1.1, .int x2] C hP hD hS hl.1 (c_X12_isOf hXo hq2) (cwA_S 2 hts wa_726 wa_724 wa_725 wa_5 rfl rfl nd_X12_isOf ⟨Nat.le_of_ble_eq_true rfl, Nat.le_of_ble_eq_true rfl⟩) rfl rfl (Nat.le_of_ble_eq_true rfl) dX12_reachesIn_9 ⟨Nat.le_of_ble_eq_true rfl, Nat.le_of_ble_eq_true rfl⟩ (fun H locs hP hD hS => ?_)
  obtain ⟨g3, hf⟩ := gd_s hf
  cases hf
  exact bk_zret C hP hD hS (Decidable.not_not.mp g3) rfl dX12_reachesIn_12
theorem c_X12_reachesIn {N : Nat} {x1 : Int32} {x2 : Int32} {x3 : Int32} {σ : Sg} {z : Int32 × Sg} (hX : xOK g X) (hf : f_X12_reachesIn N x1 x2 x3 σ = some z) : MetI l yX12_reachesIn (Cond.code yX12_reachesIn cX12_reachesIn 4 (some .boolean) :: wsA) rm_X12_reachesIn mw g X [.ref (g.2.2 0), .int x1, .int x2, .int x3] σ z.1 z.2 :=
  MetI_of hX (by decide) (Nat.le_of_ble_eq_true rfl) (fun p e s m args below meth c A C => b_X12_reachesIn C hf)
-- X12_reaches: reaches(II)I
abbrev rm_X12_reaches : Room := { frames := 8, cells := 0, slots := 0, locals := 185 }
theorem nd_X12_reaches : yX12_reaches.cls ≠ "java/lang/invoke/MethodHandle" ∧ yX12_reaches.cls ≠ "java/lang/invoke/VarHandle" ∧ (parseMethodDescriptor yX12_reaches.desc).map (fun d => d.parameters.length) = some 2 := by decide +kernel
def f_X12_reaches_b83 (N : Nat) (x1 : Int32) (x2 : Int32) (x3 : Int32) (x4 : Int32) (σ : Sg) : Option (Nat × Int32 × Int32 × Sg) :=
some (0, x3, x4, σ)
set_option maxHeartbeats 4000000 in
set_option maxRecDepth 100000 in
theorem b_X12_reaches_b83 {N : Nat} {x1 : Int32} {x2 : Int32} {x3 : Int32} {x4 : Int32} {σ : Sg} {z : Nat × Int32 × Int32 × Sg} (C : Cx p s m args meth c cX12_reaches 6 (some .int) RX12 g A X) (hf : f_X12_reaches_b83 N x1 x2 x3 x4 σ = some z) (k0 : z.1 = 0 → Bk mw p l e rm_X12_reaches s m args below meth c 6 g A Q 0 0 46 [(0, .ref (g.2.2 0)), (1, .int x1), (2, .int x2), (3, .int z.2.1), (4, .int z.2.2.1)] [] z.2.2.2) (k : ¬ z.1 = 0 → Bk mw p l e rm_X12_reaches s m args below meth c 6 g A Q 0 0 86 [(3, .int z.2.1)] [] z.2.2.2) : Bk mw p l e rm_X12_reaches s m args below meth c 6 g A Q 0 0 83 [(0, .ref (g.2.2 0)), (1, .int x1), (2, .int x2), (3, .int x3), (4, .int x4)] [] σ := by
  obtain ⟨hx, hb, hr, hml, hown, hts, hK, hlocks, hXX, hA, hXo⟩ := id C
  intro H locs ls hP hD hS hl
  unfold f_X12_reaches_b83 at hf
  refine lv_goto (tgt := 46) hx hb dX12_reaches_83 (by decide) ?_
  cases hf
  exact k0 rfl H locs ls hP hD hS (lv_sub hl [0, 1, 2, 3, 4] rfl)
def s_X12_reaches_h46 (N : Nat) (x1 : Int32) (x2 : Int32) (x3 : Int32) (x4 : Int32) (σ : Sg) : Option (Nat × Int32 × Int32 × Sg) :=
if x4 ≤ x3 then (some (1, x3, 0, σ))
else (bd ((x3 + x4) / (2 : Int32)) fun v1 =>
(f_X12_reachesIn N x1 x2 v1 σ).bind fun q2 =>
if q2.1 = 0 then (bd (v1 + (1 : Int32)) fun v3 =>
f_X12_reaches_b83 N x1 x2 v3 x4 (q2.2))
else (f_X12_reaches_b83 N x1 x2 x3 v1 (q2.2)))
set_option maxHeartbeats 4000000 in
set_option maxRecDepth 100000 in
theorem e_X12_reaches_h46 {N : Nat} {x1 : Int32} {x2 : Int32} {x3 : Int32} {x4 : Int32} {σ : Sg} {z : Nat × Int32 × Int32 × Sg} (C : Cx p s m args meth c cX12_reaches 6 (some .int) RX12 g A X) (hf : s_X12_reaches_h46 N x1 x2 x3 x4 σ = some z) (k0 : z.1 = 0 → Bk mw p l e rm_X12_reaches s m args below meth c 6 g A Q 0 0 46 [(0, .ref (g.2.2 0)), (1, .int x1), (2, .int x2), (3, .int z.2.1), (4, .int z.2.2.1)] [] z.2.2.2) (k : ¬ z.1 = 0 → Bk mw p l e rm_X12_reaches s m args below meth c 6 g A Q 0 0 86 [(3, .int z.2.1)] [] z.2.2.2) : Bk mw p l e rm_X12_reaches s m args below meth c 6 g A Q 0 0 46 [(0, .ref (g.2.2 0)), (1, .int x1), (2, .int x2), (3, .int x3), (4, .int x4)] [] σ := by
  obtain ⟨hx, hb, hr, hml, hown, hts, hK, hlocks, hXX, hA, hXo⟩ := id C
  intro H locs ls hP hD hS hl
  unfold s_X12_reaches_h46 at hf
  refine lv_iload_n hx hb dX12_reaches_46 rfl (lv_at hl 3 rfl) ?_
  refine lv_iload hx hb dX12_reaches_47 (lv_at hl 4 rfl) ?_
  refine lv_icmp_ge (tgt := 86) hx hb dX12_reaches_49 (by decide) (fun t49 => ?_) (fun t49 => ?_)
  · have hf := (if_pos t49).symm.trans hf
    cases hf
    exact (k (show ¬ (1 : Nat) = 0 by decide)) H locs ls hP hD hS (lv_sub hl [3] rfl)
  · have hf := (if_neg t49).symm.trans hf
    refine lv_iload_n hx hb dX12_reaches_52 rfl (lv_at hl 3 rfl) ?_
    refine lv_iload hx hb dX12_reaches_53 (lv_at hl 4 rfl) ?_
    refine lv_iadd hx hb dX12_reaches_55 ?_
    refine lv_iconst (v := (2 : Int32)) hx hb dX12_reaches_56 (by decide) ?_
    refine lv_idiv hx hb dX12_reaches_57 (by decide) ?_
    obtain ⟨v1, ev1, hf⟩ := bd_s hf
    rw [← ev1]
    refine lv_istore (lv' := [(5, .int v1), (0, .ref (g.2.2 0)), (1, .int x1), (2, .int x2), (3, .int x3), (4, .int x4)]) hx hb dX12_reaches_58 hl (by decide) rfl (fun ls hl => ?_)
    refine lv_aload_n hx hb dX12_reaches_60 rfl (lv_at hl 1 rfl) ?_
    refine lv_iload_n hx hb dX12_reaches_61 rfl (lv_at hl 2 rfl) ?_
    refine lv_iload_n hx hb dX12_reaches_62 rfl (lv_at hl 3 rfl) ?_
    refine lv_iload hx hb dX12_reaches_63 (lv_at hl 0 rfl) ?_
    obtain ⟨q2, hq2, hf⟩ := bi_s hf
    refine bk_VI (wf := mw) (q0 := 0) (ci := 11) (rest := []) [.int x1, .int x2, .int v1] C hP hD hS hl.1 (c_X12_reachesIn hXo hq2) (cwA_V 3 hts wa_1113 wa_1110 wa_1111 wa_1112 wa_5 rfl rfl nd_X12_reachesIn ⟨Nat.le_of_ble_eq_true rfl, Nat.le_of_ble_eq_true rfl⟩) rfl rfl rfl rfl (Nat.le_of_ble_eq_true rfl) dX12_reaches_65 ⟨Nat.le_of_ble_eq_true rfl, Nat.le_of_ble_eq_true rfl⟩ (fun H locs hP hD hS => ?_)
    refine lv_if_eq (tgt := 78) hx hb dX12_reaches_68 (by decide) (fun t68 => ?_) (fun t68 => ?_)
    · have hf := (if_pos t68).symm.trans hf
      refine lv_iload hx hb dX12_reaches_78 (lv_at hl 0 rfl) ?_
      refine lv_iconst (v := (1 : Int32)) hx hb dX12_reaches_80 (by decide) ?_
      refine lv_iadd hx hb dX12_reaches_81 ?_
      obtain ⟨v3, ev3, hf⟩ := bd_s hf
      rw [← ev3]
      refine lv_istore_n (lv' := [(3, .int v3), (5, .int v1), (0, .ref (g.2.2 0)), (1, .int x1), (2, .int x2), (4, .int x4)]) hx hb dX12_reaches_82 rfl hl (by decide) rfl (fun ls hl => ?_)
      exact b_X12_reaches_b83 C hf k0 k H locs ls hP hD hS (lv_sub hl [2, 3, 4, 0, 5] rfl)
    · have hf := (if_neg t68).symm.trans hf
      refine lv_iload hx hb dX12_reaches_71 (lv_at hl 0 rfl) ?_
      refine lv_istore (lv' := [(4, .int v1), (5, .int v1), (0, .ref (g.2.2 0)), (1, .int x1), (2, .int x2), (3, .int x3)]) hx hb dX12_reaches_73 hl (by decide) rfl (fun ls hl => ?_)
      refine lv_goto (tgt := 83) hx hb dX12_reaches_75 (by decide) ?_
      exact b_X12_reaches_b83 C hf k0 k H locs ls hP hD hS (lv_sub hl [2, 3, 4, 5, 0] rfl)
theorem lp_X12_reaches_h46 {N : Nat} {n : Nat} {x1 : Int32} {x2 : Int32} {x3 : Int32} {x4 : Int32} {σ : Sg} {z : Nat × Int32 × Int32 × Sg} (C : Cx p s m args meth c cX12_reaches 6 (some .int) RX12 g A X) (hz : it (fun q => s_X12_reaches_h46 N x1 x2 q.1 q.2.1 q.2.2) n (x3, x4, σ) = some z) (k : Bk mw p l e rm_X12_reaches s m args below meth c 6 g A Q 0 0 86 [(3, .int z.2.1)] [] z.2.2.2) : Bk mw p l e rm_X12_reaches s m args below meth c 6 g A Q 0 0 46 [(0, .ref (g.2.2 0)), (1, .int x1), (2, .int x2), (3, .int x3), (4, .int x4)] [] σ :=
  it_W (S := Int32 × Int32 × Sg) (fun q => Bk mw p l e rm_X12_reaches s m args below meth c 6 g A Q 0 0 46 [(0, .ref (g.2.2 0)), (1, .int x1), (2, .int x2), (3, .int q.1), (4, .int q.2.1)] [] q.2.2) (fun z => Bk mw p l e rm_X12_reaches s m args below meth c 6 g A Q 0 0 86 [(3, .int z.2.1)] [] z.2.2.2) (fun q z hq k0 k => e_X12_reaches_h46 C hq k0 k) n (x3, x4, σ) z hz k
def f_X12_reaches_b21 (N : Nat) (σ : Sg) : Option (Int32 × Sg) :=
(f_X12_fail N (1 : Int32) σ).bind fun q4 =>
some (q4.1, (q4.2))
set_option maxHeartbeats 4000000 in
set_option maxRecDepth 100000 in
theorem b_X12_reaches_b21 {N : Nat} {σ : Sg} {z : Int32 × Sg} (C : Cx p s m args meth c cX12_reaches 6 (some .int) RX12 g A X) (hf : f_X12_reaches_b21 N σ = some z) : Bk mw p l e rm_X12_reaches s m args below meth c 6 g A (MQ below (qI mw g A z.1 z.2) args s 0 0 A) 0 0 21 [(0, .ref (g.2.2 0))] [] σ := by
  obtain ⟨hx, hb, hr, hml, hown, hts, hK, hlocks, hXX, hA, hXo⟩ := id C
  intro H locs ls hP hD hS hl
  unfold f_X12_reaches_b21 at hf
  refine lv_aload_n hx hb dX12_reaches_21 rfl (lv_at hl 0 rfl) ?_
  refine lv_iconst (v := (1 : Int32)) hx hb dX12_reaches_22 (by decide) ?_
  obtain ⟨q4, hq4, hf⟩ := bi_s hf
  refine bk_VI (wf := mw) (q0 := 0) (ci := 11) (rest := []) [.int (1 : Int32)] C hP hD hS hl.1 (c_X12_fail hXo hq4) (cwA_V 1 hts wa_512 wa_509 wa_510 wa_511 wa_5 rfl rfl nd_X12_fail ⟨Nat.le_of_ble_eq_true rfl, Nat.le_of_ble_eq_true rfl⟩) rfl rfl rfl rfl (Nat.le_of_ble_eq_true rfl) dX12_reaches_23 ⟨Nat.le_of_ble_eq_true rfl, Nat.le_of_ble_eq_true rfl⟩ (fun H locs hP hD hS => ?_)
  cases hf
  exact bk_iret C hP hD hS rfl dX12_reaches_26
def f_X12_reaches (N : Nat) (x1 : Int32) (x2 : Int32) (σ : Sg) : Option (Int32 × Sg) :=
bd (wr σ 0 2 (0 : Int32)) fun σ5 =>
(f_X12_isFarm N x1 σ5).bind fun q6 =>
if q6.1 = 0 then (f_X12_reaches_b21 N (q6.2))
else ((f_X12_isFarm N x2 (q6.2)).bind fun q7 =>
if q7.1 = 0 then (f_X12_reaches_b21 N (q7.2))
else ((f_X12_reachesIn N x1 x2 (60 : Int32) (q7.2)).bind fun q8 =>
if q8.1 = 0 then (some ((-1 : Int32), (q8.2)))
else ((it (fun q => s_X12_reaches_h46 N x1 x2 q.1 q.2.1 q.2.2) N ((1 : Int32), (60 : Int32), (q8.2))).bind fun z9 =>
some ((z9.2.1), (z9.2.2.2)))))
set_option maxHeartbeats 4000000 in
set_option maxRecDepth 100000 in
theorem b_X12_reaches {N : Nat} {x1 : Int32} {x2 : Int32} {σ : Sg} {z : Int32 × Sg} (C : Cx p s m args meth c cX12_reaches 6 (some .int) RX12 g A X) (hf : f_X12_reaches N x1 x2 σ = some z) : Bk mw p l e rm_X12_reaches s m args below meth c 6 g A (MQ below (qI mw g A z.1 z.2) args s 0 0 A) 0 0 0 [(0, .ref (g.2.2 0)), (1, .int x1), (2, .int x2)] [] σ := by
  obtain ⟨hx, hb, hr, hml, hown, hts, hK, hlocks, hXX, hA, hXo⟩ := id C
  intro H locs ls hP hD hS hl
  unfold f_X12_reaches at hf
  refine lv_aload_n hx hb dX12_reaches_0 rfl (lv_at hl 0 rfl) ?_
  refine lv_iconst (v := (0 : Int32)) hx hb dX12_reaches_1 (by decide) ?_
  obtain ⟨σ5, eσ5, hf⟩ := bd_s hf
  refine bk_put (wf := mw) (σ1 := σ5) (q0 := 0) (ci := 11) (k := 2) (v := .int (0 : Int32)) C hP hD hS wl_X12 tyX12_ok nmX12 rfl rfl (by decide) wa_205 rfl rfl rfl rfl rfl (Nat.le_of_ble_eq_true rfl) (by rw [eσ5]; exact mw_p0_2 g _ _) dX12_reaches_2 (fun H locs hP hD hS => ?_)
  refine lv_aload_n hx hb dX12_reaches_5 rfl (lv_at hl 0 rfl) ?_
  refine lv_iload_n hx hb dX12_reaches_6 rfl (lv_at hl 1 rfl) ?_
  obtain ⟨q6, hq6, hf⟩ := bi_s hf
  refine bk_VI (wf := mw) (q0 := 0) (ci := 11) (rest := []) [.int x1] C hP hD hS hl.1 (c_X12_isFarm hXo hq6) (cwA_V 1 hts wa_800 wa_797 wa_798 wa_799 wa_5 rfl rfl nd_X12_isFarm ⟨Nat.le_of_ble_eq_true rfl, Nat.le_of_ble_eq_true rfl⟩) rfl rfl rfl rfl (Nat.le_of_ble_eq_true rfl) dX12_reaches_7 ⟨Nat.le_of_ble_eq_true rfl, Nat.le_of_ble_eq_true rfl⟩ (fun H locs hP hD hS => ?_)
  refine lv_if_eq (tgt := 21) hx hb dX12_reaches_10 (by decide) (fun t10 => ?_) (fun t10 => ?_)
  · have hf := (if_pos t10).symm.trans hf
    exact b_X12_reaches_b21 C hf H locs ls hP hD hS (lv_sub hl [0] rfl)
  · have hf := (if_neg t10).symm.trans hf
    refine lv_aload_n hx hb dX12_reaches_13 rfl (lv_at hl 0 rfl) ?_
    refine lv_iload_n hx hb dX12_reaches_14 rfl (lv_at hl 2 rfl) ?_
    obtain ⟨q7, hq7, hf⟩ := bi_s hf
    refine bk_VI (wf := mw) (q0 := 0) (ci := 11) (rest := []) [.int x2] C hP hD hS hl.1 (c_X12_isFarm hXo hq7) (cwA_V 1 hts wa_800 wa_797 wa_798 wa_799 wa_5 rfl rfl nd_X12_isFarm ⟨Nat.le_of_ble_eq_true rfl, Nat.le_of_ble_eq_true rfl⟩) rfl rfl rfl rfl (Nat.le_of_ble_eq_true rfl) dX12_reaches_15 ⟨Nat.le_of_ble_eq_true rfl, Nat.le_of_ble_eq_true rfl⟩ (fun H locs hP hD hS => ?_)
    refine lv_if_ne (tgt := 27) hx hb dX12_reaches_18 (by decide) (fun t18 => ?_) (fun t18 => ?_)
    · have hf := (if_neg t18).symm.trans hf
      refine lv_aload_n hx hb dX12_reaches_27 rfl (lv_at hl 0 rfl) ?_
      refine lv_iload_n hx hb dX12_reaches_28 rfl (lv_at hl 1 rfl) ?_
      refine lv_iload_n hx hb dX12_reaches_29 rfl (lv_at hl 2 rfl) ?_
      refine lv_bipush (v := (60 : Int32)) hx hb dX12_reaches_30 (by decide) ?_
      obtain ⟨q8, hq8, hf⟩ := bi_s hf
      refine bk_VI (wf := mw) (q0 := 0) (ci := 11) (rest := []) [.int x1, .int x2, .int (60 : Int32)] C hP hD hS hl.1 (c_X12_reachesIn hXo hq8) (cwA_V 3 hts wa_1113 wa_1110 wa_1111 wa_1112 wa_5 rfl rfl nd_X12_reachesIn ⟨Nat.le_of_ble_eq_true rfl, Nat.le_of_ble_eq_true rfl⟩) rfl rfl rfl rfl (Nat.le_of_ble_eq_true rfl) dX12_reaches_32 ⟨Nat.le_of_ble_eq_true rfl, Nat.le_of_ble_eq_true rfl⟩ (fun H locs hP hD hS => ?_)
      refine lv_if_ne (tgt := 40) hx hb dX12_reaches_35 (by decide) (fun t35 => ?_) (fun t35 => ?_)
      · have hf := (if_neg t35).symm.trans hf
        refine lv_iconst (v := (1 : Int32)) hx hb dX12_reaches_40 (by decide) ?_
        refine lv_istore_n (lv' := [(3, .int (1 : Int32)), (0, .ref (g.2.2 0)), (1, .int x1), (2, .int x2)]) hx hb dX12_reaches_41 rfl hl (by decide) rfl (fun ls hl => ?_)
        refine lv_bipush (v := (60 : Int32)) hx hb dX12_reaches_42 (by decide) ?_
        refine lv_istore (lv' := [(4, .int (60 : Int32)), (3, .int (1 : Int32)), (0, .ref (g.2.2 0)), (1, .int x1), (2, .int x2)]) hx hb dX12_reaches_44 hl (by decide) rfl (fun ls hl => ?_)
        obtain ⟨z9, hz9, hf⟩ := bi_s hf
        refine lp_X12_reaches_h46 C hz9 ?_ H locs ls hP hD hS (lv_sub hl [2, 3, 4, 1, 0] rfl)
        intro H locs ls hP hD hS hl
        refine lv_iload_n hx hb dX12_reaches_86 rfl (lv_at hl 0 rfl) ?_
        cases hf
        exact bk_iret C hP hD hS rfl dX12_reaches_87
      · have hf := (if_pos t35).symm.trans hf
        refine lv_iconst (v := (-1 : Int32)) hx hb dX12_reaches_38 (by decide) ?_
        cases hf
        exact bk_iret C hP hD hS rfl dX12_reaches_39
    · have hf := (if_pos t18).symm.trans hf
      exact b_X12_reaches_b21 C hf H locs ls hP hD hS (lv_sub hl [0] rfl)
theorem c_X12_reaches {N : Nat} {x1 : Int32} {x2 : Int32} {σ : Sg} {z : Int32 × Sg} (hX : xOK g X) (hf : f_X12_reaches N x1 x2 σ = some z) : MetI l yX12_reaches (Cond.code yX12_reaches cX12_reaches 6 (some .int) :: wsA) rm_X12_reaches mw g X [.ref (g.2.2 0), .int x1, .int x2] σ z.1 z.2 :=
  MetI_of hX (by decide) (Nat.le_of_ble_eq_true rfl) (fun p e s m args below meth c A C => b_X12_reaches C hf)
-- X12_reached: reached(II)I
abbrev rm_X12_reached : Room := { frames := 7, cells := 0, slots := 0, locals := 162 }
theorem nd_X12_reached : yX12_reached.cls ≠ "java/lang/invoke/MethodHandle" ∧ yX12_reached.cls ≠ "java/lang/invoke/VarHandle" ∧ (parseMethodDescriptor yX12_reached.desc).map (fun d => d.parameters.length) = some 2 := by decide +kernel
def f_X12_reached (N : Nat) (x1 : Int32) (x2 : Int32) (σ : Sg) : Option (Int32 × Sg) :=
bd (wr σ 0 2 (0 : Int32)) fun σ1 =>
(f_X12_isFarm N x1 σ1).bind fun q2 =>
if q2.1 = 0 then ((f_X12_fail N (1 : Int32) (q2.2)).bind fun q6 =>
some (q6.1, (q6.2)))
else ((f_X12_isIn N (x2).toInt64 (0 : Int64) (60 : Int64) (q2.2)).bind fun q3 =>
if q3.1 = 0 then ((f_X12_fail N (2 : Int32) (q3.2)).bind fun q4 =>
some (q4.1, (q4.2)))
else ((f_X12_reachedBy N ((1 : Int32) <<< (x1 &&& 31)) x2 (q3.2)).bind fun q5 =>
some (q5.1, (q5.2))))
set_option maxHeartbeats 4000000 in
set_option maxRecDepth 100000 in
theorem b_X12_reached {N : Nat} {x1 : Int32} {x2 : Int32} {σ : Sg} {z : Int32 × Sg} (C : Cx p s m args meth c cX12_reached 3 (some .int) RX12 g A X) (hf : f_X12_reached N x1 x2 σ = some z) : Bk mw p l e rm_X12_reached s m args below meth c 3 g A (MQ below (qI mw g A z.1 z.2) args s 0 0 A) 0 0 0 [(0, .ref (g.2.2 0)), (1, .int x1), (2, .int x2)] [] σ := by
  obtain ⟨hx, hb, hr, hml, hown, hts, hK, hlocks, hXX, hA, hXo⟩ := id C
  intro H locs ls hP hD hS hl
  unfold f_X12_reached at hf
  refine lv_aload_n hx hb dX12_reached_0 rfl (lv_at hl 0 rfl) ?_
  refine lv_iconst (v := (0 : Int32)) hx hb dX12_reached_1 (by decide) ?_
  obtain ⟨σ1, eσ1, hf⟩ := bd_s hf
  refine bk_put (wf := mw) (σ1 := σ1) (q0 := 0) (ci := 11) (k := 2) (v := .int (0 : Int32)) C hP hD hS wl_X12 tyX12_ok nmX12 rfl rfl (by decide) wa_205 rfl rfl rfl rfl rfl (Nat.le_of_ble_eq_true rfl) (by rw [eσ1]; exact mw_p0_2 g _ _) dX12_reached_2 (fun H locs hP hD hS => ?_)
  refine lv_aload_n hx hb dX12_reached_5 rfl (lv_at hl 0 rfl) ?_
  refine lv_iload_n hx hb dX12_reached_6 rfl (lv_at hl 1 rfl) ?_
  obtain ⟨q2, hq2, hf⟩ := bi_s hf
  refine bk_VI (wf := mw) (q0 := 0) (ci := 11) (rest := []) [.int x1] C hP hD hS hl.1 (c_X12_isFarm hXo hq2) (cwA_V 1 hts wa_800 wa_797 wa_798 wa_799 wa_5 rfl rfl nd_X12_isFarm ⟨Nat.le_of_ble_eq_true rfl, Nat.le_of_ble_eq_true rfl⟩) rfl rfl rfl rfl (Nat.le_of_ble_eq_true rfl) dX12_reached_7 ⟨Nat.le_of_ble_eq_true rfl, Nat.le_of_ble_eq_true rfl⟩ (fun H locs hP hD hS => ?_)
  refine lv_if_ne (tgt := 19) hx hb dX12_reached_10 (by decide) (fun t10 => ?_) (fun t10 => ?_)
  · have hf := (if_neg t10).symm.trans hf
    refine lv_iload_n hx hb dX12_reached_19 rfl (lv_at hl 2 rfl) ?_
    refine lv_i2l hx hb dX12_reached_20 rfl ?_
    refine lv_lconst (v := (0 : Int64)) hx hb dX12_reached_21 (by decide) ?_
    refine lv_ldc2 (v := (60 : Int64)) hx hb hown (hts _ wa_1025) dX12_reached_22 ?_
    obtain ⟨q3, hq3, hf⟩ := bi_s hf
    refine bk_SI (wf := mw) (rest := []) [.long (x2).toInt64, .long (0 : Int64), .long (60 : Int64)] C hP hD hS hl.1 (c_X12_isIn hXo hq3) (cwA_S 3 hts wa_803 wa_801 wa_802 wa_5 rfl rfl nd_X12_isIn ⟨Nat.le_of_ble_eq_true rfl, Nat.le_of_ble_eq_true rfl⟩) rfl rfl (Nat.le_of_ble_eq_true rfl) dX12_reached_25 ⟨Nat.le_of_ble_eq_true rfl, Nat.le_of_ble_eq_true rfl⟩ (fun H locs hP hD hS => ?_)
    refine lv_if_eq (tgt := 42) hx hb dX12_reached_28 (by decide) (fun t28 => ?_) (fun t28 => ?_)
    · have hf := (if_pos t28).symm.trans hf
      refine lv_aload_n hx hb dX12_reached_42 rfl (lv_at hl 0 rfl) ?_
      refine lv_iconst (v := (2 : Int32)) hx hb dX12_reached_43 (by decide) ?_
      obtain ⟨q4, hq4, hf⟩ := bi_s hf
      refine bk_VI (wf := mw) (q0 := 0) (ci := 11) (rest := []) [.int (2 : Int32)] C hP hD hS hl.1 (c_X12_fail hXo hq4) (cwA_V 1 hts wa_512 wa_509 wa_510 wa_511 wa_5 rfl rfl nd_X12_fail ⟨Nat.le_of_ble_eq_true rfl, Nat.le_of_ble_eq_true rfl⟩) rfl rfl rfl rfl (Nat.le_of_ble_eq_true rfl) dX12_reached_44 ⟨Nat.le_of_ble_eq_true rfl, Nat.le_of_ble_eq_true rfl⟩ (fun H locs hP hD hS => ?_)
      cases hf
      exact bk_iret C hP hD hS rfl dX12_reached_47
    · have hf := (if_neg t28).symm.trans hf
      refine lv_aload_n hx hb dX12_reached_31 rfl (lv_at hl 0 rfl) ?_
      refine lv_iconst (v := (1 : Int32)) hx hb dX12_reached_32 (by decide) ?_
      refine lv_iload_n hx hb dX12_reached_33 rfl (lv_at hl 1 rfl) ?_
      refine lv_ishl hx hb dX12_reached_34 ?_
      refine lv_iload_n hx hb dX12_reached_35 rfl (lv_at hl 2 rfl) ?_
      obtain ⟨q5, hq5, hf⟩ := bi_s hf
      refine bk_VI (wf := mw) (q0 := 0) (ci := 11) (rest := []) [.int ((1 : Int32) <<< (x1 &&& 31)), .int x2] C hP hD hS hl.1 (c_X12_reachedBy hXo hq5) (cwA_V 2 hts wa_1117 wa_1114 wa_1115 wa_1116 wa_5 rfl rfl nd_X12_reachedBy ⟨Nat.le_of_ble_eq_true rfl, Nat.le_of_ble_eq_true rfl⟩) rfl rfl rfl rfl (Nat.le_of_ble_eq_true rfl) dX12_reached_36 ⟨Nat.le_of_ble_eq_true rfl, Nat.le_of_ble_eq_true rfl⟩ (fun H locs hP hD hS => ?_)
      refine lv_goto (tgt := 47) hx hb dX12_reached_39 (by decide) ?_
      cases hf
      exact bk_iret C hP hD hS rfl dX12_reached_47
  · have hf := (if_pos t10).symm.trans hf
    refine lv_aload_n hx hb dX12_reached_13 rfl (lv_at hl 0 rfl) ?_
    refine lv_iconst (v := (1 : Int32)) hx hb dX12_reached_14 (by decide) ?_
    obtain ⟨q6, hq6, hf⟩ := bi_s hf
    refine bk_VI (wf := mw) (q0 := 0) (ci := 11) (rest := []) [.int (1 : Int32)] C hP hD hS hl.1 (c_X12_fail hXo hq6) (cwA_V 1 hts wa_512 wa_509 wa_510 wa_511 wa_5 rfl rfl nd_X12_fail ⟨Nat.le_of_ble_eq_true rfl, Nat.le_of_ble_eq_true rfl⟩) rfl rfl rfl rfl (Nat.le_of_ble_eq_true rfl) dX12_reached_15 ⟨Nat.le_of_ble_eq_true rfl, Nat.le_of_ble_eq_true rfl⟩ (fun H locs hP hD hS => ?_)
    cases hf
    exact bk_iret C hP hD hS rfl dX12_reached_18
theorem c_X12_reached {N : Nat} {x1 : Int32} {x2 : Int32} {σ : Sg} {z : Int32 × Sg} (hX : xOK g X) (hf : f_X12_reached N x1 x2 σ = some z) : MetI l yX12_reached (Cond.code yX12_reached cX12_reached 3 (some .int) :: wsA) rm_X12_reached mw g X [.ref (g.2.2 0), .int x1, .int x2] σ z.1 z.2 :=
  MetI_of hX (by decide) (Nat.le_of_ble_eq_true rfl) (fun p e s m args below meth c A C => b_X12_reached C hf)
-- X12_through: through(II)I
abbrev rm_X12_through : Room := { frames := 8, cells := 0, slots := 0, locals := 185 }
theorem nd_X12_through : yX12_through.cls ≠ "java/lang/invoke/MethodHandle" ∧ yX12_through.cls ≠ "java/lang/invoke/VarHandle" ∧ (parseMethodDescriptor yX12_through.desc).map (fun d => d.parameters.length) = some 2 := by decide +kernel
def f_X12_through_b116 (N : Nat) (x1 : Int32) (x2 : Int32) (x3 : Int32) (x4 : Int32) (x5 : Int32) (σ : Sg) : Option (Nat × Int32 × Int32 × Sg) :=
bd (x5 + (1 : Int32)) fun v1 =>
some (0, x4, v1, σ)
set_option maxHeartbeats 4000000 in
set_option maxRecDepth 100000 in
theorem b_X12_through_b116 {N : Nat} {x1 : Int32} {x2 : Int32} {x3 : Int32} {x4 : Int32} {x5 : Int32} {σ : Sg} {z : Nat × Int32 × Int32 × Sg} (C : Cx p s m args meth c cX12_through 6 (some .int) RX12 g A X) (hf : f_X12_through_b116 N x1 x2 x3 x4 x5 σ = some z) (k0 : z.1 = 0 → Bk mw p l e rm_X12_through s m args below meth c 6 g A Q 0 0 51 [(0, .ref (g.2.2 0)), (1, .int x1), (2, .int x2), (3, .int x3), (4, .int z.2.1), (5, .int z.2.2.1)] [] z.2.2.2) (k : ¬ z.1 = 0 → Bk mw p l e rm_X12_through s m args below meth c 6 g A Q 0 0 122 [(4, .int z.2.1)] [] z.2.2.2) : Bk mw p l e rm_X12_through s m args below meth c 6 g A Q 0 0 116 [(0, .ref (g.2.2 0)), (1, .int x1), (2, .int x2), (3, .int x3), (4, .int x4), (5, .int x5)] [] σ := by
  obtain ⟨hx, hb, hr, hml, hown, hts, hK, hlocks, hXX, hA, hXo⟩ := id C
  intro H locs ls hP hD hS hl
  unfold f_X12_through_b116 at hf
  obtain ⟨v1, ev1, hf⟩ := bd_s hf
  refine lv_iinc (v := v1) (lv' := [(5, .int v1), (0, .ref (g.2.2 0)), (1, .int x1), (2, .int x2), (3, .int x3), (4, .int x4)]) hx hb dX12_through_116 hl (k := 5) rfl (by rw [ev1]; rfl) (by decide) rfl (fun ls hl => ?_)
  refine lv_goto (tgt := 51) hx hb dX12_through_119 (by decide) ?_
  cases hf
  exact k0 rfl H locs ls hP hD hS (lv_sub hl [1, 2, 3, 4, 5, 0] rfl)
def f_X12_through_b108 (N : Nat) (x1 : Int32) (x2 : Int32) (x3 : Int32) (x5 : Int32) (t0 : Int32) (t1 : Int32) (σ : Sg) : Option (Nat × Int32 × Int32 × Sg) :=
bd (t0 ||| t1) fun v2 =>
bd (wr σ 0 29 x3) fun σ3 =>
f_X12_through_b116 N x1 x2 x3 v2 x5 σ3
set_option maxHeartbeats 4000000 in
set_option maxRecDepth 100000 in
theorem b_X12_through_b108 {N : Nat} {x1 : Int32} {x2 : Int32} {x3 : Int32} {x5 : Int32} {t0 : Int32} {t1 : Int32} {σ : Sg} {z : Nat × Int32 × Int32 × Sg} (C : Cx p s m args meth c cX12_through 6 (some .int) RX12 g A X) (hf : f_X12_through_b108 N x1 x2 x3 x5 t0 t1 σ = some z) (k0 : z.1 = 0 → Bk mw p l e rm_X12_through s m args below meth c 6 g A Q 0 0 51 [(0, .ref (g.2.2 0)), (1, .int x1), (2, .int x2), (3, .int x3), (4, .int z.2.1), (5, .int z.2.2.1)] [] z.2.2.2) (k : ¬ z.1 = 0 → Bk mw p l e rm_X12_through s m args below meth c 6 g A Q 0 0 122 [(4, .int z.2.1)] [] z.2.2.2) : Bk mw p l e rm_X12_through s m args below meth c 6 g A Q 0 0 108 [(0, .ref (g.2.2 0)), (1, .int x1), (2, .int x2), (3, .int x3), (5, .int x5)] [.int t1, .int t0] σ := by
  obtain ⟨hx, hb, hr, hml, hown, hts, hK, hlocks, hXX, hA, hXo⟩ := id C
  intro H locs ls hP hD hS hl
  unfold f_X12_through_b108 at hf
  refine lv_ior hx hb dX12_through_108 ?_
  obtain ⟨v2, ev2, hf⟩ := bd_s hf
  rw [← ev2]
  refine lv_istore (lv' := [(4, .int v2), (0, .ref (g.2.2 0)), (1, .int x1), (2, .int x2), (3, .int x3), (5, .int x5)]) hx hb dX12_through_109 hl (by decide) rfl (fun ls hl => ?_)
  refine lv_aload_n hx hb dX12_through_111 rfl (lv_at hl 1 rfl) ?_
  refine lv_iload_n hx hb dX12_through_112 rfl (lv_at hl 4 rfl) ?_
  obtain ⟨σ3, eσ3, hf⟩ := bd_s hf
  refine bk_put (wf := mw) (σ1 := σ3) (q0 := 0) (ci := 11) (k := 29) (v := .int x3) C hP hD hS wl_X12 tyX12_ok nmX12 rfl rfl (by decide) wa_614 rfl rfl rfl rfl rfl (Nat.le_of_ble_eq_true rfl) (by rw [eσ3]; exact mw_p0_29 g _ _) dX12_through_113 (fun H locs hP hD hS => ?_)
  exact b_X12_through_b116 C hf k0 k H locs ls hP hD hS (lv_sub hl [1, 2, 3, 4, 0, 5] rfl)
def s_X12_through_h51 (N : Nat) (x1 : Int32) (x2 : Int32) (x3 : Int32) (x4 : Int32) (x5 : Int32) (σ : Sg) : Option (Nat × Int32 × Int32 × Sg) :=
if (σ 3 0) ≤ x5 then (some (1, x4, 0, σ))
else (if x5 = x1 then (f_X12_through_b116 N x1 x2 x3 x4 x5 σ)
else (if x5 = x2 then (f_X12_through_b116 N x1 x2 x3 x4 x5 σ)
else (bd (wr σ 0 29 (x3 ||| ((1 : Int32) <<< (x5 &&& 31)))) fun σ4 =>
(f_X12_reachesIn N x1 x2 (60 : Int32) σ4).bind fun q5 =>
if q5.1 = 0 then (f_X12_through_b108 N x1 x2 x3 x5 x4 ((1 : Int32) <<< (x5 &&& 31)) (q5.2))
else (f_X12_through_b108 N x1 x2 x3 x5 x4 (0 : Int32) (q5.2)))))
set_option maxHeartbeats 4000000 in
set_option maxRecDepth 100000 in
theorem e_X12_through_h51 {N : Nat} {x1 : Int32} {x2 : Int32} {x3 : Int32} {x4 : Int32} {x5 : Int32} {σ : Sg} {z : Nat × Int32 × Int32 × Sg} (C : Cx p s m args meth c cX12_through 6 (some .int) RX12 g A X) (hf : s_X12_through_h51 N x1 x2 x3 x4 x5 σ = some z) (k0 : z.1 = 0 → Bk mw p l e rm_X12_through s m args below meth c 6 g A Q 0 0 51 [(0, .ref (g.2.2 0)), (1, .int x1), (2, .int x2), (3, .int x3), (4, .int z.2.1), (5, .int z.2.2.1)] [] z.2.2.2) (k : ¬ z.1 = 0 → Bk mw p l e rm_X12_through s m args below meth c 6 g A Q 0 0 122 [(4, .int z.2.1)] [] z.2.2.2) : Bk mw p l e rm_X12_through s m args below meth c 6 g A Q 0 0 51 [(0, .ref (g.2.2 0)), (1, .int x1), (2, .int x2), (3, .int x3), (4, .int x4), (5, .int x5)] [] σ := by
  obtain ⟨hx, hb, hr, hml, hown, hts, hK, hlocks, hXX, hA, hXo⟩ := id C
  intro H locs ls hP hD hS hl
  unfold s_X12_through_h51 at hf
  refine lv_iload hx hb dX12_through_51 (lv_at hl 5 rfl) ?_
  refine lv_aload_n hx hb dX12_through_53 rfl (lv_at hl 0 rfl) ?_
  refine bk_get (wf := mw) (q0 := 0) (ci := 11) (k := 3) (v := .ref (g.2.2 3)) C hP wl_X12 rfl rfl (by decide) wa_157 rfl rfl dX12_through_54 ?_
  refine lv_iconst (v := (0 : Int32)) hx hb dX12_through_57 (by decide) ?_
  refine bk_iald (wf := mw) (q0 := 3) (n := 10) (j := 0) C hP rfl (vin_l (by decide) (by decide)) (by decide) dX12_through_58 ?_
  refine lv_icmp_ge (tgt := 122) hx hb dX12_through_59 (by decide) (fun t59 => ?_) (fun t59 => ?_)
  · have hf := (if_pos t59).symm.trans hf
    cases hf
    exact (k (show ¬ (1 : Nat) = 0 by decide)) H locs ls hP hD hS (lv_sub hl [4] rfl)
  · have hf := (if_neg t59).symm.trans hf
    refine lv_iload hx hb dX12_through_62 (lv_at hl 5 rfl) ?_
    refine lv_iload_n hx hb dX12_through_64 rfl (lv_at hl 1 rfl) ?_
    refine lv_icmp_eq (tgt := 116) hx hb dX12_through_65 (by decide) (fun t65 => ?_) (fun t65 => ?_)
    · have hf := (if_pos t65).symm.trans hf
      exact b_X12_through_b116 C hf k0 k H locs ls hP hD hS (lv_sub hl [0, 1, 2, 3, 4, 5] rfl)
    · have hf := (if_neg t65).symm.trans hf
      refine lv_iload hx hb dX12_through_68 (lv_at hl 5 rfl) ?_
      refine lv_iload_n hx hb dX12_through_70 rfl (lv_at hl 2 rfl) ?_
      refine lv_icmp_ne (tgt := 77) hx hb dX12_through_71 (by decide) (fun t71 => ?_) (fun t71 => ?_)
      · have hf := (if_neg t71).symm.trans hf
        refine lv_aload_n hx hb dX12_through_77 rfl (lv_at hl 0 rfl) ?_
        refine lv_iload_n hx hb dX12_through_78 rfl (lv_at hl 3 rfl) ?_
        refine lv_iconst (v := (1 : Int32)) hx hb dX12_through_79 (by decide) ?_
        refine lv_iload hx hb dX12_through_80 (lv_at hl 5 rfl) ?_
        refine lv_ishl hx hb dX12_through_82 ?_
        refine lv_ior hx hb dX12_through_83 ?_
        obtain ⟨σ4, eσ4, hf⟩ := bd_s hf
        refine bk_put (wf := mw) (σ1 := σ4) (q0 := 0) (ci := 11) (k := 29) (v := .int (x3 ||| ((1 : Int32) <<< (x5 &&& 31)))) C hP hD hS wl_X12 tyX12_ok nmX12 rfl rfl (by decide) wa_614 rfl rfl rfl rfl rfl (Nat.le_of_ble_eq_true rfl) (by rw [eσ4]; exact mw_p0_29 g _ _) dX12_through_84 (fun H locs hP hD hS => ?_)
        refine lv_iload hx hb dX12_through_87 (lv_at hl 4 rfl) ?_
        refine lv_aload_n hx hb dX12_through_89 rfl (lv_at hl 0 rfl) ?_
        refine lv_iload_n hx hb dX12_through_90 rfl (lv_at hl 1 rfl) ?_
        refine lv_iload_n hx hb dX12_through_91 rfl (lv_at hl 2 rfl) ?_
        refine lv_bipush (v := (60 : Int32)) hx hb dX12_through_92 (by decide) ?_
        obtain ⟨q5, hq5, hf⟩ := bi_s hf
        refine bk_VI (wf := mw) (q0 := 0) (ci := 11) (rest := [.int x4]) [.int x1, .int x2, .int (60 : Int32)] C hP hD hS hl.1 (c_X12_reachesIn hXo hq5) (cwA_V 3 hts wa_1113 wa_1110 wa_1111 wa_1112 wa_5 rfl rfl nd_X12_reachesIn ⟨Nat.le_of_ble_eq_true rfl, Nat.le_of_ble_eq_true rfl⟩) rfl rfl rfl rfl (Nat.le_of_ble_eq_true rfl) dX12_through_94 ⟨Nat.le_of_ble_eq_true rfl, Nat.le_of_ble_eq_true rfl⟩ (fun H locs hP hD hS => ?_)
        refine lv_if_eq (tgt := 104) hx hb dX12_through_97 (by decide) (fun t97 => ?_) (fun t97 => ?_)
        · have hf := (if_pos t97).symm.trans hf
          refine lv_iconst (v := (1 : Int32)) hx hb dX12_through_104 (by decide) ?_
          refine lv_iload hx hb dX12_through_105 (lv_at hl 5 rfl) ?_
          refine lv_ishl hx hb dX12_through_107 ?_
          exact b_X12_through_b108 C hf k0 k H locs ls hP hD hS (lv_sub hl [0, 1, 2, 3, 5] rfl)
        · have hf := (if_neg t97).symm.trans hf
          refine lv_iconst (v := (0 : Int32)) hx hb dX12_through_100 (by decide) ?_
          refine lv_goto (tgt := 108) hx hb dX12_through_101 (by decide) ?_
          exact b_X12_through_b108 C hf k0 k H locs ls hP hD hS (lv_sub hl [0, 1, 2, 3, 5] rfl)
      · have hf := (if_pos t71).symm.trans hf
        refine lv_goto (tgt := 116) hx hb dX12_through_74 (by decide) ?_
        exact b_X12_through_b116 C hf k0 k H locs ls hP hD hS (lv_sub hl [0, 1, 2, 3, 4, 5] rfl)
theorem lp_X12_through_h51 {N : Nat} {n : Nat} {x1 : Int32} {x2 : Int32} {x3 : Int32} {x4 : Int32} {x5 : Int32} {σ : Sg} {z : Nat × Int32 × Int32 × Sg} (C : Cx p s m args meth c cX12_through 6 (some .int) RX12 g A X) (hz : it (fun q => s_X12_through_h51 N x1 x2 x3 q.1 q.2.1 q.2.2) n (x4, x5, σ) = some z) (k : Bk mw p l e rm_X12_through s m args below meth c 6 g A Q 0 0 122 [(4, .int z.2.1)] [] z.2.2.2) : Bk mw p l e rm_X12_through s m args below meth c 6 g A Q 0 0 51 [(0, .ref (g.2.2 0)), (1, .int x1), (2, .int x2), (3, .int x3), (4, .int x4), (5, .int x5)] [] σ :=
  it_W (S := Int32 × Int32 × Sg) (fun q => Bk mw p l e rm_X12_through s m args below meth c 6 g A Q 0 0 51 [(0, .ref (g.2.2 0)), (1, .int x1), (2, .int x2), (3, .int x3), (4, .int q.1), (5, .int q.2.1)] [] q.2.2) (fun z => Bk mw p l e rm_X12_through s m args below meth c 6 g A Q 0 0 122 [(4, .int z.2.1)] [] z.2.2.2) (fun q z hq k0 k => e_X12_through_h51 C hq k0 k) n (x4, x5, σ) z hz k
def f_X12_through_b21 (N : Nat) (σ : Sg) : Option (Int32 × Sg) :=
(f_X12_fail N (1 : Int32) σ).bind fun q6 =>
some (q6.1, (q6.2))
set_option maxHeartbeats 4000000 in
set_option maxRecDepth 100000 in
theorem b_X12_through_b21 {N : Nat} {σ : Sg} {z : Int32 × Sg} (C : Cx p s m args meth c cX12_through 6 (some .int) RX12 g A X) (hf : f_X12_through_b21 N σ = some z) : Bk mw p l e rm_X12_through s m args below meth c 6 g A (MQ below (qI mw g A z.1 z.2) args s 0 0 A) 0 0 21 [(0, .ref (g.2.2 0))] [] σ := by
  obtain ⟨hx, hb, hr, hml, hown, hts, hK, hlocks, hXX, hA, hXo⟩ := id C
  intro H locs ls hP hD hS hl
  unfold f_X12_through_b21 at hf
  refine lv_aload_n hx hb dX12_through_21 rfl (lv_at hl 0 rfl) ?_
  refine lv_iconst (v := (1 : Int32)) hx hb dX12_through_22 (by decide) ?_
  obtain ⟨q6, hq6, hf⟩ := bi_s hf
  refine bk_VI (wf := mw) (q0 := 0) (ci := 11) (rest := []) [.int (1 : Int32)] C hP hD hS hl.1 (c_X12_fail hXo hq6) (cwA_V 1 hts wa_512 wa_509 wa_510 wa_511 wa_5 rfl rfl nd_X12_fail ⟨Nat.le_of_ble_eq_true rfl, Nat.le_of_ble_eq_true rfl⟩) rfl rfl rfl rfl (Nat.le_of_ble_eq_true rfl) dX12_through_23 ⟨Nat.le_of_ble_eq_true rfl, Nat.le_of_ble_eq_true rfl⟩ (fun H locs hP hD hS => ?_)
  cases hf
  exact bk_iret C hP hD hS rfl dX12_through_26
def f_X12_through (N : Nat) (x1 : Int32) (x2 : Int32) (σ : Sg) : Option (Int32 × Sg) :=
bd (wr σ 0 2 (0 : Int32)) fun σ7 =>
(f_X12_isFarm N x1 σ7).bind fun q8 =>
if q8.1 = 0 then (f_X12_through_b21 N (q8.2))
else ((f_X12_isFarm N x2 (q8.2)).bind fun q9 =>
if q9.1 = 0 then (f_X12_through_b21 N (q9.2))
else ((f_X12_reachesIn N x1 x2 (60 : Int32) (q9.2)).bind fun q10 =>
if q10.1 = 0 then (some ((0 : Int32), (q10.2)))
else (bd ((q10.2) 0 29) fun v11 =>
(it (fun q => s_X12_through_h51 N x1 x2 v11 q.1 q.2.1 q.2.2) N ((0 : Int32), (0 : Int32), (q10.2))).bind fun z12 =>
some ((z12.2.1), (z12.2.2.2)))))
set_option maxHeartbeats 4000000 in
set_option maxRecDepth 100000 in
theorem b_X12_through {N : Nat} {x1 : Int32} {x2 : Int32} {σ : Sg} {z : Int32 × Sg} (C : Cx p s m args meth c cX12_through 6 (some .int) RX12 g A X) (hf : f_X12_through N x1 x2 σ = some z) : Bk mw p l e rm_X12_through s m args below meth c 6 g A (MQ below (qI mw g A z.1 z.2) args s 0 0 A) 0 0 0 [(0, .ref (g.2.2 0)), (1, .int x1), (2, .int x2)] [] σ := by
  obtain ⟨hx, hb, hr, hml, hown, hts, hK, hlocks, hXX, hA, hXo⟩ := id C
  intro H locs ls hP hD hS hl
  unfold f_X12_through at hf
  refine lv_aload_n hx hb dX12_through_0 rfl (lv_at hl 0 rfl) ?_
  refine lv_iconst (v := (0 : Int32)) hx hb dX12_through_1 (by decide) ?_
  obtain ⟨σ7, eσ7, hf⟩ := bd_s hf
  refine bk_put (wf := mw) (σ1 := σ7) (q0 := 0) (ci := 11) (k := 2) (v := .int (0 : Int32)) C hP hD hS wl_X12 tyX12_ok nmX12 rfl rfl (by decide) wa_205 rfl rfl rfl rfl rfl (Nat.le_of_ble_eq_true rfl) (by rw [eσ7]; exact mw_p0_2 g _ _) dX12_through_2 (fun H locs hP hD hS => ?_)
  refine lv_aload_n hx hb dX12_through_5 rfl (lv_at hl 0 rfl) ?_
  refine lv_iload_n hx hb dX12_through_6 rfl (lv_at hl 1 rfl) ?_
  obtain ⟨q8, hq8, hf⟩ := bi_s hf
  refine bk_VI (wf := mw) (q0 := 0) (ci := 11) (rest := []) [.int x1] C hP hD hS hl.1 (c_X12_isFarm hXo hq8) (cwA_V 1 hts wa_800 wa_797 wa_798 wa_799 wa_5 rfl rfl nd_X12_isFarm ⟨Nat.le_of_ble_eq_true rfl, Nat.le_of_ble_eq_true rfl⟩) rfl rfl rfl rfl (Nat.le_of_ble_eq_true rfl) dX12_through_7 ⟨Nat.le_of_ble_eq_true rfl, Nat.le_of_ble_eq_true rfl⟩ (fun H locs hP hD hS => ?_)
  refine lv_if_eq (tgt := 21) hx hb dX12_through_10 (by decide) (fun t10 => ?_) (fun t10 => ?_)
  · have hf := (if_pos t10).symm.trans hf
    exact b_X12_through_b21 C hf H locs ls hP hD hS (lv_sub hl [0] rfl)
  · have hf := (if_neg t10).symm.trans hf
    refine lv_aload_n hx hb dX12_through_13 rfl (lv_at hl 0 rfl) ?_
    refine lv_iload_n hx hb dX12_through_14 rfl (lv_at hl 2 rfl) ?_
    obtain ⟨q9, hq9, hf⟩ := bi_s hf
    refine bk_VI (wf := mw) (q0 := 0) (ci := 11) (rest := []) [.int x2] C hP hD hS hl.1 (c_X12_isFarm hXo hq9) (cwA_V 1 hts wa_800 wa_797 wa_798 wa_799 wa_5 rfl rfl nd_X12_isFarm ⟨Nat.le_of_ble_eq_true rfl, Nat.le_of_ble_eq_true rfl⟩) rfl rfl rfl rfl (Nat.le_of_ble_eq_true rfl) dX12_through_15 ⟨Nat.le_of_ble_eq_true rfl, Nat.le_of_ble_eq_true rfl⟩ (fun H locs hP hD hS => ?_)
    refine lv_if_ne (tgt := 27) hx hb dX12_through_18 (by decide) (fun t18 => ?_) (fun t18 => ?_)
    · have hf := (if_neg t18).symm.trans hf
      refine lv_aload_n hx hb dX12_through_27 rfl (lv_at hl 0 rfl) ?_
      refine lv_iload_n hx hb dX12_through_28 rfl (lv_at hl 1 rfl) ?_
      refine lv_iload_n hx hb dX12_through_29 rfl (lv_at hl 2 rfl) ?_
      refine lv_bipush (v := (60 : Int32)) hx hb dX12_through_30 (by decide) ?_
      obtain ⟨q10, hq10, hf⟩ := bi_s hf
      refine bk_VI (wf := mw) (q0 := 0) (ci := 11) (rest := []) [.int x1, .int x2, .int (60 : Int32)] C hP hD hS hl.1 (c_X12_reachesIn hXo hq10) (cwA_V 3 hts wa_1113 wa_1110 wa_1111 wa_1112 wa_5 rfl rfl nd_X12_reachesIn ⟨Nat.le_of_ble_eq_true rfl, Nat.le_of_ble_eq_true rfl⟩) rfl rfl rfl rfl (Nat.le_of_ble_eq_true rfl) dX12_through_32 ⟨Nat.le_of_ble_eq_true rfl, Nat.le_of_ble_eq_true rfl⟩ (fun H locs hP hD hS => ?_)
      refine lv_if_ne (tgt := 40) hx hb dX12_through_35 (by decide) (fun t35 => ?_) (fun t35 => ?_)
      · have hf := (if_neg t35).symm.trans hf
        refine lv_aload_n hx hb dX12_through_40 rfl (lv_at hl 0 rfl) ?_
        refine bk_get (wf := mw) (q0 := 0) (ci := 11) (k := 29) (v := .int ((q10.2) 0 29)) C hP wl_X12 rfl rfl (by decide) wa_614 rfl rfl dX12_through_41 ?_
        obtain ⟨v11, ev11, hf⟩ := bd_s hf
        rw [← ev11]
        refine lv_istore_n (lv' := [(3, .int v11), (0, .ref (g.2.2 0)), (1, .int x1), (2, .int x2)]) hx hb dX12_through_44 rfl hl (by decide) rfl (fun ls hl => ?_)
        refine lv_iconst (v := (0 : Int32)) hx hb dX12_through_45 (by decide) ?_
        refine lv_istore (lv' := [(4, .int (0 : Int32)), (3, .int v11), (0, .ref (g.2.2 0)), (1, .int x1), (2, .int x2)]) hx hb dX12_through_46 hl (by decide) rfl (fun ls hl => ?_)
        refine lv_iconst (v := (0 : Int32)) hx hb dX12_through_48 (by decide) ?_
        refine lv_istore (lv' := [(5, .int (0 : Int32)), (4, .int (0 : Int32)), (3, .int v11), (0, .ref (g.2.2 0)), (1, .int x1), (2, .int x2)]) hx hb dX12_through_49 hl (by decide) rfl (fun ls hl => ?_)
        obtain ⟨z12, hz12, hf⟩ := bi_s hf
        refine lp_X12_through_h51 C hz12 ?_ H locs ls hP hD hS (lv_sub hl [3, 4, 5, 2, 1, 0] rfl)
        intro H locs ls hP hD hS hl
        refine lv_iload hx hb dX12_through_122 (lv_at hl 0 rfl) ?_
        cases hf
        exact bk_iret C hP hD hS rfl dX12_through_124
      · have hf := (if_pos t35).symm.trans hf
        refine lv_iconst (v := (0 : Int32)) hx hb dX12_through_38 (by decide) ?_
        cases hf
        exact bk_iret C hP hD hS rfl dX12_through_39
    · have hf := (if_pos t18).symm.trans hf
      exact b_X12_through_b21 C hf H locs ls hP hD hS (lv_sub hl [0] rfl)
theorem c_X12_through {N : Nat} {x1 : Int32} {x2 : Int32} {σ : Sg} {z : Int32 × Sg} (hX : xOK g X) (hf : f_X12_through N x1 x2 σ = some z) : MetI l yX12_through (Cond.code yX12_through cX12_through 6 (some .int) :: wsA) rm_X12_through mw g X [.ref (g.2.2 0), .int x1, .int x2] σ z.1 z.2 :=
  MetI_of hX (by decide) (Nat.le_of_ble_eq_true rfl) (fun p e s m args below meth c A C => b_X12_through C hf)
-- X12_best: best(I)I
abbrev rm_X12_best : Room := { frames := 7, cells := 0, slots := 0, locals := 162 }
theorem nd_X12_best : yX12_best.cls ≠ "java/lang/invoke/MethodHandle" ∧ yX12_best.cls ≠ "java/lang/invoke/VarHandle" ∧ (parseMethodDescriptor yX12_best.desc).map (fun d => d.parameters.length) = some 1 := by decide +kernel
def f_X12_best_b70 (N : Nat) (x1 : Int32) (x2 : Int32) (x3 : Int32) (x4 : Int32) (σ : Sg) : Option (Nat × Int32 × Int32 × Int32 × Sg) :=
bd (x4 + (1 : Int32)) fun v1 =>
some (0, x2, x3, v1, σ)
set_option maxHeartbeats 4000000 in
set_option maxRecDepth 100000 in
theorem b_X12_best_b70 {N : Nat} {x1 : Int32} {x2 : Int32} {x3 : Int32} {x4 : Int32} {σ : Sg} {z : Nat × Int32 × Int32 × Int32 × Sg} (C : Cx p s m args meth c cX12_best 6 (some .int) RX12 g A X) (hf : f_X12_best_b70 N x1 x2 x3 x4 σ = some z) (k0 : z.1 = 0 → Bk mw p l e rm_X12_best s m args below meth c 6 g A Q 0 0 30 [(0, .ref (g.2.2 0)), (1, .int x1), (2, .int z.2.1), (3, .int z.2.2.1), (4, .int z.2.2.2.1)] [] z.2.2.2.2) (k : ¬ z.1 = 0 → Bk mw p l e rm_X12_best s m args below meth c 6 g A Q 0 0 76 [(2, .int z.2.1)] [] z.2.2.2.2) : Bk mw p l e rm_X12_best s m args below meth c 6 g A Q 0 0 70 [(0, .ref (g.2.2 0)), (1, .int x1), (2, .int x2), (3, .int x3), (4, .int x4)] [] σ := by
  obtain ⟨hx, hb, hr, hml, hown, hts, hK, hlocks, hXX, hA, hXo⟩ := id C
  intro H locs ls hP hD hS hl
  unfold f_X12_best_b70 at hf
  obtain ⟨v1, ev1, hf⟩ := bd_s hf
  refine lv_iinc (v := v1) (lv' := [(4, .int v1), (0, .ref (g.2.2 0)), (1, .int x1), (2, .int x2), (3, .int x3)]) hx hb dX12_best_70 hl (k := 4) rfl (by rw [ev1]; rfl) (by decide) rfl (fun ls hl => ?_)
  refine lv_goto (tgt := 30) hx hb dX12_best_73 (by decide) ?_
  cases hf
  exact k0 rfl H locs ls hP hD hS (lv_sub hl [1, 2, 3, 4, 0] rfl)
def s_X12_best_h30 (N : Nat) (x1 : Int32) (x2 : Int32) (x3 : Int32) (x4 : Int32) (σ : Sg) : Option (Nat × Int32 × Int32 × Int32 × Sg) :=
if (σ 3 0) ≤ x4 then (some (1, x2, 0, 0, σ))
else ((f_X12_reachedBy N ((1 : Int32) <<< (x4 &&& 31)) x1 σ).bind fun q2 =>
(f_X12_bitsOf N q2.1 (q2.2)).bind fun q3 =>
bd q3.1 fun v4 =>
if x3 < v4 then (f_X12_best_b70 N x1 x4 v4 x4 (q3.2))
else (f_X12_best_b70 N x1 x2 x3 x4 (q3.2)))
set_option maxHeartbeats 4000000 in
set_option maxRecDepth 100000 in
theorem e_X12_best_h30 {N : Nat} {x1 : Int32} {x2 : Int32} {x3 : Int32} {x4 : Int32} {σ : Sg} {z : Nat × Int32 × Int32 × Int32 × Sg} (C : Cx p s m args meth c cX12_best 6 (some .int) RX12 g A X) (hf : s_X12_best_h30 N x1 x2 x3 x4 σ = some z) (k0 : z.1 = 0 → Bk mw p l e rm_X12_best s m args below meth c 6 g A Q 0 0 30 [(0, .ref (g.2.2 0)), (1, .int x1), (2, .int z.2.1), (3, .int z.2.2.1), (4, .int z.2.2.2.1)] [] z.2.2.2.2) (k : ¬ z.1 = 0 → Bk mw p l e rm_X12_best s m args below meth c 6 g A Q 0 0 76 [(2, .int z.2.1)] [] z.2.2.2.2) : Bk mw p l e rm_X12_best s m args below meth c 6 g A Q 0 0 30 [(0, .ref (g.2.2 0)), (1, .int x1), (2, .int x2), (3, .int x3), (4, .int x4)] [] σ := by
  obtain ⟨hx, hb, hr, hml, hown, hts, hK, hlocks, hXX, hA, hXo⟩ := id C
  intro H locs ls hP hD hS hl
  unfold s_X12_best_h30 at hf
  refine lv_iload hx hb dX12_best_30 (lv_at hl 4 rfl) ?_
  refine lv_aload_n hx hb dX12_best_32 rfl (lv_at hl 0 rfl) ?_
  refine bk_get (wf := mw) (q0 := 0) (ci := 11) (k := 3) (v := .ref (g.2.2 3)) C hP wl_X12 rfl rfl (by decide) wa_157 rfl rfl dX12_best_33 ?_
  refine lv_iconst (v := (0 : Int32)) hx hb dX12_best_36 (by decide) ?_
  refine bk_iald (wf := mw) (q0 := 3) (n := 10) (j := 0) C hP rfl (vin_l (by decide) (by decide)) (by decide) dX12_best_37 ?_
  refine lv_icmp_ge (tgt := 76) hx hb dX12_best_38 (by decide) (fun t38 => ?_) (fun t38 => ?_)
  · have hf := (if_pos t38).symm.trans hf
    cases hf
    exact (k (show ¬ (1 : Nat) = 0 by decide)) H locs ls hP hD hS (lv_sub hl [2] rfl)
  · have hf := (if_neg t38).symm.trans hf
    refine lv_aload_n hx hb dX12_best_41 rfl (lv_at hl 0 rfl) ?_
    refine lv_iconst (v := (1 : Int32)) hx hb dX12_best_42 (by decide) ?_
    refine lv_iload hx hb dX12_best_43 (lv_at hl 4 rfl) ?_
    refine lv_ishl hx hb dX12_best_45 ?_
    refine lv_iload_n hx hb dX12_best_46 rfl (lv_at hl 1 rfl) ?_
    obtain ⟨q2, hq2, hf⟩ := bi_s hf
    refine bk_VI (wf := mw) (q0 := 0) (ci := 11) (rest := []) [.int ((1 : Int32) <<< (x4 &&& 31)), .int x1] C hP hD hS hl.1 (c_X12_reachedBy hXo hq2) (cwA_V 2 hts wa_1117 wa_1114 wa_1115 wa_1116 wa_5 rfl rfl nd_X12_reachedBy ⟨Nat.le_of_ble_eq_true rfl, Nat.le_of_ble_eq_true rfl⟩) rfl rfl rfl rfl (Nat.le_of_ble_eq_true rfl) dX12_best_47 ⟨Nat.le_of_ble_eq_true rfl, Nat.le_of_ble_eq_true rfl⟩ (fun H locs hP hD hS => ?_)
    obtain ⟨q3, hq3, hf⟩ := bi_s hf
    refine bk_SI (wf := mw) (rest := []) [.int q2.1] C hP hD hS hl.1 (c_X12_bitsOf hXo hq3) (cwA_S 1 hts wa_769 wa_767 wa_768 wa_5 rfl rfl nd_X12_bitsOf ⟨Nat.le_of_ble_eq_true rfl, Nat.le_of_ble_eq_true rfl⟩) rfl rfl (Nat.le_of_ble_eq_true rfl) dX12_best_50 ⟨Nat.le_of_ble_eq_true rfl, Nat.le_of_ble_eq_true rfl⟩ (fun H locs hP hD hS => ?_)
    obtain ⟨v4, ev4, hf⟩ := bd_s hf
    rw [← ev4]
    refine lv_istore (lv' := [(5, .int v4), (0, .ref (g.2.2 0)), (1, .int x1), (2, .int x2), (3, .int x3), (4, .int x4)]) hx hb dX12_best_53 hl (by decide) rfl (fun ls hl => ?_)
    refine lv_iload hx hb dX12_best_55 (lv_at hl 0 rfl) ?_
    refine lv_iload_n hx hb dX12_best_57 rfl (lv_at hl 4 rfl) ?_
    refine lv_icmp_gt (tgt := 64) hx hb dX12_best_58 (by decide) (fun t58 => ?_) (fun t58 => ?_)
    · have hf := (if_pos t58).symm.trans hf
      refine lv_iload hx hb dX12_best_64 (lv_at hl 5 rfl) ?_
      refine lv_istore_n (lv' := [(2, .int x4), (5, .int v4), (0, .ref (g.2.2 0)), (1, .int x1), (3, .int x3), (4, .int x4)]) hx hb dX12_best_66 rfl hl (by decide) rfl (fun ls hl => ?_)
      refine lv_iload hx hb dX12_best_67 (lv_at hl 1 rfl) ?_
      refine lv_istore_n (lv' := [(3, .int v4), (2, .int x4), (5, .int v4), (0, .ref (g.2.2 0)), (1, .int x1), (4, .int x4)]) hx hb dX12_best_69 rfl hl (by decide) rfl (fun ls hl => ?_)
      exact b_X12_best_b70 C hf k0 k H locs ls hP hD hS (lv_sub hl [3, 4, 1, 0, 5] rfl)
    · have hf := (if_neg t58).symm.trans hf
      refine lv_goto (tgt := 70) hx hb dX12_best_61 (by decide) ?_
      exact b_X12_best_b70 C hf k0 k H locs ls hP hD hS (lv_sub hl [1, 2, 3, 4, 5] rfl)
theorem lp_X12_best_h30 {N : Nat} {n : Nat} {x1 : Int32} {x2 : Int32} {x3 : Int32} {x4 : Int32} {σ : Sg} {z : Nat × Int32 × Int32 × Int32 × Sg} (C : Cx p s m args meth c cX12_best 6 (some .int) RX12 g A X) (hz : it (fun q => s_X12_best_h30 N x1 q.1 q.2.1 q.2.2.1 q.2.2.2) n (x2, x3, x4, σ) = some z) (k : Bk mw p l e rm_X12_best s m args below meth c 6 g A Q 0 0 76 [(2, .int z.2.1)] [] z.2.2.2.2) : Bk mw p l e rm_X12_best s m args below meth c 6 g A Q 0 0 30 [(0, .ref (g.2.2 0)), (1, .int x1), (2, .int x2), (3, .int x3), (4, .int x4)] [] σ :=
  it_W (S := Int32 × Int32 × Int32 × Sg) (fun q => Bk mw p l e rm_X12_best s m args below meth c 6 g A Q 0 0 30 [(0, .ref (g.2.2 0)), (1, .int x1), (2, .int q.1), (3, .int q.2.1), (4, .int q.2.2.1)] [] q.2.2.2) (fun z => Bk mw p l e rm_X12_best s m args below meth c 6 g A Q 0 0 76 [(2, .int z.2.1)] [] z.2.2.2.2) (fun q z hq k0 k => e_X12_best_h30 C hq k0 k) n (x2, x3, x4, σ) z hz k
def f_X12_best (N : Nat) (x1 : Int32) (σ : Sg) : Option (Int32 × Sg) :=
bd (wr σ 0 2 (0 : Int32)) fun σ5 =>
(f_X12_isIn N (x1).toInt64 (1 : Int64) (60 : Int64) σ5).bind fun q6 =>
if q6.1 = 0 then ((f_X12_fail N (1 : Int32) (q6.2)).bind fun q8 =>
some (q8.1, (q8.2)))
else ((it (fun q => s_X12_best_h30 N x1 q.1 q.2.1 q.2.2.1 q.2.2.2) N ((-1 : Int32), (-1 : Int32), (0 : Int32), (q6.2))).bind fun z7 =>
some ((z7.2.1), (z7.2.2.2.2)))
set_option maxHeartbeats 4000000 in
set_option maxRecDepth 100000 in
theorem b_X12_best {N : Nat} {x1 : Int32} {σ : Sg} {z : Int32 × Sg} (C : Cx p s m args meth c cX12_best 6 (some .int) RX12 g A X) (hf : f_X12_best N x1 σ = some z) : Bk mw p l e rm_X12_best s m args below meth c 6 g A (MQ below (qI mw g A z.1 z.2) args s 0 0 A) 0 0 0 [(0, .ref (g.2.2 0)), (1, .int x1)] [] σ := by
  obtain ⟨hx, hb, hr, hml, hown, hts, hK, hlocks, hXX, hA, hXo⟩ := id C
  intro H locs ls hP hD hS hl
  unfold f_X12_best at hf
  refine lv_aload_n hx hb dX12_best_0 rfl (lv_at hl 0 rfl) ?_
  refine lv_iconst (v := (0 : Int32)) hx hb dX12_best_1 (by decide) ?_
  obtain ⟨σ5, eσ5, hf⟩ := bd_s hf
  refine bk_put (wf := mw) (σ1 := σ5) (q0 := 0) (ci := 11) (k := 2) (v := .int (0 : Int32)) C hP hD hS wl_X12 tyX12_ok nmX12 rfl rfl (by decide) wa_205 rfl rfl rfl rfl rfl (Nat.le_of_ble_eq_true rfl) (by rw [eσ5]; exact mw_p0_2 g _ _) dX12_best_2 (fun H locs hP hD hS => ?_)
  refine lv_iload_n hx hb dX12_best_5 rfl (lv_at hl 1 rfl) ?_
  refine lv_i2l hx hb dX12_best_6 rfl ?_
  refine lv_lconst (v := (1 : Int64)) hx hb dX12_best_7 (by decide) ?_
  refine lv_ldc2 (v := (60 : Int64)) hx hb hown (hts _ wa_1025) dX12_best_8 ?_
  obtain ⟨q6, hq6, hf⟩ := bi_s hf
  refine bk_SI (wf := mw) (rest := []) [.long (x1).toInt64, .long (1 : Int64), .long (60 : Int64)] C hP hD hS hl.1 (c_X12_isIn hXo hq6) (cwA_S 3 hts wa_803 wa_801 wa_802 wa_5 rfl rfl nd_X12_isIn ⟨Nat.le_of_ble_eq_true rfl, Nat.le_of_ble_eq_true rfl⟩) rfl rfl (Nat.le_of_ble_eq_true rfl) dX12_best_11 ⟨Nat.le_of_ble_eq_true rfl, Nat.le_of_ble_eq_true rfl⟩ (fun H locs hP hD hS => ?_)
  refine lv_if_ne (tgt := 23) hx hb dX12_best_14 (by decide) (fun t14 => ?_) (fun t14 => ?_)
  · have hf := (if_neg t14).symm.trans hf
    refine lv_iconst (v := (-1 : Int32)) hx hb dX12_best_23 (by decide) ?_
    refine lv_istore_n (lv' := [(2, .int (-1 : Int32)), (0, .ref (g.2.2 0)), (1, .int x1)]) hx hb dX12_best_24 rfl hl (by decide) rfl (fun ls hl => ?_)
    refine lv_iconst (v := (-1 : Int32)) hx hb dX12_best_25 (by decide) ?_
    refine lv_istore_n (lv' := [(3, .int (-1 : Int32)), (2, .int (-1 : Int32)), (0, .ref (g.2.2 0)), (1, .int x1)]) hx hb dX12_best_26 rfl hl (by decide) rfl (fun ls hl => ?_)
    refine lv_iconst (v := (0 : Int32)) hx hb dX12_best_27 (by decide) ?_
    refine lv_istore (lv' := [(4, .int (0 : Int32)), (3, .int (-1 : Int32)), (2, .int (-1 : Int32)), (0, .ref (g.2.2 0)), (1, .int x1)]) hx hb dX12_best_28 hl (by decide) rfl (fun ls hl => ?_)
    obtain ⟨z7, hz7, hf⟩ := bi_s hf
    refine lp_X12_best_h30 C hz7 ?_ H locs ls hP hD hS (lv_sub hl [3, 4, 2, 1, 0] rfl)
    intro H locs ls hP hD hS hl
    refine lv_iload_n hx hb dX12_best_76 rfl (lv_at hl 0 rfl) ?_
    cases hf
    exact bk_iret C hP hD hS rfl dX12_best_77
  · have hf := (if_pos t14).symm.trans hf
    refine lv_aload_n hx hb dX12_best_17 rfl (lv_at hl 0 rfl) ?_
    refine lv_iconst (v := (1 : Int32)) hx hb dX12_best_18 (by decide) ?_
    obtain ⟨q8, hq8, hf⟩ := bi_s hf
    refine bk_VI (wf := mw) (q0 := 0) (ci := 11) (rest := []) [.int (1 : Int32)] C hP hD hS hl.1 (c_X12_fail hXo hq8) (cwA_V 1 hts wa_512 wa_509 wa_510 wa_511 wa_5 rfl rfl nd_X12_fail ⟨Nat.le_of_ble_eq_true rfl, Nat.le_of_ble_eq_true rfl⟩) rfl rfl rfl rfl (Nat.le_of_ble_eq_true rfl) dX12_best_19 ⟨Nat.le_of_ble_eq_true rfl, Nat.le_of_ble_eq_true rfl⟩ (fun H locs hP hD hS => ?_)
    cases hf
    exact bk_iret C hP hD hS rfl dX12_best_22
theorem c_X12_best {N : Nat} {x1 : Int32} {σ : Sg} {z : Int32 × Sg} (hX : xOK g X) (hf : f_X12_best N x1 σ = some z) : MetI l yX12_best (Cond.code yX12_best cX12_best 6 (some .int) :: wsA) rm_X12_best mw g X [.ref (g.2.2 0), .int x1] σ z.1 z.2 :=
  MetI_of hX (by decide) (Nat.le_of_ble_eq_true rfl) (fun p e s m args below meth c A C => b_X12_best C hf)
-- X12_toBegin: toBegin(I)I
abbrev rm_X12_toBegin : Room := { frames := 7, cells := 0, slots := 0, locals := 162 }
theorem nd_X12_toBegin : yX12_toBegin.cls ≠ "java/lang/invoke/MethodHandle" ∧ yX12_toBegin.cls ≠ "java/lang/invoke/VarHandle" ∧ (parseMethodDescriptor yX12_toBegin.desc).map (fun d => d.parameters.length) = some 1 := by decide +kernel
def f_X12_toBegin_b93 (N : Nat) (x1 : Int32) (x2 : Int32) (x3 : Int32) (x4 : Int32) (σ : Sg) : Option (Nat × Int32 × Int32 × Sg) :=
bd (x4 + (1 : Int32)) fun v1 =>
some (0, x3, v1, σ)
set_option maxHeartbeats 4000000 in
set_option maxRecDepth 100000 in
theorem b_X12_toBegin_b93 {N : Nat} {x1 : Int32} {x2 : Int32} {x3 : Int32} {x4 : Int32} {σ : Sg} {z : Nat × Int32 × Int32 × Sg} (C : Cx p s m args meth c cX12_toBegin 5 (some .int) RX12 g A X) (hf : f_X12_toBegin_b93 N x1 x2 x3 x4 σ = some z) (k0 : z.1 = 0 → Bk mw p l e rm_X12_toBegin s m args below meth c 5 g A Q 0 0 40 [(0, .ref (g.2.2 0)), (1, .int x1), (2, .int x2), (3, .int z.2.1), (4, .int z.2.2.1)] [] z.2.2.2) (k : ¬ z.1 = 0 → Bk mw p l e rm_X12_toBegin s m args below meth c 5 g A Q 0 0 99 [(3, .int z.2.1)] [] z.2.2.2) : Bk mw p l e rm_X12_toBegin s m args below meth c 5 g A Q 0 0 93 [(0, .ref (g.2.2 0)), (1, .int x1), (2, .int x2), (3, .int x3), (4, .int x4)] [] σ := by
  obtain ⟨hx, hb, hr, hml, hown, hts, hK, hlocks, hXX, hA, hXo⟩ := id C
  intro H locs ls hP hD hS hl
  unfold f_X12_toBegin_b93 at hf
  obtain ⟨v1, ev1, hf⟩ := bd_s hf
  refine lv_iinc (v := v1) (lv' := [(4, .int v1), (0, .ref (g.2.2 0)), (1, .int x1), (2, .int x2), (3, .int x3)]) hx hb dX12_toBegin_93 hl (k := 4) rfl (by rw [ev1]; rfl) (by decide) rfl (fun ls hl => ?_)
  refine lv_goto (tgt := 40) hx hb dX12_toBegin_96 (by decide) ?_
  cases hf
  exact k0 rfl H locs ls hP hD hS (lv_sub hl [1, 2, 3, 4, 0] rfl)
def f_X12_toBegin_b76 (N : Nat) (x1 : Int32) (x2 : Int32) (x3 : Int32) (x4 : Int32) (σ : Sg) : Option (Nat × Int32 × Int32 × Sg) :=
(f_X12_reachedBy N x4 x1 σ).bind fun q2 =>
if (x2 &&& (q2.1 ^^^ (-1 : Int32))) = 0 then (f_X12_toBegin_b93 N x1 x2 x4 x4 (q2.2))
else (f_X12_toBegin_b93 N x1 x2 x3 x4 (q2.2))
set_option maxHeartbeats 4000000 in
set_option maxRecDepth 100000 in
theorem b_X12_toBegin_b76 {N : Nat} {x1 : Int32} {x2 : Int32} {x3 : Int32} {x4 : Int32} {σ : Sg} {z : Nat × Int32 × Int32 × Sg} (C : Cx p s m args meth c cX12_toBegin 5 (some .int) RX12 g A X) (hf : f_X12_toBegin_b76 N x1 x2 x3 x4 σ = some z) (k0 : z.1 = 0 → Bk mw p l e rm_X12_toBegin s m args below meth c 5 g A Q 0 0 40 [(0, .ref (g.2.2 0)), (1, .int x1), (2, .int x2), (3, .int z.2.1), (4, .int z.2.2.1)] [] z.2.2.2) (k : ¬ z.1 = 0 → Bk mw p l e rm_X12_toBegin s m args below meth c 5 g A Q 0 0 99 [(3, .int z.2.1)] [] z.2.2.2) : Bk mw p l e rm_X12_toBegin s m args below meth c 5 g A Q 0 0 76 [(0, .ref (g.2.2 0)), (1, .int x1), (2, .int x2), (3, .int x3), (4, .int x4)] [] σ := by
  obtain ⟨hx, hb, hr, hml, hown, hts, hK, hlocks, hXX, hA, hXo⟩ := id C
  intro H locs ls hP hD hS hl
  unfold f_X12_toBegin_b76 at hf
  refine lv_iload_n hx hb dX12_toBegin_76 rfl (lv_at hl 2 rfl) ?_
  refine lv_aload_n hx hb dX12_toBegin_77 rfl (lv_at hl 0 rfl) ?_
  refine lv_iload hx hb dX12_toBegin_78 (lv_at hl 4 rfl) ?_
  refine lv_iload_n hx hb dX12_toBegin_80 rfl (lv_at hl 1 rfl) ?_
  obtain ⟨q2, hq2, hf⟩ := bi_s hf
  refine bk_VI (wf := mw) (q0 := 0) (ci := 11) (rest := [.int x2]) [.int x4, .int x1] C hP hD hS hl.1 (c_X12_reachedBy hXo hq2) (cwA_V 2 hts wa_1117 wa_1114 wa_1115 wa_1116 wa_5 rfl rfl nd_X12_reachedBy ⟨Nat.le_of_ble_eq_true rfl, Nat.le_of_ble_eq_true rfl⟩) rfl rfl rfl rfl (Nat.le_of_ble_eq_true rfl) dX12_toBegin_81 ⟨Nat.le_of_ble_eq_true rfl, Nat.le_of_ble_eq_true rfl⟩ (fun H locs hP hD hS => ?_)
  refine lv_iconst (v := (-1 : Int32)) hx hb dX12_toBegin_84 (by decide) ?_
  refine lv_ixor hx hb dX12_toBegin_85 ?_
  refine lv_iand hx hb dX12_toBegin_86 ?_
  refine lv_if_ne (tgt := 93) hx hb dX12_toBegin_87 (by decide) (fun t87 => ?_) (fun t87 => ?_)
  · have hf := (if_neg t87).symm.trans hf
    exact b_X12_toBegin_b93 C hf k0 k H locs ls hP hD hS (lv_sub hl [0, 1, 2, 3, 4] rfl)
  · have hf := (if_pos t87).symm.trans hf
    refine lv_iload hx hb dX12_toBegin_90 (lv_at hl 4 rfl) ?_
    refine lv_istore_n (lv' := [(3, .int x4), (0, .ref (g.2.2 0)), (1, .int x1), (2, .int x2), (4, .int x4)]) hx hb dX12_toBegin_92 rfl hl (by decide) rfl (fun ls hl => ?_)
    exact b_X12_toBegin_b93 C hf k0 k H locs ls hP hD hS (lv_sub hl [1, 2, 3, 0, 4] rfl)
def s_X12_toBegin_h40 (N : Nat) (x1 : Int32) (x2 : Int32) (x3 : Int32) (x4 : Int32) (σ : Sg) : Option (Nat × Int32 × Int32 × Sg) :=
if x2 < x4 then (some (1, x3, 0, σ))
else (if (x4 &&& (σ 0 29)) = 0 then (if x3 = (-1 : Int32) then (f_X12_toBegin_b76 N x1 x2 x3 x4 σ)
else ((f_X12_bitsOf N x4 σ).bind fun q3 =>
(f_X12_bitsOf N x3 (q3.2)).bind fun q4 =>
if q3.1 < q4.1 then (f_X12_toBegin_b76 N x1 x2 x3 x4 (q4.2))
else (f_X12_toBegin_b93 N x1 x2 x3 x4 (q4.2))))
else (f_X12_toBegin_b93 N x1 x2 x3 x4 σ))
set_option maxHeartbeats 4000000 in
set_option maxRecDepth 100000 in
theorem e_X12_toBegin_h40 {N : Nat} {x1 : Int32} {x2 : Int32} {x3 : Int32} {x4 : Int32} {σ : Sg} {z : Nat × Int32 × Int32 × Sg} (C : Cx p s m args meth c cX12_toBegin 5 (some .int) RX12 g A X) (hf : s_X12_toBegin_h40 N x1 x2 x3 x4 σ = some z) (k0 : z.1 = 0 → Bk mw p l e rm_X12_toBegin s m args below meth c 5 g A Q 0 0 40 [(0, .ref (g.2.2 0)), (1, .int x1), (2, .int x2), (3, .int z.2.1), (4, .int z.2.2.1)] [] z.2.2.2) (k : ¬ z.1 = 0 → Bk mw p l e rm_X12_toBegin s m args below meth c 5 g A Q 0 0 99 [(3, .int z.2.1)] [] z.2.2.2) : Bk mw p l e rm_X12_toBegin s m args below meth c 5 g A Q 0 0 40 [(0, .ref (g.2.2 0)), (1, .int x1), (2, .int x2), (3, .int x3), (4, .int x4)] [] σ := by
  obtain ⟨hx, hb, hr, hml, hown, hts, hK, hlocks, hXX, hA, hXo⟩ := id C
  intro H locs ls hP hD hS hl
  unfold s_X12_toBegin_h40 at hf
  refine lv_iload hx hb dX12_toBegin_40 (lv_at hl 4 rfl) ?_
  refine lv_iload_n hx hb dX12_toBegin_42 rfl (lv_at hl 2 rfl) ?_
  refine lv_icmp_gt (tgt := 99) hx hb dX12_toBegin_43 (by decide) (fun t43 => ?_) (fun t43 => ?_)
  · have hf := (if_pos t43).symm.trans hf
    cases hf
    exact (k (show ¬ (1 : Nat) = 0 by decide)) H locs ls hP hD hS (lv_sub hl [3] rfl)
  · have hf := (if_neg t43).symm.trans hf
    refine lv_iload hx hb dX12_toBegin_46 (lv_at hl 4 rfl) ?_
    refine lv_aload_n hx hb dX12_toBegin_48 rfl (lv_at hl 0 rfl) ?_
    refine bk_get (wf := mw) (q0 := 0) (ci := 11) (k := 29) (v := .int (σ 0 29)) C hP wl_X12 rfl rfl (by decide) wa_614 rfl rfl dX12_toBegin_49 ?_
    refine lv_iand hx hb dX12_toBegin_52 ?_
    refine lv_if_ne (tgt := 93) hx hb dX12_toBegin_53 (by decide) (fun t53 => ?_) (fun t53 => ?_)
    · have hf := (if_neg t53).symm.trans hf
      exact b_X12_toBegin_b93 C hf k0 k H locs ls hP hD hS (lv_sub hl [0, 1, 2, 3, 4] rfl)
    · have hf := (if_pos t53).symm.trans hf
      refine lv_iload_n hx hb dX12_toBegin_56 rfl (lv_at hl 3 rfl) ?_
      refine lv_iconst (v := (-1 : Int32)) hx hb dX12_toBegin_57 (by decide) ?_
      refine lv_icmp_eq (tgt := 76) hx hb dX12_toBegin_58 (by decide) (fun t58 => ?_) (fun t58 => ?_)
      · have hf := (if_pos t58).symm.trans hf
        exact b_X12_toBegin_b76 C hf k0 k H locs ls hP hD hS (lv_sub hl [0, 1, 2, 3, 4] rfl)
      · have hf := (if_neg t58).symm.trans hf
        refine lv_iload hx hb dX12_toBegin_61 (lv_at hl 4 rfl) ?_
        obtain ⟨q3, hq3, hf⟩ := bi_s hf
        refine bk_SI (wf := mw) (rest := []) [.int x4] C hP hD hS hl.1 (c_X12_bitsOf hXo hq3) (cwA_S 1 hts wa_769 wa_767 wa_768 wa_5 rfl rfl nd_X12_bitsOf ⟨Nat.le_of_ble_eq_true rfl, Nat.le_of_ble_eq_true rfl⟩) rfl rfl (Nat.le_of_ble_eq_true rfl) dX12_toBegin_63 ⟨Nat.le_of_ble_eq_true rfl, Nat.le_of_ble_eq_true rfl⟩ (fun H locs hP hD hS => ?_)
        refine lv_iload_n hx hb dX12_toBegin_66 rfl (lv_at hl 3 rfl) ?_
        obtain ⟨q4, hq4, hf⟩ := bi_s hf
        refine bk_SI (wf := mw) (rest := [.int q3.1]) [.int x3] C hP hD hS hl.1 (c_X12_bitsOf hXo hq4) (cwA_S 1 hts wa_769 wa_767 wa_768 wa_5 rfl rfl nd_X12_bitsOf ⟨Nat.le_of_ble_eq_true rfl, Nat.le_of_ble_eq_true rfl⟩) rfl rfl (Nat.le_of_ble_eq_true rfl) dX12_toBegin_67 ⟨Nat.le_of_ble_eq_true rfl, Nat.le_of_ble_eq_true rfl⟩ (fun H locs hP hD hS => ?_)
        refine lv_icmp_lt (tgt := 76) hx hb dX12_toBegin_70 (by decide) (fun t70 => ?_) (fun t70 => ?_)
        · have hf := (if_pos t70).symm.trans hf
          exact b_X12_toBegin_b76 C hf k0 k H locs ls hP hD hS (lv_sub hl [0, 1, 2, 3, 4] rfl)
        · have hf := (if_neg t70).symm.trans hf
          refine lv_goto (tgt := 93) hx hb dX12_toBegin_73 (by decide) ?_
          exact b_X12_toBegin_b93 C hf k0 k H locs ls hP hD hS (lv_sub hl [0, 1, 2, 3, 4] rfl)
theorem lp_X12_toBegin_h40 {N : Nat} {n : Nat} {x1 : Int32} {x2 : Int32} {x3 : Int32} {x4 : Int32} {σ : Sg} {z : Nat × Int32 × Int32 × Sg} (C : Cx p s m args meth c cX12_toBegin 5 (some .int) RX12 g A X) (hz : it (fun q => s_X12_toBegin_h40 N x1 x2 q.1 q.2.1 q.2.2) n (x3, x4, σ) = some z) (k : Bk mw p l e rm_X12_toBegin s m args below meth c 5 g A Q 0 0 99 [(3, .int z.2.1)] [] z.2.2.2) : Bk mw p l e rm_X12_toBegin s m args below meth c 5 g A Q 0 0 40 [(0, .ref (g.2.2 0)), (1, .int x1), (2, .int x2), (3, .int x3), (4, .int x4)] [] σ :=
  it_W (S := Int32 × Int32 × Sg) (fun q => Bk mw p l e rm_X12_toBegin s m args below meth c 5 g A Q 0 0 40 [(0, .ref (g.2.2 0)), (1, .int x1), (2, .int x2), (3, .int q.1), (4, .int q.2.1)] [] q.2.2) (fun z => Bk mw p l e rm_X12_toBegin s m args below meth c 5 g A Q 0 0 99 [(3, .int z.2.1)] [] z.2.2.2) (fun q z hq k0 k => e_X12_toBegin_h40 C hq k0 k) n (x3, x4, σ) z hz k
def f_X12_toBegin (N : Nat) (x1 : Int32) (σ : Sg) : Option (Int32 × Sg) :=
bd (wr σ 0 2 (0 : Int32)) fun σ5 =>
(f_X12_isIn N (x1).toInt64 (1 : Int64) (60 : Int64) σ5).bind fun q6 =>
if q6.1 = 0 then ((f_X12_fail N (1 : Int32) (q6.2)).bind fun q10 =>
some (q10.1, (q10.2)))
else ((f_X12_all N (q6.2)).bind fun q7 =>
bd (q7.1 &&& (((q7.2) 0 29) ^^^ (-1 : Int32))) fun v8 =>
(it (fun q => s_X12_toBegin_h40 N x1 v8 q.1 q.2.1 q.2.2) N ((-1 : Int32), (0 : Int32), (q7.2))).bind fun z9 =>
some ((z9.2.1), (z9.2.2.2)))
set_option maxHeartbeats 4000000 in
set_option maxRecDepth 100000 in
theorem b_X12_toBegin {N : Nat} {x1 : Int32} {σ : Sg} {z : Int32 × Sg} (C : Cx p s m args meth c cX12_toBegin 5 (some .int) RX12 g A X) (hf : f_X12_toBegin N x1 σ = some z) : Bk mw p l e rm_X12_toBegin s m args below meth c 5 g A (MQ below (qI mw g A z.1 z.2) args s 0 0 A) 0 0 0 [(0, .ref (g.2.2 0)), (1, .int x1)] [] σ := by
  obtain ⟨hx, hb, hr, hml, hown, hts, hK, hlocks, hXX, hA, hXo⟩ := id C
  intro H locs ls hP hD hS hl
  unfold f_X12_toBegin at hf
  refine lv_aload_n hx hb dX12_toBegin_0 rfl (lv_at hl 0 rfl) ?_
  refine lv_iconst (v := (0 : Int32)) hx hb dX12_toBegin_1 (by decide) ?_
  obtain ⟨σ5, eσ5, hf⟩ := bd_s hf
  refine bk_put (wf := mw) (σ1 := σ5) (q0 := 0) (ci := 11) (k := 2) (v := .int (0 : Int32)) C hP hD hS wl_X12 tyX12_ok nmX12 rfl rfl (by decide) wa_205 rfl rfl rfl rfl rfl (Nat.le_of_ble_eq_true rfl) (by rw [eσ5]; exact mw_p0_2 g _ _) dX12_toBegin_2 (fun H locs hP hD hS => ?_)
  refine lv_iload_n hx hb dX12_toBegin_5 rfl (lv_at hl 1 rfl) ?_
  refine lv_i2l hx hb dX12_toBegin_6 rfl ?_
  refine lv_lconst (v := (1 : Int64)) hx hb dX12_toBegin_7 (by decide) ?_
  refine lv_ldc2 (v := (60 : Int64)) hx hb hown (hts _ wa_1025) dX12_toBegin_8 ?_
  obtain ⟨q6, hq6, hf⟩ := bi_s hf
  refine bk_SI (wf := mw) (rest := []) [.long (x1).toInt64, .long (1 : Int64), .long (60 : Int64)] C hP hD hS hl.1 (c_X12_isIn hXo hq6) (cwA_S 3 hts wa_803 wa_801 wa_802 wa_5 rfl rfl nd_X12_isIn ⟨Nat.le_of_ble_eq_true rfl, Nat.le_of_ble_eq_true rfl⟩) rfl rfl (Nat.le_of_ble_eq_true rfl) dX12_toBegin_11 ⟨Nat.le_of_ble_eq_true rfl, Nat.le_of_ble_eq_true rfl⟩ (fun H locs hP hD hS => ?_)
  refine lv_if_ne (tgt := 23) hx hb dX12_toBegin_14 (by decide) (fun t14 => ?_) (fun t14 => ?_)
  · have hf := (if_neg t14).symm.trans hf
    refine lv_aload_n hx hb dX12_toBegin_23 rfl (lv_at hl 0 rfl) ?_
    obtain ⟨q7, hq7, hf⟩ := bi_s hf
    refine bk_VI (wf := mw) (q0 := 0) (ci := 11) (rest := []) [] C hP hD hS hl.1 (c_X12_all hXo hq7) (cwA_V 0 hts wa_766 wa_763 wa_764 wa_765 wa_5 rfl rfl nd_X12_all ⟨Nat.le_of_ble_eq_true rfl, Nat.le_of_ble_eq_true rfl⟩) rfl rfl rfl rfl (Nat.le_of_ble_eq_true rfl) dX12_toBegin_24 ⟨Nat.le_of_ble_eq_true rfl, Nat.le_of_ble_eq_true rfl⟩ (fun H locs hP hD hS => ?_)
    refine lv_aload_n hx hb dX12_toBegin_27 rfl (lv_at hl 0 rfl) ?_
    refine bk_get (wf := mw) (q0 := 0) (ci := 11) (k := 29) (v := .int ((q7.2) 0 29)) C hP wl_X12 rfl rfl (by decide) wa_614 rfl rfl dX12_toBegin_28 ?_
    refine lv_iconst (v := (-1 : Int32)) hx hb dX12_toBegin_31 (by decide) ?_
    refine lv_ixor hx hb dX12_toBegin_32 ?_
    refine lv_iand hx hb dX12_toBegin_33 ?_
    obtain ⟨v8, ev8, hf⟩ := bd_s hf
    rw [← ev8]
    refine lv_istore_n (lv' := [(2, .int v8), (0, .ref (g.2.2 0)), (1, .int x1)]) hx hb dX12_toBegin_34 rfl hl (by decide) rfl (fun ls hl => ?_)
    refine lv_iconst (v := (-1 : Int32)) hx hb dX12_toBegin_35 (by decide) ?_
    refine lv_istore_n (lv' := [(3, .int (-1 : Int32)), (2, .int v8), (0, .ref (g.2.2 0)), (1, .int x1)]) hx hb dX12_toBegin_36 rfl hl (by decide) rfl (fun ls hl => ?_)
    refine lv_iconst (v := (0 : Int32)) hx hb dX12_toBegin_37 (by decide) ?_
    refine lv_istore (lv' := [(4, .int (0 : Int32)), (3, .int (-1 : Int32)), (2, .int v8), (0, .ref (g.2.2 0)), (1, .int x1)]) hx hb dX12_toBegin_38 hl (by decide) rfl (fun ls hl => ?_)
    obtain ⟨z9, hz9, hf⟩ := bi_s hf
    refine lp_X12_toBegin_h40 C hz9 ?_ H locs ls hP hD hS (lv_sub hl [3, 4, 2, 1, 0] rfl)
    intro H locs ls hP hD hS hl
    refine lv_iload_n hx hb dX12_toBegin_99 rfl (lv_at hl 0 rfl) ?_
    cases hf
    exact bk_iret C hP hD hS rfl dX12_toBegin_100
  · have hf := (if_pos t14).symm.trans hf
    refine lv_aload_n hx hb dX12_toBegin_17 rfl (lv_at hl 0 rfl) ?_
    refine lv_iconst (v := (1 : Int32)) hx hb dX12_toBegin_18 (by decide) ?_
    obtain ⟨q10, hq10, hf⟩ := bi_s hf
    refine bk_VI (wf := mw) (q0 := 0) (ci := 11) (rest := []) [.int (1 : Int32)] C hP hD hS hl.1 (c_X12_fail hXo hq10) (cwA_V 1 hts wa_512 wa_509 wa_510 wa_511 wa_5 rfl rfl nd_X12_fail ⟨Nat.le_of_ble_eq_true rfl, Nat.le_of_ble_eq_true rfl⟩) rfl rfl rfl rfl (Nat.le_of_ble_eq_true rfl) dX12_toBegin_19 ⟨Nat.le_of_ble_eq_true rfl, Nat.le_of_ble_eq_true rfl⟩ (fun H locs hP hD hS => ?_)
    cases hf
    exact bk_iret C hP hD hS rfl dX12_toBegin_22
theorem c_X12_toBegin {N : Nat} {x1 : Int32} {σ : Sg} {z : Int32 × Sg} (hX : xOK g X) (hf : f_X12_toBegin N x1 σ = some z) : MetI l yX12_toBegin (Cond.code yX12_toBegin cX12_toBegin 5 (some .int) :: wsA) rm_X12_toBegin mw g X [.ref (g.2.2 0), .int x1] σ z.1 z.2 :=
  MetI_of hX (by decide) (Nat.le_of_ble_eq_true rfl) (fun p e s m args below meth c A C => b_X12_toBegin C hf)
end GEN
