section GEN
variable {p : Program} {l : Launch} {e : Env} {s : State} {m : MethodId} {args : Array Value} {below : List Frame} {meth : Method} {c : Code} {g : WG} {A : Nat → Prop} {X : Xt} {Q : State → Prop}
-- X12_is: is(Ljava/lang/String;)Z
abbrev rm_X12_is : Room := { frames := 4, cells := 0, slots := 0, locals := 85 }
theorem nd_X12_is : yX12_is.cls ≠ "java/lang/invoke/MethodHandle" ∧ yX12_is.cls ≠ "java/lang/invoke/VarHandle" ∧ (parseMethodDescriptor yX12_is.desc).map (fun d => d.parameters.length) = some 1 := by decide +kernel
def f_X12_is_b75 (N : Nat) (x1 : Nat) (x3 : Int32) (t0 : Int32) (σ : Sg) : Option (Nat × Int32 × Int32 × Sg) :=
bd (x3 + (1 : Int32)) fun v1 =>
some (0, t0, v1, σ)
set_option maxHeartbeats 4000000 in
set_option maxRecDepth 100000 in
theorem b_X12_is_b75 {N : Nat} {x1 : Nat} {x3 : Int32} {t0 : Int32} {σ : Sg} {z : Nat × Int32 × Int32 × Sg} (C : Cx p s m args meth c cX12_is 4 (some .boolean) RX12 g A X) (hf : f_X12_is_b75 N x1 x3 t0 σ = some z) (k0 : z.1 = 0 → Bk mw p l e rm_X12_is s m args below meth c 4 g A Q 0 0 39 [(0, .ref (g.2.2 0)), (1, .ref (g.2.2 (100 + x1))), (2, .int z.2.1), (3, .int z.2.2.1)] [] z.2.2.2) (k : ¬ z.1 = 0 → Bk mw p l e rm_X12_is s m args below meth c 4 g A Q 0 0 82 [(2, .int z.2.1)] [] z.2.2.2) : Bk mw p l e rm_X12_is s m args below meth c 4 g A Q 0 0 75 [(0, .ref (g.2.2 0)), (1, .ref (g.2.2 (100 + x1))), (3, .int x3)] [.int t0] σ := by
  obtain ⟨hx, hb, hr, hml, hown, hts, hK, hlocks, hXX, hA, hXo⟩ := id C
  intro H locs ls hP hD hS hl
  unfold f_X12_is_b75 at hf
  refine lv_istore_n (lv' := [(2, .int t0), (0, .ref (g.2.2 0)), (1, .ref (g.2.2 (100 + x1))), (3, .int x3)]) hx hb dX12_is_75 rfl hl (by decide) rfl (fun ls hl => ?_)
  obtain ⟨v1, ev1, hf⟩ := bd_s hf
  refine lv_iinc (v := v1) (lv' := [(3, .int v1), (2, .int t0), (0, .ref (g.2.2 0)), (1, .ref (g.2.2 (100 + x1)))]) hx hb dX12_is_76 hl (k := 3) rfl (by rw [ev1]; rfl) (by decide) rfl (fun ls hl => ?_)
  refine lv_goto (tgt := 39) hx hb dX12_is_79 (by decide) ?_
  cases hf
  exact k0 rfl H locs ls hP hD hS (lv_sub hl [2, 3, 1, 0] rfl)
def s_X12_is_h39 (N : Nat) (x1 : Nat) (x2 : Int32) (x3 : Int32) (σ : Sg) : Option (Nat × Int32 × Int32 × Sg) :=
if x2 = 0 then (some (1, x2, 0, σ))
else (if ¬ (x1 < 41) then none else
if (nI (tlen x1)) ≤ x3 then (some (1, x2, 0, σ))
else (if ¬ (x1 < 41) then none else
if (x3 < 0 ∨ tlen x1 ≤ x3.toNatClampNeg) then none else
if (((σ 0 18) + x3) < 0 ∨ 700 ≤ ((σ 0 18) + x3).toNatClampNeg) then none else
if (tch x1 x3.toNatClampNeg) = (σ 12 ((σ 0 18) + x3).toNatClampNeg) then (f_X12_is_b75 N x1 x3 (1 : Int32) σ)
else (f_X12_is_b75 N x1 x3 (0 : Int32) σ)))
set_option maxHeartbeats 4000000 in
set_option maxRecDepth 100000 in
theorem e_X12_is_h39 {N : Nat} {x1 : Nat} {x2 : Int32} {x3 : Int32} {σ : Sg} {z : Nat × Int32 × Int32 × Sg} (C : Cx p s m args meth c cX12_is 4 (some .boolean) RX12 g A X) (hf : s_X12_is_h39 N x1 x2 x3 σ = some z) (k0 : z.1 = 0 → Bk mw p l e rm_X12_is s m args below meth c 4 g A Q 0 0 39 [(0, .ref (g.2.2 0)), (1, .ref (g.2.2 (100 + x1))), (2, .int z.2.1), (3, .int z.2.2.1)] [] z.2.2.2) (k : ¬ z.1 = 0 → Bk mw p l e rm_X12_is s m args below meth c 4 g A Q 0 0 82 [(2, .int z.2.1)] [] z.2.2.2) : Bk mw p l e rm_X12_is s m args below meth c 4 g A Q 0 0 39 [(0, .ref (g.2.2 0)), (1, .ref (g.2.2 (100 + x1))), (2, .int x2), (3, .int x3)] [] σ := by
  obtain ⟨hx, hb, hr, hml, hown, hts, hK, hlocks, hXX, hA, hXo⟩ := id C
  intro H locs ls hP hD hS hl
  unfold s_X12_is_h39 at hf
  refine lv_iload_n hx hb dX12_is_39 rfl (lv_at hl 2 rfl) ?_
  refine lv_if_eq (tgt := 82) hx hb dX12_is_40 (by decide) (fun t40 => ?_) (fun t40 => ?_)
  · have hf := (if_pos t40).symm.trans hf
    cases hf
    exact (k (show ¬ (1 : Nat) = 0 by decide)) H locs ls hP hD hS (lv_sub hl [2] rfl)
  · have hf := (if_neg t40).symm.trans hf
    refine lv_iload_n hx hb dX12_is_43 rfl (lv_at hl 3 rfl) ?_
    refine lv_aload_n hx hb dX12_is_44 rfl (lv_at hl 1 rfl) ?_
    obtain ⟨g2, hf⟩ := gd_s hf
    refine bk_VIr (wf := mw) (rest := [.int x3]) [] C hP hD hS hl.1 (c_length (Decidable.not_not.mp g2) hXo) (cwA_V 0 hts wa_276 wa_547 wa_274 wa_275 wa_270 rfl rfl nd_J0_length_8abf5 ⟨Nat.le_of_ble_eq_true rfl, Nat.le_of_ble_eq_true rfl⟩) ((hXo.2.2.2 _ _ _ hXX).2.2.2.2.1 _ (Decidable.not_not.mp g2)).1 rfl rfl (Nat.le_of_ble_eq_true rfl) dX12_is_45 ⟨Nat.le_of_ble_eq_true rfl, Nat.le_of_ble_eq_true rfl⟩ (fun H locs hP hD hS => ?_)
    refine lv_icmp_ge (tgt := 82) hx hb dX12_is_48 (by decide) (fun t48 => ?_) (fun t48 => ?_)
    · have hf := (if_pos t48).symm.trans hf
      cases hf
      exact (k (show ¬ (1 : Nat) = 0 by decide)) H locs ls hP hD hS (lv_sub hl [2] rfl)
    · have hf := (if_neg t48).symm.trans hf
      refine lv_aload_n hx hb dX12_is_51 rfl (lv_at hl 1 rfl) ?_
      refine lv_iload_n hx hb dX12_is_52 rfl (lv_at hl 3 rfl) ?_
      obtain ⟨g3, hf⟩ := gd_s hf
      obtain ⟨g4, hf⟩ := gd_s hf
      refine bk_VIr (wf := mw) (rest := []) [.int x3] C hP hD hS hl.1 (c_charAt (Decidable.not_not.mp g3) g4 hXo) (cwA_V 1 hts wa_286 wa_548 wa_284 wa_285 wa_270 rfl rfl nd_J0_charAt_5068e ⟨Nat.le_of_ble_eq_true rfl, Nat.le_of_ble_eq_true rfl⟩) ((hXo.2.2.2 _ _ _ hXX).2.2.2.2.1 _ (Decidable.not_not.mp g3)).1 rfl rfl (Nat.le_of_ble_eq_true rfl) dX12_is_53 ⟨Nat.le_of_ble_eq_true rfl, Nat.le_of_ble_eq_true rfl⟩ (fun H locs hP hD hS => ?_)
      refine lv_aload_n hx hb dX12_is_56 rfl (lv_at hl 0 rfl) ?_
      refine bk_get (wf := mw) (q0 := 0) (ci := 11) (k := 12) (v := .ref (g.2.2 12)) C hP wl_X12 rfl rfl (by decide) wa_166 rfl rfl dX12_is_57 ?_
      refine lv_aload_n hx hb dX12_is_60 rfl (lv_at hl 0 rfl) ?_
      refine bk_get (wf := mw) (q0 := 0) (ci := 11) (k := 18) (v := .int (σ 0 18)) C hP wl_X12 rfl rfl (by decide) wa_517 rfl rfl dX12_is_61 ?_
      refine lv_iload_n hx hb dX12_is_64 rfl (lv_at hl 3 rfl) ?_
      refine lv_iadd hx hb dX12_is_65 ?_
      obtain ⟨g5, hf⟩ := gd_s hf
      refine bk_iald (wf := mw) (q0 := 12) (n := 700) (j := ((σ 0 18) + x3).toNatClampNeg) C hP rfl g5 rfl dX12_is_66 ?_
      refine lv_icmp_ne (tgt := 74) hx hb dX12_is_67 (by decide) (fun t67 => ?_) (fun t67 => ?_)
      · have hf := (if_neg t67).symm.trans hf
        refine lv_iconst (v := (0 : Int32)) hx hb dX12_is_74 (by decide) ?_
        exact b_X12_is_b75 C hf k0 k H locs ls hP hD hS (lv_sub hl [0, 1, 3] rfl)
      · have hf := (if_pos t67).symm.trans hf
        refine lv_iconst (v := (1 : Int32)) hx hb dX12_is_70 (by decide) ?_
        refine lv_goto (tgt := 75) hx hb dX12_is_71 (by decide) ?_
        exact b_X12_is_b75 C hf k0 k H locs ls hP hD hS (lv_sub hl [0, 1, 3] rfl)
theorem lp_X12_is_h39 {N n : Nat} {x1 : Nat} {x2 : Int32} {x3 : Int32} {σ : Sg} {z : Nat × Int32 × Int32 × Sg} (C : Cx p s m args meth c cX12_is 4 (some .boolean) RX12 g A X) (hz : it (fun q => s_X12_is_h39 N x1 q.1 q.2.1 q.2.2) n (x2, x3, σ) = some z) (k : Bk mw p l e rm_X12_is s m args below meth c 4 g A Q 0 0 82 [(2, .int z.2.1)] [] z.2.2.2) : Bk mw p l e rm_X12_is s m args below meth c 4 g A Q 0 0 39 [(0, .ref (g.2.2 0)), (1, .ref (g.2.2 (100 + x1))), (2, .int x2), (3, .int x3)] [] σ :=
  it_W (S := Int32 × Int32 × Sg) (fun q => Bk mw p l e rm_X12_is s m args below meth c 4 g A Q 0 0 39 [(0, .ref (g.2.2 0)), (1, .ref (g.2.2 (100 + x1))), (2, .int q.1), (3, .int q.2.1)] [] q.2.2) (fun z => Bk mw p l e rm_X12_is s m args below meth c 4 g A Q 0 0 82 [(2, .int z.2.1)] [] z.2.2.2) (fun q z hq k0 k => e_X12_is_h39 C hq k0 k) n (x2, x3, σ) z hz k
def f_X12_is_b36 (N : Nat) (x1 : Nat) (t0 : Int32) (σ : Sg) : Option (Int32 × Sg) :=
(it (fun q => s_X12_is_h39 N x1 q.1 q.2.1 q.2.2) N (t0, (0 : Int32), σ)).bind fun z6 =>
if ¬ ((z6.2.1) = 0 ∨ (z6.2.1) = 1) then none else some ((z6.2.1), (z6.2.2.2))
set_option maxHeartbeats 4000000 in
set_option maxRecDepth 100000 in
theorem b_X12_is_b36 {N : Nat} {x1 : Nat} {t0 : Int32} {σ : Sg} {z : Int32 × Sg} (C : Cx p s m args meth c cX12_is 4 (some .boolean) RX12 g A X) (hf : f_X12_is_b36 N x1 t0 σ = some z) : Bk mw p l e rm_X12_is s m args below meth c 4 g A (MQ below (qI mw g A z.1 z.2) args s 0 0 A) 0 0 36 [(0, .ref (g.2.2 0)), (1, .ref (g.2.2 (100 + x1)))] [.int t0] σ := by
  obtain ⟨hx, hb, hr, hml, hown, hts, hK, hlocks, hXX, hA, hXo⟩ := id C
  intro H locs ls hP hD hS hl
  unfold f_X12_is_b36 at hf
  refine lv_istore_n (lv' := [(2, .int t0), (0, .ref (g.2.2 0)), (1, .ref (g.2.2 (100 + x1)))]) hx hb dX12_is_36 rfl hl (by decide) rfl (fun ls hl => ?_)
  refine lv_iconst (v := (0 : Int32)) hx hb dX12_is_37 (by decide) ?_
  refine lv_istore_n (lv' := [(3, .int (0 : Int32)), (2, .int t0), (0, .ref (g.2.2 0)), (1, .ref (g.2.2 (100 + x1)))]) hx hb dX12_is_38 rfl hl (by decide) rfl (fun ls hl => ?_)
  obtain ⟨z6, hz6, hf⟩ := bi_s hf
  refine lp_X12_is_h39 C hz6 ?_ H locs ls hP hD hS (lv_sub hl [2, 3, 1, 0] rfl)
  intro H locs ls hP hD hS hl
  refine lv_iload_n hx hb dX12_is_82 rfl (lv_at hl 0 rfl) ?_
  obtain ⟨g7, hf⟩ := gd_s hf
  cases hf
  exact bk_zret C hP hD hS (Decidable.not_not.mp g7) rfl dX12_is_83
def f_X12_is_b35 (N : Nat) (x1 : Nat) (σ : Sg) : Option (Int32 × Sg) :=
f_X12_is_b36 N x1 (0 : Int32) σ
set_option maxHeartbeats 4000000 in
set_option maxRecDepth 100000 in
theorem b_X12_is_b35 {N : Nat} {x1 : Nat} {σ : Sg} {z : Int32 × Sg} (C : Cx p s m args meth c cX12_is 4 (some .boolean) RX12 g A X) (hf : f_X12_is_b35 N x1 σ = some z) : Bk mw p l e rm_X12_is s m args below meth c 4 g A (MQ below (qI mw g A z.1 z.2) args s 0 0 A) 0 0 35 [(0, .ref (g.2.2 0)), (1, .ref (g.2.2 (100 + x1)))] [] σ := by
  obtain ⟨hx, hb, hr, hml, hown, hts, hK, hlocks, hXX, hA, hXo⟩ := id C
  intro H locs ls hP hD hS hl
  unfold f_X12_is_b35 at hf
  refine lv_iconst (v := (0 : Int32)) hx hb dX12_is_35 (by decide) ?_
  exact b_X12_is_b36 C hf H locs ls hP hD hS (lv_sub hl [0, 1] rfl)
def f_X12_is (N : Nat) (x1 : Nat) (σ : Sg) : Option (Int32 × Sg) :=
if (σ 0 20) = 0 then (if (σ 0 16) = (1 : Int32) then (if ¬ (x1 < 41) then none else
if (nI (tlen x1)) = ((σ 0 19) - (σ 0 18)) then (f_X12_is_b36 N x1 (1 : Int32) σ)
else (f_X12_is_b35 N x1 σ))
else (f_X12_is_b35 N x1 σ))
else (f_X12_is_b35 N x1 σ)
set_option maxHeartbeats 4000000 in
set_option maxRecDepth 100000 in
theorem b_X12_is {N : Nat} {x1 : Nat} {σ : Sg} {z : Int32 × Sg} (C : Cx p s m args meth c cX12_is 4 (some .boolean) RX12 g A X) (hf : f_X12_is N x1 σ = some z) : Bk mw p l e rm_X12_is s m args below meth c 4 g A (MQ below (qI mw g A z.1 z.2) args s 0 0 A) 0 0 0 [(0, .ref (g.2.2 0)), (1, .ref (g.2.2 (100 + x1)))] [] σ := by
  obtain ⟨hx, hb, hr, hml, hown, hts, hK, hlocks, hXX, hA, hXo⟩ := id C
  intro H locs ls hP hD hS hl
  unfold f_X12_is at hf
  refine lv_aload_n hx hb dX12_is_0 rfl (lv_at hl 0 rfl) ?_
  refine bk_get (wf := mw) (q0 := 0) (ci := 11) (k := 20) (v := .int (σ 0 20)) C hP wl_X12 rfl rfl (by decide) wa_506 rfl rfl dX12_is_1 ?_
  refine lv_if_ne (tgt := 35) hx hb dX12_is_4 (by decide) (fun t4 => ?_) (fun t4 => ?_)
  · have hf := (if_neg t4).symm.trans hf
    exact b_X12_is_b35 C hf H locs ls hP hD hS (lv_sub hl [0, 1] rfl)
  · have hf := (if_pos t4).symm.trans hf
    refine lv_aload_n hx hb dX12_is_7 rfl (lv_at hl 0 rfl) ?_
    refine bk_get (wf := mw) (q0 := 0) (ci := 11) (k := 16) (v := .int (σ 0 16)) C hP wl_X12 rfl rfl (by decide) wa_507 rfl rfl dX12_is_8 ?_
    refine lv_iconst (v := (1 : Int32)) hx hb dX12_is_11 (by decide) ?_
    refine lv_icmp_ne (tgt := 35) hx hb dX12_is_12 (by decide) (fun t12 => ?_) (fun t12 => ?_)
    · have hf := (if_neg t12).symm.trans hf
      exact b_X12_is_b35 C hf H locs ls hP hD hS (lv_sub hl [0, 1] rfl)
    · have hf := (if_pos t12).symm.trans hf
      refine lv_aload_n hx hb dX12_is_15 rfl (lv_at hl 1 rfl) ?_
      obtain ⟨g8, hf⟩ := gd_s hf
      refine bk_VIr (wf := mw) (rest := []) [] C hP hD hS hl.1 (c_length (Decidable.not_not.mp g8) hXo) (cwA_V 0 hts wa_276 wa_547 wa_274 wa_275 wa_270 rfl rfl nd_J0_length_8abf5 ⟨Nat.le_of_ble_eq_true rfl, Nat.le_of_ble_eq_true rfl⟩) ((hXo.2.2.2 _ _ _ hXX).2.2.2.2.1 _ (Decidable.not_not.mp g8)).1 rfl rfl (Nat.le_of_ble_eq_true rfl) dX12_is_16 ⟨Nat.le_of_ble_eq_true rfl, Nat.le_of_ble_eq_true rfl⟩ (fun H locs hP hD hS => ?_)
      refine lv_aload_n hx hb dX12_is_19 rfl (lv_at hl 0 rfl) ?_
      refine bk_get (wf := mw) (q0 := 0) (ci := 11) (k := 19) (v := .int (σ 0 19)) C hP wl_X12 rfl rfl (by decide) wa_521 rfl rfl dX12_is_20 ?_
      refine lv_aload_n hx hb dX12_is_23 rfl (lv_at hl 0 rfl) ?_
      refine bk_get (wf := mw) (q0 := 0) (ci := 11) (k := 18) (v := .int (σ 0 18)) C hP wl_X12 rfl rfl (by decide) wa_517 rfl rfl dX12_is_24 ?_
      refine lv_isub hx hb dX12_is_27 ?_
      refine lv_icmp_ne (tgt := 35) hx hb dX12_is_28 (by decide) (fun t28 => ?_) (fun t28 => ?_)
      · have hf := (if_neg t28).symm.trans hf
        exact b_X12_is_b35 C hf H locs ls hP hD hS (lv_sub hl [0, 1] rfl)
      · have hf := (if_pos t28).symm.trans hf
        refine lv_iconst (v := (1 : Int32)) hx hb dX12_is_31 (by decide) ?_
        refine lv_goto (tgt := 36) hx hb dX12_is_32 (by decide) ?_
        exact b_X12_is_b36 C hf H locs ls hP hD hS (lv_sub hl [0, 1] rfl)
theorem c_X12_is {N : Nat} {x1 : Nat} {σ : Sg} {z : Int32 × Sg} (hX : xOK g X) (hf : f_X12_is N x1 σ = some z) : MetI l yX12_is (Cond.code yX12_is cX12_is 4 (some .boolean) :: wsA) rm_X12_is mw g X [.ref (g.2.2 0), .ref (g.2.2 (100 + x1))] σ z.1 z.2 :=
  MetI_of hX (by decide) (Nat.le_of_ble_eq_true rfl) (fun p e s m args below meth c A C => b_X12_is C hf)
-- X12_which_1: which([Ljava/lang/String;)I
abbrev rm_X12_which_1 : Room := { frames := 5, cells := 0, slots := 0, locals := 108 }
theorem nd_X12_which : yX12_which.cls ≠ "java/lang/invoke/MethodHandle" ∧ yX12_which.cls ≠ "java/lang/invoke/VarHandle" ∧ (parseMethodDescriptor yX12_which.desc).map (fun d => d.parameters.length) = some 1 := by decide +kernel
def s_X12_which_1_h2 (N : Nat) (x2 : Int32) (σ : Sg) : Option (Nat × Int32 × Sg) :=
if (2 : Int32) ≤ x2 then (some (2, 0, σ))
else (if (x2 < 0 ∨ 2 ≤ x2.toNatClampNeg) then none else
(f_X12_is N (0 + x2.toNatClampNeg) σ).bind fun q2 =>
if q2.1 = 0 then (bd (x2 + (1 : Int32)) fun v3 =>
some (0, v3, (q2.2)))
else (some (1, x2, (q2.2))))
set_option maxHeartbeats 4000000 in
set_option maxRecDepth 100000 in
theorem e_X12_which_1_h2 {N : Nat} {x2 : Int32} {σ : Sg} {z : Nat × Int32 × Sg} (C : Cx p s m args meth c cX12_which 3 (some .int) RX12 g A X) (hf : s_X12_which_1_h2 N x2 σ = some z) (k0 : z.1 = 0 → Bk mw p l e rm_X12_which_1 s m args below meth c 3 g A Q 0 0 2 [(0, .ref (g.2.2 0)), (1, .ref (g.2.2 1)), (2, .int z.2.1)] [] z.2.2) (k : ¬ z.1 = 0 → ((z.1 = 1 → Bk mw p l e rm_X12_which_1 s m args below meth c 3 g A Q 0 0 18 [(2, .int z.2.1)] [] z.2.2) ∧ (¬ z.1 = 1 → Bk mw p l e rm_X12_which_1 s m args below meth c 3 g A Q 0 0 26 [] [] z.2.2))) : Bk mw p l e rm_X12_which_1 s m args below meth c 3 g A Q 0 0 2 [(0, .ref (g.2.2 0)), (1, .ref (g.2.2 1)), (2, .int x2)] [] σ := by
  obtain ⟨hx, hb, hr, hml, hown, hts, hK, hlocks, hXX, hA, hXo⟩ := id C
  intro H locs ls hP hD hS hl
  unfold s_X12_which_1_h2 at hf
  refine lv_iload_n hx hb dX12_which_2 rfl (lv_at hl 2 rfl) ?_
  refine lv_aload_n hx hb dX12_which_3 rfl (lv_at hl 1 rfl) ?_
  refine bk_alen (wf := mw) (q0 := 1) (t0 := 3) (v := (2 : Int32)) C hP rfl rfl (show Int32.ofNat 2 = (2 : Int32) by decide) dX12_which_4 ?_
  refine lv_icmp_ge (tgt := 26) hx hb dX12_which_5 (by decide) (fun t5 => ?_) (fun t5 => ?_)
  · have hf := (if_pos t5).symm.trans hf
    cases hf
    exact ((k (show ¬ (2 : Nat) = 0 by decide)).2 (show ¬ (2 : Nat) = 1 by decide)) H locs ls hP hD hS (lv_sub hl [] rfl)
  · have hf := (if_neg t5).symm.trans hf
    refine lv_aload_n hx hb dX12_which_8 rfl (lv_at hl 0 rfl) ?_
    refine lv_aload_n hx hb dX12_which_9 rfl (lv_at hl 1 rfl) ?_
    refine lv_iload_n hx hb dX12_which_10 rfl (lv_at hl 2 rfl) ?_
    obtain ⟨g1, hf⟩ := gd_s hf
    refine bk_sald (wf := mw) (q0 := 1) (n := 2) (off := 0) C hP rfl g1 dX12_which_11 ?_
    obtain ⟨q2, hq2, hf⟩ := bi_s hf
    refine bk_VI (wf := mw) (q0 := 0) (ci := 11) (rest := []) [.ref (g.2.2 (100 + (0 + x2.toNatClampNeg)))] C hP hD hS hl.1 (c_X12_is hXo hq2) (cwA_V 1 hts wa_546 wa_543 wa_544 wa_545 wa_5 rfl rfl nd_X12_is ⟨Nat.le_of_ble_eq_true rfl, Nat.le_of_ble_eq_true rfl⟩) rfl rfl rfl rfl (Nat.le_of_ble_eq_true rfl) dX12_which_12 ⟨Nat.le_of_ble_eq_true rfl, Nat.le_of_ble_eq_true rfl⟩ (fun H locs hP hD hS => ?_)
    refine lv_if_eq (tgt := 20) hx hb dX12_which_15 (by decide) (fun t15 => ?_) (fun t15 => ?_)
    · have hf := (if_pos t15).symm.trans hf
      obtain ⟨v3, ev3, hf⟩ := bd_s hf
      refine lv_iinc (v := v3) (lv' := [(2, .int v3), (0, .ref (g.2.2 0)), (1, .ref (g.2.2 1))]) hx hb dX12_which_20 hl (k := 2) rfl (by rw [ev3]; rfl) (by decide) rfl (fun ls hl => ?_)
      refine lv_goto (tgt := 2) hx hb dX12_which_23 (by decide) ?_
      cases hf
      exact k0 rfl H locs ls hP hD hS (lv_sub hl [1, 2, 0] rfl)
    · have hf := (if_neg t15).symm.trans hf
      cases hf
      exact ((k (show ¬ (1 : Nat) = 0 by decide)).1 rfl) H locs ls hP hD hS (lv_sub hl [2] rfl)
theorem lp_X12_which_1_h2 {N n : Nat} {x2 : Int32} {σ : Sg} {z : Nat × Int32 × Sg} (C : Cx p s m args meth c cX12_which 3 (some .int) RX12 g A X) (hz : it (fun q => s_X12_which_1_h2 N q.1 q.2) n (x2, σ) = some z) (k : ((z.1 = 1 → Bk mw p l e rm_X12_which_1 s m args below meth c 3 g A Q 0 0 18 [(2, .int z.2.1)] [] z.2.2) ∧ (¬ z.1 = 1 → Bk mw p l e rm_X12_which_1 s m args below meth c 3 g A Q 0 0 26 [] [] z.2.2))) : Bk mw p l e rm_X12_which_1 s m args below meth c 3 g A Q 0 0 2 [(0, .ref (g.2.2 0)), (1, .ref (g.2.2 1)), (2, .int x2)] [] σ :=
  it_W (S := Int32 × Sg) (fun q => Bk mw p l e rm_X12_which_1 s m args below meth c 3 g A Q 0 0 2 [(0, .ref (g.2.2 0)), (1, .ref (g.2.2 1)), (2, .int q.1)] [] q.2) (fun z => ((z.1 = 1 → Bk mw p l e rm_X12_which_1 s m args below meth c 3 g A Q 0 0 18 [(2, .int z.2.1)] [] z.2.2) ∧ (¬ z.1 = 1 → Bk mw p l e rm_X12_which_1 s m args below meth c 3 g A Q 0 0 26 [] [] z.2.2))) (fun q z hq k0 k => e_X12_which_1_h2 C hq k0 k) n (x2, σ) z hz k
def f_X12_which_1 (N : Nat) (σ : Sg) : Option (Int32 × Sg) :=
(it (fun q => s_X12_which_1_h2 N q.1 q.2) N ((0 : Int32), σ)).bind fun z4 =>
if z4.1 = 1 then (some ((z4.2.1), (z4.2.2)))
else (some ((-1 : Int32), (z4.2.2)))
set_option maxHeartbeats 4000000 in
set_option maxRecDepth 100000 in
theorem b_X12_which_1 {N : Nat} {σ : Sg} {z : Int32 × Sg} (C : Cx p s m args meth c cX12_which 3 (some .int) RX12 g A X) (hf : f_X12_which_1 N σ = some z) : Bk mw p l e rm_X12_which_1 s m args below meth c 3 g A (MQ below (qI mw g A z.1 z.2) args s 0 0 A) 0 0 0 [(0, .ref (g.2.2 0)), (1, .ref (g.2.2 1))] [] σ := by
  obtain ⟨hx, hb, hr, hml, hown, hts, hK, hlocks, hXX, hA, hXo⟩ := id C
  intro H locs ls hP hD hS hl
  unfold f_X12_which_1 at hf
  refine lv_iconst (v := (0 : Int32)) hx hb dX12_which_0 (by decide) ?_
  refine lv_istore_n (lv' := [(2, .int (0 : Int32)), (0, .ref (g.2.2 0)), (1, .ref (g.2.2 1))]) hx hb dX12_which_1 rfl hl (by decide) rfl (fun ls hl => ?_)
  obtain ⟨z4, hz4, hf⟩ := bi_s hf
  refine lp_X12_which_1_h2 C hz4 ⟨fun t0 => ?_, fun t0 => ?_⟩ H locs ls hP hD hS (lv_sub hl [1, 2, 0] rfl)
  · have hf := (if_pos t0).symm.trans hf
    intro H locs ls hP hD hS hl
    refine lv_iload_n hx hb dX12_which_18 rfl (lv_at hl 0 rfl) ?_
    cases hf
    exact bk_iret C hP hD hS rfl dX12_which_19
  · have hf := (if_neg t0).symm.trans hf
    intro H locs ls hP hD hS hl
    refine lv_iconst (v := (-1 : Int32)) hx hb dX12_which_26 (by decide) ?_
    cases hf
    exact bk_iret C hP hD hS rfl dX12_which_27
theorem c_X12_which_1 {N : Nat} {σ : Sg} {z : Int32 × Sg} (hX : xOK g X) (hf : f_X12_which_1 N σ = some z) : MetI l yX12_which (Cond.code yX12_which cX12_which 3 (some .int) :: wsA) rm_X12_which_1 mw g X [.ref (g.2.2 0), .ref (g.2.2 1)] σ z.1 z.2 :=
  MetI_of hX (by decide) (Nat.le_of_ble_eq_true rfl) (fun p e s m args below meth c A C => b_X12_which_1 C hf)
-- X12_which_2: which([Ljava/lang/String;)I
abbrev rm_X12_which_2 : Room := { frames := 5, cells := 0, slots := 0, locals := 108 }
def s_X12_which_2_h2 (N : Nat) (x2 : Int32) (σ : Sg) : Option (Nat × Int32 × Sg) :=
if (6 : Int32) ≤ x2 then (some (2, 0, σ))
else (if (x2 < 0 ∨ 6 ≤ x2.toNatClampNeg) then none else
(f_X12_is N (2 + x2.toNatClampNeg) σ).bind fun q2 =>
if q2.1 = 0 then (bd (x2 + (1 : Int32)) fun v3 =>
some (0, v3, (q2.2)))
else (some (1, x2, (q2.2))))
set_option maxHeartbeats 4000000 in
set_option maxRecDepth 100000 in
theorem e_X12_which_2_h2 {N : Nat} {x2 : Int32} {σ : Sg} {z : Nat × Int32 × Sg} (C : Cx p s m args meth c cX12_which 3 (some .int) RX12 g A X) (hf : s_X12_which_2_h2 N x2 σ = some z) (k0 : z.1 = 0 → Bk mw p l e rm_X12_which_2 s m args below meth c 3 g A Q 0 0 2 [(0, .ref (g.2.2 0)), (1, .ref (g.2.2 2)), (2, .int z.2.1)] [] z.2.2) (k : ¬ z.1 = 0 → ((z.1 = 1 → Bk mw p l e rm_X12_which_2 s m args below meth c 3 g A Q 0 0 18 [(2, .int z.2.1)] [] z.2.2) ∧ (¬ z.1 = 1 → Bk mw p l e rm_X12_which_2 s m args below meth c 3 g A Q 0 0 26 [] [] z.2.2))) : Bk mw p l e rm_X12_which_2 s m args below meth c 3 g A Q 0 0 2 [(0, .ref (g.2.2 0)), (1, .ref (g.2.2 2)), (2, .int x2)] [] σ := by
  obtain ⟨hx, hb, hr, hml, hown, hts, hK, hlocks, hXX, hA, hXo⟩ := id C
  intro H locs ls hP hD hS hl
  unfold s_X12_which_2_h2 at hf
  refine lv_iload_n hx hb dX12_which_2 rfl (lv_at hl 2 rfl) ?_
  refine lv_aload_n hx hb dX12_which_3 rfl (lv_at hl 1 rfl) ?_
  refine bk_alen (wf := mw) (q0 := 2) (t0 := 3) (v := (6 : Int32)) C hP rfl rfl (show Int32.ofNat 6 = (6 : Int32) by decide) dX12_which_4 ?_
  refine lv_icmp_ge (tgt := 26) hx hb dX12_which_5 (by decide) (fun t5 => ?_) (fun t5 => ?_)
  · have hf := (if_pos t5).symm.trans hf
    cases hf
    exact ((k (show ¬ (2 : Nat) = 0 by decide)).2 (show ¬ (2 : Nat) = 1 by decide)) H locs ls hP hD hS (lv_sub hl [] rfl)
  · have hf := (if_neg t5).symm.trans hf
    refine lv_aload_n hx hb dX12_which_8 rfl (lv_at hl 0 rfl) ?_
    refine lv_aload_n hx hb dX12_which_9 rfl (lv_at hl 1 rfl) ?_
    refine lv_iload_n hx hb dX12_which_10 rfl (lv_at hl 2 rfl) ?_
    obtain ⟨g1, hf⟩ := gd_s hf
    refine bk_sald (wf := mw) (q0 := 2) (n := 6) (off := 2) C hP rfl g1 dX12_which_11 ?_
    obtain ⟨q2, hq2, hf⟩ := bi_s hf
    refine bk_VI (wf := mw) (q0 := 0) (ci := 11) (rest := []) [.ref (g.2.2 (100 + (2 + x2.toNatClampNeg)))] C hP hD hS hl.1 (c_X12_is hXo hq2) (cwA_V 1 hts wa_546 wa_543 wa_544 wa_545 wa_5 rfl rfl nd_X12_is ⟨Nat.le_of_ble_eq_true rfl, Nat.le_of_ble_eq_true rfl⟩) rfl rfl rfl rfl (Nat.le_of_ble_eq_true rfl) dX12_which_12 ⟨Nat.le_of_ble_eq_true rfl, Nat.le_of_ble_eq_true rfl⟩ (fun H locs hP hD hS => ?_)
    refine lv_if_eq (tgt := 20) hx hb dX12_which_15 (by decide) (fun t15 => ?_) (fun t15 => ?_)
    · have hf := (if_pos t15).symm.trans hf
      obtain ⟨v3, ev3, hf⟩ := bd_s hf
      refine lv_iinc (v := v3) (lv' := [(2, .int v3), (0, .ref (g.2.2 0)), (1, .ref (g.2.2 2))]) hx hb dX12_which_20 hl (k := 2) rfl (by rw [ev3]; rfl) (by decide) rfl (fun ls hl => ?_)
      refine lv_goto (tgt := 2) hx hb dX12_which_23 (by decide) ?_
      cases hf
      exact k0 rfl H locs ls hP hD hS (lv_sub hl [1, 2, 0] rfl)
    · have hf := (if_neg t15).symm.trans hf
      cases hf
      exact ((k (show ¬ (1 : Nat) = 0 by decide)).1 rfl) H locs ls hP hD hS (lv_sub hl [2] rfl)
theorem lp_X12_which_2_h2 {N n : Nat} {x2 : Int32} {σ : Sg} {z : Nat × Int32 × Sg} (C : Cx p s m args meth c cX12_which 3 (some .int) RX12 g A X) (hz : it (fun q => s_X12_which_2_h2 N q.1 q.2) n (x2, σ) = some z) (k : ((z.1 = 1 → Bk mw p l e rm_X12_which_2 s m args below meth c 3 g A Q 0 0 18 [(2, .int z.2.1)] [] z.2.2) ∧ (¬ z.1 = 1 → Bk mw p l e rm_X12_which_2 s m args below meth c 3 g A Q 0 0 26 [] [] z.2.2))) : Bk mw p l e rm_X12_which_2 s m args below meth c 3 g A Q 0 0 2 [(0, .ref (g.2.2 0)), (1, .ref (g.2.2 2)), (2, .int x2)] [] σ :=
  it_W (S := Int32 × Sg) (fun q => Bk mw p l e rm_X12_which_2 s m args below meth c 3 g A Q 0 0 2 [(0, .ref (g.2.2 0)), (1, .ref (g.2.2 2)), (2, .int q.1)] [] q.2) (fun z => ((z.1 = 1 → Bk mw p l e rm_X12_which_2 s m args below meth c 3 g A Q 0 0 18 [(2, .int z.2.1)] [] z.2.2) ∧ (¬ z.1 = 1 → Bk mw p l e rm_X12_which_2 s m args below meth c 3 g A Q 0 0 26 [] [] z.2.2))) (fun q z hq k0 k => e_X12_which_2_h2 C hq k0 k) n (x2, σ) z hz k
def f_X12_which_2 (N : Nat) (σ : Sg) : Option (Int32 × Sg) :=
(it (fun q => s_X12_which_2_h2 N q.1 q.2) N ((0 : Int32), σ)).bind fun z4 =>
if z4.1 = 1 then (some ((z4.2.1), (z4.2.2)))
else (some ((-1 : Int32), (z4.2.2)))
set_option maxHeartbeats 4000000 in
set_option maxRecDepth 100000 in
theorem b_X12_which_2 {N : Nat} {σ : Sg} {z : Int32 × Sg} (C : Cx p s m args meth c cX12_which 3 (some .int) RX12 g A X) (hf : f_X12_which_2 N σ = some z) : Bk mw p l e rm_X12_which_2 s m args below meth c 3 g A (MQ below (qI mw g A z.1 z.2) args s 0 0 A) 0 0 0 [(0, .ref (g.2.2 0)), (1, .ref (g.2.2 2))] [] σ := by
  obtain ⟨hx, hb, hr, hml, hown, hts, hK, hlocks, hXX, hA, hXo⟩ := id C
  intro H locs ls hP hD hS hl
  unfold f_X12_which_2 at hf
  refine lv_iconst (v := (0 : Int32)) hx hb dX12_which_0 (by decide) ?_
  refine lv_istore_n (lv' := [(2, .int (0 : Int32)), (0, .ref (g.2.2 0)), (1, .ref (g.2.2 2))]) hx hb dX12_which_1 rfl hl (by decide) rfl (fun ls hl => ?_)
  obtain ⟨z4, hz4, hf⟩ := bi_s hf
  refine lp_X12_which_2_h2 C hz4 ⟨fun t0 => ?_, fun t0 => ?_⟩ H locs ls hP hD hS (lv_sub hl [1, 2, 0] rfl)
  · have hf := (if_pos t0).symm.trans hf
    intro H locs ls hP hD hS hl
    refine lv_iload_n hx hb dX12_which_18 rfl (lv_at hl 0 rfl) ?_
    cases hf
    exact bk_iret C hP hD hS rfl dX12_which_19
  · have hf := (if_neg t0).symm.trans hf
    intro H locs ls hP hD hS hl
    refine lv_iconst (v := (-1 : Int32)) hx hb dX12_which_26 (by decide) ?_
    cases hf
    exact bk_iret C hP hD hS rfl dX12_which_27
theorem c_X12_which_2 {N : Nat} {σ : Sg} {z : Int32 × Sg} (hX : xOK g X) (hf : f_X12_which_2 N σ = some z) : MetI l yX12_which (Cond.code yX12_which cX12_which 3 (some .int) :: wsA) rm_X12_which_2 mw g X [.ref (g.2.2 0), .ref (g.2.2 2)] σ z.1 z.2 :=
  MetI_of hX (by decide) (Nat.le_of_ble_eq_true rfl) (fun p e s m args below meth c A C => b_X12_which_2 C hf)
-- X3_isDigit_2: isDigit(I)Z
abbrev rm_X3_isDigit_2 : Room := { frames := 0, cells := 0, slots := 0, locals := 0 }
theorem nd_X3_isDigit : yX3_isDigit.cls ≠ "java/lang/invoke/MethodHandle" ∧ yX3_isDigit.cls ≠ "java/lang/invoke/VarHandle" ∧ (parseMethodDescriptor yX3_isDigit.desc).map (fun d => d.parameters.length) = some 1 := by decide +kernel
def f_X3_isDigit_2_b26 (N : Nat) (σ : Sg) : Option (Int32 × Sg) :=
some ((0 : Int32), σ)
set_option maxHeartbeats 4000000 in
set_option maxRecDepth 100000 in
theorem b_X3_isDigit_2_b26 {N : Nat} {σ : Sg} {z : Int32 × Sg} (C : Cx p s m args meth c cX3_isDigit 2 (some .boolean) RX3 g A X) (hf : f_X3_isDigit_2_b26 N σ = some z) : Bk cw p l e rm_X3_isDigit_2 s m args below meth c 2 g A (MQ below (qI cw g A z.1 z.2) args s 0 0 A) 0 0 26 [] [] σ := by
  obtain ⟨hx, hb, hr, hml, hown, hts, hK, hlocks, hXX, hA, hXo⟩ := id C
  intro H locs ls hP hD hS hl
  unfold f_X3_isDigit_2_b26 at hf
  refine lv_iconst (v := (0 : Int32)) hx hb dX3_isDigit_26 (by decide) ?_
  cases hf
  exact bk_zret C hP hD hS (by decide) rfl dX3_isDigit_27
def f_X3_isDigit_2 (N : Nat) (x1 : Int32) (σ : Sg) : Option (Int32 × Sg) :=
if (x1 < 0 ∨ 700 ≤ x1.toNatClampNeg) then none else
if (σ 1 x1.toNatClampNeg) < (48 : Int32) then (f_X3_isDigit_2_b26 N σ)
else (if (x1 < 0 ∨ 700 ≤ x1.toNatClampNeg) then none else
if (57 : Int32) < (σ 1 x1.toNatClampNeg) then (f_X3_isDigit_2_b26 N σ)
else (some ((1 : Int32), σ)))
set_option maxHeartbeats 4000000 in
set_option maxRecDepth 100000 in
theorem b_X3_isDigit_2 {N : Nat} {x1 : Int32} {σ : Sg} {z : Int32 × Sg} (C : Cx p s m args meth c cX3_isDigit 2 (some .boolean) RX3 g A X) (hf : f_X3_isDigit_2 N x1 σ = some z) : Bk cw p l e rm_X3_isDigit_2 s m args below meth c 2 g A (MQ below (qI cw g A z.1 z.2) args s 0 0 A) 0 0 0 [(0, .ref (g.2.2 2)), (1, .int x1)] [] σ := by
  obtain ⟨hx, hb, hr, hml, hown, hts, hK, hlocks, hXX, hA, hXo⟩ := id C
  intro H locs ls hP hD hS hl
  unfold f_X3_isDigit_2 at hf
  refine lv_aload_n hx hb dX3_isDigit_0 rfl (lv_at hl 0 rfl) ?_
  refine bk_get (wf := cw) (q0 := 2) (ci := 3) (k := 3) (v := .ref (g.2.2 1)) C hP wl_X3 rfl rfl (by decide) wa_64 rfl rfl dX3_isDigit_1 ?_
  refine lv_iload_n hx hb dX3_isDigit_4 rfl (lv_at hl 1 rfl) ?_
  obtain ⟨g1, hf⟩ := gd_s hf
  refine bk_bald (wf := cw) (q0 := 1) (n := 700) (j := x1.toNatClampNeg) C hP rfl g1 rfl dX3_isDigit_5 ?_
  refine lv_bipush (v := (48 : Int32)) hx hb dX3_isDigit_6 (by decide) ?_
  refine lv_icmp_lt (tgt := 26) hx hb dX3_isDigit_8 (by decide) (fun t8 => ?_) (fun t8 => ?_)
  · have hf := (if_pos t8).symm.trans hf
    exact b_X3_isDigit_2_b26 C hf H locs ls hP hD hS (lv_sub hl [] rfl)
  · have hf := (if_neg t8).symm.trans hf
    refine lv_aload_n hx hb dX3_isDigit_11 rfl (lv_at hl 0 rfl) ?_
    refine bk_get (wf := cw) (q0 := 2) (ci := 3) (k := 3) (v := .ref (g.2.2 1)) C hP wl_X3 rfl rfl (by decide) wa_64 rfl rfl dX3_isDigit_12 ?_
    refine lv_iload_n hx hb dX3_isDigit_15 rfl (lv_at hl 1 rfl) ?_
    obtain ⟨g2, hf⟩ := gd_s hf
    refine bk_bald (wf := cw) (q0 := 1) (n := 700) (j := x1.toNatClampNeg) C hP rfl g2 rfl dX3_isDigit_16 ?_
    refine lv_bipush (v := (57 : Int32)) hx hb dX3_isDigit_17 (by decide) ?_
    refine lv_icmp_gt (tgt := 26) hx hb dX3_isDigit_19 (by decide) (fun t19 => ?_) (fun t19 => ?_)
    · have hf := (if_pos t19).symm.trans hf
      exact b_X3_isDigit_2_b26 C hf H locs ls hP hD hS (lv_sub hl [] rfl)
    · have hf := (if_neg t19).symm.trans hf
      refine lv_iconst (v := (1 : Int32)) hx hb dX3_isDigit_22 (by decide) ?_
      refine lv_goto (tgt := 27) hx hb dX3_isDigit_23 (by decide) ?_
      cases hf
      exact bk_zret C hP hD hS (by decide) rfl dX3_isDigit_27
theorem c_X3_isDigit_2 {N : Nat} {x1 : Int32} {σ : Sg} {z : Int32 × Sg} (hX : xOK g X) (hf : f_X3_isDigit_2 N x1 σ = some z) : MetI l yX3_isDigit (Cond.code yX3_isDigit cX3_isDigit 2 (some .boolean) :: wsA) rm_X3_isDigit_2 cw g X [.ref (g.2.2 2), .int x1] σ z.1 z.2 :=
  MetI_of hX (by decide) (Nat.le_of_ble_eq_true rfl) (fun p e s m args below meth c A C => b_X3_isDigit_2 C hf)
-- X8_stands_1: stands([BII)Z
abbrev rm_X8_stands_1 : Room := { frames := 4, cells := 0, slots := 0, locals := 85 }
theorem nd_X8_stands : yX8_stands.cls ≠ "java/lang/invoke/MethodHandle" ∧ yX8_stands.cls ≠ "java/lang/invoke/VarHandle" ∧ (parseMethodDescriptor yX8_stands.desc).map (fun d => d.parameters.length) = some 3 := by decide +kernel
def s_X8_stands_1_h28 (N : Nat) (x0 : Int32) (x2 : Int32) (x3 : Int32) (x4 : Int32) (σ : Sg) : Option (Nat × Int32 × Sg) :=
if x3 ≤ x4 then (some (2, 0, σ))
else (if (700 : Int32) ≤ x4 then (some (2, 0, σ))
else (if (x4 < 0 ∨ 700 ≤ x4.toNatClampNeg) then none else
if (x0 < 0 ∨ 27 ≤ x0.toNatClampNeg) then none else
if ¬ ((14 + x0.toNatClampNeg) < 41) then none else
if ((x4 - x2) < 0 ∨ tlen (14 + x0.toNatClampNeg) ≤ (x4 - x2).toNatClampNeg) then none else
if ((σ 1 x4.toNatClampNeg) &&& (255 : Int32)) = (tch (14 + x0.toNatClampNeg) (x4 - x2).toNatClampNeg) then (bd (x4 + (1 : Int32)) fun v5 =>
some (0, v5, σ))
else (some (1, 0, σ))))
set_option maxHeartbeats 4000000 in
set_option maxRecDepth 100000 in
theorem e_X8_stands_1_h28 {N : Nat} {x0 : Int32} {x2 : Int32} {x3 : Int32} {x4 : Int32} {σ : Sg} {z : Nat × Int32 × Sg} (C : Cx p s m args meth c cX8_stands 5 (some .boolean) RX8 g A X) (hf : s_X8_stands_1_h28 N x0 x2 x3 x4 σ = some z) (k0 : z.1 = 0 → Bk cw p l e rm_X8_stands_1 s m args below meth c 5 g A Q 0 0 28 [(0, .ref (g.2.2 (300 + x0.toNatClampNeg))), (1, .ref (g.2.2 1)), (2, .int x2), (3, .int x3), (4, .int z.2.1)] [] z.2.2) (k : ¬ z.1 = 0 → ((z.1 = 1 → Bk cw p l e rm_X8_stands_1 s m args below meth c 5 g A Q 0 0 63 [] [] z.2.2) ∧ (¬ z.1 = 1 → Bk cw p l e rm_X8_stands_1 s m args below meth c 5 g A Q 0 0 71 [] [] z.2.2))) : Bk cw p l e rm_X8_stands_1 s m args below meth c 5 g A Q 0 0 28 [(0, .ref (g.2.2 (300 + x0.toNatClampNeg))), (1, .ref (g.2.2 1)), (2, .int x2), (3, .int x3), (4, .int x4)] [] σ := by
  obtain ⟨hx, hb, hr, hml, hown, hts, hK, hlocks, hXX, hA, hXo⟩ := id C
  intro H locs ls hP hD hS hl
  unfold s_X8_stands_1_h28 at hf
  refine lv_iload hx hb dX8_stands_28 (lv_at hl 4 rfl) ?_
  refine lv_iload_n hx hb dX8_stands_30 rfl (lv_at hl 3 rfl) ?_
  refine lv_icmp_ge (tgt := 71) hx hb dX8_stands_31 (by decide) (fun t31 => ?_) (fun t31 => ?_)
  · have hf := (if_pos t31).symm.trans hf
    cases hf
    exact ((k (show ¬ (2 : Nat) = 0 by decide)).2 (show ¬ (2 : Nat) = 1 by decide)) H locs ls hP hD hS (lv_sub hl [] rfl)
  · have hf := (if_neg t31).symm.trans hf
    refine lv_iload hx hb dX8_stands_34 (lv_at hl 4 rfl) ?_
    refine lv_aload_n hx hb dX8_stands_36 rfl (lv_at hl 1 rfl) ?_
    refine bk_alen (wf := cw) (q0 := 1) (t0 := 1) (v := (700 : Int32)) C hP rfl rfl (show Int32.ofNat 700 = (700 : Int32) by decide) dX8_stands_37 ?_
    refine lv_icmp_ge (tgt := 71) hx hb dX8_stands_38 (by decide) (fun t38 => ?_) (fun t38 => ?_)
    · have hf := (if_pos t38).symm.trans hf
      cases hf
      exact ((k (show ¬ (2 : Nat) = 0 by decide)).2 (show ¬ (2 : Nat) = 1 by decide)) H locs ls hP hD hS (lv_sub hl [] rfl)
    · have hf := (if_neg t38).symm.trans hf
      refine lv_aload_n hx hb dX8_stands_41 rfl (lv_at hl 1 rfl) ?_
      refine lv_iload hx hb dX8_stands_42 (lv_at hl 4 rfl) ?_
      obtain ⟨g1, hf⟩ := gd_s hf
      refine bk_bald (wf := cw) (q0 := 1) (n := 700) (j := x4.toNatClampNeg) C hP rfl g1 rfl dX8_stands_44 ?_
      refine lv_sipush (v := (255 : Int32)) hx hb dX8_stands_45 (by decide) ?_
      refine lv_iand hx hb dX8_stands_48 ?_
      refine lv_aload_n hx hb dX8_stands_49 rfl (lv_at hl 0 rfl) ?_
      obtain ⟨g2, hf⟩ := gd_s hf
      refine vk_getf (v := .ref (g.2.2 (100 + (14 + x0.toNatClampNeg)))) hx hb ((hXo.2.2.2 _ _ _ hXX).2.2.2.2.2.1.1 _ (vin_n g2)).2.2.1 hS hown (hts _ wa_266) (fun _ h => h) dX8_stands_50 ?_
      refine lv_iload hx hb dX8_stands_53 (lv_at hl 4 rfl) ?_
      refine lv_iload_n hx hb dX8_stands_55 rfl (lv_at hl 2 rfl) ?_
      refine lv_isub hx hb dX8_stands_56 ?_
      obtain ⟨g3, hf⟩ := gd_s hf
      obtain ⟨g4, hf⟩ := gd_s hf
      refine bk_VIr (wf := cw) (rest := [.int ((σ 1 x4.toNatClampNeg) &&& (255 : Int32))]) [.int (x4 - x2)] C hP hD hS hl.1 (c_charAt (Decidable.not_not.mp g3) g4 hXo) (cwA_V 1 hts wa_286 wa_283 wa_284 wa_285 wa_270 rfl rfl nd_J0_charAt_5068e ⟨Nat.le_of_ble_eq_true rfl, Nat.le_of_ble_eq_true rfl⟩) ((hXo.2.2.2 _ _ _ hXX).2.2.2.2.1 _ (Decidable.not_not.mp g3)).1 rfl rfl (Nat.le_of_ble_eq_true rfl) dX8_stands_57 ⟨Nat.le_of_ble_eq_true rfl, Nat.le_of_ble_eq_true rfl⟩ (fun H locs hP hD hS => ?_)
      refine lv_icmp_eq (tgt := 65) hx hb dX8_stands_60 (by decide) (fun t60 => ?_) (fun t60 => ?_)
      · have hf := (if_pos t60).symm.trans hf
        obtain ⟨v5, ev5, hf⟩ := bd_s hf
        refine lv_iinc (v := v5) (lv' := [(4, .int v5), (0, .ref (g.2.2 (300 + x0.toNatClampNeg))), (1, .ref (g.2.2 1)), (2, .int x2), (3, .int x3)]) hx hb dX8_stands_65 hl (k := 4) rfl (by rw [ev5]; rfl) (by decide) rfl (fun ls hl => ?_)
        refine lv_goto (tgt := 28) hx hb dX8_stands_68 (by decide) ?_
        cases hf
        exact k0 rfl H locs ls hP hD hS (lv_sub hl [1, 2, 3, 4, 0] rfl)
      · have hf := (if_neg t60).symm.trans hf
        cases hf
        exact ((k (show ¬ (1 : Nat) = 0 by decide)).1 rfl) H locs ls hP hD hS (lv_sub hl [] rfl)
theorem lp_X8_stands_1_h28 {N n : Nat} {x0 : Int32} {x2 : Int32} {x3 : Int32} {x4 : Int32} {σ : Sg} {z : Nat × Int32 × Sg} (C : Cx p s m args meth c cX8_stands 5 (some .boolean) RX8 g A X) (hz : it (fun q => s_X8_stands_1_h28 N x0 x2 x3 q.1 q.2) n (x4, σ) = some z) (k : ((z.1 = 1 → Bk cw p l e rm_X8_stands_1 s m args below meth c 5 g A Q 0 0 63 [] [] z.2.2) ∧ (¬ z.1 = 1 → Bk cw p l e rm_X8_stands_1 s m args below meth c 5 g A Q 0 0 71 [] [] z.2.2))) : Bk cw p l e rm_X8_stands_1 s m args below meth c 5 g A Q 0 0 28 [(0, .ref (g.2.2 (300 + x0.toNatClampNeg))), (1, .ref (g.2.2 1)), (2, .int x2), (3, .int x3), (4, .int x4)] [] σ :=
  it_W (S := Int32 × Sg) (fun q => Bk cw p l e rm_X8_stands_1 s m args below meth c 5 g A Q 0 0 28 [(0, .ref (g.2.2 (300 + x0.toNatClampNeg))), (1, .ref (g.2.2 1)), (2, .int x2), (3, .int x3), (4, .int q.1)] [] q.2) (fun z => ((z.1 = 1 → Bk cw p l e rm_X8_stands_1 s m args below meth c 5 g A Q 0 0 63 [] [] z.2.2) ∧ (¬ z.1 = 1 → Bk cw p l e rm_X8_stands_1 s m args below meth c 5 g A Q 0 0 71 [] [] z.2.2))) (fun q z hq k0 k => e_X8_stands_1_h28 C hq k0 k) n (x4, σ) z hz k
def f_X8_stands_1_b23 (N : Nat) (σ : Sg) : Option (Int32 × Sg) :=
some ((0 : Int32), σ)
set_option maxHeartbeats 4000000 in
set_option maxRecDepth 100000 in
theorem b_X8_stands_1_b23 {N : Nat} {σ : Sg} {z : Int32 × Sg} (C : Cx p s m args meth c cX8_stands 5 (some .boolean) RX8 g A X) (hf : f_X8_stands_1_b23 N σ = some z) : Bk cw p l e rm_X8_stands_1 s m args below meth c 5 g A (MQ below (qI cw g A z.1 z.2) args s 0 0 A) 0 0 23 [] [] σ := by
  obtain ⟨hx, hb, hr, hml, hown, hts, hK, hlocks, hXX, hA, hXo⟩ := id C
  intro H locs ls hP hD hS hl
  unfold f_X8_stands_1_b23 at hf
  refine lv_iconst (v := (0 : Int32)) hx hb dX8_stands_23 (by decide) ?_
  cases hf
  exact bk_zret C hP hD hS (by decide) rfl dX8_stands_24
def f_X8_stands_1 (N : Nat) (x0 : Int32) (x2 : Int32) (x3 : Int32) (σ : Sg) : Option (Int32 × Sg) :=
if (x0 < 0 ∨ 27 ≤ x0.toNatClampNeg) then none else
if ¬ ((14 + x0.toNatClampNeg) < 41) then none else
if (if nI (tlen (14 + x0.toNatClampNeg)) = 0 then (1 : Int32) else 0) = 0 then (if (x0 < 0 ∨ 27 ≤ x0.toNatClampNeg) then none else
if ¬ ((14 + x0.toNatClampNeg) < 41) then none else
if (nI (tlen (14 + x0.toNatClampNeg))) = (x3 - x2) then ((it (fun q => s_X8_stands_1_h28 N x0 x2 x3 q.1 q.2) N (x2, σ)).bind fun z10 =>
if z10.1 = 1 then (some ((0 : Int32), (z10.2.2)))
else (some ((1 : Int32), (z10.2.2))))
else (f_X8_stands_1_b23 N σ))
else (f_X8_stands_1_b23 N σ)
set_option maxHeartbeats 4000000 in
set_option maxRecDepth 100000 in
theorem b_X8_stands_1 {N : Nat} {x0 : Int32} {x2 : Int32} {x3 : Int32} {σ : Sg} {z : Int32 × Sg} (C : Cx p s m args meth c cX8_stands 5 (some .boolean) RX8 g A X) (hf : f_X8_stands_1 N x0 x2 x3 σ = some z) : Bk cw p l e rm_X8_stands_1 s m args below meth c 5 g A (MQ below (qI cw g A z.1 z.2) args s 0 0 A) 0 0 0 [(0, .ref (g.2.2 (300 + x0.toNatClampNeg))), (1, .ref (g.2.2 1)), (2, .int x2), (3, .int x3)] [] σ := by
  obtain ⟨hx, hb, hr, hml, hown, hts, hK, hlocks, hXX, hA, hXo⟩ := id C
  intro H locs ls hP hD hS hl
  unfold f_X8_stands_1 at hf
  refine lv_aload_n hx hb dX8_stands_0 rfl (lv_at hl 0 rfl) ?_
  obtain ⟨g6, hf⟩ := gd_s hf
  refine vk_getf (v := .ref (g.2.2 (100 + (14 + x0.toNatClampNeg)))) hx hb ((hXo.2.2.2 _ _ _ hXX).2.2.2.2.2.1.1 _ (vin_n g6)).2.2.1 hS hown (hts _ wa_266) (fun _ h => h) dX8_stands_1 ?_
  obtain ⟨g7, hf⟩ := gd_s hf
  refine bk_VIr (wf := cw) (rest := []) [] C hP hD hS hl.1 (c_isEmpty (Decidable.not_not.mp g7) hXo) (cwA_V 0 hts wa_271 wa_267 wa_268 wa_269 wa_270 rfl rfl nd_J0_isEmpty_aae02 ⟨Nat.le_of_ble_eq_true rfl, Nat.le_of_ble_eq_true rfl⟩) ((hXo.2.2.2 _ _ _ hXX).2.2.2.2.1 _ (Decidable.not_not.mp g7)).1 rfl rfl (Nat.le_of_ble_eq_true rfl) dX8_stands_4 ⟨Nat.le_of_ble_eq_true rfl, Nat.le_of_ble_eq_true rfl⟩ (fun H locs hP hD hS => ?_)
  refine lv_if_ne (tgt := 23) hx hb dX8_stands_7 (by decide) (fun t7 => ?_) (fun t7 => ?_)
  · have hf := (if_neg t7).symm.trans hf
    exact b_X8_stands_1_b23 C hf H locs ls hP hD hS (lv_sub hl [] rfl)
  · have hf := (if_pos t7).symm.trans hf
    refine lv_aload_n hx hb dX8_stands_10 rfl (lv_at hl 0 rfl) ?_
    obtain ⟨g8, hf⟩ := gd_s hf
    refine vk_getf (v := .ref (g.2.2 (100 + (14 + x0.toNatClampNeg)))) hx hb ((hXo.2.2.2 _ _ _ hXX).2.2.2.2.2.1.1 _ (vin_n g8)).2.2.1 hS hown (hts _ wa_266) (fun _ h => h) dX8_stands_11 ?_
    obtain ⟨g9, hf⟩ := gd_s hf
    refine bk_VIr (wf := cw) (rest := []) [] C hP hD hS hl.1 (c_length (Decidable.not_not.mp g9) hXo) (cwA_V 0 hts wa_276 wa_273 wa_274 wa_275 wa_270 rfl rfl nd_J0_length_8abf5 ⟨Nat.le_of_ble_eq_true rfl, Nat.le_of_ble_eq_true rfl⟩) ((hXo.2.2.2 _ _ _ hXX).2.2.2.2.1 _ (Decidable.not_not.mp g9)).1 rfl rfl (Nat.le_of_ble_eq_true rfl) dX8_stands_14 ⟨Nat.le_of_ble_eq_true rfl, Nat.le_of_ble_eq_true rfl⟩ (fun H locs hP hD hS => ?_)
    refine lv_iload_n hx hb dX8_stands_17 rfl (lv_at hl 3 rfl) ?_
    refine lv_iload_n hx hb dX8_stands_18 rfl (lv_at hl 2 rfl) ?_
    refine lv_isub hx hb dX8_stands_19 ?_
    refine lv_icmp_eq (tgt := 25) hx hb dX8_stands_20 (by decide) (fun t20 => ?_) (fun t20 => ?_)
    · have hf := (if_pos t20).symm.trans hf
      refine lv_iload_n hx hb dX8_stands_25 rfl (lv_at hl 2 rfl) ?_
      refine lv_istore (lv' := [(4, .int x2), (0, .ref (g.2.2 (300 + x0.toNatClampNeg))), (1, .ref (g.2.2 1)), (2, .int x2), (3, .int x3)]) hx hb dX8_stands_26 hl (by decide) rfl (fun ls hl => ?_)
      obtain ⟨z10, hz10, hf⟩ := bi_s hf
      refine lp_X8_stands_1_h28 C hz10 ⟨fun t0 => ?_, fun t0 => ?_⟩ H locs ls hP hD hS (lv_sub hl [1, 2, 3, 4, 0] rfl)
      · have hf := (if_pos t0).symm.trans hf
        intro H locs ls hP hD hS hl
        refine lv_iconst (v := (0 : Int32)) hx hb dX8_stands_63 (by decide) ?_
        cases hf
        exact bk_zret C hP hD hS (by decide) rfl dX8_stands_64
      · have hf := (if_neg t0).symm.trans hf
        intro H locs ls hP hD hS hl
        refine lv_iconst (v := (1 : Int32)) hx hb dX8_stands_71 (by decide) ?_
        cases hf
        exact bk_zret C hP hD hS (by decide) rfl dX8_stands_72
    · have hf := (if_neg t20).symm.trans hf
      exact b_X8_stands_1_b23 C hf H locs ls hP hD hS (lv_sub hl [] rfl)
theorem c_X8_stands_1 {N : Nat} {x0 : Int32} {x2 : Int32} {x3 : Int32} {σ : Sg} {z : Int32 × Sg} (hX : xOK g X) (hf : f_X8_stands_1 N x0 x2 x3 σ = some z) : MetI l yX8_stands (Cond.code yX8_stands cX8_stands 5 (some .boolean) :: wsA) rm_X8_stands_1 cw g X [.ref (g.2.2 (300 + x0.toNatClampNeg)), .ref (g.2.2 1), .int x2, .int x3] σ z.1 z.2 :=
  MetI_of hX (by decide) (Nat.le_of_ble_eq_true rfl) (fun p e s m args below meth c A C => b_X8_stands_1 C hf)
-- X3_isLetter_2: isLetter(I)Z
abbrev rm_X3_isLetter_2 : Room := { frames := 0, cells := 0, slots := 0, locals := 0 }
theorem nd_X3_isLetter : yX3_isLetter.cls ≠ "java/lang/invoke/MethodHandle" ∧ yX3_isLetter.cls ≠ "java/lang/invoke/VarHandle" ∧ (parseMethodDescriptor yX3_isLetter.desc).map (fun d => d.parameters.length) = some 1 := by decide +kernel
def f_X3_isLetter_2_b26 (N : Nat) (σ : Sg) : Option (Int32 × Sg) :=
some ((0 : Int32), σ)
set_option maxHeartbeats 4000000 in
set_option maxRecDepth 100000 in
theorem b_X3_isLetter_2_b26 {N : Nat} {σ : Sg} {z : Int32 × Sg} (C : Cx p s m args meth c cX3_isLetter 2 (some .boolean) RX3 g A X) (hf : f_X3_isLetter_2_b26 N σ = some z) : Bk cw p l e rm_X3_isLetter_2 s m args below meth c 2 g A (MQ below (qI cw g A z.1 z.2) args s 0 0 A) 0 0 26 [] [] σ := by
  obtain ⟨hx, hb, hr, hml, hown, hts, hK, hlocks, hXX, hA, hXo⟩ := id C
  intro H locs ls hP hD hS hl
  unfold f_X3_isLetter_2_b26 at hf
  refine lv_iconst (v := (0 : Int32)) hx hb dX3_isLetter_26 (by decide) ?_
  cases hf
  exact bk_zret C hP hD hS (by decide) rfl dX3_isLetter_27
def f_X3_isLetter_2 (N : Nat) (x1 : Int32) (σ : Sg) : Option (Int32 × Sg) :=
if (x1 < 0 ∨ 700 ≤ x1.toNatClampNeg) then none else
if (σ 1 x1.toNatClampNeg) < (97 : Int32) then (f_X3_isLetter_2_b26 N σ)
else (if (x1 < 0 ∨ 700 ≤ x1.toNatClampNeg) then none else
if (122 : Int32) < (σ 1 x1.toNatClampNeg) then (f_X3_isLetter_2_b26 N σ)
else (some ((1 : Int32), σ)))
set_option maxHeartbeats 4000000 in
set_option maxRecDepth 100000 in
theorem b_X3_isLetter_2 {N : Nat} {x1 : Int32} {σ : Sg} {z : Int32 × Sg} (C : Cx p s m args meth c cX3_isLetter 2 (some .boolean) RX3 g A X) (hf : f_X3_isLetter_2 N x1 σ = some z) : Bk cw p l e rm_X3_isLetter_2 s m args below meth c 2 g A (MQ below (qI cw g A z.1 z.2) args s 0 0 A) 0 0 0 [(0, .ref (g.2.2 2)), (1, .int x1)] [] σ := by
  obtain ⟨hx, hb, hr, hml, hown, hts, hK, hlocks, hXX, hA, hXo⟩ := id C
  intro H locs ls hP hD hS hl
  unfold f_X3_isLetter_2 at hf
  refine lv_aload_n hx hb dX3_isLetter_0 rfl (lv_at hl 0 rfl) ?_
  refine bk_get (wf := cw) (q0 := 2) (ci := 3) (k := 3) (v := .ref (g.2.2 1)) C hP wl_X3 rfl rfl (by decide) wa_64 rfl rfl dX3_isLetter_1 ?_
  refine lv_iload_n hx hb dX3_isLetter_4 rfl (lv_at hl 1 rfl) ?_
  obtain ⟨g1, hf⟩ := gd_s hf
  refine bk_bald (wf := cw) (q0 := 1) (n := 700) (j := x1.toNatClampNeg) C hP rfl g1 rfl dX3_isLetter_5 ?_
  refine lv_bipush (v := (97 : Int32)) hx hb dX3_isLetter_6 (by decide) ?_
  refine lv_icmp_lt (tgt := 26) hx hb dX3_isLetter_8 (by decide) (fun t8 => ?_) (fun t8 => ?_)
  · have hf := (if_pos t8).symm.trans hf
    exact b_X3_isLetter_2_b26 C hf H locs ls hP hD hS (lv_sub hl [] rfl)
  · have hf := (if_neg t8).symm.trans hf
    refine lv_aload_n hx hb dX3_isLetter_11 rfl (lv_at hl 0 rfl) ?_
    refine bk_get (wf := cw) (q0 := 2) (ci := 3) (k := 3) (v := .ref (g.2.2 1)) C hP wl_X3 rfl rfl (by decide) wa_64 rfl rfl dX3_isLetter_12 ?_
    refine lv_iload_n hx hb dX3_isLetter_15 rfl (lv_at hl 1 rfl) ?_
    obtain ⟨g2, hf⟩ := gd_s hf
    refine bk_bald (wf := cw) (q0 := 1) (n := 700) (j := x1.toNatClampNeg) C hP rfl g2 rfl dX3_isLetter_16 ?_
    refine lv_bipush (v := (122 : Int32)) hx hb dX3_isLetter_17 (by decide) ?_
    refine lv_icmp_gt (tgt := 26) hx hb dX3_isLetter_19 (by decide) (fun t19 => ?_) (fun t19 => ?_)
    · have hf := (if_pos t19).symm.trans hf
      exact b_X3_isLetter_2_b26 C hf H locs ls hP hD hS (lv_sub hl [] rfl)
    · have hf := (if_neg t19).symm.trans hf
      refine lv_iconst (v := (1 : Int32)) hx hb dX3_isLetter_22 (by decide) ?_
      refine lv_goto (tgt := 27) hx hb dX3_isLetter_23 (by decide) ?_
      cases hf
      exact bk_zret C hP hD hS (by decide) rfl dX3_isLetter_27
theorem c_X3_isLetter_2 {N : Nat} {x1 : Int32} {σ : Sg} {z : Int32 × Sg} (hX : xOK g X) (hf : f_X3_isLetter_2 N x1 σ = some z) : MetI l yX3_isLetter (Cond.code yX3_isLetter cX3_isLetter 2 (some .boolean) :: wsA) rm_X3_isLetter_2 cw g X [.ref (g.2.2 2), .int x1] σ z.1 z.2 :=
  MetI_of hX (by decide) (Nat.le_of_ble_eq_true rfl) (fun p e s m args below meth c A C => b_X3_isLetter_2 C hf)
-- X3_takeName_2: takeName()V
abbrev rm_X3_takeName_2 : Room := { frames := 5, cells := 0, slots := 0, locals := 109 }
theorem nd_X3_takeName : yX3_takeName.cls ≠ "java/lang/invoke/MethodHandle" ∧ yX3_takeName.cls ≠ "java/lang/invoke/VarHandle" ∧ (parseMethodDescriptor yX3_takeName.desc).map (fun d => d.parameters.length) = some 0 := by decide +kernel
def f_X3_takeName_2_b114 (N : Nat) (x1 : Int32) (σ : Sg) : Option (Nat × Int32 × Sg) :=
bd (x1 + (1 : Int32)) fun v1 =>
some (0, v1, σ)
set_option maxHeartbeats 4000000 in
set_option maxRecDepth 100000 in
theorem b_X3_takeName_2_b114 {N : Nat} {x1 : Int32} {σ : Sg} {z : Nat × Int32 × Sg} (C : Cx p s m args meth c cX3_takeName 2 none RX3 g A X) (hf : f_X3_takeName_2_b114 N x1 σ = some z) (k0 : z.1 = 0 → Bk cw p l e rm_X3_takeName_2 s m args below meth c 2 g A Q 0 0 74 [(0, .ref (g.2.2 2)), (1, .int z.2.1)] [] z.2.2) (k : ¬ z.1 = 0 → Bk cw p l e rm_X3_takeName_2 s m args below meth c 2 g A Q 0 0 120 [] [] z.2.2) : Bk cw p l e rm_X3_takeName_2 s m args below meth c 2 g A Q 0 0 114 [(0, .ref (g.2.2 2)), (1, .int x1)] [] σ := by
  obtain ⟨hx, hb, hr, hml, hown, hts, hK, hlocks, hXX, hA, hXo⟩ := id C
  intro H locs ls hP hD hS hl
  unfold f_X3_takeName_2_b114 at hf
  obtain ⟨v1, ev1, hf⟩ := bd_s hf
  refine lv_iinc (v := v1) (lv' := [(1, .int v1), (0, .ref (g.2.2 2))]) hx hb dX3_takeName_114 hl (k := 1) rfl (by rw [ev1]; rfl) (by decide) rfl (fun ls hl => ?_)
  refine lv_goto (tgt := 74) hx hb dX3_takeName_117 (by decide) ?_
  cases hf
  exact k0 rfl H locs ls hP hD hS (lv_sub hl [1, 0] rfl)
def s_X3_takeName_2_h74 (N : Nat) (x1 : Int32) (σ : Sg) : Option (Nat × Int32 × Sg) :=
if (27 : Int32) ≤ x1 then (some (1, 0, σ))
else (if (x1 < 0 ∨ 27 ≤ x1.toNatClampNeg) then none else
if (x1 < 0 ∨ 27 ≤ x1.toNatClampNeg) then none else
(f_X8_stands_1 N x1 (σ 2 6) (σ 2 7) σ).bind fun q4 =>
if q4.1 = 0 then (f_X3_takeName_2_b114 N x1 (q4.2))
else (if (x1 < 0 ∨ 27 ≤ x1.toNatClampNeg) then none else
bd (wr (q4.2) 2 5 x1) fun σ6 =>
f_X3_takeName_2_b114 N x1 σ6))
set_option maxHeartbeats 4000000 in
set_option maxRecDepth 100000 in
theorem e_X3_takeName_2_h74 {N : Nat} {x1 : Int32} {σ : Sg} {z : Nat × Int32 × Sg} (C : Cx p s m args meth c cX3_takeName 2 none RX3 g A X) (hf : s_X3_takeName_2_h74 N x1 σ = some z) (k0 : z.1 = 0 → Bk cw p l e rm_X3_takeName_2 s m args below meth c 2 g A Q 0 0 74 [(0, .ref (g.2.2 2)), (1, .int z.2.1)] [] z.2.2) (k : ¬ z.1 = 0 → Bk cw p l e rm_X3_takeName_2 s m args below meth c 2 g A Q 0 0 120 [] [] z.2.2) : Bk cw p l e rm_X3_takeName_2 s m args below meth c 2 g A Q 0 0 74 [(0, .ref (g.2.2 2)), (1, .int x1)] [] σ := by
  obtain ⟨hx, hb, hr, hml, hown, hts, hK, hlocks, hXX, hA, hXo⟩ := id C
  intro H locs ls hP hD hS hl
  unfold s_X3_takeName_2_h74 at hf
  refine lv_iload_n hx hb dX3_takeName_74 rfl (lv_at hl 1 rfl) ?_
  refine va_getsN (v := .ref (g.2.2 330)) hx hb (hXo.2.2.2 _ _ _ hXX).2.2.2.2.2.1.2.1 hS hown (va_Nw.use rfl (hXo.2.2.2 _ _ _ hXX).2.2.2.2.2.2.2.2.1) (fun _ h => h) dX3_takeName_75 ?_
  refine va_tlen (v := (27 : Int32)) hx hb (hXo.2.2.2 _ _ _ hXX).2.2.2.2.2.1.2.2.1 hS (by decide) dX3_takeName_78 ?_
  refine lv_icmp_ge (tgt := 120) hx hb dX3_takeName_79 (by decide) (fun t79 => ?_) (fun t79 => ?_)
  · have hf := (if_pos t79).symm.trans hf
    cases hf
    exact (k (show ¬ (1 : Nat) = 0 by decide)) H locs ls hP hD hS (lv_sub hl [] rfl)
  · have hf := (if_neg t79).symm.trans hf
    refine va_getsN (v := .ref (g.2.2 330)) hx hb (hXo.2.2.2 _ _ _ hXX).2.2.2.2.2.1.2.1 hS hown (va_Nw.use rfl (hXo.2.2.2 _ _ _ hXX).2.2.2.2.2.2.2.2.1) (fun _ h => h) dX3_takeName_82 ?_
    refine lv_iload_n hx hb dX3_takeName_85 rfl (lv_at hl 1 rfl) ?_
    obtain ⟨g2, hf⟩ := gd_s hf
    refine vb_tq (v := .ref (g.2.2 (300 + x1.toNatClampNeg))) hx hb (hXo.2.2.2 _ _ _ hXX).2.2.2.2.2.1.2.2.1 hS g2 rfl dX3_takeName_86 ?_
    refine lv_aload_n hx hb dX3_takeName_87 rfl (lv_at hl 0 rfl) ?_
    refine bk_get (wf := cw) (q0 := 2) (ci := 3) (k := 3) (v := .ref (g.2.2 1)) C hP wl_X3 rfl rfl (by decide) wa_64 rfl rfl dX3_takeName_88 ?_
    refine lv_aload_n hx hb dX3_takeName_91 rfl (lv_at hl 0 rfl) ?_
    refine bk_get (wf := cw) (q0 := 2) (ci := 3) (k := 6) (v := .int (σ 2 6)) C hP wl_X3 rfl rfl (by decide) wa_57 rfl rfl dX3_takeName_92 ?_
    refine lv_aload_n hx hb dX3_takeName_95 rfl (lv_at hl 0 rfl) ?_
    refine bk_get (wf := cw) (q0 := 2) (ci := 3) (k := 7) (v := .int (σ 2 7)) C hP wl_X3 rfl rfl (by decide) wa_58 rfl rfl dX3_takeName_96 ?_
    obtain ⟨g3, hf⟩ := gd_s hf
    obtain ⟨q4, hq4, hf⟩ := bi_s hf
    refine bk_VIr (wf := cw) (rest := []) [.ref (g.2.2 1), .int (σ 2 6), .int (σ 2 7)] C hP hD hS hl.1 (c_X8_stands_1 hXo hq4) (cwA_V 3 hts wa_265 wa_261 wa_262 wa_263 wa_264 rfl rfl nd_X8_stands ⟨Nat.le_of_ble_eq_true rfl, Nat.le_of_ble_eq_true rfl⟩) ((hXo.2.2.2 _ _ _ hXX).2.2.2.2.2.1.1 _ (vin_n g3)).2.1 rfl rfl (Nat.le_of_ble_eq_true rfl) dX3_takeName_99 ⟨Nat.le_of_ble_eq_true rfl, Nat.le_of_ble_eq_true rfl⟩ (fun H locs hP hD hS => ?_)
    refine lv_if_eq (tgt := 114) hx hb dX3_takeName_102 (by decide) (fun t102 => ?_) (fun t102 => ?_)
    · have hf := (if_pos t102).symm.trans hf
      exact b_X3_takeName_2_b114 C hf k0 k H locs ls hP hD hS (lv_sub hl [0, 1] rfl)
    · have hf := (if_neg t102).symm.trans hf
      refine lv_aload_n hx hb dX3_takeName_105 rfl (lv_at hl 0 rfl) ?_
      refine va_getsN (v := .ref (g.2.2 330)) hx hb (hXo.2.2.2 _ _ _ hXX).2.2.2.2.2.1.2.1 hS hown (va_Nw.use rfl (hXo.2.2.2 _ _ _ hXX).2.2.2.2.2.2.2.2.1) (fun _ h => h) dX3_takeName_106 ?_
      refine lv_iload_n hx hb dX3_takeName_109 rfl (lv_at hl 1 rfl) ?_
      obtain ⟨g5, hf⟩ := gd_s hf
      refine vb_tq (v := .ref (g.2.2 (300 + x1.toNatClampNeg))) hx hb (hXo.2.2.2 _ _ _ hXX).2.2.2.2.2.1.2.2.1 hS g5 rfl dX3_takeName_110 ?_
      obtain ⟨σ6, eσ6, hf⟩ := bd_s hf
      refine bk_put (wf := cw) (σ1 := σ6) (q0 := 2) (ci := 3) (k := 5) (v := .ref (g.2.2 (300 + x1.toNatClampNeg))) C hP hD hS wl_X3 tyX3_ok nmX3 rfl rfl (by decide) wa_56 rfl rfl rfl rfl rfl (Nat.le_of_ble_eq_true rfl) (by rw [eσ6]; exact cw_p2_5 g _ _) dX3_takeName_111 (fun H locs hP hD hS => ?_)
      exact b_X3_takeName_2_b114 C hf k0 k H locs ls hP hD hS (lv_sub hl [0, 1] rfl)
theorem lp_X3_takeName_2_h74 {N n : Nat} {x1 : Int32} {σ : Sg} {z : Nat × Int32 × Sg} (C : Cx p s m args meth c cX3_takeName 2 none RX3 g A X) (hz : it (fun q => s_X3_takeName_2_h74 N q.1 q.2) n (x1, σ) = some z) (k : Bk cw p l e rm_X3_takeName_2 s m args below meth c 2 g A Q 0 0 120 [] [] z.2.2) : Bk cw p l e rm_X3_takeName_2 s m args below meth c 2 g A Q 0 0 74 [(0, .ref (g.2.2 2)), (1, .int x1)] [] σ :=
  it_W (S := Int32 × Sg) (fun q => Bk cw p l e rm_X3_takeName_2 s m args below meth c 2 g A Q 0 0 74 [(0, .ref (g.2.2 2)), (1, .int q.1)] [] q.2) (fun z => Bk cw p l e rm_X3_takeName_2 s m args below meth c 2 g A Q 0 0 120 [] [] z.2.2) (fun q z hq k0 k => e_X3_takeName_2_h74 C hq k0 k) n (x1, σ) z hz k
def s_X3_takeName_2_h10 (N : Nat) (σ : Sg) : Option (Nat × Sg) :=
if (σ 2 8) = 0 then (some (1, σ))
else (if (σ 2 4) ≤ (σ 2 7) then (some (1, σ))
else ((f_X3_isLetter_2 N (σ 2 7) σ).bind fun q7 =>
if q7.1 = 0 then (some (1, (q7.2)))
else (bd (wr (q7.2) 2 7 (((q7.2) 2 7) + (1 : Int32))) fun σ8 =>
some (0, σ8))))
set_option maxHeartbeats 4000000 in
set_option maxRecDepth 100000 in
theorem e_X3_takeName_2_h10 {N : Nat} {σ : Sg} {z : Nat × Sg} (C : Cx p s m args meth c cX3_takeName 2 none RX3 g A X) (hf : s_X3_takeName_2_h10 N σ = some z) (k0 : z.1 = 0 → Bk cw p l e rm_X3_takeName_2 s m args below meth c 2 g A Q 0 0 10 [(0, .ref (g.2.2 2))] [] z.2) (k : ¬ z.1 = 0 → Bk cw p l e rm_X3_takeName_2 s m args below meth c 2 g A Q 0 0 52 [(0, .ref (g.2.2 2))] [] z.2) : Bk cw p l e rm_X3_takeName_2 s m args below meth c 2 g A Q 0 0 10 [(0, .ref (g.2.2 2))] [] σ := by
  obtain ⟨hx, hb, hr, hml, hown, hts, hK, hlocks, hXX, hA, hXo⟩ := id C
  intro H locs ls hP hD hS hl
  unfold s_X3_takeName_2_h10 at hf
  refine lv_aload_n hx hb dX3_takeName_10 rfl (lv_at hl 0 rfl) ?_
  refine bk_get (wf := cw) (q0 := 2) (ci := 3) (k := 8) (v := .int (σ 2 8)) C hP wl_X3 rfl rfl (by decide) wa_59 rfl rfl dX3_takeName_11 ?_
  refine lv_if_eq (tgt := 52) hx hb dX3_takeName_14 (by decide) (fun t14 => ?_) (fun t14 => ?_)
  · have hf := (if_pos t14).symm.trans hf
    cases hf
    exact (k (show ¬ (1 : Nat) = 0 by decide)) H locs ls hP hD hS (lv_sub hl [0] rfl)
  · have hf := (if_neg t14).symm.trans hf
    refine lv_aload_n hx hb dX3_takeName_17 rfl (lv_at hl 0 rfl) ?_
    refine bk_get (wf := cw) (q0 := 2) (ci := 3) (k := 7) (v := .int (σ 2 7)) C hP wl_X3 rfl rfl (by decide) wa_58 rfl rfl dX3_takeName_18 ?_
    refine lv_aload_n hx hb dX3_takeName_21 rfl (lv_at hl 0 rfl) ?_
    refine bk_get (wf := cw) (q0 := 2) (ci := 3) (k := 4) (v := .int (σ 2 4)) C hP wl_X3 rfl rfl (by decide) wa_54 rfl rfl dX3_takeName_22 ?_
    refine lv_icmp_ge (tgt := 52) hx hb dX3_takeName_25 (by decide) (fun t25 => ?_) (fun t25 => ?_)
    · have hf := (if_pos t25).symm.trans hf
      cases hf
      exact (k (show ¬ (1 : Nat) = 0 by decide)) H locs ls hP hD hS (lv_sub hl [0] rfl)
    · have hf := (if_neg t25).symm.trans hf
      refine lv_aload_n hx hb dX3_takeName_28 rfl (lv_at hl 0 rfl) ?_
      refine lv_aload_n hx hb dX3_takeName_29 rfl (lv_at hl 0 rfl) ?_
      refine bk_get (wf := cw) (q0 := 2) (ci := 3) (k := 7) (v := .int (σ 2 7)) C hP wl_X3 rfl rfl (by decide) wa_58 rfl rfl dX3_takeName_30 ?_
      obtain ⟨q7, hq7, hf⟩ := bi_s hf
      refine bk_VI (wf := cw) (q0 := 2) (ci := 3) (rest := []) [.int (σ 2 7)] C hP hD hS hl.1 (c_X3_isLetter_2 hXo hq7) (cwA_V 1 hts wa_245 wa_242 wa_243 wa_244 wa_18 rfl rfl nd_X3_isLetter ⟨Nat.le_of_ble_eq_true rfl, Nat.le_of_ble_eq_true rfl⟩) rfl rfl rfl rfl (Nat.le_of_ble_eq_true rfl) dX3_takeName_33 ⟨Nat.le_of_ble_eq_true rfl, Nat.le_of_ble_eq_true rfl⟩ (fun H locs hP hD hS => ?_)
      refine lv_if_eq (tgt := 52) hx hb dX3_takeName_36 (by decide) (fun t36 => ?_) (fun t36 => ?_)
      · have hf := (if_pos t36).symm.trans hf
        cases hf
        exact (k (show ¬ (1 : Nat) = 0 by decide)) H locs ls hP hD hS (lv_sub hl [0] rfl)
      · have hf := (if_neg t36).symm.trans hf
        refine lv_aload_n hx hb dX3_takeName_39 rfl (lv_at hl 0 rfl) ?_
        refine lv_dup hx hb dX3_takeName_40 rfl ?_
        refine bk_get (wf := cw) (q0 := 2) (ci := 3) (k := 7) (v := .int ((q7.2) 2 7)) C hP wl_X3 rfl rfl (by decide) wa_58 rfl rfl dX3_takeName_41 ?_
        refine lv_iconst (v := (1 : Int32)) hx hb dX3_takeName_44 (by decide) ?_
        refine lv_iadd hx hb dX3_takeName_45 ?_
        obtain ⟨σ8, eσ8, hf⟩ := bd_s hf
        refine bk_put (wf := cw) (σ1 := σ8) (q0 := 2) (ci := 3) (k := 7) (v := .int (((q7.2) 2 7) + (1 : Int32))) C hP hD hS wl_X3 tyX3_ok nmX3 rfl rfl (by decide) wa_58 rfl rfl rfl rfl rfl (Nat.le_of_ble_eq_true rfl) (by rw [eσ8]; exact cw_p2_7 g _ _) dX3_takeName_46 (fun H locs hP hD hS => ?_)
        refine lv_goto (tgt := 10) hx hb dX3_takeName_49 (by decide) ?_
        cases hf
        exact k0 rfl H locs ls hP hD hS (lv_sub hl [0] rfl)
theorem lp_X3_takeName_2_h10 {N n : Nat} {σ : Sg} {z : Nat × Sg} (C : Cx p s m args meth c cX3_takeName 2 none RX3 g A X) (hz : it (fun q => s_X3_takeName_2_h10 N q) n (σ) = some z) (k : Bk cw p l e rm_X3_takeName_2 s m args below meth c 2 g A Q 0 0 52 [(0, .ref (g.2.2 2))] [] z.2) : Bk cw p l e rm_X3_takeName_2 s m args below meth c 2 g A Q 0 0 10 [(0, .ref (g.2.2 2))] [] σ :=
  it_W (S := Sg) (fun q => Bk cw p l e rm_X3_takeName_2 s m args below meth c 2 g A Q 0 0 10 [(0, .ref (g.2.2 2))] [] q) (fun z => Bk cw p l e rm_X3_takeName_2 s m args below meth c 2 g A Q 0 0 52 [(0, .ref (g.2.2 2))] [] z.2) (fun q z hq k0 k => e_X3_takeName_2_h10 C hq k0 k) n (σ) z hz k
def f_X3_takeName_2_b69 (N : Nat) (t1 : Int32) (σ : Sg) : Option (Sg) :=
bd (wr σ 2 5 t1) fun σ9 =>
(it (fun q => s_X3_takeName_2_h74 N q.1 q.2) N ((0 : Int32), σ9)).bind fun z10 =>
some (z10.2.2)
set_option maxHeartbeats 4000000 in
set_option maxRecDepth 100000 in
theorem b_X3_takeName_2_b69 {N : Nat} {t1 : Int32} {σ : Sg} {z : Sg} (C : Cx p s m args meth c cX3_takeName 2 none RX3 g A X) (hf : f_X3_takeName_2_b69 N t1 σ = some z) : Bk cw p l e rm_X3_takeName_2 s m args below meth c 2 g A (MQ below (qV cw g A z) args s 0 0 A) 0 0 69 [(0, .ref (g.2.2 2))] [.ref (g.2.2 (300 + t1.toNatClampNeg)), .ref (g.2.2 2)] σ := by
  obtain ⟨hx, hb, hr, hml, hown, hts, hK, hlocks, hXX, hA, hXo⟩ := id C
  intro H locs ls hP hD hS hl
  unfold f_X3_takeName_2_b69 at hf
  obtain ⟨σ9, eσ9, hf⟩ := bd_s hf
  refine bk_put (wf := cw) (σ1 := σ9) (q0 := 2) (ci := 3) (k := 5) (v := .ref (g.2.2 (300 + t1.toNatClampNeg))) C hP hD hS wl_X3 tyX3_ok nmX3 rfl rfl (by decide) wa_56 rfl rfl rfl rfl rfl (Nat.le_of_ble_eq_true rfl) (by rw [eσ9]; exact cw_p2_5 g _ _) dX3_takeName_69 (fun H locs hP hD hS => ?_)
  refine lv_iconst (v := (0 : Int32)) hx hb dX3_takeName_72 (by decide) ?_
  refine lv_istore_n (lv' := [(1, .int (0 : Int32)), (0, .ref (g.2.2 2))]) hx hb dX3_takeName_73 rfl hl (by decide) rfl (fun ls hl => ?_)
  obtain ⟨z10, hz10, hf⟩ := bi_s hf
  refine lp_X3_takeName_2_h74 C hz10 ?_ H locs ls hP hD hS (lv_sub hl [1, 0] rfl)
  intro H locs ls hP hD hS hl
  cases hf
  exact bk_vret C hP hD hS rfl dX3_takeName_120
def f_X3_takeName_2 (N : Nat) (σ : Sg) : Option (Sg) :=
bd (wr σ 2 7 ((σ 2 6) + (1 : Int32))) fun σ11 =>
(it (fun q => s_X3_takeName_2_h10 N q) N (σ11)).bind fun z12 =>
if ((z12.2) 2 8) = 0 then (f_X3_takeName_2_b69 N (1 : Int32) (z12.2))
else (f_X3_takeName_2_b69 N (3 : Int32) (z12.2))
set_option maxHeartbeats 4000000 in
set_option maxRecDepth 100000 in
theorem b_X3_takeName_2 {N : Nat} {σ : Sg} {z : Sg} (C : Cx p s m args meth c cX3_takeName 2 none RX3 g A X) (hf : f_X3_takeName_2 N σ = some z) : Bk cw p l e rm_X3_takeName_2 s m args below meth c 2 g A (MQ below (qV cw g A z) args s 0 0 A) 0 0 0 [(0, .ref (g.2.2 2))] [] σ := by
  obtain ⟨hx, hb, hr, hml, hown, hts, hK, hlocks, hXX, hA, hXo⟩ := id C
  intro H locs ls hP hD hS hl
  unfold f_X3_takeName_2 at hf
  refine lv_aload_n hx hb dX3_takeName_0 rfl (lv_at hl 0 rfl) ?_
  refine lv_aload_n hx hb dX3_takeName_1 rfl (lv_at hl 0 rfl) ?_
  refine bk_get (wf := cw) (q0 := 2) (ci := 3) (k := 6) (v := .int (σ 2 6)) C hP wl_X3 rfl rfl (by decide) wa_57 rfl rfl dX3_takeName_2 ?_
  refine lv_iconst (v := (1 : Int32)) hx hb dX3_takeName_5 (by decide) ?_
  refine lv_iadd hx hb dX3_takeName_6 ?_
  obtain ⟨σ11, eσ11, hf⟩ := bd_s hf
  refine bk_put (wf := cw) (σ1 := σ11) (q0 := 2) (ci := 3) (k := 7) (v := .int ((σ 2 6) + (1 : Int32))) C hP hD hS wl_X3 tyX3_ok nmX3 rfl rfl (by decide) wa_58 rfl rfl rfl rfl rfl (Nat.le_of_ble_eq_true rfl) (by rw [eσ11]; exact cw_p2_7 g _ _) dX3_takeName_7 (fun H locs hP hD hS => ?_)
  obtain ⟨z12, hz12, hf⟩ := bi_s hf
  refine lp_X3_takeName_2_h10 C hz12 ?_ H locs ls hP hD hS (lv_sub hl [0] rfl)
  intro H locs ls hP hD hS hl
  refine lv_aload_n hx hb dX3_takeName_52 rfl (lv_at hl 0 rfl) ?_
  refine lv_aload_n hx hb dX3_takeName_53 rfl (lv_at hl 0 rfl) ?_
  refine bk_get (wf := cw) (q0 := 2) (ci := 3) (k := 8) (v := .int ((z12.2) 2 8)) C hP wl_X3 rfl rfl (by decide) wa_59 rfl rfl dX3_takeName_54 ?_
  refine lv_if_eq (tgt := 66) hx hb dX3_takeName_57 (by decide) (fun t57 => ?_) (fun t57 => ?_)
  · have hf := (if_pos t57).symm.trans hf
    refine va_gets (v := .ref (g.2.2 (300 + (1 : Int32).toNatClampNeg))) hx hb (tok_Z (hXo.2.2.2 _ _ _ hXX).2.2.2.2.2.1 1 "BAD" (by decide) (by decide) rfl) hS hown (hts _ wa_260) (fun _ h => h) dX3_takeName_66 ?_
    exact b_X3_takeName_2_b69 C hf H locs ls hP hD hS (lv_sub hl [0] rfl)
  · have hf := (if_neg t57).symm.trans hf
    refine va_gets (v := .ref (g.2.2 (300 + (3 : Int32).toNatClampNeg))) hx hb (tok_Z (hXo.2.2.2 _ _ _ hXX).2.2.2.2.2.1 3 "WORD" (by decide) (by decide) rfl) hS hown (hts _ wa_259) (fun _ h => h) dX3_takeName_60 ?_
    refine lv_goto (tgt := 69) hx hb dX3_takeName_63 (by decide) ?_
    exact b_X3_takeName_2_b69 C hf H locs ls hP hD hS (lv_sub hl [0] rfl)
theorem c_X3_takeName_2 {N : Nat} {σ : Sg} {z : Sg} (hX : xOK g X) (hf : f_X3_takeName_2 N σ = some z) : MetV l yX3_takeName (Cond.code yX3_takeName cX3_takeName 2 none :: wsA) rm_X3_takeName_2 cw g X [.ref (g.2.2 2)] σ z :=
  MetV_of hX (by decide) (Nat.le_of_ble_eq_true rfl) (fun p e s m args below meth c A C => b_X3_takeName_2 C hf)
-- X3_takeNumber_2: takeNumber()V
abbrev rm_X3_takeNumber_2 : Room := { frames := 1, cells := 0, slots := 0, locals := 21 }
theorem nd_X3_takeNumber : yX3_takeNumber.cls ≠ "java/lang/invoke/MethodHandle" ∧ yX3_takeNumber.cls ≠ "java/lang/invoke/VarHandle" ∧ (parseMethodDescriptor yX3_takeNumber.desc).map (fun d => d.parameters.length) = some 0 := by decide +kernel
def f_X3_takeNumber_2_b74 (N : Nat) (σ : Sg) : Option (Nat × Sg) :=
bd (wr σ 2 7 ((σ 2 7) + (1 : Int32))) fun σ1 =>
some (0, σ1)
set_option maxHeartbeats 4000000 in
set_option maxRecDepth 100000 in
theorem b_X3_takeNumber_2_b74 {N : Nat} {σ : Sg} {z : Nat × Sg} (C : Cx p s m args meth c cX3_takeNumber 1 none RX3 g A X) (hf : f_X3_takeNumber_2_b74 N σ = some z) (k0 : z.1 = 0 → Bk cw p l e rm_X3_takeNumber_2 s m args below meth c 1 g A Q 0 0 10 [(0, .ref (g.2.2 2))] [] z.2) (k : ¬ z.1 = 0 → Bk cw p l e rm_X3_takeNumber_2 s m args below meth c 1 g A Q 0 0 87 [(0, .ref (g.2.2 2))] [] z.2) : Bk cw p l e rm_X3_takeNumber_2 s m args below meth c 1 g A Q 0 0 74 [(0, .ref (g.2.2 2))] [] σ := by
  obtain ⟨hx, hb, hr, hml, hown, hts, hK, hlocks, hXX, hA, hXo⟩ := id C
  intro H locs ls hP hD hS hl
  unfold f_X3_takeNumber_2_b74 at hf
  refine lv_aload_n hx hb dX3_takeNumber_74 rfl (lv_at hl 0 rfl) ?_
  refine lv_dup hx hb dX3_takeNumber_75 rfl ?_
  refine bk_get (wf := cw) (q0 := 2) (ci := 3) (k := 7) (v := .int (σ 2 7)) C hP wl_X3 rfl rfl (by decide) wa_58 rfl rfl dX3_takeNumber_76 ?_
  refine lv_iconst (v := (1 : Int32)) hx hb dX3_takeNumber_79 (by decide) ?_
  refine lv_iadd hx hb dX3_takeNumber_80 ?_
  obtain ⟨σ1, eσ1, hf⟩ := bd_s hf
  refine bk_put (wf := cw) (σ1 := σ1) (q0 := 2) (ci := 3) (k := 7) (v := .int ((σ 2 7) + (1 : Int32))) C hP hD hS wl_X3 tyX3_ok nmX3 rfl rfl (by decide) wa_58 rfl rfl rfl rfl rfl (Nat.le_of_ble_eq_true rfl) (by rw [eσ1]; exact cw_p2_7 g _ _) dX3_takeNumber_81 (fun H locs hP hD hS => ?_)
  refine lv_goto (tgt := 10) hx hb dX3_takeNumber_84 (by decide) ?_
  cases hf
  exact k0 rfl H locs ls hP hD hS (lv_sub hl [0] rfl)
def s_X3_takeNumber_2_h10 (N : Nat) (σ : Sg) : Option (Nat × Sg) :=
if (σ 2 4) ≤ (σ 2 7) then (some (1, σ))
else ((f_X3_isDigit_2 N (σ 2 7) σ).bind fun q2 =>
if q2.1 = 0 then (some (1, (q2.2)))
else (bd (wr (q2.2) 2 9 (((q2.2) 2 9) + (1 : Int32))) fun σ3 =>
if (4 : Int32) < (σ3 2 9) then (f_X3_takeNumber_2_b74 N σ3)
else (if ((σ3 2 7) < 0 ∨ 700 ≤ (σ3 2 7).toNatClampNeg) then none else
bd (wr σ3 2 10 ((((10 : Int32) * (σ3 2 10)) + (σ3 1 (σ3 2 7).toNatClampNeg)) - (48 : Int32))) fun σ5 =>
f_X3_takeNumber_2_b74 N σ5)))
set_option maxHeartbeats 4000000 in
set_option maxRecDepth 100000 in
theorem e_X3_takeNumber_2_h10 {N : Nat} {σ : Sg} {z : Nat × Sg} (C : Cx p s m args meth c cX3_takeNumber 1 none RX3 g A X) (hf : s_X3_takeNumber_2_h10 N σ = some z) (k0 : z.1 = 0 → Bk cw p l e rm_X3_takeNumber_2 s m args below meth c 1 g A Q 0 0 10 [(0, .ref (g.2.2 2))] [] z.2) (k : ¬ z.1 = 0 → Bk cw p l e rm_X3_takeNumber_2 s m args below meth c 1 g A Q 0 0 87 [(0, .ref (g.2.2 2))] [] z.2) : Bk cw p l e rm_X3_takeNumber_2 s m args below meth c 1 g A Q 0 0 10 [(0, .ref (g.2.2 2))] [] σ := by
  obtain ⟨hx, hb, hr, hml, hown, hts, hK, hlocks, hXX, hA, hXo⟩ := id C
  intro H locs ls hP hD hS hl
  unfold s_X3_takeNumber_2_h10 at hf
  refine lv_aload_n hx hb dX3_takeNumber_10 rfl (lv_at hl 0 rfl) ?_
  refine bk_get (wf := cw) (q0 := 2) (ci := 3) (k := 7) (v := .int (σ 2 7)) C hP wl_X3 rfl rfl (by decide) wa_58 rfl rfl dX3_takeNumber_11 ?_
  refine lv_aload_n hx hb dX3_takeNumber_14 rfl (lv_at hl 0 rfl) ?_
  refine bk_get (wf := cw) (q0 := 2) (ci := 3) (k := 4) (v := .int (σ 2 4)) C hP wl_X3 rfl rfl (by decide) wa_54 rfl rfl dX3_takeNumber_15 ?_
  refine lv_icmp_ge (tgt := 87) hx hb dX3_takeNumber_18 (by decide) (fun t18 => ?_) (fun t18 => ?_)
  · have hf := (if_pos t18).symm.trans hf
    cases hf
    exact (k (show ¬ (1 : Nat) = 0 by decide)) H locs ls hP hD hS (lv_sub hl [0] rfl)
  · have hf := (if_neg t18).symm.trans hf
    refine lv_aload_n hx hb dX3_takeNumber_21 rfl (lv_at hl 0 rfl) ?_
    refine lv_aload_n hx hb dX3_takeNumber_22 rfl (lv_at hl 0 rfl) ?_
    refine bk_get (wf := cw) (q0 := 2) (ci := 3) (k := 7) (v := .int (σ 2 7)) C hP wl_X3 rfl rfl (by decide) wa_58 rfl rfl dX3_takeNumber_23 ?_
    obtain ⟨q2, hq2, hf⟩ := bi_s hf
    refine bk_VI (wf := cw) (q0 := 2) (ci := 3) (rest := []) [.int (σ 2 7)] C hP hD hS hl.1 (c_X3_isDigit_2 hXo hq2) (cwA_V 1 hts wa_249 wa_246 wa_247 wa_248 wa_18 rfl rfl nd_X3_isDigit ⟨Nat.le_of_ble_eq_true rfl, Nat.le_of_ble_eq_true rfl⟩) rfl rfl rfl rfl (Nat.le_of_ble_eq_true rfl) dX3_takeNumber_26 ⟨Nat.le_of_ble_eq_true rfl, Nat.le_of_ble_eq_true rfl⟩ (fun H locs hP hD hS => ?_)
    refine lv_if_eq (tgt := 87) hx hb dX3_takeNumber_29 (by decide) (fun t29 => ?_) (fun t29 => ?_)
    · have hf := (if_pos t29).symm.trans hf
      cases hf
      exact (k (show ¬ (1 : Nat) = 0 by decide)) H locs ls hP hD hS (lv_sub hl [0] rfl)
    · have hf := (if_neg t29).symm.trans hf
      refine lv_aload_n hx hb dX3_takeNumber_32 rfl (lv_at hl 0 rfl) ?_
      refine lv_dup hx hb dX3_takeNumber_33 rfl ?_
      refine bk_get (wf := cw) (q0 := 2) (ci := 3) (k := 9) (v := .int ((q2.2) 2 9)) C hP wl_X3 rfl rfl (by decide) wa_60 rfl rfl dX3_takeNumber_34 ?_
      refine lv_iconst (v := (1 : Int32)) hx hb dX3_takeNumber_37 (by decide) ?_
      refine lv_iadd hx hb dX3_takeNumber_38 ?_
      obtain ⟨σ3, eσ3, hf⟩ := bd_s hf
      refine bk_put (wf := cw) (σ1 := σ3) (q0 := 2) (ci := 3) (k := 9) (v := .int (((q2.2) 2 9) + (1 : Int32))) C hP hD hS wl_X3 tyX3_ok nmX3 rfl rfl (by decide) wa_60 rfl rfl rfl rfl rfl (Nat.le_of_ble_eq_true rfl) (by rw [eσ3]; exact cw_p2_9 g _ _) dX3_takeNumber_39 (fun H locs hP hD hS => ?_)
      refine lv_aload_n hx hb dX3_takeNumber_42 rfl (lv_at hl 0 rfl) ?_
      refine bk_get (wf := cw) (q0 := 2) (ci := 3) (k := 9) (v := .int (σ3 2 9)) C hP wl_X3 rfl rfl (by decide) wa_60 rfl rfl dX3_takeNumber_43 ?_
      refine lv_iconst (v := (4 : Int32)) hx hb dX3_takeNumber_46 (by decide) ?_
      refine lv_icmp_gt (tgt := 74) hx hb dX3_takeNumber_47 (by decide) (fun t47 => ?_) (fun t47 => ?_)
      · have hf := (if_pos t47).symm.trans hf
        exact b_X3_takeNumber_2_b74 C hf k0 k H locs ls hP hD hS (lv_sub hl [0] rfl)
      · have hf := (if_neg t47).symm.trans hf
        refine lv_aload_n hx hb dX3_takeNumber_50 rfl (lv_at hl 0 rfl) ?_
        refine lv_bipush (v := (10 : Int32)) hx hb dX3_takeNumber_51 (by decide) ?_
        refine lv_aload_n hx hb dX3_takeNumber_53 rfl (lv_at hl 0 rfl) ?_
        refine bk_get (wf := cw) (q0 := 2) (ci := 3) (k := 10) (v := .int (σ3 2 10)) C hP wl_X3 rfl rfl (by decide) wa_61 rfl rfl dX3_takeNumber_54 ?_
        refine lv_imul hx hb dX3_takeNumber_57 ?_
        refine lv_aload_n hx hb dX3_takeNumber_58 rfl (lv_at hl 0 rfl) ?_
        refine bk_get (wf := cw) (q0 := 2) (ci := 3) (k := 3) (v := .ref (g.2.2 1)) C hP wl_X3 rfl rfl (by decide) wa_64 rfl rfl dX3_takeNumber_59 ?_
        refine lv_aload_n hx hb dX3_takeNumber_62 rfl (lv_at hl 0 rfl) ?_
        refine bk_get (wf := cw) (q0 := 2) (ci := 3) (k := 7) (v := .int (σ3 2 7)) C hP wl_X3 rfl rfl (by decide) wa_58 rfl rfl dX3_takeNumber_63 ?_
        obtain ⟨g4, hf⟩ := gd_s hf
        refine bk_bald (wf := cw) (q0 := 1) (n := 700) (j := (σ3 2 7).toNatClampNeg) C hP rfl g4 rfl dX3_takeNumber_66 ?_
        refine lv_iadd hx hb dX3_takeNumber_67 ?_
        refine lv_bipush (v := (48 : Int32)) hx hb dX3_takeNumber_68 (by decide) ?_
        refine lv_isub hx hb dX3_takeNumber_70 ?_
        obtain ⟨σ5, eσ5, hf⟩ := bd_s hf
        refine bk_put (wf := cw) (σ1 := σ5) (q0 := 2) (ci := 3) (k := 10) (v := .int ((((10 : Int32) * (σ3 2 10)) + (σ3 1 (σ3 2 7).toNatClampNeg)) - (48 : Int32))) C hP hD hS wl_X3 tyX3_ok nmX3 rfl rfl (by decide) wa_61 rfl rfl rfl rfl rfl (Nat.le_of_ble_eq_true rfl) (by rw [eσ5]; exact cw_p2_10 g _ _) dX3_takeNumber_71 (fun H locs hP hD hS => ?_)
        exact b_X3_takeNumber_2_b74 C hf k0 k H locs ls hP hD hS (lv_sub hl [0] rfl)
theorem lp_X3_takeNumber_2_h10 {N n : Nat} {σ : Sg} {z : Nat × Sg} (C : Cx p s m args meth c cX3_takeNumber 1 none RX3 g A X) (hz : it (fun q => s_X3_takeNumber_2_h10 N q) n (σ) = some z) (k : Bk cw p l e rm_X3_takeNumber_2 s m args below meth c 1 g A Q 0 0 87 [(0, .ref (g.2.2 2))] [] z.2) : Bk cw p l e rm_X3_takeNumber_2 s m args below meth c 1 g A Q 0 0 10 [(0, .ref (g.2.2 2))] [] σ :=
  it_W (S := Sg) (fun q => Bk cw p l e rm_X3_takeNumber_2 s m args below meth c 1 g A Q 0 0 10 [(0, .ref (g.2.2 2))] [] q) (fun z => Bk cw p l e rm_X3_takeNumber_2 s m args below meth c 1 g A Q 0 0 87 [(0, .ref (g.2.2 2))] [] z.2) (fun q z hq k0 k => e_X3_takeNumber_2_h10 C hq k0 k) n (σ) z hz k
def f_X3_takeNumber_2 (N : Nat) (σ : Sg) : Option (Sg) :=
bd (wr σ 2 9 (0 : Int32)) fun σ6 =>
bd (wr σ6 2 10 (0 : Int32)) fun σ7 =>
(it (fun q => s_X3_takeNumber_2_h10 N q) N (σ7)).bind fun z8 =>
bd (wr (z8.2) 2 5 (2 : Int32)) fun σ9 =>
some σ9
set_option maxHeartbeats 4000000 in
set_option maxRecDepth 100000 in
theorem b_X3_takeNumber_2 {N : Nat} {σ : Sg} {z : Sg} (C : Cx p s m args meth c cX3_takeNumber 1 none RX3 g A X) (hf : f_X3_takeNumber_2 N σ = some z) : Bk cw p l e rm_X3_takeNumber_2 s m args below meth c 1 g A (MQ below (qV cw g A z) args s 0 0 A) 0 0 0 [(0, .ref (g.2.2 2))] [] σ := by
  obtain ⟨hx, hb, hr, hml, hown, hts, hK, hlocks, hXX, hA, hXo⟩ := id C
  intro H locs ls hP hD hS hl
  unfold f_X3_takeNumber_2 at hf
  refine lv_aload_n hx hb dX3_takeNumber_0 rfl (lv_at hl 0 rfl) ?_
  refine lv_iconst (v := (0 : Int32)) hx hb dX3_takeNumber_1 (by decide) ?_
  obtain ⟨σ6, eσ6, hf⟩ := bd_s hf
  refine bk_put (wf := cw) (σ1 := σ6) (q0 := 2) (ci := 3) (k := 9) (v := .int (0 : Int32)) C hP hD hS wl_X3 tyX3_ok nmX3 rfl rfl (by decide) wa_60 rfl rfl rfl rfl rfl (Nat.le_of_ble_eq_true rfl) (by rw [eσ6]; exact cw_p2_9 g _ _) dX3_takeNumber_2 (fun H locs hP hD hS => ?_)
  refine lv_aload_n hx hb dX3_takeNumber_5 rfl (lv_at hl 0 rfl) ?_
  refine lv_iconst (v := (0 : Int32)) hx hb dX3_takeNumber_6 (by decide) ?_
  obtain ⟨σ7, eσ7, hf⟩ := bd_s hf
  refine bk_put (wf := cw) (σ1 := σ7) (q0 := 2) (ci := 3) (k := 10) (v := .int (0 : Int32)) C hP hD hS wl_X3 tyX3_ok nmX3 rfl rfl (by decide) wa_61 rfl rfl rfl rfl rfl (Nat.le_of_ble_eq_true rfl) (by rw [eσ7]; exact cw_p2_10 g _ _) dX3_takeNumber_7 (fun H locs hP hD hS => ?_)
  obtain ⟨z8, hz8, hf⟩ := bi_s hf
  refine lp_X3_takeNumber_2_h10 C hz8 ?_ H locs ls hP hD hS (lv_sub hl [0] rfl)
  intro H locs ls hP hD hS hl
  refine lv_aload_n hx hb dX3_takeNumber_87 rfl (lv_at hl 0 rfl) ?_
  refine va_gets (v := .ref (g.2.2 (300 + (2 : Int32).toNatClampNeg))) hx hb (tok_Z (hXo.2.2.2 _ _ _ hXX).2.2.2.2.2.1 2 "NUMBER" (by decide) (by decide) rfl) hS hown (hts _ wa_254) (fun _ h => h) dX3_takeNumber_88 ?_
  obtain ⟨σ9, eσ9, hf⟩ := bd_s hf
  refine bk_put (wf := cw) (σ1 := σ9) (q0 := 2) (ci := 3) (k := 5) (v := .ref (g.2.2 (300 + (2 : Int32).toNatClampNeg))) C hP hD hS wl_X3 tyX3_ok nmX3 rfl rfl (by decide) wa_56 rfl rfl rfl rfl rfl (Nat.le_of_ble_eq_true rfl) (by rw [eσ9]; exact cw_p2_5 g _ _) dX3_takeNumber_91 (fun H locs hP hD hS => ?_)
  cases hf
  exact bk_vret C hP hD hS rfl dX3_takeNumber_94
theorem c_X3_takeNumber_2 {N : Nat} {σ : Sg} {z : Sg} (hX : xOK g X) (hf : f_X3_takeNumber_2 N σ = some z) : MetV l yX3_takeNumber (Cond.code yX3_takeNumber cX3_takeNumber 1 none :: wsA) rm_X3_takeNumber_2 cw g X [.ref (g.2.2 2)] σ z :=
  MetV_of hX (by decide) (Nat.le_of_ble_eq_true rfl) (fun p e s m args below meth c A C => b_X3_takeNumber_2 C hf)
-- X3_advance_2: advance()V
abbrev rm_X3_advance_2 : Room := { frames := 6, cells := 0, slots := 0, locals := 130 }
theorem nd_X3_advance : yX3_advance.cls ≠ "java/lang/invoke/MethodHandle" ∧ yX3_advance.cls ≠ "java/lang/invoke/VarHandle" ∧ (parseMethodDescriptor yX3_advance.desc).map (fun d => d.parameters.length) = some 0 := by decide +kernel
def f_X3_advance_2_b47 (N : Nat) (σ : Sg) : Option (Nat × Sg) :=
bd (wr σ 2 6 ((σ 2 6) + (1 : Int32))) fun σ1 =>
some (0, σ1)
set_option maxHeartbeats 4000000 in
set_option maxRecDepth 100000 in
theorem b_X3_advance_2_b47 {N : Nat} {σ : Sg} {z : Nat × Sg} (C : Cx p s m args meth c cX3_advance 1 none RX3 g A X) (hf : f_X3_advance_2_b47 N σ = some z) (k0 : z.1 = 0 → Bk cw p l e rm_X3_advance_2 s m args below meth c 1 g A Q 0 0 8 [(0, .ref (g.2.2 2))] [] z.2) (k : ¬ z.1 = 0 → Bk cw p l e rm_X3_advance_2 s m args below meth c 1 g A Q 0 0 60 [(0, .ref (g.2.2 2))] [] z.2) : Bk cw p l e rm_X3_advance_2 s m args below meth c 1 g A Q 0 0 47 [(0, .ref (g.2.2 2))] [] σ := by
  obtain ⟨hx, hb, hr, hml, hown, hts, hK, hlocks, hXX, hA, hXo⟩ := id C
  intro H locs ls hP hD hS hl
  unfold f_X3_advance_2_b47 at hf
  refine lv_aload_n hx hb dX3_advance_47 rfl (lv_at hl 0 rfl) ?_
  refine lv_dup hx hb dX3_advance_48 rfl ?_
  refine bk_get (wf := cw) (q0 := 2) (ci := 3) (k := 6) (v := .int (σ 2 6)) C hP wl_X3 rfl rfl (by decide) wa_57 rfl rfl dX3_advance_49 ?_
  refine lv_iconst (v := (1 : Int32)) hx hb dX3_advance_52 (by decide) ?_
  refine lv_iadd hx hb dX3_advance_53 ?_
  obtain ⟨σ1, eσ1, hf⟩ := bd_s hf
  refine bk_put (wf := cw) (σ1 := σ1) (q0 := 2) (ci := 3) (k := 6) (v := .int ((σ 2 6) + (1 : Int32))) C hP hD hS wl_X3 tyX3_ok nmX3 rfl rfl (by decide) wa_57 rfl rfl rfl rfl rfl (Nat.le_of_ble_eq_true rfl) (by rw [eσ1]; exact cw_p2_6 g _ _) dX3_advance_54 (fun H locs hP hD hS => ?_)
  refine lv_goto (tgt := 8) hx hb dX3_advance_57 (by decide) ?_
  cases hf
  exact k0 rfl H locs ls hP hD hS (lv_sub hl [0] rfl)
def s_X3_advance_2_h8 (N : Nat) (σ : Sg) : Option (Nat × Sg) :=
if (σ 2 4) ≤ (σ 2 6) then (some (1, σ))
else (if ((σ 2 6) < 0 ∨ 700 ≤ (σ 2 6).toNatClampNeg) then none else
if (σ 1 (σ 2 6).toNatClampNeg) = (32 : Int32) then (f_X3_advance_2_b47 N σ)
else (if ((σ 2 6) < 0 ∨ 700 ≤ (σ 2 6).toNatClampNeg) then none else
if (σ 1 (σ 2 6).toNatClampNeg) = (10 : Int32) then (f_X3_advance_2_b47 N σ)
else (some (1, σ))))
set_option maxHeartbeats 4000000 in
set_option maxRecDepth 100000 in
theorem e_X3_advance_2_h8 {N : Nat} {σ : Sg} {z : Nat × Sg} (C : Cx p s m args meth c cX3_advance 1 none RX3 g A X) (hf : s_X3_advance_2_h8 N σ = some z) (k0 : z.1 = 0 → Bk cw p l e rm_X3_advance_2 s m args below meth c 1 g A Q 0 0 8 [(0, .ref (g.2.2 2))] [] z.2) (k : ¬ z.1 = 0 → Bk cw p l e rm_X3_advance_2 s m args below meth c 1 g A Q 0 0 60 [(0, .ref (g.2.2 2))] [] z.2) : Bk cw p l e rm_X3_advance_2 s m args below meth c 1 g A Q 0 0 8 [(0, .ref (g.2.2 2))] [] σ := by
  obtain ⟨hx, hb, hr, hml, hown, hts, hK, hlocks, hXX, hA, hXo⟩ := id C
  intro H locs ls hP hD hS hl
  unfold s_X3_advance_2_h8 at hf
  refine lv_aload_n hx hb dX3_advance_8 rfl (lv_at hl 0 rfl) ?_
  refine bk_get (wf := cw) (q0 := 2) (ci := 3) (k := 6) (v := .int (σ 2 6)) C hP wl_X3 rfl rfl (by decide) wa_57 rfl rfl dX3_advance_9 ?_
  refine lv_aload_n hx hb dX3_advance_12 rfl (lv_at hl 0 rfl) ?_
  refine bk_get (wf := cw) (q0 := 2) (ci := 3) (k := 4) (v := .int (σ 2 4)) C hP wl_X3 rfl rfl (by decide) wa_54 rfl rfl dX3_advance_13 ?_
  refine lv_icmp_ge (tgt := 60) hx hb dX3_advance_16 (by decide) (fun t16 => ?_) (fun t16 => ?_)
  · have hf := (if_pos t16).symm.trans hf
    cases hf
    exact (k (show ¬ (1 : Nat) = 0 by decide)) H locs ls hP hD hS (lv_sub hl [0] rfl)
  · have hf := (if_neg t16).symm.trans hf
    refine lv_aload_n hx hb dX3_advance_19 rfl (lv_at hl 0 rfl) ?_
    refine bk_get (wf := cw) (q0 := 2) (ci := 3) (k := 3) (v := .ref (g.2.2 1)) C hP wl_X3 rfl rfl (by decide) wa_64 rfl rfl dX3_advance_20 ?_
    refine lv_aload_n hx hb dX3_advance_23 rfl (lv_at hl 0 rfl) ?_
    refine bk_get (wf := cw) (q0 := 2) (ci := 3) (k := 6) (v := .int (σ 2 6)) C hP wl_X3 rfl rfl (by decide) wa_57 rfl rfl dX3_advance_24 ?_
    obtain ⟨g2, hf⟩ := gd_s hf
    refine bk_bald (wf := cw) (q0 := 1) (n := 700) (j := (σ 2 6).toNatClampNeg) C hP rfl g2 rfl dX3_advance_27 ?_
    refine lv_bipush (v := (32 : Int32)) hx hb dX3_advance_28 (by decide) ?_
    refine lv_icmp_eq (tgt := 47) hx hb dX3_advance_30 (by decide) (fun t30 => ?_) (fun t30 => ?_)
    · have hf := (if_pos t30).symm.trans hf
      exact b_X3_advance_2_b47 C hf k0 k H locs ls hP hD hS (lv_sub hl [0] rfl)
    · have hf := (if_neg t30).symm.trans hf
      refine lv_aload_n hx hb dX3_advance_33 rfl (lv_at hl 0 rfl) ?_
      refine bk_get (wf := cw) (q0 := 2) (ci := 3) (k := 3) (v := .ref (g.2.2 1)) C hP wl_X3 rfl rfl (by decide) wa_64 rfl rfl dX3_advance_34 ?_
      refine lv_aload_n hx hb dX3_advance_37 rfl (lv_at hl 0 rfl) ?_
      refine bk_get (wf := cw) (q0 := 2) (ci := 3) (k := 6) (v := .int (σ 2 6)) C hP wl_X3 rfl rfl (by decide) wa_57 rfl rfl dX3_advance_38 ?_
      obtain ⟨g3, hf⟩ := gd_s hf
      refine bk_bald (wf := cw) (q0 := 1) (n := 700) (j := (σ 2 6).toNatClampNeg) C hP rfl g3 rfl dX3_advance_41 ?_
      refine lv_bipush (v := (10 : Int32)) hx hb dX3_advance_42 (by decide) ?_
      refine lv_icmp_ne (tgt := 60) hx hb dX3_advance_44 (by decide) (fun t44 => ?_) (fun t44 => ?_)
      · have hf := (if_neg t44).symm.trans hf
        cases hf
        exact (k (show ¬ (1 : Nat) = 0 by decide)) H locs ls hP hD hS (lv_sub hl [0] rfl)
      · have hf := (if_pos t44).symm.trans hf
        exact b_X3_advance_2_b47 C hf k0 k H locs ls hP hD hS (lv_sub hl [0] rfl)
theorem lp_X3_advance_2_h8 {N n : Nat} {σ : Sg} {z : Nat × Sg} (C : Cx p s m args meth c cX3_advance 1 none RX3 g A X) (hz : it (fun q => s_X3_advance_2_h8 N q) n (σ) = some z) (k : Bk cw p l e rm_X3_advance_2 s m args below meth c 1 g A Q 0 0 60 [(0, .ref (g.2.2 2))] [] z.2) : Bk cw p l e rm_X3_advance_2 s m args below meth c 1 g A Q 0 0 8 [(0, .ref (g.2.2 2))] [] σ :=
  it_W (S := Sg) (fun q => Bk cw p l e rm_X3_advance_2 s m args below meth c 1 g A Q 0 0 8 [(0, .ref (g.2.2 2))] [] q) (fun z => Bk cw p l e rm_X3_advance_2 s m args below meth c 1 g A Q 0 0 60 [(0, .ref (g.2.2 2))] [] z.2) (fun q z hq k0 k => e_X3_advance_2_h8 C hq k0 k) n (σ) z hz k
def f_X3_advance_2_b96 (N : Nat) (t1 : Int32) (σ : Sg) : Option (Sg) :=
if ¬ (t1 = 0 ∨ t1 = 1) then none else
bd (wr σ 2 8 t1) fun σ5 =>
if (σ5 2 6) < (σ5 2 4) then ((f_X3_isDigit_2 N (σ5 2 6) σ5).bind fun q6 =>
if q6.1 = 0 then ((f_X3_takeName_2 N (q6.2)).bind fun q7 =>
some q7)
else ((f_X3_takeNumber_2 N (q6.2)).bind fun q8 =>
some q8))
else (bd (wr σ5 2 5 (0 : Int32)) fun σ9 =>
some σ9)
set_option maxHeartbeats 4000000 in
set_option maxRecDepth 100000 in
theorem b_X3_advance_2_b96 {N : Nat} {t1 : Int32} {σ : Sg} {z : Sg} (C : Cx p s m args meth c cX3_advance 1 none RX3 g A X) (hf : f_X3_advance_2_b96 N t1 σ = some z) : Bk cw p l e rm_X3_advance_2 s m args below meth c 1 g A (MQ below (qV cw g A z) args s 0 0 A) 0 0 96 [(0, .ref (g.2.2 2))] [.int t1, .ref (g.2.2 2)] σ := by
  obtain ⟨hx, hb, hr, hml, hown, hts, hK, hlocks, hXX, hA, hXo⟩ := id C
  intro H locs ls hP hD hS hl
  unfold f_X3_advance_2_b96 at hf
  obtain ⟨g4, hf⟩ := gd_s hf
  obtain ⟨σ5, eσ5, hf⟩ := bd_s hf
  refine bk_put (wf := cw) (σ1 := σ5) (q0 := 2) (ci := 3) (k := 8) (v := .int t1) C hP hD hS wl_X3 tyX3_ok nmX3 rfl rfl (by decide) wa_59 rfl rfl rfl (zn_n (Decidable.not_not.mp g4)) (zn_f (Decidable.not_not.mp g4)) (Nat.le_of_ble_eq_true rfl) (by rw [eσ5]; exact cw_p2_8 g _ _) dX3_advance_96 (fun H locs hP hD hS => ?_)
  refine lv_aload_n hx hb dX3_advance_99 rfl (lv_at hl 0 rfl) ?_
  refine bk_get (wf := cw) (q0 := 2) (ci := 3) (k := 6) (v := .int (σ5 2 6)) C hP wl_X3 rfl rfl (by decide) wa_57 rfl rfl dX3_advance_100 ?_
  refine lv_aload_n hx hb dX3_advance_103 rfl (lv_at hl 0 rfl) ?_
  refine bk_get (wf := cw) (q0 := 2) (ci := 3) (k := 4) (v := .int (σ5 2 4)) C hP wl_X3 rfl rfl (by decide) wa_54 rfl rfl dX3_advance_104 ?_
  refine lv_icmp_lt (tgt := 120) hx hb dX3_advance_107 (by decide) (fun t107 => ?_) (fun t107 => ?_)
  · have hf := (if_pos t107).symm.trans hf
    refine lv_aload_n hx hb dX3_advance_120 rfl (lv_at hl 0 rfl) ?_
    refine lv_aload_n hx hb dX3_advance_121 rfl (lv_at hl 0 rfl) ?_
    refine bk_get (wf := cw) (q0 := 2) (ci := 3) (k := 6) (v := .int (σ5 2 6)) C hP wl_X3 rfl rfl (by decide) wa_57 rfl rfl dX3_advance_122 ?_
    obtain ⟨q6, hq6, hf⟩ := bi_s hf
    refine bk_VI (wf := cw) (q0 := 2) (ci := 3) (rest := []) [.int (σ5 2 6)] C hP hD hS hl.1 (c_X3_isDigit_2 hXo hq6) (cwA_V 1 hts wa_249 wa_246 wa_247 wa_248 wa_18 rfl rfl nd_X3_isDigit ⟨Nat.le_of_ble_eq_true rfl, Nat.le_of_ble_eq_true rfl⟩) rfl rfl rfl rfl (Nat.le_of_ble_eq_true rfl) dX3_advance_125 ⟨Nat.le_of_ble_eq_true rfl, Nat.le_of_ble_eq_true rfl⟩ (fun H locs hP hD hS => ?_)
    refine lv_if_eq (tgt := 138) hx hb dX3_advance_128 (by decide) (fun t128 => ?_) (fun t128 => ?_)
    · have hf := (if_pos t128).symm.trans hf
      refine lv_aload_n hx hb dX3_advance_138 rfl (lv_at hl 0 rfl) ?_
      obtain ⟨q7, hq7, hf⟩ := bi_s hf
      refine bk_VV (wf := cw) (q0 := 2) (ci := 3) (rest := []) [] C hP hD hS hl.1 (c_X3_takeName_2 hXo hq7) (cwA_V 0 hts wa_258 wa_255 wa_256 wa_257 wa_18 rfl rfl nd_X3_takeName ⟨Nat.le_of_ble_eq_true rfl, Nat.le_of_ble_eq_true rfl⟩) rfl rfl rfl rfl (Nat.le_of_ble_eq_true rfl) dX3_advance_139 ⟨Nat.le_of_ble_eq_true rfl, Nat.le_of_ble_eq_true rfl⟩ (fun H locs hP hD hS => ?_)
      cases hf
      exact bk_vret C hP hD hS rfl dX3_advance_142
    · have hf := (if_neg t128).symm.trans hf
      refine lv_aload_n hx hb dX3_advance_131 rfl (lv_at hl 0 rfl) ?_
      obtain ⟨q8, hq8, hf⟩ := bi_s hf
      refine bk_VV (wf := cw) (q0 := 2) (ci := 3) (rest := []) [] C hP hD hS hl.1 (c_X3_takeNumber_2 hXo hq8) (cwA_V 0 hts wa_253 wa_250 wa_251 wa_252 wa_18 rfl rfl nd_X3_takeNumber ⟨Nat.le_of_ble_eq_true rfl, Nat.le_of_ble_eq_true rfl⟩) rfl rfl rfl rfl (Nat.le_of_ble_eq_true rfl) dX3_advance_132 ⟨Nat.le_of_ble_eq_true rfl, Nat.le_of_ble_eq_true rfl⟩ (fun H locs hP hD hS => ?_)
      refine lv_goto (tgt := 142) hx hb dX3_advance_135 (by decide) ?_
      cases hf
      exact bk_vret C hP hD hS rfl dX3_advance_142
  · have hf := (if_neg t107).symm.trans hf
    refine lv_aload_n hx hb dX3_advance_110 rfl (lv_at hl 0 rfl) ?_
    refine va_gets (v := .ref (g.2.2 (300 + (0 : Int32).toNatClampNeg))) hx hb (tok_Z (hXo.2.2.2 _ _ _ hXX).2.2.2.2.2.1 0 "END" (by decide) (by decide) rfl) hS hown (hts _ wa_55) (fun _ h => h) dX3_advance_111 ?_
    obtain ⟨σ9, eσ9, hf⟩ := bd_s hf
    refine bk_put (wf := cw) (σ1 := σ9) (q0 := 2) (ci := 3) (k := 5) (v := .ref (g.2.2 (300 + (0 : Int32).toNatClampNeg))) C hP hD hS wl_X3 tyX3_ok nmX3 rfl rfl (by decide) wa_56 rfl rfl rfl rfl rfl (Nat.le_of_ble_eq_true rfl) (by rw [eσ9]; exact cw_p2_5 g _ _) dX3_advance_114 (fun H locs hP hD hS => ?_)
    refine lv_goto (tgt := 142) hx hb dX3_advance_117 (by decide) ?_
    cases hf
    exact bk_vret C hP hD hS rfl dX3_advance_142
def f_X3_advance_2_b95 (N : Nat) (σ : Sg) : Option (Sg) :=
f_X3_advance_2_b96 N (0 : Int32) σ
set_option maxHeartbeats 4000000 in
set_option maxRecDepth 100000 in
theorem b_X3_advance_2_b95 {N : Nat} {σ : Sg} {z : Sg} (C : Cx p s m args meth c cX3_advance 1 none RX3 g A X) (hf : f_X3_advance_2_b95 N σ = some z) : Bk cw p l e rm_X3_advance_2 s m args below meth c 1 g A (MQ below (qV cw g A z) args s 0 0 A) 0 0 95 [(0, .ref (g.2.2 2))] [.ref (g.2.2 2)] σ := by
  obtain ⟨hx, hb, hr, hml, hown, hts, hK, hlocks, hXX, hA, hXo⟩ := id C
  intro H locs ls hP hD hS hl
  unfold f_X3_advance_2_b95 at hf
  refine lv_iconst (v := (0 : Int32)) hx hb dX3_advance_95 (by decide) ?_
  exact b_X3_advance_2_b96 C hf H locs ls hP hD hS (lv_sub hl [0] rfl)
def f_X3_advance_2 (N : Nat) (σ : Sg) : Option (Sg) :=
bd (wr σ 2 6 (σ 2 7)) fun σ10 =>
(it (fun q => s_X3_advance_2_h8 N q) N (σ10)).bind fun z11 =>
bd (wr (z11.2) 2 7 ((z11.2) 2 6)) fun σ12 =>
if (σ12 2 4) ≤ (σ12 2 6) then (f_X3_advance_2_b95 N σ12)
else ((f_X3_isLetter_2 N (σ12 2 6) σ12).bind fun q13 =>
if q13.1 = 0 then (f_X3_advance_2_b95 N (q13.2))
else (f_X3_advance_2_b96 N (1 : Int32) (q13.2)))
set_option maxHeartbeats 4000000 in
set_option maxRecDepth 100000 in
theorem b_X3_advance_2 {N : Nat} {σ : Sg} {z : Sg} (C : Cx p s m args meth c cX3_advance 1 none RX3 g A X) (hf : f_X3_advance_2 N σ = some z) : Bk cw p l e rm_X3_advance_2 s m args below meth c 1 g A (MQ below (qV cw g A z) args s 0 0 A) 0 0 0 [(0, .ref (g.2.2 2))] [] σ := by
  obtain ⟨hx, hb, hr, hml, hown, hts, hK, hlocks, hXX, hA, hXo⟩ := id C
  intro H locs ls hP hD hS hl
  unfold f_X3_advance_2 at hf
  refine lv_aload_n hx hb dX3_advance_0 rfl (lv_at hl 0 rfl) ?_
  refine lv_aload_n hx hb dX3_advance_1 rfl (lv_at hl 0 rfl) ?_
  refine bk_get (wf := cw) (q0 := 2) (ci := 3) (k := 7) (v := .int (σ 2 7)) C hP wl_X3 rfl rfl (by decide) wa_58 rfl rfl dX3_advance_2 ?_
  obtain ⟨σ10, eσ10, hf⟩ := bd_s hf
  refine bk_put (wf := cw) (σ1 := σ10) (q0 := 2) (ci := 3) (k := 6) (v := .int (σ 2 7)) C hP hD hS wl_X3 tyX3_ok nmX3 rfl rfl (by decide) wa_57 rfl rfl rfl rfl rfl (Nat.le_of_ble_eq_true rfl) (by rw [eσ10]; exact cw_p2_6 g _ _) dX3_advance_5 (fun H locs hP hD hS => ?_)
  obtain ⟨z11, hz11, hf⟩ := bi_s hf
  refine lp_X3_advance_2_h8 C hz11 ?_ H locs ls hP hD hS (lv_sub hl [0] rfl)
  intro H locs ls hP hD hS hl
  refine lv_aload_n hx hb dX3_advance_60 rfl (lv_at hl 0 rfl) ?_
  refine lv_aload_n hx hb dX3_advance_61 rfl (lv_at hl 0 rfl) ?_
  refine bk_get (wf := cw) (q0 := 2) (ci := 3) (k := 6) (v := .int ((z11.2) 2 6)) C hP wl_X3 rfl rfl (by decide) wa_57 rfl rfl dX3_advance_62 ?_
  obtain ⟨σ12, eσ12, hf⟩ := bd_s hf
  refine bk_put (wf := cw) (σ1 := σ12) (q0 := 2) (ci := 3) (k := 7) (v := .int ((z11.2) 2 6)) C hP hD hS wl_X3 tyX3_ok nmX3 rfl rfl (by decide) wa_58 rfl rfl rfl rfl rfl (Nat.le_of_ble_eq_true rfl) (by rw [eσ12]; exact cw_p2_7 g _ _) dX3_advance_65 (fun H locs hP hD hS => ?_)
  refine lv_aload_n hx hb dX3_advance_68 rfl (lv_at hl 0 rfl) ?_
  refine lv_aload_n hx hb dX3_advance_69 rfl (lv_at hl 0 rfl) ?_
  refine bk_get (wf := cw) (q0 := 2) (ci := 3) (k := 6) (v := .int (σ12 2 6)) C hP wl_X3 rfl rfl (by decide) wa_57 rfl rfl dX3_advance_70 ?_
  refine lv_aload_n hx hb dX3_advance_73 rfl (lv_at hl 0 rfl) ?_
  refine bk_get (wf := cw) (q0 := 2) (ci := 3) (k := 4) (v := .int (σ12 2 4)) C hP wl_X3 rfl rfl (by decide) wa_54 rfl rfl dX3_advance_74 ?_
  refine lv_icmp_ge (tgt := 95) hx hb dX3_advance_77 (by decide) (fun t77 => ?_) (fun t77 => ?_)
  · have hf := (if_pos t77).symm.trans hf
    exact b_X3_advance_2_b95 C hf H locs ls hP hD hS (lv_sub hl [0] rfl)
  · have hf := (if_neg t77).symm.trans hf
    refine lv_aload_n hx hb dX3_advance_80 rfl (lv_at hl 0 rfl) ?_
    refine lv_aload_n hx hb dX3_advance_81 rfl (lv_at hl 0 rfl) ?_
    refine bk_get (wf := cw) (q0 := 2) (ci := 3) (k := 6) (v := .int (σ12 2 6)) C hP wl_X3 rfl rfl (by decide) wa_57 rfl rfl dX3_advance_82 ?_
    obtain ⟨q13, hq13, hf⟩ := bi_s hf
    refine bk_VI (wf := cw) (q0 := 2) (ci := 3) (rest := [.ref (g.2.2 2)]) [.int (σ12 2 6)] C hP hD hS hl.1 (c_X3_isLetter_2 hXo hq13) (cwA_V 1 hts wa_245 wa_242 wa_243 wa_244 wa_18 rfl rfl nd_X3_isLetter ⟨Nat.le_of_ble_eq_true rfl, Nat.le_of_ble_eq_true rfl⟩) rfl rfl rfl rfl (Nat.le_of_ble_eq_true rfl) dX3_advance_85 ⟨Nat.le_of_ble_eq_true rfl, Nat.le_of_ble_eq_true rfl⟩ (fun H locs hP hD hS => ?_)
    refine lv_if_eq (tgt := 95) hx hb dX3_advance_88 (by decide) (fun t88 => ?_) (fun t88 => ?_)
    · have hf := (if_pos t88).symm.trans hf
      exact b_X3_advance_2_b95 C hf H locs ls hP hD hS (lv_sub hl [0] rfl)
    · have hf := (if_neg t88).symm.trans hf
      refine lv_iconst (v := (1 : Int32)) hx hb dX3_advance_91 (by decide) ?_
      refine lv_goto (tgt := 96) hx hb dX3_advance_92 (by decide) ?_
      exact b_X3_advance_2_b96 C hf H locs ls hP hD hS (lv_sub hl [0] rfl)
theorem c_X3_advance_2 {N : Nat} {σ : Sg} {z : Sg} (hX : xOK g X) (hf : f_X3_advance_2 N σ = some z) : MetV l yX3_advance (Cond.code yX3_advance cX3_advance 1 none :: wsA) rm_X3_advance_2 cw g X [.ref (g.2.2 2)] σ z :=
  MetV_of hX (by decide) (Nat.le_of_ble_eq_true rfl) (fun p e s m args below meth c A C => b_X3_advance_2 C hf)
-- X3_fails_2: fails(I)Z
abbrev rm_X3_fails_2 : Room := { frames := 0, cells := 0, slots := 0, locals := 0 }
theorem nd_X3_fails : yX3_fails.cls ≠ "java/lang/invoke/MethodHandle" ∧ yX3_fails.cls ≠ "java/lang/invoke/VarHandle" ∧ (parseMethodDescriptor yX3_fails.desc).map (fun d => d.parameters.length) = some 1 := by decide +kernel
def f_X3_fails_2 (N : Nat) (x1 : Int32) (σ : Sg) : Option (Int32 × Sg) :=
bd (wr σ 2 1 x1) fun σ1 =>
bd (wr σ1 2 2 (σ1 2 6)) fun σ2 =>
some ((0 : Int32), σ2)
set_option maxHeartbeats 4000000 in
set_option maxRecDepth 100000 in
theorem b_X3_fails_2 {N : Nat} {x1 : Int32} {σ : Sg} {z : Int32 × Sg} (C : Cx p s m args meth c cX3_fails 2 (some .boolean) RX3 g A X) (hf : f_X3_fails_2 N x1 σ = some z) : Bk cw p l e rm_X3_fails_2 s m args below meth c 2 g A (MQ below (qI cw g A z.1 z.2) args s 0 0 A) 0 0 0 [(0, .ref (g.2.2 2)), (1, .int x1)] [] σ := by
  obtain ⟨hx, hb, hr, hml, hown, hts, hK, hlocks, hXX, hA, hXo⟩ := id C
  intro H locs ls hP hD hS hl
  unfold f_X3_fails_2 at hf
  refine lv_aload_n hx hb dX3_fails_0 rfl (lv_at hl 0 rfl) ?_
  refine lv_iload_n hx hb dX3_fails_1 rfl (lv_at hl 1 rfl) ?_
  obtain ⟨σ1, eσ1, hf⟩ := bd_s hf
  refine bk_put (wf := cw) (σ1 := σ1) (q0 := 2) (ci := 3) (k := 1) (v := .int x1) C hP hD hS wl_X3 tyX3_ok nmX3 rfl rfl (by decide) wa_52 rfl rfl rfl rfl rfl (Nat.le_of_ble_eq_true rfl) (by rw [eσ1]; exact cw_p2_1 g _ _) dX3_fails_2 (fun H locs hP hD hS => ?_)
  refine lv_aload_n hx hb dX3_fails_5 rfl (lv_at hl 0 rfl) ?_
  refine lv_aload_n hx hb dX3_fails_6 rfl (lv_at hl 0 rfl) ?_
  refine bk_get (wf := cw) (q0 := 2) (ci := 3) (k := 6) (v := .int (σ1 2 6)) C hP wl_X3 rfl rfl (by decide) wa_57 rfl rfl dX3_fails_7 ?_
  obtain ⟨σ2, eσ2, hf⟩ := bd_s hf
  refine bk_put (wf := cw) (σ1 := σ2) (q0 := 2) (ci := 3) (k := 2) (v := .int (σ1 2 6)) C hP hD hS wl_X3 tyX3_ok nmX3 rfl rfl (by decide) wa_53 rfl rfl rfl rfl rfl (Nat.le_of_ble_eq_true rfl) (by rw [eσ2]; exact cw_p2_2 g _ _) dX3_fails_10 (fun H locs hP hD hS => ?_)
  refine lv_iconst (v := (0 : Int32)) hx hb dX3_fails_13 (by decide) ?_
  cases hf
  exact bk_zret C hP hD hS (by decide) rfl dX3_fails_14
theorem c_X3_fails_2 {N : Nat} {x1 : Int32} {σ : Sg} {z : Int32 × Sg} (hX : xOK g X) (hf : f_X3_fails_2 N x1 σ = some z) : MetI l yX3_fails (Cond.code yX3_fails cX3_fails 2 (some .boolean) :: wsA) rm_X3_fails_2 cw g X [.ref (g.2.2 2), .int x1] σ z.1 z.2 :=
  MetI_of hX (by decide) (Nat.le_of_ble_eq_true rfl) (fun p e s m args below meth c A C => b_X3_fails_2 C hf)
-- X3_endsLine_2: endsLine()Z
abbrev rm_X3_endsLine_2 : Room := { frames := 7, cells := 0, slots := 0, locals := 150 }
theorem nd_X3_endsLine : yX3_endsLine.cls ≠ "java/lang/invoke/MethodHandle" ∧ yX3_endsLine.cls ≠ "java/lang/invoke/VarHandle" ∧ (parseMethodDescriptor yX3_endsLine.desc).map (fun d => d.parameters.length) = some 0 := by decide +kernel
def f_X3_endsLine_2 (N : Nat) (σ : Sg) : Option (Int32 × Sg) :=
if ((σ 2 5) < 0 ∨ 27 ≤ (σ 2 5).toNatClampNeg) then none else
if (σ 2 5) = (4 : Int32) then ((f_X3_advance_2 N σ).bind fun q2 =>
some ((1 : Int32), q2))
else ((f_X3_fails_2 N (1 : Int32) σ).bind fun q3 =>
if ¬ (q3.1 = 0 ∨ q3.1 = 1) then none else some (q3.1, (q3.2)))
set_option maxHeartbeats 4000000 in
set_option maxRecDepth 100000 in
theorem b_X3_endsLine_2 {N : Nat} {σ : Sg} {z : Int32 × Sg} (C : Cx p s m args meth c cX3_endsLine 1 (some .boolean) RX3 g A X) (hf : f_X3_endsLine_2 N σ = some z) : Bk cw p l e rm_X3_endsLine_2 s m args below meth c 1 g A (MQ below (qI cw g A z.1 z.2) args s 0 0 A) 0 0 0 [(0, .ref (g.2.2 2))] [] σ := by
  obtain ⟨hx, hb, hr, hml, hown, hts, hK, hlocks, hXX, hA, hXo⟩ := id C
  intro H locs ls hP hD hS hl
  unfold f_X3_endsLine_2 at hf
  refine lv_aload_n hx hb dX3_endsLine_0 rfl (lv_at hl 0 rfl) ?_
  refine bk_get (wf := cw) (q0 := 2) (ci := 3) (k := 5) (v := .ref (g.2.2 (300 + (σ 2 5).toNatClampNeg))) C hP wl_X3 rfl rfl (by decide) wa_56 rfl rfl dX3_endsLine_1 ?_
  refine va_gets (v := .ref (g.2.2 (300 + (4 : Int32).toNatClampNeg))) hx hb (tok_Z (hXo.2.2.2 _ _ _ hXX).2.2.2.2.2.1 4 "SEMICOLON" (by decide) (by decide) rfl) hS hown (hts _ wa_360) (fun _ h => h) dX3_endsLine_4 ?_
  obtain ⟨g1, hf⟩ := gd_s hf
  refine bk_acq (tgt := 16) C g1 (vin_l (by decide) (by decide)) dX3_endsLine_7 (by decide) (fun t7 => ?_) (fun t7 => ?_)
  · have hf := (if_pos t7).symm.trans hf
    refine lv_aload_n hx hb dX3_endsLine_16 rfl (lv_at hl 0 rfl) ?_
    obtain ⟨q2, hq2, hf⟩ := bi_s hf
    refine bk_VV (wf := cw) (q0 := 2) (ci := 3) (rest := []) [] C hP hD hS hl.1 (c_X3_advance_2 hXo hq2) (cwA_V 0 hts wa_241 wa_238 wa_239 wa_240 wa_18 rfl rfl nd_X3_advance ⟨Nat.le_of_ble_eq_true rfl, Nat.le_of_ble_eq_true rfl⟩) rfl rfl rfl rfl (Nat.le_of_ble_eq_true rfl) dX3_endsLine_17 ⟨Nat.le_of_ble_eq_true rfl, Nat.le_of_ble_eq_true rfl⟩ (fun H locs hP hD hS => ?_)
    refine lv_iconst (v := (1 : Int32)) hx hb dX3_endsLine_20 (by decide) ?_
    cases hf
    exact bk_zret C hP hD hS (by decide) rfl dX3_endsLine_21
  · have hf := (if_neg t7).symm.trans hf
    refine lv_aload_n hx hb dX3_endsLine_10 rfl (lv_at hl 0 rfl) ?_
    refine lv_iconst (v := (1 : Int32)) hx hb dX3_endsLine_11 (by decide) ?_
    obtain ⟨q3, hq3, hf⟩ := bi_s hf
    refine bk_VI (wf := cw) (q0 := 2) (ci := 3) (rest := []) [.int (1 : Int32)] C hP hD hS hl.1 (c_X3_fails_2 hXo hq3) (cwA_V 1 hts wa_343 wa_340 wa_341 wa_342 wa_18 rfl rfl nd_X3_fails ⟨Nat.le_of_ble_eq_true rfl, Nat.le_of_ble_eq_true rfl⟩) rfl rfl rfl rfl (Nat.le_of_ble_eq_true rfl) dX3_endsLine_12 ⟨Nat.le_of_ble_eq_true rfl, Nat.le_of_ble_eq_true rfl⟩ (fun H locs hP hD hS => ?_)
    obtain ⟨g4, hf⟩ := gd_s hf
    cases hf
    exact bk_zret C hP hD hS (Decidable.not_not.mp g4) rfl dX3_endsLine_15
theorem c_X3_endsLine_2 {N : Nat} {σ : Sg} {z : Int32 × Sg} (hX : xOK g X) (hf : f_X3_endsLine_2 N σ = some z) : MetI l yX3_endsLine (Cond.code yX3_endsLine cX3_endsLine 1 (some .boolean) :: wsA) rm_X3_endsLine_2 cw g X [.ref (g.2.2 2)] σ z.1 z.2 :=
  MetI_of hX (by decide) (Nat.le_of_ble_eq_true rfl) (fun p e s m args below meth c A C => b_X3_endsLine_2 C hf)
-- X3_isNumber_2: isNumber(II)Z
abbrev rm_X3_isNumber_2 : Room := { frames := 1, cells := 0, slots := 0, locals := 21 }
theorem nd_X3_isNumber : yX3_isNumber.cls ≠ "java/lang/invoke/MethodHandle" ∧ yX3_isNumber.cls ≠ "java/lang/invoke/VarHandle" ∧ (parseMethodDescriptor yX3_isNumber.desc).map (fun d => d.parameters.length) = some 2 := by decide +kernel
def f_X3_isNumber_2_b40 (N : Nat) (σ : Sg) : Option (Int32 × Sg) :=
(f_X3_fails_2 N (2 : Int32) σ).bind fun q1 =>
if ¬ (q1.1 = 0 ∨ q1.1 = 1) then none else some (q1.1, (q1.2))
set_option maxHeartbeats 4000000 in
set_option maxRecDepth 100000 in
theorem b_X3_isNumber_2_b40 {N : Nat} {σ : Sg} {z : Int32 × Sg} (C : Cx p s m args meth c cX3_isNumber 3 (some .boolean) RX3 g A X) (hf : f_X3_isNumber_2_b40 N σ = some z) : Bk cw p l e rm_X3_isNumber_2 s m args below meth c 3 g A (MQ below (qI cw g A z.1 z.2) args s 0 0 A) 0 0 40 [(0, .ref (g.2.2 2))] [] σ := by
  obtain ⟨hx, hb, hr, hml, hown, hts, hK, hlocks, hXX, hA, hXo⟩ := id C
  intro H locs ls hP hD hS hl
  unfold f_X3_isNumber_2_b40 at hf
  refine lv_aload_n hx hb dX3_isNumber_40 rfl (lv_at hl 0 rfl) ?_
  refine lv_iconst (v := (2 : Int32)) hx hb dX3_isNumber_41 (by decide) ?_
  obtain ⟨q1, hq1, hf⟩ := bi_s hf
  refine bk_VI (wf := cw) (q0 := 2) (ci := 3) (rest := []) [.int (2 : Int32)] C hP hD hS hl.1 (c_X3_fails_2 hXo hq1) (cwA_V 1 hts wa_343 wa_340 wa_341 wa_342 wa_18 rfl rfl nd_X3_fails ⟨Nat.le_of_ble_eq_true rfl, Nat.le_of_ble_eq_true rfl⟩) rfl rfl rfl rfl (Nat.le_of_ble_eq_true rfl) dX3_isNumber_42 ⟨Nat.le_of_ble_eq_true rfl, Nat.le_of_ble_eq_true rfl⟩ (fun H locs hP hD hS => ?_)
  obtain ⟨g2, hf⟩ := gd_s hf
  cases hf
  exact bk_zret C hP hD hS (Decidable.not_not.mp g2) rfl dX3_isNumber_45
def f_X3_isNumber_2 (N : Nat) (x1 : Int32) (x2 : Int32) (σ : Sg) : Option (Int32 × Sg) :=
if ((σ 2 5) < 0 ∨ 27 ≤ (σ 2 5).toNatClampNeg) then none else
if (σ 2 5) = (2 : Int32) then (if (4 : Int32) < (σ 2 9) then (f_X3_isNumber_2_b40 N σ)
else (if (σ 2 10) < x1 then (f_X3_isNumber_2_b40 N σ)
else (if (σ 2 10) ≤ x2 then (some ((1 : Int32), σ))
else (f_X3_isNumber_2_b40 N σ))))
else ((f_X3_fails_2 N (1 : Int32) σ).bind fun q4 =>
if ¬ (q4.1 = 0 ∨ q4.1 = 1) then none else some (q4.1, (q4.2)))
set_option maxHeartbeats 4000000 in
set_option maxRecDepth 100000 in
theorem b_X3_isNumber_2 {N : Nat} {x1 : Int32} {x2 : Int32} {σ : Sg} {z : Int32 × Sg} (C : Cx p s m args meth c cX3_isNumber 3 (some .boolean) RX3 g A X) (hf : f_X3_isNumber_2 N x1 x2 σ = some z) : Bk cw p l e rm_X3_isNumber_2 s m args below meth c 3 g A (MQ below (qI cw g A z.1 z.2) args s 0 0 A) 0 0 0 [(0, .ref (g.2.2 2)), (1, .int x1), (2, .int x2)] [] σ := by
  obtain ⟨hx, hb, hr, hml, hown, hts, hK, hlocks, hXX, hA, hXo⟩ := id C
  intro H locs ls hP hD hS hl
  unfold f_X3_isNumber_2 at hf
  refine lv_aload_n hx hb dX3_isNumber_0 rfl (lv_at hl 0 rfl) ?_
  refine bk_get (wf := cw) (q0 := 2) (ci := 3) (k := 5) (v := .ref (g.2.2 (300 + (σ 2 5).toNatClampNeg))) C hP wl_X3 rfl rfl (by decide) wa_56 rfl rfl dX3_isNumber_1 ?_
  refine va_gets (v := .ref (g.2.2 (300 + (2 : Int32).toNatClampNeg))) hx hb (tok_Z (hXo.2.2.2 _ _ _ hXX).2.2.2.2.2.1 2 "NUMBER" (by decide) (by decide) rfl) hS hown (hts _ wa_254) (fun _ h => h) dX3_isNumber_4 ?_
  obtain ⟨g3, hf⟩ := gd_s hf
  refine bk_acq (tgt := 16) C g3 (vin_l (by decide) (by decide)) dX3_isNumber_7 (by decide) (fun t7 => ?_) (fun t7 => ?_)
  · have hf := (if_pos t7).symm.trans hf
    refine lv_aload_n hx hb dX3_isNumber_16 rfl (lv_at hl 0 rfl) ?_
    refine bk_get (wf := cw) (q0 := 2) (ci := 3) (k := 9) (v := .int (σ 2 9)) C hP wl_X3 rfl rfl (by decide) wa_60 rfl rfl dX3_isNumber_17 ?_
    refine lv_iconst (v := (4 : Int32)) hx hb dX3_isNumber_20 (by decide) ?_
    refine lv_icmp_gt (tgt := 40) hx hb dX3_isNumber_21 (by decide) (fun t21 => ?_) (fun t21 => ?_)
    · have hf := (if_pos t21).symm.trans hf
      exact b_X3_isNumber_2_b40 C hf H locs ls hP hD hS (lv_sub hl [0] rfl)
    · have hf := (if_neg t21).symm.trans hf
      refine lv_aload_n hx hb dX3_isNumber_24 rfl (lv_at hl 0 rfl) ?_
      refine bk_get (wf := cw) (q0 := 2) (ci := 3) (k := 10) (v := .int (σ 2 10)) C hP wl_X3 rfl rfl (by decide) wa_61 rfl rfl dX3_isNumber_25 ?_
      refine lv_iload_n hx hb dX3_isNumber_28 rfl (lv_at hl 1 rfl) ?_
      refine lv_icmp_lt (tgt := 40) hx hb dX3_isNumber_29 (by decide) (fun t29 => ?_) (fun t29 => ?_)
      · have hf := (if_pos t29).symm.trans hf
        exact b_X3_isNumber_2_b40 C hf H locs ls hP hD hS (lv_sub hl [0] rfl)
      · have hf := (if_neg t29).symm.trans hf
        refine lv_aload_n hx hb dX3_isNumber_32 rfl (lv_at hl 0 rfl) ?_
        refine bk_get (wf := cw) (q0 := 2) (ci := 3) (k := 10) (v := .int (σ 2 10)) C hP wl_X3 rfl rfl (by decide) wa_61 rfl rfl dX3_isNumber_33 ?_
        refine lv_iload_n hx hb dX3_isNumber_36 rfl (lv_at hl 2 rfl) ?_
        refine lv_icmp_le (tgt := 46) hx hb dX3_isNumber_37 (by decide) (fun t37 => ?_) (fun t37 => ?_)
        · have hf := (if_pos t37).symm.trans hf
          refine lv_iconst (v := (1 : Int32)) hx hb dX3_isNumber_46 (by decide) ?_
          cases hf
          exact bk_zret C hP hD hS (by decide) rfl dX3_isNumber_47
        · have hf := (if_neg t37).symm.trans hf
          exact b_X3_isNumber_2_b40 C hf H locs ls hP hD hS (lv_sub hl [0] rfl)
  · have hf := (if_neg t7).symm.trans hf
    refine lv_aload_n hx hb dX3_isNumber_10 rfl (lv_at hl 0 rfl) ?_
    refine lv_iconst (v := (1 : Int32)) hx hb dX3_isNumber_11 (by decide) ?_
    obtain ⟨q4, hq4, hf⟩ := bi_s hf
    refine bk_VI (wf := cw) (q0 := 2) (ci := 3) (rest := []) [.int (1 : Int32)] C hP hD hS hl.1 (c_X3_fails_2 hXo hq4) (cwA_V 1 hts wa_343 wa_340 wa_341 wa_342 wa_18 rfl rfl nd_X3_fails ⟨Nat.le_of_ble_eq_true rfl, Nat.le_of_ble_eq_true rfl⟩) rfl rfl rfl rfl (Nat.le_of_ble_eq_true rfl) dX3_isNumber_12 ⟨Nat.le_of_ble_eq_true rfl, Nat.le_of_ble_eq_true rfl⟩ (fun H locs hP hD hS => ?_)
    obtain ⟨g5, hf⟩ := gd_s hf
    cases hf
    exact bk_zret C hP hD hS (Decidable.not_not.mp g5) rfl dX3_isNumber_15
theorem c_X3_isNumber_2 {N : Nat} {x1 : Int32} {x2 : Int32} {σ : Sg} {z : Int32 × Sg} (hX : xOK g X) (hf : f_X3_isNumber_2 N x1 x2 σ = some z) : MetI l yX3_isNumber (Cond.code yX3_isNumber cX3_isNumber 3 (some .boolean) :: wsA) rm_X3_isNumber_2 cw g X [.ref (g.2.2 2), .int x1, .int x2] σ z.1 z.2 :=
  MetI_of hX (by decide) (Nat.le_of_ble_eq_true rfl) (fun p e s m args below meth c A C => b_X3_isNumber_2 C hf)
-- X3_readsSight_2: readsSight()Z
abbrev rm_X3_readsSight_2 : Room := { frames := 8, cells := 0, slots := 0, locals := 170 }
theorem nd_X3_readsSight : yX3_readsSight.cls ≠ "java/lang/invoke/MethodHandle" ∧ yX3_readsSight.cls ≠ "java/lang/invoke/VarHandle" ∧ (parseMethodDescriptor yX3_readsSight.desc).map (fun d => d.parameters.length) = some 0 := by decide +kernel
def f_X3_readsSight_2 (N : Nat) (σ : Sg) : Option (Int32 × Sg) :=
if (σ 2 11) = 0 then (bd (wr σ 2 11 (1 : Int32)) fun σ1 =>
(f_X3_advance_2 N σ1).bind fun q2 =>
(f_X3_isNumber_2 N (1 : Int32) (99 : Int32) q2).bind fun q3 =>
if q3.1 = 0 then (some ((0 : Int32), (q3.2)))
else (bd (wr (q3.2) 3 6 ((q3.2) 2 10)) fun σ4 =>
(f_X3_advance_2 N σ4).bind fun q5 =>
(f_X3_endsLine_2 N q5).bind fun q6 =>
if ¬ (q6.1 = 0 ∨ q6.1 = 1) then none else some (q6.1, (q6.2))))
else ((f_X3_fails_2 N (5 : Int32) σ).bind fun q8 =>
if ¬ (q8.1 = 0 ∨ q8.1 = 1) then none else some (q8.1, (q8.2)))
set_option maxHeartbeats 4000000 in
set_option maxRecDepth 100000 in
theorem b_X3_readsSight_2 {N : Nat} {σ : Sg} {z : Int32 × Sg} (C : Cx p s m args meth c cX3_readsSight 1 (some .boolean) RX3 g A X) (hf : f_X3_readsSight_2 N σ = some z) : Bk cw p l e rm_X3_readsSight_2 s m args below meth c 1 g A (MQ below (qI cw g A z.1 z.2) args s 0 0 A) 0 0 0 [(0, .ref (g.2.2 2))] [] σ := by
  obtain ⟨hx, hb, hr, hml, hown, hts, hK, hlocks, hXX, hA, hXo⟩ := id C
  intro H locs ls hP hD hS hl
  unfold f_X3_readsSight_2 at hf
  refine lv_aload_n hx hb dX3_readsSight_0 rfl (lv_at hl 0 rfl) ?_
  refine bk_get (wf := cw) (q0 := 2) (ci := 3) (k := 11) (v := .int (σ 2 11)) C hP wl_X3 rfl rfl (by decide) wa_62 rfl rfl dX3_readsSight_1 ?_
  refine lv_if_eq (tgt := 13) hx hb dX3_readsSight_4 (by decide) (fun t4 => ?_) (fun t4 => ?_)
  · have hf := (if_pos t4).symm.trans hf
    refine lv_aload_n hx hb dX3_readsSight_13 rfl (lv_at hl 0 rfl) ?_
    refine lv_iconst (v := (1 : Int32)) hx hb dX3_readsSight_14 (by decide) ?_
    obtain ⟨σ1, eσ1, hf⟩ := bd_s hf
    refine bk_put (wf := cw) (σ1 := σ1) (q0 := 2) (ci := 3) (k := 11) (v := .int (1 : Int32)) C hP hD hS wl_X3 tyX3_ok nmX3 rfl rfl (by decide) wa_62 rfl rfl rfl rfl rfl (Nat.le_of_ble_eq_true rfl) (by rw [eσ1]; exact cw_p2_11 g _ _) dX3_readsSight_15 (fun H locs hP hD hS => ?_)
    refine lv_aload_n hx hb dX3_readsSight_18 rfl (lv_at hl 0 rfl) ?_
    obtain ⟨q2, hq2, hf⟩ := bi_s hf
    refine bk_VV (wf := cw) (q0 := 2) (ci := 3) (rest := []) [] C hP hD hS hl.1 (c_X3_advance_2 hXo hq2) (cwA_V 0 hts wa_241 wa_238 wa_239 wa_240 wa_18 rfl rfl nd_X3_advance ⟨Nat.le_of_ble_eq_true rfl, Nat.le_of_ble_eq_true rfl⟩) rfl rfl rfl rfl (Nat.le_of_ble_eq_true rfl) dX3_readsSight_19 ⟨Nat.le_of_ble_eq_true rfl, Nat.le_of_ble_eq_true rfl⟩ (fun H locs hP hD hS => ?_)
    refine lv_aload_n hx hb dX3_readsSight_22 rfl (lv_at hl 0 rfl) ?_
    refine lv_iconst (v := (1 : Int32)) hx hb dX3_readsSight_23 (by decide) ?_
    refine lv_bipush (v := (99 : Int32)) hx hb dX3_readsSight_24 (by decide) ?_
    obtain ⟨q3, hq3, hf⟩ := bi_s hf
    refine bk_VI (wf := cw) (q0 := 2) (ci := 3) (rest := []) [.int (1 : Int32), .int (99 : Int32)] C hP hD hS hl.1 (c_X3_isNumber_2 hXo hq3) (cwA_V 2 hts wa_347 wa_344 wa_345 wa_346 wa_18 rfl rfl nd_X3_isNumber ⟨Nat.le_of_ble_eq_true rfl, Nat.le_of_ble_eq_true rfl⟩) rfl rfl rfl rfl (Nat.le_of_ble_eq_true rfl) dX3_readsSight_26 ⟨Nat.le_of_ble_eq_true rfl, Nat.le_of_ble_eq_true rfl⟩ (fun H locs hP hD hS => ?_)
    refine lv_if_ne (tgt := 34) hx hb dX3_readsSight_29 (by decide) (fun t29 => ?_) (fun t29 => ?_)
    · have hf := (if_neg t29).symm.trans hf
      refine lv_aload_n hx hb dX3_readsSight_34 rfl (lv_at hl 0 rfl) ?_
      refine bk_get (wf := cw) (q0 := 2) (ci := 3) (k := 0) (v := .ref (g.2.2 3)) C hP wl_X3 rfl rfl (by decide) wa_51 rfl rfl dX3_readsSight_35 ?_
      refine lv_aload_n hx hb dX3_readsSight_38 rfl (lv_at hl 0 rfl) ?_
      refine bk_get (wf := cw) (q0 := 2) (ci := 3) (k := 10) (v := .int ((q3.2) 2 10)) C hP wl_X3 rfl rfl (by decide) wa_61 rfl rfl dX3_readsSight_39 ?_
      obtain ⟨σ4, eσ4, hf⟩ := bd_s hf
      refine bk_put (wf := cw) (σ1 := σ4) (q0 := 3) (ci := 8) (k := 6) (v := .int ((q3.2) 2 10)) C hP hD hS wl_X9 tyX9_ok nmX9 rfl rfl (by decide) wa_371 rfl rfl rfl rfl rfl (Nat.le_of_ble_eq_true rfl) (by rw [eσ4]; exact cw_p3_6 g _ _) dX3_readsSight_42 (fun H locs hP hD hS => ?_)
      refine lv_aload_n hx hb dX3_readsSight_45 rfl (lv_at hl 0 rfl) ?_
      obtain ⟨q5, hq5, hf⟩ := bi_s hf
      refine bk_VV (wf := cw) (q0 := 2) (ci := 3) (rest := []) [] C hP hD hS hl.1 (c_X3_advance_2 hXo hq5) (cwA_V 0 hts wa_241 wa_238 wa_239 wa_240 wa_18 rfl rfl nd_X3_advance ⟨Nat.le_of_ble_eq_true rfl, Nat.le_of_ble_eq_true rfl⟩) rfl rfl rfl rfl (Nat.le_of_ble_eq_true rfl) dX3_readsSight_46 ⟨Nat.le_of_ble_eq_true rfl, Nat.le_of_ble_eq_true rfl⟩ (fun H locs hP hD hS => ?_)
      refine lv_aload_n hx hb dX3_readsSight_49 rfl (lv_at hl 0 rfl) ?_
      obtain ⟨q6, hq6, hf⟩ := bi_s hf
      refine bk_VI (wf := cw) (q0 := 2) (ci := 3) (rest := []) [] C hP hD hS hl.1 (c_X3_endsLine_2 hXo hq6) (cwA_V 0 hts wa_359 wa_356 wa_357 wa_358 wa_18 rfl rfl nd_X3_endsLine ⟨Nat.le_of_ble_eq_true rfl, Nat.le_of_ble_eq_true rfl⟩) rfl rfl rfl rfl (Nat.le_of_ble_eq_true rfl) dX3_readsSight_50 ⟨Nat.le_of_ble_eq_true rfl, Nat.le_of_ble_eq_true rfl⟩ (fun H locs hP hD hS => ?_)
      obtain ⟨g7, hf⟩ := gd_s hf
      cases hf
      exact bk_zret C hP hD hS (Decidable.not_not.mp g7) rfl dX3_readsSight_53
    · have hf := (if_pos t29).symm.trans hf
      refine lv_iconst (v := (0 : Int32)) hx hb dX3_readsSight_32 (by decide) ?_
      cases hf
      exact bk_zret C hP hD hS (by decide) rfl dX3_readsSight_33
  · have hf := (if_neg t4).symm.trans hf
    refine lv_aload_n hx hb dX3_readsSight_7 rfl (lv_at hl 0 rfl) ?_
    refine lv_iconst (v := (5 : Int32)) hx hb dX3_readsSight_8 (by decide) ?_
    obtain ⟨q8, hq8, hf⟩ := bi_s hf
    refine bk_VI (wf := cw) (q0 := 2) (ci := 3) (rest := []) [.int (5 : Int32)] C hP hD hS hl.1 (c_X3_fails_2 hXo hq8) (cwA_V 1 hts wa_343 wa_340 wa_341 wa_342 wa_18 rfl rfl nd_X3_fails ⟨Nat.le_of_ble_eq_true rfl, Nat.le_of_ble_eq_true rfl⟩) rfl rfl rfl rfl (Nat.le_of_ble_eq_true rfl) dX3_readsSight_9 ⟨Nat.le_of_ble_eq_true rfl, Nat.le_of_ble_eq_true rfl⟩ (fun H locs hP hD hS => ?_)
    obtain ⟨g9, hf⟩ := gd_s hf
    cases hf
    exact bk_zret C hP hD hS (Decidable.not_not.mp g9) rfl dX3_readsSight_12
theorem c_X3_readsSight_2 {N : Nat} {σ : Sg} {z : Int32 × Sg} (hX : xOK g X) (hf : f_X3_readsSight_2 N σ = some z) : MetI l yX3_readsSight (Cond.code yX3_readsSight cX3_readsSight 1 (some .boolean) :: wsA) rm_X3_readsSight_2 cw g X [.ref (g.2.2 2)] σ z.1 z.2 :=
  MetI_of hX (by decide) (Nat.le_of_ble_eq_true rfl) (fun p e s m args below meth c A C => b_X3_readsSight_2 C hf)
-- X3_readsRest_2: readsRest()Z
abbrev rm_X3_readsRest_2 : Room := { frames := 8, cells := 0, slots := 0, locals := 170 }
theorem nd_X3_readsRest : yX3_readsRest.cls ≠ "java/lang/invoke/MethodHandle" ∧ yX3_readsRest.cls ≠ "java/lang/invoke/VarHandle" ∧ (parseMethodDescriptor yX3_readsRest.desc).map (fun d => d.parameters.length) = some 0 := by decide +kernel
def f_X3_readsRest_2 (N : Nat) (σ : Sg) : Option (Int32 × Sg) :=
if (σ 2 12) = 0 then (bd (wr σ 2 12 (1 : Int32)) fun σ1 =>
(f_X3_advance_2 N σ1).bind fun q2 =>
(f_X3_isNumber_2 N (0 : Int32) (9 : Int32) q2).bind fun q3 =>
if q3.1 = 0 then (some ((0 : Int32), (q3.2)))
else (bd (wr (q3.2) 3 7 ((q3.2) 2 10)) fun σ4 =>
(f_X3_advance_2 N σ4).bind fun q5 =>
(f_X3_endsLine_2 N q5).bind fun q6 =>
if ¬ (q6.1 = 0 ∨ q6.1 = 1) then none else some (q6.1, (q6.2))))
else ((f_X3_fails_2 N (5 : Int32) σ).bind fun q8 =>
if ¬ (q8.1 = 0 ∨ q8.1 = 1) then none else some (q8.1, (q8.2)))
set_option maxHeartbeats 4000000 in
set_option maxRecDepth 100000 in
theorem b_X3_readsRest_2 {N : Nat} {σ : Sg} {z : Int32 × Sg} (C : Cx p s m args meth c cX3_readsRest 1 (some .boolean) RX3 g A X) (hf : f_X3_readsRest_2 N σ = some z) : Bk cw p l e rm_X3_readsRest_2 s m args below meth c 1 g A (MQ below (qI cw g A z.1 z.2) args s 0 0 A) 0 0 0 [(0, .ref (g.2.2 2))] [] σ := by
  obtain ⟨hx, hb, hr, hml, hown, hts, hK, hlocks, hXX, hA, hXo⟩ := id C
  intro H locs ls hP hD hS hl
  unfold f_X3_readsRest_2 at hf
  refine lv_aload_n hx hb dX3_readsRest_0 rfl (lv_at hl 0 rfl) ?_
  refine bk_get (wf := cw) (q0 := 2) (ci := 3) (k := 12) (v := .int (σ 2 12)) C hP wl_X3 rfl rfl (by decide) wa_63 rfl rfl dX3_readsRest_1 ?_
  refine lv_if_eq (tgt := 13) hx hb dX3_readsRest_4 (by decide) (fun t4 => ?_) (fun t4 => ?_)
  · have hf := (if_pos t4).symm.trans hf
    refine lv_aload_n hx hb dX3_readsRest_13 rfl (lv_at hl 0 rfl) ?_
    refine lv_iconst (v := (1 : Int32)) hx hb dX3_readsRest_14 (by decide) ?_
    obtain ⟨σ1, eσ1, hf⟩ := bd_s hf
    refine bk_put (wf := cw) (σ1 := σ1) (q0 := 2) (ci := 3) (k := 12) (v := .int (1 : Int32)) C hP hD hS wl_X3 tyX3_ok nmX3 rfl rfl (by decide) wa_63 rfl rfl rfl rfl rfl (Nat.le_of_ble_eq_true rfl) (by rw [eσ1]; exact cw_p2_12 g _ _) dX3_readsRest_15 (fun H locs hP hD hS => ?_)
    refine lv_aload_n hx hb dX3_readsRest_18 rfl (lv_at hl 0 rfl) ?_
    obtain ⟨q2, hq2, hf⟩ := bi_s hf
    refine bk_VV (wf := cw) (q0 := 2) (ci := 3) (rest := []) [] C hP hD hS hl.1 (c_X3_advance_2 hXo hq2) (cwA_V 0 hts wa_241 wa_238 wa_239 wa_240 wa_18 rfl rfl nd_X3_advance ⟨Nat.le_of_ble_eq_true rfl, Nat.le_of_ble_eq_true rfl⟩) rfl rfl rfl rfl (Nat.le_of_ble_eq_true rfl) dX3_readsRest_19 ⟨Nat.le_of_ble_eq_true rfl, Nat.le_of_ble_eq_true rfl⟩ (fun H locs hP hD hS => ?_)
    refine lv_aload_n hx hb dX3_readsRest_22 rfl (lv_at hl 0 rfl) ?_
    refine lv_iconst (v := (0 : Int32)) hx hb dX3_readsRest_23 (by decide) ?_
    refine lv_bipush (v := (9 : Int32)) hx hb dX3_readsRest_24 (by decide) ?_
    obtain ⟨q3, hq3, hf⟩ := bi_s hf
    refine bk_VI (wf := cw) (q0 := 2) (ci := 3) (rest := []) [.int (0 : Int32), .int (9 : Int32)] C hP hD hS hl.1 (c_X3_isNumber_2 hXo hq3) (cwA_V 2 hts wa_347 wa_344 wa_345 wa_346 wa_18 rfl rfl nd_X3_isNumber ⟨Nat.le_of_ble_eq_true rfl, Nat.le_of_ble_eq_true rfl⟩) rfl rfl rfl rfl (Nat.le_of_ble_eq_true rfl) dX3_readsRest_26 ⟨Nat.le_of_ble_eq_true rfl, Nat.le_of_ble_eq_true rfl⟩ (fun H locs hP hD hS => ?_)
    refine lv_if_ne (tgt := 34) hx hb dX3_readsRest_29 (by decide) (fun t29 => ?_) (fun t29 => ?_)
    · have hf := (if_neg t29).symm.trans hf
      refine lv_aload_n hx hb dX3_readsRest_34 rfl (lv_at hl 0 rfl) ?_
      refine bk_get (wf := cw) (q0 := 2) (ci := 3) (k := 0) (v := .ref (g.2.2 3)) C hP wl_X3 rfl rfl (by decide) wa_51 rfl rfl dX3_readsRest_35 ?_
      refine lv_aload_n hx hb dX3_readsRest_38 rfl (lv_at hl 0 rfl) ?_
      refine bk_get (wf := cw) (q0 := 2) (ci := 3) (k := 10) (v := .int ((q3.2) 2 10)) C hP wl_X3 rfl rfl (by decide) wa_61 rfl rfl dX3_readsRest_39 ?_
      obtain ⟨σ4, eσ4, hf⟩ := bd_s hf
      refine bk_put (wf := cw) (σ1 := σ4) (q0 := 3) (ci := 8) (k := 7) (v := .int ((q3.2) 2 10)) C hP hD hS wl_X9 tyX9_ok nmX9 rfl rfl (by decide) wa_376 rfl rfl rfl rfl rfl (Nat.le_of_ble_eq_true rfl) (by rw [eσ4]; exact cw_p3_7 g _ _) dX3_readsRest_42 (fun H locs hP hD hS => ?_)
      refine lv_aload_n hx hb dX3_readsRest_45 rfl (lv_at hl 0 rfl) ?_
      obtain ⟨q5, hq5, hf⟩ := bi_s hf
      refine bk_VV (wf := cw) (q0 := 2) (ci := 3) (rest := []) [] C hP hD hS hl.1 (c_X3_advance_2 hXo hq5) (cwA_V 0 hts wa_241 wa_238 wa_239 wa_240 wa_18 rfl rfl nd_X3_advance ⟨Nat.le_of_ble_eq_true rfl, Nat.le_of_ble_eq_true rfl⟩) rfl rfl rfl rfl (Nat.le_of_ble_eq_true rfl) dX3_readsRest_46 ⟨Nat.le_of_ble_eq_true rfl, Nat.le_of_ble_eq_true rfl⟩ (fun H locs hP hD hS => ?_)
      refine lv_aload_n hx hb dX3_readsRest_49 rfl (lv_at hl 0 rfl) ?_
      obtain ⟨q6, hq6, hf⟩ := bi_s hf
      refine bk_VI (wf := cw) (q0 := 2) (ci := 3) (rest := []) [] C hP hD hS hl.1 (c_X3_endsLine_2 hXo hq6) (cwA_V 0 hts wa_359 wa_356 wa_357 wa_358 wa_18 rfl rfl nd_X3_endsLine ⟨Nat.le_of_ble_eq_true rfl, Nat.le_of_ble_eq_true rfl⟩) rfl rfl rfl rfl (Nat.le_of_ble_eq_true rfl) dX3_readsRest_50 ⟨Nat.le_of_ble_eq_true rfl, Nat.le_of_ble_eq_true rfl⟩ (fun H locs hP hD hS => ?_)
      obtain ⟨g7, hf⟩ := gd_s hf
      cases hf
      exact bk_zret C hP hD hS (Decidable.not_not.mp g7) rfl dX3_readsRest_53
    · have hf := (if_pos t29).symm.trans hf
      refine lv_iconst (v := (0 : Int32)) hx hb dX3_readsRest_32 (by decide) ?_
      cases hf
      exact bk_zret C hP hD hS (by decide) rfl dX3_readsRest_33
  · have hf := (if_neg t4).symm.trans hf
    refine lv_aload_n hx hb dX3_readsRest_7 rfl (lv_at hl 0 rfl) ?_
    refine lv_iconst (v := (5 : Int32)) hx hb dX3_readsRest_8 (by decide) ?_
    obtain ⟨q8, hq8, hf⟩ := bi_s hf
    refine bk_VI (wf := cw) (q0 := 2) (ci := 3) (rest := []) [.int (5 : Int32)] C hP hD hS hl.1 (c_X3_fails_2 hXo hq8) (cwA_V 1 hts wa_343 wa_340 wa_341 wa_342 wa_18 rfl rfl nd_X3_fails ⟨Nat.le_of_ble_eq_true rfl, Nat.le_of_ble_eq_true rfl⟩) rfl rfl rfl rfl (Nat.le_of_ble_eq_true rfl) dX3_readsRest_9 ⟨Nat.le_of_ble_eq_true rfl, Nat.le_of_ble_eq_true rfl⟩ (fun H locs hP hD hS => ?_)
    obtain ⟨g9, hf⟩ := gd_s hf
    cases hf
    exact bk_zret C hP hD hS (Decidable.not_not.mp g9) rfl dX3_readsRest_12
theorem c_X3_readsRest_2 {N : Nat} {σ : Sg} {z : Int32 × Sg} (hX : xOK g X) (hf : f_X3_readsRest_2 N σ = some z) : MetI l yX3_readsRest (Cond.code yX3_readsRest cX3_readsRest 1 (some .boolean) :: wsA) rm_X3_readsRest_2 cw g X [.ref (g.2.2 2)] σ z.1 z.2 :=
  MetI_of hX (by decide) (Nat.le_of_ble_eq_true rfl) (fun p e s m args below meth c A C => b_X3_readsRest_2 C hf)
-- X9_isTaken_3: isTaken(I)Z
abbrev rm_X9_isTaken_3 : Room := { frames := 0, cells := 0, slots := 0, locals := 0 }
theorem nd_X9_isTaken : yX9_isTaken.cls ≠ "java/lang/invoke/MethodHandle" ∧ yX9_isTaken.cls ≠ "java/lang/invoke/VarHandle" ∧ (parseMethodDescriptor yX9_isTaken.desc).map (fun d => d.parameters.length) = some 1 := by decide +kernel
def s_X9_isTaken_3_h2 (N : Nat) (x1 : Int32) (x2 : Int32) (σ : Sg) : Option (Nat × Int32 × Sg) :=
if (σ 3 0) ≤ x2 then (some (2, 0, σ))
else (if (x2 < 0 ∨ 9 ≤ x2.toNatClampNeg) then none else
if (σ 4 x2.toNatClampNeg) = x1 then (some (1, 0, σ))
else (bd (x2 + (1 : Int32)) fun v2 =>
some (0, v2, σ)))
set_option maxHeartbeats 4000000 in
set_option maxRecDepth 100000 in
theorem e_X9_isTaken_3_h2 {N : Nat} {x1 : Int32} {x2 : Int32} {σ : Sg} {z : Nat × Int32 × Sg} (C : Cx p s m args meth c cX9_isTaken 3 (some .boolean) RX9 g A X) (hf : s_X9_isTaken_3_h2 N x1 x2 σ = some z) (k0 : z.1 = 0 → Bk cw p l e rm_X9_isTaken_3 s m args below meth c 3 g A Q 0 0 2 [(0, .ref (g.2.2 3)), (1, .int x1), (2, .int z.2.1)] [] z.2.2) (k : ¬ z.1 = 0 → ((z.1 = 1 → Bk cw p l e rm_X9_isTaken_3 s m args below meth c 3 g A Q 0 0 20 [] [] z.2.2) ∧ (¬ z.1 = 1 → Bk cw p l e rm_X9_isTaken_3 s m args below meth c 3 g A Q 0 0 28 [] [] z.2.2))) : Bk cw p l e rm_X9_isTaken_3 s m args below meth c 3 g A Q 0 0 2 [(0, .ref (g.2.2 3)), (1, .int x1), (2, .int x2)] [] σ := by
  obtain ⟨hx, hb, hr, hml, hown, hts, hK, hlocks, hXX, hA, hXo⟩ := id C
  intro H locs ls hP hD hS hl
  unfold s_X9_isTaken_3_h2 at hf
  refine lv_iload_n hx hb dX9_isTaken_2 rfl (lv_at hl 2 rfl) ?_
  refine lv_aload_n hx hb dX9_isTaken_3 rfl (lv_at hl 0 rfl) ?_
  refine bk_get (wf := cw) (q0 := 3) (ci := 8) (k := 0) (v := .int (σ 3 0)) C hP wl_X9 rfl rfl (by decide) wa_68 rfl rfl dX9_isTaken_4 ?_
  refine lv_icmp_ge (tgt := 28) hx hb dX9_isTaken_7 (by decide) (fun t7 => ?_) (fun t7 => ?_)
  · have hf := (if_pos t7).symm.trans hf
    cases hf
    exact ((k (show ¬ (2 : Nat) = 0 by decide)).2 (show ¬ (2 : Nat) = 1 by decide)) H locs ls hP hD hS (lv_sub hl [] rfl)
  · have hf := (if_neg t7).symm.trans hf
    refine lv_aload_n hx hb dX9_isTaken_10 rfl (lv_at hl 0 rfl) ?_
    refine bk_get (wf := cw) (q0 := 3) (ci := 8) (k := 1) (v := .ref (g.2.2 4)) C hP wl_X9 rfl rfl (by decide) wa_69 rfl rfl dX9_isTaken_11 ?_
    refine lv_iload_n hx hb dX9_isTaken_14 rfl (lv_at hl 2 rfl) ?_
    obtain ⟨g1, hf⟩ := gd_s hf
    refine bk_iald (wf := cw) (q0 := 4) (n := 9) (j := x2.toNatClampNeg) C hP rfl g1 rfl dX9_isTaken_15 ?_
    refine lv_iload_n hx hb dX9_isTaken_16 rfl (lv_at hl 1 rfl) ?_
    refine lv_icmp_ne (tgt := 22) hx hb dX9_isTaken_17 (by decide) (fun t17 => ?_) (fun t17 => ?_)
    · have hf := (if_neg t17).symm.trans hf
      obtain ⟨v2, ev2, hf⟩ := bd_s hf
      refine lv_iinc (v := v2) (lv' := [(2, .int v2), (0, .ref (g.2.2 3)), (1, .int x1)]) hx hb dX9_isTaken_22 hl (k := 2) rfl (by rw [ev2]; rfl) (by decide) rfl (fun ls hl => ?_)
      refine lv_goto (tgt := 2) hx hb dX9_isTaken_25 (by decide) ?_
      cases hf
      exact k0 rfl H locs ls hP hD hS (lv_sub hl [1, 2, 0] rfl)
    · have hf := (if_pos t17).symm.trans hf
      cases hf
      exact ((k (show ¬ (1 : Nat) = 0 by decide)).1 rfl) H locs ls hP hD hS (lv_sub hl [] rfl)
theorem lp_X9_isTaken_3_h2 {N n : Nat} {x1 : Int32} {x2 : Int32} {σ : Sg} {z : Nat × Int32 × Sg} (C : Cx p s m args meth c cX9_isTaken 3 (some .boolean) RX9 g A X) (hz : it (fun q => s_X9_isTaken_3_h2 N x1 q.1 q.2) n (x2, σ) = some z) (k : ((z.1 = 1 → Bk cw p l e rm_X9_isTaken_3 s m args below meth c 3 g A Q 0 0 20 [] [] z.2.2) ∧ (¬ z.1 = 1 → Bk cw p l e rm_X9_isTaken_3 s m args below meth c 3 g A Q 0 0 28 [] [] z.2.2))) : Bk cw p l e rm_X9_isTaken_3 s m args below meth c 3 g A Q 0 0 2 [(0, .ref (g.2.2 3)), (1, .int x1), (2, .int x2)] [] σ :=
  it_W (S := Int32 × Sg) (fun q => Bk cw p l e rm_X9_isTaken_3 s m args below meth c 3 g A Q 0 0 2 [(0, .ref (g.2.2 3)), (1, .int x1), (2, .int q.1)] [] q.2) (fun z => ((z.1 = 1 → Bk cw p l e rm_X9_isTaken_3 s m args below meth c 3 g A Q 0 0 20 [] [] z.2.2) ∧ (¬ z.1 = 1 → Bk cw p l e rm_X9_isTaken_3 s m args below meth c 3 g A Q 0 0 28 [] [] z.2.2))) (fun q z hq k0 k => e_X9_isTaken_3_h2 C hq k0 k) n (x2, σ) z hz k
def f_X9_isTaken_3 (N : Nat) (x1 : Int32) (σ : Sg) : Option (Int32 × Sg) :=
(it (fun q => s_X9_isTaken_3_h2 N x1 q.1 q.2) N ((0 : Int32), σ)).bind fun z3 =>
if z3.1 = 1 then (some ((1 : Int32), (z3.2.2)))
else (some ((0 : Int32), (z3.2.2)))
set_option maxHeartbeats 4000000 in
set_option maxRecDepth 100000 in
theorem b_X9_isTaken_3 {N : Nat} {x1 : Int32} {σ : Sg} {z : Int32 × Sg} (C : Cx p s m args meth c cX9_isTaken 3 (some .boolean) RX9 g A X) (hf : f_X9_isTaken_3 N x1 σ = some z) : Bk cw p l e rm_X9_isTaken_3 s m args below meth c 3 g A (MQ below (qI cw g A z.1 z.2) args s 0 0 A) 0 0 0 [(0, .ref (g.2.2 3)), (1, .int x1)] [] σ := by
  obtain ⟨hx, hb, hr, hml, hown, hts, hK, hlocks, hXX, hA, hXo⟩ := id C
  intro H locs ls hP hD hS hl
  unfold f_X9_isTaken_3 at hf
  refine lv_iconst (v := (0 : Int32)) hx hb dX9_isTaken_0 (by decide) ?_
  refine lv_istore_n (lv' := [(2, .int (0 : Int32)), (0, .ref (g.2.2 3)), (1, .int x1)]) hx hb dX9_isTaken_1 rfl hl (by decide) rfl (fun ls hl => ?_)
  obtain ⟨z3, hz3, hf⟩ := bi_s hf
  refine lp_X9_isTaken_3_h2 C hz3 ⟨fun t0 => ?_, fun t0 => ?_⟩ H locs ls hP hD hS (lv_sub hl [1, 2, 0] rfl)
  · have hf := (if_pos t0).symm.trans hf
    intro H locs ls hP hD hS hl
    refine lv_iconst (v := (1 : Int32)) hx hb dX9_isTaken_20 (by decide) ?_
    cases hf
    exact bk_zret C hP hD hS (by decide) rfl dX9_isTaken_21
  · have hf := (if_neg t0).symm.trans hf
    intro H locs ls hP hD hS hl
    refine lv_iconst (v := (0 : Int32)) hx hb dX9_isTaken_28 (by decide) ?_
    cases hf
    exact bk_zret C hP hD hS (by decide) rfl dX9_isTaken_29
theorem c_X9_isTaken_3 {N : Nat} {x1 : Int32} {σ : Sg} {z : Int32 × Sg} (hX : xOK g X) (hf : f_X9_isTaken_3 N x1 σ = some z) : MetI l yX9_isTaken (Cond.code yX9_isTaken cX9_isTaken 3 (some .boolean) :: wsA) rm_X9_isTaken_3 cw g X [.ref (g.2.2 3), .int x1] σ z.1 z.2 :=
  MetI_of hX (by decide) (Nat.le_of_ble_eq_true rfl) (fun p e s m args below meth c A C => b_X9_isTaken_3 C hf)
-- X3_takesNumber_2_4: takesNumber([IIII)Z
abbrev rm_X3_takesNumber_2_4 : Room := { frames := 7, cells := 0, slots := 0, locals := 150 }
theorem nd_X3_takesNumber : yX3_takesNumber.cls ≠ "java/lang/invoke/MethodHandle" ∧ yX3_takesNumber.cls ≠ "java/lang/invoke/VarHandle" ∧ (parseMethodDescriptor yX3_takesNumber.desc).map (fun d => d.parameters.length) = some 4 := by decide +kernel
def f_X3_takesNumber_2_4_b29 (N : Nat) (σ : Sg) : Option (Int32 × Sg) :=
(f_X3_advance_2 N σ).bind fun q1 =>
some ((1 : Int32), q1)
set_option maxHeartbeats 4000000 in
set_option maxRecDepth 100000 in
theorem b_X3_takesNumber_2_4_b29 {N : Nat} {σ : Sg} {z : Int32 × Sg} (C : Cx p s m args meth c cX3_takesNumber 5 (some .boolean) RX3 g A X) (hf : f_X3_takesNumber_2_4_b29 N σ = some z) : Bk cw p l e rm_X3_takesNumber_2_4 s m args below meth c 5 g A (MQ below (qI cw g A z.1 z.2) args s 0 0 A) 0 0 29 [(0, .ref (g.2.2 2))] [] σ := by
  obtain ⟨hx, hb, hr, hml, hown, hts, hK, hlocks, hXX, hA, hXo⟩ := id C
  intro H locs ls hP hD hS hl
  unfold f_X3_takesNumber_2_4_b29 at hf
  refine lv_aload_n hx hb dX3_takesNumber_29 rfl (lv_at hl 0 rfl) ?_
  obtain ⟨q1, hq1, hf⟩ := bi_s hf
  refine bk_VV (wf := cw) (q0 := 2) (ci := 3) (rest := []) [] C hP hD hS hl.1 (c_X3_advance_2 hXo hq1) (cwA_V 0 hts wa_241 wa_238 wa_239 wa_240 wa_18 rfl rfl nd_X3_advance ⟨Nat.le_of_ble_eq_true rfl, Nat.le_of_ble_eq_true rfl⟩) rfl rfl rfl rfl (Nat.le_of_ble_eq_true rfl) dX3_takesNumber_30 ⟨Nat.le_of_ble_eq_true rfl, Nat.le_of_ble_eq_true rfl⟩ (fun H locs hP hD hS => ?_)
  refine lv_iconst (v := (1 : Int32)) hx hb dX3_takesNumber_33 (by decide) ?_
  cases hf
  exact bk_zret C hP hD hS (by decide) rfl dX3_takesNumber_34
def f_X3_takesNumber_2_4 (N : Nat) (x2 : Int32) (x3 : Int32) (x4 : Int32) (σ : Sg) : Option (Int32 × Sg) :=
(f_X3_isNumber_2 N x3 x4 σ).bind fun q2 =>
if q2.1 = 0 then (some ((0 : Int32), (q2.2)))
else (if x2 < 0 then (f_X3_takesNumber_2_4_b29 N (q2.2))
else (if (9 : Int32) ≤ x2 then (f_X3_takesNumber_2_4_b29 N (q2.2))
else (if (x2 < 0 ∨ 9 ≤ x2.toNatClampNeg) then none else
bd (wr (q2.2) 4 (x2.toNatClampNeg) ((q2.2) 2 10)) fun σ4 =>
f_X3_takesNumber_2_4_b29 N σ4)))
set_option maxHeartbeats 4000000 in
set_option maxRecDepth 100000 in
theorem b_X3_takesNumber_2_4 {N : Nat} {x2 : Int32} {x3 : Int32} {x4 : Int32} {σ : Sg} {z : Int32 × Sg} (C : Cx p s m args meth c cX3_takesNumber 5 (some .boolean) RX3 g A X) (hf : f_X3_takesNumber_2_4 N x2 x3 x4 σ = some z) : Bk cw p l e rm_X3_takesNumber_2_4 s m args below meth c 5 g A (MQ below (qI cw g A z.1 z.2) args s 0 0 A) 0 0 0 [(0, .ref (g.2.2 2)), (1, .ref (g.2.2 4)), (2, .int x2), (3, .int x3), (4, .int x4)] [] σ := by
  obtain ⟨hx, hb, hr, hml, hown, hts, hK, hlocks, hXX, hA, hXo⟩ := id C
  intro H locs ls hP hD hS hl
  unfold f_X3_takesNumber_2_4 at hf
  refine lv_aload_n hx hb dX3_takesNumber_0 rfl (lv_at hl 0 rfl) ?_
  refine lv_iload_n hx hb dX3_takesNumber_1 rfl (lv_at hl 3 rfl) ?_
  refine lv_iload hx hb dX3_takesNumber_2 (lv_at hl 4 rfl) ?_
  obtain ⟨q2, hq2, hf⟩ := bi_s hf
  refine bk_VI (wf := cw) (q0 := 2) (ci := 3) (rest := []) [.int x3, .int x4] C hP hD hS hl.1 (c_X3_isNumber_2 hXo hq2) (cwA_V 2 hts wa_347 wa_344 wa_345 wa_346 wa_18 rfl rfl nd_X3_isNumber ⟨Nat.le_of_ble_eq_true rfl, Nat.le_of_ble_eq_true rfl⟩) rfl rfl rfl rfl (Nat.le_of_ble_eq_true rfl) dX3_takesNumber_4 ⟨Nat.le_of_ble_eq_true rfl, Nat.le_of_ble_eq_true rfl⟩ (fun H locs hP hD hS => ?_)
  refine lv_if_ne (tgt := 12) hx hb dX3_takesNumber_7 (by decide) (fun t7 => ?_) (fun t7 => ?_)
  · have hf := (if_neg t7).symm.trans hf
    refine lv_iload_n hx hb dX3_takesNumber_12 rfl (lv_at hl 2 rfl) ?_
    refine lv_if_lt (tgt := 29) hx hb dX3_takesNumber_13 (by decide) (fun t13 => ?_) (fun t13 => ?_)
    · have hf := (if_pos t13).symm.trans hf
      exact b_X3_takesNumber_2_4_b29 C hf H locs ls hP hD hS (lv_sub hl [0] rfl)
    · have hf := (if_neg t13).symm.trans hf
      refine lv_iload_n hx hb dX3_takesNumber_16 rfl (lv_at hl 2 rfl) ?_
      refine lv_aload_n hx hb dX3_takesNumber_17 rfl (lv_at hl 1 rfl) ?_
      refine bk_alen (wf := cw) (q0 := 4) (t0 := 0) (v := (9 : Int32)) C hP rfl rfl (show Int32.ofNat 9 = (9 : Int32) by decide) dX3_takesNumber_18 ?_
      refine lv_icmp_ge (tgt := 29) hx hb dX3_takesNumber_19 (by decide) (fun t19 => ?_) (fun t19 => ?_)
      · have hf := (if_pos t19).symm.trans hf
        exact b_X3_takesNumber_2_4_b29 C hf H locs ls hP hD hS (lv_sub hl [0] rfl)
      · have hf := (if_neg t19).symm.trans hf
        refine lv_aload_n hx hb dX3_takesNumber_22 rfl (lv_at hl 1 rfl) ?_
        refine lv_iload_n hx hb dX3_takesNumber_23 rfl (lv_at hl 2 rfl) ?_
        refine lv_aload_n hx hb dX3_takesNumber_24 rfl (lv_at hl 0 rfl) ?_
        refine bk_get (wf := cw) (q0 := 2) (ci := 3) (k := 10) (v := .int ((q2.2) 2 10)) C hP wl_X3 rfl rfl (by decide) wa_61 rfl rfl dX3_takesNumber_25 ?_
        obtain ⟨g3, hf⟩ := gd_s hf
        obtain ⟨σ4, eσ4, hf⟩ := bd_s hf
        refine bk_iast (wf := cw) (σ1 := σ4) (q0 := 4) (n := 9) (j := x2.toNatClampNeg) C hP hD hS rfl g3 rfl (by rw [eσ4]; exact cw_a4 g _ _ _) dX3_takesNumber_28 (fun H locs hP hD hS => ?_)
        exact b_X3_takesNumber_2_4_b29 C hf H locs ls hP hD hS (lv_sub hl [0] rfl)
  · have hf := (if_pos t7).symm.trans hf
    refine lv_iconst (v := (0 : Int32)) hx hb dX3_takesNumber_10 (by decide) ?_
    cases hf
    exact bk_zret C hP hD hS (by decide) rfl dX3_takesNumber_11
theorem c_X3_takesNumber_2_4 {N : Nat} {x2 : Int32} {x3 : Int32} {x4 : Int32} {σ : Sg} {z : Int32 × Sg} (hX : xOK g X) (hf : f_X3_takesNumber_2_4 N x2 x3 x4 σ = some z) : MetI l yX3_takesNumber (Cond.code yX3_takesNumber cX3_takesNumber 5 (some .boolean) :: wsA) rm_X3_takesNumber_2_4 cw g X [.ref (g.2.2 2), .ref (g.2.2 4), .int x2, .int x3, .int x4] σ z.1 z.2 :=
  MetI_of hX (by decide) (Nat.le_of_ble_eq_true rfl) (fun p e s m args below meth c A C => b_X3_takesNumber_2_4 C hf)
-- X3_takesNumber_2_5: takesNumber([IIII)Z
abbrev rm_X3_takesNumber_2_5 : Room := { frames := 7, cells := 0, slots := 0, locals := 150 }
def f_X3_takesNumber_2_5_b29 (N : Nat) (σ : Sg) : Option (Int32 × Sg) :=
(f_X3_advance_2 N σ).bind fun q1 =>
some ((1 : Int32), q1)
set_option maxHeartbeats 4000000 in
set_option maxRecDepth 100000 in
theorem b_X3_takesNumber_2_5_b29 {N : Nat} {σ : Sg} {z : Int32 × Sg} (C : Cx p s m args meth c cX3_takesNumber 5 (some .boolean) RX3 g A X) (hf : f_X3_takesNumber_2_5_b29 N σ = some z) : Bk cw p l e rm_X3_takesNumber_2_5 s m args below meth c 5 g A (MQ below (qI cw g A z.1 z.2) args s 0 0 A) 0 0 29 [(0, .ref (g.2.2 2))] [] σ := by
  obtain ⟨hx, hb, hr, hml, hown, hts, hK, hlocks, hXX, hA, hXo⟩ := id C
  intro H locs ls hP hD hS hl
  unfold f_X3_takesNumber_2_5_b29 at hf
  refine lv_aload_n hx hb dX3_takesNumber_29 rfl (lv_at hl 0 rfl) ?_
  obtain ⟨q1, hq1, hf⟩ := bi_s hf
  refine bk_VV (wf := cw) (q0 := 2) (ci := 3) (rest := []) [] C hP hD hS hl.1 (c_X3_advance_2 hXo hq1) (cwA_V 0 hts wa_241 wa_238 wa_239 wa_240 wa_18 rfl rfl nd_X3_advance ⟨Nat.le_of_ble_eq_true rfl, Nat.le_of_ble_eq_true rfl⟩) rfl rfl rfl rfl (Nat.le_of_ble_eq_true rfl) dX3_takesNumber_30 ⟨Nat.le_of_ble_eq_true rfl, Nat.le_of_ble_eq_true rfl⟩ (fun H locs hP hD hS => ?_)
  refine lv_iconst (v := (1 : Int32)) hx hb dX3_takesNumber_33 (by decide) ?_
  cases hf
  exact bk_zret C hP hD hS (by decide) rfl dX3_takesNumber_34
def f_X3_takesNumber_2_5 (N : Nat) (x2 : Int32) (x3 : Int32) (x4 : Int32) (σ : Sg) : Option (Int32 × Sg) :=
(f_X3_isNumber_2 N x3 x4 σ).bind fun q2 =>
if q2.1 = 0 then (some ((0 : Int32), (q2.2)))
else (if x2 < 0 then (f_X3_takesNumber_2_5_b29 N (q2.2))
else (if (9 : Int32) ≤ x2 then (f_X3_takesNumber_2_5_b29 N (q2.2))
else (if (x2 < 0 ∨ 9 ≤ x2.toNatClampNeg) then none else
bd (wr (q2.2) 5 (x2.toNatClampNeg) ((q2.2) 2 10)) fun σ4 =>
f_X3_takesNumber_2_5_b29 N σ4)))
set_option maxHeartbeats 4000000 in
set_option maxRecDepth 100000 in
theorem b_X3_takesNumber_2_5 {N : Nat} {x2 : Int32} {x3 : Int32} {x4 : Int32} {σ : Sg} {z : Int32 × Sg} (C : Cx p s m args meth c cX3_takesNumber 5 (some .boolean) RX3 g A X) (hf : f_X3_takesNumber_2_5 N x2 x3 x4 σ = some z) : Bk cw p l e rm_X3_takesNumber_2_5 s m args below meth c 5 g A (MQ below (qI cw g A z.1 z.2) args s 0 0 A) 0 0 0 [(0, .ref (g.2.2 2)), (1, .ref (g.2.2 5)), (2, .int x2), (3, .int x3), (4, .int x4)] [] σ := by
  obtain ⟨hx, hb, hr, hml, hown, hts, hK, hlocks, hXX, hA, hXo⟩ := id C
  intro H locs ls hP hD hS hl
  unfold f_X3_takesNumber_2_5 at hf
  refine lv_aload_n hx hb dX3_takesNumber_0 rfl (lv_at hl 0 rfl) ?_
  refine lv_iload_n hx hb dX3_takesNumber_1 rfl (lv_at hl 3 rfl) ?_
  refine lv_iload hx hb dX3_takesNumber_2 (lv_at hl 4 rfl) ?_
  obtain ⟨q2, hq2, hf⟩ := bi_s hf
  refine bk_VI (wf := cw) (q0 := 2) (ci := 3) (rest := []) [.int x3, .int x4] C hP hD hS hl.1 (c_X3_isNumber_2 hXo hq2) (cwA_V 2 hts wa_347 wa_344 wa_345 wa_346 wa_18 rfl rfl nd_X3_isNumber ⟨Nat.le_of_ble_eq_true rfl, Nat.le_of_ble_eq_true rfl⟩) rfl rfl rfl rfl (Nat.le_of_ble_eq_true rfl) dX3_takesNumber_4 ⟨Nat.le_of_ble_eq_true rfl, Nat.le_of_ble_eq_true rfl⟩ (fun H locs hP hD hS => ?_)
  refine lv_if_ne (tgt := 12) hx hb dX3_takesNumber_7 (by decide) (fun t7 => ?_) (fun t7 => ?_)
  · have hf := (if_neg t7).symm.trans hf
    refine lv_iload_n hx hb dX3_takesNumber_12 rfl (lv_at hl 2 rfl) ?_
    refine lv_if_lt (tgt := 29) hx hb dX3_takesNumber_13 (by decide) (fun t13 => ?_) (fun t13 => ?_)
    · have hf := (if_pos t13).symm.trans hf
      exact b_X3_takesNumber_2_5_b29 C hf H locs ls hP hD hS (lv_sub hl [0] rfl)
    · have hf := (if_neg t13).symm.trans hf
      refine lv_iload_n hx hb dX3_takesNumber_16 rfl (lv_at hl 2 rfl) ?_
      refine lv_aload_n hx hb dX3_takesNumber_17 rfl (lv_at hl 1 rfl) ?_
      refine bk_alen (wf := cw) (q0 := 5) (t0 := 0) (v := (9 : Int32)) C hP rfl rfl (show Int32.ofNat 9 = (9 : Int32) by decide) dX3_takesNumber_18 ?_
      refine lv_icmp_ge (tgt := 29) hx hb dX3_takesNumber_19 (by decide) (fun t19 => ?_) (fun t19 => ?_)
      · have hf := (if_pos t19).symm.trans hf
        exact b_X3_takesNumber_2_5_b29 C hf H locs ls hP hD hS (lv_sub hl [0] rfl)
      · have hf := (if_neg t19).symm.trans hf
        refine lv_aload_n hx hb dX3_takesNumber_22 rfl (lv_at hl 1 rfl) ?_
        refine lv_iload_n hx hb dX3_takesNumber_23 rfl (lv_at hl 2 rfl) ?_
        refine lv_aload_n hx hb dX3_takesNumber_24 rfl (lv_at hl 0 rfl) ?_
        refine bk_get (wf := cw) (q0 := 2) (ci := 3) (k := 10) (v := .int ((q2.2) 2 10)) C hP wl_X3 rfl rfl (by decide) wa_61 rfl rfl dX3_takesNumber_25 ?_
        obtain ⟨g3, hf⟩ := gd_s hf
        obtain ⟨σ4, eσ4, hf⟩ := bd_s hf
        refine bk_iast (wf := cw) (σ1 := σ4) (q0 := 5) (n := 9) (j := x2.toNatClampNeg) C hP hD hS rfl g3 rfl (by rw [eσ4]; exact cw_a5 g _ _ _) dX3_takesNumber_28 (fun H locs hP hD hS => ?_)
        exact b_X3_takesNumber_2_5_b29 C hf H locs ls hP hD hS (lv_sub hl [0] rfl)
  · have hf := (if_pos t7).symm.trans hf
    refine lv_iconst (v := (0 : Int32)) hx hb dX3_takesNumber_10 (by decide) ?_
    cases hf
    exact bk_zret C hP hD hS (by decide) rfl dX3_takesNumber_11
theorem c_X3_takesNumber_2_5 {N : Nat} {x2 : Int32} {x3 : Int32} {x4 : Int32} {σ : Sg} {z : Int32 × Sg} (hX : xOK g X) (hf : f_X3_takesNumber_2_5 N x2 x3 x4 σ = some z) : MetI l yX3_takesNumber (Cond.code yX3_takesNumber cX3_takesNumber 5 (some .boolean) :: wsA) rm_X3_takesNumber_2_5 cw g X [.ref (g.2.2 2), .ref (g.2.2 5), .int x2, .int x3, .int x4] σ z.1 z.2 :=
  MetI_of hX (by decide) (Nat.le_of_ble_eq_true rfl) (fun p e s m args below meth c A C => b_X3_takesNumber_2_5 C hf)
-- X3_takesNumber_2_6: takesNumber([IIII)Z
abbrev rm_X3_takesNumber_2_6 : Room := { frames := 7, cells := 0, slots := 0, locals := 150 }
def f_X3_takesNumber_2_6_b29 (N : Nat) (σ : Sg) : Option (Int32 × Sg) :=
(f_X3_advance_2 N σ).bind fun q1 =>
some ((1 : Int32), q1)
set_option maxHeartbeats 4000000 in
set_option maxRecDepth 100000 in
theorem b_X3_takesNumber_2_6_b29 {N : Nat} {σ : Sg} {z : Int32 × Sg} (C : Cx p s m args meth c cX3_takesNumber 5 (some .boolean) RX3 g A X) (hf : f_X3_takesNumber_2_6_b29 N σ = some z) : Bk cw p l e rm_X3_takesNumber_2_6 s m args below meth c 5 g A (MQ below (qI cw g A z.1 z.2) args s 0 0 A) 0 0 29 [(0, .ref (g.2.2 2))] [] σ := by
  obtain ⟨hx, hb, hr, hml, hown, hts, hK, hlocks, hXX, hA, hXo⟩ := id C
  intro H locs ls hP hD hS hl
  unfold f_X3_takesNumber_2_6_b29 at hf
  refine lv_aload_n hx hb dX3_takesNumber_29 rfl (lv_at hl 0 rfl) ?_
  obtain ⟨q1, hq1, hf⟩ := bi_s hf
  refine bk_VV (wf := cw) (q0 := 2) (ci := 3) (rest := []) [] C hP hD hS hl.1 (c_X3_advance_2 hXo hq1) (cwA_V 0 hts wa_241 wa_238 wa_239 wa_240 wa_18 rfl rfl nd_X3_advance ⟨Nat.le_of_ble_eq_true rfl, Nat.le_of_ble_eq_true rfl⟩) rfl rfl rfl rfl (Nat.le_of_ble_eq_true rfl) dX3_takesNumber_30 ⟨Nat.le_of_ble_eq_true rfl, Nat.le_of_ble_eq_true rfl⟩ (fun H locs hP hD hS => ?_)
  refine lv_iconst (v := (1 : Int32)) hx hb dX3_takesNumber_33 (by decide) ?_
  cases hf
  exact bk_zret C hP hD hS (by decide) rfl dX3_takesNumber_34
def f_X3_takesNumber_2_6 (N : Nat) (x2 : Int32) (x3 : Int32) (x4 : Int32) (σ : Sg) : Option (Int32 × Sg) :=
(f_X3_isNumber_2 N x3 x4 σ).bind fun q2 =>
if q2.1 = 0 then (some ((0 : Int32), (q2.2)))
else (if x2 < 0 then (f_X3_takesNumber_2_6_b29 N (q2.2))
else (if (9 : Int32) ≤ x2 then (f_X3_takesNumber_2_6_b29 N (q2.2))
else (if (x2 < 0 ∨ 9 ≤ x2.toNatClampNeg) then none else
bd (wr (q2.2) 6 (x2.toNatClampNeg) ((q2.2) 2 10)) fun σ4 =>
f_X3_takesNumber_2_6_b29 N σ4)))
set_option maxHeartbeats 4000000 in
set_option maxRecDepth 100000 in
theorem b_X3_takesNumber_2_6 {N : Nat} {x2 : Int32} {x3 : Int32} {x4 : Int32} {σ : Sg} {z : Int32 × Sg} (C : Cx p s m args meth c cX3_takesNumber 5 (some .boolean) RX3 g A X) (hf : f_X3_takesNumber_2_6 N x2 x3 x4 σ = some z) : Bk cw p l e rm_X3_takesNumber_2_6 s m args below meth c 5 g A (MQ below (qI cw g A z.1 z.2) args s 0 0 A) 0 0 0 [(0, .ref (g.2.2 2)), (1, .ref (g.2.2 6)), (2, .int x2), (3, .int x3), (4, .int x4)] [] σ := by
  obtain ⟨hx, hb, hr, hml, hown, hts, hK, hlocks, hXX, hA, hXo⟩ := id C
  intro H locs ls hP hD hS hl
  unfold f_X3_takesNumber_2_6 at hf
  refine lv_aload_n hx hb dX3_takesNumber_0 rfl (lv_at hl 0 rfl) ?_
  refine lv_iload_n hx hb dX3_takesNumber_1 rfl (lv_at hl 3 rfl) ?_
  refine lv_iload hx hb dX3_takesNumber_2 (lv_at hl 4 rfl) ?_
  obtain ⟨q2, hq2, hf⟩ := bi_s hf
  refine bk_VI (wf := cw) (q0 := 2) (ci := 3) (rest := []) [.int x3, .int x4] C hP hD hS hl.1 (c_X3_isNumber_2 hXo hq2) (cwA_V 2 hts wa_347 wa_344 wa_345 wa_346 wa_18 rfl rfl nd_X3_isNumber ⟨Nat.le_of_ble_eq_true rfl, Nat.le_of_ble_eq_true rfl⟩) rfl rfl rfl rfl (Nat.le_of_ble_eq_true rfl) dX3_takesNumber_4 ⟨Nat.le_of_ble_eq_true rfl, Nat.le_of_ble_eq_true rfl⟩ (fun H locs hP hD hS => ?_)
  refine lv_if_ne (tgt := 12) hx hb dX3_takesNumber_7 (by decide) (fun t7 => ?_) (fun t7 => ?_)
  · have hf := (if_neg t7).symm.trans hf
    refine lv_iload_n hx hb dX3_takesNumber_12 rfl (lv_at hl 2 rfl) ?_
    refine lv_if_lt (tgt := 29) hx hb dX3_takesNumber_13 (by decide) (fun t13 => ?_) (fun t13 => ?_)
    · have hf := (if_pos t13).symm.trans hf
      exact b_X3_takesNumber_2_6_b29 C hf H locs ls hP hD hS (lv_sub hl [0] rfl)
    · have hf := (if_neg t13).symm.trans hf
      refine lv_iload_n hx hb dX3_takesNumber_16 rfl (lv_at hl 2 rfl) ?_
      refine lv_aload_n hx hb dX3_takesNumber_17 rfl (lv_at hl 1 rfl) ?_
      refine bk_alen (wf := cw) (q0 := 6) (t0 := 0) (v := (9 : Int32)) C hP rfl rfl (show Int32.ofNat 9 = (9 : Int32) by decide) dX3_takesNumber_18 ?_
      refine lv_icmp_ge (tgt := 29) hx hb dX3_takesNumber_19 (by decide) (fun t19 => ?_) (fun t19 => ?_)
      · have hf := (if_pos t19).symm.trans hf
        exact b_X3_takesNumber_2_6_b29 C hf H locs ls hP hD hS (lv_sub hl [0] rfl)
      · have hf := (if_neg t19).symm.trans hf
        refine lv_aload_n hx hb dX3_takesNumber_22 rfl (lv_at hl 1 rfl) ?_
        refine lv_iload_n hx hb dX3_takesNumber_23 rfl (lv_at hl 2 rfl) ?_
        refine lv_aload_n hx hb dX3_takesNumber_24 rfl (lv_at hl 0 rfl) ?_
        refine bk_get (wf := cw) (q0 := 2) (ci := 3) (k := 10) (v := .int ((q2.2) 2 10)) C hP wl_X3 rfl rfl (by decide) wa_61 rfl rfl dX3_takesNumber_25 ?_
        obtain ⟨g3, hf⟩ := gd_s hf
        obtain ⟨σ4, eσ4, hf⟩ := bd_s hf
        refine bk_iast (wf := cw) (σ1 := σ4) (q0 := 6) (n := 9) (j := x2.toNatClampNeg) C hP hD hS rfl g3 rfl (by rw [eσ4]; exact cw_a6 g _ _ _) dX3_takesNumber_28 (fun H locs hP hD hS => ?_)
        exact b_X3_takesNumber_2_6_b29 C hf H locs ls hP hD hS (lv_sub hl [0] rfl)
  · have hf := (if_pos t7).symm.trans hf
    refine lv_iconst (v := (0 : Int32)) hx hb dX3_takesNumber_10 (by decide) ?_
    cases hf
    exact bk_zret C hP hD hS (by decide) rfl dX3_takesNumber_11
theorem c_X3_takesNumber_2_6 {N : Nat} {x2 : Int32} {x3 : Int32} {x4 : Int32} {σ : Sg} {z : Int32 × Sg} (hX : xOK g X) (hf : f_X3_takesNumber_2_6 N x2 x3 x4 σ = some z) : MetI l yX3_takesNumber (Cond.code yX3_takesNumber cX3_takesNumber 5 (some .boolean) :: wsA) rm_X3_takesNumber_2_6 cw g X [.ref (g.2.2 2), .ref (g.2.2 6), .int x2, .int x3, .int x4] σ z.1 z.2 :=
  MetI_of hX (by decide) (Nat.le_of_ble_eq_true rfl) (fun p e s m args below meth c A C => b_X3_takesNumber_2_6 C hf)
-- X3_takesNumber_2_7: takesNumber([IIII)Z
abbrev rm_X3_takesNumber_2_7 : Room := { frames := 7, cells := 0, slots := 0, locals := 150 }
def f_X3_takesNumber_2_7_b29 (N : Nat) (σ : Sg) : Option (Int32 × Sg) :=
(f_X3_advance_2 N σ).bind fun q1 =>
some ((1 : Int32), q1)
set_option maxHeartbeats 4000000 in
set_option maxRecDepth 100000 in
theorem b_X3_takesNumber_2_7_b29 {N : Nat} {σ : Sg} {z : Int32 × Sg} (C : Cx p s m args meth c cX3_takesNumber 5 (some .boolean) RX3 g A X) (hf : f_X3_takesNumber_2_7_b29 N σ = some z) : Bk cw p l e rm_X3_takesNumber_2_7 s m args below meth c 5 g A (MQ below (qI cw g A z.1 z.2) args s 0 0 A) 0 0 29 [(0, .ref (g.2.2 2))] [] σ := by
  obtain ⟨hx, hb, hr, hml, hown, hts, hK, hlocks, hXX, hA, hXo⟩ := id C
  intro H locs ls hP hD hS hl
  unfold f_X3_takesNumber_2_7_b29 at hf
  refine lv_aload_n hx hb dX3_takesNumber_29 rfl (lv_at hl 0 rfl) ?_
  obtain ⟨q1, hq1, hf⟩ := bi_s hf
  refine bk_VV (wf := cw) (q0 := 2) (ci := 3) (rest := []) [] C hP hD hS hl.1 (c_X3_advance_2 hXo hq1) (cwA_V 0 hts wa_241 wa_238 wa_239 wa_240 wa_18 rfl rfl nd_X3_advance ⟨Nat.le_of_ble_eq_true rfl, Nat.le_of_ble_eq_true rfl⟩) rfl rfl rfl rfl (Nat.le_of_ble_eq_true rfl) dX3_takesNumber_30 ⟨Nat.le_of_ble_eq_true rfl, Nat.le_of_ble_eq_true rfl⟩ (fun H locs hP hD hS => ?_)
  refine lv_iconst (v := (1 : Int32)) hx hb dX3_takesNumber_33 (by decide) ?_
  cases hf
  exact bk_zret C hP hD hS (by decide) rfl dX3_takesNumber_34
def f_X3_takesNumber_2_7 (N : Nat) (x2 : Int32) (x3 : Int32) (x4 : Int32) (σ : Sg) : Option (Int32 × Sg) :=
(f_X3_isNumber_2 N x3 x4 σ).bind fun q2 =>
if q2.1 = 0 then (some ((0 : Int32), (q2.2)))
else (if x2 < 0 then (f_X3_takesNumber_2_7_b29 N (q2.2))
else (if (9 : Int32) ≤ x2 then (f_X3_takesNumber_2_7_b29 N (q2.2))
else (if (x2 < 0 ∨ 9 ≤ x2.toNatClampNeg) then none else
bd (wr (q2.2) 7 (x2.toNatClampNeg) ((q2.2) 2 10)) fun σ4 =>
f_X3_takesNumber_2_7_b29 N σ4)))
set_option maxHeartbeats 4000000 in
set_option maxRecDepth 100000 in
theorem b_X3_takesNumber_2_7 {N : Nat} {x2 : Int32} {x3 : Int32} {x4 : Int32} {σ : Sg} {z : Int32 × Sg} (C : Cx p s m args meth c cX3_takesNumber 5 (some .boolean) RX3 g A X) (hf : f_X3_takesNumber_2_7 N x2 x3 x4 σ = some z) : Bk cw p l e rm_X3_takesNumber_2_7 s m args below meth c 5 g A (MQ below (qI cw g A z.1 z.2) args s 0 0 A) 0 0 0 [(0, .ref (g.2.2 2)), (1, .ref (g.2.2 7)), (2, .int x2), (3, .int x3), (4, .int x4)] [] σ := by
  obtain ⟨hx, hb, hr, hml, hown, hts, hK, hlocks, hXX, hA, hXo⟩ := id C
  intro H locs ls hP hD hS hl
  unfold f_X3_takesNumber_2_7 at hf
  refine lv_aload_n hx hb dX3_takesNumber_0 rfl (lv_at hl 0 rfl) ?_
  refine lv_iload_n hx hb dX3_takesNumber_1 rfl (lv_at hl 3 rfl) ?_
  refine lv_iload hx hb dX3_takesNumber_2 (lv_at hl 4 rfl) ?_
  obtain ⟨q2, hq2, hf⟩ := bi_s hf
  refine bk_VI (wf := cw) (q0 := 2) (ci := 3) (rest := []) [.int x3, .int x4] C hP hD hS hl.1 (c_X3_isNumber_2 hXo hq2) (cwA_V 2 hts wa_347 wa_344 wa_345 wa_346 wa_18 rfl rfl nd_X3_isNumber ⟨Nat.le_of_ble_eq_true rfl, Nat.le_of_ble_eq_true rfl⟩) rfl rfl rfl rfl (Nat.le_of_ble_eq_true rfl) dX3_takesNumber_4 ⟨Nat.le_of_ble_eq_true rfl, Nat.le_of_ble_eq_true rfl⟩ (fun H locs hP hD hS => ?_)
  refine lv_if_ne (tgt := 12) hx hb dX3_takesNumber_7 (by decide) (fun t7 => ?_) (fun t7 => ?_)
  · have hf := (if_neg t7).symm.trans hf
    refine lv_iload_n hx hb dX3_takesNumber_12 rfl (lv_at hl 2 rfl) ?_
    refine lv_if_lt (tgt := 29) hx hb dX3_takesNumber_13 (by decide) (fun t13 => ?_) (fun t13 => ?_)
    · have hf := (if_pos t13).symm.trans hf
      exact b_X3_takesNumber_2_7_b29 C hf H locs ls hP hD hS (lv_sub hl [0] rfl)
    · have hf := (if_neg t13).symm.trans hf
      refine lv_iload_n hx hb dX3_takesNumber_16 rfl (lv_at hl 2 rfl) ?_
      refine lv_aload_n hx hb dX3_takesNumber_17 rfl (lv_at hl 1 rfl) ?_
      refine bk_alen (wf := cw) (q0 := 7) (t0 := 0) (v := (9 : Int32)) C hP rfl rfl (show Int32.ofNat 9 = (9 : Int32) by decide) dX3_takesNumber_18 ?_
      refine lv_icmp_ge (tgt := 29) hx hb dX3_takesNumber_19 (by decide) (fun t19 => ?_) (fun t19 => ?_)
      · have hf := (if_pos t19).symm.trans hf
        exact b_X3_takesNumber_2_7_b29 C hf H locs ls hP hD hS (lv_sub hl [0] rfl)
      · have hf := (if_neg t19).symm.trans hf
        refine lv_aload_n hx hb dX3_takesNumber_22 rfl (lv_at hl 1 rfl) ?_
        refine lv_iload_n hx hb dX3_takesNumber_23 rfl (lv_at hl 2 rfl) ?_
        refine lv_aload_n hx hb dX3_takesNumber_24 rfl (lv_at hl 0 rfl) ?_
        refine bk_get (wf := cw) (q0 := 2) (ci := 3) (k := 10) (v := .int ((q2.2) 2 10)) C hP wl_X3 rfl rfl (by decide) wa_61 rfl rfl dX3_takesNumber_25 ?_
        obtain ⟨g3, hf⟩ := gd_s hf
        obtain ⟨σ4, eσ4, hf⟩ := bd_s hf
        refine bk_iast (wf := cw) (σ1 := σ4) (q0 := 7) (n := 9) (j := x2.toNatClampNeg) C hP hD hS rfl g3 rfl (by rw [eσ4]; exact cw_a7 g _ _ _) dX3_takesNumber_28 (fun H locs hP hD hS => ?_)
        exact b_X3_takesNumber_2_7_b29 C hf H locs ls hP hD hS (lv_sub hl [0] rfl)
  · have hf := (if_pos t7).symm.trans hf
    refine lv_iconst (v := (0 : Int32)) hx hb dX3_takesNumber_10 (by decide) ?_
    cases hf
    exact bk_zret C hP hD hS (by decide) rfl dX3_takesNumber_11
theorem c_X3_takesNumber_2_7 {N : Nat} {x2 : Int32} {x3 : Int32} {x4 : Int32} {σ : Sg} {z : Int32 × Sg} (hX : xOK g X) (hf : f_X3_takesNumber_2_7 N x2 x3 x4 σ = some z) : MetI l yX3_takesNumber (Cond.code yX3_takesNumber cX3_takesNumber 5 (some .boolean) :: wsA) rm_X3_takesNumber_2_7 cw g X [.ref (g.2.2 2), .ref (g.2.2 7), .int x2, .int x3, .int x4] σ z.1 z.2 :=
  MetI_of hX (by decide) (Nat.le_of_ble_eq_true rfl) (fun p e s m args below meth c A C => b_X3_takesNumber_2_7 C hf)
-- X3_readsFarm_2: readsFarm(I)Z
abbrev rm_X3_readsFarm_2 : Room := { frames := 8, cells := 0, slots := 0, locals := 174 }
theorem nd_X3_readsFarm : yX3_readsFarm.cls ≠ "java/lang/invoke/MethodHandle" ∧ yX3_readsFarm.cls ≠ "java/lang/invoke/VarHandle" ∧ (parseMethodDescriptor yX3_readsFarm.desc).map (fun d => d.parameters.length) = some 1 := by decide +kernel
def f_X3_readsFarm_2_b166 (N : Nat) (σ : Sg) : Option (Int32 × Sg) :=
some ((0 : Int32), σ)
set_option maxHeartbeats 4000000 in
set_option maxRecDepth 100000 in
theorem b_X3_readsFarm_2_b166 {N : Nat} {σ : Sg} {z : Int32 × Sg} (C : Cx p s m args meth c cX3_readsFarm 3 (some .boolean) RX3 g A X) (hf : f_X3_readsFarm_2_b166 N σ = some z) : Bk cw p l e rm_X3_readsFarm_2 s m args below meth c 3 g A (MQ below (qI cw g A z.1 z.2) args s 0 0 A) 0 0 166 [] [] σ := by
  obtain ⟨hx, hb, hr, hml, hown, hts, hK, hlocks, hXX, hA, hXo⟩ := id C
  intro H locs ls hP hD hS hl
  unfold f_X3_readsFarm_2_b166 at hf
  refine lv_iconst (v := (0 : Int32)) hx hb dX3_readsFarm_166 (by decide) ?_
  cases hf
  exact bk_zret C hP hD hS (by decide) rfl dX3_readsFarm_167
def f_X3_readsFarm_2 (N : Nat) (x1 : Int32) (σ : Sg) : Option (Int32 × Sg) :=
bd (σ 3 0) fun v1 =>
if v1 < (9 : Int32) then ((f_X3_advance_2 N σ).bind fun q2 =>
(f_X3_isNumber_2 N (0 : Int32) (99 : Int32) q2).bind fun q3 =>
if q3.1 = 0 then (some ((0 : Int32), (q3.2)))
else ((f_X9_isTaken_3 N ((q3.2) 2 10) (q3.2)).bind fun q4 =>
if q4.1 = 0 then (bd (wr (q4.2) 3 5 (((q4.2) 3 5) ||| (x1 <<< (v1 &&& 31)))) fun σ5 =>
bd (wr σ5 3 0 ((σ5 3 0) + (1 : Int32))) fun σ6 =>
(f_X3_takesNumber_2_4 N v1 (0 : Int32) (99 : Int32) σ6).bind fun q7 =>
if q7.1 = 0 then (f_X3_readsFarm_2_b166 N (q7.2))
else ((f_X3_takesNumber_2_5 N v1 (0 : Int32) (99 : Int32) (q7.2)).bind fun q8 =>
if q8.1 = 0 then (f_X3_readsFarm_2_b166 N (q8.2))
else ((f_X3_takesNumber_2_6 N v1 (0 : Int32) (20 : Int32) (q8.2)).bind fun q9 =>
if q9.1 = 0 then (f_X3_readsFarm_2_b166 N (q9.2))
else ((f_X3_takesNumber_2_7 N v1 (1 : Int32) (5 : Int32) (q9.2)).bind fun q10 =>
if q10.1 = 0 then (f_X3_readsFarm_2_b166 N (q10.2))
else ((f_X3_endsLine_2 N (q10.2)).bind fun q11 =>
if q11.1 = 0 then (f_X3_readsFarm_2_b166 N (q11.2))
else (some ((1 : Int32), (q11.2))))))))
else ((f_X3_fails_2 N (4 : Int32) (q4.2)).bind fun q12 =>
if ¬ (q12.1 = 0 ∨ q12.1 = 1) then none else some (q12.1, (q12.2)))))
else ((f_X3_fails_2 N (2 : Int32) σ).bind fun q14 =>
if ¬ (q14.1 = 0 ∨ q14.1 = 1) then none else some (q14.1, (q14.2)))
set_option maxHeartbeats 4000000 in
set_option maxRecDepth 100000 in
theorem b_X3_readsFarm_2 {N : Nat} {x1 : Int32} {σ : Sg} {z : Int32 × Sg} (C : Cx p s m args meth c cX3_readsFarm 3 (some .boolean) RX3 g A X) (hf : f_X3_readsFarm_2 N x1 σ = some z) : Bk cw p l e rm_X3_readsFarm_2 s m args below meth c 3 g A (MQ below (qI cw g A z.1 z.2) args s 0 0 A) 0 0 0 [(0, .ref (g.2.2 2)), (1, .int x1)] [] σ := by
  obtain ⟨hx, hb, hr, hml, hown, hts, hK, hlocks, hXX, hA, hXo⟩ := id C
  intro H locs ls hP hD hS hl
  unfold f_X3_readsFarm_2 at hf
  refine lv_aload_n hx hb dX3_readsFarm_0 rfl (lv_at hl 0 rfl) ?_
  refine bk_get (wf := cw) (q0 := 2) (ci := 3) (k := 0) (v := .ref (g.2.2 3)) C hP wl_X3 rfl rfl (by decide) wa_51 rfl rfl dX3_readsFarm_1 ?_
  refine bk_get (wf := cw) (q0 := 3) (ci := 8) (k := 0) (v := .int (σ 3 0)) C hP wl_X9 rfl rfl (by decide) wa_334 rfl rfl dX3_readsFarm_4 ?_
  obtain ⟨v1, ev1, hf⟩ := bd_s hf
  rw [← ev1]
  refine lv_istore_n (lv' := [(2, .int v1), (0, .ref (g.2.2 2)), (1, .int x1)]) hx hb dX3_readsFarm_7 rfl hl (by decide) rfl (fun ls hl => ?_)
  refine lv_iload_n hx hb dX3_readsFarm_8 rfl (lv_at hl 0 rfl) ?_
  refine lv_bipush (v := (9 : Int32)) hx hb dX3_readsFarm_9 (by decide) ?_
  refine lv_icmp_lt (tgt := 20) hx hb dX3_readsFarm_11 (by decide) (fun t11 => ?_) (fun t11 => ?_)
  · have hf := (if_pos t11).symm.trans hf
    refine lv_aload_n hx hb dX3_readsFarm_20 rfl (lv_at hl 1 rfl) ?_
    obtain ⟨q2, hq2, hf⟩ := bi_s hf
    refine bk_VV (wf := cw) (q0 := 2) (ci := 3) (rest := []) [] C hP hD hS hl.1 (c_X3_advance_2 hXo hq2) (cwA_V 0 hts wa_241 wa_238 wa_239 wa_240 wa_18 rfl rfl nd_X3_advance ⟨Nat.le_of_ble_eq_true rfl, Nat.le_of_ble_eq_true rfl⟩) rfl rfl rfl rfl (Nat.le_of_ble_eq_true rfl) dX3_readsFarm_21 ⟨Nat.le_of_ble_eq_true rfl, Nat.le_of_ble_eq_true rfl⟩ (fun H locs hP hD hS => ?_)
    refine lv_aload_n hx hb dX3_readsFarm_24 rfl (lv_at hl 1 rfl) ?_
    refine lv_iconst (v := (0 : Int32)) hx hb dX3_readsFarm_25 (by decide) ?_
    refine lv_bipush (v := (99 : Int32)) hx hb dX3_readsFarm_26 (by decide) ?_
    obtain ⟨q3, hq3, hf⟩ := bi_s hf
    refine bk_VI (wf := cw) (q0 := 2) (ci := 3) (rest := []) [.int (0 : Int32), .int (99 : Int32)] C hP hD hS hl.1 (c_X3_isNumber_2 hXo hq3) (cwA_V 2 hts wa_347 wa_344 wa_345 wa_346 wa_18 rfl rfl nd_X3_isNumber ⟨Nat.le_of_ble_eq_true rfl, Nat.le_of_ble_eq_true rfl⟩) rfl rfl rfl rfl (Nat.le_of_ble_eq_true rfl) dX3_readsFarm_28 ⟨Nat.le_of_ble_eq_true rfl, Nat.le_of_ble_eq_true rfl⟩ (fun H locs hP hD hS => ?_)
    refine lv_if_ne (tgt := 36) hx hb dX3_readsFarm_31 (by decide) (fun t31 => ?_) (fun t31 => ?_)
    · have hf := (if_neg t31).symm.trans hf
      refine lv_aload_n hx hb dX3_readsFarm_36 rfl (lv_at hl 1 rfl) ?_
      refine bk_get (wf := cw) (q0 := 2) (ci := 3) (k := 0) (v := .ref (g.2.2 3)) C hP wl_X3 rfl rfl (by decide) wa_51 rfl rfl dX3_readsFarm_37 ?_
      refine lv_aload_n hx hb dX3_readsFarm_40 rfl (lv_at hl 1 rfl) ?_
      refine bk_get (wf := cw) (q0 := 2) (ci := 3) (k := 10) (v := .int ((q3.2) 2 10)) C hP wl_X3 rfl rfl (by decide) wa_61 rfl rfl dX3_readsFarm_41 ?_
      obtain ⟨q4, hq4, hf⟩ := bi_s hf
      refine bk_VI (wf := cw) (q0 := 3) (ci := 8) (rest := []) [.int ((q3.2) 2 10)] C hP hD hS hl.1 (c_X9_isTaken_3 hXo hq4) (cwA_V 1 hts wa_351 wa_348 wa_349 wa_350 wa_22 rfl rfl nd_X9_isTaken ⟨Nat.le_of_ble_eq_true rfl, Nat.le_of_ble_eq_true rfl⟩) rfl rfl rfl rfl (Nat.le_of_ble_eq_true rfl) dX3_readsFarm_44 ⟨Nat.le_of_ble_eq_true rfl, Nat.le_of_ble_eq_true rfl⟩ (fun H locs hP hD hS => ?_)
      refine lv_if_eq (tgt := 56) hx hb dX3_readsFarm_47 (by decide) (fun t47 => ?_) (fun t47 => ?_)
      · have hf := (if_pos t47).symm.trans hf
        refine lv_aload_n hx hb dX3_readsFarm_56 rfl (lv_at hl 1 rfl) ?_
        refine bk_get (wf := cw) (q0 := 2) (ci := 3) (k := 0) (v := .ref (g.2.2 3)) C hP wl_X3 rfl rfl (by decide) wa_51 rfl rfl dX3_readsFarm_57 ?_
        refine lv_dup hx hb dX3_readsFarm_60 rfl ?_
        refine bk_get (wf := cw) (q0 := 3) (ci := 8) (k := 5) (v := .int ((q4.2) 3 5)) C hP wl_X9 rfl rfl (by decide) wa_335 rfl rfl dX3_readsFarm_61 ?_
        refine lv_iload_n hx hb dX3_readsFarm_64 rfl (lv_at hl 2 rfl) ?_
        refine lv_iload_n hx hb dX3_readsFarm_65 rfl (lv_at hl 0 rfl) ?_
        refine lv_ishl hx hb dX3_readsFarm_66 ?_
        refine lv_ior hx hb dX3_readsFarm_67 ?_
        obtain ⟨σ5, eσ5, hf⟩ := bd_s hf
        refine bk_put (wf := cw) (σ1 := σ5) (q0 := 3) (ci := 8) (k := 5) (v := .int (((q4.2) 3 5) ||| (x1 <<< (v1 &&& 31)))) C hP hD hS wl_X9 tyX9_ok nmX9 rfl rfl (by decide) wa_335 rfl rfl rfl rfl rfl (Nat.le_of_ble_eq_true rfl) (by rw [eσ5]; exact cw_p3_5 g _ _) dX3_readsFarm_68 (fun H locs hP hD hS => ?_)
        refine lv_aload_n hx hb dX3_readsFarm_71 rfl (lv_at hl 1 rfl) ?_
        refine bk_get (wf := cw) (q0 := 2) (ci := 3) (k := 0) (v := .ref (g.2.2 3)) C hP wl_X3 rfl rfl (by decide) wa_51 rfl rfl dX3_readsFarm_72 ?_
        refine lv_dup hx hb dX3_readsFarm_75 rfl ?_
        refine bk_get (wf := cw) (q0 := 3) (ci := 8) (k := 0) (v := .int (σ5 3 0)) C hP wl_X9 rfl rfl (by decide) wa_334 rfl rfl dX3_readsFarm_76 ?_
        refine lv_iconst (v := (1 : Int32)) hx hb dX3_readsFarm_79 (by decide) ?_
        refine lv_iadd hx hb dX3_readsFarm_80 ?_
        obtain ⟨σ6, eσ6, hf⟩ := bd_s hf
        refine bk_put (wf := cw) (σ1 := σ6) (q0 := 3) (ci := 8) (k := 0) (v := .int ((σ5 3 0) + (1 : Int32))) C hP hD hS wl_X9 tyX9_ok nmX9 rfl rfl (by decide) wa_334 rfl rfl rfl rfl rfl (Nat.le_of_ble_eq_true rfl) (by rw [eσ6]; exact cw_p3_0 g _ _) dX3_readsFarm_81 (fun H locs hP hD hS => ?_)
        refine lv_aload_n hx hb dX3_readsFarm_84 rfl (lv_at hl 1 rfl) ?_
        refine lv_aload_n hx hb dX3_readsFarm_85 rfl (lv_at hl 1 rfl) ?_
        refine bk_get (wf := cw) (q0 := 2) (ci := 3) (k := 0) (v := .ref (g.2.2 3)) C hP wl_X3 rfl rfl (by decide) wa_51 rfl rfl dX3_readsFarm_86 ?_
        refine bk_get (wf := cw) (q0 := 3) (ci := 8) (k := 1) (v := .ref (g.2.2 4)) C hP wl_X9 rfl rfl (by decide) wa_336 rfl rfl dX3_readsFarm_89 ?_
        refine lv_iload_n hx hb dX3_readsFarm_92 rfl (lv_at hl 0 rfl) ?_
        refine lv_iconst (v := (0 : Int32)) hx hb dX3_readsFarm_93 (by decide) ?_
        refine lv_bipush (v := (99 : Int32)) hx hb dX3_readsFarm_94 (by decide) ?_
        obtain ⟨q7, hq7, hf⟩ := bi_s hf
        refine bk_VI (wf := cw) (q0 := 2) (ci := 3) (rest := []) [.ref (g.2.2 4), .int v1, .int (0 : Int32), .int (99 : Int32)] C hP hD hS hl.1 (c_X3_takesNumber_2_4 hXo hq7) (cwA_V 4 hts wa_355 wa_352 wa_353 wa_354 wa_18 rfl rfl nd_X3_takesNumber ⟨Nat.le_of_ble_eq_true rfl, Nat.le_of_ble_eq_true rfl⟩) rfl rfl rfl rfl (Nat.le_of_ble_eq_true rfl) dX3_readsFarm_96 ⟨Nat.le_of_ble_eq_true rfl, Nat.le_of_ble_eq_true rfl⟩ (fun H locs hP hD hS => ?_)
        refine lv_if_eq (tgt := 166) hx hb dX3_readsFarm_99 (by decide) (fun t99 => ?_) (fun t99 => ?_)
        · have hf := (if_pos t99).symm.trans hf
          exact b_X3_readsFarm_2_b166 C hf H locs ls hP hD hS (lv_sub hl [] rfl)
        · have hf := (if_neg t99).symm.trans hf
          refine lv_aload_n hx hb dX3_readsFarm_102 rfl (lv_at hl 1 rfl) ?_
          refine lv_aload_n hx hb dX3_readsFarm_103 rfl (lv_at hl 1 rfl) ?_
          refine bk_get (wf := cw) (q0 := 2) (ci := 3) (k := 0) (v := .ref (g.2.2 3)) C hP wl_X3 rfl rfl (by decide) wa_51 rfl rfl dX3_readsFarm_104 ?_
          refine bk_get (wf := cw) (q0 := 3) (ci := 8) (k := 2) (v := .ref (g.2.2 5)) C hP wl_X9 rfl rfl (by decide) wa_337 rfl rfl dX3_readsFarm_107 ?_
          refine lv_iload_n hx hb dX3_readsFarm_110 rfl (lv_at hl 0 rfl) ?_
          refine lv_iconst (v := (0 : Int32)) hx hb dX3_readsFarm_111 (by decide) ?_
          refine lv_bipush (v := (99 : Int32)) hx hb dX3_readsFarm_112 (by decide) ?_
          obtain ⟨q8, hq8, hf⟩ := bi_s hf
          refine bk_VI (wf := cw) (q0 := 2) (ci := 3) (rest := []) [.ref (g.2.2 5), .int v1, .int (0 : Int32), .int (99 : Int32)] C hP hD hS hl.1 (c_X3_takesNumber_2_5 hXo hq8) (cwA_V 4 hts wa_355 wa_352 wa_353 wa_354 wa_18 rfl rfl nd_X3_takesNumber ⟨Nat.le_of_ble_eq_true rfl, Nat.le_of_ble_eq_true rfl⟩) rfl rfl rfl rfl (Nat.le_of_ble_eq_true rfl) dX3_readsFarm_114 ⟨Nat.le_of_ble_eq_true rfl, Nat.le_of_ble_eq_true rfl⟩ (fun H locs hP hD hS => ?_)
          refine lv_if_eq (tgt := 166) hx hb dX3_readsFarm_117 (by decide) (fun t117 => ?_) (fun t117 => ?_)
          · have hf := (if_pos t117).symm.trans hf
            exact b_X3_readsFarm_2_b166 C hf H locs ls hP hD hS (lv_sub hl [] rfl)
          · have hf := (if_neg t117).symm.trans hf
            refine lv_aload_n hx hb dX3_readsFarm_120 rfl (lv_at hl 1 rfl) ?_
            refine lv_aload_n hx hb dX3_readsFarm_121 rfl (lv_at hl 1 rfl) ?_
            refine bk_get (wf := cw) (q0 := 2) (ci := 3) (k := 0) (v := .ref (g.2.2 3)) C hP wl_X3 rfl rfl (by decide) wa_51 rfl rfl dX3_readsFarm_122 ?_
            refine bk_get (wf := cw) (q0 := 3) (ci := 8) (k := 3) (v := .ref (g.2.2 6)) C hP wl_X9 rfl rfl (by decide) wa_338 rfl rfl dX3_readsFarm_125 ?_
            refine lv_iload_n hx hb dX3_readsFarm_128 rfl (lv_at hl 0 rfl) ?_
            refine lv_iconst (v := (0 : Int32)) hx hb dX3_readsFarm_129 (by decide) ?_
            refine lv_bipush (v := (20 : Int32)) hx hb dX3_readsFarm_130 (by decide) ?_
            obtain ⟨q9, hq9, hf⟩ := bi_s hf
            refine bk_VI (wf := cw) (q0 := 2) (ci := 3) (rest := []) [.ref (g.2.2 6), .int v1, .int (0 : Int32), .int (20 : Int32)] C hP hD hS hl.1 (c_X3_takesNumber_2_6 hXo hq9) (cwA_V 4 hts wa_355 wa_352 wa_353 wa_354 wa_18 rfl rfl nd_X3_takesNumber ⟨Nat.le_of_ble_eq_true rfl, Nat.le_of_ble_eq_true rfl⟩) rfl rfl rfl rfl (Nat.le_of_ble_eq_true rfl) dX3_readsFarm_132 ⟨Nat.le_of_ble_eq_true rfl, Nat.le_of_ble_eq_true rfl⟩ (fun H locs hP hD hS => ?_)
            refine lv_if_eq (tgt := 166) hx hb dX3_readsFarm_135 (by decide) (fun t135 => ?_) (fun t135 => ?_)
            · have hf := (if_pos t135).symm.trans hf
              exact b_X3_readsFarm_2_b166 C hf H locs ls hP hD hS (lv_sub hl [] rfl)
            · have hf := (if_neg t135).symm.trans hf
              refine lv_aload_n hx hb dX3_readsFarm_138 rfl (lv_at hl 1 rfl) ?_
              refine lv_aload_n hx hb dX3_readsFarm_139 rfl (lv_at hl 1 rfl) ?_
              refine bk_get (wf := cw) (q0 := 2) (ci := 3) (k := 0) (v := .ref (g.2.2 3)) C hP wl_X3 rfl rfl (by decide) wa_51 rfl rfl dX3_readsFarm_140 ?_
              refine bk_get (wf := cw) (q0 := 3) (ci := 8) (k := 4) (v := .ref (g.2.2 7)) C hP wl_X9 rfl rfl (by decide) wa_339 rfl rfl dX3_readsFarm_143 ?_
              refine lv_iload_n hx hb dX3_readsFarm_146 rfl (lv_at hl 0 rfl) ?_
              refine lv_iconst (v := (1 : Int32)) hx hb dX3_readsFarm_147 (by decide) ?_
              refine lv_iconst (v := (5 : Int32)) hx hb dX3_readsFarm_148 (by decide) ?_
              obtain ⟨q10, hq10, hf⟩ := bi_s hf
              refine bk_VI (wf := cw) (q0 := 2) (ci := 3) (rest := []) [.ref (g.2.2 7), .int v1, .int (1 : Int32), .int (5 : Int32)] C hP hD hS hl.1 (c_X3_takesNumber_2_7 hXo hq10) (cwA_V 4 hts wa_355 wa_352 wa_353 wa_354 wa_18 rfl rfl nd_X3_takesNumber ⟨Nat.le_of_ble_eq_true rfl, Nat.le_of_ble_eq_true rfl⟩) rfl rfl rfl rfl (Nat.le_of_ble_eq_true rfl) dX3_readsFarm_149 ⟨Nat.le_of_ble_eq_true rfl, Nat.le_of_ble_eq_true rfl⟩ (fun H locs hP hD hS => ?_)
              refine lv_if_eq (tgt := 166) hx hb dX3_readsFarm_152 (by decide) (fun t152 => ?_) (fun t152 => ?_)
              · have hf := (if_pos t152).symm.trans hf
                exact b_X3_readsFarm_2_b166 C hf H locs ls hP hD hS (lv_sub hl [] rfl)
              · have hf := (if_neg t152).symm.trans hf
                refine lv_aload_n hx hb dX3_readsFarm_155 rfl (lv_at hl 1 rfl) ?_
                obtain ⟨q11, hq11, hf⟩ := bi_s hf
                refine bk_VI (wf := cw) (q0 := 2) (ci := 3) (rest := []) [] C hP hD hS hl.1 (c_X3_endsLine_2 hXo hq11) (cwA_V 0 hts wa_359 wa_356 wa_357 wa_358 wa_18 rfl rfl nd_X3_endsLine ⟨Nat.le_of_ble_eq_true rfl, Nat.le_of_ble_eq_true rfl⟩) rfl rfl rfl rfl (Nat.le_of_ble_eq_true rfl) dX3_readsFarm_156 ⟨Nat.le_of_ble_eq_true rfl, Nat.le_of_ble_eq_true rfl⟩ (fun H locs hP hD hS => ?_)
                refine lv_if_eq (tgt := 166) hx hb dX3_readsFarm_159 (by decide) (fun t159 => ?_) (fun t159 => ?_)
                · have hf := (if_pos t159).symm.trans hf
                  exact b_X3_readsFarm_2_b166 C hf H locs ls hP hD hS (lv_sub hl [] rfl)
                · have hf := (if_neg t159).symm.trans hf
                  refine lv_iconst (v := (1 : Int32)) hx hb dX3_readsFarm_162 (by decide) ?_
                  refine lv_goto (tgt := 167) hx hb dX3_readsFarm_163 (by decide) ?_
                  cases hf
                  exact bk_zret C hP hD hS (by decide) rfl dX3_readsFarm_167
      · have hf := (if_neg t47).symm.trans hf
        refine lv_aload_n hx hb dX3_readsFarm_50 rfl (lv_at hl 1 rfl) ?_
        refine lv_iconst (v := (4 : Int32)) hx hb dX3_readsFarm_51 (by decide) ?_
        obtain ⟨q12, hq12, hf⟩ := bi_s hf
        refine bk_VI (wf := cw) (q0 := 2) (ci := 3) (rest := []) [.int (4 : Int32)] C hP hD hS hl.1 (c_X3_fails_2 hXo hq12) (cwA_V 1 hts wa_343 wa_340 wa_341 wa_342 wa_18 rfl rfl nd_X3_fails ⟨Nat.le_of_ble_eq_true rfl, Nat.le_of_ble_eq_true rfl⟩) rfl rfl rfl rfl (Nat.le_of_ble_eq_true rfl) dX3_readsFarm_52 ⟨Nat.le_of_ble_eq_true rfl, Nat.le_of_ble_eq_true rfl⟩ (fun H locs hP hD hS => ?_)
        obtain ⟨g13, hf⟩ := gd_s hf
        cases hf
        exact bk_zret C hP hD hS (Decidable.not_not.mp g13) rfl dX3_readsFarm_55
    · have hf := (if_pos t31).symm.trans hf
      refine lv_iconst (v := (0 : Int32)) hx hb dX3_readsFarm_34 (by decide) ?_
      cases hf
      exact bk_zret C hP hD hS (by decide) rfl dX3_readsFarm_35
  · have hf := (if_neg t11).symm.trans hf
    refine lv_aload_n hx hb dX3_readsFarm_14 rfl (lv_at hl 1 rfl) ?_
    refine lv_iconst (v := (2 : Int32)) hx hb dX3_readsFarm_15 (by decide) ?_
    obtain ⟨q14, hq14, hf⟩ := bi_s hf
    refine bk_VI (wf := cw) (q0 := 2) (ci := 3) (rest := []) [.int (2 : Int32)] C hP hD hS hl.1 (c_X3_fails_2 hXo hq14) (cwA_V 1 hts wa_343 wa_340 wa_341 wa_342 wa_18 rfl rfl nd_X3_fails ⟨Nat.le_of_ble_eq_true rfl, Nat.le_of_ble_eq_true rfl⟩) rfl rfl rfl rfl (Nat.le_of_ble_eq_true rfl) dX3_readsFarm_16 ⟨Nat.le_of_ble_eq_true rfl, Nat.le_of_ble_eq_true rfl⟩ (fun H locs hP hD hS => ?_)
    obtain ⟨g15, hf⟩ := gd_s hf
    cases hf
    exact bk_zret C hP hD hS (Decidable.not_not.mp g15) rfl dX3_readsFarm_19
theorem c_X3_readsFarm_2 {N : Nat} {x1 : Int32} {σ : Sg} {z : Int32 × Sg} (hX : xOK g X) (hf : f_X3_readsFarm_2 N x1 σ = some z) : MetI l yX3_readsFarm (Cond.code yX3_readsFarm cX3_readsFarm 3 (some .boolean) :: wsA) rm_X3_readsFarm_2 cw g X [.ref (g.2.2 2), .int x1] σ z.1 z.2 :=
  MetI_of hX (by decide) (Nat.le_of_ble_eq_true rfl) (fun p e s m args below meth c A C => b_X3_readsFarm_2 C hf)
-- X3_takesNumber_2_8: takesNumber([IIII)Z
abbrev rm_X3_takesNumber_2_8 : Room := { frames := 7, cells := 0, slots := 0, locals := 150 }
def f_X3_takesNumber_2_8_b29 (N : Nat) (σ : Sg) : Option (Int32 × Sg) :=
(f_X3_advance_2 N σ).bind fun q1 =>
some ((1 : Int32), q1)
set_option maxHeartbeats 4000000 in
set_option maxRecDepth 100000 in
theorem b_X3_takesNumber_2_8_b29 {N : Nat} {σ : Sg} {z : Int32 × Sg} (C : Cx p s m args meth c cX3_takesNumber 5 (some .boolean) RX3 g A X) (hf : f_X3_takesNumber_2_8_b29 N σ = some z) : Bk cw p l e rm_X3_takesNumber_2_8 s m args below meth c 5 g A (MQ below (qI cw g A z.1 z.2) args s 0 0 A) 0 0 29 [(0, .ref (g.2.2 2))] [] σ := by
  obtain ⟨hx, hb, hr, hml, hown, hts, hK, hlocks, hXX, hA, hXo⟩ := id C
  intro H locs ls hP hD hS hl
  unfold f_X3_takesNumber_2_8_b29 at hf
  refine lv_aload_n hx hb dX3_takesNumber_29 rfl (lv_at hl 0 rfl) ?_
  obtain ⟨q1, hq1, hf⟩ := bi_s hf
  refine bk_VV (wf := cw) (q0 := 2) (ci := 3) (rest := []) [] C hP hD hS hl.1 (c_X3_advance_2 hXo hq1) (cwA_V 0 hts wa_241 wa_238 wa_239 wa_240 wa_18 rfl rfl nd_X3_advance ⟨Nat.le_of_ble_eq_true rfl, Nat.le_of_ble_eq_true rfl⟩) rfl rfl rfl rfl (Nat.le_of_ble_eq_true rfl) dX3_takesNumber_30 ⟨Nat.le_of_ble_eq_true rfl, Nat.le_of_ble_eq_true rfl⟩ (fun H locs hP hD hS => ?_)
  refine lv_iconst (v := (1 : Int32)) hx hb dX3_takesNumber_33 (by decide) ?_
  cases hf
  exact bk_zret C hP hD hS (by decide) rfl dX3_takesNumber_34
def f_X3_takesNumber_2_8 (N : Nat) (x2 : Int32) (x3 : Int32) (x4 : Int32) (σ : Sg) : Option (Int32 × Sg) :=
(f_X3_isNumber_2 N x3 x4 σ).bind fun q2 =>
if q2.1 = 0 then (some ((0 : Int32), (q2.2)))
else (if x2 < 0 then (f_X3_takesNumber_2_8_b29 N (q2.2))
else (if (8 : Int32) ≤ x2 then (f_X3_takesNumber_2_8_b29 N (q2.2))
else (if (x2 < 0 ∨ 8 ≤ x2.toNatClampNeg) then none else
bd (wr (q2.2) 8 (x2.toNatClampNeg) ((q2.2) 2 10)) fun σ4 =>
f_X3_takesNumber_2_8_b29 N σ4)))
set_option maxHeartbeats 4000000 in
set_option maxRecDepth 100000 in
theorem b_X3_takesNumber_2_8 {N : Nat} {x2 : Int32} {x3 : Int32} {x4 : Int32} {σ : Sg} {z : Int32 × Sg} (C : Cx p s m args meth c cX3_takesNumber 5 (some .boolean) RX3 g A X) (hf : f_X3_takesNumber_2_8 N x2 x3 x4 σ = some z) : Bk cw p l e rm_X3_takesNumber_2_8 s m args below meth c 5 g A (MQ below (qI cw g A z.1 z.2) args s 0 0 A) 0 0 0 [(0, .ref (g.2.2 2)), (1, .ref (g.2.2 8)), (2, .int x2), (3, .int x3), (4, .int x4)] [] σ := by
  obtain ⟨hx, hb, hr, hml, hown, hts, hK, hlocks, hXX, hA, hXo⟩ := id C
  intro H locs ls hP hD hS hl
  unfold f_X3_takesNumber_2_8 at hf
  refine lv_aload_n hx hb dX3_takesNumber_0 rfl (lv_at hl 0 rfl) ?_
  refine lv_iload_n hx hb dX3_takesNumber_1 rfl (lv_at hl 3 rfl) ?_
  refine lv_iload hx hb dX3_takesNumber_2 (lv_at hl 4 rfl) ?_
  obtain ⟨q2, hq2, hf⟩ := bi_s hf
  refine bk_VI (wf := cw) (q0 := 2) (ci := 3) (rest := []) [.int x3, .int x4] C hP hD hS hl.1 (c_X3_isNumber_2 hXo hq2) (cwA_V 2 hts wa_347 wa_344 wa_345 wa_346 wa_18 rfl rfl nd_X3_isNumber ⟨Nat.le_of_ble_eq_true rfl, Nat.le_of_ble_eq_true rfl⟩) rfl rfl rfl rfl (Nat.le_of_ble_eq_true rfl) dX3_takesNumber_4 ⟨Nat.le_of_ble_eq_true rfl, Nat.le_of_ble_eq_true rfl⟩ (fun H locs hP hD hS => ?_)
  refine lv_if_ne (tgt := 12) hx hb dX3_takesNumber_7 (by decide) (fun t7 => ?_) (fun t7 => ?_)
  · have hf := (if_neg t7).symm.trans hf
    refine lv_iload_n hx hb dX3_takesNumber_12 rfl (lv_at hl 2 rfl) ?_
    refine lv_if_lt (tgt := 29) hx hb dX3_takesNumber_13 (by decide) (fun t13 => ?_) (fun t13 => ?_)
    · have hf := (if_pos t13).symm.trans hf
      exact b_X3_takesNumber_2_8_b29 C hf H locs ls hP hD hS (lv_sub hl [0] rfl)
    · have hf := (if_neg t13).symm.trans hf
      refine lv_iload_n hx hb dX3_takesNumber_16 rfl (lv_at hl 2 rfl) ?_
      refine lv_aload_n hx hb dX3_takesNumber_17 rfl (lv_at hl 1 rfl) ?_
      refine bk_alen (wf := cw) (q0 := 8) (t0 := 0) (v := (8 : Int32)) C hP rfl rfl (show Int32.ofNat 8 = (8 : Int32) by decide) dX3_takesNumber_18 ?_
      refine lv_icmp_ge (tgt := 29) hx hb dX3_takesNumber_19 (by decide) (fun t19 => ?_) (fun t19 => ?_)
      · have hf := (if_pos t19).symm.trans hf
        exact b_X3_takesNumber_2_8_b29 C hf H locs ls hP hD hS (lv_sub hl [0] rfl)
      · have hf := (if_neg t19).symm.trans hf
        refine lv_aload_n hx hb dX3_takesNumber_22 rfl (lv_at hl 1 rfl) ?_
        refine lv_iload_n hx hb dX3_takesNumber_23 rfl (lv_at hl 2 rfl) ?_
        refine lv_aload_n hx hb dX3_takesNumber_24 rfl (lv_at hl 0 rfl) ?_
        refine bk_get (wf := cw) (q0 := 2) (ci := 3) (k := 10) (v := .int ((q2.2) 2 10)) C hP wl_X3 rfl rfl (by decide) wa_61 rfl rfl dX3_takesNumber_25 ?_
        obtain ⟨g3, hf⟩ := gd_s hf
        obtain ⟨σ4, eσ4, hf⟩ := bd_s hf
        refine bk_iast (wf := cw) (σ1 := σ4) (q0 := 8) (n := 8) (j := x2.toNatClampNeg) C hP hD hS rfl g3 rfl (by rw [eσ4]; exact cw_a8 g _ _ _) dX3_takesNumber_28 (fun H locs hP hD hS => ?_)
        exact b_X3_takesNumber_2_8_b29 C hf H locs ls hP hD hS (lv_sub hl [0] rfl)
  · have hf := (if_pos t7).symm.trans hf
    refine lv_iconst (v := (0 : Int32)) hx hb dX3_takesNumber_10 (by decide) ?_
    cases hf
    exact bk_zret C hP hD hS (by decide) rfl dX3_takesNumber_11
theorem c_X3_takesNumber_2_8 {N : Nat} {x2 : Int32} {x3 : Int32} {x4 : Int32} {σ : Sg} {z : Int32 × Sg} (hX : xOK g X) (hf : f_X3_takesNumber_2_8 N x2 x3 x4 σ = some z) : MetI l yX3_takesNumber (Cond.code yX3_takesNumber cX3_takesNumber 5 (some .boolean) :: wsA) rm_X3_takesNumber_2_8 cw g X [.ref (g.2.2 2), .ref (g.2.2 8), .int x2, .int x3, .int x4] σ z.1 z.2 :=
  MetI_of hX (by decide) (Nat.le_of_ble_eq_true rfl) (fun p e s m args below meth c A C => b_X3_takesNumber_2_8 C hf)
-- X3_readsMist_2: readsMist()Z
abbrev rm_X3_readsMist_2 : Room := { frames := 8, cells := 0, slots := 0, locals := 174 }
theorem nd_X3_readsMist : yX3_readsMist.cls ≠ "java/lang/invoke/MethodHandle" ∧ yX3_readsMist.cls ≠ "java/lang/invoke/VarHandle" ∧ (parseMethodDescriptor yX3_readsMist.desc).map (fun d => d.parameters.length) = some 0 := by decide +kernel
def s_X3_readsMist_2_h34 (N : Nat) (x1 : Int32) (σ : Sg) : Option (Nat × Int32 × Sg) :=
if (8 : Int32) ≤ x1 then (some (2, 0, σ))
else (if ((σ 2 5) < 0 ∨ 27 ≤ (σ 2 5).toNatClampNeg) then none else
if (σ 2 5) = (2 : Int32) then ((f_X3_takesNumber_2_8 N x1 (0 : Int32) (9 : Int32) σ).bind fun q2 =>
if q2.1 = 0 then (some (1, 0, (q2.2)))
else (bd (wr (q2.2) 3 8 (x1 + (1 : Int32))) fun σ3 =>
bd (x1 + (1 : Int32)) fun v4 =>
some (0, v4, σ3)))
else (some (2, 0, σ)))
set_option maxHeartbeats 4000000 in
set_option maxRecDepth 100000 in
theorem e_X3_readsMist_2_h34 {N : Nat} {x1 : Int32} {σ : Sg} {z : Nat × Int32 × Sg} (C : Cx p s m args meth c cX3_readsMist 2 (some .boolean) RX3 g A X) (hf : s_X3_readsMist_2_h34 N x1 σ = some z) (k0 : z.1 = 0 → Bk cw p l e rm_X3_readsMist_2 s m args below meth c 2 g A Q 0 0 34 [(0, .ref (g.2.2 2)), (1, .int z.2.1)] [] z.2.2) (k : ¬ z.1 = 0 → ((z.1 = 1 → Bk cw p l e rm_X3_readsMist_2 s m args below meth c 2 g A Q 0 0 68 [] [] z.2.2) ∧ (¬ z.1 = 1 → Bk cw p l e rm_X3_readsMist_2 s m args below meth c 2 g A Q 0 0 86 [(0, .ref (g.2.2 2))] [] z.2.2))) : Bk cw p l e rm_X3_readsMist_2 s m args below meth c 2 g A Q 0 0 34 [(0, .ref (g.2.2 2)), (1, .int x1)] [] σ := by
  obtain ⟨hx, hb, hr, hml, hown, hts, hK, hlocks, hXX, hA, hXo⟩ := id C
  intro H locs ls hP hD hS hl
  unfold s_X3_readsMist_2_h34 at hf
  refine lv_iload_n hx hb dX3_readsMist_34 rfl (lv_at hl 1 rfl) ?_
  refine lv_bipush (v := (8 : Int32)) hx hb dX3_readsMist_35 (by decide) ?_
  refine lv_icmp_ge (tgt := 86) hx hb dX3_readsMist_37 (by decide) (fun t37 => ?_) (fun t37 => ?_)
  · have hf := (if_pos t37).symm.trans hf
    cases hf
    exact ((k (show ¬ (2 : Nat) = 0 by decide)).2 (show ¬ (2 : Nat) = 1 by decide)) H locs ls hP hD hS (lv_sub hl [0] rfl)
  · have hf := (if_neg t37).symm.trans hf
    refine lv_aload_n hx hb dX3_readsMist_40 rfl (lv_at hl 0 rfl) ?_
    refine bk_get (wf := cw) (q0 := 2) (ci := 3) (k := 5) (v := .ref (g.2.2 (300 + (σ 2 5).toNatClampNeg))) C hP wl_X3 rfl rfl (by decide) wa_56 rfl rfl dX3_readsMist_41 ?_
    refine va_gets (v := .ref (g.2.2 (300 + (2 : Int32).toNatClampNeg))) hx hb (tok_Z (hXo.2.2.2 _ _ _ hXX).2.2.2.2.2.1 2 "NUMBER" (by decide) (by decide) rfl) hS hown (hts _ wa_254) (fun _ h => h) dX3_readsMist_44 ?_
    obtain ⟨g1, hf⟩ := gd_s hf
    refine bk_acn (tgt := 86) C g1 (vin_l (by decide) (by decide)) dX3_readsMist_47 (by decide) (fun t47 => ?_) (fun t47 => ?_)
    · have hf := (if_neg t47).symm.trans hf
      cases hf
      exact ((k (show ¬ (2 : Nat) = 0 by decide)).2 (show ¬ (2 : Nat) = 1 by decide)) H locs ls hP hD hS (lv_sub hl [0] rfl)
    · have hf := (if_pos t47).symm.trans hf
      refine lv_aload_n hx hb dX3_readsMist_50 rfl (lv_at hl 0 rfl) ?_
      refine lv_aload_n hx hb dX3_readsMist_51 rfl (lv_at hl 0 rfl) ?_
      refine bk_get (wf := cw) (q0 := 2) (ci := 3) (k := 0) (v := .ref (g.2.2 3)) C hP wl_X3 rfl rfl (by decide) wa_51 rfl rfl dX3_readsMist_52 ?_
      refine bk_get (wf := cw) (q0 := 3) (ci := 8) (k := 9) (v := .ref (g.2.2 8)) C hP wl_X9 rfl rfl (by decide) wa_366 rfl rfl dX3_readsMist_55 ?_
      refine lv_iload_n hx hb dX3_readsMist_58 rfl (lv_at hl 1 rfl) ?_
      refine lv_iconst (v := (0 : Int32)) hx hb dX3_readsMist_59 (by decide) ?_
      refine lv_bipush (v := (9 : Int32)) hx hb dX3_readsMist_60 (by decide) ?_
      obtain ⟨q2, hq2, hf⟩ := bi_s hf
      refine bk_VI (wf := cw) (q0 := 2) (ci := 3) (rest := []) [.ref (g.2.2 8), .int x1, .int (0 : Int32), .int (9 : Int32)] C hP hD hS hl.1 (c_X3_takesNumber_2_8 hXo hq2) (cwA_V 4 hts wa_355 wa_352 wa_353 wa_354 wa_18 rfl rfl nd_X3_takesNumber ⟨Nat.le_of_ble_eq_true rfl, Nat.le_of_ble_eq_true rfl⟩) rfl rfl rfl rfl (Nat.le_of_ble_eq_true rfl) dX3_readsMist_62 ⟨Nat.le_of_ble_eq_true rfl, Nat.le_of_ble_eq_true rfl⟩ (fun H locs hP hD hS => ?_)
      refine lv_if_ne (tgt := 70) hx hb dX3_readsMist_65 (by decide) (fun t65 => ?_) (fun t65 => ?_)
      · have hf := (if_neg t65).symm.trans hf
        refine lv_aload_n hx hb dX3_readsMist_70 rfl (lv_at hl 0 rfl) ?_
        refine bk_get (wf := cw) (q0 := 2) (ci := 3) (k := 0) (v := .ref (g.2.2 3)) C hP wl_X3 rfl rfl (by decide) wa_51 rfl rfl dX3_readsMist_71 ?_
        refine lv_iload_n hx hb dX3_readsMist_74 rfl (lv_at hl 1 rfl) ?_
        refine lv_iconst (v := (1 : Int32)) hx hb dX3_readsMist_75 (by decide) ?_
        refine lv_iadd hx hb dX3_readsMist_76 ?_
        obtain ⟨σ3, eσ3, hf⟩ := bd_s hf
        refine bk_put (wf := cw) (σ1 := σ3) (q0 := 3) (ci := 8) (k := 8) (v := .int (x1 + (1 : Int32))) C hP hD hS wl_X9 tyX9_ok nmX9 rfl rfl (by decide) wa_365 rfl rfl rfl rfl rfl (Nat.le_of_ble_eq_true rfl) (by rw [eσ3]; exact cw_p3_8 g _ _) dX3_readsMist_77 (fun H locs hP hD hS => ?_)
        obtain ⟨v4, ev4, hf⟩ := bd_s hf
        refine lv_iinc (v := v4) (lv' := [(1, .int v4), (0, .ref (g.2.2 2))]) hx hb dX3_readsMist_80 hl (k := 1) rfl (by rw [ev4]; rfl) (by decide) rfl (fun ls hl => ?_)
        refine lv_goto (tgt := 34) hx hb dX3_readsMist_83 (by decide) ?_
        cases hf
        exact k0 rfl H locs ls hP hD hS (lv_sub hl [1, 0] rfl)
      · have hf := (if_pos t65).symm.trans hf
        cases hf
        exact ((k (show ¬ (1 : Nat) = 0 by decide)).1 rfl) H locs ls hP hD hS (lv_sub hl [] rfl)
theorem lp_X3_readsMist_2_h34 {N n : Nat} {x1 : Int32} {σ : Sg} {z : Nat × Int32 × Sg} (C : Cx p s m args meth c cX3_readsMist 2 (some .boolean) RX3 g A X) (hz : it (fun q => s_X3_readsMist_2_h34 N q.1 q.2) n (x1, σ) = some z) (k : ((z.1 = 1 → Bk cw p l e rm_X3_readsMist_2 s m args below meth c 2 g A Q 0 0 68 [] [] z.2.2) ∧ (¬ z.1 = 1 → Bk cw p l e rm_X3_readsMist_2 s m args below meth c 2 g A Q 0 0 86 [(0, .ref (g.2.2 2))] [] z.2.2))) : Bk cw p l e rm_X3_readsMist_2 s m args below meth c 2 g A Q 0 0 34 [(0, .ref (g.2.2 2)), (1, .int x1)] [] σ :=
  it_W (S := Int32 × Sg) (fun q => Bk cw p l e rm_X3_readsMist_2 s m args below meth c 2 g A Q 0 0 34 [(0, .ref (g.2.2 2)), (1, .int q.1)] [] q.2) (fun z => ((z.1 = 1 → Bk cw p l e rm_X3_readsMist_2 s m args below meth c 2 g A Q 0 0 68 [] [] z.2.2) ∧ (¬ z.1 = 1 → Bk cw p l e rm_X3_readsMist_2 s m args below meth c 2 g A Q 0 0 86 [(0, .ref (g.2.2 2))] [] z.2.2))) (fun q z hq k0 k => e_X3_readsMist_2_h34 C hq k0 k) n (x1, σ) z hz k
def f_X3_readsMist_2 (N : Nat) (σ : Sg) : Option (Int32 × Sg) :=
if (σ 3 8) ≤ 0 then ((f_X3_advance_2 N σ).bind fun q5 =>
(f_X3_isNumber_2 N (0 : Int32) (9 : Int32) q5).bind fun q6 =>
if q6.1 = 0 then (some ((0 : Int32), (q6.2)))
else ((it (fun q => s_X3_readsMist_2_h34 N q.1 q.2) N ((0 : Int32), (q6.2))).bind fun z7 =>
if z7.1 = 1 then (some ((0 : Int32), (z7.2.2)))
else (if (((z7.2.2) 2 5) < 0 ∨ 27 ≤ ((z7.2.2) 2 5).toNatClampNeg) then none else
if ((z7.2.2) 2 5) = (2 : Int32) then ((f_X3_fails_2 N (2 : Int32) (z7.2.2)).bind fun q11 =>
if ¬ (q11.1 = 0 ∨ q11.1 = 1) then none else some (q11.1, (q11.2)))
else ((f_X3_endsLine_2 N (z7.2.2)).bind fun q9 =>
if ¬ (q9.1 = 0 ∨ q9.1 = 1) then none else some (q9.1, (q9.2))))))
else ((f_X3_fails_2 N (5 : Int32) σ).bind fun q13 =>
if ¬ (q13.1 = 0 ∨ q13.1 = 1) then none else some (q13.1, (q13.2)))
set_option maxHeartbeats 4000000 in
set_option maxRecDepth 100000 in
theorem b_X3_readsMist_2 {N : Nat} {σ : Sg} {z : Int32 × Sg} (C : Cx p s m args meth c cX3_readsMist 2 (some .boolean) RX3 g A X) (hf : f_X3_readsMist_2 N σ = some z) : Bk cw p l e rm_X3_readsMist_2 s m args below meth c 2 g A (MQ below (qI cw g A z.1 z.2) args s 0 0 A) 0 0 0 [(0, .ref (g.2.2 2))] [] σ := by
  obtain ⟨hx, hb, hr, hml, hown, hts, hK, hlocks, hXX, hA, hXo⟩ := id C
  intro H locs ls hP hD hS hl
  unfold f_X3_readsMist_2 at hf
  refine lv_aload_n hx hb dX3_readsMist_0 rfl (lv_at hl 0 rfl) ?_
  refine bk_get (wf := cw) (q0 := 2) (ci := 3) (k := 0) (v := .ref (g.2.2 3)) C hP wl_X3 rfl rfl (by decide) wa_51 rfl rfl dX3_readsMist_1 ?_
  refine bk_get (wf := cw) (q0 := 3) (ci := 8) (k := 8) (v := .int (σ 3 8)) C hP wl_X9 rfl rfl (by decide) wa_365 rfl rfl dX3_readsMist_4 ?_
  refine lv_if_le (tgt := 16) hx hb dX3_readsMist_7 (by decide) (fun t7 => ?_) (fun t7 => ?_)
  · have hf := (if_pos t7).symm.trans hf
    refine lv_aload_n hx hb dX3_readsMist_16 rfl (lv_at hl 0 rfl) ?_
    obtain ⟨q5, hq5, hf⟩ := bi_s hf
    refine bk_VV (wf := cw) (q0 := 2) (ci := 3) (rest := []) [] C hP hD hS hl.1 (c_X3_advance_2 hXo hq5) (cwA_V 0 hts wa_241 wa_238 wa_239 wa_240 wa_18 rfl rfl nd_X3_advance ⟨Nat.le_of_ble_eq_true rfl, Nat.le_of_ble_eq_true rfl⟩) rfl rfl rfl rfl (Nat.le_of_ble_eq_true rfl) dX3_readsMist_17 ⟨Nat.le_of_ble_eq_true rfl, Nat.le_of_ble_eq_true rfl⟩ (fun H locs hP hD hS => ?_)
    refine lv_aload_n hx hb dX3_readsMist_20 rfl (lv_at hl 0 rfl) ?_
    refine lv_iconst (v := (0 : Int32)) hx hb dX3_readsMist_21 (by decide) ?_
    refine lv_bipush (v := (9 : Int32)) hx hb dX3_readsMist_22 (by decide) ?_
    obtain ⟨q6, hq6, hf⟩ := bi_s hf
    refine bk_VI (wf := cw) (q0 := 2) (ci := 3) (rest := []) [.int (0 : Int32), .int (9 : Int32)] C hP hD hS hl.1 (c_X3_isNumber_2 hXo hq6) (cwA_V 2 hts wa_347 wa_344 wa_345 wa_346 wa_18 rfl rfl nd_X3_isNumber ⟨Nat.le_of_ble_eq_true rfl, Nat.le_of_ble_eq_true rfl⟩) rfl rfl rfl rfl (Nat.le_of_ble_eq_true rfl) dX3_readsMist_24 ⟨Nat.le_of_ble_eq_true rfl, Nat.le_of_ble_eq_true rfl⟩ (fun H locs hP hD hS => ?_)
    refine lv_if_ne (tgt := 32) hx hb dX3_readsMist_27 (by decide) (fun t27 => ?_) (fun t27 => ?_)
    · have hf := (if_neg t27).symm.trans hf
      refine lv_iconst (v := (0 : Int32)) hx hb dX3_readsMist_32 (by decide) ?_
      refine lv_istore_n (lv' := [(1, .int (0 : Int32)), (0, .ref (g.2.2 2))]) hx hb dX3_readsMist_33 rfl hl (by decide) rfl (fun ls hl => ?_)
      obtain ⟨z7, hz7, hf⟩ := bi_s hf
      refine lp_X3_readsMist_2_h34 C hz7 ⟨fun t0 => ?_, fun t0 => ?_⟩ H locs ls hP hD hS (lv_sub hl [1, 0] rfl)
      · have hf := (if_pos t0).symm.trans hf
        intro H locs ls hP hD hS hl
        refine lv_iconst (v := (0 : Int32)) hx hb dX3_readsMist_68 (by decide) ?_
        cases hf
        exact bk_zret C hP hD hS (by decide) rfl dX3_readsMist_69
      · have hf := (if_neg t0).symm.trans hf
        intro H locs ls hP hD hS hl
        refine lv_aload_n hx hb dX3_readsMist_86 rfl (lv_at hl 0 rfl) ?_
        refine bk_get (wf := cw) (q0 := 2) (ci := 3) (k := 5) (v := .ref (g.2.2 (300 + ((z7.2.2) 2 5).toNatClampNeg))) C hP wl_X3 rfl rfl (by decide) wa_56 rfl rfl dX3_readsMist_87 ?_
        refine va_gets (v := .ref (g.2.2 (300 + (2 : Int32).toNatClampNeg))) hx hb (tok_Z (hXo.2.2.2 _ _ _ hXX).2.2.2.2.2.1 2 "NUMBER" (by decide) (by decide) rfl) hS hown (hts _ wa_254) (fun _ h => h) dX3_readsMist_90 ?_
        obtain ⟨g8, hf⟩ := gd_s hf
        refine bk_acn (tgt := 104) C g8 (vin_l (by decide) (by decide)) dX3_readsMist_93 (by decide) (fun t93 => ?_) (fun t93 => ?_)
        · have hf := (if_neg t93).symm.trans hf
          refine lv_aload_n hx hb dX3_readsMist_104 rfl (lv_at hl 0 rfl) ?_
          obtain ⟨q9, hq9, hf⟩ := bi_s hf
          refine bk_VI (wf := cw) (q0 := 2) (ci := 3) (rest := []) [] C hP hD hS hl.1 (c_X3_endsLine_2 hXo hq9) (cwA_V 0 hts wa_359 wa_356 wa_357 wa_358 wa_18 rfl rfl nd_X3_endsLine ⟨Nat.le_of_ble_eq_true rfl, Nat.le_of_ble_eq_true rfl⟩) rfl rfl rfl rfl (Nat.le_of_ble_eq_true rfl) dX3_readsMist_105 ⟨Nat.le_of_ble_eq_true rfl, Nat.le_of_ble_eq_true rfl⟩ (fun H locs hP hD hS => ?_)
          obtain ⟨g10, hf⟩ := gd_s hf
          cases hf
          exact bk_zret C hP hD hS (Decidable.not_not.mp g10) rfl dX3_readsMist_108
        · have hf := (if_pos t93).symm.trans hf
          refine lv_aload_n hx hb dX3_readsMist_96 rfl (lv_at hl 0 rfl) ?_
          refine lv_iconst (v := (2 : Int32)) hx hb dX3_readsMist_97 (by decide) ?_
          obtain ⟨q11, hq11, hf⟩ := bi_s hf
          refine bk_VI (wf := cw) (q0 := 2) (ci := 3) (rest := []) [.int (2 : Int32)] C hP hD hS hl.1 (c_X3_fails_2 hXo hq11) (cwA_V 1 hts wa_343 wa_340 wa_341 wa_342 wa_18 rfl rfl nd_X3_fails ⟨Nat.le_of_ble_eq_true rfl, Nat.le_of_ble_eq_true rfl⟩) rfl rfl rfl rfl (Nat.le_of_ble_eq_true rfl) dX3_readsMist_98 ⟨Nat.le_of_ble_eq_true rfl, Nat.le_of_ble_eq_true rfl⟩ (fun H locs hP hD hS => ?_)
          refine lv_goto (tgt := 108) hx hb dX3_readsMist_101 (by decide) ?_
          obtain ⟨g12, hf⟩ := gd_s hf
          cases hf
          exact bk_zret C hP hD hS (Decidable.not_not.mp g12) rfl dX3_readsMist_108
    · have hf := (if_pos t27).symm.trans hf
      refine lv_iconst (v := (0 : Int32)) hx hb dX3_readsMist_30 (by decide) ?_
      cases hf
      exact bk_zret C hP hD hS (by decide) rfl dX3_readsMist_31
  · have hf := (if_neg t7).symm.trans hf
    refine lv_aload_n hx hb dX3_readsMist_10 rfl (lv_at hl 0 rfl) ?_
    refine lv_iconst (v := (5 : Int32)) hx hb dX3_readsMist_11 (by decide) ?_
    obtain ⟨q13, hq13, hf⟩ := bi_s hf
    refine bk_VI (wf := cw) (q0 := 2) (ci := 3) (rest := []) [.int (5 : Int32)] C hP hD hS hl.1 (c_X3_fails_2 hXo hq13) (cwA_V 1 hts wa_343 wa_340 wa_341 wa_342 wa_18 rfl rfl nd_X3_fails ⟨Nat.le_of_ble_eq_true rfl, Nat.le_of_ble_eq_true rfl⟩) rfl rfl rfl rfl (Nat.le_of_ble_eq_true rfl) dX3_readsMist_12 ⟨Nat.le_of_ble_eq_true rfl, Nat.le_of_ble_eq_true rfl⟩ (fun H locs hP hD hS => ?_)
    obtain ⟨g14, hf⟩ := gd_s hf
    cases hf
    exact bk_zret C hP hD hS (Decidable.not_not.mp g14) rfl dX3_readsMist_15
theorem c_X3_readsMist_2 {N : Nat} {σ : Sg} {z : Int32 × Sg} (hX : xOK g X) (hf : f_X3_readsMist_2 N σ = some z) : MetI l yX3_readsMist (Cond.code yX3_readsMist cX3_readsMist 2 (some .boolean) :: wsA) rm_X3_readsMist_2 cw g X [.ref (g.2.2 2)] σ z.1 z.2 :=
  MetI_of hX (by decide) (Nat.le_of_ble_eq_true rfl) (fun p e s m args below meth c A C => b_X3_readsMist_2 C hf)
end GEN
