section GEN
variable {p : Program} {l : Launch} {e : Env} {s : State} {m : MethodId} {args : Array Value} {below : List Frame} {meth : Method} {c : Code} {g : WG} {A : Nat → Prop} {X : Xt} {Q : State → Prop}
-- X12_aTick: aTick()V
abbrev rm_X12_aTick : Room := { frames := 5, cells := 0, slots := 0, locals := 116 }
theorem nd_X12_aTick : yX12_aTick.cls ≠ "java/lang/invoke/MethodHandle" ∧ yX12_aTick.cls ≠ "java/lang/invoke/VarHandle" ∧ (parseMethodDescriptor yX12_aTick.desc).map (fun d => d.parameters.length) = some 0 := by decide +kernel
def f_X12_aTick_b221 (N : Nat) (x1 : Int32) (σ : Sg) : Option (Nat × Int32 × Sg) :=
bd (x1 + (1 : Int32)) fun v1 =>
some (0, v1, σ)
set_option maxHeartbeats 4000000 in
set_option maxRecDepth 100000 in
theorem b_X12_aTick_b221 {N : Nat} {x1 : Int32} {σ : Sg} {z : Nat × Int32 × Sg} (C : Cx p s m args meth c cX12_aTick 3 none RX12 g A X) (hf : f_X12_aTick_b221 N x1 σ = some z) (k0 : z.1 = 0 → Bk mw p l e rm_X12_aTick s m args below meth c 3 g A Q 0 0 131 [(0, .ref (g.2.2 0)), (1, .int z.2.1)] [] z.2.2) (k : ¬ z.1 = 0 → Bk mw p l e rm_X12_aTick s m args below meth c 3 g A Q 0 0 227 [(0, .ref (g.2.2 0))] [] z.2.2) : Bk mw p l e rm_X12_aTick s m args below meth c 3 g A Q 0 0 221 [(0, .ref (g.2.2 0)), (1, .int x1)] [] σ := by
  obtain ⟨hx, hb, hr, hml, hown, hts, hK, hlocks, hXX, hA, hXo⟩ := id C
  intro H locs ls hP hD hS hl
  unfold f_X12_aTick_b221 at hf
  obtain ⟨v1, ev1, hf⟩ := bd_s hf
  refine lv_iinc (v := v1) (lv' := [(1, .int v1), (0, .ref (g.2.2 0))]) hx hb dX12_aTick_221 hl (k := 1) rfl (by rw [ev1]; rfl) (by decide) rfl (fun ls hl => ?_)
  refine lv_goto (tgt := 131) hx hb dX12_aTick_224 (by decide) ?_
  cases hf
  exact k0 rfl H locs ls hP hD hS (lv_sub hl [1, 0] rfl)
def s_X12_aTick_h131 (N : Nat) (x1 : Int32) (σ : Sg) : Option (Nat × Int32 × Sg) :=
if (σ 3 0) ≤ x1 then (some (1, 0, σ))
else (if (σ 0 35) = 0 then (some (1, 0, σ))
else (if (x1 < 0 ∨ 9 ≤ x1.toNatClampNeg) then none else
if 0 < (σ 13 x1.toNatClampNeg) then (f_X12_aTick_b221 N x1 σ)
else (if (x1 < 0 ∨ 9 ≤ x1.toNatClampNeg) then none else
if 0 < (σ 14 x1.toNatClampNeg) then (f_X12_aTick_b221 N x1 σ)
else ((f_X12_isOf N ((σ 0 29) ||| (σ 0 35)) x1 σ).bind fun q4 =>
if q4.1 = 0 then ((f_X12_seesOf N x1 (q4.2)).bind fun q5 =>
bd (q5.1 &&& ((q5.2) 0 35)) fun v6 =>
if v6 = 0 then (f_X12_aTick_b221 N x1 (q5.2))
else ((f_X12_minds N x1 v6 (q5.2)).bind fun q7 =>
if q7.1 = 0 then (f_X12_aTick_b221 N x1 (q7.2))
else (if (x1 < 0 ∨ 18 ≤ x1.toNatClampNeg) then none else
if (x1 < 0 ∨ 9 ≤ x1.toNatClampNeg) then none else
bd (wr (q7.2) 13 (x1.toNatClampNeg) ((q7.2) 8 x1.toNatClampNeg)) fun σ10 =>
f_X12_aTick_b221 N x1 σ10)))
else (f_X12_aTick_b221 N x1 (q4.2))))))
set_option maxHeartbeats 4000000 in
set_option maxRecDepth 100000 in
theorem e_X12_aTick_h131 {N : Nat} {x1 : Int32} {σ : Sg} {z : Nat × Int32 × Sg} (C : Cx p s m args meth c cX12_aTick 3 none RX12 g A X) (hf : s_X12_aTick_h131 N x1 σ = some z) (k0 : z.1 = 0 → Bk mw p l e rm_X12_aTick s m args below meth c 3 g A Q 0 0 131 [(0, .ref (g.2.2 0)), (1, .int z.2.1)] [] z.2.2) (k : ¬ z.1 = 0 → Bk mw p l e rm_X12_aTick s m args below meth c 3 g A Q 0 0 227 [(0, .ref (g.2.2 0))] [] z.2.2) : Bk mw p l e rm_X12_aTick s m args below meth c 3 g A Q 0 0 131 [(0, .ref (g.2.2 0)), (1, .int x1)] [] σ := by
  obtain ⟨hx, hb, hr, hml, hown, hts, hK, hlocks, hXX, hA, hXo⟩ := id C
  intro H locs ls hP hD hS hl
  unfold s_X12_aTick_h131 at hf
  refine lv_iload_n hx hb dX12_aTick_131 rfl (lv_at hl 1 rfl) ?_
  refine lv_aload_n hx hb dX12_aTick_132 rfl (lv_at hl 0 rfl) ?_
  refine bk_get (wf := mw) (q0 := 0) (ci := 11) (k := 3) (v := .ref (g.2.2 3)) C hP wl_X12 rfl rfl (by decide) wa_157 rfl rfl dX12_aTick_133 ?_
  refine lv_iconst (v := (0 : Int32)) hx hb dX12_aTick_136 (by decide) ?_
  refine bk_iald (wf := mw) (q0 := 3) (n := 10) (j := 0) C hP rfl (vin_l (by decide) (by decide)) (by decide) dX12_aTick_137 ?_
  refine lv_icmp_ge (tgt := 227) hx hb dX12_aTick_138 (by decide) (fun t138 => ?_) (fun t138 => ?_)
  · have hf := (if_pos t138).symm.trans hf
    cases hf
    exact (k (show ¬ (1 : Nat) = 0 by decide)) H locs ls hP hD hS (lv_sub hl [0] rfl)
  · have hf := (if_neg t138).symm.trans hf
    refine lv_aload_n hx hb dX12_aTick_141 rfl (lv_at hl 0 rfl) ?_
    refine bk_get (wf := mw) (q0 := 0) (ci := 11) (k := 35) (v := .int (σ 0 35)) C hP wl_X12 rfl rfl (by decide) wa_904 rfl rfl dX12_aTick_142 ?_
    refine lv_if_eq (tgt := 227) hx hb dX12_aTick_145 (by decide) (fun t145 => ?_) (fun t145 => ?_)
    · have hf := (if_pos t145).symm.trans hf
      cases hf
      exact (k (show ¬ (1 : Nat) = 0 by decide)) H locs ls hP hD hS (lv_sub hl [0] rfl)
    · have hf := (if_neg t145).symm.trans hf
      refine lv_aload_n hx hb dX12_aTick_148 rfl (lv_at hl 0 rfl) ?_
      refine bk_get (wf := mw) (q0 := 0) (ci := 11) (k := 23) (v := .ref (g.2.2 13)) C hP wl_X12 rfl rfl (by decide) wa_168 rfl rfl dX12_aTick_149 ?_
      refine lv_iload_n hx hb dX12_aTick_152 rfl (lv_at hl 1 rfl) ?_
      obtain ⟨g2, hf⟩ := gd_s hf
      refine bk_iald (wf := mw) (q0 := 13) (n := 9) (j := x1.toNatClampNeg) C hP rfl g2 rfl dX12_aTick_153 ?_
      refine lv_if_gt (tgt := 221) hx hb dX12_aTick_154 (by decide) (fun t154 => ?_) (fun t154 => ?_)
      · have hf := (if_pos t154).symm.trans hf
        exact b_X12_aTick_b221 C hf k0 k H locs ls hP hD hS (lv_sub hl [0, 1] rfl)
      · have hf := (if_neg t154).symm.trans hf
        refine lv_aload_n hx hb dX12_aTick_157 rfl (lv_at hl 0 rfl) ?_
        refine bk_get (wf := mw) (q0 := 0) (ci := 11) (k := 24) (v := .ref (g.2.2 14)) C hP wl_X12 rfl rfl (by decide) wa_169 rfl rfl dX12_aTick_158 ?_
        refine lv_iload_n hx hb dX12_aTick_161 rfl (lv_at hl 1 rfl) ?_
        obtain ⟨g3, hf⟩ := gd_s hf
        refine bk_iald (wf := mw) (q0 := 14) (n := 9) (j := x1.toNatClampNeg) C hP rfl g3 rfl dX12_aTick_162 ?_
        refine lv_if_gt (tgt := 221) hx hb dX12_aTick_163 (by decide) (fun t163 => ?_) (fun t163 => ?_)
        · have hf := (if_pos t163).symm.trans hf
          exact b_X12_aTick_b221 C hf k0 k H locs ls hP hD hS (lv_sub hl [0, 1] rfl)
        · have hf := (if_neg t163).symm.trans hf
          refine lv_aload_n hx hb dX12_aTick_166 rfl (lv_at hl 0 rfl) ?_
          refine bk_get (wf := mw) (q0 := 0) (ci := 11) (k := 29) (v := .int (σ 0 29)) C hP wl_X12 rfl rfl (by decide) wa_614 rfl rfl dX12_aTick_167 ?_
          refine lv_aload_n hx hb dX12_aTick_170 rfl (lv_at hl 0 rfl) ?_
          refine bk_get (wf := mw) (q0 := 0) (ci := 11) (k := 35) (v := .int (σ 0 35)) C hP wl_X12 rfl rfl (by decide) wa_904 rfl rfl dX12_aTick_171 ?_
          refine lv_ior hx hb dX12_aTick_174 ?_
          refine lv_iload_n hx hb dX12_aTick_175 rfl (lv_at hl 1 rfl) ?_
          obtain ⟨q4, hq4, hf⟩ := bi_s hf
          refine bk_SI (wf := mw) (rest := []) [.int ((σ 0 29) ||| (σ 0 35)), .int x1] C hP hD hS hl.1 (c_X12_isOf hXo hq4) (cwA_S 2 hts wa_726 wa_724 wa_725 wa_5 rfl rfl nd_X12_isOf ⟨Nat.le_of_ble_eq_true rfl, Nat.le_of_ble_eq_true rfl⟩) rfl rfl (Nat.le_of_ble_eq_true rfl) dX12_aTick_176 ⟨Nat.le_of_ble_eq_true rfl, Nat.le_of_ble_eq_true rfl⟩ (fun H locs hP hD hS => ?_)
          refine lv_if_eq (tgt := 185) hx hb dX12_aTick_179 (by decide) (fun t179 => ?_) (fun t179 => ?_)
          · have hf := (if_pos t179).symm.trans hf
            refine lv_aload_n hx hb dX12_aTick_185 rfl (lv_at hl 0 rfl) ?_
            refine lv_iload_n hx hb dX12_aTick_186 rfl (lv_at hl 1 rfl) ?_
            obtain ⟨q5, hq5, hf⟩ := bi_s hf
            refine bk_VI (wf := mw) (q0 := 0) (ci := 11) (rest := []) [.int x1] C hP hD hS hl.1 (c_X12_seesOf hXo hq5) (cwA_V 1 hts wa_734 wa_731 wa_732 wa_733 wa_5 rfl rfl nd_X12_seesOf ⟨Nat.le_of_ble_eq_true rfl, Nat.le_of_ble_eq_true rfl⟩) rfl rfl rfl rfl (Nat.le_of_ble_eq_true rfl) dX12_aTick_187 ⟨Nat.le_of_ble_eq_true rfl, Nat.le_of_ble_eq_true rfl⟩ (fun H locs hP hD hS => ?_)
            refine lv_aload_n hx hb dX12_aTick_190 rfl (lv_at hl 0 rfl) ?_
            refine bk_get (wf := mw) (q0 := 0) (ci := 11) (k := 35) (v := .int ((q5.2) 0 35)) C hP wl_X12 rfl rfl (by decide) wa_904 rfl rfl dX12_aTick_191 ?_
            refine lv_iand hx hb dX12_aTick_194 ?_
            obtain ⟨v6, ev6, hf⟩ := bd_s hf
            rw [← ev6]
            refine lv_istore_n (lv' := [(2, .int v6), (0, .ref (g.2.2 0)), (1, .int x1)]) hx hb dX12_aTick_195 rfl hl (by decide) rfl (fun ls hl => ?_)
            refine lv_iload_n hx hb dX12_aTick_196 rfl (lv_at hl 0 rfl) ?_
            refine lv_if_eq (tgt := 221) hx hb dX12_aTick_197 (by decide) (fun t197 => ?_) (fun t197 => ?_)
            · have hf := (if_pos t197).symm.trans hf
              exact b_X12_aTick_b221 C hf k0 k H locs ls hP hD hS (lv_sub hl [1, 2] rfl)
            · have hf := (if_neg t197).symm.trans hf
              refine lv_aload_n hx hb dX12_aTick_200 rfl (lv_at hl 1 rfl) ?_
              refine lv_iload_n hx hb dX12_aTick_201 rfl (lv_at hl 2 rfl) ?_
              refine lv_iload_n hx hb dX12_aTick_202 rfl (lv_at hl 0 rfl) ?_
              obtain ⟨q7, hq7, hf⟩ := bi_s hf
              refine bk_VI (wf := mw) (q0 := 0) (ci := 11) (rest := []) [.int x1, .int v6] C hP hD hS hl.1 (c_X12_minds hXo hq7) (cwA_V 2 hts wa_908 wa_905 wa_906 wa_907 wa_5 rfl rfl nd_X12_minds ⟨Nat.le_of_ble_eq_true rfl, Nat.le_of_ble_eq_true rfl⟩) rfl rfl rfl rfl (Nat.le_of_ble_eq_true rfl) dX12_aTick_203 ⟨Nat.le_of_ble_eq_true rfl, Nat.le_of_ble_eq_true rfl⟩ (fun H locs hP hD hS => ?_)
              refine lv_if_eq (tgt := 221) hx hb dX12_aTick_206 (by decide) (fun t206 => ?_) (fun t206 => ?_)
              · have hf := (if_pos t206).symm.trans hf
                exact b_X12_aTick_b221 C hf k0 k H locs ls hP hD hS (lv_sub hl [1, 2] rfl)
              · have hf := (if_neg t206).symm.trans hf
                refine lv_aload_n hx hb dX12_aTick_209 rfl (lv_at hl 1 rfl) ?_
                refine bk_get (wf := mw) (q0 := 0) (ci := 11) (k := 23) (v := .ref (g.2.2 13)) C hP wl_X12 rfl rfl (by decide) wa_168 rfl rfl dX12_aTick_210 ?_
                refine lv_iload_n hx hb dX12_aTick_213 rfl (lv_at hl 2 rfl) ?_
                refine lv_aload_n hx hb dX12_aTick_214 rfl (lv_at hl 1 rfl) ?_
                refine bk_get (wf := mw) (q0 := 0) (ci := 11) (k := 8) (v := .ref (g.2.2 8)) C hP wl_X12 rfl rfl (by decide) wa_162 rfl rfl dX12_aTick_215 ?_
                refine lv_iload_n hx hb dX12_aTick_218 rfl (lv_at hl 2 rfl) ?_
                obtain ⟨g8, hf⟩ := gd_s hf
                refine bk_iald (wf := mw) (q0 := 8) (n := 18) (j := x1.toNatClampNeg) C hP rfl g8 rfl dX12_aTick_219 ?_
                obtain ⟨g9, hf⟩ := gd_s hf
                obtain ⟨σ10, eσ10, hf⟩ := bd_s hf
                refine bk_iast (wf := mw) (σ1 := σ10) (q0 := 13) (n := 9) (j := x1.toNatClampNeg) C hP hD hS rfl g9 rfl (by rw [eσ10]; exact mw_a13 g _ _ _) dX12_aTick_220 (fun H locs hP hD hS => ?_)
                exact b_X12_aTick_b221 C hf k0 k H locs ls hP hD hS (lv_sub hl [1, 2] rfl)
          · have hf := (if_neg t179).symm.trans hf
            refine lv_goto (tgt := 221) hx hb dX12_aTick_182 (by decide) ?_
            exact b_X12_aTick_b221 C hf k0 k H locs ls hP hD hS (lv_sub hl [0, 1] rfl)
theorem lp_X12_aTick_h131 {N : Nat} {n : Nat} {x1 : Int32} {σ : Sg} {z : Nat × Int32 × Sg} (C : Cx p s m args meth c cX12_aTick 3 none RX12 g A X) (hz : it (fun q => s_X12_aTick_h131 N q.1 q.2) n (x1, σ) = some z) (k : Bk mw p l e rm_X12_aTick s m args below meth c 3 g A Q 0 0 227 [(0, .ref (g.2.2 0))] [] z.2.2) : Bk mw p l e rm_X12_aTick s m args below meth c 3 g A Q 0 0 131 [(0, .ref (g.2.2 0)), (1, .int x1)] [] σ :=
  it_W (S := Int32 × Sg) (fun q => Bk mw p l e rm_X12_aTick s m args below meth c 3 g A Q 0 0 131 [(0, .ref (g.2.2 0)), (1, .int q.1)] [] q.2) (fun z => Bk mw p l e rm_X12_aTick s m args below meth c 3 g A Q 0 0 227 [(0, .ref (g.2.2 0))] [] z.2.2) (fun q z hq k0 k => e_X12_aTick_h131 C hq k0 k) n (x1, σ) z hz k
def f_X12_aTick_b123 (N : Nat) (x1 : Int32) (σ : Sg) : Option (Nat × Int32 × Sg) :=
bd (x1 + (1 : Int32)) fun v11 =>
some (0, v11, σ)
set_option maxHeartbeats 4000000 in
set_option maxRecDepth 100000 in
theorem b_X12_aTick_b123 {N : Nat} {x1 : Int32} {σ : Sg} {z : Nat × Int32 × Sg} (C : Cx p s m args meth c cX12_aTick 3 none RX12 g A X) (hf : f_X12_aTick_b123 N x1 σ = some z) (k0 : z.1 = 0 → Bk mw p l e rm_X12_aTick s m args below meth c 3 g A Q 0 0 7 [(0, .ref (g.2.2 0)), (1, .int z.2.1)] [] z.2.2) (k : ¬ z.1 = 0 → Bk mw p l e rm_X12_aTick s m args below meth c 3 g A Q 0 0 129 [(0, .ref (g.2.2 0))] [] z.2.2) : Bk mw p l e rm_X12_aTick s m args below meth c 3 g A Q 0 0 123 [(0, .ref (g.2.2 0)), (1, .int x1)] [] σ := by
  obtain ⟨hx, hb, hr, hml, hown, hts, hK, hlocks, hXX, hA, hXo⟩ := id C
  intro H locs ls hP hD hS hl
  unfold f_X12_aTick_b123 at hf
  obtain ⟨v11, ev11, hf⟩ := bd_s hf
  refine lv_iinc (v := v11) (lv' := [(1, .int v11), (0, .ref (g.2.2 0))]) hx hb dX12_aTick_123 hl (k := 1) rfl (by rw [ev11]; rfl) (by decide) rfl (fun ls hl => ?_)
  refine lv_goto (tgt := 7) hx hb dX12_aTick_126 (by decide) ?_
  cases hf
  exact k0 rfl H locs ls hP hD hS (lv_sub hl [1, 0] rfl)
def s_X12_aTick_h7 (N : Nat) (x1 : Int32) (σ : Sg) : Option (Nat × Int32 × Sg) :=
if (σ 3 0) ≤ x1 then (some (1, 0, σ))
else (if (x1 < 0 ∨ 9 ≤ x1.toNatClampNeg) then none else
if (σ 13 x1.toNatClampNeg) = (1 : Int32) then (bd (wr σ 0 35 ((σ 0 35) ||| ((1 : Int32) <<< (x1 &&& 31)))) fun σ21 =>
if (x1 < 0 ∨ 9 ≤ x1.toNatClampNeg) then none else
bd (wr σ21 13 (x1.toNatClampNeg) (0 : Int32)) fun σ23 =>
if (x1 < 0 ∨ 9 ≤ x1.toNatClampNeg) then none else
bd (wr σ23 14 (x1.toNatClampNeg) (σ23 3 2)) fun σ25 =>
if (x1 < 0 ∨ 9 ≤ x1.toNatClampNeg) then none else
if (x1 < 0 ∨ 9 ≤ x1.toNatClampNeg) then none else
bd (wr σ25 15 (x1.toNatClampNeg) (if ((σ25 15 x1.toNatClampNeg) + (1 : Int32)) < (999 : Int32) then ((σ25 15 x1.toNatClampNeg) + (1 : Int32)) else (999 : Int32))) fun σ28 =>
f_X12_aTick_b123 N x1 σ28)
else (if (x1 < 0 ∨ 9 ≤ x1.toNatClampNeg) then none else
if (σ 13 x1.toNatClampNeg) ≤ (1 : Int32) then (if (x1 < 0 ∨ 9 ≤ x1.toNatClampNeg) then none else
if (σ 14 x1.toNatClampNeg) ≤ 0 then (f_X12_aTick_b123 N x1 σ)
else (if (x1 < 0 ∨ 9 ≤ x1.toNatClampNeg) then none else
if (x1 < 0 ∨ 9 ≤ x1.toNatClampNeg) then none else
bd (wr σ 14 (x1.toNatClampNeg) ((σ 14 x1.toNatClampNeg) - (1 : Int32))) fun σ17 =>
f_X12_aTick_b123 N x1 σ17))
else (if (x1 < 0 ∨ 9 ≤ x1.toNatClampNeg) then none else
if (x1 < 0 ∨ 9 ≤ x1.toNatClampNeg) then none else
bd (wr σ 13 (x1.toNatClampNeg) ((σ 13 x1.toNatClampNeg) - (1 : Int32))) fun σ20 =>
f_X12_aTick_b123 N x1 σ20)))
set_option maxHeartbeats 4000000 in
set_option maxRecDepth 100000 in
theorem e_X12_aTick_h7 {N : Nat} {x1 : Int32} {σ : Sg} {z : Nat × Int32 × Sg} (C : Cx p s m args meth c cX12_aTick 3 none RX12 g A X) (hf : s_X12_aTick_h7 N x1 σ = some z) (k0 : z.1 = 0 → Bk mw p l e rm_X12_aTick s m args below meth c 3 g A Q 0 0 7 [(0, .ref (g.2.2 0)), (1, .int z.2.1)] [] z.2.2) (k : ¬ z.1 = 0 → Bk mw p l e rm_X12_aTick s m args below meth c 3 g A Q 0 0 129 [(0, .ref (g.2.2 0))] [] z.2.2) : Bk mw p l e rm_X12_aTick s m args below meth c 3 g A Q 0 0 7 [(0, .ref (g.2.2 0)), (1, .int x1)] [] σ := by
  obtain ⟨hx, hb, hr, hml, hown, hts, hK, hlocks, hXX, hA, hXo⟩ := id C
  intro H locs ls hP hD hS hl
  unfold s_X12_aTick_h7 at hf
  refine lv_iload_n hx hb dX12_aTick_7 rfl (lv_at hl 1 rfl) ?_
  refine lv_aload_n hx hb dX12_aTick_8 rfl (lv_at hl 0 rfl) ?_
  refine bk_get (wf := mw) (q0 := 0) (ci := 11) (k := 3) (v := .ref (g.2.2 3)) C hP wl_X12 rfl rfl (by decide) wa_157 rfl rfl dX12_aTick_9 ?_
  refine lv_iconst (v := (0 : Int32)) hx hb dX12_aTick_12 (by decide) ?_
  refine bk_iald (wf := mw) (q0 := 3) (n := 10) (j := 0) C hP rfl (vin_l (by decide) (by decide)) (by decide) dX12_aTick_13 ?_
  refine lv_icmp_ge (tgt := 129) hx hb dX12_aTick_14 (by decide) (fun t14 => ?_) (fun t14 => ?_)
  · have hf := (if_pos t14).symm.trans hf
    cases hf
    exact (k (show ¬ (1 : Nat) = 0 by decide)) H locs ls hP hD hS (lv_sub hl [0] rfl)
  · have hf := (if_neg t14).symm.trans hf
    refine lv_aload_n hx hb dX12_aTick_17 rfl (lv_at hl 0 rfl) ?_
    refine bk_get (wf := mw) (q0 := 0) (ci := 11) (k := 23) (v := .ref (g.2.2 13)) C hP wl_X12 rfl rfl (by decide) wa_168 rfl rfl dX12_aTick_18 ?_
    refine lv_iload_n hx hb dX12_aTick_21 rfl (lv_at hl 1 rfl) ?_
    obtain ⟨g12, hf⟩ := gd_s hf
    refine bk_iald (wf := mw) (q0 := 13) (n := 9) (j := x1.toNatClampNeg) C hP rfl g12 rfl dX12_aTick_22 ?_
    refine lv_iconst (v := (1 : Int32)) hx hb dX12_aTick_23 (by decide) ?_
    refine lv_icmp_ne (tgt := 81) hx hb dX12_aTick_24 (by decide) (fun t24 => ?_) (fun t24 => ?_)
    · have hf := (if_neg t24).symm.trans hf
      refine lv_aload_n hx hb dX12_aTick_81 rfl (lv_at hl 0 rfl) ?_
      refine bk_get (wf := mw) (q0 := 0) (ci := 11) (k := 23) (v := .ref (g.2.2 13)) C hP wl_X12 rfl rfl (by decide) wa_168 rfl rfl dX12_aTick_82 ?_
      refine lv_iload_n hx hb dX12_aTick_85 rfl (lv_at hl 1 rfl) ?_
      obtain ⟨g13, hf⟩ := gd_s hf
      refine bk_iald (wf := mw) (q0 := 13) (n := 9) (j := x1.toNatClampNeg) C hP rfl g13 rfl dX12_aTick_86 ?_
      refine lv_iconst (v := (1 : Int32)) hx hb dX12_aTick_87 (by decide) ?_
      refine lv_icmp_le (tgt := 104) hx hb dX12_aTick_88 (by decide) (fun t88 => ?_) (fun t88 => ?_)
      · have hf := (if_pos t88).symm.trans hf
        refine lv_aload_n hx hb dX12_aTick_104 rfl (lv_at hl 0 rfl) ?_
        refine bk_get (wf := mw) (q0 := 0) (ci := 11) (k := 24) (v := .ref (g.2.2 14)) C hP wl_X12 rfl rfl (by decide) wa_169 rfl rfl dX12_aTick_105 ?_
        refine lv_iload_n hx hb dX12_aTick_108 rfl (lv_at hl 1 rfl) ?_
        obtain ⟨g14, hf⟩ := gd_s hf
        refine bk_iald (wf := mw) (q0 := 14) (n := 9) (j := x1.toNatClampNeg) C hP rfl g14 rfl dX12_aTick_109 ?_
        refine lv_if_le (tgt := 123) hx hb dX12_aTick_110 (by decide) (fun t110 => ?_) (fun t110 => ?_)
        · have hf := (if_pos t110).symm.trans hf
          exact b_X12_aTick_b123 C hf k0 k H locs ls hP hD hS (lv_sub hl [0, 1] rfl)
        · have hf := (if_neg t110).symm.trans hf
          refine lv_aload_n hx hb dX12_aTick_113 rfl (lv_at hl 0 rfl) ?_
          refine bk_get (wf := mw) (q0 := 0) (ci := 11) (k := 24) (v := .ref (g.2.2 14)) C hP wl_X12 rfl rfl (by decide) wa_169 rfl rfl dX12_aTick_114 ?_
          refine lv_iload_n hx hb dX12_aTick_117 rfl (lv_at hl 1 rfl) ?_
          refine lv_dup2_11 hx hb dX12_aTick_118 rfl rfl ?_
          obtain ⟨g15, hf⟩ := gd_s hf
          refine bk_iald (wf := mw) (q0 := 14) (n := 9) (j := x1.toNatClampNeg) C hP rfl g15 rfl dX12_aTick_119 ?_
          refine lv_iconst (v := (1 : Int32)) hx hb dX12_aTick_120 (by decide) ?_
          refine lv_isub hx hb dX12_aTick_121 ?_
          obtain ⟨g16, hf⟩ := gd_s hf
          obtain ⟨σ17, eσ17, hf⟩ := bd_s hf
          refine bk_iast (wf := mw) (σ1 := σ17) (q0 := 14) (n := 9) (j := x1.toNatClampNeg) C hP hD hS rfl g16 rfl (by rw [eσ17]; exact mw_a14 g _ _ _) dX12_aTick_122 (fun H locs hP hD hS => ?_)
          exact b_X12_aTick_b123 C hf k0 k H locs ls hP hD hS (lv_sub hl [0, 1] rfl)
      · have hf := (if_neg t88).symm.trans hf
        refine lv_aload_n hx hb dX12_aTick_91 rfl (lv_at hl 0 rfl) ?_
        refine bk_get (wf := mw) (q0 := 0) (ci := 11) (k := 23) (v := .ref (g.2.2 13)) C hP wl_X12 rfl rfl (by decide) wa_168 rfl rfl dX12_aTick_92 ?_
        refine lv_iload_n hx hb dX12_aTick_95 rfl (lv_at hl 1 rfl) ?_
        refine lv_dup2_11 hx hb dX12_aTick_96 rfl rfl ?_
        obtain ⟨g18, hf⟩ := gd_s hf
        refine bk_iald (wf := mw) (q0 := 13) (n := 9) (j := x1.toNatClampNeg) C hP rfl g18 rfl dX12_aTick_97 ?_
        refine lv_iconst (v := (1 : Int32)) hx hb dX12_aTick_98 (by decide) ?_
        refine lv_isub hx hb dX12_aTick_99 ?_
        obtain ⟨g19, hf⟩ := gd_s hf
        obtain ⟨σ20, eσ20, hf⟩ := bd_s hf
        refine bk_iast (wf := mw) (σ1 := σ20) (q0 := 13) (n := 9) (j := x1.toNatClampNeg) C hP hD hS rfl g19 rfl (by rw [eσ20]; exact mw_a13 g _ _ _) dX12_aTick_100 (fun H locs hP hD hS => ?_)
        refine lv_goto (tgt := 123) hx hb dX12_aTick_101 (by decide) ?_
        exact b_X12_aTick_b123 C hf k0 k H locs ls hP hD hS (lv_sub hl [0, 1] rfl)
    · have hf := (if_pos t24).symm.trans hf
      refine lv_aload_n hx hb dX12_aTick_27 rfl (lv_at hl 0 rfl) ?_
      refine lv_dup hx hb dX12_aTick_28 rfl ?_
      refine bk_get (wf := mw) (q0 := 0) (ci := 11) (k := 35) (v := .int (σ 0 35)) C hP wl_X12 rfl rfl (by decide) wa_904 rfl rfl dX12_aTick_29 ?_
      refine lv_iconst (v := (1 : Int32)) hx hb dX12_aTick_32 (by decide) ?_
      refine lv_iload_n hx hb dX12_aTick_33 rfl (lv_at hl 1 rfl) ?_
      refine lv_ishl hx hb dX12_aTick_34 ?_
      refine lv_ior hx hb dX12_aTick_35 ?_
      obtain ⟨σ21, eσ21, hf⟩ := bd_s hf
      refine bk_put (wf := mw) (σ1 := σ21) (q0 := 0) (ci := 11) (k := 35) (v := .int ((σ 0 35) ||| ((1 : Int32) <<< (x1 &&& 31)))) C hP hD hS wl_X12 tyX12_ok nmX12 rfl rfl (by decide) wa_904 rfl rfl rfl rfl rfl (Nat.le_of_ble_eq_true rfl) (by rw [eσ21]; exact mw_p0_35 g _ _) dX12_aTick_36 (fun H locs hP hD hS => ?_)
      refine lv_aload_n hx hb dX12_aTick_39 rfl (lv_at hl 0 rfl) ?_
      refine bk_get (wf := mw) (q0 := 0) (ci := 11) (k := 23) (v := .ref (g.2.2 13)) C hP wl_X12 rfl rfl (by decide) wa_168 rfl rfl dX12_aTick_40 ?_
      refine lv_iload_n hx hb dX12_aTick_43 rfl (lv_at hl 1 rfl) ?_
      refine lv_iconst (v := (0 : Int32)) hx hb dX12_aTick_44 (by decide) ?_
      obtain ⟨g22, hf⟩ := gd_s hf
      obtain ⟨σ23, eσ23, hf⟩ := bd_s hf
      refine bk_iast (wf := mw) (σ1 := σ23) (q0 := 13) (n := 9) (j := x1.toNatClampNeg) C hP hD hS rfl g22 rfl (by rw [eσ23]; exact mw_a13 g _ _ _) dX12_aTick_45 (fun H locs hP hD hS => ?_)
      refine lv_aload_n hx hb dX12_aTick_46 rfl (lv_at hl 0 rfl) ?_
      refine bk_get (wf := mw) (q0 := 0) (ci := 11) (k := 24) (v := .ref (g.2.2 14)) C hP wl_X12 rfl rfl (by decide) wa_169 rfl rfl dX12_aTick_47 ?_
      refine lv_iload_n hx hb dX12_aTick_50 rfl (lv_at hl 1 rfl) ?_
      refine lv_aload_n hx hb dX12_aTick_51 rfl (lv_at hl 0 rfl) ?_
      refine bk_get (wf := mw) (q0 := 0) (ci := 11) (k := 3) (v := .ref (g.2.2 3)) C hP wl_X12 rfl rfl (by decide) wa_157 rfl rfl dX12_aTick_52 ?_
      refine lv_iconst (v := (2 : Int32)) hx hb dX12_aTick_55 (by decide) ?_
      refine bk_iald (wf := mw) (q0 := 3) (n := 10) (j := 2) C hP rfl (vin_l (by decide) (by decide)) (by decide) dX12_aTick_56 ?_
      obtain ⟨g24, hf⟩ := gd_s hf
      obtain ⟨σ25, eσ25, hf⟩ := bd_s hf
      refine bk_iast (wf := mw) (σ1 := σ25) (q0 := 14) (n := 9) (j := x1.toNatClampNeg) C hP hD hS rfl g24 rfl (by rw [eσ25]; exact mw_a14 g _ _ _) dX12_aTick_57 (fun H locs hP hD hS => ?_)
      refine lv_aload_n hx hb dX12_aTick_58 rfl (lv_at hl 0 rfl) ?_
      refine bk_get (wf := mw) (q0 := 0) (ci := 11) (k := 25) (v := .ref (g.2.2 15)) C hP wl_X12 rfl rfl (by decide) wa_170 rfl rfl dX12_aTick_59 ?_
      refine lv_iload_n hx hb dX12_aTick_62 rfl (lv_at hl 1 rfl) ?_
      refine lv_sipush (v := (999 : Int32)) hx hb dX12_aTick_63 (by decide) ?_
      refine lv_aload_n hx hb dX12_aTick_66 rfl (lv_at hl 0 rfl) ?_
      refine bk_get (wf := mw) (q0 := 0) (ci := 11) (k := 25) (v := .ref (g.2.2 15)) C hP wl_X12 rfl rfl (by decide) wa_170 rfl rfl dX12_aTick_67 ?_
      refine lv_iload_n hx hb dX12_aTick_70 rfl (lv_at hl 1 rfl) ?_
      obtain ⟨g26, hf⟩ := gd_s hf
      refine bk_iald (wf := mw) (q0 := 15) (n := 9) (j := x1.toNatClampNeg) C hP rfl g26 rfl dX12_aTick_71 ?_
      refine lv_iconst (v := (1 : Int32)) hx hb dX12_aTick_72 (by decide) ?_
      refine lv_iadd hx hb dX12_aTick_73 ?_
      refine va_mmin hx hb (hml.trans hl.1.symm) hown (hts _ wa_520) (hts _ wa_230) (hts _ wa_231) (hts _ wa_232) (Nat.le_of_ble_eq_true rfl) (Nat.le_of_ble_eq_true rfl) (Nat.le_of_ble_eq_true rfl) (Nat.le_of_ble_eq_true rfl) dX12_aTick_74 ?_
      obtain ⟨g27, hf⟩ := gd_s hf
      obtain ⟨σ28, eσ28, hf⟩ := bd_s hf
      refine bk_iast (wf := mw) (σ1 := σ28) (q0 := 15) (n := 9) (j := x1.toNatClampNeg) C hP hD hS rfl g27 rfl (by rw [eσ28]; exact mw_a15 g _ _ _) dX12_aTick_77 (fun H locs hP hD hS => ?_)
      refine lv_goto (tgt := 123) hx hb dX12_aTick_78 (by decide) ?_
      exact b_X12_aTick_b123 C hf k0 k H locs ls hP hD hS (lv_sub hl [0, 1] rfl)
theorem lp_X12_aTick_h7 {N : Nat} {n : Nat} {x1 : Int32} {σ : Sg} {z : Nat × Int32 × Sg} (C : Cx p s m args meth c cX12_aTick 3 none RX12 g A X) (hz : it (fun q => s_X12_aTick_h7 N q.1 q.2) n (x1, σ) = some z) (k : Bk mw p l e rm_X12_aTick s m args below meth c 3 g A Q 0 0 129 [(0, .ref (g.2.2 0))] [] z.2.2) : Bk mw p l e rm_X12_aTick s m args below meth c 3 g A Q 0 0 7 [(0, .ref (g.2.2 0)), (1, .int x1)] [] σ :=
  it_W (S := Int32 × Sg) (fun q => Bk mw p l e rm_X12_aTick s m args below meth c 3 g A Q 0 0 7 [(0, .ref (g.2.2 0)), (1, .int q.1)] [] q.2) (fun z => Bk mw p l e rm_X12_aTick s m args below meth c 3 g A Q 0 0 129 [(0, .ref (g.2.2 0))] [] z.2.2) (fun q z hq k0 k => e_X12_aTick_h7 C hq k0 k) n (x1, σ) z hz k
def f_X12_aTick (N : Nat) (σ : Sg) : Option (Sg) :=
bd (wr σ 0 35 (0 : Int32)) fun σ29 =>
(it (fun q => s_X12_aTick_h7 N q.1 q.2) N ((0 : Int32), σ29)).bind fun z30 =>
(it (fun q => s_X12_aTick_h131 N q.1 q.2) N ((0 : Int32), (z30.2.2))).bind fun z31 =>
bd (wr (z31.2.2) 0 28 (((z31.2.2) 0 28) + (1 : Int32))) fun σ32 =>
some σ32
set_option maxHeartbeats 4000000 in
set_option maxRecDepth 100000 in
theorem b_X12_aTick {N : Nat} {σ : Sg} {z : Sg} (C : Cx p s m args meth c cX12_aTick 3 none RX12 g A X) (hf : f_X12_aTick N σ = some z) : Bk mw p l e rm_X12_aTick s m args below meth c 3 g A (MQ below (qV mw g A z) args s 0 0 A) 0 0 0 [(0, .ref (g.2.2 0))] [] σ := by
  obtain ⟨hx, hb, hr, hml, hown, hts, hK, hlocks, hXX, hA, hXo⟩ := id C
  intro H locs ls hP hD hS hl
  unfold f_X12_aTick at hf
  refine lv_aload_n hx hb dX12_aTick_0 rfl (lv_at hl 0 rfl) ?_
  refine lv_iconst (v := (0 : Int32)) hx hb dX12_aTick_1 (by decide) ?_
  obtain ⟨σ29, eσ29, hf⟩ := bd_s hf
  refine bk_put (wf := mw) (σ1 := σ29) (q0 := 0) (ci := 11) (k := 35) (v := .int (0 : Int32)) C hP hD hS wl_X12 tyX12_ok nmX12 rfl rfl (by decide) wa_904 rfl rfl rfl rfl rfl (Nat.le_of_ble_eq_true rfl) (by rw [eσ29]; exact mw_p0_35 g _ _) dX12_aTick_2 (fun H locs hP hD hS => ?_)
  refine lv_iconst (v := (0 : Int32)) hx hb dX12_aTick_5 (by decide) ?_
  refine lv_istore_n (lv' := [(1, .int (0 : Int32)), (0, .ref (g.2.2 0))]) hx hb dX12_aTick_6 rfl hl (by decide) rfl (fun ls hl => ?_)
  obtain ⟨z30, hz30, hf⟩ := bi_s hf
  refine lp_X12_aTick_h7 C hz30 ?_ H locs ls hP hD hS (lv_sub hl [1, 0] rfl)
  intro H locs ls hP hD hS hl
  refine lv_iconst (v := (0 : Int32)) hx hb dX12_aTick_129 (by decide) ?_
  refine lv_istore_n (lv' := [(1, .int (0 : Int32)), (0, .ref (g.2.2 0))]) hx hb dX12_aTick_130 rfl hl (by decide) rfl (fun ls hl => ?_)
  obtain ⟨z31, hz31, hf⟩ := bi_s hf
  refine lp_X12_aTick_h131 C hz31 ?_ H locs ls hP hD hS (lv_sub hl [1, 0] rfl)
  intro H locs ls hP hD hS hl
  refine lv_aload_n hx hb dX12_aTick_227 rfl (lv_at hl 0 rfl) ?_
  refine lv_dup hx hb dX12_aTick_228 rfl ?_
  refine bk_get (wf := mw) (q0 := 0) (ci := 11) (k := 28) (v := .int ((z31.2.2) 0 28)) C hP wl_X12 rfl rfl (by decide) wa_613 rfl rfl dX12_aTick_229 ?_
  refine lv_iconst (v := (1 : Int32)) hx hb dX12_aTick_232 (by decide) ?_
  refine lv_iadd hx hb dX12_aTick_233 ?_
  obtain ⟨σ32, eσ32, hf⟩ := bd_s hf
  refine bk_put (wf := mw) (σ1 := σ32) (q0 := 0) (ci := 11) (k := 28) (v := .int (((z31.2.2) 0 28) + (1 : Int32))) C hP hD hS wl_X12 tyX12_ok nmX12 rfl rfl (by decide) wa_613 rfl rfl rfl rfl rfl (Nat.le_of_ble_eq_true rfl) (by rw [eσ32]; exact mw_p0_28 g _ _) dX12_aTick_234 (fun H locs hP hD hS => ?_)
  cases hf
  exact bk_vret C hP hD hS rfl dX12_aTick_237
theorem c_X12_aTick {N : Nat} {σ : Sg} {z : Sg} (hX : xOK g X) (hf : f_X12_aTick N σ = some z) : MetV l yX12_aTick (Cond.code yX12_aTick cX12_aTick 3 none :: wsA) rm_X12_aTick mw g X [.ref (g.2.2 0)] σ z :=
  MetV_of hX (by decide) (Nat.le_of_ble_eq_true rfl) (fun p e s m args below meth c A C => b_X12_aTick C hf)
-- X12_goOn: goOn(I)V
abbrev rm_X12_goOn : Room := { frames := 6, cells := 0, slots := 0, locals := 138 }
theorem nd_X12_goOn : yX12_goOn.cls ≠ "java/lang/invoke/MethodHandle" ∧ yX12_goOn.cls ≠ "java/lang/invoke/VarHandle" ∧ (parseMethodDescriptor yX12_goOn.desc).map (fun d => d.parameters.length) = some 1 := by decide +kernel
def s_X12_goOn_h2 (N : Nat) (x1 : Int32) (x2 : Int32) (σ : Sg) : Option (Nat × Int32 × Sg) :=
if x1 ≤ x2 then (some (1, 0, σ))
else ((f_X12_aTick N σ).bind fun q1 =>
bd (x2 + (1 : Int32)) fun v2 =>
some (0, v2, q1))
set_option maxHeartbeats 4000000 in
set_option maxRecDepth 100000 in
theorem e_X12_goOn_h2 {N : Nat} {x1 : Int32} {x2 : Int32} {σ : Sg} {z : Nat × Int32 × Sg} (C : Cx p s m args meth c cX12_goOn 3 none RX12 g A X) (hf : s_X12_goOn_h2 N x1 x2 σ = some z) (k0 : z.1 = 0 → Bk mw p l e rm_X12_goOn s m args below meth c 3 g A Q 0 0 2 [(0, .ref (g.2.2 0)), (1, .int x1), (2, .int z.2.1)] [] z.2.2) (k : ¬ z.1 = 0 → Bk mw p l e rm_X12_goOn s m args below meth c 3 g A Q 0 0 17 [] [] z.2.2) : Bk mw p l e rm_X12_goOn s m args below meth c 3 g A Q 0 0 2 [(0, .ref (g.2.2 0)), (1, .int x1), (2, .int x2)] [] σ := by
  obtain ⟨hx, hb, hr, hml, hown, hts, hK, hlocks, hXX, hA, hXo⟩ := id C
  intro H locs ls hP hD hS hl
  unfold s_X12_goOn_h2 at hf
  refine lv_iload_n hx hb dX12_goOn_2 rfl (lv_at hl 2 rfl) ?_
  refine lv_iload_n hx hb dX12_goOn_3 rfl (lv_at hl 1 rfl) ?_
  refine lv_icmp_ge (tgt := 17) hx hb dX12_goOn_4 (by decide) (fun t4 => ?_) (fun t4 => ?_)
  · have hf := (if_pos t4).symm.trans hf
    cases hf
    exact (k (show ¬ (1 : Nat) = 0 by decide)) H locs ls hP hD hS (lv_sub hl [] rfl)
  · have hf := (if_neg t4).symm.trans hf
    refine lv_aload_n hx hb dX12_goOn_7 rfl (lv_at hl 0 rfl) ?_
    obtain ⟨q1, hq1, hf⟩ := bi_s hf
    refine bk_VV (wf := mw) (q0 := 0) (ci := 11) (rest := []) [] C hP hD hS hl.1 (c_X12_aTick hXo hq1) (cwA_V 0 hts wa_903 wa_900 wa_901 wa_902 wa_5 rfl rfl nd_X12_aTick ⟨Nat.le_of_ble_eq_true rfl, Nat.le_of_ble_eq_true rfl⟩) rfl rfl rfl rfl (Nat.le_of_ble_eq_true rfl) dX12_goOn_8 ⟨Nat.le_of_ble_eq_true rfl, Nat.le_of_ble_eq_true rfl⟩ (fun H locs hP hD hS => ?_)
    obtain ⟨v2, ev2, hf⟩ := bd_s hf
    refine lv_iinc (v := v2) (lv' := [(2, .int v2), (0, .ref (g.2.2 0)), (1, .int x1)]) hx hb dX12_goOn_11 hl (k := 2) rfl (by rw [ev2]; rfl) (by decide) rfl (fun ls hl => ?_)
    refine lv_goto (tgt := 2) hx hb dX12_goOn_14 (by decide) ?_
    cases hf
    exact k0 rfl H locs ls hP hD hS (lv_sub hl [1, 2, 0] rfl)
theorem lp_X12_goOn_h2 {N : Nat} {n : Nat} {x1 : Int32} {x2 : Int32} {σ : Sg} {z : Nat × Int32 × Sg} (C : Cx p s m args meth c cX12_goOn 3 none RX12 g A X) (hz : it (fun q => s_X12_goOn_h2 N x1 q.1 q.2) n (x2, σ) = some z) (k : Bk mw p l e rm_X12_goOn s m args below meth c 3 g A Q 0 0 17 [] [] z.2.2) : Bk mw p l e rm_X12_goOn s m args below meth c 3 g A Q 0 0 2 [(0, .ref (g.2.2 0)), (1, .int x1), (2, .int x2)] [] σ :=
  it_W (S := Int32 × Sg) (fun q => Bk mw p l e rm_X12_goOn s m args below meth c 3 g A Q 0 0 2 [(0, .ref (g.2.2 0)), (1, .int x1), (2, .int q.1)] [] q.2) (fun z => Bk mw p l e rm_X12_goOn s m args below meth c 3 g A Q 0 0 17 [] [] z.2.2) (fun q z hq k0 k => e_X12_goOn_h2 C hq k0 k) n (x2, σ) z hz k
def f_X12_goOn (N : Nat) (x1 : Int32) (σ : Sg) : Option (Sg) :=
(it (fun q => s_X12_goOn_h2 N x1 q.1 q.2) N ((0 : Int32), σ)).bind fun z3 =>
some (z3.2.2)
set_option maxHeartbeats 4000000 in
set_option maxRecDepth 100000 in
theorem b_X12_goOn {N : Nat} {x1 : Int32} {σ : Sg} {z : Sg} (C : Cx p s m args meth c cX12_goOn 3 none RX12 g A X) (hf : f_X12_goOn N x1 σ = some z) : Bk mw p l e rm_X12_goOn s m args below meth c 3 g A (MQ below (qV mw g A z) args s 0 0 A) 0 0 0 [(0, .ref (g.2.2 0)), (1, .int x1)] [] σ := by
  obtain ⟨hx, hb, hr, hml, hown, hts, hK, hlocks, hXX, hA, hXo⟩ := id C
  intro H locs ls hP hD hS hl
  unfold f_X12_goOn at hf
  refine lv_iconst (v := (0 : Int32)) hx hb dX12_goOn_0 (by decide) ?_
  refine lv_istore_n (lv' := [(2, .int (0 : Int32)), (0, .ref (g.2.2 0)), (1, .int x1)]) hx hb dX12_goOn_1 rfl hl (by decide) rfl (fun ls hl => ?_)
  obtain ⟨z3, hz3, hf⟩ := bi_s hf
  refine lp_X12_goOn_h2 C hz3 ?_ H locs ls hP hD hS (lv_sub hl [1, 2, 0] rfl)
  intro H locs ls hP hD hS hl
  cases hf
  exact bk_vret C hP hD hS rfl dX12_goOn_17
theorem c_X12_goOn {N : Nat} {x1 : Int32} {σ : Sg} {z : Sg} (hX : xOK g X) (hf : f_X12_goOn N x1 σ = some z) : MetV l yX12_goOn (Cond.code yX12_goOn cX12_goOn 3 none :: wsA) rm_X12_goOn mw g X [.ref (g.2.2 0), .int x1] σ z :=
  MetV_of hX (by decide) (Nat.le_of_ble_eq_true rfl) (fun p e s m args below meth c A C => b_X12_goOn C hf)
-- X12_waitingNow: waitingNow()I
abbrev rm_X12_waitingNow : Room := { frames := 0, cells := 0, slots := 0, locals := 0 }
theorem nd_X12_waitingNow : yX12_waitingNow.cls ≠ "java/lang/invoke/MethodHandle" ∧ yX12_waitingNow.cls ≠ "java/lang/invoke/VarHandle" ∧ (parseMethodDescriptor yX12_waitingNow.desc).map (fun d => d.parameters.length) = some 0 := by decide +kernel
def f_X12_waitingNow_b31 (N : Nat) (x2 : Int32) (t0 : Int32) (t1 : Int32) (σ : Sg) : Option (Nat × Int32 × Int32 × Sg) :=
bd (t0 ||| t1) fun v1 =>
bd (x2 + (1 : Int32)) fun v2 =>
some (0, v1, v2, σ)
set_option maxHeartbeats 4000000 in
set_option maxRecDepth 100000 in
theorem b_X12_waitingNow_b31 {N : Nat} {x2 : Int32} {t0 : Int32} {t1 : Int32} {σ : Sg} {z : Nat × Int32 × Int32 × Sg} (C : Cx p s m args meth c cX12_waitingNow 3 (some .int) RX12 g A X) (hf : f_X12_waitingNow_b31 N x2 t0 t1 σ = some z) (k0 : z.1 = 0 → Bk mw p l e rm_X12_waitingNow s m args below meth c 3 g A Q 0 0 4 [(0, .ref (g.2.2 0)), (1, .int z.2.1), (2, .int z.2.2.1)] [] z.2.2.2) (k : ¬ z.1 = 0 → Bk mw p l e rm_X12_waitingNow s m args below meth c 3 g A Q 0 0 39 [(1, .int z.2.1)] [] z.2.2.2) : Bk mw p l e rm_X12_waitingNow s m args below meth c 3 g A Q 0 0 31 [(0, .ref (g.2.2 0)), (2, .int x2)] [.int t1, .int t0] σ := by
  obtain ⟨hx, hb, hr, hml, hown, hts, hK, hlocks, hXX, hA, hXo⟩ := id C
  intro H locs ls hP hD hS hl
  unfold f_X12_waitingNow_b31 at hf
  refine lv_ior hx hb dX12_waitingNow_31 ?_
  obtain ⟨v1, ev1, hf⟩ := bd_s hf
  rw [← ev1]
  refine lv_istore_n (lv' := [(1, .int v1), (0, .ref (g.2.2 0)), (2, .int x2)]) hx hb dX12_waitingNow_32 rfl hl (by decide) rfl (fun ls hl => ?_)
  obtain ⟨v2, ev2, hf⟩ := bd_s hf
  refine lv_iinc (v := v2) (lv' := [(2, .int v2), (1, .int v1), (0, .ref (g.2.2 0))]) hx hb dX12_waitingNow_33 hl (k := 2) rfl (by rw [ev2]; rfl) (by decide) rfl (fun ls hl => ?_)
  refine lv_goto (tgt := 4) hx hb dX12_waitingNow_36 (by decide) ?_
  cases hf
  exact k0 rfl H locs ls hP hD hS (lv_sub hl [2, 1, 0] rfl)
def s_X12_waitingNow_h4 (N : Nat) (x1 : Int32) (x2 : Int32) (σ : Sg) : Option (Nat × Int32 × Int32 × Sg) :=
if (σ 3 0) ≤ x2 then (some (1, x1, 0, σ))
else (if (x2 < 0 ∨ 9 ≤ x2.toNatClampNeg) then none else
if (σ 13 x2.toNatClampNeg) ≤ 0 then (f_X12_waitingNow_b31 N x2 x1 (0 : Int32) σ)
else (f_X12_waitingNow_b31 N x2 x1 ((1 : Int32) <<< (x2 &&& 31)) σ))
set_option maxHeartbeats 4000000 in
set_option maxRecDepth 100000 in
theorem e_X12_waitingNow_h4 {N : Nat} {x1 : Int32} {x2 : Int32} {σ : Sg} {z : Nat × Int32 × Int32 × Sg} (C : Cx p s m args meth c cX12_waitingNow 3 (some .int) RX12 g A X) (hf : s_X12_waitingNow_h4 N x1 x2 σ = some z) (k0 : z.1 = 0 → Bk mw p l e rm_X12_waitingNow s m args below meth c 3 g A Q 0 0 4 [(0, .ref (g.2.2 0)), (1, .int z.2.1), (2, .int z.2.2.1)] [] z.2.2.2) (k : ¬ z.1 = 0 → Bk mw p l e rm_X12_waitingNow s m args below meth c 3 g A Q 0 0 39 [(1, .int z.2.1)] [] z.2.2.2) : Bk mw p l e rm_X12_waitingNow s m args below meth c 3 g A Q 0 0 4 [(0, .ref (g.2.2 0)), (1, .int x1), (2, .int x2)] [] σ := by
  obtain ⟨hx, hb, hr, hml, hown, hts, hK, hlocks, hXX, hA, hXo⟩ := id C
  intro H locs ls hP hD hS hl
  unfold s_X12_waitingNow_h4 at hf
  refine lv_iload_n hx hb dX12_waitingNow_4 rfl (lv_at hl 2 rfl) ?_
  refine lv_aload_n hx hb dX12_waitingNow_5 rfl (lv_at hl 0 rfl) ?_
  refine bk_get (wf := mw) (q0 := 0) (ci := 11) (k := 3) (v := .ref (g.2.2 3)) C hP wl_X12 rfl rfl (by decide) wa_157 rfl rfl dX12_waitingNow_6 ?_
  refine lv_iconst (v := (0 : Int32)) hx hb dX12_waitingNow_9 (by decide) ?_
  refine bk_iald (wf := mw) (q0 := 3) (n := 10) (j := 0) C hP rfl (vin_l (by decide) (by decide)) (by decide) dX12_waitingNow_10 ?_
  refine lv_icmp_ge (tgt := 39) hx hb dX12_waitingNow_11 (by decide) (fun t11 => ?_) (fun t11 => ?_)
  · have hf := (if_pos t11).symm.trans hf
    cases hf
    exact (k (show ¬ (1 : Nat) = 0 by decide)) H locs ls hP hD hS (lv_sub hl [1] rfl)
  · have hf := (if_neg t11).symm.trans hf
    refine lv_iload_n hx hb dX12_waitingNow_14 rfl (lv_at hl 1 rfl) ?_
    refine lv_aload_n hx hb dX12_waitingNow_15 rfl (lv_at hl 0 rfl) ?_
    refine bk_get (wf := mw) (q0 := 0) (ci := 11) (k := 23) (v := .ref (g.2.2 13)) C hP wl_X12 rfl rfl (by decide) wa_168 rfl rfl dX12_waitingNow_16 ?_
    refine lv_iload_n hx hb dX12_waitingNow_19 rfl (lv_at hl 2 rfl) ?_
    obtain ⟨g3, hf⟩ := gd_s hf
    refine bk_iald (wf := mw) (q0 := 13) (n := 9) (j := x2.toNatClampNeg) C hP rfl g3 rfl dX12_waitingNow_20 ?_
    refine lv_if_le (tgt := 30) hx hb dX12_waitingNow_21 (by decide) (fun t21 => ?_) (fun t21 => ?_)
    · have hf := (if_pos t21).symm.trans hf
      refine lv_iconst (v := (0 : Int32)) hx hb dX12_waitingNow_30 (by decide) ?_
      exact b_X12_waitingNow_b31 C hf k0 k H locs ls hP hD hS (lv_sub hl [0, 2] rfl)
    · have hf := (if_neg t21).symm.trans hf
      refine lv_iconst (v := (1 : Int32)) hx hb dX12_waitingNow_24 (by decide) ?_
      refine lv_iload_n hx hb dX12_waitingNow_25 rfl (lv_at hl 2 rfl) ?_
      refine lv_ishl hx hb dX12_waitingNow_26 ?_
      refine lv_goto (tgt := 31) hx hb dX12_waitingNow_27 (by decide) ?_
      exact b_X12_waitingNow_b31 C hf k0 k H locs ls hP hD hS (lv_sub hl [0, 2] rfl)
theorem lp_X12_waitingNow_h4 {N : Nat} {n : Nat} {x1 : Int32} {x2 : Int32} {σ : Sg} {z : Nat × Int32 × Int32 × Sg} (C : Cx p s m args meth c cX12_waitingNow 3 (some .int) RX12 g A X) (hz : it (fun q => s_X12_waitingNow_h4 N q.1 q.2.1 q.2.2) n (x1, x2, σ) = some z) (k : Bk mw p l e rm_X12_waitingNow s m args below meth c 3 g A Q 0 0 39 [(1, .int z.2.1)] [] z.2.2.2) : Bk mw p l e rm_X12_waitingNow s m args below meth c 3 g A Q 0 0 4 [(0, .ref (g.2.2 0)), (1, .int x1), (2, .int x2)] [] σ :=
  it_W (S := Int32 × Int32 × Sg) (fun q => Bk mw p l e rm_X12_waitingNow s m args below meth c 3 g A Q 0 0 4 [(0, .ref (g.2.2 0)), (1, .int q.1), (2, .int q.2.1)] [] q.2.2) (fun z => Bk mw p l e rm_X12_waitingNow s m args below meth c 3 g A Q 0 0 39 [(1, .int z.2.1)] [] z.2.2.2) (fun q z hq k0 k => e_X12_waitingNow_h4 C hq k0 k) n (x1, x2, σ) z hz k
def f_X12_waitingNow (N : Nat) (σ : Sg) : Option (Int32 × Sg) :=
(it (fun q => s_X12_waitingNow_h4 N q.1 q.2.1 q.2.2) N ((0 : Int32), (0 : Int32), σ)).bind fun z4 =>
some ((z4.2.1), (z4.2.2.2))
set_option maxHeartbeats 4000000 in
set_option maxRecDepth 100000 in
theorem b_X12_waitingNow {N : Nat} {σ : Sg} {z : Int32 × Sg} (C : Cx p s m args meth c cX12_waitingNow 3 (some .int) RX12 g A X) (hf : f_X12_waitingNow N σ = some z) : Bk mw p l e rm_X12_waitingNow s m args below meth c 3 g A (MQ below (qI mw g A z.1 z.2) args s 0 0 A) 0 0 0 [(0, .ref (g.2.2 0))] [] σ := by
  obtain ⟨hx, hb, hr, hml, hown, hts, hK, hlocks, hXX, hA, hXo⟩ := id C
  intro H locs ls hP hD hS hl
  unfold f_X12_waitingNow at hf
  refine lv_iconst (v := (0 : Int32)) hx hb dX12_waitingNow_0 (by decide) ?_
  refine lv_istore_n (lv' := [(1, .int (0 : Int32)), (0, .ref (g.2.2 0))]) hx hb dX12_waitingNow_1 rfl hl (by decide) rfl (fun ls hl => ?_)
  refine lv_iconst (v := (0 : Int32)) hx hb dX12_waitingNow_2 (by decide) ?_
  refine lv_istore_n (lv' := [(2, .int (0 : Int32)), (1, .int (0 : Int32)), (0, .ref (g.2.2 0))]) hx hb dX12_waitingNow_3 rfl hl (by decide) rfl (fun ls hl => ?_)
  obtain ⟨z4, hz4, hf⟩ := bi_s hf
  refine lp_X12_waitingNow_h4 C hz4 ?_ H locs ls hP hD hS (lv_sub hl [2, 1, 0] rfl)
  intro H locs ls hP hD hS hl
  refine lv_iload_n hx hb dX12_waitingNow_39 rfl (lv_at hl 0 rfl) ?_
  cases hf
  exact bk_iret C hP hD hS rfl dX12_waitingNow_40
theorem c_X12_waitingNow {N : Nat} {σ : Sg} {z : Int32 × Sg} (hX : xOK g X) (hf : f_X12_waitingNow N σ = some z) : MetI l yX12_waitingNow (Cond.code yX12_waitingNow cX12_waitingNow 3 (some .int) :: wsA) rm_X12_waitingNow mw g X [.ref (g.2.2 0)] σ z.1 z.2 :=
  MetI_of hX (by decide) (Nat.le_of_ble_eq_true rfl) (fun p e s m args below meth c A C => b_X12_waitingNow C hf)
-- X12_heldWith: heldWith(I)I
abbrev rm_X12_heldWith : Room := { frames := 5, cells := 0, slots := 0, locals := 116 }
theorem nd_X12_heldWith : yX12_heldWith.cls ≠ "java/lang/invoke/MethodHandle" ∧ yX12_heldWith.cls ≠ "java/lang/invoke/VarHandle" ∧ (parseMethodDescriptor yX12_heldWith.desc).map (fun d => d.parameters.length) = some 1 := by decide +kernel
def f_X12_heldWith_b50 (N : Nat) (x3 : Int32) (x4 : Int32) (t0 : Int32) (t1 : Int32) (σ : Sg) : Option (Nat × Int32 × Int32 × Sg) :=
bd (t0 ||| t1) fun v1 =>
bd (x4 + (1 : Int32)) fun v2 =>
some (0, v1, v2, σ)
set_option maxHeartbeats 4000000 in
set_option maxRecDepth 100000 in
theorem b_X12_heldWith_b50 {N : Nat} {x3 : Int32} {x4 : Int32} {t0 : Int32} {t1 : Int32} {σ : Sg} {z : Nat × Int32 × Int32 × Sg} (C : Cx p s m args meth c cX12_heldWith 5 (some .int) RX12 g A X) (hf : f_X12_heldWith_b50 N x3 x4 t0 t1 σ = some z) (k0 : z.1 = 0 → Bk mw p l e rm_X12_heldWith s m args below meth c 5 g A Q 0 0 19 [(0, .ref (g.2.2 0)), (2, .int z.2.1), (3, .int x3), (4, .int z.2.2.1)] [] z.2.2.2) (k : ¬ z.1 = 0 → Bk mw p l e rm_X12_heldWith s m args below meth c 5 g A Q 0 0 58 [(0, .ref (g.2.2 0)), (2, .int z.2.1), (3, .int x3)] [] z.2.2.2) : Bk mw p l e rm_X12_heldWith s m args below meth c 5 g A Q 0 0 50 [(0, .ref (g.2.2 0)), (3, .int x3), (4, .int x4)] [.int t1, .int t0] σ := by
  obtain ⟨hx, hb, hr, hml, hown, hts, hK, hlocks, hXX, hA, hXo⟩ := id C
  intro H locs ls hP hD hS hl
  unfold f_X12_heldWith_b50 at hf
  refine lv_ior hx hb dX12_heldWith_50 ?_
  obtain ⟨v1, ev1, hf⟩ := bd_s hf
  rw [← ev1]
  refine lv_istore_n (lv' := [(2, .int v1), (0, .ref (g.2.2 0)), (3, .int x3), (4, .int x4)]) hx hb dX12_heldWith_51 rfl hl (by decide) rfl (fun ls hl => ?_)
  obtain ⟨v2, ev2, hf⟩ := bd_s hf
  refine lv_iinc (v := v2) (lv' := [(4, .int v2), (2, .int v1), (0, .ref (g.2.2 0)), (3, .int x3)]) hx hb dX12_heldWith_52 hl (k := 3) rfl (by rw [ev2]; rfl) (by decide) rfl (fun ls hl => ?_)
  refine lv_goto (tgt := 19) hx hb dX12_heldWith_55 (by decide) ?_
  cases hf
  exact k0 rfl H locs ls hP hD hS (lv_sub hl [2, 1, 3, 0] rfl)
def s_X12_heldWith_h19 (N : Nat) (x3 : Int32) (x2 : Int32) (x4 : Int32) (σ : Sg) : Option (Nat × Int32 × Int32 × Sg) :=
if (σ 3 0) ≤ x4 then (some (1, x2, 0, σ))
else ((f_X12_isOf N x2 x4 σ).bind fun q3 =>
if q3.1 = 0 then (f_X12_heldWith_b50 N x3 x4 x2 (0 : Int32) (q3.2))
else ((f_X12_seesOf N x4 (q3.2)).bind fun q4 =>
f_X12_heldWith_b50 N x3 x4 x2 q4.1 (q4.2)))
set_option maxHeartbeats 4000000 in
set_option maxRecDepth 100000 in
theorem e_X12_heldWith_h19 {N : Nat} {x3 : Int32} {x2 : Int32} {x4 : Int32} {σ : Sg} {z : Nat × Int32 × Int32 × Sg} (C : Cx p s m args meth c cX12_heldWith 5 (some .int) RX12 g A X) (hf : s_X12_heldWith_h19 N x3 x2 x4 σ = some z) (k0 : z.1 = 0 → Bk mw p l e rm_X12_heldWith s m args below meth c 5 g A Q 0 0 19 [(0, .ref (g.2.2 0)), (2, .int z.2.1), (3, .int x3), (4, .int z.2.2.1)] [] z.2.2.2) (k : ¬ z.1 = 0 → Bk mw p l e rm_X12_heldWith s m args below meth c 5 g A Q 0 0 58 [(0, .ref (g.2.2 0)), (2, .int z.2.1), (3, .int x3)] [] z.2.2.2) : Bk mw p l e rm_X12_heldWith s m args below meth c 5 g A Q 0 0 19 [(0, .ref (g.2.2 0)), (2, .int x2), (3, .int x3), (4, .int x4)] [] σ := by
  obtain ⟨hx, hb, hr, hml, hown, hts, hK, hlocks, hXX, hA, hXo⟩ := id C
  intro H locs ls hP hD hS hl
  unfold s_X12_heldWith_h19 at hf
  refine lv_iload hx hb dX12_heldWith_19 (lv_at hl 3 rfl) ?_
  refine lv_aload_n hx hb dX12_heldWith_21 rfl (lv_at hl 0 rfl) ?_
  refine bk_get (wf := mw) (q0 := 0) (ci := 11) (k := 3) (v := .ref (g.2.2 3)) C hP wl_X12 rfl rfl (by decide) wa_157 rfl rfl dX12_heldWith_22 ?_
  refine lv_iconst (v := (0 : Int32)) hx hb dX12_heldWith_25 (by decide) ?_
  refine bk_iald (wf := mw) (q0 := 3) (n := 10) (j := 0) C hP rfl (vin_l (by decide) (by decide)) (by decide) dX12_heldWith_26 ?_
  refine lv_icmp_ge (tgt := 58) hx hb dX12_heldWith_27 (by decide) (fun t27 => ?_) (fun t27 => ?_)
  · have hf := (if_pos t27).symm.trans hf
    cases hf
    exact (k (show ¬ (1 : Nat) = 0 by decide)) H locs ls hP hD hS (lv_sub hl [0, 1, 2] rfl)
  · have hf := (if_neg t27).symm.trans hf
    refine lv_iload_n hx hb dX12_heldWith_30 rfl (lv_at hl 1 rfl) ?_
    refine lv_iload_n hx hb dX12_heldWith_31 rfl (lv_at hl 1 rfl) ?_
    refine lv_iload hx hb dX12_heldWith_32 (lv_at hl 3 rfl) ?_
    obtain ⟨q3, hq3, hf⟩ := bi_s hf
    refine bk_SI (wf := mw) (rest := [.int x2]) [.int x2, .int x4] C hP hD hS hl.1 (c_X12_isOf hXo hq3) (cwA_S 2 hts wa_726 wa_724 wa_725 wa_5 rfl rfl nd_X12_isOf ⟨Nat.le_of_ble_eq_true rfl, Nat.le_of_ble_eq_true rfl⟩) rfl rfl (Nat.le_of_ble_eq_true rfl) dX12_heldWith_34 ⟨Nat.le_of_ble_eq_true rfl, Nat.le_of_ble_eq_true rfl⟩ (fun H locs hP hD hS => ?_)
    refine lv_if_eq (tgt := 49) hx hb dX12_heldWith_37 (by decide) (fun t37 => ?_) (fun t37 => ?_)
    · have hf := (if_pos t37).symm.trans hf
      refine lv_iconst (v := (0 : Int32)) hx hb dX12_heldWith_49 (by decide) ?_
      exact b_X12_heldWith_b50 C hf k0 k H locs ls hP hD hS (lv_sub hl [0, 2, 3] rfl)
    · have hf := (if_neg t37).symm.trans hf
      refine lv_aload_n hx hb dX12_heldWith_40 rfl (lv_at hl 0 rfl) ?_
      refine lv_iload hx hb dX12_heldWith_41 (lv_at hl 3 rfl) ?_
      obtain ⟨q4, hq4, hf⟩ := bi_s hf
      refine bk_VI (wf := mw) (q0 := 0) (ci := 11) (rest := [.int x2]) [.int x4] C hP hD hS hl.1 (c_X12_seesOf hXo hq4) (cwA_V 1 hts wa_734 wa_731 wa_732 wa_733 wa_5 rfl rfl nd_X12_seesOf ⟨Nat.le_of_ble_eq_true rfl, Nat.le_of_ble_eq_true rfl⟩) rfl rfl rfl rfl (Nat.le_of_ble_eq_true rfl) dX12_heldWith_43 ⟨Nat.le_of_ble_eq_true rfl, Nat.le_of_ble_eq_true rfl⟩ (fun H locs hP hD hS => ?_)
      refine lv_goto (tgt := 50) hx hb dX12_heldWith_46 (by decide) ?_
      exact b_X12_heldWith_b50 C hf k0 k H locs ls hP hD hS (lv_sub hl [0, 2, 3] rfl)
theorem lp_X12_heldWith_h19 {N : Nat} {n : Nat} {x3 : Int32} {x2 : Int32} {x4 : Int32} {σ : Sg} {z : Nat × Int32 × Int32 × Sg} (C : Cx p s m args meth c cX12_heldWith 5 (some .int) RX12 g A X) (hz : it (fun q => s_X12_heldWith_h19 N x3 q.1 q.2.1 q.2.2) n (x2, x4, σ) = some z) (k : Bk mw p l e rm_X12_heldWith s m args below meth c 5 g A Q 0 0 58 [(0, .ref (g.2.2 0)), (2, .int z.2.1), (3, .int x3)] [] z.2.2.2) : Bk mw p l e rm_X12_heldWith s m args below meth c 5 g A Q 0 0 19 [(0, .ref (g.2.2 0)), (2, .int x2), (3, .int x3), (4, .int x4)] [] σ :=
  it_W (S := Int32 × Int32 × Sg) (fun q => Bk mw p l e rm_X12_heldWith s m args below meth c 5 g A Q 0 0 19 [(0, .ref (g.2.2 0)), (2, .int q.1), (3, .int x3), (4, .int q.2.1)] [] q.2.2) (fun z => Bk mw p l e rm_X12_heldWith s m args below meth c 5 g A Q 0 0 58 [(0, .ref (g.2.2 0)), (2, .int z.2.1), (3, .int x3)] [] z.2.2.2) (fun q z hq k0 k => e_X12_heldWith_h19 C hq k0 k) n (x2, x4, σ) z hz k
def s_X12_heldWith_h6 (N : Nat) (x2 : Int32) (x3 : Int32) (σ : Sg) : Option (Nat × Int32 × Int32 × Sg) :=
if (σ 3 0) ≤ x3 then (some (1, x2, 0, σ))
else ((it (fun q => s_X12_heldWith_h19 N x3 q.1 q.2.1 q.2.2) N (x2, (0 : Int32), σ)).bind fun z5 =>
bd (x3 + (1 : Int32)) fun v6 =>
some (0, (z5.2.1), v6, (z5.2.2.2)))
set_option maxHeartbeats 4000000 in
set_option maxRecDepth 100000 in
theorem e_X12_heldWith_h6 {N : Nat} {x2 : Int32} {x3 : Int32} {σ : Sg} {z : Nat × Int32 × Int32 × Sg} (C : Cx p s m args meth c cX12_heldWith 5 (some .int) RX12 g A X) (hf : s_X12_heldWith_h6 N x2 x3 σ = some z) (k0 : z.1 = 0 → Bk mw p l e rm_X12_heldWith s m args below meth c 5 g A Q 0 0 6 [(0, .ref (g.2.2 0)), (2, .int z.2.1), (3, .int z.2.2.1)] [] z.2.2.2) (k : ¬ z.1 = 0 → Bk mw p l e rm_X12_heldWith s m args below meth c 5 g A Q 0 0 64 [(2, .int z.2.1)] [] z.2.2.2) : Bk mw p l e rm_X12_heldWith s m args below meth c 5 g A Q 0 0 6 [(0, .ref (g.2.2 0)), (2, .int x2), (3, .int x3)] [] σ := by
  obtain ⟨hx, hb, hr, hml, hown, hts, hK, hlocks, hXX, hA, hXo⟩ := id C
  intro H locs ls hP hD hS hl
  unfold s_X12_heldWith_h6 at hf
  refine lv_iload_n hx hb dX12_heldWith_6 rfl (lv_at hl 2 rfl) ?_
  refine lv_aload_n hx hb dX12_heldWith_7 rfl (lv_at hl 0 rfl) ?_
  refine bk_get (wf := mw) (q0 := 0) (ci := 11) (k := 3) (v := .ref (g.2.2 3)) C hP wl_X12 rfl rfl (by decide) wa_157 rfl rfl dX12_heldWith_8 ?_
  refine lv_iconst (v := (0 : Int32)) hx hb dX12_heldWith_11 (by decide) ?_
  refine bk_iald (wf := mw) (q0 := 3) (n := 10) (j := 0) C hP rfl (vin_l (by decide) (by decide)) (by decide) dX12_heldWith_12 ?_
  refine lv_icmp_ge (tgt := 64) hx hb dX12_heldWith_13 (by decide) (fun t13 => ?_) (fun t13 => ?_)
  · have hf := (if_pos t13).symm.trans hf
    cases hf
    exact (k (show ¬ (1 : Nat) = 0 by decide)) H locs ls hP hD hS (lv_sub hl [1] rfl)
  · have hf := (if_neg t13).symm.trans hf
    refine lv_iconst (v := (0 : Int32)) hx hb dX12_heldWith_16 (by decide) ?_
    refine lv_istore (lv' := [(4, .int (0 : Int32)), (0, .ref (g.2.2 0)), (2, .int x2), (3, .int x3)]) hx hb dX12_heldWith_17 hl (by decide) rfl (fun ls hl => ?_)
    obtain ⟨z5, hz5, hf⟩ := bi_s hf
    refine lp_X12_heldWith_h19 C hz5 ?_ H locs ls hP hD hS (lv_sub hl [1, 2, 3, 0] rfl)
    intro H locs ls hP hD hS hl
    obtain ⟨v6, ev6, hf⟩ := bd_s hf
    refine lv_iinc (v := v6) (lv' := [(3, .int v6), (0, .ref (g.2.2 0)), (2, .int (z5.2.1))]) hx hb dX12_heldWith_58 hl (k := 2) rfl (by rw [ev6]; rfl) (by decide) rfl (fun ls hl => ?_)
    refine lv_goto (tgt := 6) hx hb dX12_heldWith_61 (by decide) ?_
    cases hf
    exact k0 rfl H locs ls hP hD hS (lv_sub hl [1, 2, 0] rfl)
theorem lp_X12_heldWith_h6 {N : Nat} {n : Nat} {x2 : Int32} {x3 : Int32} {σ : Sg} {z : Nat × Int32 × Int32 × Sg} (C : Cx p s m args meth c cX12_heldWith 5 (some .int) RX12 g A X) (hz : it (fun q => s_X12_heldWith_h6 N q.1 q.2.1 q.2.2) n (x2, x3, σ) = some z) (k : Bk mw p l e rm_X12_heldWith s m args below meth c 5 g A Q 0 0 64 [(2, .int z.2.1)] [] z.2.2.2) : Bk mw p l e rm_X12_heldWith s m args below meth c 5 g A Q 0 0 6 [(0, .ref (g.2.2 0)), (2, .int x2), (3, .int x3)] [] σ :=
  it_W (S := Int32 × Int32 × Sg) (fun q => Bk mw p l e rm_X12_heldWith s m args below meth c 5 g A Q 0 0 6 [(0, .ref (g.2.2 0)), (2, .int q.1), (3, .int q.2.1)] [] q.2.2) (fun z => Bk mw p l e rm_X12_heldWith s m args below meth c 5 g A Q 0 0 64 [(2, .int z.2.1)] [] z.2.2.2) (fun q z hq k0 k => e_X12_heldWith_h6 C hq k0 k) n (x2, x3, σ) z hz k
def f_X12_heldWith (N : Nat) (x1 : Int32) (σ : Sg) : Option (Int32 × Sg) :=
bd ((1 : Int32) <<< (x1 &&& 31)) fun v7 =>
(it (fun q => s_X12_heldWith_h6 N q.1 q.2.1 q.2.2) N (v7, (0 : Int32), σ)).bind fun z8 =>
some ((z8.2.1), (z8.2.2.2))
set_option maxHeartbeats 4000000 in
set_option maxRecDepth 100000 in
theorem b_X12_heldWith {N : Nat} {x1 : Int32} {σ : Sg} {z : Int32 × Sg} (C : Cx p s m args meth c cX12_heldWith 5 (some .int) RX12 g A X) (hf : f_X12_heldWith N x1 σ = some z) : Bk mw p l e rm_X12_heldWith s m args below meth c 5 g A (MQ below (qI mw g A z.1 z.2) args s 0 0 A) 0 0 0 [(0, .ref (g.2.2 0)), (1, .int x1)] [] σ := by
  obtain ⟨hx, hb, hr, hml, hown, hts, hK, hlocks, hXX, hA, hXo⟩ := id C
  intro H locs ls hP hD hS hl
  unfold f_X12_heldWith at hf
  refine lv_iconst (v := (1 : Int32)) hx hb dX12_heldWith_0 (by decide) ?_
  refine lv_iload_n hx hb dX12_heldWith_1 rfl (lv_at hl 1 rfl) ?_
  refine lv_ishl hx hb dX12_heldWith_2 ?_
  obtain ⟨v7, ev7, hf⟩ := bd_s hf
  rw [← ev7]
  refine lv_istore_n (lv' := [(2, .int v7), (0, .ref (g.2.2 0)), (1, .int x1)]) hx hb dX12_heldWith_3 rfl hl (by decide) rfl (fun ls hl => ?_)
  refine lv_iconst (v := (0 : Int32)) hx hb dX12_heldWith_4 (by decide) ?_
  refine lv_istore_n (lv' := [(3, .int (0 : Int32)), (2, .int v7), (0, .ref (g.2.2 0)), (1, .int x1)]) hx hb dX12_heldWith_5 rfl hl (by decide) rfl (fun ls hl => ?_)
  obtain ⟨z8, hz8, hf⟩ := bi_s hf
  refine lp_X12_heldWith_h6 C hz8 ?_ H locs ls hP hD hS (lv_sub hl [2, 1, 0] rfl)
  intro H locs ls hP hD hS hl
  refine lv_iload_n hx hb dX12_heldWith_64 rfl (lv_at hl 0 rfl) ?_
  cases hf
  exact bk_iret C hP hD hS rfl dX12_heldWith_65
theorem c_X12_heldWith {N : Nat} {x1 : Int32} {σ : Sg} {z : Int32 × Sg} (hX : xOK g X) (hf : f_X12_heldWith N x1 σ = some z) : MetI l yX12_heldWith (Cond.code yX12_heldWith cX12_heldWith 5 (some .int) :: wsA) rm_X12_heldWith mw g X [.ref (g.2.2 0), .int x1] σ z.1 z.2 :=
  MetI_of hX (by decide) (Nat.le_of_ble_eq_true rfl) (fun p e s m args below meth c A C => b_X12_heldWith C hf)
-- X12_partsNow: partsNow()I
abbrev rm_X12_partsNow : Room := { frames := 6, cells := 0, slots := 0, locals := 140 }
theorem nd_X12_partsNow : yX12_partsNow.cls ≠ "java/lang/invoke/MethodHandle" ∧ yX12_partsNow.cls ≠ "java/lang/invoke/VarHandle" ∧ (parseMethodDescriptor yX12_partsNow.desc).map (fun d => d.parameters.length) = some 0 := by decide +kernel
def f_X12_partsNow_b38 (N : Nat) (x1 : Int32) (x2 : Int32) (x3 : Int32) (σ : Sg) : Option (Nat × Int32 × Int32 × Int32 × Sg) :=
bd (x3 + (1 : Int32)) fun v1 =>
some (0, x1, x2, v1, σ)
set_option maxHeartbeats 4000000 in
set_option maxRecDepth 100000 in
theorem b_X12_partsNow_b38 {N : Nat} {x1 : Int32} {x2 : Int32} {x3 : Int32} {σ : Sg} {z : Nat × Int32 × Int32 × Int32 × Sg} (C : Cx p s m args meth c cX12_partsNow 4 (some .int) RX12 g A X) (hf : f_X12_partsNow_b38 N x1 x2 x3 σ = some z) (k0 : z.1 = 0 → Bk mw p l e rm_X12_partsNow s m args below meth c 4 g A Q 0 0 6 [(0, .ref (g.2.2 0)), (1, .int z.2.1), (2, .int z.2.2.1), (3, .int z.2.2.2.1)] [] z.2.2.2.2) (k : ¬ z.1 = 0 → Bk mw p l e rm_X12_partsNow s m args below meth c 4 g A Q 0 0 44 [(1, .int z.2.1)] [] z.2.2.2.2) : Bk mw p l e rm_X12_partsNow s m args below meth c 4 g A Q 0 0 38 [(0, .ref (g.2.2 0)), (1, .int x1), (2, .int x2), (3, .int x3)] [] σ := by
  obtain ⟨hx, hb, hr, hml, hown, hts, hK, hlocks, hXX, hA, hXo⟩ := id C
  intro H locs ls hP hD hS hl
  unfold f_X12_partsNow_b38 at hf
  obtain ⟨v1, ev1, hf⟩ := bd_s hf
  refine lv_iinc (v := v1) (lv' := [(3, .int v1), (0, .ref (g.2.2 0)), (1, .int x1), (2, .int x2)]) hx hb dX12_partsNow_38 hl (k := 3) rfl (by rw [ev1]; rfl) (by decide) rfl (fun ls hl => ?_)
  refine lv_goto (tgt := 6) hx hb dX12_partsNow_41 (by decide) ?_
  cases hf
  exact k0 rfl H locs ls hP hD hS (lv_sub hl [1, 2, 3, 0] rfl)
def s_X12_partsNow_h6 (N : Nat) (x1 : Int32) (x2 : Int32) (x3 : Int32) (σ : Sg) : Option (Nat × Int32 × Int32 × Int32 × Sg) :=
if (σ 3 0) ≤ x3 then (some (1, x1, 0, 0, σ))
else ((f_X12_isOf N x2 x3 σ).bind fun q2 =>
if q2.1 = 0 then ((f_X12_heldWith N x3 (q2.2)).bind fun q3 =>
bd (x2 ||| q3.1) fun v4 =>
bd (x1 + (1 : Int32)) fun v5 =>
f_X12_partsNow_b38 N v5 v4 x3 (q3.2))
else (f_X12_partsNow_b38 N x1 x2 x3 (q2.2)))
set_option maxHeartbeats 4000000 in
set_option maxRecDepth 100000 in
theorem e_X12_partsNow_h6 {N : Nat} {x1 : Int32} {x2 : Int32} {x3 : Int32} {σ : Sg} {z : Nat × Int32 × Int32 × Int32 × Sg} (C : Cx p s m args meth c cX12_partsNow 4 (some .int) RX12 g A X) (hf : s_X12_partsNow_h6 N x1 x2 x3 σ = some z) (k0 : z.1 = 0 → Bk mw p l e rm_X12_partsNow s m args below meth c 4 g A Q 0 0 6 [(0, .ref (g.2.2 0)), (1, .int z.2.1), (2, .int z.2.2.1), (3, .int z.2.2.2.1)] [] z.2.2.2.2) (k : ¬ z.1 = 0 → Bk mw p l e rm_X12_partsNow s m args below meth c 4 g A Q 0 0 44 [(1, .int z.2.1)] [] z.2.2.2.2) : Bk mw p l e rm_X12_partsNow s m args below meth c 4 g A Q 0 0 6 [(0, .ref (g.2.2 0)), (1, .int x1), (2, .int x2), (3, .int x3)] [] σ := by
  obtain ⟨hx, hb, hr, hml, hown, hts, hK, hlocks, hXX, hA, hXo⟩ := id C
  intro H locs ls hP hD hS hl
  unfold s_X12_partsNow_h6 at hf
  refine lv_iload_n hx hb dX12_partsNow_6 rfl (lv_at hl 3 rfl) ?_
  refine lv_aload_n hx hb dX12_partsNow_7 rfl (lv_at hl 0 rfl) ?_
  refine bk_get (wf := mw) (q0 := 0) (ci := 11) (k := 3) (v := .ref (g.2.2 3)) C hP wl_X12 rfl rfl (by decide) wa_157 rfl rfl dX12_partsNow_8 ?_
  refine lv_iconst (v := (0 : Int32)) hx hb dX12_partsNow_11 (by decide) ?_
  refine bk_iald (wf := mw) (q0 := 3) (n := 10) (j := 0) C hP rfl (vin_l (by decide) (by decide)) (by decide) dX12_partsNow_12 ?_
  refine lv_icmp_ge (tgt := 44) hx hb dX12_partsNow_13 (by decide) (fun t13 => ?_) (fun t13 => ?_)
  · have hf := (if_pos t13).symm.trans hf
    cases hf
    exact (k (show ¬ (1 : Nat) = 0 by decide)) H locs ls hP hD hS (lv_sub hl [1] rfl)
  · have hf := (if_neg t13).symm.trans hf
    refine lv_iload_n hx hb dX12_partsNow_16 rfl (lv_at hl 2 rfl) ?_
    refine lv_iload_n hx hb dX12_partsNow_17 rfl (lv_at hl 3 rfl) ?_
    obtain ⟨q2, hq2, hf⟩ := bi_s hf
    refine bk_SI (wf := mw) (rest := []) [.int x2, .int x3] C hP hD hS hl.1 (c_X12_isOf hXo hq2) (cwA_S 2 hts wa_726 wa_724 wa_725 wa_5 rfl rfl nd_X12_isOf ⟨Nat.le_of_ble_eq_true rfl, Nat.le_of_ble_eq_true rfl⟩) rfl rfl (Nat.le_of_ble_eq_true rfl) dX12_partsNow_18 ⟨Nat.le_of_ble_eq_true rfl, Nat.le_of_ble_eq_true rfl⟩ (fun H locs hP hD hS => ?_)
    refine lv_if_eq (tgt := 27) hx hb dX12_partsNow_21 (by decide) (fun t21 => ?_) (fun t21 => ?_)
    · have hf := (if_pos t21).symm.trans hf
      refine lv_iload_n hx hb dX12_partsNow_27 rfl (lv_at hl 2 rfl) ?_
      refine lv_aload_n hx hb dX12_partsNow_28 rfl (lv_at hl 0 rfl) ?_
      refine lv_iload_n hx hb dX12_partsNow_29 rfl (lv_at hl 3 rfl) ?_
      obtain ⟨q3, hq3, hf⟩ := bi_s hf
      refine bk_VI (wf := mw) (q0 := 0) (ci := 11) (rest := [.int x2]) [.int x3] C hP hD hS hl.1 (c_X12_heldWith hXo hq3) (cwA_V 1 hts wa_730 wa_727 wa_728 wa_729 wa_5 rfl rfl nd_X12_heldWith ⟨Nat.le_of_ble_eq_true rfl, Nat.le_of_ble_eq_true rfl⟩) rfl rfl rfl rfl (Nat.le_of_ble_eq_true rfl) dX12_partsNow_30 ⟨Nat.le_of_ble_eq_true rfl, Nat.le_of_ble_eq_true rfl⟩ (fun H locs hP hD hS => ?_)
      refine lv_ior hx hb dX12_partsNow_33 ?_
      obtain ⟨v4, ev4, hf⟩ := bd_s hf
      rw [← ev4]
      refine lv_istore_n (lv' := [(2, .int v4), (0, .ref (g.2.2 0)), (1, .int x1), (3, .int x3)]) hx hb dX12_partsNow_34 rfl hl (by decide) rfl (fun ls hl => ?_)
      obtain ⟨v5, ev5, hf⟩ := bd_s hf
      refine lv_iinc (v := v5) (lv' := [(1, .int v5), (2, .int v4), (0, .ref (g.2.2 0)), (3, .int x3)]) hx hb dX12_partsNow_35 hl (k := 2) rfl (by rw [ev5]; rfl) (by decide) rfl (fun ls hl => ?_)
      exact b_X12_partsNow_b38 C hf k0 k H locs ls hP hD hS (lv_sub hl [2, 0, 1, 3] rfl)
    · have hf := (if_neg t21).symm.trans hf
      refine lv_goto (tgt := 38) hx hb dX12_partsNow_24 (by decide) ?_
      exact b_X12_partsNow_b38 C hf k0 k H locs ls hP hD hS (lv_sub hl [0, 1, 2, 3] rfl)
theorem lp_X12_partsNow_h6 {N : Nat} {n : Nat} {x1 : Int32} {x2 : Int32} {x3 : Int32} {σ : Sg} {z : Nat × Int32 × Int32 × Int32 × Sg} (C : Cx p s m args meth c cX12_partsNow 4 (some .int) RX12 g A X) (hz : it (fun q => s_X12_partsNow_h6 N q.1 q.2.1 q.2.2.1 q.2.2.2) n (x1, x2, x3, σ) = some z) (k : Bk mw p l e rm_X12_partsNow s m args below meth c 4 g A Q 0 0 44 [(1, .int z.2.1)] [] z.2.2.2.2) : Bk mw p l e rm_X12_partsNow s m args below meth c 4 g A Q 0 0 6 [(0, .ref (g.2.2 0)), (1, .int x1), (2, .int x2), (3, .int x3)] [] σ :=
  it_W (S := Int32 × Int32 × Int32 × Sg) (fun q => Bk mw p l e rm_X12_partsNow s m args below meth c 4 g A Q 0 0 6 [(0, .ref (g.2.2 0)), (1, .int q.1), (2, .int q.2.1), (3, .int q.2.2.1)] [] q.2.2.2) (fun z => Bk mw p l e rm_X12_partsNow s m args below meth c 4 g A Q 0 0 44 [(1, .int z.2.1)] [] z.2.2.2.2) (fun q z hq k0 k => e_X12_partsNow_h6 C hq k0 k) n (x1, x2, x3, σ) z hz k
def f_X12_partsNow (N : Nat) (σ : Sg) : Option (Int32 × Sg) :=
(it (fun q => s_X12_partsNow_h6 N q.1 q.2.1 q.2.2.1 q.2.2.2) N ((0 : Int32), (0 : Int32), (0 : Int32), σ)).bind fun z6 =>
some ((z6.2.1), (z6.2.2.2.2))
set_option maxHeartbeats 4000000 in
set_option maxRecDepth 100000 in
theorem b_X12_partsNow {N : Nat} {σ : Sg} {z : Int32 × Sg} (C : Cx p s m args meth c cX12_partsNow 4 (some .int) RX12 g A X) (hf : f_X12_partsNow N σ = some z) : Bk mw p l e rm_X12_partsNow s m args below meth c 4 g A (MQ below (qI mw g A z.1 z.2) args s 0 0 A) 0 0 0 [(0, .ref (g.2.2 0))] [] σ := by
  obtain ⟨hx, hb, hr, hml, hown, hts, hK, hlocks, hXX, hA, hXo⟩ := id C
  intro H locs ls hP hD hS hl
  unfold f_X12_partsNow at hf
  refine lv_iconst (v := (0 : Int32)) hx hb dX12_partsNow_0 (by decide) ?_
  refine lv_istore_n (lv' := [(1, .int (0 : Int32)), (0, .ref (g.2.2 0))]) hx hb dX12_partsNow_1 rfl hl (by decide) rfl (fun ls hl => ?_)
  refine lv_iconst (v := (0 : Int32)) hx hb dX12_partsNow_2 (by decide) ?_
  refine lv_istore_n (lv' := [(2, .int (0 : Int32)), (1, .int (0 : Int32)), (0, .ref (g.2.2 0))]) hx hb dX12_partsNow_3 rfl hl (by decide) rfl (fun ls hl => ?_)
  refine lv_iconst (v := (0 : Int32)) hx hb dX12_partsNow_4 (by decide) ?_
  refine lv_istore_n (lv' := [(3, .int (0 : Int32)), (2, .int (0 : Int32)), (1, .int (0 : Int32)), (0, .ref (g.2.2 0))]) hx hb dX12_partsNow_5 rfl hl (by decide) rfl (fun ls hl => ?_)
  obtain ⟨z6, hz6, hf⟩ := bi_s hf
  refine lp_X12_partsNow_h6 C hz6 ?_ H locs ls hP hD hS (lv_sub hl [3, 2, 1, 0] rfl)
  intro H locs ls hP hD hS hl
  refine lv_iload_n hx hb dX12_partsNow_44 rfl (lv_at hl 0 rfl) ?_
  cases hf
  exact bk_iret C hP hD hS rfl dX12_partsNow_45
theorem c_X12_partsNow {N : Nat} {σ : Sg} {z : Int32 × Sg} (hX : xOK g X) (hf : f_X12_partsNow N σ = some z) : MetI l yX12_partsNow (Cond.code yX12_partsNow cX12_partsNow 4 (some .int) :: wsA) rm_X12_partsNow mw g X [.ref (g.2.2 0)] σ z.1 z.2 :=
  MetI_of hX (by decide) (Nat.le_of_ble_eq_true rfl) (fun p e s m args below meth c A C => b_X12_partsNow C hf)
-- X12_watchNow: watchNow()I
abbrev rm_X12_watchNow : Room := { frames := 5, cells := 0, slots := 0, locals := 116 }
theorem nd_X12_watchNow : yX12_watchNow.cls ≠ "java/lang/invoke/MethodHandle" ∧ yX12_watchNow.cls ≠ "java/lang/invoke/VarHandle" ∧ (parseMethodDescriptor yX12_watchNow.desc).map (fun d => d.parameters.length) = some 0 := by decide +kernel
def f_X12_watchNow_b101 (N : Nat) (x1 : Int32) (x2 : Int32) (x4 : Int32) (t0 : Int32) (t1 : Int32) (σ : Sg) : Option (Nat × Int32 × Int32 × Sg) :=
bd (t0 ||| t1) fun v1 =>
bd (x4 + (1 : Int32)) fun v2 =>
some (0, v1, v2, σ)
set_option maxHeartbeats 4000000 in
set_option maxRecDepth 100000 in
theorem b_X12_watchNow_b101 {N : Nat} {x1 : Int32} {x2 : Int32} {x4 : Int32} {t0 : Int32} {t1 : Int32} {σ : Sg} {z : Nat × Int32 × Int32 × Sg} (C : Cx p s m args meth c cX12_watchNow 5 (some .int) RX12 g A X) (hf : f_X12_watchNow_b101 N x1 x2 x4 t0 t1 σ = some z) (k0 : z.1 = 0 → Bk mw p l e rm_X12_watchNow s m args below meth c 5 g A Q 0 0 69 [(0, .ref (g.2.2 0)), (1, .int x1), (2, .int x2), (3, .int z.2.1), (4, .int z.2.2.1)] [] z.2.2.2) (k : ¬ z.1 = 0 → Bk mw p l e rm_X12_watchNow s m args below meth c 5 g A Q 0 0 109 [(0, .ref (g.2.2 0)), (1, .int x1), (2, .int x2), (3, .int z.2.1)] [] z.2.2.2) : Bk mw p l e rm_X12_watchNow s m args below meth c 5 g A Q 0 0 101 [(0, .ref (g.2.2 0)), (1, .int x1), (2, .int x2), (4, .int x4)] [.int t1, .int t0] σ := by
  obtain ⟨hx, hb, hr, hml, hown, hts, hK, hlocks, hXX, hA, hXo⟩ := id C
  intro H locs ls hP hD hS hl
  unfold f_X12_watchNow_b101 at hf
  refine lv_ior hx hb dX12_watchNow_101 ?_
  obtain ⟨v1, ev1, hf⟩ := bd_s hf
  rw [← ev1]
  refine lv_istore_n (lv' := [(3, .int v1), (0, .ref (g.2.2 0)), (1, .int x1), (2, .int x2), (4, .int x4)]) hx hb dX12_watchNow_102 rfl hl (by decide) rfl (fun ls hl => ?_)
  obtain ⟨v2, ev2, hf⟩ := bd_s hf
  refine lv_iinc (v := v2) (lv' := [(4, .int v2), (3, .int v1), (0, .ref (g.2.2 0)), (1, .int x1), (2, .int x2)]) hx hb dX12_watchNow_103 hl (k := 4) rfl (by rw [ev2]; rfl) (by decide) rfl (fun ls hl => ?_)
  refine lv_goto (tgt := 69) hx hb dX12_watchNow_106 (by decide) ?_
  cases hf
  exact k0 rfl H locs ls hP hD hS (lv_sub hl [2, 3, 4, 1, 0] rfl)
def s_X12_watchNow_h69 (N : Nat) (x1 : Int32) (x2 : Int32) (x3 : Int32) (x4 : Int32) (σ : Sg) : Option (Nat × Int32 × Int32 × Sg) :=
if (σ 3 0) ≤ x4 then (some (1, x3, 0, σ))
else ((f_X12_isOf N x2 x4 σ).bind fun q3 =>
if q3.1 = 0 then (f_X12_watchNow_b101 N x1 x2 x4 x3 (0 : Int32) (q3.2))
else (if (x4 < 0 ∨ 9 ≤ x4.toNatClampNeg) then none else
f_X12_watchNow_b101 N x1 x2 x4 x3 ((q3.2) 20 x4.toNatClampNeg) (q3.2)))
set_option maxHeartbeats 4000000 in
set_option maxRecDepth 100000 in
theorem e_X12_watchNow_h69 {N : Nat} {x1 : Int32} {x2 : Int32} {x3 : Int32} {x4 : Int32} {σ : Sg} {z : Nat × Int32 × Int32 × Sg} (C : Cx p s m args meth c cX12_watchNow 5 (some .int) RX12 g A X) (hf : s_X12_watchNow_h69 N x1 x2 x3 x4 σ = some z) (k0 : z.1 = 0 → Bk mw p l e rm_X12_watchNow s m args below meth c 5 g A Q 0 0 69 [(0, .ref (g.2.2 0)), (1, .int x1), (2, .int x2), (3, .int z.2.1), (4, .int z.2.2.1)] [] z.2.2.2) (k : ¬ z.1 = 0 → Bk mw p l e rm_X12_watchNow s m args below meth c 5 g A Q 0 0 109 [(0, .ref (g.2.2 0)), (1, .int x1), (2, .int x2), (3, .int z.2.1)] [] z.2.2.2) : Bk mw p l e rm_X12_watchNow s m args below meth c 5 g A Q 0 0 69 [(0, .ref (g.2.2 0)), (1, .int x1), (2, .int x2), (3, .int x3), (4, .int x4)] [] σ := by
  obtain ⟨hx, hb, hr, hml, hown, hts, hK, hlocks, hXX, hA, hXo⟩ := id C
  intro H locs ls hP hD hS hl
  unfold s_X12_watchNow_h69 at hf
  refine lv_iload hx hb dX12_watchNow_69 (lv_at hl 4 rfl) ?_
  refine lv_aload_n hx hb dX12_watchNow_71 rfl (lv_at hl 0 rfl) ?_
  refine bk_get (wf := mw) (q0 := 0) (ci := 11) (k := 3) (v := .ref (g.2.2 3)) C hP wl_X12 rfl rfl (by decide) wa_157 rfl rfl dX12_watchNow_72 ?_
  refine lv_iconst (v := (0 : Int32)) hx hb dX12_watchNow_75 (by decide) ?_
  refine bk_iald (wf := mw) (q0 := 3) (n := 10) (j := 0) C hP rfl (vin_l (by decide) (by decide)) (by decide) dX12_watchNow_76 ?_
  refine lv_icmp_ge (tgt := 109) hx hb dX12_watchNow_77 (by decide) (fun t77 => ?_) (fun t77 => ?_)
  · have hf := (if_pos t77).symm.trans hf
    cases hf
    exact (k (show ¬ (1 : Nat) = 0 by decide)) H locs ls hP hD hS (lv_sub hl [0, 1, 2, 3] rfl)
  · have hf := (if_neg t77).symm.trans hf
    refine lv_iload_n hx hb dX12_watchNow_80 rfl (lv_at hl 3 rfl) ?_
    refine lv_iload_n hx hb dX12_watchNow_81 rfl (lv_at hl 2 rfl) ?_
    refine lv_iload hx hb dX12_watchNow_82 (lv_at hl 4 rfl) ?_
    obtain ⟨q3, hq3, hf⟩ := bi_s hf
    refine bk_SI (wf := mw) (rest := [.int x3]) [.int x2, .int x4] C hP hD hS hl.1 (c_X12_isOf hXo hq3) (cwA_S 2 hts wa_726 wa_724 wa_725 wa_5 rfl rfl nd_X12_isOf ⟨Nat.le_of_ble_eq_true rfl, Nat.le_of_ble_eq_true rfl⟩) rfl rfl (Nat.le_of_ble_eq_true rfl) dX12_watchNow_84 ⟨Nat.le_of_ble_eq_true rfl, Nat.le_of_ble_eq_true rfl⟩ (fun H locs hP hD hS => ?_)
    refine lv_if_eq (tgt := 100) hx hb dX12_watchNow_87 (by decide) (fun t87 => ?_) (fun t87 => ?_)
    · have hf := (if_pos t87).symm.trans hf
      refine lv_iconst (v := (0 : Int32)) hx hb dX12_watchNow_100 (by decide) ?_
      exact b_X12_watchNow_b101 C hf k0 k H locs ls hP hD hS (lv_sub hl [0, 1, 2, 4] rfl)
    · have hf := (if_neg t87).symm.trans hf
      refine lv_aload_n hx hb dX12_watchNow_90 rfl (lv_at hl 0 rfl) ?_
      refine bk_get (wf := mw) (q0 := 0) (ci := 11) (k := 36) (v := .ref (g.2.2 20)) C hP wl_X12 rfl rfl (by decide) wa_176 rfl rfl dX12_watchNow_91 ?_
      refine lv_iload hx hb dX12_watchNow_94 (lv_at hl 4 rfl) ?_
      obtain ⟨g4, hf⟩ := gd_s hf
      refine bk_iald (wf := mw) (q0 := 20) (n := 9) (j := x4.toNatClampNeg) C hP rfl g4 rfl dX12_watchNow_96 ?_
      refine lv_goto (tgt := 101) hx hb dX12_watchNow_97 (by decide) ?_
      exact b_X12_watchNow_b101 C hf k0 k H locs ls hP hD hS (lv_sub hl [0, 1, 2, 4] rfl)
theorem lp_X12_watchNow_h69 {N : Nat} {n : Nat} {x1 : Int32} {x2 : Int32} {x3 : Int32} {x4 : Int32} {σ : Sg} {z : Nat × Int32 × Int32 × Sg} (C : Cx p s m args meth c cX12_watchNow 5 (some .int) RX12 g A X) (hz : it (fun q => s_X12_watchNow_h69 N x1 x2 q.1 q.2.1 q.2.2) n (x3, x4, σ) = some z) (k : Bk mw p l e rm_X12_watchNow s m args below meth c 5 g A Q 0 0 109 [(0, .ref (g.2.2 0)), (1, .int x1), (2, .int x2), (3, .int z.2.1)] [] z.2.2.2) : Bk mw p l e rm_X12_watchNow s m args below meth c 5 g A Q 0 0 69 [(0, .ref (g.2.2 0)), (1, .int x1), (2, .int x2), (3, .int x3), (4, .int x4)] [] σ :=
  it_W (S := Int32 × Int32 × Sg) (fun q => Bk mw p l e rm_X12_watchNow s m args below meth c 5 g A Q 0 0 69 [(0, .ref (g.2.2 0)), (1, .int x1), (2, .int x2), (3, .int q.1), (4, .int q.2.1)] [] q.2.2) (fun z => Bk mw p l e rm_X12_watchNow s m args below meth c 5 g A Q 0 0 109 [(0, .ref (g.2.2 0)), (1, .int x1), (2, .int x2), (3, .int z.2.1)] [] z.2.2.2) (fun q z hq k0 k => e_X12_watchNow_h69 C hq k0 k) n (x3, x4, σ) z hz k
def f_X12_watchNow_b119 (N : Nat) (x1 : Int32) (x2 : Int32) (σ : Sg) : Option (Nat × Int32 × Int32 × Sg) :=
bd (x2 + (1 : Int32)) fun v5 =>
some (0, x1, v5, σ)
set_option maxHeartbeats 4000000 in
set_option maxRecDepth 100000 in
theorem b_X12_watchNow_b119 {N : Nat} {x1 : Int32} {x2 : Int32} {σ : Sg} {z : Nat × Int32 × Int32 × Sg} (C : Cx p s m args meth c cX12_watchNow 5 (some .int) RX12 g A X) (hf : f_X12_watchNow_b119 N x1 x2 σ = some z) (k0 : z.1 = 0 → Bk mw p l e rm_X12_watchNow s m args below meth c 5 g A Q 0 0 37 [(0, .ref (g.2.2 0)), (1, .int z.2.1), (2, .int z.2.2.1)] [] z.2.2.2) (k : ¬ z.1 = 0 → Bk mw p l e rm_X12_watchNow s m args below meth c 5 g A Q 0 0 125 [(1, .int z.2.1)] [] z.2.2.2) : Bk mw p l e rm_X12_watchNow s m args below meth c 5 g A Q 0 0 119 [(0, .ref (g.2.2 0)), (1, .int x1), (2, .int x2)] [] σ := by
  obtain ⟨hx, hb, hr, hml, hown, hts, hK, hlocks, hXX, hA, hXo⟩ := id C
  intro H locs ls hP hD hS hl
  unfold f_X12_watchNow_b119 at hf
  obtain ⟨v5, ev5, hf⟩ := bd_s hf
  refine lv_iinc (v := v5) (lv' := [(2, .int v5), (0, .ref (g.2.2 0)), (1, .int x1)]) hx hb dX12_watchNow_119 hl (k := 2) rfl (by rw [ev5]; rfl) (by decide) rfl (fun ls hl => ?_)
  refine lv_goto (tgt := 37) hx hb dX12_watchNow_122 (by decide) ?_
  cases hf
  exact k0 rfl H locs ls hP hD hS (lv_sub hl [1, 2, 0] rfl)
def f_X12_watchNow_b64 (N : Nat) (x1 : Int32) (x2 : Int32) (σ : Sg) : Option (Nat × Int32 × Int32 × Sg) :=
(it (fun q => s_X12_watchNow_h69 N x1 x2 q.1 q.2.1 q.2.2) N ((0 : Int32), (0 : Int32), σ)).bind fun z6 =>
(f_X12_all N (z6.2.2.2)).bind fun q7 =>
if (z6.2.1) = q7.1 then (f_X12_watchNow_b119 N x2 x2 (q7.2))
else (f_X12_watchNow_b119 N x1 x2 (q7.2))
set_option maxHeartbeats 4000000 in
set_option maxRecDepth 100000 in
theorem b_X12_watchNow_b64 {N : Nat} {x1 : Int32} {x2 : Int32} {σ : Sg} {z : Nat × Int32 × Int32 × Sg} (C : Cx p s m args meth c cX12_watchNow 5 (some .int) RX12 g A X) (hf : f_X12_watchNow_b64 N x1 x2 σ = some z) (k0 : z.1 = 0 → Bk mw p l e rm_X12_watchNow s m args below meth c 5 g A Q 0 0 37 [(0, .ref (g.2.2 0)), (1, .int z.2.1), (2, .int z.2.2.1)] [] z.2.2.2) (k : ¬ z.1 = 0 → Bk mw p l e rm_X12_watchNow s m args below meth c 5 g A Q 0 0 125 [(1, .int z.2.1)] [] z.2.2.2) : Bk mw p l e rm_X12_watchNow s m args below meth c 5 g A Q 0 0 64 [(0, .ref (g.2.2 0)), (1, .int x1), (2, .int x2)] [] σ := by
  obtain ⟨hx, hb, hr, hml, hown, hts, hK, hlocks, hXX, hA, hXo⟩ := id C
  intro H locs ls hP hD hS hl
  unfold f_X12_watchNow_b64 at hf
  refine lv_iconst (v := (0 : Int32)) hx hb dX12_watchNow_64 (by decide) ?_
  refine lv_istore_n (lv' := [(3, .int (0 : Int32)), (0, .ref (g.2.2 0)), (1, .int x1), (2, .int x2)]) hx hb dX12_watchNow_65 rfl hl (by decide) rfl (fun ls hl => ?_)
  refine lv_iconst (v := (0 : Int32)) hx hb dX12_watchNow_66 (by decide) ?_
  refine lv_istore (lv' := [(4, .int (0 : Int32)), (3, .int (0 : Int32)), (0, .ref (g.2.2 0)), (1, .int x1), (2, .int x2)]) hx hb dX12_watchNow_67 hl (by decide) rfl (fun ls hl => ?_)
  obtain ⟨z6, hz6, hf⟩ := bi_s hf
  refine lp_X12_watchNow_h69 C hz6 ?_ H locs ls hP hD hS (lv_sub hl [2, 3, 4, 1, 0] rfl)
  intro H locs ls hP hD hS hl
  refine lv_iload_n hx hb dX12_watchNow_109 rfl (lv_at hl 3 rfl) ?_
  refine lv_aload_n hx hb dX12_watchNow_110 rfl (lv_at hl 0 rfl) ?_
  obtain ⟨q7, hq7, hf⟩ := bi_s hf
  refine bk_VI (wf := mw) (q0 := 0) (ci := 11) (rest := [.int (z6.2.1)]) [] C hP hD hS hl.1 (c_X12_all hXo hq7) (cwA_V 0 hts wa_766 wa_763 wa_764 wa_765 wa_5 rfl rfl nd_X12_all ⟨Nat.le_of_ble_eq_true rfl, Nat.le_of_ble_eq_true rfl⟩) rfl rfl rfl rfl (Nat.le_of_ble_eq_true rfl) dX12_watchNow_111 ⟨Nat.le_of_ble_eq_true rfl, Nat.le_of_ble_eq_true rfl⟩ (fun H locs hP hD hS => ?_)
  refine lv_icmp_ne (tgt := 119) hx hb dX12_watchNow_114 (by decide) (fun t114 => ?_) (fun t114 => ?_)
  · have hf := (if_neg t114).symm.trans hf
    exact b_X12_watchNow_b119 C hf k0 k H locs ls hP hD hS (lv_sub hl [0, 1, 2] rfl)
  · have hf := (if_pos t114).symm.trans hf
    refine lv_iload_n hx hb dX12_watchNow_117 rfl (lv_at hl 2 rfl) ?_
    refine lv_istore_n (lv' := [(1, .int x2), (0, .ref (g.2.2 0)), (2, .int x2), (3, .int (z6.2.1))]) hx hb dX12_watchNow_118 rfl hl (by decide) rfl (fun ls hl => ?_)
    exact b_X12_watchNow_b119 C hf k0 k H locs ls hP hD hS (lv_sub hl [1, 0, 2] rfl)
def s_X12_watchNow_h37 (N : Nat) (x1 : Int32) (x2 : Int32) (σ : Sg) : Option (Nat × Int32 × Int32 × Sg) :=
(f_X12_all N σ).bind fun q8 =>
if q8.1 < x2 then (some (1, x1, 0, (q8.2)))
else (if x1 = (-1 : Int32) then (f_X12_watchNow_b64 N x1 x2 (q8.2))
else ((f_X12_bitsOf N x2 (q8.2)).bind fun q9 =>
(f_X12_bitsOf N x1 (q9.2)).bind fun q10 =>
if q9.1 < q10.1 then (f_X12_watchNow_b64 N x1 x2 (q10.2))
else (f_X12_watchNow_b119 N x1 x2 (q10.2))))
set_option maxHeartbeats 4000000 in
set_option maxRecDepth 100000 in
theorem e_X12_watchNow_h37 {N : Nat} {x1 : Int32} {x2 : Int32} {σ : Sg} {z : Nat × Int32 × Int32 × Sg} (C : Cx p s m args meth c cX12_watchNow 5 (some .int) RX12 g A X) (hf : s_X12_watchNow_h37 N x1 x2 σ = some z) (k0 : z.1 = 0 → Bk mw p l e rm_X12_watchNow s m args below meth c 5 g A Q 0 0 37 [(0, .ref (g.2.2 0)), (1, .int z.2.1), (2, .int z.2.2.1)] [] z.2.2.2) (k : ¬ z.1 = 0 → Bk mw p l e rm_X12_watchNow s m args below meth c 5 g A Q 0 0 125 [(1, .int z.2.1)] [] z.2.2.2) : Bk mw p l e rm_X12_watchNow s m args below meth c 5 g A Q 0 0 37 [(0, .ref (g.2.2 0)), (1, .int x1), (2, .int x2)] [] σ := by
  obtain ⟨hx, hb, hr, hml, hown, hts, hK, hlocks, hXX, hA, hXo⟩ := id C
  intro H locs ls hP hD hS hl
  unfold s_X12_watchNow_h37 at hf
  refine lv_iload_n hx hb dX12_watchNow_37 rfl (lv_at hl 2 rfl) ?_
  refine lv_aload_n hx hb dX12_watchNow_38 rfl (lv_at hl 0 rfl) ?_
  obtain ⟨q8, hq8, hf⟩ := bi_s hf
  refine bk_VI (wf := mw) (q0 := 0) (ci := 11) (rest := [.int x2]) [] C hP hD hS hl.1 (c_X12_all hXo hq8) (cwA_V 0 hts wa_766 wa_763 wa_764 wa_765 wa_5 rfl rfl nd_X12_all ⟨Nat.le_of_ble_eq_true rfl, Nat.le_of_ble_eq_true rfl⟩) rfl rfl rfl rfl (Nat.le_of_ble_eq_true rfl) dX12_watchNow_39 ⟨Nat.le_of_ble_eq_true rfl, Nat.le_of_ble_eq_true rfl⟩ (fun H locs hP hD hS => ?_)
  refine lv_icmp_gt (tgt := 125) hx hb dX12_watchNow_42 (by decide) (fun t42 => ?_) (fun t42 => ?_)
  · have hf := (if_pos t42).symm.trans hf
    cases hf
    exact (k (show ¬ (1 : Nat) = 0 by decide)) H locs ls hP hD hS (lv_sub hl [1] rfl)
  · have hf := (if_neg t42).symm.trans hf
    refine lv_iload_n hx hb dX12_watchNow_45 rfl (lv_at hl 1 rfl) ?_
    refine lv_iconst (v := (-1 : Int32)) hx hb dX12_watchNow_46 (by decide) ?_
    refine lv_icmp_eq (tgt := 64) hx hb dX12_watchNow_47 (by decide) (fun t47 => ?_) (fun t47 => ?_)
    · have hf := (if_pos t47).symm.trans hf
      exact b_X12_watchNow_b64 C hf k0 k H locs ls hP hD hS (lv_sub hl [0, 1, 2] rfl)
    · have hf := (if_neg t47).symm.trans hf
      refine lv_iload_n hx hb dX12_watchNow_50 rfl (lv_at hl 2 rfl) ?_
      obtain ⟨q9, hq9, hf⟩ := bi_s hf
      refine bk_SI (wf := mw) (rest := []) [.int x2] C hP hD hS hl.1 (c_X12_bitsOf hXo hq9) (cwA_S 1 hts wa_769 wa_767 wa_768 wa_5 rfl rfl nd_X12_bitsOf ⟨Nat.le_of_ble_eq_true rfl, Nat.le_of_ble_eq_true rfl⟩) rfl rfl (Nat.le_of_ble_eq_true rfl) dX12_watchNow_51 ⟨Nat.le_of_ble_eq_true rfl, Nat.le_of_ble_eq_true rfl⟩ (fun H locs hP hD hS => ?_)
      refine lv_iload_n hx hb dX12_watchNow_54 rfl (lv_at hl 1 rfl) ?_
      obtain ⟨q10, hq10, hf⟩ := bi_s hf
      refine bk_SI (wf := mw) (rest := [.int q9.1]) [.int x1] C hP hD hS hl.1 (c_X12_bitsOf hXo hq10) (cwA_S 1 hts wa_769 wa_767 wa_768 wa_5 rfl rfl nd_X12_bitsOf ⟨Nat.le_of_ble_eq_true rfl, Nat.le_of_ble_eq_true rfl⟩) rfl rfl (Nat.le_of_ble_eq_true rfl) dX12_watchNow_55 ⟨Nat.le_of_ble_eq_true rfl, Nat.le_of_ble_eq_true rfl⟩ (fun H locs hP hD hS => ?_)
      refine lv_icmp_lt (tgt := 64) hx hb dX12_watchNow_58 (by decide) (fun t58 => ?_) (fun t58 => ?_)
      · have hf := (if_pos t58).symm.trans hf
        exact b_X12_watchNow_b64 C hf k0 k H locs ls hP hD hS (lv_sub hl [0, 1, 2] rfl)
      · have hf := (if_neg t58).symm.trans hf
        refine lv_goto (tgt := 119) hx hb dX12_watchNow_61 (by decide) ?_
        exact b_X12_watchNow_b119 C hf k0 k H locs ls hP hD hS (lv_sub hl [0, 1, 2] rfl)
theorem lp_X12_watchNow_h37 {N : Nat} {n : Nat} {x1 : Int32} {x2 : Int32} {σ : Sg} {z : Nat × Int32 × Int32 × Sg} (C : Cx p s m args meth c cX12_watchNow 5 (some .int) RX12 g A X) (hz : it (fun q => s_X12_watchNow_h37 N q.1 q.2.1 q.2.2) n (x1, x2, σ) = some z) (k : Bk mw p l e rm_X12_watchNow s m args below meth c 5 g A Q 0 0 125 [(1, .int z.2.1)] [] z.2.2.2) : Bk mw p l e rm_X12_watchNow s m args below meth c 5 g A Q 0 0 37 [(0, .ref (g.2.2 0)), (1, .int x1), (2, .int x2)] [] σ :=
  it_W (S := Int32 × Int32 × Sg) (fun q => Bk mw p l e rm_X12_watchNow s m args below meth c 5 g A Q 0 0 37 [(0, .ref (g.2.2 0)), (1, .int q.1), (2, .int q.2.1)] [] q.2.2) (fun z => Bk mw p l e rm_X12_watchNow s m args below meth c 5 g A Q 0 0 125 [(1, .int z.2.1)] [] z.2.2.2) (fun q z hq k0 k => e_X12_watchNow_h37 C hq k0 k) n (x1, x2, σ) z hz k
def s_X12_watchNow_h2 (N : Nat) (x1 : Int32) (σ : Sg) : Option (Nat × Int32 × Sg) :=
if (σ 3 0) ≤ x1 then (some (1, 0, σ))
else ((f_X12_seesOf N x1 σ).bind fun q11 =>
if (x1 < 0 ∨ 9 ≤ x1.toNatClampNeg) then none else
bd (wr (q11.2) 20 (x1.toNatClampNeg) (q11.1 ||| ((1 : Int32) <<< (x1 &&& 31)))) fun σ13 =>
bd (x1 + (1 : Int32)) fun v14 =>
some (0, v14, σ13))
set_option maxHeartbeats 4000000 in
set_option maxRecDepth 100000 in
theorem e_X12_watchNow_h2 {N : Nat} {x1 : Int32} {σ : Sg} {z : Nat × Int32 × Sg} (C : Cx p s m args meth c cX12_watchNow 5 (some .int) RX12 g A X) (hf : s_X12_watchNow_h2 N x1 σ = some z) (k0 : z.1 = 0 → Bk mw p l e rm_X12_watchNow s m args below meth c 5 g A Q 0 0 2 [(0, .ref (g.2.2 0)), (1, .int z.2.1)] [] z.2.2) (k : ¬ z.1 = 0 → Bk mw p l e rm_X12_watchNow s m args below meth c 5 g A Q 0 0 33 [(0, .ref (g.2.2 0))] [] z.2.2) : Bk mw p l e rm_X12_watchNow s m args below meth c 5 g A Q 0 0 2 [(0, .ref (g.2.2 0)), (1, .int x1)] [] σ := by
  obtain ⟨hx, hb, hr, hml, hown, hts, hK, hlocks, hXX, hA, hXo⟩ := id C
  intro H locs ls hP hD hS hl
  unfold s_X12_watchNow_h2 at hf
  refine lv_iload_n hx hb dX12_watchNow_2 rfl (lv_at hl 1 rfl) ?_
  refine lv_aload_n hx hb dX12_watchNow_3 rfl (lv_at hl 0 rfl) ?_
  refine bk_get (wf := mw) (q0 := 0) (ci := 11) (k := 3) (v := .ref (g.2.2 3)) C hP wl_X12 rfl rfl (by decide) wa_157 rfl rfl dX12_watchNow_4 ?_
  refine lv_iconst (v := (0 : Int32)) hx hb dX12_watchNow_7 (by decide) ?_
  refine bk_iald (wf := mw) (q0 := 3) (n := 10) (j := 0) C hP rfl (vin_l (by decide) (by decide)) (by decide) dX12_watchNow_8 ?_
  refine lv_icmp_ge (tgt := 33) hx hb dX12_watchNow_9 (by decide) (fun t9 => ?_) (fun t9 => ?_)
  · have hf := (if_pos t9).symm.trans hf
    cases hf
    exact (k (show ¬ (1 : Nat) = 0 by decide)) H locs ls hP hD hS (lv_sub hl [0] rfl)
  · have hf := (if_neg t9).symm.trans hf
    refine lv_aload_n hx hb dX12_watchNow_12 rfl (lv_at hl 0 rfl) ?_
    refine bk_get (wf := mw) (q0 := 0) (ci := 11) (k := 36) (v := .ref (g.2.2 20)) C hP wl_X12 rfl rfl (by decide) wa_176 rfl rfl dX12_watchNow_13 ?_
    refine lv_iload_n hx hb dX12_watchNow_16 rfl (lv_at hl 1 rfl) ?_
    refine lv_aload_n hx hb dX12_watchNow_17 rfl (lv_at hl 0 rfl) ?_
    refine lv_iload_n hx hb dX12_watchNow_18 rfl (lv_at hl 1 rfl) ?_
    obtain ⟨q11, hq11, hf⟩ := bi_s hf
    refine bk_VI (wf := mw) (q0 := 0) (ci := 11) (rest := [.int x1, .ref (g.2.2 20)]) [.int x1] C hP hD hS hl.1 (c_X12_seesOf hXo hq11) (cwA_V 1 hts wa_734 wa_731 wa_732 wa_733 wa_5 rfl rfl nd_X12_seesOf ⟨Nat.le_of_ble_eq_true rfl, Nat.le_of_ble_eq_true rfl⟩) rfl rfl rfl rfl (Nat.le_of_ble_eq_true rfl) dX12_watchNow_19 ⟨Nat.le_of_ble_eq_true rfl, Nat.le_of_ble_eq_true rfl⟩ (fun H locs hP hD hS => ?_)
    refine lv_iconst (v := (1 : Int32)) hx hb dX12_watchNow_22 (by decide) ?_
    refine lv_iload_n hx hb dX12_watchNow_23 rfl (lv_at hl 1 rfl) ?_
    refine lv_ishl hx hb dX12_watchNow_24 ?_
    refine lv_ior hx hb dX12_watchNow_25 ?_
    obtain ⟨g12, hf⟩ := gd_s hf
    obtain ⟨σ13, eσ13, hf⟩ := bd_s hf
    refine bk_iast (wf := mw) (σ1 := σ13) (q0 := 20) (n := 9) (j := x1.toNatClampNeg) C hP hD hS rfl g12 rfl (by rw [eσ13]; exact mw_a20 g _ _ _) dX12_watchNow_26 (fun H locs hP hD hS => ?_)
    obtain ⟨v14, ev14, hf⟩ := bd_s hf
    refine lv_iinc (v := v14) (lv' := [(1, .int v14), (0, .ref (g.2.2 0))]) hx hb dX12_watchNow_27 hl (k := 1) rfl (by rw [ev14]; rfl) (by decide) rfl (fun ls hl => ?_)
    refine lv_goto (tgt := 2) hx hb dX12_watchNow_30 (by decide) ?_
    cases hf
    exact k0 rfl H locs ls hP hD hS (lv_sub hl [1, 0] rfl)
theorem lp_X12_watchNow_h2 {N : Nat} {n : Nat} {x1 : Int32} {σ : Sg} {z : Nat × Int32 × Sg} (C : Cx p s m args meth c cX12_watchNow 5 (some .int) RX12 g A X) (hz : it (fun q => s_X12_watchNow_h2 N q.1 q.2) n (x1, σ) = some z) (k : Bk mw p l e rm_X12_watchNow s m args below meth c 5 g A Q 0 0 33 [(0, .ref (g.2.2 0))] [] z.2.2) : Bk mw p l e rm_X12_watchNow s m args below meth c 5 g A Q 0 0 2 [(0, .ref (g.2.2 0)), (1, .int x1)] [] σ :=
  it_W (S := Int32 × Sg) (fun q => Bk mw p l e rm_X12_watchNow s m args below meth c 5 g A Q 0 0 2 [(0, .ref (g.2.2 0)), (1, .int q.1)] [] q.2) (fun z => Bk mw p l e rm_X12_watchNow s m args below meth c 5 g A Q 0 0 33 [(0, .ref (g.2.2 0))] [] z.2.2) (fun q z hq k0 k => e_X12_watchNow_h2 C hq k0 k) n (x1, σ) z hz k
def f_X12_watchNow (N : Nat) (σ : Sg) : Option (Int32 × Sg) :=
(it (fun q => s_X12_watchNow_h2 N q.1 q.2) N ((0 : Int32), σ)).bind fun z15 =>
(it (fun q => s_X12_watchNow_h37 N q.1 q.2.1 q.2.2) N ((-1 : Int32), (0 : Int32), (z15.2.2))).bind fun z16 =>
some ((z16.2.1), (z16.2.2.2))
set_option maxHeartbeats 4000000 in
set_option maxRecDepth 100000 in
theorem b_X12_watchNow {N : Nat} {σ : Sg} {z : Int32 × Sg} (C : Cx p s m args meth c cX12_watchNow 5 (some .int) RX12 g A X) (hf : f_X12_watchNow N σ = some z) : Bk mw p l e rm_X12_watchNow s m args below meth c 5 g A (MQ below (qI mw g A z.1 z.2) args s 0 0 A) 0 0 0 [(0, .ref (g.2.2 0))] [] σ := by
  obtain ⟨hx, hb, hr, hml, hown, hts, hK, hlocks, hXX, hA, hXo⟩ := id C
  intro H locs ls hP hD hS hl
  unfold f_X12_watchNow at hf
  refine lv_iconst (v := (0 : Int32)) hx hb dX12_watchNow_0 (by decide) ?_
  refine lv_istore_n (lv' := [(1, .int (0 : Int32)), (0, .ref (g.2.2 0))]) hx hb dX12_watchNow_1 rfl hl (by decide) rfl (fun ls hl => ?_)
  obtain ⟨z15, hz15, hf⟩ := bi_s hf
  refine lp_X12_watchNow_h2 C hz15 ?_ H locs ls hP hD hS (lv_sub hl [1, 0] rfl)
  intro H locs ls hP hD hS hl
  refine lv_iconst (v := (-1 : Int32)) hx hb dX12_watchNow_33 (by decide) ?_
  refine lv_istore_n (lv' := [(1, .int (-1 : Int32)), (0, .ref (g.2.2 0))]) hx hb dX12_watchNow_34 rfl hl (by decide) rfl (fun ls hl => ?_)
  refine lv_iconst (v := (0 : Int32)) hx hb dX12_watchNow_35 (by decide) ?_
  refine lv_istore_n (lv' := [(2, .int (0 : Int32)), (1, .int (-1 : Int32)), (0, .ref (g.2.2 0))]) hx hb dX12_watchNow_36 rfl hl (by decide) rfl (fun ls hl => ?_)
  obtain ⟨z16, hz16, hf⟩ := bi_s hf
  refine lp_X12_watchNow_h37 C hz16 ?_ H locs ls hP hD hS (lv_sub hl [2, 1, 0] rfl)
  intro H locs ls hP hD hS hl
  refine lv_iload_n hx hb dX12_watchNow_125 rfl (lv_at hl 0 rfl) ?_
  cases hf
  exact bk_iret C hP hD hS rfl dX12_watchNow_126
theorem c_X12_watchNow {N : Nat} {σ : Sg} {z : Int32 × Sg} (hX : xOK g X) (hf : f_X12_watchNow N σ = some z) : MetI l yX12_watchNow (Cond.code yX12_watchNow cX12_watchNow 5 (some .int) :: wsA) rm_X12_watchNow mw g X [.ref (g.2.2 0)] σ z.1 z.2 :=
  MetI_of hX (by decide) (Nat.le_of_ble_eq_true rfl) (fun p e s m args below meth c A C => b_X12_watchNow C hf)
-- X12_stareNow: stareNow()I
abbrev rm_X12_stareNow : Room := { frames := 4, cells := 0, slots := 0, locals := 93 }
theorem nd_X12_stareNow : yX12_stareNow.cls ≠ "java/lang/invoke/MethodHandle" ∧ yX12_stareNow.cls ≠ "java/lang/invoke/VarHandle" ∧ (parseMethodDescriptor yX12_stareNow.desc).map (fun d => d.parameters.length) = some 0 := by decide +kernel
def f_X12_stareNow_b81 (N : Nat) (x1 : Int32) (x2 : Int32) (x3 : Int32) (x4 : Int32) (σ : Sg) : Option (Nat × Int32 × Int32 × Int32 × Sg) :=
bd (x4 + (1 : Int32)) fun v1 =>
some (0, x1, x2, v1, σ)
set_option maxHeartbeats 4000000 in
set_option maxRecDepth 100000 in
theorem b_X12_stareNow_b81 {N : Nat} {x1 : Int32} {x2 : Int32} {x3 : Int32} {x4 : Int32} {σ : Sg} {z : Nat × Int32 × Int32 × Int32 × Sg} (C : Cx p s m args meth c cX12_stareNow 6 (some .int) RX12 g A X) (hf : f_X12_stareNow_b81 N x1 x2 x3 x4 σ = some z) (k0 : z.1 = 0 → Bk mw p l e rm_X12_stareNow s m args below meth c 6 g A Q 0 0 21 [(0, .ref (g.2.2 0)), (1, .int z.2.1), (2, .int z.2.2.1), (3, .int x3), (4, .int z.2.2.2.1)] [] z.2.2.2.2) (k : ¬ z.1 = 0 → Bk mw p l e rm_X12_stareNow s m args below meth c 6 g A Q 0 0 87 [(0, .ref (g.2.2 0)), (1, .int z.2.1), (2, .int z.2.2.1), (3, .int x3)] [] z.2.2.2.2) : Bk mw p l e rm_X12_stareNow s m args below meth c 6 g A Q 0 0 81 [(0, .ref (g.2.2 0)), (1, .int x1), (2, .int x2), (3, .int x3), (4, .int x4)] [] σ := by
  obtain ⟨hx, hb, hr, hml, hown, hts, hK, hlocks, hXX, hA, hXo⟩ := id C
  intro H locs ls hP hD hS hl
  unfold f_X12_stareNow_b81 at hf
  obtain ⟨v1, ev1, hf⟩ := bd_s hf
  refine lv_iinc (v := v1) (lv' := [(4, .int v1), (0, .ref (g.2.2 0)), (1, .int x1), (2, .int x2), (3, .int x3)]) hx hb dX12_stareNow_81 hl (k := 4) rfl (by rw [ev1]; rfl) (by decide) rfl (fun ls hl => ?_)
  refine lv_goto (tgt := 21) hx hb dX12_stareNow_84 (by decide) ?_
  cases hf
  exact k0 rfl H locs ls hP hD hS (lv_sub hl [1, 2, 3, 4, 0] rfl)
def s_X12_stareNow_h21 (N : Nat) (x3 : Int32) (x1 : Int32) (x2 : Int32) (x4 : Int32) (σ : Sg) : Option (Nat × Int32 × Int32 × Int32 × Sg) :=
if (σ 3 0) ≤ x4 then (some (1, x1, x2, 0, σ))
else (if (x3 < 0 ∨ 18 ≤ x3.toNatClampNeg) then none else
if (x4 < 0 ∨ 18 ≤ x4.toNatClampNeg) then none else
bd (if 0 ≤ ((σ 5 x3.toNatClampNeg) - (σ 5 x4.toNatClampNeg)) then ((σ 5 x3.toNatClampNeg) - (σ 5 x4.toNatClampNeg)) else 0 - ((σ 5 x3.toNatClampNeg) - (σ 5 x4.toNatClampNeg))) fun v4 =>
if v4 ≤ x2 then (f_X12_stareNow_b81 N x1 x2 x3 x4 σ)
else ((f_X12_inSight N x3 x4 σ).bind fun q5 =>
if q5.1 = 0 then (f_X12_stareNow_b81 N x1 x2 x3 x4 (q5.2))
else (bd (((10 : Int32) * x3) + x4) fun v6 =>
f_X12_stareNow_b81 N v6 v4 x3 x4 (q5.2))))
set_option maxHeartbeats 4000000 in
set_option maxRecDepth 100000 in
theorem e_X12_stareNow_h21 {N : Nat} {x3 : Int32} {x1 : Int32} {x2 : Int32} {x4 : Int32} {σ : Sg} {z : Nat × Int32 × Int32 × Int32 × Sg} (C : Cx p s m args meth c cX12_stareNow 6 (some .int) RX12 g A X) (hf : s_X12_stareNow_h21 N x3 x1 x2 x4 σ = some z) (k0 : z.1 = 0 → Bk mw p l e rm_X12_stareNow s m args below meth c 6 g A Q 0 0 21 [(0, .ref (g.2.2 0)), (1, .int z.2.1), (2, .int z.2.2.1), (3, .int x3), (4, .int z.2.2.2.1)] [] z.2.2.2.2) (k : ¬ z.1 = 0 → Bk mw p l e rm_X12_stareNow s m args below meth c 6 g A Q 0 0 87 [(0, .ref (g.2.2 0)), (1, .int z.2.1), (2, .int z.2.2.1), (3, .int x3)] [] z.2.2.2.2) : Bk mw p l e rm_X12_stareNow s m args below meth c 6 g A Q 0 0 21 [(0, .ref (g.2.2 0)), (1, .int x1), (2, .int x2), (3, .int x3), (4, .int x4)] [] σ := by
  obtain ⟨hx, hb, hr, hml, hown, hts, hK, hlocks, hXX, hA, hXo⟩ := id C
  intro H locs ls hP hD hS hl
  unfold s_X12_stareNow_h21 at hf
  refine lv_iload hx hb dX12_stareNow_21 (lv_at hl 4 rfl) ?_
  refine lv_aload_n hx hb dX12_stareNow_23 rfl (lv_at hl 0 rfl) ?_
  refine bk_get (wf := mw) (q0 := 0) (ci := 11) (k := 3) (v := .ref (g.2.2 3)) C hP wl_X12 rfl rfl (by decide) wa_157 rfl rfl dX12_stareNow_24 ?_
  refine lv_iconst (v := (0 : Int32)) hx hb dX12_stareNow_27 (by decide) ?_
  refine bk_iald (wf := mw) (q0 := 3) (n := 10) (j := 0) C hP rfl (vin_l (by decide) (by decide)) (by decide) dX12_stareNow_28 ?_
  refine lv_icmp_ge (tgt := 87) hx hb dX12_stareNow_29 (by decide) (fun t29 => ?_) (fun t29 => ?_)
  · have hf := (if_pos t29).symm.trans hf
    cases hf
    exact (k (show ¬ (1 : Nat) = 0 by decide)) H locs ls hP hD hS (lv_sub hl [0, 1, 2, 3] rfl)
  · have hf := (if_neg t29).symm.trans hf
    refine lv_aload_n hx hb dX12_stareNow_32 rfl (lv_at hl 0 rfl) ?_
    refine bk_get (wf := mw) (q0 := 0) (ci := 11) (k := 5) (v := .ref (g.2.2 5)) C hP wl_X12 rfl rfl (by decide) wa_159 rfl rfl dX12_stareNow_33 ?_
    refine lv_iload_n hx hb dX12_stareNow_36 rfl (lv_at hl 3 rfl) ?_
    obtain ⟨g2, hf⟩ := gd_s hf
    refine bk_iald (wf := mw) (q0 := 5) (n := 18) (j := x3.toNatClampNeg) C hP rfl g2 rfl dX12_stareNow_37 ?_
    refine lv_aload_n hx hb dX12_stareNow_38 rfl (lv_at hl 0 rfl) ?_
    refine bk_get (wf := mw) (q0 := 0) (ci := 11) (k := 5) (v := .ref (g.2.2 5)) C hP wl_X12 rfl rfl (by decide) wa_159 rfl rfl dX12_stareNow_39 ?_
    refine lv_iload hx hb dX12_stareNow_42 (lv_at hl 4 rfl) ?_
    obtain ⟨g3, hf⟩ := gd_s hf
    refine bk_iald (wf := mw) (q0 := 5) (n := 18) (j := x4.toNatClampNeg) C hP rfl g3 rfl dX12_stareNow_44 ?_
    refine lv_isub hx hb dX12_stareNow_45 ?_
    refine va_mabs hx hb (hml.trans hl.1.symm) hown (hts _ wa_739) (hts _ wa_498) (hts _ wa_231) (hts _ wa_499) (Nat.le_of_ble_eq_true rfl) (Nat.le_of_ble_eq_true rfl) (Nat.le_of_ble_eq_true rfl) (Nat.le_of_ble_eq_true rfl) dX12_stareNow_46 ?_
    obtain ⟨v4, ev4, hf⟩ := bd_s hf
    rw [← ev4]
    refine lv_istore (lv' := [(5, .int v4), (0, .ref (g.2.2 0)), (1, .int x1), (2, .int x2), (3, .int x3), (4, .int x4)]) hx hb dX12_stareNow_49 hl (by decide) rfl (fun ls hl => ?_)
    refine lv_iload hx hb dX12_stareNow_51 (lv_at hl 0 rfl) ?_
    refine lv_iload_n hx hb dX12_stareNow_53 rfl (lv_at hl 3 rfl) ?_
    refine lv_icmp_le (tgt := 81) hx hb dX12_stareNow_54 (by decide) (fun t54 => ?_) (fun t54 => ?_)
    · have hf := (if_pos t54).symm.trans hf
      exact b_X12_stareNow_b81 C hf k0 k H locs ls hP hD hS (lv_sub hl [1, 2, 3, 4, 5] rfl)
    · have hf := (if_neg t54).symm.trans hf
      refine lv_aload_n hx hb dX12_stareNow_57 rfl (lv_at hl 1 rfl) ?_
      refine lv_iload_n hx hb dX12_stareNow_58 rfl (lv_at hl 4 rfl) ?_
      refine lv_iload hx hb dX12_stareNow_59 (lv_at hl 5 rfl) ?_
      obtain ⟨q5, hq5, hf⟩ := bi_s hf
      refine bk_VI (wf := mw) (q0 := 0) (ci := 11) (rest := []) [.int x3, .int x4] C hP hD hS hl.1 (c_X12_inSight hXo hq5) (cwA_V 2 hts wa_738 wa_735 wa_736 wa_737 wa_5 rfl rfl nd_X12_inSight ⟨Nat.le_of_ble_eq_true rfl, Nat.le_of_ble_eq_true rfl⟩) rfl rfl rfl rfl (Nat.le_of_ble_eq_true rfl) dX12_stareNow_61 ⟨Nat.le_of_ble_eq_true rfl, Nat.le_of_ble_eq_true rfl⟩ (fun H locs hP hD hS => ?_)
      refine lv_if_ne (tgt := 70) hx hb dX12_stareNow_64 (by decide) (fun t64 => ?_) (fun t64 => ?_)
      · have hf := (if_neg t64).symm.trans hf
        refine lv_bipush (v := (10 : Int32)) hx hb dX12_stareNow_70 (by decide) ?_
        refine lv_iload_n hx hb dX12_stareNow_72 rfl (lv_at hl 4 rfl) ?_
        refine lv_imul hx hb dX12_stareNow_73 ?_
        refine lv_iload hx hb dX12_stareNow_74 (lv_at hl 5 rfl) ?_
        refine lv_iadd hx hb dX12_stareNow_76 ?_
        obtain ⟨v6, ev6, hf⟩ := bd_s hf
        rw [← ev6]
        refine lv_istore_n (lv' := [(1, .int v6), (5, .int v4), (0, .ref (g.2.2 0)), (2, .int x2), (3, .int x3), (4, .int x4)]) hx hb dX12_stareNow_77 rfl hl (by decide) rfl (fun ls hl => ?_)
        refine lv_iload hx hb dX12_stareNow_78 (lv_at hl 1 rfl) ?_
        refine lv_istore_n (lv' := [(2, .int v4), (1, .int v6), (5, .int v4), (0, .ref (g.2.2 0)), (3, .int x3), (4, .int x4)]) hx hb dX12_stareNow_80 rfl hl (by decide) rfl (fun ls hl => ?_)
        exact b_X12_stareNow_b81 C hf k0 k H locs ls hP hD hS (lv_sub hl [3, 1, 0, 4, 5] rfl)
      · have hf := (if_pos t64).symm.trans hf
        refine lv_goto (tgt := 81) hx hb dX12_stareNow_67 (by decide) ?_
        exact b_X12_stareNow_b81 C hf k0 k H locs ls hP hD hS (lv_sub hl [1, 2, 3, 4, 5] rfl)
theorem lp_X12_stareNow_h21 {N : Nat} {n : Nat} {x3 : Int32} {x1 : Int32} {x2 : Int32} {x4 : Int32} {σ : Sg} {z : Nat × Int32 × Int32 × Int32 × Sg} (C : Cx p s m args meth c cX12_stareNow 6 (some .int) RX12 g A X) (hz : it (fun q => s_X12_stareNow_h21 N x3 q.1 q.2.1 q.2.2.1 q.2.2.2) n (x1, x2, x4, σ) = some z) (k : Bk mw p l e rm_X12_stareNow s m args below meth c 6 g A Q 0 0 87 [(0, .ref (g.2.2 0)), (1, .int z.2.1), (2, .int z.2.2.1), (3, .int x3)] [] z.2.2.2.2) : Bk mw p l e rm_X12_stareNow s m args below meth c 6 g A Q 0 0 21 [(0, .ref (g.2.2 0)), (1, .int x1), (2, .int x2), (3, .int x3), (4, .int x4)] [] σ :=
  it_W (S := Int32 × Int32 × Int32 × Sg) (fun q => Bk mw p l e rm_X12_stareNow s m args below meth c 6 g A Q 0 0 21 [(0, .ref (g.2.2 0)), (1, .int q.1), (2, .int q.2.1), (3, .int x3), (4, .int q.2.2.1)] [] q.2.2.2) (fun z => Bk mw p l e rm_X12_stareNow s m args below meth c 6 g A Q 0 0 87 [(0, .ref (g.2.2 0)), (1, .int z.2.1), (2, .int z.2.2.1), (3, .int x3)] [] z.2.2.2.2) (fun q z hq k0 k => e_X12_stareNow_h21 C hq k0 k) n (x1, x2, x4, σ) z hz k
def s_X12_stareNow_h6 (N : Nat) (x1 : Int32) (x2 : Int32) (x3 : Int32) (σ : Sg) : Option (Nat × Int32 × Int32 × Int32 × Sg) :=
if (σ 3 0) ≤ x3 then (some (1, x1, 0, 0, σ))
else (bd (x3 + (1 : Int32)) fun v7 =>
(it (fun q => s_X12_stareNow_h21 N x3 q.1 q.2.1 q.2.2.1 q.2.2.2) N (x1, x2, v7, σ)).bind fun z8 =>
bd (x3 + (1 : Int32)) fun v9 =>
some (0, (z8.2.1), (z8.2.2.1), v9, (z8.2.2.2.2)))
set_option maxHeartbeats 4000000 in
set_option maxRecDepth 100000 in
theorem e_X12_stareNow_h6 {N : Nat} {x1 : Int32} {x2 : Int32} {x3 : Int32} {σ : Sg} {z : Nat × Int32 × Int32 × Int32 × Sg} (C : Cx p s m args meth c cX12_stareNow 6 (some .int) RX12 g A X) (hf : s_X12_stareNow_h6 N x1 x2 x3 σ = some z) (k0 : z.1 = 0 → Bk mw p l e rm_X12_stareNow s m args below meth c 6 g A Q 0 0 6 [(0, .ref (g.2.2 0)), (1, .int z.2.1), (2, .int z.2.2.1), (3, .int z.2.2.2.1)] [] z.2.2.2.2) (k : ¬ z.1 = 0 → Bk mw p l e rm_X12_stareNow s m args below meth c 6 g A Q 0 0 93 [(1, .int z.2.1)] [] z.2.2.2.2) : Bk mw p l e rm_X12_stareNow s m args below meth c 6 g A Q 0 0 6 [(0, .ref (g.2.2 0)), (1, .int x1), (2, .int x2), (3, .int x3)] [] σ := by
  obtain ⟨hx, hb, hr, hml, hown, hts, hK, hlocks, hXX, hA, hXo⟩ := id C
  intro H locs ls hP hD hS hl
  unfold s_X12_stareNow_h6 at hf
  refine lv_iload_n hx hb dX12_stareNow_6 rfl (lv_at hl 3 rfl) ?_
  refine lv_aload_n hx hb dX12_stareNow_7 rfl (lv_at hl 0 rfl) ?_
  refine bk_get (wf := mw) (q0 := 0) (ci := 11) (k := 3) (v := .ref (g.2.2 3)) C hP wl_X12 rfl rfl (by decide) wa_157 rfl rfl dX12_stareNow_8 ?_
  refine lv_iconst (v := (0 : Int32)) hx hb dX12_stareNow_11 (by decide) ?_
  refine bk_iald (wf := mw) (q0 := 3) (n := 10) (j := 0) C hP rfl (vin_l (by decide) (by decide)) (by decide) dX12_stareNow_12 ?_
  refine lv_icmp_ge (tgt := 93) hx hb dX12_stareNow_13 (by decide) (fun t13 => ?_) (fun t13 => ?_)
  · have hf := (if_pos t13).symm.trans hf
    cases hf
    exact (k (show ¬ (1 : Nat) = 0 by decide)) H locs ls hP hD hS (lv_sub hl [1] rfl)
  · have hf := (if_neg t13).symm.trans hf
    refine lv_iload_n hx hb dX12_stareNow_16 rfl (lv_at hl 3 rfl) ?_
    refine lv_iconst (v := (1 : Int32)) hx hb dX12_stareNow_17 (by decide) ?_
    refine lv_iadd hx hb dX12_stareNow_18 ?_
    obtain ⟨v7, ev7, hf⟩ := bd_s hf
    rw [← ev7]
    refine lv_istore (lv' := [(4, .int v7), (0, .ref (g.2.2 0)), (1, .int x1), (2, .int x2), (3, .int x3)]) hx hb dX12_stareNow_19 hl (by decide) rfl (fun ls hl => ?_)
    obtain ⟨z8, hz8, hf⟩ := bi_s hf
    refine lp_X12_stareNow_h21 C hz8 ?_ H locs ls hP hD hS (lv_sub hl [1, 2, 3, 4, 0] rfl)
    intro H locs ls hP hD hS hl
    obtain ⟨v9, ev9, hf⟩ := bd_s hf
    refine lv_iinc (v := v9) (lv' := [(3, .int v9), (0, .ref (g.2.2 0)), (1, .int (z8.2.1)), (2, .int (z8.2.2.1))]) hx hb dX12_stareNow_87 hl (k := 3) rfl (by rw [ev9]; rfl) (by decide) rfl (fun ls hl => ?_)
    refine lv_goto (tgt := 6) hx hb dX12_stareNow_90 (by decide) ?_
    cases hf
    exact k0 rfl H locs ls hP hD hS (lv_sub hl [1, 2, 3, 0] rfl)
theorem lp_X12_stareNow_h6 {N : Nat} {n : Nat} {x1 : Int32} {x2 : Int32} {x3 : Int32} {σ : Sg} {z : Nat × Int32 × Int32 × Int32 × Sg} (C : Cx p s m args meth c cX12_stareNow 6 (some .int) RX12 g A X) (hz : it (fun q => s_X12_stareNow_h6 N q.1 q.2.1 q.2.2.1 q.2.2.2) n (x1, x2, x3, σ) = some z) (k : Bk mw p l e rm_X12_stareNow s m args below meth c 6 g A Q 0 0 93 [(1, .int z.2.1)] [] z.2.2.2.2) : Bk mw p l e rm_X12_stareNow s m args below meth c 6 g A Q 0 0 6 [(0, .ref (g.2.2 0)), (1, .int x1), (2, .int x2), (3, .int x3)] [] σ :=
  it_W (S := Int32 × Int32 × Int32 × Sg) (fun q => Bk mw p l e rm_X12_stareNow s m args below meth c 6 g A Q 0 0 6 [(0, .ref (g.2.2 0)), (1, .int q.1), (2, .int q.2.1), (3, .int q.2.2.1)] [] q.2.2.2) (fun z => Bk mw p l e rm_X12_stareNow s m args below meth c 6 g A Q 0 0 93 [(1, .int z.2.1)] [] z.2.2.2.2) (fun q z hq k0 k => e_X12_stareNow_h6 C hq k0 k) n (x1, x2, x3, σ) z hz k
def f_X12_stareNow (N : Nat) (σ : Sg) : Option (Int32 × Sg) :=
(it (fun q => s_X12_stareNow_h6 N q.1 q.2.1 q.2.2.1 q.2.2.2) N ((-1 : Int32), (0 : Int32), (0 : Int32), σ)).bind fun z10 =>
some ((z10.2.1), (z10.2.2.2.2))
set_option maxHeartbeats 4000000 in
set_option maxRecDepth 100000 in
theorem b_X12_stareNow {N : Nat} {σ : Sg} {z : Int32 × Sg} (C : Cx p s m args meth c cX12_stareNow 6 (some .int) RX12 g A X) (hf : f_X12_stareNow N σ = some z) : Bk mw p l e rm_X12_stareNow s m args below meth c 6 g A (MQ below (qI mw g A z.1 z.2) args s 0 0 A) 0 0 0 [(0, .ref (g.2.2 0))] [] σ := by
  obtain ⟨hx, hb, hr, hml, hown, hts, hK, hlocks, hXX, hA, hXo⟩ := id C
  intro H locs ls hP hD hS hl
  unfold f_X12_stareNow at hf
  refine lv_iconst (v := (-1 : Int32)) hx hb dX12_stareNow_0 (by decide) ?_
  refine lv_istore_n (lv' := [(1, .int (-1 : Int32)), (0, .ref (g.2.2 0))]) hx hb dX12_stareNow_1 rfl hl (by decide) rfl (fun ls hl => ?_)
  refine lv_iconst (v := (0 : Int32)) hx hb dX12_stareNow_2 (by decide) ?_
  refine lv_istore_n (lv' := [(2, .int (0 : Int32)), (1, .int (-1 : Int32)), (0, .ref (g.2.2 0))]) hx hb dX12_stareNow_3 rfl hl (by decide) rfl (fun ls hl => ?_)
  refine lv_iconst (v := (0 : Int32)) hx hb dX12_stareNow_4 (by decide) ?_
  refine lv_istore_n (lv' := [(3, .int (0 : Int32)), (2, .int (0 : Int32)), (1, .int (-1 : Int32)), (0, .ref (g.2.2 0))]) hx hb dX12_stareNow_5 rfl hl (by decide) rfl (fun ls hl => ?_)
  obtain ⟨z10, hz10, hf⟩ := bi_s hf
  refine lp_X12_stareNow_h6 C hz10 ?_ H locs ls hP hD hS (lv_sub hl [3, 2, 1, 0] rfl)
  intro H locs ls hP hD hS hl
  refine lv_iload_n hx hb dX12_stareNow_93 rfl (lv_at hl 0 rfl) ?_
  cases hf
  exact bk_iret C hP hD hS rfl dX12_stareNow_94
theorem c_X12_stareNow {N : Nat} {σ : Sg} {z : Int32 × Sg} (hX : xOK g X) (hf : f_X12_stareNow N σ = some z) : MetI l yX12_stareNow (Cond.code yX12_stareNow cX12_stareNow 6 (some .int) :: wsA) rm_X12_stareNow mw g X [.ref (g.2.2 0)] σ z.1 z.2 :=
  MetI_of hX (by decide) (Nat.le_of_ble_eq_true rfl) (fun p e s m args below meth c A C => b_X12_stareNow C hf)
-- X12_count: count(I)I
abbrev rm_X12_count : Room := { frames := 7, cells := 0, slots := 0, locals := 163 }
theorem nd_X12_count : yX12_count.cls ≠ "java/lang/invoke/MethodHandle" ∧ yX12_count.cls ≠ "java/lang/invoke/VarHandle" ∧ (parseMethodDescriptor yX12_count.desc).map (fun d => d.parameters.length) = some 1 := by decide +kernel
def f_X12_count (N : Nat) (x1 : Int32) (σ : Sg) : Option (Int32 × Sg) :=
bd (wr σ 0 2 (0 : Int32)) fun σ1 =>
if ((x1).toInt < 0 ∨ 15 < (x1).toInt) then ((f_X12_fail N (1 : Int32) σ1).bind fun q2 =>
some (q2.1, (q2.2)))
else if x1 = (0 : Int32) then (some ((σ1 3 0), σ1))
else if x1 = (1 : Int32) then (some ((σ1 0 28), σ1))
else if x1 = (2 : Int32) then ((f_X12_mistOf N σ1).bind fun q3 =>
some (q3.1, (q3.2)))
else if x1 = (3 : Int32) then (some ((σ1 3 1), σ1))
else if x1 = (4 : Int32) then (some ((σ1 3 2), σ1))
else if x1 = (5 : Int32) then (some ((σ1 0 29), σ1))
else if x1 = (6 : Int32) then ((f_X12_waitingNow N σ1).bind fun q4 =>
some (q4.1, (q4.2)))
else if x1 = (7 : Int32) then ((f_X12_partsNow N σ1).bind fun q5 =>
some (q5.1, (q5.2)))
else if x1 = (8 : Int32) then ((f_X12_watchNow N σ1).bind fun q6 =>
some (q6.1, (q6.2)))
else if x1 = (9 : Int32) then ((f_X12_stareNow N σ1).bind fun q7 =>
some (q7.1, (q7.2)))
else if x1 = (10 : Int32) then (some ((σ1 0 30), σ1))
else if x1 = (11 : Int32) then (some ((σ1 0 31), σ1))
else if x1 = (12 : Int32) then (some ((σ1 0 13), σ1))
else if x1 = (13 : Int32) then (if ((x1 - (13 : Int32)) < 0 ∨ 3 ≤ (x1 - (13 : Int32)).toNatClampNeg) then none else
some ((σ1 11 (x1 - (13 : Int32)).toNatClampNeg), σ1))
else if x1 = (14 : Int32) then (if ((x1 - (13 : Int32)) < 0 ∨ 3 ≤ (x1 - (13 : Int32)).toNatClampNeg) then none else
some ((σ1 11 (x1 - (13 : Int32)).toNatClampNeg), σ1))
else if x1 = (15 : Int32) then (if ((x1 - (13 : Int32)) < 0 ∨ 3 ≤ (x1 - (13 : Int32)).toNatClampNeg) then none else
some ((σ1 11 (x1 - (13 : Int32)).toNatClampNeg), σ1))
else none
set_option maxHeartbeats 4000000 in
set_option maxRecDepth 100000 in
theorem b_X12_count {N : Nat} {x1 : Int32} {σ : Sg} {z : Int32 × Sg} (C : Cx p s m args meth c cX12_count 2 (some .int) RX12 g A X) (hf : f_X12_count N x1 σ = some z) : Bk mw p l e rm_X12_count s m args below meth c 2 g A (MQ below (qI mw g A z.1 z.2) args s 0 0 A) 0 0 0 [(0, .ref (g.2.2 0)), (1, .int x1)] [] σ := by
  obtain ⟨hx, hb, hr, hml, hown, hts, hK, hlocks, hXX, hA, hXo⟩ := id C
  intro H locs ls hP hD hS hl
  unfold f_X12_count at hf
  refine lv_aload_n hx hb dX12_count_0 rfl (lv_at hl 0 rfl) ?_
  refine lv_iconst (v := (0 : Int32)) hx hb dX12_count_1 (by decide) ?_
  obtain ⟨σ1, eσ1, hf⟩ := bd_s hf
  refine bk_put (wf := mw) (σ1 := σ1) (q0 := 0) (ci := 11) (k := 2) (v := .int (0 : Int32)) C hP hD hS wl_X12 tyX12_ok nmX12 rfl rfl (by decide) wa_205 rfl rfl rfl rfl rfl (Nat.le_of_ble_eq_true rfl) (by rw [eσ1]; exact mw_p0_2 g _ _) dX12_count_2 (fun H locs hP hD hS => ?_)
  refine lv_iload_n hx hb dX12_count_5 rfl (lv_at hl 1 rfl) ?_
  by_cases t6 : ((x1).toInt < 0 ∨ 15 < (x1).toInt)
  · have hf := (if_pos t6).symm.trans hf
    refine lv_tableOut (tgt := 165) hx hb dX12_count_6 t6 (by decide) ?_
    refine lv_aload_n hx hb dX12_count_165 rfl (lv_at hl 0 rfl) ?_
    refine lv_iconst (v := (1 : Int32)) hx hb dX12_count_166 (by decide) ?_
    obtain ⟨q2, hq2, hf⟩ := bi_s hf
    refine bk_VI (wf := mw) (q0 := 0) (ci := 11) (rest := []) [.int (1 : Int32)] C hP hD hS hl.1 (c_X12_fail hXo hq2) (cwA_V 1 hts wa_512 wa_509 wa_510 wa_511 wa_5 rfl rfl nd_X12_fail ⟨Nat.le_of_ble_eq_true rfl, Nat.le_of_ble_eq_true rfl⟩) rfl rfl rfl rfl (Nat.le_of_ble_eq_true rfl) dX12_count_167 ⟨Nat.le_of_ble_eq_true rfl, Nat.le_of_ble_eq_true rfl⟩ (fun H locs hP hD hS => ?_)
    cases hf
    exact bk_iret C hP hD hS rfl dX12_count_170
  · have hf := (if_neg t6).symm.trans hf
    have t6l := fun q => t6 (Or.inl q)
    have t6h := fun q => t6 (Or.inr q)
    by_cases u6_0 : x1 = (0 : Int32)
    · have hf := (if_pos u6_0).symm.trans hf
      refine lv_tableIn (off := 78) (tgt := 84) hx hb dX12_count_6 t6l t6h (by rw [u6_0]; rfl) (by decide) ?_
      refine lv_aload_n hx hb dX12_count_84 rfl (lv_at hl 0 rfl) ?_
      refine bk_get (wf := mw) (q0 := 0) (ci := 11) (k := 3) (v := .ref (g.2.2 3)) C hP wl_X12 rfl rfl (by decide) wa_157 rfl rfl dX12_count_85 ?_
      refine lv_iconst (v := (0 : Int32)) hx hb dX12_count_88 (by decide) ?_
      refine bk_iald (wf := mw) (q0 := 3) (n := 10) (j := 0) C hP rfl (vin_l (by decide) (by decide)) (by decide) dX12_count_89 ?_
      cases hf
      exact bk_iret C hP hD hS rfl dX12_count_90
    · have hf := (if_neg u6_0).symm.trans hf
      by_cases u6_1 : x1 = (1 : Int32)
      · have hf := (if_pos u6_1).symm.trans hf
        refine lv_tableIn (off := 85) (tgt := 91) hx hb dX12_count_6 t6l t6h (by rw [u6_1]; rfl) (by decide) ?_
        refine lv_aload_n hx hb dX12_count_91 rfl (lv_at hl 0 rfl) ?_
        refine bk_get (wf := mw) (q0 := 0) (ci := 11) (k := 28) (v := .int (σ1 0 28)) C hP wl_X12 rfl rfl (by decide) wa_613 rfl rfl dX12_count_92 ?_
        cases hf
        exact bk_iret C hP hD hS rfl dX12_count_95
      · have hf := (if_neg u6_1).symm.trans hf
        by_cases u6_2 : x1 = (2 : Int32)
        · have hf := (if_pos u6_2).symm.trans hf
          refine lv_tableIn (off := 90) (tgt := 96) hx hb dX12_count_6 t6l t6h (by rw [u6_2]; rfl) (by decide) ?_
          refine lv_aload_n hx hb dX12_count_96 rfl (lv_at hl 0 rfl) ?_
          obtain ⟨q3, hq3, hf⟩ := bi_s hf
          refine bk_VI (wf := mw) (q0 := 0) (ci := 11) (rest := []) [] C hP hD hS hl.1 (c_X12_mistOf hXo hq3) (cwA_V 0 hts wa_715 wa_712 wa_713 wa_714 wa_5 rfl rfl nd_X12_mistOf ⟨Nat.le_of_ble_eq_true rfl, Nat.le_of_ble_eq_true rfl⟩) rfl rfl rfl rfl (Nat.le_of_ble_eq_true rfl) dX12_count_97 ⟨Nat.le_of_ble_eq_true rfl, Nat.le_of_ble_eq_true rfl⟩ (fun H locs hP hD hS => ?_)
          cases hf
          exact bk_iret C hP hD hS rfl dX12_count_100
        · have hf := (if_neg u6_2).symm.trans hf
          by_cases u6_3 : x1 = (3 : Int32)
          · have hf := (if_pos u6_3).symm.trans hf
            refine lv_tableIn (off := 95) (tgt := 101) hx hb dX12_count_6 t6l t6h (by rw [u6_3]; rfl) (by decide) ?_
            refine lv_aload_n hx hb dX12_count_101 rfl (lv_at hl 0 rfl) ?_
            refine bk_get (wf := mw) (q0 := 0) (ci := 11) (k := 3) (v := .ref (g.2.2 3)) C hP wl_X12 rfl rfl (by decide) wa_157 rfl rfl dX12_count_102 ?_
            refine lv_iconst (v := (1 : Int32)) hx hb dX12_count_105 (by decide) ?_
            refine bk_iald (wf := mw) (q0 := 3) (n := 10) (j := 1) C hP rfl (vin_l (by decide) (by decide)) (by decide) dX12_count_106 ?_
            cases hf
            exact bk_iret C hP hD hS rfl dX12_count_107
          · have hf := (if_neg u6_3).symm.trans hf
            by_cases u6_4 : x1 = (4 : Int32)
            · have hf := (if_pos u6_4).symm.trans hf
              refine lv_tableIn (off := 102) (tgt := 108) hx hb dX12_count_6 t6l t6h (by rw [u6_4]; rfl) (by decide) ?_
              refine lv_aload_n hx hb dX12_count_108 rfl (lv_at hl 0 rfl) ?_
              refine bk_get (wf := mw) (q0 := 0) (ci := 11) (k := 3) (v := .ref (g.2.2 3)) C hP wl_X12 rfl rfl (by decide) wa_157 rfl rfl dX12_count_109 ?_
              refine lv_iconst (v := (2 : Int32)) hx hb dX12_count_112 (by decide) ?_
              refine bk_iald (wf := mw) (q0 := 3) (n := 10) (j := 2) C hP rfl (vin_l (by decide) (by decide)) (by decide) dX12_count_113 ?_
              cases hf
              exact bk_iret C hP hD hS rfl dX12_count_114
            · have hf := (if_neg u6_4).symm.trans hf
              by_cases u6_5 : x1 = (5 : Int32)
              · have hf := (if_pos u6_5).symm.trans hf
                refine lv_tableIn (off := 109) (tgt := 115) hx hb dX12_count_6 t6l t6h (by rw [u6_5]; rfl) (by decide) ?_
                refine lv_aload_n hx hb dX12_count_115 rfl (lv_at hl 0 rfl) ?_
                refine bk_get (wf := mw) (q0 := 0) (ci := 11) (k := 29) (v := .int (σ1 0 29)) C hP wl_X12 rfl rfl (by decide) wa_614 rfl rfl dX12_count_116 ?_
                cases hf
                exact bk_iret C hP hD hS rfl dX12_count_119
              · have hf := (if_neg u6_5).symm.trans hf
                by_cases u6_6 : x1 = (6 : Int32)
                · have hf := (if_pos u6_6).symm.trans hf
                  refine lv_tableIn (off := 114) (tgt := 120) hx hb dX12_count_6 t6l t6h (by rw [u6_6]; rfl) (by decide) ?_
                  refine lv_aload_n hx hb dX12_count_120 rfl (lv_at hl 0 rfl) ?_
                  obtain ⟨q4, hq4, hf⟩ := bi_s hf
                  refine bk_VI (wf := mw) (q0 := 0) (ci := 11) (rest := []) [] C hP hD hS hl.1 (c_X12_waitingNow hXo hq4) (cwA_V 0 hts wa_719 wa_716 wa_717 wa_718 wa_5 rfl rfl nd_X12_waitingNow ⟨Nat.le_of_ble_eq_true rfl, Nat.le_of_ble_eq_true rfl⟩) rfl rfl rfl rfl (Nat.le_of_ble_eq_true rfl) dX12_count_121 ⟨Nat.le_of_ble_eq_true rfl, Nat.le_of_ble_eq_true rfl⟩ (fun H locs hP hD hS => ?_)
                  cases hf
                  exact bk_iret C hP hD hS rfl dX12_count_124
                · have hf := (if_neg u6_6).symm.trans hf
                  by_cases u6_7 : x1 = (7 : Int32)
                  · have hf := (if_pos u6_7).symm.trans hf
                    refine lv_tableIn (off := 119) (tgt := 125) hx hb dX12_count_6 t6l t6h (by rw [u6_7]; rfl) (by decide) ?_
                    refine lv_aload_n hx hb dX12_count_125 rfl (lv_at hl 0 rfl) ?_
                    obtain ⟨q5, hq5, hf⟩ := bi_s hf
                    refine bk_VI (wf := mw) (q0 := 0) (ci := 11) (rest := []) [] C hP hD hS hl.1 (c_X12_partsNow hXo hq5) (cwA_V 0 hts wa_723 wa_720 wa_721 wa_722 wa_5 rfl rfl nd_X12_partsNow ⟨Nat.le_of_ble_eq_true rfl, Nat.le_of_ble_eq_true rfl⟩) rfl rfl rfl rfl (Nat.le_of_ble_eq_true rfl) dX12_count_126 ⟨Nat.le_of_ble_eq_true rfl, Nat.le_of_ble_eq_true rfl⟩ (fun H locs hP hD hS => ?_)
                    cases hf
                    exact bk_iret C hP hD hS rfl dX12_count_129
                  · have hf := (if_neg u6_7).symm.trans hf
                    by_cases u6_8 : x1 = (8 : Int32)
                    · have hf := (if_pos u6_8).symm.trans hf
                      refine lv_tableIn (off := 124) (tgt := 130) hx hb dX12_count_6 t6l t6h (by rw [u6_8]; rfl) (by decide) ?_
                      refine lv_aload_n hx hb dX12_count_130 rfl (lv_at hl 0 rfl) ?_
                      obtain ⟨q6, hq6, hf⟩ := bi_s hf
                      refine bk_VI (wf := mw) (q0 := 0) (ci := 11) (rest := []) [] C hP hD hS hl.1 (c_X12_watchNow hXo hq6) (cwA_V 0 hts wa_762 wa_759 wa_760 wa_761 wa_5 rfl rfl nd_X12_watchNow ⟨Nat.le_of_ble_eq_true rfl, Nat.le_of_ble_eq_true rfl⟩) rfl rfl rfl rfl (Nat.le_of_ble_eq_true rfl) dX12_count_131 ⟨Nat.le_of_ble_eq_true rfl, Nat.le_of_ble_eq_true rfl⟩ (fun H locs hP hD hS => ?_)
                      cases hf
                      exact bk_iret C hP hD hS rfl dX12_count_134
                    · have hf := (if_neg u6_8).symm.trans hf
                      by_cases u6_9 : x1 = (9 : Int32)
                      · have hf := (if_pos u6_9).symm.trans hf
                        refine lv_tableIn (off := 129) (tgt := 135) hx hb dX12_count_6 t6l t6h (by rw [u6_9]; rfl) (by decide) ?_
                        refine lv_aload_n hx hb dX12_count_135 rfl (lv_at hl 0 rfl) ?_
                        obtain ⟨q7, hq7, hf⟩ := bi_s hf
                        refine bk_VI (wf := mw) (q0 := 0) (ci := 11) (rest := []) [] C hP hD hS hl.1 (c_X12_stareNow hXo hq7) (cwA_V 0 hts wa_773 wa_770 wa_771 wa_772 wa_5 rfl rfl nd_X12_stareNow ⟨Nat.le_of_ble_eq_true rfl, Nat.le_of_ble_eq_true rfl⟩) rfl rfl rfl rfl (Nat.le_of_ble_eq_true rfl) dX12_count_136 ⟨Nat.le_of_ble_eq_true rfl, Nat.le_of_ble_eq_true rfl⟩ (fun H locs hP hD hS => ?_)
                        cases hf
                        exact bk_iret C hP hD hS rfl dX12_count_139
                      · have hf := (if_neg u6_9).symm.trans hf
                        by_cases u6_10 : x1 = (10 : Int32)
                        · have hf := (if_pos u6_10).symm.trans hf
                          refine lv_tableIn (off := 134) (tgt := 140) hx hb dX12_count_6 t6l t6h (by rw [u6_10]; rfl) (by decide) ?_
                          refine lv_aload_n hx hb dX12_count_140 rfl (lv_at hl 0 rfl) ?_
                          refine bk_get (wf := mw) (q0 := 0) (ci := 11) (k := 30) (v := .int (σ1 0 30)) C hP wl_X12 rfl rfl (by decide) wa_615 rfl rfl dX12_count_141 ?_
                          cases hf
                          exact bk_iret C hP hD hS rfl dX12_count_144
                        · have hf := (if_neg u6_10).symm.trans hf
                          by_cases u6_11 : x1 = (11 : Int32)
                          · have hf := (if_pos u6_11).symm.trans hf
                            refine lv_tableIn (off := 139) (tgt := 145) hx hb dX12_count_6 t6l t6h (by rw [u6_11]; rfl) (by decide) ?_
                            refine lv_aload_n hx hb dX12_count_145 rfl (lv_at hl 0 rfl) ?_
                            refine bk_get (wf := mw) (q0 := 0) (ci := 11) (k := 31) (v := .int (σ1 0 31)) C hP wl_X12 rfl rfl (by decide) wa_616 rfl rfl dX12_count_146 ?_
                            cases hf
                            exact bk_iret C hP hD hS rfl dX12_count_149
                          · have hf := (if_neg u6_11).symm.trans hf
                            by_cases u6_12 : x1 = (12 : Int32)
                            · have hf := (if_pos u6_12).symm.trans hf
                              refine lv_tableIn (off := 144) (tgt := 150) hx hb dX12_count_6 t6l t6h (by rw [u6_12]; rfl) (by decide) ?_
                              refine lv_aload_n hx hb dX12_count_150 rfl (lv_at hl 0 rfl) ?_
                              refine bk_get (wf := mw) (q0 := 0) (ci := 11) (k := 13) (v := .int (σ1 0 13)) C hP wl_X12 rfl rfl (by decide) wa_206 rfl rfl dX12_count_151 ?_
                              cases hf
                              exact bk_iret C hP hD hS rfl dX12_count_154
                            · have hf := (if_neg u6_12).symm.trans hf
                              by_cases u6_13 : x1 = (13 : Int32)
                              · have hf := (if_pos u6_13).symm.trans hf
                                refine lv_tableIn (off := 149) (tgt := 155) hx hb dX12_count_6 t6l t6h (by rw [u6_13]; rfl) (by decide) ?_
                                refine lv_aload_n hx hb dX12_count_155 rfl (lv_at hl 0 rfl) ?_
                                refine bk_get (wf := mw) (q0 := 0) (ci := 11) (k := 11) (v := .ref (g.2.2 11)) C hP wl_X12 rfl rfl (by decide) wa_165 rfl rfl dX12_count_156 ?_
                                refine lv_iload_n hx hb dX12_count_159 rfl (lv_at hl 1 rfl) ?_
                                refine lv_bipush (v := (13 : Int32)) hx hb dX12_count_160 (by decide) ?_
                                refine lv_isub hx hb dX12_count_162 ?_
                                obtain ⟨g8, hf⟩ := gd_s hf
                                refine bk_iald (wf := mw) (q0 := 11) (n := 3) (j := (x1 - (13 : Int32)).toNatClampNeg) C hP rfl g8 rfl dX12_count_163 ?_
                                cases hf
                                exact bk_iret C hP hD hS rfl dX12_count_164
                              · have hf := (if_neg u6_13).symm.trans hf
                                by_cases u6_14 : x1 = (14 : Int32)
                                · have hf := (if_pos u6_14).symm.trans hf
                                  refine lv_tableIn (off := 149) (tgt := 155) hx hb dX12_count_6 t6l t6h (by rw [u6_14]; rfl) (by decide) ?_
                                  refine lv_aload_n hx hb dX12_count_155 rfl (lv_at hl 0 rfl) ?_
                                  refine bk_get (wf := mw) (q0 := 0) (ci := 11) (k := 11) (v := .ref (g.2.2 11)) C hP wl_X12 rfl rfl (by decide) wa_165 rfl rfl dX12_count_156 ?_
                                  refine lv_iload_n hx hb dX12_count_159 rfl (lv_at hl 1 rfl) ?_
                                  refine lv_bipush (v := (13 : Int32)) hx hb dX12_count_160 (by decide) ?_
                                  refine lv_isub hx hb dX12_count_162 ?_
                                  obtain ⟨g9, hf⟩ := gd_s hf
                                  refine bk_iald (wf := mw) (q0 := 11) (n := 3) (j := (x1 - (13 : Int32)).toNatClampNeg) C hP rfl g9 rfl dX12_count_163 ?_
                                  cases hf
                                  exact bk_iret C hP hD hS rfl dX12_count_164
                                · have hf := (if_neg u6_14).symm.trans hf
                                  by_cases u6_15 : x1 = (15 : Int32)
                                  · have hf := (if_pos u6_15).symm.trans hf
                                    refine lv_tableIn (off := 149) (tgt := 155) hx hb dX12_count_6 t6l t6h (by rw [u6_15]; rfl) (by decide) ?_
                                    refine lv_aload_n hx hb dX12_count_155 rfl (lv_at hl 0 rfl) ?_
                                    refine bk_get (wf := mw) (q0 := 0) (ci := 11) (k := 11) (v := .ref (g.2.2 11)) C hP wl_X12 rfl rfl (by decide) wa_165 rfl rfl dX12_count_156 ?_
                                    refine lv_iload_n hx hb dX12_count_159 rfl (lv_at hl 1 rfl) ?_
                                    refine lv_bipush (v := (13 : Int32)) hx hb dX12_count_160 (by decide) ?_
                                    refine lv_isub hx hb dX12_count_162 ?_
                                    obtain ⟨g10, hf⟩ := gd_s hf
                                    refine bk_iald (wf := mw) (q0 := 11) (n := 3) (j := (x1 - (13 : Int32)).toNatClampNeg) C hP rfl g10 rfl dX12_count_163 ?_
                                    cases hf
                                    exact bk_iret C hP hD hS rfl dX12_count_164
                                  · have hf := (if_neg u6_15).symm.trans hf
                                    cases hf
theorem c_X12_count {N : Nat} {x1 : Int32} {σ : Sg} {z : Int32 × Sg} (hX : xOK g X) (hf : f_X12_count N x1 σ = some z) : MetI l yX12_count (Cond.code yX12_count cX12_count 2 (some .int) :: wsA) rm_X12_count mw g X [.ref (g.2.2 0), .int x1] σ z.1 z.2 :=
  MetI_of hX (by decide) (Nat.le_of_ble_eq_true rfl) (fun p e s m args below meth c A C => b_X12_count C hf)
-- X12_farm: farm(II)I
abbrev rm_X12_farm : Room := { frames := 5, cells := 0, slots := 0, locals := 116 }
theorem nd_X12_farm : yX12_farm.cls ≠ "java/lang/invoke/MethodHandle" ∧ yX12_farm.cls ≠ "java/lang/invoke/VarHandle" ∧ (parseMethodDescriptor yX12_farm.desc).map (fun d => d.parameters.length) = some 2 := by decide +kernel
def f_X12_farm (N : Nat) (x1 : Int32) (x2 : Int32) (σ : Sg) : Option (Int32 × Sg) :=
bd (wr σ 0 2 (0 : Int32)) fun σ1 =>
(f_X12_isFarm N x1 σ1).bind fun q2 =>
if q2.1 = 0 then ((f_X12_fail N (1 : Int32) (q2.2)).bind fun q13 =>
some (q13.1, (q13.2)))
else (if ((x2).toInt < 0 ∨ 9 < (x2).toInt) then ((f_X12_fail N (1 : Int32) (q2.2)).bind fun q3 =>
some (q3.1, (q3.2)))
else if x2 = (0 : Int32) then (if (x1 < 0 ∨ 18 ≤ x1.toNatClampNeg) then none else
some (((q2.2) 5 x1.toNatClampNeg), (q2.2)))
else if x2 = (1 : Int32) then (if (x1 < 0 ∨ 18 ≤ x1.toNatClampNeg) then none else
some (((q2.2) 6 x1.toNatClampNeg), (q2.2)))
else if x2 = (2 : Int32) then (if (x1 < 0 ∨ 9 ≤ x1.toNatClampNeg) then none else
some (((q2.2) 16 x1.toNatClampNeg), (q2.2)))
else if x2 = (3 : Int32) then (if (x1 < 0 ∨ 18 ≤ x1.toNatClampNeg) then none else
some (((q2.2) 8 x1.toNatClampNeg), (q2.2)))
else if x2 = (4 : Int32) then (if (x1 < 0 ∨ 9 ≤ x1.toNatClampNeg) then none else
some (((q2.2) 13 x1.toNatClampNeg), (q2.2)))
else if x2 = (5 : Int32) then (if (x1 < 0 ∨ 9 ≤ x1.toNatClampNeg) then none else
some (((q2.2) 14 x1.toNatClampNeg), (q2.2)))
else if x2 = (6 : Int32) then (if (x1 < 0 ∨ 9 ≤ x1.toNatClampNeg) then none else
some (((q2.2) 15 x1.toNatClampNeg), (q2.2)))
else if x2 = (7 : Int32) then (some (((((q2.2) 0 29) >>> (x1 &&& 31)) &&& (1 : Int32)), (q2.2)))
else if x2 = (8 : Int32) then (if (x1 < 0 ∨ 18 ≤ x1.toNatClampNeg) then none else
some (((q2.2) 4 x1.toNatClampNeg), (q2.2)))
else if x2 = (9 : Int32) then ((f_X12_seesOf N x1 (q2.2)).bind fun q12 =>
some (q12.1, (q12.2)))
else none)
set_option maxHeartbeats 4000000 in
set_option maxRecDepth 100000 in
theorem b_X12_farm {N : Nat} {x1 : Int32} {x2 : Int32} {σ : Sg} {z : Int32 × Sg} (C : Cx p s m args meth c cX12_farm 3 (some .int) RX12 g A X) (hf : f_X12_farm N x1 x2 σ = some z) : Bk mw p l e rm_X12_farm s m args below meth c 3 g A (MQ below (qI mw g A z.1 z.2) args s 0 0 A) 0 0 0 [(0, .ref (g.2.2 0)), (1, .int x1), (2, .int x2)] [] σ := by
  obtain ⟨hx, hb, hr, hml, hown, hts, hK, hlocks, hXX, hA, hXo⟩ := id C
  intro H locs ls hP hD hS hl
  unfold f_X12_farm at hf
  refine lv_aload_n hx hb dX12_farm_0 rfl (lv_at hl 0 rfl) ?_
  refine lv_iconst (v := (0 : Int32)) hx hb dX12_farm_1 (by decide) ?_
  obtain ⟨σ1, eσ1, hf⟩ := bd_s hf
  refine bk_put (wf := mw) (σ1 := σ1) (q0 := 0) (ci := 11) (k := 2) (v := .int (0 : Int32)) C hP hD hS wl_X12 tyX12_ok nmX12 rfl rfl (by decide) wa_205 rfl rfl rfl rfl rfl (Nat.le_of_ble_eq_true rfl) (by rw [eσ1]; exact mw_p0_2 g _ _) dX12_farm_2 (fun H locs hP hD hS => ?_)
  refine lv_aload_n hx hb dX12_farm_5 rfl (lv_at hl 0 rfl) ?_
  refine lv_iload_n hx hb dX12_farm_6 rfl (lv_at hl 1 rfl) ?_
  obtain ⟨q2, hq2, hf⟩ := bi_s hf
  refine bk_VI (wf := mw) (q0 := 0) (ci := 11) (rest := []) [.int x1] C hP hD hS hl.1 (c_X12_isFarm hXo hq2) (cwA_V 1 hts wa_800 wa_797 wa_798 wa_799 wa_5 rfl rfl nd_X12_isFarm ⟨Nat.le_of_ble_eq_true rfl, Nat.le_of_ble_eq_true rfl⟩) rfl rfl rfl rfl (Nat.le_of_ble_eq_true rfl) dX12_farm_7 ⟨Nat.le_of_ble_eq_true rfl, Nat.le_of_ble_eq_true rfl⟩ (fun H locs hP hD hS => ?_)
  refine lv_if_ne (tgt := 19) hx hb dX12_farm_10 (by decide) (fun t10 => ?_) (fun t10 => ?_)
  · have hf := (if_neg t10).symm.trans hf
    refine lv_iload_n hx hb dX12_farm_19 rfl (lv_at hl 2 rfl) ?_
    by_cases t20 : ((x2).toInt < 0 ∨ 9 < (x2).toInt)
    · have hf := (if_pos t20).symm.trans hf
      refine lv_tableOut (tgt := 147) hx hb dX12_farm_20 t20 (by decide) ?_
      refine lv_aload_n hx hb dX12_farm_147 rfl (lv_at hl 0 rfl) ?_
      refine lv_iconst (v := (1 : Int32)) hx hb dX12_farm_148 (by decide) ?_
      obtain ⟨q3, hq3, hf⟩ := bi_s hf
      refine bk_VI (wf := mw) (q0 := 0) (ci := 11) (rest := []) [.int (1 : Int32)] C hP hD hS hl.1 (c_X12_fail hXo hq3) (cwA_V 1 hts wa_512 wa_509 wa_510 wa_511 wa_5 rfl rfl nd_X12_fail ⟨Nat.le_of_ble_eq_true rfl, Nat.le_of_ble_eq_true rfl⟩) rfl rfl rfl rfl (Nat.le_of_ble_eq_true rfl) dX12_farm_149 ⟨Nat.le_of_ble_eq_true rfl, Nat.le_of_ble_eq_true rfl⟩ (fun H locs hP hD hS => ?_)
      cases hf
      exact bk_iret C hP hD hS rfl dX12_farm_152
    · have hf := (if_neg t20).symm.trans hf
      have t20l := fun q => t20 (Or.inl q)
      have t20h := fun q => t20 (Or.inr q)
      by_cases u20_0 : x2 = (0 : Int32)
      · have hf := (if_pos u20_0).symm.trans hf
        refine lv_tableIn (off := 56) (tgt := 76) hx hb dX12_farm_20 t20l t20h (by rw [u20_0]; rfl) (by decide) ?_
        refine lv_aload_n hx hb dX12_farm_76 rfl (lv_at hl 0 rfl) ?_
        refine bk_get (wf := mw) (q0 := 0) (ci := 11) (k := 5) (v := .ref (g.2.2 5)) C hP wl_X12 rfl rfl (by decide) wa_159 rfl rfl dX12_farm_77 ?_
        refine lv_iload_n hx hb dX12_farm_80 rfl (lv_at hl 1 rfl) ?_
        obtain ⟨g4, hf⟩ := gd_s hf
        refine bk_iald (wf := mw) (q0 := 5) (n := 18) (j := x1.toNatClampNeg) C hP rfl g4 rfl dX12_farm_81 ?_
        cases hf
        exact bk_iret C hP hD hS rfl dX12_farm_82
      · have hf := (if_neg u20_0).symm.trans hf
        by_cases u20_1 : x2 = (1 : Int32)
        · have hf := (if_pos u20_1).symm.trans hf
          refine lv_tableIn (off := 63) (tgt := 83) hx hb dX12_farm_20 t20l t20h (by rw [u20_1]; rfl) (by decide) ?_
          refine lv_aload_n hx hb dX12_farm_83 rfl (lv_at hl 0 rfl) ?_
          refine bk_get (wf := mw) (q0 := 0) (ci := 11) (k := 6) (v := .ref (g.2.2 6)) C hP wl_X12 rfl rfl (by decide) wa_160 rfl rfl dX12_farm_84 ?_
          refine lv_iload_n hx hb dX12_farm_87 rfl (lv_at hl 1 rfl) ?_
          obtain ⟨g5, hf⟩ := gd_s hf
          refine bk_iald (wf := mw) (q0 := 6) (n := 18) (j := x1.toNatClampNeg) C hP rfl g5 rfl dX12_farm_88 ?_
          cases hf
          exact bk_iret C hP hD hS rfl dX12_farm_89
        · have hf := (if_neg u20_1).symm.trans hf
          by_cases u20_2 : x2 = (2 : Int32)
          · have hf := (if_pos u20_2).symm.trans hf
            refine lv_tableIn (off := 70) (tgt := 90) hx hb dX12_farm_20 t20l t20h (by rw [u20_2]; rfl) (by decide) ?_
            refine lv_aload_n hx hb dX12_farm_90 rfl (lv_at hl 0 rfl) ?_
            refine bk_get (wf := mw) (q0 := 0) (ci := 11) (k := 26) (v := .ref (g.2.2 16)) C hP wl_X12 rfl rfl (by decide) wa_171 rfl rfl dX12_farm_91 ?_
            refine lv_iload_n hx hb dX12_farm_94 rfl (lv_at hl 1 rfl) ?_
            obtain ⟨g6, hf⟩ := gd_s hf
            refine bk_iald (wf := mw) (q0 := 16) (n := 9) (j := x1.toNatClampNeg) C hP rfl g6 rfl dX12_farm_95 ?_
            cases hf
            exact bk_iret C hP hD hS rfl dX12_farm_96
          · have hf := (if_neg u20_2).symm.trans hf
            by_cases u20_3 : x2 = (3 : Int32)
            · have hf := (if_pos u20_3).symm.trans hf
              refine lv_tableIn (off := 77) (tgt := 97) hx hb dX12_farm_20 t20l t20h (by rw [u20_3]; rfl) (by decide) ?_
              refine lv_aload_n hx hb dX12_farm_97 rfl (lv_at hl 0 rfl) ?_
              refine bk_get (wf := mw) (q0 := 0) (ci := 11) (k := 8) (v := .ref (g.2.2 8)) C hP wl_X12 rfl rfl (by decide) wa_162 rfl rfl dX12_farm_98 ?_
              refine lv_iload_n hx hb dX12_farm_101 rfl (lv_at hl 1 rfl) ?_
              obtain ⟨g7, hf⟩ := gd_s hf
              refine bk_iald (wf := mw) (q0 := 8) (n := 18) (j := x1.toNatClampNeg) C hP rfl g7 rfl dX12_farm_102 ?_
              cases hf
              exact bk_iret C hP hD hS rfl dX12_farm_103
            · have hf := (if_neg u20_3).symm.trans hf
              by_cases u20_4 : x2 = (4 : Int32)
              · have hf := (if_pos u20_4).symm.trans hf
                refine lv_tableIn (off := 84) (tgt := 104) hx hb dX12_farm_20 t20l t20h (by rw [u20_4]; rfl) (by decide) ?_
                refine lv_aload_n hx hb dX12_farm_104 rfl (lv_at hl 0 rfl) ?_
                refine bk_get (wf := mw) (q0 := 0) (ci := 11) (k := 23) (v := .ref (g.2.2 13)) C hP wl_X12 rfl rfl (by decide) wa_168 rfl rfl dX12_farm_105 ?_
                refine lv_iload_n hx hb dX12_farm_108 rfl (lv_at hl 1 rfl) ?_
                obtain ⟨g8, hf⟩ := gd_s hf
                refine bk_iald (wf := mw) (q0 := 13) (n := 9) (j := x1.toNatClampNeg) C hP rfl g8 rfl dX12_farm_109 ?_
                cases hf
                exact bk_iret C hP hD hS rfl dX12_farm_110
              · have hf := (if_neg u20_4).symm.trans hf
                by_cases u20_5 : x2 = (5 : Int32)
                · have hf := (if_pos u20_5).symm.trans hf
                  refine lv_tableIn (off := 91) (tgt := 111) hx hb dX12_farm_20 t20l t20h (by rw [u20_5]; rfl) (by decide) ?_
                  refine lv_aload_n hx hb dX12_farm_111 rfl (lv_at hl 0 rfl) ?_
                  refine bk_get (wf := mw) (q0 := 0) (ci := 11) (k := 24) (v := .ref (g.2.2 14)) C hP wl_X12 rfl rfl (by decide) wa_169 rfl rfl dX12_farm_112 ?_
                  refine lv_iload_n hx hb dX12_farm_115 rfl (lv_at hl 1 rfl) ?_
                  obtain ⟨g9, hf⟩ := gd_s hf
                  refine bk_iald (wf := mw) (q0 := 14) (n := 9) (j := x1.toNatClampNeg) C hP rfl g9 rfl dX12_farm_116 ?_
                  cases hf
                  exact bk_iret C hP hD hS rfl dX12_farm_117
                · have hf := (if_neg u20_5).symm.trans hf
                  by_cases u20_6 : x2 = (6 : Int32)
                  · have hf := (if_pos u20_6).symm.trans hf
                    refine lv_tableIn (off := 98) (tgt := 118) hx hb dX12_farm_20 t20l t20h (by rw [u20_6]; rfl) (by decide) ?_
                    refine lv_aload_n hx hb dX12_farm_118 rfl (lv_at hl 0 rfl) ?_
                    refine bk_get (wf := mw) (q0 := 0) (ci := 11) (k := 25) (v := .ref (g.2.2 15)) C hP wl_X12 rfl rfl (by decide) wa_170 rfl rfl dX12_farm_119 ?_
                    refine lv_iload_n hx hb dX12_farm_122 rfl (lv_at hl 1 rfl) ?_
                    obtain ⟨g10, hf⟩ := gd_s hf
                    refine bk_iald (wf := mw) (q0 := 15) (n := 9) (j := x1.toNatClampNeg) C hP rfl g10 rfl dX12_farm_123 ?_
                    cases hf
                    exact bk_iret C hP hD hS rfl dX12_farm_124
                  · have hf := (if_neg u20_6).symm.trans hf
                    by_cases u20_7 : x2 = (7 : Int32)
                    · have hf := (if_pos u20_7).symm.trans hf
                      refine lv_tableIn (off := 105) (tgt := 125) hx hb dX12_farm_20 t20l t20h (by rw [u20_7]; rfl) (by decide) ?_
                      refine lv_aload_n hx hb dX12_farm_125 rfl (lv_at hl 0 rfl) ?_
                      refine bk_get (wf := mw) (q0 := 0) (ci := 11) (k := 29) (v := .int ((q2.2) 0 29)) C hP wl_X12 rfl rfl (by decide) wa_614 rfl rfl dX12_farm_126 ?_
                      refine lv_iload_n hx hb dX12_farm_129 rfl (lv_at hl 1 rfl) ?_
                      refine lv_ishr hx hb dX12_farm_130 ?_
                      refine lv_iconst (v := (1 : Int32)) hx hb dX12_farm_131 (by decide) ?_
                      refine lv_iand hx hb dX12_farm_132 ?_
                      cases hf
                      exact bk_iret C hP hD hS rfl dX12_farm_133
                    · have hf := (if_neg u20_7).symm.trans hf
                      by_cases u20_8 : x2 = (8 : Int32)
                      · have hf := (if_pos u20_8).symm.trans hf
                        refine lv_tableIn (off := 114) (tgt := 134) hx hb dX12_farm_20 t20l t20h (by rw [u20_8]; rfl) (by decide) ?_
                        refine lv_aload_n hx hb dX12_farm_134 rfl (lv_at hl 0 rfl) ?_
                        refine bk_get (wf := mw) (q0 := 0) (ci := 11) (k := 4) (v := .ref (g.2.2 4)) C hP wl_X12 rfl rfl (by decide) wa_158 rfl rfl dX12_farm_135 ?_
                        refine lv_iload_n hx hb dX12_farm_138 rfl (lv_at hl 1 rfl) ?_
                        obtain ⟨g11, hf⟩ := gd_s hf
                        refine bk_iald (wf := mw) (q0 := 4) (n := 18) (j := x1.toNatClampNeg) C hP rfl g11 rfl dX12_farm_139 ?_
                        cases hf
                        exact bk_iret C hP hD hS rfl dX12_farm_140
                      · have hf := (if_neg u20_8).symm.trans hf
                        by_cases u20_9 : x2 = (9 : Int32)
                        · have hf := (if_pos u20_9).symm.trans hf
                          refine lv_tableIn (off := 121) (tgt := 141) hx hb dX12_farm_20 t20l t20h (by rw [u20_9]; rfl) (by decide) ?_
                          refine lv_aload_n hx hb dX12_farm_141 rfl (lv_at hl 0 rfl) ?_
                          refine lv_iload_n hx hb dX12_farm_142 rfl (lv_at hl 1 rfl) ?_
                          obtain ⟨q12, hq12, hf⟩ := bi_s hf
                          refine bk_VI (wf := mw) (q0 := 0) (ci := 11) (rest := []) [.int x1] C hP hD hS hl.1 (c_X12_seesOf hXo hq12) (cwA_V 1 hts wa_734 wa_731 wa_732 wa_733 wa_5 rfl rfl nd_X12_seesOf ⟨Nat.le_of_ble_eq_true rfl, Nat.le_of_ble_eq_true rfl⟩) rfl rfl rfl rfl (Nat.le_of_ble_eq_true rfl) dX12_farm_143 ⟨Nat.le_of_ble_eq_true rfl, Nat.le_of_ble_eq_true rfl⟩ (fun H locs hP hD hS => ?_)
                          cases hf
                          exact bk_iret C hP hD hS rfl dX12_farm_146
                        · have hf := (if_neg u20_9).symm.trans hf
                          cases hf
  · have hf := (if_pos t10).symm.trans hf
    refine lv_aload_n hx hb dX12_farm_13 rfl (lv_at hl 0 rfl) ?_
    refine lv_iconst (v := (1 : Int32)) hx hb dX12_farm_14 (by decide) ?_
    obtain ⟨q13, hq13, hf⟩ := bi_s hf
    refine bk_VI (wf := mw) (q0 := 0) (ci := 11) (rest := []) [.int (1 : Int32)] C hP hD hS hl.1 (c_X12_fail hXo hq13) (cwA_V 1 hts wa_512 wa_509 wa_510 wa_511 wa_5 rfl rfl nd_X12_fail ⟨Nat.le_of_ble_eq_true rfl, Nat.le_of_ble_eq_true rfl⟩) rfl rfl rfl rfl (Nat.le_of_ble_eq_true rfl) dX12_farm_15 ⟨Nat.le_of_ble_eq_true rfl, Nat.le_of_ble_eq_true rfl⟩ (fun H locs hP hD hS => ?_)
    cases hf
    exact bk_iret C hP hD hS rfl dX12_farm_18
theorem c_X12_farm {N : Nat} {x1 : Int32} {x2 : Int32} {σ : Sg} {z : Int32 × Sg} (hX : xOK g X) (hf : f_X12_farm N x1 x2 σ = some z) : MetI l yX12_farm (Cond.code yX12_farm cX12_farm 3 (some .int) :: wsA) rm_X12_farm mw g X [.ref (g.2.2 0), .int x1, .int x2] σ z.1 z.2 :=
  MetI_of hX (by decide) (Nat.le_of_ble_eq_true rfl) (fun p e s m args below meth c A C => b_X12_farm C hf)
-- X12_refuse: refuse(I)I
abbrev rm_X12_refuse : Room := { frames := 0, cells := 0, slots := 0, locals := 0 }
theorem nd_X12_refuse : yX12_refuse.cls ≠ "java/lang/invoke/MethodHandle" ∧ yX12_refuse.cls ≠ "java/lang/invoke/VarHandle" ∧ (parseMethodDescriptor yX12_refuse.desc).map (fun d => d.parameters.length) = some 1 := by decide +kernel
def f_X12_refuse (N : Nat) (x1 : Int32) (σ : Sg) : Option (Int32 × Sg) :=
if (x1 < 0 ∨ 3 ≤ x1.toNatClampNeg) then none else
if (x1 < 0 ∨ 3 ≤ x1.toNatClampNeg) then none else
bd (wr σ 11 (x1.toNatClampNeg) ((σ 11 x1.toNatClampNeg) + (1 : Int32))) fun σ3 =>
some ((-1 : Int32), σ3)
set_option maxHeartbeats 4000000 in
set_option maxRecDepth 100000 in
theorem b_X12_refuse {N : Nat} {x1 : Int32} {σ : Sg} {z : Int32 × Sg} (C : Cx p s m args meth c cX12_refuse 2 (some .int) RX12 g A X) (hf : f_X12_refuse N x1 σ = some z) : Bk mw p l e rm_X12_refuse s m args below meth c 2 g A (MQ below (qI mw g A z.1 z.2) args s 0 0 A) 0 0 0 [(0, .ref (g.2.2 0)), (1, .int x1)] [] σ := by
  obtain ⟨hx, hb, hr, hml, hown, hts, hK, hlocks, hXX, hA, hXo⟩ := id C
  intro H locs ls hP hD hS hl
  unfold f_X12_refuse at hf
  refine lv_aload_n hx hb dX12_refuse_0 rfl (lv_at hl 0 rfl) ?_
  refine bk_get (wf := mw) (q0 := 0) (ci := 11) (k := 11) (v := .ref (g.2.2 11)) C hP wl_X12 rfl rfl (by decide) wa_165 rfl rfl dX12_refuse_1 ?_
  refine lv_iload_n hx hb dX12_refuse_4 rfl (lv_at hl 1 rfl) ?_
  refine lv_dup2_11 hx hb dX12_refuse_5 rfl rfl ?_
  obtain ⟨g1, hf⟩ := gd_s hf
  refine bk_iald (wf := mw) (q0 := 11) (n := 3) (j := x1.toNatClampNeg) C hP rfl g1 rfl dX12_refuse_6 ?_
  refine lv_iconst (v := (1 : Int32)) hx hb dX12_refuse_7 (by decide) ?_
  refine lv_iadd hx hb dX12_refuse_8 ?_
  obtain ⟨g2, hf⟩ := gd_s hf
  obtain ⟨σ3, eσ3, hf⟩ := bd_s hf
  refine bk_iast (wf := mw) (σ1 := σ3) (q0 := 11) (n := 3) (j := x1.toNatClampNeg) C hP hD hS rfl g2 rfl (by rw [eσ3]; exact mw_a11 g _ _ _) dX12_refuse_9 (fun H locs hP hD hS => ?_)
  refine lv_iconst (v := (-1 : Int32)) hx hb dX12_refuse_10 (by decide) ?_
  cases hf
  exact bk_iret C hP hD hS rfl dX12_refuse_11
theorem c_X12_refuse {N : Nat} {x1 : Int32} {σ : Sg} {z : Int32 × Sg} (hX : xOK g X) (hf : f_X12_refuse N x1 σ = some z) : MetI l yX12_refuse (Cond.code yX12_refuse cX12_refuse 2 (some .int) :: wsA) rm_X12_refuse mw g X [.ref (g.2.2 0), .int x1] σ z.1 z.2 :=
  MetI_of hX (by decide) (Nat.le_of_ble_eq_true rfl) (fun p e s m args below meth c A C => b_X12_refuse C hf)
-- X12_refused: refused()Z
abbrev rm_X12_refused : Room := { frames := 0, cells := 0, slots := 0, locals := 0 }
theorem nd_X12_refused : yX12_refused.cls ≠ "java/lang/invoke/MethodHandle" ∧ yX12_refused.cls ≠ "java/lang/invoke/VarHandle" ∧ (parseMethodDescriptor yX12_refused.desc).map (fun d => d.parameters.length) = some 0 := by decide +kernel
def f_X12_refused (N : Nat) (σ : Sg) : Option (Int32 × Sg) :=
bd (wr σ 11 1 ((σ 11 1) + (1 : Int32))) fun σ1 =>
some ((0 : Int32), σ1)
set_option maxHeartbeats 4000000 in
set_option maxRecDepth 100000 in
theorem b_X12_refused {N : Nat} {σ : Sg} {z : Int32 × Sg} (C : Cx p s m args meth c cX12_refused 1 (some .boolean) RX12 g A X) (hf : f_X12_refused N σ = some z) : Bk mw p l e rm_X12_refused s m args below meth c 1 g A (MQ below (qI mw g A z.1 z.2) args s 0 0 A) 0 0 0 [(0, .ref (g.2.2 0))] [] σ := by
  obtain ⟨hx, hb, hr, hml, hown, hts, hK, hlocks, hXX, hA, hXo⟩ := id C
  intro H locs ls hP hD hS hl
  unfold f_X12_refused at hf
  refine lv_aload_n hx hb dX12_refused_0 rfl (lv_at hl 0 rfl) ?_
  refine bk_get (wf := mw) (q0 := 0) (ci := 11) (k := 11) (v := .ref (g.2.2 11)) C hP wl_X12 rfl rfl (by decide) wa_165 rfl rfl dX12_refused_1 ?_
  refine lv_iconst (v := (1 : Int32)) hx hb dX12_refused_4 (by decide) ?_
  refine lv_dup2_11 hx hb dX12_refused_5 rfl rfl ?_
  refine bk_iald (wf := mw) (q0 := 11) (n := 3) (j := 1) C hP rfl (vin_l (by decide) (by decide)) (by decide) dX12_refused_6 ?_
  refine lv_iconst (v := (1 : Int32)) hx hb dX12_refused_7 (by decide) ?_
  refine lv_iadd hx hb dX12_refused_8 ?_
  obtain ⟨σ1, eσ1, hf⟩ := bd_s hf
  refine bk_iast (wf := mw) (σ1 := σ1) (q0 := 11) (n := 3) (j := 1) C hP hD hS rfl (vin_l (by decide) (by decide)) (by decide) (by rw [eσ1]; exact mw_a11 g _ _ _) dX12_refused_9 (fun H locs hP hD hS => ?_)
  refine lv_iconst (v := (0 : Int32)) hx hb dX12_refused_10 (by decide) ?_
  cases hf
  exact bk_zret C hP hD hS (by decide) rfl dX12_refused_11
theorem c_X12_refused {N : Nat} {σ : Sg} {z : Int32 × Sg} (hX : xOK g X) (hf : f_X12_refused N σ = some z) : MetI l yX12_refused (Cond.code yX12_refused cX12_refused 1 (some .boolean) :: wsA) rm_X12_refused mw g X [.ref (g.2.2 0)] σ z.1 z.2 :=
  MetI_of hX (by decide) (Nat.le_of_ble_eq_true rfl) (fun p e s m args below meth c A C => b_X12_refused C hf)
-- X12_pack_17: pack([II)V
abbrev rm_X12_pack_17 : Room := { frames := 0, cells := 0, slots := 0, locals := 0 }
theorem nd_X12_pack : yX12_pack.cls ≠ "java/lang/invoke/MethodHandle" ∧ yX12_pack.cls ≠ "java/lang/invoke/VarHandle" ∧ (parseMethodDescriptor yX12_pack.desc).map (fun d => d.parameters.length) = some 2 := by decide +kernel
def s_X12_pack_17_h18 (N : Nat) (x2 : Int32) (x3 : Int32) (σ : Sg) : Option (Nat × Int32 × Sg) :=
if (9 : Int32) ≤ x3 then (some (1, 0, σ))
else (if (x3 < 0 ∨ 9 ≤ x3.toNatClampNeg) then none else
if (((x2 + (2 : Int32)) + x3) < 0 ∨ 1520 ≤ ((x2 + (2 : Int32)) + x3).toNatClampNeg) then none else
bd (wr σ 17 (((x2 + (2 : Int32)) + x3).toNatClampNeg) (σ 13 x3.toNatClampNeg)) fun σ3 =>
if (x3 < 0 ∨ 9 ≤ x3.toNatClampNeg) then none else
if ((((x2 + (2 : Int32)) + (9 : Int32)) + x3) < 0 ∨ 1520 ≤ (((x2 + (2 : Int32)) + (9 : Int32)) + x3).toNatClampNeg) then none else
bd (wr σ3 17 ((((x2 + (2 : Int32)) + (9 : Int32)) + x3).toNatClampNeg) (σ3 14 x3.toNatClampNeg)) fun σ6 =>
if (x3 < 0 ∨ 9 ≤ x3.toNatClampNeg) then none else
if ((((x2 + (2 : Int32)) + (18 : Int32)) + x3) < 0 ∨ 1520 ≤ (((x2 + (2 : Int32)) + (18 : Int32)) + x3).toNatClampNeg) then none else
bd (wr σ6 17 ((((x2 + (2 : Int32)) + (18 : Int32)) + x3).toNatClampNeg) (σ6 15 x3.toNatClampNeg)) fun σ9 =>
if (x3 < 0 ∨ 9 ≤ x3.toNatClampNeg) then none else
if ((((x2 + (2 : Int32)) + (27 : Int32)) + x3) < 0 ∨ 1520 ≤ (((x2 + (2 : Int32)) + (27 : Int32)) + x3).toNatClampNeg) then none else
bd (wr σ9 17 ((((x2 + (2 : Int32)) + (27 : Int32)) + x3).toNatClampNeg) (σ9 16 x3.toNatClampNeg)) fun σ12 =>
bd (x3 + (1 : Int32)) fun v13 =>
some (0, v13, σ12))
set_option maxHeartbeats 4000000 in
set_option maxRecDepth 100000 in
theorem e_X12_pack_17_h18 {N : Nat} {x2 : Int32} {x3 : Int32} {σ : Sg} {z : Nat × Int32 × Sg} (C : Cx p s m args meth c cX12_pack 4 none RX12 g A X) (hf : s_X12_pack_17_h18 N x2 x3 σ = some z) (k0 : z.1 = 0 → Bk mw p l e rm_X12_pack_17 s m args below meth c 4 g A Q 0 0 18 [(0, .ref (g.2.2 0)), (1, .ref (g.2.2 17)), (2, .int x2), (3, .int z.2.1)] [] z.2.2) (k : ¬ z.1 = 0 → Bk mw p l e rm_X12_pack_17 s m args below meth c 4 g A Q 0 0 91 [] [] z.2.2) : Bk mw p l e rm_X12_pack_17 s m args below meth c 4 g A Q 0 0 18 [(0, .ref (g.2.2 0)), (1, .ref (g.2.2 17)), (2, .int x2), (3, .int x3)] [] σ := by
  obtain ⟨hx, hb, hr, hml, hown, hts, hK, hlocks, hXX, hA, hXo⟩ := id C
  intro H locs ls hP hD hS hl
  unfold s_X12_pack_17_h18 at hf
  refine lv_iload_n hx hb dX12_pack_18 rfl (lv_at hl 3 rfl) ?_
  refine lv_bipush (v := (9 : Int32)) hx hb dX12_pack_19 (by decide) ?_
  refine lv_icmp_ge (tgt := 91) hx hb dX12_pack_21 (by decide) (fun t21 => ?_) (fun t21 => ?_)
  · have hf := (if_pos t21).symm.trans hf
    cases hf
    exact (k (show ¬ (1 : Nat) = 0 by decide)) H locs ls hP hD hS (lv_sub hl [] rfl)
  · have hf := (if_neg t21).symm.trans hf
    refine lv_aload_n hx hb dX12_pack_24 rfl (lv_at hl 1 rfl) ?_
    refine lv_iload_n hx hb dX12_pack_25 rfl (lv_at hl 2 rfl) ?_
    refine lv_iconst (v := (2 : Int32)) hx hb dX12_pack_26 (by decide) ?_
    refine lv_iadd hx hb dX12_pack_27 ?_
    refine lv_iload_n hx hb dX12_pack_28 rfl (lv_at hl 3 rfl) ?_
    refine lv_iadd hx hb dX12_pack_29 ?_
    refine lv_aload_n hx hb dX12_pack_30 rfl (lv_at hl 0 rfl) ?_
    refine bk_get (wf := mw) (q0 := 0) (ci := 11) (k := 23) (v := .ref (g.2.2 13)) C hP wl_X12 rfl rfl (by decide) wa_168 rfl rfl dX12_pack_31 ?_
    refine lv_iload_n hx hb dX12_pack_34 rfl (lv_at hl 3 rfl) ?_
    obtain ⟨g1, hf⟩ := gd_s hf
    refine bk_iald (wf := mw) (q0 := 13) (n := 9) (j := x3.toNatClampNeg) C hP rfl g1 rfl dX12_pack_35 ?_
    obtain ⟨g2, hf⟩ := gd_s hf
    obtain ⟨σ3, eσ3, hf⟩ := bd_s hf
    refine bk_iast (wf := mw) (σ1 := σ3) (q0 := 17) (n := 1520) (j := ((x2 + (2 : Int32)) + x3).toNatClampNeg) C hP hD hS rfl g2 rfl (by rw [eσ3]; exact mw_a17 g _ _ _) dX12_pack_36 (fun H locs hP hD hS => ?_)
    refine lv_aload_n hx hb dX12_pack_37 rfl (lv_at hl 1 rfl) ?_
    refine lv_iload_n hx hb dX12_pack_38 rfl (lv_at hl 2 rfl) ?_
    refine lv_iconst (v := (2 : Int32)) hx hb dX12_pack_39 (by decide) ?_
    refine lv_iadd hx hb dX12_pack_40 ?_
    refine lv_bipush (v := (9 : Int32)) hx hb dX12_pack_41 (by decide) ?_
    refine lv_iadd hx hb dX12_pack_43 ?_
    refine lv_iload_n hx hb dX12_pack_44 rfl (lv_at hl 3 rfl) ?_
    refine lv_iadd hx hb dX12_pack_45 ?_
    refine lv_aload_n hx hb dX12_pack_46 rfl (lv_at hl 0 rfl) ?_
    refine bk_get (wf := mw) (q0 := 0) (ci := 11) (k := 24) (v := .ref (g.2.2 14)) C hP wl_X12 rfl rfl (by decide) wa_169 rfl rfl dX12_pack_47 ?_
    refine lv_iload_n hx hb dX12_pack_50 rfl (lv_at hl 3 rfl) ?_
    obtain ⟨g4, hf⟩ := gd_s hf
    refine bk_iald (wf := mw) (q0 := 14) (n := 9) (j := x3.toNatClampNeg) C hP rfl g4 rfl dX12_pack_51 ?_
    obtain ⟨g5, hf⟩ := gd_s hf
    obtain ⟨σ6, eσ6, hf⟩ := bd_s hf
    refine bk_iast (wf := mw) (σ1 := σ6) (q0 := 17) (n := 1520) (j := (((x2 + (2 : Int32)) + (9 : Int32)) + x3).toNatClampNeg) C hP hD hS rfl g5 rfl (by rw [eσ6]; exact mw_a17 g _ _ _) dX12_pack_52 (fun H locs hP hD hS => ?_)
    refine lv_aload_n hx hb dX12_pack_53 rfl (lv_at hl 1 rfl) ?_
    refine lv_iload_n hx hb dX12_pack_54 rfl (lv_at hl 2 rfl) ?_
    refine lv_iconst (v := (2 : Int32)) hx hb dX12_pack_55 (by decide) ?_
    refine lv_iadd hx hb dX12_pack_56 ?_
    refine lv_bipush (v := (18 : Int32)) hx hb dX12_pack_57 (by decide) ?_
    refine lv_iadd hx hb dX12_pack_59 ?_
    refine lv_iload_n hx hb dX12_pack_60 rfl (lv_at hl 3 rfl) ?_
    refine lv_iadd hx hb dX12_pack_61 ?_
    refine lv_aload_n hx hb dX12_pack_62 rfl (lv_at hl 0 rfl) ?_
    refine bk_get (wf := mw) (q0 := 0) (ci := 11) (k := 25) (v := .ref (g.2.2 15)) C hP wl_X12 rfl rfl (by decide) wa_170 rfl rfl dX12_pack_63 ?_
    refine lv_iload_n hx hb dX12_pack_66 rfl (lv_at hl 3 rfl) ?_
    obtain ⟨g7, hf⟩ := gd_s hf
    refine bk_iald (wf := mw) (q0 := 15) (n := 9) (j := x3.toNatClampNeg) C hP rfl g7 rfl dX12_pack_67 ?_
    obtain ⟨g8, hf⟩ := gd_s hf
    obtain ⟨σ9, eσ9, hf⟩ := bd_s hf
    refine bk_iast (wf := mw) (σ1 := σ9) (q0 := 17) (n := 1520) (j := (((x2 + (2 : Int32)) + (18 : Int32)) + x3).toNatClampNeg) C hP hD hS rfl g8 rfl (by rw [eσ9]; exact mw_a17 g _ _ _) dX12_pack_68 (fun H locs hP hD hS => ?_)
    refine lv_aload_n hx hb dX12_pack_69 rfl (lv_at hl 1 rfl) ?_
    refine lv_iload_n hx hb dX12_pack_70 rfl (lv_at hl 2 rfl) ?_
    refine lv_iconst (v := (2 : Int32)) hx hb dX12_pack_71 (by decide) ?_
    refine lv_iadd hx hb dX12_pack_72 ?_
    refine lv_bipush (v := (27 : Int32)) hx hb dX12_pack_73 (by decide) ?_
    refine lv_iadd hx hb dX12_pack_75 ?_
    refine lv_iload_n hx hb dX12_pack_76 rfl (lv_at hl 3 rfl) ?_
    refine lv_iadd hx hb dX12_pack_77 ?_
    refine lv_aload_n hx hb dX12_pack_78 rfl (lv_at hl 0 rfl) ?_
    refine bk_get (wf := mw) (q0 := 0) (ci := 11) (k := 26) (v := .ref (g.2.2 16)) C hP wl_X12 rfl rfl (by decide) wa_171 rfl rfl dX12_pack_79 ?_
    refine lv_iload_n hx hb dX12_pack_82 rfl (lv_at hl 3 rfl) ?_
    obtain ⟨g10, hf⟩ := gd_s hf
    refine bk_iald (wf := mw) (q0 := 16) (n := 9) (j := x3.toNatClampNeg) C hP rfl g10 rfl dX12_pack_83 ?_
    obtain ⟨g11, hf⟩ := gd_s hf
    obtain ⟨σ12, eσ12, hf⟩ := bd_s hf
    refine bk_iast (wf := mw) (σ1 := σ12) (q0 := 17) (n := 1520) (j := (((x2 + (2 : Int32)) + (27 : Int32)) + x3).toNatClampNeg) C hP hD hS rfl g11 rfl (by rw [eσ12]; exact mw_a17 g _ _ _) dX12_pack_84 (fun H locs hP hD hS => ?_)
    obtain ⟨v13, ev13, hf⟩ := bd_s hf
    refine lv_iinc (v := v13) (lv' := [(3, .int v13), (0, .ref (g.2.2 0)), (1, .ref (g.2.2 17)), (2, .int x2)]) hx hb dX12_pack_85 hl (k := 3) rfl (by rw [ev13]; rfl) (by decide) rfl (fun ls hl => ?_)
    refine lv_goto (tgt := 18) hx hb dX12_pack_88 (by decide) ?_
    cases hf
    exact k0 rfl H locs ls hP hD hS (lv_sub hl [1, 2, 3, 0] rfl)
theorem lp_X12_pack_17_h18 {N : Nat} {n : Nat} {x2 : Int32} {x3 : Int32} {σ : Sg} {z : Nat × Int32 × Sg} (C : Cx p s m args meth c cX12_pack 4 none RX12 g A X) (hz : it (fun q => s_X12_pack_17_h18 N x2 q.1 q.2) n (x3, σ) = some z) (k : Bk mw p l e rm_X12_pack_17 s m args below meth c 4 g A Q 0 0 91 [] [] z.2.2) : Bk mw p l e rm_X12_pack_17 s m args below meth c 4 g A Q 0 0 18 [(0, .ref (g.2.2 0)), (1, .ref (g.2.2 17)), (2, .int x2), (3, .int x3)] [] σ :=
  it_W (S := Int32 × Sg) (fun q => Bk mw p l e rm_X12_pack_17 s m args below meth c 4 g A Q 0 0 18 [(0, .ref (g.2.2 0)), (1, .ref (g.2.2 17)), (2, .int x2), (3, .int q.1)] [] q.2) (fun z => Bk mw p l e rm_X12_pack_17 s m args below meth c 4 g A Q 0 0 91 [] [] z.2.2) (fun q z hq k0 k => e_X12_pack_17_h18 C hq k0 k) n (x3, σ) z hz k
def f_X12_pack_17 (N : Nat) (x2 : Int32) (σ : Sg) : Option (Sg) :=
if (x2 < 0 ∨ 1520 ≤ x2.toNatClampNeg) then none else
bd (wr σ 17 (x2.toNatClampNeg) (σ 0 28)) fun σ15 =>
if ((x2 + (1 : Int32)) < 0 ∨ 1520 ≤ (x2 + (1 : Int32)).toNatClampNeg) then none else
bd (wr σ15 17 ((x2 + (1 : Int32)).toNatClampNeg) (σ15 0 29)) fun σ17 =>
(it (fun q => s_X12_pack_17_h18 N x2 q.1 q.2) N ((0 : Int32), σ17)).bind fun z18 =>
some (z18.2.2)
set_option maxHeartbeats 4000000 in
set_option maxRecDepth 100000 in
theorem b_X12_pack_17 {N : Nat} {x2 : Int32} {σ : Sg} {z : Sg} (C : Cx p s m args meth c cX12_pack 4 none RX12 g A X) (hf : f_X12_pack_17 N x2 σ = some z) : Bk mw p l e rm_X12_pack_17 s m args below meth c 4 g A (MQ below (qV mw g A z) args s 0 0 A) 0 0 0 [(0, .ref (g.2.2 0)), (1, .ref (g.2.2 17)), (2, .int x2)] [] σ := by
  obtain ⟨hx, hb, hr, hml, hown, hts, hK, hlocks, hXX, hA, hXo⟩ := id C
  intro H locs ls hP hD hS hl
  unfold f_X12_pack_17 at hf
  refine lv_aload_n hx hb dX12_pack_0 rfl (lv_at hl 1 rfl) ?_
  refine lv_iload_n hx hb dX12_pack_1 rfl (lv_at hl 2 rfl) ?_
  refine lv_aload_n hx hb dX12_pack_2 rfl (lv_at hl 0 rfl) ?_
  refine bk_get (wf := mw) (q0 := 0) (ci := 11) (k := 28) (v := .int (σ 0 28)) C hP wl_X12 rfl rfl (by decide) wa_613 rfl rfl dX12_pack_3 ?_
  obtain ⟨g14, hf⟩ := gd_s hf
  obtain ⟨σ15, eσ15, hf⟩ := bd_s hf
  refine bk_iast (wf := mw) (σ1 := σ15) (q0 := 17) (n := 1520) (j := x2.toNatClampNeg) C hP hD hS rfl g14 rfl (by rw [eσ15]; exact mw_a17 g _ _ _) dX12_pack_6 (fun H locs hP hD hS => ?_)
  refine lv_aload_n hx hb dX12_pack_7 rfl (lv_at hl 1 rfl) ?_
  refine lv_iload_n hx hb dX12_pack_8 rfl (lv_at hl 2 rfl) ?_
  refine lv_iconst (v := (1 : Int32)) hx hb dX12_pack_9 (by decide) ?_
  refine lv_iadd hx hb dX12_pack_10 ?_
  refine lv_aload_n hx hb dX12_pack_11 rfl (lv_at hl 0 rfl) ?_
  refine bk_get (wf := mw) (q0 := 0) (ci := 11) (k := 29) (v := .int (σ15 0 29)) C hP wl_X12 rfl rfl (by decide) wa_614 rfl rfl dX12_pack_12 ?_
  obtain ⟨g16, hf⟩ := gd_s hf
  obtain ⟨σ17, eσ17, hf⟩ := bd_s hf
  refine bk_iast (wf := mw) (σ1 := σ17) (q0 := 17) (n := 1520) (j := (x2 + (1 : Int32)).toNatClampNeg) C hP hD hS rfl g16 rfl (by rw [eσ17]; exact mw_a17 g _ _ _) dX12_pack_15 (fun H locs hP hD hS => ?_)
  refine lv_iconst (v := (0 : Int32)) hx hb dX12_pack_16 (by decide) ?_
  refine lv_istore_n (lv' := [(3, .int (0 : Int32)), (0, .ref (g.2.2 0)), (1, .ref (g.2.2 17)), (2, .int x2)]) hx hb dX12_pack_17 rfl hl (by decide) rfl (fun ls hl => ?_)
  obtain ⟨z18, hz18, hf⟩ := bi_s hf
  refine lp_X12_pack_17_h18 C hz18 ?_ H locs ls hP hD hS (lv_sub hl [1, 2, 3, 0] rfl)
  intro H locs ls hP hD hS hl
  cases hf
  exact bk_vret C hP hD hS rfl dX12_pack_91
theorem c_X12_pack_17 {N : Nat} {x2 : Int32} {σ : Sg} {z : Sg} (hX : xOK g X) (hf : f_X12_pack_17 N x2 σ = some z) : MetV l yX12_pack (Cond.code yX12_pack cX12_pack 4 none :: wsA) rm_X12_pack_17 mw g X [.ref (g.2.2 0), .ref (g.2.2 17), .int x2] σ z :=
  MetV_of hX (by decide) (Nat.le_of_ble_eq_true rfl) (fun p e s m args below meth c A C => b_X12_pack_17 C hf)
-- X12_keep: keep()V
abbrev rm_X12_keep : Room := { frames := 1, cells := 0, slots := 0, locals := 23 }
theorem nd_X12_keep : yX12_keep.cls ≠ "java/lang/invoke/MethodHandle" ∧ yX12_keep.cls ≠ "java/lang/invoke/VarHandle" ∧ (parseMethodDescriptor yX12_keep.desc).map (fun d => d.parameters.length) = some 0 := by decide +kernel
def s_X12_keep_h12 (N : Nat) (x1 : Int32) (σ : Sg) : Option (Nat × Int32 × Sg) :=
if (1520 : Int32) ≤ x1 then (some (1, 0, σ))
else (if (x1 < 0 ∨ 1520 ≤ x1.toNatClampNeg) then none else
if ((x1 - (38 : Int32)) < 0 ∨ 1520 ≤ (x1 - (38 : Int32)).toNatClampNeg) then none else
bd (wr σ 17 ((x1 - (38 : Int32)).toNatClampNeg) (σ 17 x1.toNatClampNeg)) fun σ3 =>
bd (x1 + (1 : Int32)) fun v4 =>
some (0, v4, σ3))
set_option maxHeartbeats 4000000 in
set_option maxRecDepth 100000 in
theorem e_X12_keep_h12 {N : Nat} {x1 : Int32} {σ : Sg} {z : Nat × Int32 × Sg} (C : Cx p s m args meth c cX12_keep 2 none RX12 g A X) (hf : s_X12_keep_h12 N x1 σ = some z) (k0 : z.1 = 0 → Bk mw p l e rm_X12_keep s m args below meth c 2 g A Q 0 0 12 [(0, .ref (g.2.2 0)), (1, .int z.2.1)] [] z.2.2) (k : ¬ z.1 = 0 → Bk mw p l e rm_X12_keep s m args below meth c 2 g A Q 0 0 42 [(0, .ref (g.2.2 0))] [] z.2.2) : Bk mw p l e rm_X12_keep s m args below meth c 2 g A Q 0 0 12 [(0, .ref (g.2.2 0)), (1, .int x1)] [] σ := by
  obtain ⟨hx, hb, hr, hml, hown, hts, hK, hlocks, hXX, hA, hXo⟩ := id C
  intro H locs ls hP hD hS hl
  unfold s_X12_keep_h12 at hf
  refine lv_iload_n hx hb dX12_keep_12 rfl (lv_at hl 1 rfl) ?_
  refine lv_aload_n hx hb dX12_keep_13 rfl (lv_at hl 0 rfl) ?_
  refine bk_get (wf := mw) (q0 := 0) (ci := 11) (k := 27) (v := .ref (g.2.2 17)) C hP wl_X12 rfl rfl (by decide) wa_172 rfl rfl dX12_keep_14 ?_
  refine bk_alen (wf := mw) (q0 := 17) (t0 := 0) (v := (1520 : Int32)) C hP rfl rfl (show Int32.ofNat 1520 = (1520 : Int32) by decide) dX12_keep_17 ?_
  refine lv_icmp_ge (tgt := 42) hx hb dX12_keep_18 (by decide) (fun t18 => ?_) (fun t18 => ?_)
  · have hf := (if_pos t18).symm.trans hf
    cases hf
    exact (k (show ¬ (1 : Nat) = 0 by decide)) H locs ls hP hD hS (lv_sub hl [0] rfl)
  · have hf := (if_neg t18).symm.trans hf
    refine lv_aload_n hx hb dX12_keep_21 rfl (lv_at hl 0 rfl) ?_
    refine bk_get (wf := mw) (q0 := 0) (ci := 11) (k := 27) (v := .ref (g.2.2 17)) C hP wl_X12 rfl rfl (by decide) wa_172 rfl rfl dX12_keep_22 ?_
    refine lv_iload_n hx hb dX12_keep_25 rfl (lv_at hl 1 rfl) ?_
    refine lv_bipush (v := (38 : Int32)) hx hb dX12_keep_26 (by decide) ?_
    refine lv_isub hx hb dX12_keep_28 ?_
    refine lv_aload_n hx hb dX12_keep_29 rfl (lv_at hl 0 rfl) ?_
    refine bk_get (wf := mw) (q0 := 0) (ci := 11) (k := 27) (v := .ref (g.2.2 17)) C hP wl_X12 rfl rfl (by decide) wa_172 rfl rfl dX12_keep_30 ?_
    refine lv_iload_n hx hb dX12_keep_33 rfl (lv_at hl 1 rfl) ?_
    obtain ⟨g1, hf⟩ := gd_s hf
    refine bk_iald (wf := mw) (q0 := 17) (n := 1520) (j := x1.toNatClampNeg) C hP rfl g1 rfl dX12_keep_34 ?_
    obtain ⟨g2, hf⟩ := gd_s hf
    obtain ⟨σ3, eσ3, hf⟩ := bd_s hf
    refine bk_iast (wf := mw) (σ1 := σ3) (q0 := 17) (n := 1520) (j := (x1 - (38 : Int32)).toNatClampNeg) C hP hD hS rfl g2 rfl (by rw [eσ3]; exact mw_a17 g _ _ _) dX12_keep_35 (fun H locs hP hD hS => ?_)
    obtain ⟨v4, ev4, hf⟩ := bd_s hf
    refine lv_iinc (v := v4) (lv' := [(1, .int v4), (0, .ref (g.2.2 0))]) hx hb dX12_keep_36 hl (k := 1) rfl (by rw [ev4]; rfl) (by decide) rfl (fun ls hl => ?_)
    refine lv_goto (tgt := 12) hx hb dX12_keep_39 (by decide) ?_
    cases hf
    exact k0 rfl H locs ls hP hD hS (lv_sub hl [1, 0] rfl)
theorem lp_X12_keep_h12 {N : Nat} {n : Nat} {x1 : Int32} {σ : Sg} {z : Nat × Int32 × Sg} (C : Cx p s m args meth c cX12_keep 2 none RX12 g A X) (hz : it (fun q => s_X12_keep_h12 N q.1 q.2) n (x1, σ) = some z) (k : Bk mw p l e rm_X12_keep s m args below meth c 2 g A Q 0 0 42 [(0, .ref (g.2.2 0))] [] z.2.2) : Bk mw p l e rm_X12_keep s m args below meth c 2 g A Q 0 0 12 [(0, .ref (g.2.2 0)), (1, .int x1)] [] σ :=
  it_W (S := Int32 × Sg) (fun q => Bk mw p l e rm_X12_keep s m args below meth c 2 g A Q 0 0 12 [(0, .ref (g.2.2 0)), (1, .int q.1)] [] q.2) (fun z => Bk mw p l e rm_X12_keep s m args below meth c 2 g A Q 0 0 42 [(0, .ref (g.2.2 0))] [] z.2.2) (fun q z hq k0 k => e_X12_keep_h12 C hq k0 k) n (x1, σ) z hz k
def f_X12_keep_b52 (N : Nat) (σ : Sg) : Option (Sg) :=
(f_X12_pack_17 N ((38 : Int32) * (σ 0 30)) σ).bind fun q5 =>
bd (wr q5 0 30 ((q5 0 30) + (1 : Int32))) fun σ6 =>
some σ6
set_option maxHeartbeats 4000000 in
set_option maxRecDepth 100000 in
theorem b_X12_keep_b52 {N : Nat} {σ : Sg} {z : Sg} (C : Cx p s m args meth c cX12_keep 2 none RX12 g A X) (hf : f_X12_keep_b52 N σ = some z) : Bk mw p l e rm_X12_keep s m args below meth c 2 g A (MQ below (qV mw g A z) args s 0 0 A) 0 0 52 [(0, .ref (g.2.2 0))] [] σ := by
  obtain ⟨hx, hb, hr, hml, hown, hts, hK, hlocks, hXX, hA, hXo⟩ := id C
  intro H locs ls hP hD hS hl
  unfold f_X12_keep_b52 at hf
  refine lv_aload_n hx hb dX12_keep_52 rfl (lv_at hl 0 rfl) ?_
  refine lv_aload_n hx hb dX12_keep_53 rfl (lv_at hl 0 rfl) ?_
  refine bk_get (wf := mw) (q0 := 0) (ci := 11) (k := 27) (v := .ref (g.2.2 17)) C hP wl_X12 rfl rfl (by decide) wa_172 rfl rfl dX12_keep_54 ?_
  refine lv_bipush (v := (38 : Int32)) hx hb dX12_keep_57 (by decide) ?_
  refine lv_aload_n hx hb dX12_keep_59 rfl (lv_at hl 0 rfl) ?_
  refine bk_get (wf := mw) (q0 := 0) (ci := 11) (k := 30) (v := .int (σ 0 30)) C hP wl_X12 rfl rfl (by decide) wa_615 rfl rfl dX12_keep_60 ?_
  refine lv_imul hx hb dX12_keep_63 ?_
  obtain ⟨q5, hq5, hf⟩ := bi_s hf
  refine bk_VV (wf := mw) (q0 := 0) (ci := 11) (rest := []) [.ref (g.2.2 17), .int ((38 : Int32) * (σ 0 30))] C hP hD hS hl.1 (c_X12_pack_17 hXo hq5) (cwA_V 2 hts wa_895 wa_892 wa_893 wa_894 wa_5 rfl rfl nd_X12_pack ⟨Nat.le_of_ble_eq_true rfl, Nat.le_of_ble_eq_true rfl⟩) rfl rfl rfl rfl (Nat.le_of_ble_eq_true rfl) dX12_keep_64 ⟨Nat.le_of_ble_eq_true rfl, Nat.le_of_ble_eq_true rfl⟩ (fun H locs hP hD hS => ?_)
  refine lv_aload_n hx hb dX12_keep_67 rfl (lv_at hl 0 rfl) ?_
  refine lv_dup hx hb dX12_keep_68 rfl ?_
  refine bk_get (wf := mw) (q0 := 0) (ci := 11) (k := 30) (v := .int (q5 0 30)) C hP wl_X12 rfl rfl (by decide) wa_615 rfl rfl dX12_keep_69 ?_
  refine lv_iconst (v := (1 : Int32)) hx hb dX12_keep_72 (by decide) ?_
  refine lv_iadd hx hb dX12_keep_73 ?_
  obtain ⟨σ6, eσ6, hf⟩ := bd_s hf
  refine bk_put (wf := mw) (σ1 := σ6) (q0 := 0) (ci := 11) (k := 30) (v := .int ((q5 0 30) + (1 : Int32))) C hP hD hS wl_X12 tyX12_ok nmX12 rfl rfl (by decide) wa_615 rfl rfl rfl rfl rfl (Nat.le_of_ble_eq_true rfl) (by rw [eσ6]; exact mw_p0_30 g _ _) dX12_keep_74 (fun H locs hP hD hS => ?_)
  cases hf
  exact bk_vret C hP hD hS rfl dX12_keep_77
def f_X12_keep (N : Nat) (σ : Sg) : Option (Sg) :=
if (σ 0 30) = (40 : Int32) then ((it (fun q => s_X12_keep_h12 N q.1 q.2) N ((38 : Int32), σ)).bind fun z7 =>
bd (wr (z7.2.2) 0 30 (((z7.2.2) 0 30) - (1 : Int32))) fun σ8 =>
f_X12_keep_b52 N σ8)
else (f_X12_keep_b52 N σ)
set_option maxHeartbeats 4000000 in
set_option maxRecDepth 100000 in
theorem b_X12_keep {N : Nat} {σ : Sg} {z : Sg} (C : Cx p s m args meth c cX12_keep 2 none RX12 g A X) (hf : f_X12_keep N σ = some z) : Bk mw p l e rm_X12_keep s m args below meth c 2 g A (MQ below (qV mw g A z) args s 0 0 A) 0 0 0 [(0, .ref (g.2.2 0))] [] σ := by
  obtain ⟨hx, hb, hr, hml, hown, hts, hK, hlocks, hXX, hA, hXo⟩ := id C
  intro H locs ls hP hD hS hl
  unfold f_X12_keep at hf
  refine lv_aload_n hx hb dX12_keep_0 rfl (lv_at hl 0 rfl) ?_
  refine bk_get (wf := mw) (q0 := 0) (ci := 11) (k := 30) (v := .int (σ 0 30)) C hP wl_X12 rfl rfl (by decide) wa_615 rfl rfl dX12_keep_1 ?_
  refine lv_bipush (v := (40 : Int32)) hx hb dX12_keep_4 (by decide) ?_
  refine lv_icmp_ne (tgt := 52) hx hb dX12_keep_6 (by decide) (fun t6 => ?_) (fun t6 => ?_)
  · have hf := (if_neg t6).symm.trans hf
    exact b_X12_keep_b52 C hf H locs ls hP hD hS (lv_sub hl [0] rfl)
  · have hf := (if_pos t6).symm.trans hf
    refine lv_bipush (v := (38 : Int32)) hx hb dX12_keep_9 (by decide) ?_
    refine lv_istore_n (lv' := [(1, .int (38 : Int32)), (0, .ref (g.2.2 0))]) hx hb dX12_keep_11 rfl hl (by decide) rfl (fun ls hl => ?_)
    obtain ⟨z7, hz7, hf⟩ := bi_s hf
    refine lp_X12_keep_h12 C hz7 ?_ H locs ls hP hD hS (lv_sub hl [1, 0] rfl)
    intro H locs ls hP hD hS hl
    refine lv_aload_n hx hb dX12_keep_42 rfl (lv_at hl 0 rfl) ?_
    refine lv_dup hx hb dX12_keep_43 rfl ?_
    refine bk_get (wf := mw) (q0 := 0) (ci := 11) (k := 30) (v := .int ((z7.2.2) 0 30)) C hP wl_X12 rfl rfl (by decide) wa_615 rfl rfl dX12_keep_44 ?_
    refine lv_iconst (v := (1 : Int32)) hx hb dX12_keep_47 (by decide) ?_
    refine lv_isub hx hb dX12_keep_48 ?_
    obtain ⟨σ8, eσ8, hf⟩ := bd_s hf
    refine bk_put (wf := mw) (σ1 := σ8) (q0 := 0) (ci := 11) (k := 30) (v := .int (((z7.2.2) 0 30) - (1 : Int32))) C hP hD hS wl_X12 tyX12_ok nmX12 rfl rfl (by decide) wa_615 rfl rfl rfl rfl rfl (Nat.le_of_ble_eq_true rfl) (by rw [eσ8]; exact mw_p0_30 g _ _) dX12_keep_49 (fun H locs hP hD hS => ?_)
    exact b_X12_keep_b52 C hf H locs ls hP hD hS (lv_sub hl [0] rfl)
theorem c_X12_keep {N : Nat} {σ : Sg} {z : Sg} (hX : xOK g X) (hf : f_X12_keep N σ = some z) : MetV l yX12_keep (Cond.code yX12_keep cX12_keep 2 none :: wsA) rm_X12_keep mw g X [.ref (g.2.2 0)] σ z :=
  MetV_of hX (by decide) (Nat.le_of_ble_eq_true rfl) (fun p e s m args below meth c A C => b_X12_keep C hf)
-- X12_ticks: ticks(I)I
abbrev rm_X12_ticks : Room := { frames := 7, cells := 0, slots := 0, locals := 160 }
theorem nd_X12_ticks : yX12_ticks.cls ≠ "java/lang/invoke/MethodHandle" ∧ yX12_ticks.cls ≠ "java/lang/invoke/VarHandle" ∧ (parseMethodDescriptor yX12_ticks.desc).map (fun d => d.parameters.length) = some 1 := by decide +kernel
def f_X12_ticks_b29 (N : Nat) (σ : Sg) : Option (Int32 × Sg) :=
(f_X12_refuse N (1 : Int32) σ).bind fun q1 =>
some (q1.1, (q1.2))
set_option maxHeartbeats 4000000 in
set_option maxRecDepth 100000 in
theorem b_X12_ticks_b29 {N : Nat} {σ : Sg} {z : Int32 × Sg} (C : Cx p s m args meth c cX12_ticks 2 (some .int) RX12 g A X) (hf : f_X12_ticks_b29 N σ = some z) : Bk mw p l e rm_X12_ticks s m args below meth c 2 g A (MQ below (qI mw g A z.1 z.2) args s 0 0 A) 0 0 29 [(0, .ref (g.2.2 0))] [] σ := by
  obtain ⟨hx, hb, hr, hml, hown, hts, hK, hlocks, hXX, hA, hXo⟩ := id C
  intro H locs ls hP hD hS hl
  unfold f_X12_ticks_b29 at hf
  refine lv_aload_n hx hb dX12_ticks_29 rfl (lv_at hl 0 rfl) ?_
  refine lv_iconst (v := (1 : Int32)) hx hb dX12_ticks_30 (by decide) ?_
  obtain ⟨q1, hq1, hf⟩ := bi_s hf
  refine bk_VI (wf := mw) (q0 := 0) (ci := 11) (rest := []) [.int (1 : Int32)] C hP hD hS hl.1 (c_X12_refuse hXo hq1) (cwA_V 1 hts wa_887 wa_884 wa_885 wa_886 wa_5 rfl rfl nd_X12_refuse ⟨Nat.le_of_ble_eq_true rfl, Nat.le_of_ble_eq_true rfl⟩) rfl rfl rfl rfl (Nat.le_of_ble_eq_true rfl) dX12_ticks_31 ⟨Nat.le_of_ble_eq_true rfl, Nat.le_of_ble_eq_true rfl⟩ (fun H locs hP hD hS => ?_)
  cases hf
  exact bk_iret C hP hD hS rfl dX12_ticks_34
def f_X12_ticks (N : Nat) (x1 : Int32) (σ : Sg) : Option (Int32 × Sg) :=
bd (wr σ 0 2 (0 : Int32)) fun σ2 =>
(f_X12_isIn N (x1).toInt64 (1 : Int64) (20 : Int64) σ2).bind fun q3 =>
if q3.1 = 0 then (f_X12_ticks_b29 N (q3.2))
else (if (((q3.2) 0 28) + x1) ≤ (999 : Int32) then ((f_X12_keep N (q3.2)).bind fun q4 =>
(f_X12_goOn N x1 q4).bind fun q5 =>
some ((q5 0 28), q5))
else (f_X12_ticks_b29 N (q3.2)))
set_option maxHeartbeats 4000000 in
set_option maxRecDepth 100000 in
theorem b_X12_ticks {N : Nat} {x1 : Int32} {σ : Sg} {z : Int32 × Sg} (C : Cx p s m args meth c cX12_ticks 2 (some .int) RX12 g A X) (hf : f_X12_ticks N x1 σ = some z) : Bk mw p l e rm_X12_ticks s m args below meth c 2 g A (MQ below (qI mw g A z.1 z.2) args s 0 0 A) 0 0 0 [(0, .ref (g.2.2 0)), (1, .int x1)] [] σ := by
  obtain ⟨hx, hb, hr, hml, hown, hts, hK, hlocks, hXX, hA, hXo⟩ := id C
  intro H locs ls hP hD hS hl
  unfold f_X12_ticks at hf
  refine lv_aload_n hx hb dX12_ticks_0 rfl (lv_at hl 0 rfl) ?_
  refine lv_iconst (v := (0 : Int32)) hx hb dX12_ticks_1 (by decide) ?_
  obtain ⟨σ2, eσ2, hf⟩ := bd_s hf
  refine bk_put (wf := mw) (σ1 := σ2) (q0 := 0) (ci := 11) (k := 2) (v := .int (0 : Int32)) C hP hD hS wl_X12 tyX12_ok nmX12 rfl rfl (by decide) wa_205 rfl rfl rfl rfl rfl (Nat.le_of_ble_eq_true rfl) (by rw [eσ2]; exact mw_p0_2 g _ _) dX12_ticks_2 (fun H locs hP hD hS => ?_)
  refine lv_iload_n hx hb dX12_ticks_5 rfl (lv_at hl 1 rfl) ?_
  refine lv_i2l hx hb dX12_ticks_6 rfl ?_
  refine lv_lconst (v := (1 : Int64)) hx hb dX12_ticks_7 (by decide) ?_
  refine lv_ldc2 (v := (20 : Int64)) hx hb hown (hts _ wa_883) dX12_ticks_8 ?_
  obtain ⟨q3, hq3, hf⟩ := bi_s hf
  refine bk_SI (wf := mw) (rest := []) [.long (x1).toInt64, .long (1 : Int64), .long (20 : Int64)] C hP hD hS hl.1 (c_X12_isIn hXo hq3) (cwA_S 3 hts wa_803 wa_801 wa_802 wa_5 rfl rfl nd_X12_isIn ⟨Nat.le_of_ble_eq_true rfl, Nat.le_of_ble_eq_true rfl⟩) rfl rfl (Nat.le_of_ble_eq_true rfl) dX12_ticks_11 ⟨Nat.le_of_ble_eq_true rfl, Nat.le_of_ble_eq_true rfl⟩ (fun H locs hP hD hS => ?_)
  refine lv_if_eq (tgt := 29) hx hb dX12_ticks_14 (by decide) (fun t14 => ?_) (fun t14 => ?_)
  · have hf := (if_pos t14).symm.trans hf
    exact b_X12_ticks_b29 C hf H locs ls hP hD hS (lv_sub hl [0] rfl)
  · have hf := (if_neg t14).symm.trans hf
    refine lv_aload_n hx hb dX12_ticks_17 rfl (lv_at hl 0 rfl) ?_
    refine bk_get (wf := mw) (q0 := 0) (ci := 11) (k := 28) (v := .int ((q3.2) 0 28)) C hP wl_X12 rfl rfl (by decide) wa_613 rfl rfl dX12_ticks_18 ?_
    refine lv_iload_n hx hb dX12_ticks_21 rfl (lv_at hl 1 rfl) ?_
    refine lv_iadd hx hb dX12_ticks_22 ?_
    refine lv_sipush (v := (999 : Int32)) hx hb dX12_ticks_23 (by decide) ?_
    refine lv_icmp_le (tgt := 35) hx hb dX12_ticks_26 (by decide) (fun t26 => ?_) (fun t26 => ?_)
    · have hf := (if_pos t26).symm.trans hf
      refine lv_aload_n hx hb dX12_ticks_35 rfl (lv_at hl 0 rfl) ?_
      obtain ⟨q4, hq4, hf⟩ := bi_s hf
      refine bk_VV (wf := mw) (q0 := 0) (ci := 11) (rest := []) [] C hP hD hS hl.1 (c_X12_keep hXo hq4) (cwA_V 0 hts wa_891 wa_888 wa_889 wa_890 wa_5 rfl rfl nd_X12_keep ⟨Nat.le_of_ble_eq_true rfl, Nat.le_of_ble_eq_true rfl⟩) rfl rfl rfl rfl (Nat.le_of_ble_eq_true rfl) dX12_ticks_36 ⟨Nat.le_of_ble_eq_true rfl, Nat.le_of_ble_eq_true rfl⟩ (fun H locs hP hD hS => ?_)
      refine lv_aload_n hx hb dX12_ticks_39 rfl (lv_at hl 0 rfl) ?_
      refine lv_iload_n hx hb dX12_ticks_40 rfl (lv_at hl 1 rfl) ?_
      obtain ⟨q5, hq5, hf⟩ := bi_s hf
      refine bk_VV (wf := mw) (q0 := 0) (ci := 11) (rest := []) [.int x1] C hP hD hS hl.1 (c_X12_goOn hXo hq5) (cwA_V 1 hts wa_899 wa_896 wa_897 wa_898 wa_5 rfl rfl nd_X12_goOn ⟨Nat.le_of_ble_eq_true rfl, Nat.le_of_ble_eq_true rfl⟩) rfl rfl rfl rfl (Nat.le_of_ble_eq_true rfl) dX12_ticks_41 ⟨Nat.le_of_ble_eq_true rfl, Nat.le_of_ble_eq_true rfl⟩ (fun H locs hP hD hS => ?_)
      refine lv_aload_n hx hb dX12_ticks_44 rfl (lv_at hl 0 rfl) ?_
      refine bk_get (wf := mw) (q0 := 0) (ci := 11) (k := 28) (v := .int (q5 0 28)) C hP wl_X12 rfl rfl (by decide) wa_613 rfl rfl dX12_ticks_45 ?_
      cases hf
      exact bk_iret C hP hD hS rfl dX12_ticks_48
    · have hf := (if_neg t26).symm.trans hf
      exact b_X12_ticks_b29 C hf H locs ls hP hD hS (lv_sub hl [0] rfl)
theorem c_X12_ticks {N : Nat} {x1 : Int32} {σ : Sg} {z : Int32 × Sg} (hX : xOK g X) (hf : f_X12_ticks N x1 σ = some z) : MetI l yX12_ticks (Cond.code yX12_ticks cX12_ticks 2 (some .int) :: wsA) rm_X12_ticks mw g X [.ref (g.2.2 0), .int x1] σ z.1 z.2 :=
  MetI_of hX (by decide) (Nat.le_of_ble_eq_true rfl) (fun p e s m args below meth c A C => b_X12_ticks C hf)
-- X12_isAsleep: isAsleep(I)Z
abbrev rm_X12_isAsleep : Room := { frames := 1, cells := 0, slots := 0, locals := 21 }
theorem nd_X12_isAsleep : yX12_isAsleep.cls ≠ "java/lang/invoke/MethodHandle" ∧ yX12_isAsleep.cls ≠ "java/lang/invoke/VarHandle" ∧ (parseMethodDescriptor yX12_isAsleep.desc).map (fun d => d.parameters.length) = some 1 := by decide +kernel
def f_X12_isAsleep (N : Nat) (x1 : Int32) (σ : Sg) : Option (Int32 × Sg) :=
(f_X12_isOf N (σ 0 29) x1 σ).bind fun q1 =>
if ¬ (q1.1 = 0 ∨ q1.1 = 1) then none else some (q1.1, (q1.2))
set_option maxHeartbeats 4000000 in
set_option maxRecDepth 100000 in
theorem b_X12_isAsleep {N : Nat} {x1 : Int32} {σ : Sg} {z : Int32 × Sg} (C : Cx p s m args meth c cX12_isAsleep 2 (some .boolean) RX12 g A X) (hf : f_X12_isAsleep N x1 σ = some z) : Bk mw p l e rm_X12_isAsleep s m args below meth c 2 g A (MQ below (qI mw g A z.1 z.2) args s 0 0 A) 0 0 0 [(0, .ref (g.2.2 0)), (1, .int x1)] [] σ := by
  obtain ⟨hx, hb, hr, hml, hown, hts, hK, hlocks, hXX, hA, hXo⟩ := id C
  intro H locs ls hP hD hS hl
  unfold f_X12_isAsleep at hf
  refine lv_aload_n hx hb dX12_isAsleep_0 rfl (lv_at hl 0 rfl) ?_
  refine bk_get (wf := mw) (q0 := 0) (ci := 11) (k := 29) (v := .int (σ 0 29)) C hP wl_X12 rfl rfl (by decide) wa_614 rfl rfl dX12_isAsleep_1 ?_
  refine lv_iload_n hx hb dX12_isAsleep_4 rfl (lv_at hl 1 rfl) ?_
  obtain ⟨q1, hq1, hf⟩ := bi_s hf
  refine bk_SI (wf := mw) (rest := []) [.int (σ 0 29), .int x1] C hP hD hS hl.1 (c_X12_isOf hXo hq1) (cwA_S 2 hts wa_726 wa_724 wa_725 wa_5 rfl rfl nd_X12_isOf ⟨Nat.le_of_ble_eq_true rfl, Nat.le_of_ble_eq_true rfl⟩) rfl rfl (Nat.le_of_ble_eq_true rfl) dX12_isAsleep_5 ⟨Nat.le_of_ble_eq_true rfl, Nat.le_of_ble_eq_true rfl⟩ (fun H locs hP hD hS => ?_)
  obtain ⟨g2, hf⟩ := gd_s hf
  cases hf
  exact bk_zret C hP hD hS (Decidable.not_not.mp g2) rfl dX12_isAsleep_8
theorem c_X12_isAsleep {N : Nat} {x1 : Int32} {σ : Sg} {z : Int32 × Sg} (hX : xOK g X) (hf : f_X12_isAsleep N x1 σ = some z) : MetI l yX12_isAsleep (Cond.code yX12_isAsleep cX12_isAsleep 2 (some .boolean) :: wsA) rm_X12_isAsleep mw g X [.ref (g.2.2 0), .int x1] σ z.1 z.2 :=
  MetI_of hX (by decide) (Nat.le_of_ble_eq_true rfl) (fun p e s m args below meth c A C => b_X12_isAsleep C hf)
-- X12_begin: begin(I)Z
abbrev rm_X12_begin : Room := { frames := 2, cells := 0, slots := 0, locals := 46 }
theorem nd_X12_begin : yX12_begin.cls ≠ "java/lang/invoke/MethodHandle" ∧ yX12_begin.cls ≠ "java/lang/invoke/VarHandle" ∧ (parseMethodDescriptor yX12_begin.desc).map (fun d => d.parameters.length) = some 1 := by decide +kernel
def f_X12_begin (N : Nat) (x1 : Int32) (σ : Sg) : Option (Int32 × Sg) :=
bd (wr σ 0 2 (0 : Int32)) fun σ1 =>
(f_X12_isFarm N x1 σ1).bind fun q2 =>
if q2.1 = 0 then ((f_X12_failing N (1 : Int32) (q2.2)).bind fun q9 =>
if ¬ (q9.1 = 0 ∨ q9.1 = 1) then none else some (q9.1, (q9.2)))
else ((f_X12_isAsleep N x1 (q2.2)).bind fun q3 =>
if q3.1 = 0 then ((f_X12_keep N (q3.2)).bind fun q4 =>
if (x1 < 0 ∨ 9 ≤ x1.toNatClampNeg) then none else
bd (wr q4 13 (x1.toNatClampNeg) (1 : Int32)) fun σ6 =>
some ((1 : Int32), σ6))
else ((f_X12_refused N (q3.2)).bind fun q7 =>
if ¬ (q7.1 = 0 ∨ q7.1 = 1) then none else some (q7.1, (q7.2))))
set_option maxHeartbeats 4000000 in
set_option maxRecDepth 100000 in
theorem b_X12_begin {N : Nat} {x1 : Int32} {σ : Sg} {z : Int32 × Sg} (C : Cx p s m args meth c cX12_begin 2 (some .boolean) RX12 g A X) (hf : f_X12_begin N x1 σ = some z) : Bk mw p l e rm_X12_begin s m args below meth c 2 g A (MQ below (qI mw g A z.1 z.2) args s 0 0 A) 0 0 0 [(0, .ref (g.2.2 0)), (1, .int x1)] [] σ := by
  obtain ⟨hx, hb, hr, hml, hown, hts, hK, hlocks, hXX, hA, hXo⟩ := id C
  intro H locs ls hP hD hS hl
  unfold f_X12_begin at hf
  refine lv_aload_n hx hb dX12_begin_0 rfl (lv_at hl 0 rfl) ?_
  refine lv_iconst (v := (0 : Int32)) hx hb dX12_begin_1 (by decide) ?_
  obtain ⟨σ1, eσ1, hf⟩ := bd_s hf
  refine bk_put (wf := mw) (σ1 := σ1) (q0 := 0) (ci := 11) (k := 2) (v := .int (0 : Int32)) C hP hD hS wl_X12 tyX12_ok nmX12 rfl rfl (by decide) wa_205 rfl rfl rfl rfl rfl (Nat.le_of_ble_eq_true rfl) (by rw [eσ1]; exact mw_p0_2 g _ _) dX12_begin_2 (fun H locs hP hD hS => ?_)
  refine lv_aload_n hx hb dX12_begin_5 rfl (lv_at hl 0 rfl) ?_
  refine lv_iload_n hx hb dX12_begin_6 rfl (lv_at hl 1 rfl) ?_
  obtain ⟨q2, hq2, hf⟩ := bi_s hf
  refine bk_VI (wf := mw) (q0 := 0) (ci := 11) (rest := []) [.int x1] C hP hD hS hl.1 (c_X12_isFarm hXo hq2) (cwA_V 1 hts wa_800 wa_797 wa_798 wa_799 wa_5 rfl rfl nd_X12_isFarm ⟨Nat.le_of_ble_eq_true rfl, Nat.le_of_ble_eq_true rfl⟩) rfl rfl rfl rfl (Nat.le_of_ble_eq_true rfl) dX12_begin_7 ⟨Nat.le_of_ble_eq_true rfl, Nat.le_of_ble_eq_true rfl⟩ (fun H locs hP hD hS => ?_)
  refine lv_if_ne (tgt := 19) hx hb dX12_begin_10 (by decide) (fun t10 => ?_) (fun t10 => ?_)
  · have hf := (if_neg t10).symm.trans hf
    refine lv_aload_n hx hb dX12_begin_19 rfl (lv_at hl 0 rfl) ?_
    refine lv_iload_n hx hb dX12_begin_20 rfl (lv_at hl 1 rfl) ?_
    obtain ⟨q3, hq3, hf⟩ := bi_s hf
    refine bk_VI (wf := mw) (q0 := 0) (ci := 11) (rest := []) [.int x1] C hP hD hS hl.1 (c_X12_isAsleep hXo hq3) (cwA_V 1 hts wa_943 wa_940 wa_941 wa_942 wa_5 rfl rfl nd_X12_isAsleep ⟨Nat.le_of_ble_eq_true rfl, Nat.le_of_ble_eq_true rfl⟩) rfl rfl rfl rfl (Nat.le_of_ble_eq_true rfl) dX12_begin_21 ⟨Nat.le_of_ble_eq_true rfl, Nat.le_of_ble_eq_true rfl⟩ (fun H locs hP hD hS => ?_)
    refine lv_if_eq (tgt := 32) hx hb dX12_begin_24 (by decide) (fun t24 => ?_) (fun t24 => ?_)
    · have hf := (if_pos t24).symm.trans hf
      refine lv_aload_n hx hb dX12_begin_32 rfl (lv_at hl 0 rfl) ?_
      obtain ⟨q4, hq4, hf⟩ := bi_s hf
      refine bk_VV (wf := mw) (q0 := 0) (ci := 11) (rest := []) [] C hP hD hS hl.1 (c_X12_keep hXo hq4) (cwA_V 0 hts wa_891 wa_888 wa_889 wa_890 wa_5 rfl rfl nd_X12_keep ⟨Nat.le_of_ble_eq_true rfl, Nat.le_of_ble_eq_true rfl⟩) rfl rfl rfl rfl (Nat.le_of_ble_eq_true rfl) dX12_begin_33 ⟨Nat.le_of_ble_eq_true rfl, Nat.le_of_ble_eq_true rfl⟩ (fun H locs hP hD hS => ?_)
      refine lv_aload_n hx hb dX12_begin_36 rfl (lv_at hl 0 rfl) ?_
      refine bk_get (wf := mw) (q0 := 0) (ci := 11) (k := 23) (v := .ref (g.2.2 13)) C hP wl_X12 rfl rfl (by decide) wa_168 rfl rfl dX12_begin_37 ?_
      refine lv_iload_n hx hb dX12_begin_40 rfl (lv_at hl 1 rfl) ?_
      refine lv_iconst (v := (1 : Int32)) hx hb dX12_begin_41 (by decide) ?_
      obtain ⟨g5, hf⟩ := gd_s hf
      obtain ⟨σ6, eσ6, hf⟩ := bd_s hf
      refine bk_iast (wf := mw) (σ1 := σ6) (q0 := 13) (n := 9) (j := x1.toNatClampNeg) C hP hD hS rfl g5 rfl (by rw [eσ6]; exact mw_a13 g _ _ _) dX12_begin_42 (fun H locs hP hD hS => ?_)
      refine lv_iconst (v := (1 : Int32)) hx hb dX12_begin_43 (by decide) ?_
      cases hf
      exact bk_zret C hP hD hS (by decide) rfl dX12_begin_44
    · have hf := (if_neg t24).symm.trans hf
      refine lv_aload_n hx hb dX12_begin_27 rfl (lv_at hl 0 rfl) ?_
      obtain ⟨q7, hq7, hf⟩ := bi_s hf
      refine bk_VI (wf := mw) (q0 := 0) (ci := 11) (rest := []) [] C hP hD hS hl.1 (c_X12_refused hXo hq7) (cwA_V 0 hts wa_947 wa_944 wa_945 wa_946 wa_5 rfl rfl nd_X12_refused ⟨Nat.le_of_ble_eq_true rfl, Nat.le_of_ble_eq_true rfl⟩) rfl rfl rfl rfl (Nat.le_of_ble_eq_true rfl) dX12_begin_28 ⟨Nat.le_of_ble_eq_true rfl, Nat.le_of_ble_eq_true rfl⟩ (fun H locs hP hD hS => ?_)
      obtain ⟨g8, hf⟩ := gd_s hf
      cases hf
      exact bk_zret C hP hD hS (Decidable.not_not.mp g8) rfl dX12_begin_31
  · have hf := (if_pos t10).symm.trans hf
    refine lv_aload_n hx hb dX12_begin_13 rfl (lv_at hl 0 rfl) ?_
    refine lv_iconst (v := (1 : Int32)) hx hb dX12_begin_14 (by decide) ?_
    obtain ⟨q9, hq9, hf⟩ := bi_s hf
    refine bk_VI (wf := mw) (q0 := 0) (ci := 11) (rest := []) [.int (1 : Int32)] C hP hD hS hl.1 (c_X12_failing hXo hq9) (cwA_V 1 hts wa_939 wa_936 wa_937 wa_938 wa_5 rfl rfl nd_X12_failing ⟨Nat.le_of_ble_eq_true rfl, Nat.le_of_ble_eq_true rfl⟩) rfl rfl rfl rfl (Nat.le_of_ble_eq_true rfl) dX12_begin_15 ⟨Nat.le_of_ble_eq_true rfl, Nat.le_of_ble_eq_true rfl⟩ (fun H locs hP hD hS => ?_)
    obtain ⟨g10, hf⟩ := gd_s hf
    cases hf
    exact bk_zret C hP hD hS (Decidable.not_not.mp g10) rfl dX12_begin_18
theorem c_X12_begin {N : Nat} {x1 : Int32} {σ : Sg} {z : Int32 × Sg} (hX : xOK g X) (hf : f_X12_begin N x1 σ = some z) : MetI l yX12_begin (Cond.code yX12_begin cX12_begin 2 (some .boolean) :: wsA) rm_X12_begin mw g X [.ref (g.2.2 0), .int x1] σ z.1 z.2 :=
  MetI_of hX (by decide) (Nat.le_of_ble_eq_true rfl) (fun p e s m args below meth c A C => b_X12_begin C hf)
-- X12_turnOver: turnOver(I)V
abbrev rm_X12_turnOver : Room := { frames := 2, cells := 0, slots := 0, locals := 42 }
theorem nd_X12_turnOver : yX12_turnOver.cls ≠ "java/lang/invoke/MethodHandle" ∧ yX12_turnOver.cls ≠ "java/lang/invoke/VarHandle" ∧ (parseMethodDescriptor yX12_turnOver.desc).map (fun d => d.parameters.length) = some 1 := by decide +kernel
def f_X12_turnOver (N : Nat) (x1 : Int32) (σ : Sg) : Option (Sg) :=
bd (wr σ 0 29 ((σ 0 29) ^^^ ((1 : Int32) <<< (x1 &&& 31)))) fun σ1 =>
(f_X12_isAsleep N x1 σ1).bind fun q2 =>
if q2.1 = 0 then (some (q2.2))
else (if (x1 < 0 ∨ 9 ≤ x1.toNatClampNeg) then none else
bd (wr (q2.2) 13 (x1.toNatClampNeg) (0 : Int32)) fun σ4 =>
some σ4)
set_option maxHeartbeats 4000000 in
set_option maxRecDepth 100000 in
theorem b_X12_turnOver {N : Nat} {x1 : Int32} {σ : Sg} {z : Sg} (C : Cx p s m args meth c cX12_turnOver 2 none RX12 g A X) (hf : f_X12_turnOver N x1 σ = some z) : Bk mw p l e rm_X12_turnOver s m args below meth c 2 g A (MQ below (qV mw g A z) args s 0 0 A) 0 0 0 [(0, .ref (g.2.2 0)), (1, .int x1)] [] σ := by
  obtain ⟨hx, hb, hr, hml, hown, hts, hK, hlocks, hXX, hA, hXo⟩ := id C
  intro H locs ls hP hD hS hl
  unfold f_X12_turnOver at hf
  refine lv_aload_n hx hb dX12_turnOver_0 rfl (lv_at hl 0 rfl) ?_
  refine lv_dup hx hb dX12_turnOver_1 rfl ?_
  refine bk_get (wf := mw) (q0 := 0) (ci := 11) (k := 29) (v := .int (σ 0 29)) C hP wl_X12 rfl rfl (by decide) wa_614 rfl rfl dX12_turnOver_2 ?_
  refine lv_iconst (v := (1 : Int32)) hx hb dX12_turnOver_5 (by decide) ?_
  refine lv_iload_n hx hb dX12_turnOver_6 rfl (lv_at hl 1 rfl) ?_
  refine lv_ishl hx hb dX12_turnOver_7 ?_
  refine lv_ixor hx hb dX12_turnOver_8 ?_
  obtain ⟨σ1, eσ1, hf⟩ := bd_s hf
  refine bk_put (wf := mw) (σ1 := σ1) (q0 := 0) (ci := 11) (k := 29) (v := .int ((σ 0 29) ^^^ ((1 : Int32) <<< (x1 &&& 31)))) C hP hD hS wl_X12 tyX12_ok nmX12 rfl rfl (by decide) wa_614 rfl rfl rfl rfl rfl (Nat.le_of_ble_eq_true rfl) (by rw [eσ1]; exact mw_p0_29 g _ _) dX12_turnOver_9 (fun H locs hP hD hS => ?_)
  refine lv_aload_n hx hb dX12_turnOver_12 rfl (lv_at hl 0 rfl) ?_
  refine lv_iload_n hx hb dX12_turnOver_13 rfl (lv_at hl 1 rfl) ?_
  obtain ⟨q2, hq2, hf⟩ := bi_s hf
  refine bk_VI (wf := mw) (q0 := 0) (ci := 11) (rest := []) [.int x1] C hP hD hS hl.1 (c_X12_isAsleep hXo hq2) (cwA_V 1 hts wa_943 wa_940 wa_941 wa_942 wa_5 rfl rfl nd_X12_isAsleep ⟨Nat.le_of_ble_eq_true rfl, Nat.le_of_ble_eq_true rfl⟩) rfl rfl rfl rfl (Nat.le_of_ble_eq_true rfl) dX12_turnOver_14 ⟨Nat.le_of_ble_eq_true rfl, Nat.le_of_ble_eq_true rfl⟩ (fun H locs hP hD hS => ?_)
  refine lv_if_eq (tgt := 27) hx hb dX12_turnOver_17 (by decide) (fun t17 => ?_) (fun t17 => ?_)
  · have hf := (if_pos t17).symm.trans hf
    cases hf
    exact bk_vret C hP hD hS rfl dX12_turnOver_27
  · have hf := (if_neg t17).symm.trans hf
    refine lv_aload_n hx hb dX12_turnOver_20 rfl (lv_at hl 0 rfl) ?_
    refine bk_get (wf := mw) (q0 := 0) (ci := 11) (k := 23) (v := .ref (g.2.2 13)) C hP wl_X12 rfl rfl (by decide) wa_168 rfl rfl dX12_turnOver_21 ?_
    refine lv_iload_n hx hb dX12_turnOver_24 rfl (lv_at hl 1 rfl) ?_
    refine lv_iconst (v := (0 : Int32)) hx hb dX12_turnOver_25 (by decide) ?_
    obtain ⟨g3, hf⟩ := gd_s hf
    obtain ⟨σ4, eσ4, hf⟩ := bd_s hf
    refine bk_iast (wf := mw) (σ1 := σ4) (q0 := 13) (n := 9) (j := x1.toNatClampNeg) C hP hD hS rfl g3 rfl (by rw [eσ4]; exact mw_a13 g _ _ _) dX12_turnOver_26 (fun H locs hP hD hS => ?_)
    cases hf
    exact bk_vret C hP hD hS rfl dX12_turnOver_27
theorem c_X12_turnOver {N : Nat} {x1 : Int32} {σ : Sg} {z : Sg} (hX : xOK g X) (hf : f_X12_turnOver N x1 σ = some z) : MetV l yX12_turnOver (Cond.code yX12_turnOver cX12_turnOver 2 none :: wsA) rm_X12_turnOver mw g X [.ref (g.2.2 0), .int x1] σ z :=
  MetV_of hX (by decide) (Nat.le_of_ble_eq_true rfl) (fun p e s m args below meth c A C => b_X12_turnOver C hf)
-- X12_sleep: sleep(IZ)Z
abbrev rm_X12_sleep : Room := { frames := 3, cells := 0, slots := 0, locals := 63 }
theorem nd_X12_sleep : yX12_sleep.cls ≠ "java/lang/invoke/MethodHandle" ∧ yX12_sleep.cls ≠ "java/lang/invoke/VarHandle" ∧ (parseMethodDescriptor yX12_sleep.desc).map (fun d => d.parameters.length) = some 2 := by decide +kernel
def f_X12_sleep (N : Nat) (x1 : Int32) (x2 : Int32) (σ : Sg) : Option (Int32 × Sg) :=
bd (wr σ 0 2 (0 : Int32)) fun σ1 =>
(f_X12_isFarm N x1 σ1).bind fun q2 =>
if q2.1 = 0 then ((f_X12_failing N (1 : Int32) (q2.2)).bind fun q8 =>
if ¬ (q8.1 = 0 ∨ q8.1 = 1) then none else some (q8.1, (q8.2)))
else ((f_X12_isAsleep N x1 (q2.2)).bind fun q3 =>
if q3.1 = x2 then ((f_X12_refused N (q3.2)).bind fun q6 =>
if ¬ (q6.1 = 0 ∨ q6.1 = 1) then none else some (q6.1, (q6.2)))
else ((f_X12_keep N (q3.2)).bind fun q4 =>
(f_X12_turnOver N x1 q4).bind fun q5 =>
some ((1 : Int32), q5)))
set_option maxHeartbeats 4000000 in
set_option maxRecDepth 100000 in
theorem b_X12_sleep {N : Nat} {x1 : Int32} {x2 : Int32} {σ : Sg} {z : Int32 × Sg} (C : Cx p s m args meth c cX12_sleep 3 (some .boolean) RX12 g A X) (hf : f_X12_sleep N x1 x2 σ = some z) : Bk mw p l e rm_X12_sleep s m args below meth c 3 g A (MQ below (qI mw g A z.1 z.2) args s 0 0 A) 0 0 0 [(0, .ref (g.2.2 0)), (1, .int x1), (2, .int x2)] [] σ := by
  obtain ⟨hx, hb, hr, hml, hown, hts, hK, hlocks, hXX, hA, hXo⟩ := id C
  intro H locs ls hP hD hS hl
  unfold f_X12_sleep at hf
  refine lv_aload_n hx hb dX12_sleep_0 rfl (lv_at hl 0 rfl) ?_
  refine lv_iconst (v := (0 : Int32)) hx hb dX12_sleep_1 (by decide) ?_
  obtain ⟨σ1, eσ1, hf⟩ := bd_s hf
  refine bk_put (wf := mw) (σ1 := σ1) (q0 := 0) (ci := 11) (k := 2) (v := .int (0 : Int32)) C hP hD hS wl_X12 tyX12_ok nmX12 rfl rfl (by decide) wa_205 rfl rfl rfl rfl rfl (Nat.le_of_ble_eq_true rfl) (by rw [eσ1]; exact mw_p0_2 g _ _) dX12_sleep_2 (fun H locs hP hD hS => ?_)
  refine lv_aload_n hx hb dX12_sleep_5 rfl (lv_at hl 0 rfl) ?_
  refine lv_iload_n hx hb dX12_sleep_6 rfl (lv_at hl 1 rfl) ?_
  obtain ⟨q2, hq2, hf⟩ := bi_s hf
  refine bk_VI (wf := mw) (q0 := 0) (ci := 11) (rest := []) [.int x1] C hP hD hS hl.1 (c_X12_isFarm hXo hq2) (cwA_V 1 hts wa_800 wa_797 wa_798 wa_799 wa_5 rfl rfl nd_X12_isFarm ⟨Nat.le_of_ble_eq_true rfl, Nat.le_of_ble_eq_true rfl⟩) rfl rfl rfl rfl (Nat.le_of_ble_eq_true rfl) dX12_sleep_7 ⟨Nat.le_of_ble_eq_true rfl, Nat.le_of_ble_eq_true rfl⟩ (fun H locs hP hD hS => ?_)
  refine lv_if_ne (tgt := 19) hx hb dX12_sleep_10 (by decide) (fun t10 => ?_) (fun t10 => ?_)
  · have hf := (if_neg t10).symm.trans hf
    refine lv_aload_n hx hb dX12_sleep_19 rfl (lv_at hl 0 rfl) ?_
    refine lv_iload_n hx hb dX12_sleep_20 rfl (lv_at hl 1 rfl) ?_
    obtain ⟨q3, hq3, hf⟩ := bi_s hf
    refine bk_VI (wf := mw) (q0 := 0) (ci := 11) (rest := []) [.int x1] C hP hD hS hl.1 (c_X12_isAsleep hXo hq3) (cwA_V 1 hts wa_943 wa_940 wa_941 wa_942 wa_5 rfl rfl nd_X12_isAsleep ⟨Nat.le_of_ble_eq_true rfl, Nat.le_of_ble_eq_true rfl⟩) rfl rfl rfl rfl (Nat.le_of_ble_eq_true rfl) dX12_sleep_21 ⟨Nat.le_of_ble_eq_true rfl, Nat.le_of_ble_eq_true rfl⟩ (fun H locs hP hD hS => ?_)
    refine lv_iload_n hx hb dX12_sleep_24 rfl (lv_at hl 2 rfl) ?_
    refine lv_icmp_ne (tgt := 33) hx hb dX12_sleep_25 (by decide) (fun t25 => ?_) (fun t25 => ?_)
    · have hf := (if_neg t25).symm.trans hf
      refine lv_aload_n hx hb dX12_sleep_33 rfl (lv_at hl 0 rfl) ?_
      obtain ⟨q4, hq4, hf⟩ := bi_s hf
      refine bk_VV (wf := mw) (q0 := 0) (ci := 11) (rest := []) [] C hP hD hS hl.1 (c_X12_keep hXo hq4) (cwA_V 0 hts wa_891 wa_888 wa_889 wa_890 wa_5 rfl rfl nd_X12_keep ⟨Nat.le_of_ble_eq_true rfl, Nat.le_of_ble_eq_true rfl⟩) rfl rfl rfl rfl (Nat.le_of_ble_eq_true rfl) dX12_sleep_34 ⟨Nat.le_of_ble_eq_true rfl, Nat.le_of_ble_eq_true rfl⟩ (fun H locs hP hD hS => ?_)
      refine lv_aload_n hx hb dX12_sleep_37 rfl (lv_at hl 0 rfl) ?_
      refine lv_iload_n hx hb dX12_sleep_38 rfl (lv_at hl 1 rfl) ?_
      obtain ⟨q5, hq5, hf⟩ := bi_s hf
      refine bk_VV (wf := mw) (q0 := 0) (ci := 11) (rest := []) [.int x1] C hP hD hS hl.1 (c_X12_turnOver hXo hq5) (cwA_V 1 hts wa_966 wa_963 wa_964 wa_965 wa_5 rfl rfl nd_X12_turnOver ⟨Nat.le_of_ble_eq_true rfl, Nat.le_of_ble_eq_true rfl⟩) rfl rfl rfl rfl (Nat.le_of_ble_eq_true rfl) dX12_sleep_39 ⟨Nat.le_of_ble_eq_true rfl, Nat.le_of_ble_eq_true rfl⟩ (fun H locs hP hD hS => ?_)
      refine lv_iconst (v := (1 : Int32)) hx hb dX12_sleep_42 (by decide) ?_
      cases hf
      exact bk_zret C hP hD hS (by decide) rfl dX12_sleep_43
    · have hf := (if_pos t25).symm.trans hf
      refine lv_aload_n hx hb dX12_sleep_28 rfl (lv_at hl 0 rfl) ?_
      obtain ⟨q6, hq6, hf⟩ := bi_s hf
      refine bk_VI (wf := mw) (q0 := 0) (ci := 11) (rest := []) [] C hP hD hS hl.1 (c_X12_refused hXo hq6) (cwA_V 0 hts wa_947 wa_944 wa_945 wa_946 wa_5 rfl rfl nd_X12_refused ⟨Nat.le_of_ble_eq_true rfl, Nat.le_of_ble_eq_true rfl⟩) rfl rfl rfl rfl (Nat.le_of_ble_eq_true rfl) dX12_sleep_29 ⟨Nat.le_of_ble_eq_true rfl, Nat.le_of_ble_eq_true rfl⟩ (fun H locs hP hD hS => ?_)
      obtain ⟨g7, hf⟩ := gd_s hf
      cases hf
      exact bk_zret C hP hD hS (Decidable.not_not.mp g7) rfl dX12_sleep_32
  · have hf := (if_pos t10).symm.trans hf
    refine lv_aload_n hx hb dX12_sleep_13 rfl (lv_at hl 0 rfl) ?_
    refine lv_iconst (v := (1 : Int32)) hx hb dX12_sleep_14 (by decide) ?_
    obtain ⟨q8, hq8, hf⟩ := bi_s hf
    refine bk_VI (wf := mw) (q0 := 0) (ci := 11) (rest := []) [.int (1 : Int32)] C hP hD hS hl.1 (c_X12_failing hXo hq8) (cwA_V 1 hts wa_939 wa_936 wa_937 wa_938 wa_5 rfl rfl nd_X12_failing ⟨Nat.le_of_ble_eq_true rfl, Nat.le_of_ble_eq_true rfl⟩) rfl rfl rfl rfl (Nat.le_of_ble_eq_true rfl) dX12_sleep_15 ⟨Nat.le_of_ble_eq_true rfl, Nat.le_of_ble_eq_true rfl⟩ (fun H locs hP hD hS => ?_)
    obtain ⟨g9, hf⟩ := gd_s hf
    cases hf
    exact bk_zret C hP hD hS (Decidable.not_not.mp g9) rfl dX12_sleep_18
theorem c_X12_sleep {N : Nat} {x1 : Int32} {x2 : Int32} {σ : Sg} {z : Int32 × Sg} (hX : xOK g X) (hf : f_X12_sleep N x1 x2 σ = some z) : MetI l yX12_sleep (Cond.code yX12_sleep cX12_sleep 3 (some .boolean) :: wsA) rm_X12_sleep mw g X [.ref (g.2.2 0), .int x1, .int x2] σ z.1 z.2 :=
  MetI_of hX (by decide) (Nat.le_of_ble_eq_true rfl) (fun p e s m args below meth c A C => b_X12_sleep C hf)
-- X12_hat: hat(II)I
abbrev rm_X12_hat : Room := { frames := 2, cells := 0, slots := 0, locals := 46 }
theorem nd_X12_hat : yX12_hat.cls ≠ "java/lang/invoke/MethodHandle" ∧ yX12_hat.cls ≠ "java/lang/invoke/VarHandle" ∧ (parseMethodDescriptor yX12_hat.desc).map (fun d => d.parameters.length) = some 2 := by decide +kernel
def f_X12_hat (N : Nat) (x1 : Int32) (x2 : Int32) (σ : Sg) : Option (Int32 × Sg) :=
bd (wr σ 0 2 (0 : Int32)) fun σ1 =>
(f_X12_isFarm N x1 σ1).bind fun q2 =>
if q2.1 = 0 then ((f_X12_fail N (1 : Int32) (q2.2)).bind fun q10 =>
some (q10.1, (q10.2)))
else ((f_X12_isIn N (x2).toInt64 (0 : Int64) (20 : Int64) (q2.2)).bind fun q3 =>
if q3.1 = 0 then ((f_X12_refuse N (1 : Int32) (q3.2)).bind fun q9 =>
some (q9.1, (q9.2)))
else ((f_X12_keep N (q3.2)).bind fun q4 =>
if (x1 < 0 ∨ 9 ≤ x1.toNatClampNeg) then none else
bd (q4 16 x1.toNatClampNeg) fun v6 =>
if (x1 < 0 ∨ 9 ≤ x1.toNatClampNeg) then none else
bd (wr q4 16 (x1.toNatClampNeg) x2) fun σ8 =>
some (v6, σ8)))
set_option maxHeartbeats 4000000 in
set_option maxRecDepth 100000 in
theorem b_X12_hat {N : Nat} {x1 : Int32} {x2 : Int32} {σ : Sg} {z : Int32 × Sg} (C : Cx p s m args meth c cX12_hat 4 (some .int) RX12 g A X) (hf : f_X12_hat N x1 x2 σ = some z) : Bk mw p l e rm_X12_hat s m args below meth c 4 g A (MQ below (qI mw g A z.1 z.2) args s 0 0 A) 0 0 0 [(0, .ref (g.2.2 0)), (1, .int x1), (2, .int x2)] [] σ := by
  obtain ⟨hx, hb, hr, hml, hown, hts, hK, hlocks, hXX, hA, hXo⟩ := id C
  intro H locs ls hP hD hS hl
  unfold f_X12_hat at hf
  refine lv_aload_n hx hb dX12_hat_0 rfl (lv_at hl 0 rfl) ?_
  refine lv_iconst (v := (0 : Int32)) hx hb dX12_hat_1 (by decide) ?_
  obtain ⟨σ1, eσ1, hf⟩ := bd_s hf
  refine bk_put (wf := mw) (σ1 := σ1) (q0 := 0) (ci := 11) (k := 2) (v := .int (0 : Int32)) C hP hD hS wl_X12 tyX12_ok nmX12 rfl rfl (by decide) wa_205 rfl rfl rfl rfl rfl (Nat.le_of_ble_eq_true rfl) (by rw [eσ1]; exact mw_p0_2 g _ _) dX12_hat_2 (fun H locs hP hD hS => ?_)
  refine lv_aload_n hx hb dX12_hat_5 rfl (lv_at hl 0 rfl) ?_
  refine lv_iload_n hx hb dX12_hat_6 rfl (lv_at hl 1 rfl) ?_
  obtain ⟨q2, hq2, hf⟩ := bi_s hf
  refine bk_VI (wf := mw) (q0 := 0) (ci := 11) (rest := []) [.int x1] C hP hD hS hl.1 (c_X12_isFarm hXo hq2) (cwA_V 1 hts wa_800 wa_797 wa_798 wa_799 wa_5 rfl rfl nd_X12_isFarm ⟨Nat.le_of_ble_eq_true rfl, Nat.le_of_ble_eq_true rfl⟩) rfl rfl rfl rfl (Nat.le_of_ble_eq_true rfl) dX12_hat_7 ⟨Nat.le_of_ble_eq_true rfl, Nat.le_of_ble_eq_true rfl⟩ (fun H locs hP hD hS => ?_)
  refine lv_if_ne (tgt := 19) hx hb dX12_hat_10 (by decide) (fun t10 => ?_) (fun t10 => ?_)
  · have hf := (if_neg t10).symm.trans hf
    refine lv_iload_n hx hb dX12_hat_19 rfl (lv_at hl 2 rfl) ?_
    refine lv_i2l hx hb dX12_hat_20 rfl ?_
    refine lv_lconst (v := (0 : Int64)) hx hb dX12_hat_21 (by decide) ?_
    refine lv_ldc2 (v := (20 : Int64)) hx hb hown (hts _ wa_883) dX12_hat_22 ?_
    obtain ⟨q3, hq3, hf⟩ := bi_s hf
    refine bk_SI (wf := mw) (rest := []) [.long (x2).toInt64, .long (0 : Int64), .long (20 : Int64)] C hP hD hS hl.1 (c_X12_isIn hXo hq3) (cwA_S 3 hts wa_803 wa_801 wa_802 wa_5 rfl rfl nd_X12_isIn ⟨Nat.le_of_ble_eq_true rfl, Nat.le_of_ble_eq_true rfl⟩) rfl rfl (Nat.le_of_ble_eq_true rfl) dX12_hat_25 ⟨Nat.le_of_ble_eq_true rfl, Nat.le_of_ble_eq_true rfl⟩ (fun H locs hP hD hS => ?_)
    refine lv_if_ne (tgt := 37) hx hb dX12_hat_28 (by decide) (fun t28 => ?_) (fun t28 => ?_)
    · have hf := (if_neg t28).symm.trans hf
      refine lv_aload_n hx hb dX12_hat_37 rfl (lv_at hl 0 rfl) ?_
      obtain ⟨q4, hq4, hf⟩ := bi_s hf
      refine bk_VV (wf := mw) (q0 := 0) (ci := 11) (rest := []) [] C hP hD hS hl.1 (c_X12_keep hXo hq4) (cwA_V 0 hts wa_891 wa_888 wa_889 wa_890 wa_5 rfl rfl nd_X12_keep ⟨Nat.le_of_ble_eq_true rfl, Nat.le_of_ble_eq_true rfl⟩) rfl rfl rfl rfl (Nat.le_of_ble_eq_true rfl) dX12_hat_38 ⟨Nat.le_of_ble_eq_true rfl, Nat.le_of_ble_eq_true rfl⟩ (fun H locs hP hD hS => ?_)
      refine lv_aload_n hx hb dX12_hat_41 rfl (lv_at hl 0 rfl) ?_
      refine bk_get (wf := mw) (q0 := 0) (ci := 11) (k := 26) (v := .ref (g.2.2 16)) C hP wl_X12 rfl rfl (by decide) wa_171 rfl rfl dX12_hat_42 ?_
      refine lv_iload_n hx hb dX12_hat_45 rfl (lv_at hl 1 rfl) ?_
      obtain ⟨g5, hf⟩ := gd_s hf
      refine bk_iald (wf := mw) (q0 := 16) (n := 9) (j := x1.toNatClampNeg) C hP rfl g5 rfl dX12_hat_46 ?_
      obtain ⟨v6, ev6, hf⟩ := bd_s hf
      rw [← ev6]
      refine lv_istore_n (lv' := [(3, .int v6), (0, .ref (g.2.2 0)), (1, .int x1), (2, .int x2)]) hx hb dX12_hat_47 rfl hl (by decide) rfl (fun ls hl => ?_)
      refine lv_aload_n hx hb dX12_hat_48 rfl (lv_at hl 1 rfl) ?_
      refine bk_get (wf := mw) (q0 := 0) (ci := 11) (k := 26) (v := .ref (g.2.2 16)) C hP wl_X12 rfl rfl (by decide) wa_171 rfl rfl dX12_hat_49 ?_
      refine lv_iload_n hx hb dX12_hat_52 rfl (lv_at hl 2 rfl) ?_
      refine lv_iload_n hx hb dX12_hat_53 rfl (lv_at hl 3 rfl) ?_
      obtain ⟨g7, hf⟩ := gd_s hf
      obtain ⟨σ8, eσ8, hf⟩ := bd_s hf
      refine bk_iast (wf := mw) (σ1 := σ8) (q0 := 16) (n := 9) (j := x1.toNatClampNeg) C hP hD hS rfl g7 rfl (by rw [eσ8]; exact mw_a16 g _ _ _) dX12_hat_54 (fun H locs hP hD hS => ?_)
      refine lv_iload_n hx hb dX12_hat_55 rfl (lv_at hl 0 rfl) ?_
      cases hf
      exact bk_iret C hP hD hS rfl dX12_hat_56
    · have hf := (if_pos t28).symm.trans hf
      refine lv_aload_n hx hb dX12_hat_31 rfl (lv_at hl 0 rfl) ?_
      refine lv_iconst (v := (1 : Int32)) hx hb dX12_hat_32 (by decide) ?_
      obtain ⟨q9, hq9, hf⟩ := bi_s hf
      refine bk_VI (wf := mw) (q0 := 0) (ci := 11) (rest := []) [.int (1 : Int32)] C hP hD hS hl.1 (c_X12_refuse hXo hq9) (cwA_V 1 hts wa_887 wa_884 wa_885 wa_886 wa_5 rfl rfl nd_X12_refuse ⟨Nat.le_of_ble_eq_true rfl, Nat.le_of_ble_eq_true rfl⟩) rfl rfl rfl rfl (Nat.le_of_ble_eq_true rfl) dX12_hat_33 ⟨Nat.le_of_ble_eq_true rfl, Nat.le_of_ble_eq_true rfl⟩ (fun H locs hP hD hS => ?_)
      cases hf
      exact bk_iret C hP hD hS rfl dX12_hat_36
  · have hf := (if_pos t10).symm.trans hf
    refine lv_aload_n hx hb dX12_hat_13 rfl (lv_at hl 0 rfl) ?_
    refine lv_iconst (v := (1 : Int32)) hx hb dX12_hat_14 (by decide) ?_
    obtain ⟨q10, hq10, hf⟩ := bi_s hf
    refine bk_VI (wf := mw) (q0 := 0) (ci := 11) (rest := []) [.int (1 : Int32)] C hP hD hS hl.1 (c_X12_fail hXo hq10) (cwA_V 1 hts wa_512 wa_509 wa_510 wa_511 wa_5 rfl rfl nd_X12_fail ⟨Nat.le_of_ble_eq_true rfl, Nat.le_of_ble_eq_true rfl⟩) rfl rfl rfl rfl (Nat.le_of_ble_eq_true rfl) dX12_hat_15 ⟨Nat.le_of_ble_eq_true rfl, Nat.le_of_ble_eq_true rfl⟩ (fun H locs hP hD hS => ?_)
    cases hf
    exact bk_iret C hP hD hS rfl dX12_hat_18
theorem c_X12_hat {N : Nat} {x1 : Int32} {x2 : Int32} {σ : Sg} {z : Int32 × Sg} (hX : xOK g X) (hf : f_X12_hat N x1 x2 σ = some z) : MetI l yX12_hat (Cond.code yX12_hat cX12_hat 4 (some .int) :: wsA) rm_X12_hat mw g X [.ref (g.2.2 0), .int x1, .int x2] σ z.1 z.2 :=
  MetI_of hX (by decide) (Nat.le_of_ble_eq_true rfl) (fun p e s m args below meth c A C => b_X12_hat C hf)
-- X12_hushAll: hushAll()V
abbrev rm_X12_hushAll : Room := { frames := 0, cells := 0, slots := 0, locals := 0 }
theorem nd_X12_hushAll : yX12_hushAll.cls ≠ "java/lang/invoke/MethodHandle" ∧ yX12_hushAll.cls ≠ "java/lang/invoke/VarHandle" ∧ (parseMethodDescriptor yX12_hushAll.desc).map (fun d => d.parameters.length) = some 0 := by decide +kernel
def s_X12_hushAll_h2 (N : Nat) (x1 : Int32) (σ : Sg) : Option (Nat × Int32 × Sg) :=
if (9 : Int32) ≤ x1 then (some (1, 0, σ))
else (if (x1 < 0 ∨ 9 ≤ x1.toNatClampNeg) then none else
bd (wr σ 13 (x1.toNatClampNeg) (0 : Int32)) fun σ2 =>
bd (x1 + (1 : Int32)) fun v3 =>
some (0, v3, σ2))
set_option maxHeartbeats 4000000 in
set_option maxRecDepth 100000 in
theorem e_X12_hushAll_h2 {N : Nat} {x1 : Int32} {σ : Sg} {z : Nat × Int32 × Sg} (C : Cx p s m args meth c cX12_hushAll 2 none RX12 g A X) (hf : s_X12_hushAll_h2 N x1 σ = some z) (k0 : z.1 = 0 → Bk mw p l e rm_X12_hushAll s m args below meth c 2 g A Q 0 0 2 [(0, .ref (g.2.2 0)), (1, .int z.2.1)] [] z.2.2) (k : ¬ z.1 = 0 → Bk mw p l e rm_X12_hushAll s m args below meth c 2 g A Q 0 0 21 [] [] z.2.2) : Bk mw p l e rm_X12_hushAll s m args below meth c 2 g A Q 0 0 2 [(0, .ref (g.2.2 0)), (1, .int x1)] [] σ := by
  obtain ⟨hx, hb, hr, hml, hown, hts, hK, hlocks, hXX, hA, hXo⟩ := id C
  intro H locs ls hP hD hS hl
  unfold s_X12_hushAll_h2 at hf
  refine lv_iload_n hx hb dX12_hushAll_2 rfl (lv_at hl 1 rfl) ?_
  refine lv_bipush (v := (9 : Int32)) hx hb dX12_hushAll_3 (by decide) ?_
  refine lv_icmp_ge (tgt := 21) hx hb dX12_hushAll_5 (by decide) (fun t5 => ?_) (fun t5 => ?_)
  · have hf := (if_pos t5).symm.trans hf
    cases hf
    exact (k (show ¬ (1 : Nat) = 0 by decide)) H locs ls hP hD hS (lv_sub hl [] rfl)
  · have hf := (if_neg t5).symm.trans hf
    refine lv_aload_n hx hb dX12_hushAll_8 rfl (lv_at hl 0 rfl) ?_
    refine bk_get (wf := mw) (q0 := 0) (ci := 11) (k := 23) (v := .ref (g.2.2 13)) C hP wl_X12 rfl rfl (by decide) wa_168 rfl rfl dX12_hushAll_9 ?_
    refine lv_iload_n hx hb dX12_hushAll_12 rfl (lv_at hl 1 rfl) ?_
    refine lv_iconst (v := (0 : Int32)) hx hb dX12_hushAll_13 (by decide) ?_
    obtain ⟨g1, hf⟩ := gd_s hf
    obtain ⟨σ2, eσ2, hf⟩ := bd_s hf
    refine bk_iast (wf := mw) (σ1 := σ2) (q0 := 13) (n := 9) (j := x1.toNatClampNeg) C hP hD hS rfl g1 rfl (by rw [eσ2]; exact mw_a13 g _ _ _) dX12_hushAll_14 (fun H locs hP hD hS => ?_)
    obtain ⟨v3, ev3, hf⟩ := bd_s hf
    refine lv_iinc (v := v3) (lv' := [(1, .int v3), (0, .ref (g.2.2 0))]) hx hb dX12_hushAll_15 hl (k := 1) rfl (by rw [ev3]; rfl) (by decide) rfl (fun ls hl => ?_)
    refine lv_goto (tgt := 2) hx hb dX12_hushAll_18 (by decide) ?_
    cases hf
    exact k0 rfl H locs ls hP hD hS (lv_sub hl [1, 0] rfl)
theorem lp_X12_hushAll_h2 {N : Nat} {n : Nat} {x1 : Int32} {σ : Sg} {z : Nat × Int32 × Sg} (C : Cx p s m args meth c cX12_hushAll 2 none RX12 g A X) (hz : it (fun q => s_X12_hushAll_h2 N q.1 q.2) n (x1, σ) = some z) (k : Bk mw p l e rm_X12_hushAll s m args below meth c 2 g A Q 0 0 21 [] [] z.2.2) : Bk mw p l e rm_X12_hushAll s m args below meth c 2 g A Q 0 0 2 [(0, .ref (g.2.2 0)), (1, .int x1)] [] σ :=
  it_W (S := Int32 × Sg) (fun q => Bk mw p l e rm_X12_hushAll s m args below meth c 2 g A Q 0 0 2 [(0, .ref (g.2.2 0)), (1, .int q.1)] [] q.2) (fun z => Bk mw p l e rm_X12_hushAll s m args below meth c 2 g A Q 0 0 21 [] [] z.2.2) (fun q z hq k0 k => e_X12_hushAll_h2 C hq k0 k) n (x1, σ) z hz k
def f_X12_hushAll (N : Nat) (σ : Sg) : Option (Sg) :=
(it (fun q => s_X12_hushAll_h2 N q.1 q.2) N ((0 : Int32), σ)).bind fun z4 =>
some (z4.2.2)
set_option maxHeartbeats 4000000 in
set_option maxRecDepth 100000 in
theorem b_X12_hushAll {N : Nat} {σ : Sg} {z : Sg} (C : Cx p s m args meth c cX12_hushAll 2 none RX12 g A X) (hf : f_X12_hushAll N σ = some z) : Bk mw p l e rm_X12_hushAll s m args below meth c 2 g A (MQ below (qV mw g A z) args s 0 0 A) 0 0 0 [(0, .ref (g.2.2 0))] [] σ := by
  obtain ⟨hx, hb, hr, hml, hown, hts, hK, hlocks, hXX, hA, hXo⟩ := id C
  intro H locs ls hP hD hS hl
  unfold f_X12_hushAll at hf
  refine lv_iconst (v := (0 : Int32)) hx hb dX12_hushAll_0 (by decide) ?_
  refine lv_istore_n (lv' := [(1, .int (0 : Int32)), (0, .ref (g.2.2 0))]) hx hb dX12_hushAll_1 rfl hl (by decide) rfl (fun ls hl => ?_)
  obtain ⟨z4, hz4, hf⟩ := bi_s hf
  refine lp_X12_hushAll_h2 C hz4 ?_ H locs ls hP hD hS (lv_sub hl [1, 0] rfl)
  intro H locs ls hP hD hS hl
  cases hf
  exact bk_vret C hP hD hS rfl dX12_hushAll_21
theorem c_X12_hushAll {N : Nat} {σ : Sg} {z : Sg} (hX : xOK g X) (hf : f_X12_hushAll N σ = some z) : MetV l yX12_hushAll (Cond.code yX12_hushAll cX12_hushAll 2 none :: wsA) rm_X12_hushAll mw g X [.ref (g.2.2 0)] σ z :=
  MetV_of hX (by decide) (Nat.le_of_ble_eq_true rfl) (fun p e s m args below meth c A C => b_X12_hushAll C hf)
-- X12_hush: hush()I
abbrev rm_X12_hush : Room := { frames := 2, cells := 0, slots := 0, locals := 44 }
theorem nd_X12_hush : yX12_hush.cls ≠ "java/lang/invoke/MethodHandle" ∧ yX12_hush.cls ≠ "java/lang/invoke/VarHandle" ∧ (parseMethodDescriptor yX12_hush.desc).map (fun d => d.parameters.length) = some 0 := by decide +kernel
def f_X12_hush (N : Nat) (σ : Sg) : Option (Int32 × Sg) :=
bd (wr σ 0 2 (0 : Int32)) fun σ1 =>
(f_X12_waitingNow N σ1).bind fun q2 =>
bd q2.1 fun v3 =>
if v3 = 0 then ((f_X12_refuse N (1 : Int32) (q2.2)).bind fun q6 =>
some (q6.1, (q6.2)))
else ((f_X12_keep N (q2.2)).bind fun q4 =>
(f_X12_hushAll N q4).bind fun q5 =>
some (v3, q5))
set_option maxHeartbeats 4000000 in
set_option maxRecDepth 100000 in
theorem b_X12_hush {N : Nat} {σ : Sg} {z : Int32 × Sg} (C : Cx p s m args meth c cX12_hush 2 (some .int) RX12 g A X) (hf : f_X12_hush N σ = some z) : Bk mw p l e rm_X12_hush s m args below meth c 2 g A (MQ below (qI mw g A z.1 z.2) args s 0 0 A) 0 0 0 [(0, .ref (g.2.2 0))] [] σ := by
  obtain ⟨hx, hb, hr, hml, hown, hts, hK, hlocks, hXX, hA, hXo⟩ := id C
  intro H locs ls hP hD hS hl
  unfold f_X12_hush at hf
  refine lv_aload_n hx hb dX12_hush_0 rfl (lv_at hl 0 rfl) ?_
  refine lv_iconst (v := (0 : Int32)) hx hb dX12_hush_1 (by decide) ?_
  obtain ⟨σ1, eσ1, hf⟩ := bd_s hf
  refine bk_put (wf := mw) (σ1 := σ1) (q0 := 0) (ci := 11) (k := 2) (v := .int (0 : Int32)) C hP hD hS wl_X12 tyX12_ok nmX12 rfl rfl (by decide) wa_205 rfl rfl rfl rfl rfl (Nat.le_of_ble_eq_true rfl) (by rw [eσ1]; exact mw_p0_2 g _ _) dX12_hush_2 (fun H locs hP hD hS => ?_)
  refine lv_aload_n hx hb dX12_hush_5 rfl (lv_at hl 0 rfl) ?_
  obtain ⟨q2, hq2, hf⟩ := bi_s hf
  refine bk_VI (wf := mw) (q0 := 0) (ci := 11) (rest := []) [] C hP hD hS hl.1 (c_X12_waitingNow hXo hq2) (cwA_V 0 hts wa_719 wa_716 wa_717 wa_718 wa_5 rfl rfl nd_X12_waitingNow ⟨Nat.le_of_ble_eq_true rfl, Nat.le_of_ble_eq_true rfl⟩) rfl rfl rfl rfl (Nat.le_of_ble_eq_true rfl) dX12_hush_6 ⟨Nat.le_of_ble_eq_true rfl, Nat.le_of_ble_eq_true rfl⟩ (fun H locs hP hD hS => ?_)
  obtain ⟨v3, ev3, hf⟩ := bd_s hf
  rw [← ev3]
  refine lv_istore_n (lv' := [(1, .int v3), (0, .ref (g.2.2 0))]) hx hb dX12_hush_9 rfl hl (by decide) rfl (fun ls hl => ?_)
  refine lv_iload_n hx hb dX12_hush_10 rfl (lv_at hl 0 rfl) ?_
  refine lv_if_ne (tgt := 20) hx hb dX12_hush_11 (by decide) (fun t11 => ?_) (fun t11 => ?_)
  · have hf := (if_neg t11).symm.trans hf
    refine lv_aload_n hx hb dX12_hush_20 rfl (lv_at hl 1 rfl) ?_
    obtain ⟨q4, hq4, hf⟩ := bi_s hf
    refine bk_VV (wf := mw) (q0 := 0) (ci := 11) (rest := []) [] C hP hD hS hl.1 (c_X12_keep hXo hq4) (cwA_V 0 hts wa_891 wa_888 wa_889 wa_890 wa_5 rfl rfl nd_X12_keep ⟨Nat.le_of_ble_eq_true rfl, Nat.le_of_ble_eq_true rfl⟩) rfl rfl rfl rfl (Nat.le_of_ble_eq_true rfl) dX12_hush_21 ⟨Nat.le_of_ble_eq_true rfl, Nat.le_of_ble_eq_true rfl⟩ (fun H locs hP hD hS => ?_)
    refine lv_aload_n hx hb dX12_hush_24 rfl (lv_at hl 1 rfl) ?_
    obtain ⟨q5, hq5, hf⟩ := bi_s hf
    refine bk_VV (wf := mw) (q0 := 0) (ci := 11) (rest := []) [] C hP hD hS hl.1 (c_X12_hushAll hXo hq5) (cwA_V 0 hts wa_990 wa_987 wa_988 wa_989 wa_5 rfl rfl nd_X12_hushAll ⟨Nat.le_of_ble_eq_true rfl, Nat.le_of_ble_eq_true rfl⟩) rfl rfl rfl rfl (Nat.le_of_ble_eq_true rfl) dX12_hush_25 ⟨Nat.le_of_ble_eq_true rfl, Nat.le_of_ble_eq_true rfl⟩ (fun H locs hP hD hS => ?_)
    refine lv_iload_n hx hb dX12_hush_28 rfl (lv_at hl 0 rfl) ?_
    cases hf
    exact bk_iret C hP hD hS rfl dX12_hush_29
  · have hf := (if_pos t11).symm.trans hf
    refine lv_aload_n hx hb dX12_hush_14 rfl (lv_at hl 1 rfl) ?_
    refine lv_iconst (v := (1 : Int32)) hx hb dX12_hush_15 (by decide) ?_
    obtain ⟨q6, hq6, hf⟩ := bi_s hf
    refine bk_VI (wf := mw) (q0 := 0) (ci := 11) (rest := []) [.int (1 : Int32)] C hP hD hS hl.1 (c_X12_refuse hXo hq6) (cwA_V 1 hts wa_887 wa_884 wa_885 wa_886 wa_5 rfl rfl nd_X12_refuse ⟨Nat.le_of_ble_eq_true rfl, Nat.le_of_ble_eq_true rfl⟩) rfl rfl rfl rfl (Nat.le_of_ble_eq_true rfl) dX12_hush_16 ⟨Nat.le_of_ble_eq_true rfl, Nat.le_of_ble_eq_true rfl⟩ (fun H locs hP hD hS => ?_)
    cases hf
    exact bk_iret C hP hD hS rfl dX12_hush_19
theorem c_X12_hush {N : Nat} {σ : Sg} {z : Int32 × Sg} (hX : xOK g X) (hf : f_X12_hush N σ = some z) : MetI l yX12_hush (Cond.code yX12_hush cX12_hush 2 (some .int) :: wsA) rm_X12_hush mw g X [.ref (g.2.2 0)] σ z.1 z.2 :=
  MetI_of hX (by decide) (Nat.le_of_ble_eq_true rfl) (fun p e s m args below meth c A C => b_X12_hush C hf)
-- X12_unpack_17: unpack([II)V
abbrev rm_X12_unpack_17 : Room := { frames := 0, cells := 0, slots := 0, locals := 0 }
theorem nd_X12_unpack : yX12_unpack.cls ≠ "java/lang/invoke/MethodHandle" ∧ yX12_unpack.cls ≠ "java/lang/invoke/VarHandle" ∧ (parseMethodDescriptor yX12_unpack.desc).map (fun d => d.parameters.length) = some 2 := by decide +kernel
def s_X12_unpack_17_h18 (N : Nat) (x2 : Int32) (x3 : Int32) (σ : Sg) : Option (Nat × Int32 × Sg) :=
if (9 : Int32) ≤ x3 then (some (1, 0, σ))
else (if (((x2 + (2 : Int32)) + x3) < 0 ∨ 1520 ≤ ((x2 + (2 : Int32)) + x3).toNatClampNeg) then none else
if (x3 < 0 ∨ 9 ≤ x3.toNatClampNeg) then none else
bd (wr σ 13 (x3.toNatClampNeg) (σ 17 ((x2 + (2 : Int32)) + x3).toNatClampNeg)) fun σ3 =>
if ((((x2 + (2 : Int32)) + (9 : Int32)) + x3) < 0 ∨ 1520 ≤ (((x2 + (2 : Int32)) + (9 : Int32)) + x3).toNatClampNeg) then none else
if (x3 < 0 ∨ 9 ≤ x3.toNatClampNeg) then none else
bd (wr σ3 14 (x3.toNatClampNeg) (σ3 17 (((x2 + (2 : Int32)) + (9 : Int32)) + x3).toNatClampNeg)) fun σ6 =>
if ((((x2 + (2 : Int32)) + (18 : Int32)) + x3) < 0 ∨ 1520 ≤ (((x2 + (2 : Int32)) + (18 : Int32)) + x3).toNatClampNeg) then none else
if (x3 < 0 ∨ 9 ≤ x3.toNatClampNeg) then none else
bd (wr σ6 15 (x3.toNatClampNeg) (σ6 17 (((x2 + (2 : Int32)) + (18 : Int32)) + x3).toNatClampNeg)) fun σ9 =>
if ((((x2 + (2 : Int32)) + (27 : Int32)) + x3) < 0 ∨ 1520 ≤ (((x2 + (2 : Int32)) + (27 : Int32)) + x3).toNatClampNeg) then none else
if (x3 < 0 ∨ 9 ≤ x3.toNatClampNeg) then none else
bd (wr σ9 16 (x3.toNatClampNeg) (σ9 17 (((x2 + (2 : Int32)) + (27 : Int32)) + x3).toNatClampNeg)) fun σ12 =>
bd (x3 + (1 : Int32)) fun v13 =>
some (0, v13, σ12))
set_option maxHeartbeats 4000000 in
set_option maxRecDepth 100000 in
theorem e_X12_unpack_17_h18 {N : Nat} {x2 : Int32} {x3 : Int32} {σ : Sg} {z : Nat × Int32 × Sg} (C : Cx p s m args meth c cX12_unpack 4 none RX12 g A X) (hf : s_X12_unpack_17_h18 N x2 x3 σ = some z) (k0 : z.1 = 0 → Bk mw p l e rm_X12_unpack_17 s m args below meth c 4 g A Q 0 0 18 [(0, .ref (g.2.2 0)), (1, .ref (g.2.2 17)), (2, .int x2), (3, .int z.2.1)] [] z.2.2) (k : ¬ z.1 = 0 → Bk mw p l e rm_X12_unpack_17 s m args below meth c 4 g A Q 0 0 91 [] [] z.2.2) : Bk mw p l e rm_X12_unpack_17 s m args below meth c 4 g A Q 0 0 18 [(0, .ref (g.2.2 0)), (1, .ref (g.2.2 17)), (2, .int x2), (3, .int x3)] [] σ := by
  obtain ⟨hx, hb, hr, hml, hown, hts, hK, hlocks, hXX, hA, hXo⟩ := id C
  intro H locs ls hP hD hS hl
  unfold s_X12_unpack_17_h18 at hf
  refine lv_iload_n hx hb dX12_unpack_18 rfl (lv_at hl 3 rfl) ?_
  refine lv_bipush (v := (9 : Int32)) hx hb dX12_unpack_19 (by decide) ?_
  refine lv_icmp_ge (tgt := 91) hx hb dX12_unpack_21 (by decide) (fun t21 => ?_) (fun t21 => ?_)
  · have hf := (if_pos t21).symm.trans hf
    cases hf
    exact (k (show ¬ (1 : Nat) = 0 by decide)) H locs ls hP hD hS (lv_sub hl [] rfl)
  · have hf := (if_neg t21).symm.trans hf
    refine lv_aload_n hx hb dX12_unpack_24 rfl (lv_at hl 0 rfl) ?_
    refine bk_get (wf := mw) (q0 := 0) (ci := 11) (k := 23) (v := .ref (g.2.2 13)) C hP wl_X12 rfl rfl (by decide) wa_168 rfl rfl dX12_unpack_25 ?_
    refine lv_iload_n hx hb dX12_unpack_28 rfl (lv_at hl 3 rfl) ?_
    refine lv_aload_n hx hb dX12_unpack_29 rfl (lv_at hl 1 rfl) ?_
    refine lv_iload_n hx hb dX12_unpack_30 rfl (lv_at hl 2 rfl) ?_
    refine lv_iconst (v := (2 : Int32)) hx hb dX12_unpack_31 (by decide) ?_
    refine lv_iadd hx hb dX12_unpack_32 ?_
    refine lv_iload_n hx hb dX12_unpack_33 rfl (lv_at hl 3 rfl) ?_
    refine lv_iadd hx hb dX12_unpack_34 ?_
    obtain ⟨g1, hf⟩ := gd_s hf
    refine bk_iald (wf := mw) (q0 := 17) (n := 1520) (j := ((x2 + (2 : Int32)) + x3).toNatClampNeg) C hP rfl g1 rfl dX12_unpack_35 ?_
    obtain ⟨g2, hf⟩ := gd_s hf
    obtain ⟨σ3, eσ3, hf⟩ := bd_s hf
    refine bk_iast (wf := mw) (σ1 := σ3) (q0 := 13) (n := 9) (j := x3.toNatClampNeg) C hP hD hS rfl g2 rfl (by rw [eσ3]; exact mw_a13 g _ _ _) dX12_unpack_36 (fun H locs hP hD hS => ?_)
    refine lv_aload_n hx hb dX12_unpack_37 rfl (lv_at hl 0 rfl) ?_
    refine bk_get (wf := mw) (q0 := 0) (ci := 11) (k := 24) (v := .ref (g.2.2 14)) C hP wl_X12 rfl rfl (by decide) wa_169 rfl rfl dX12_unpack_38 ?_
    refine lv_iload_n hx hb dX12_unpack_41 rfl (lv_at hl 3 rfl) ?_
    refine lv_aload_n hx hb dX12_unpack_42 rfl (lv_at hl 1 rfl) ?_
    refine lv_iload_n hx hb dX12_unpack_43 rfl (lv_at hl 2 rfl) ?_
    refine lv_iconst (v := (2 : Int32)) hx hb dX12_unpack_44 (by decide) ?_
    refine lv_iadd hx hb dX12_unpack_45 ?_
    refine lv_bipush (v := (9 : Int32)) hx hb dX12_unpack_46 (by decide) ?_
    refine lv_iadd hx hb dX12_unpack_48 ?_
    refine lv_iload_n hx hb dX12_unpack_49 rfl (lv_at hl 3 rfl) ?_
    refine lv_iadd hx hb dX12_unpack_50 ?_
    obtain ⟨g4, hf⟩ := gd_s hf
    refine bk_iald (wf := mw) (q0 := 17) (n := 1520) (j := (((x2 + (2 : Int32)) + (9 : Int32)) + x3).toNatClampNeg) C hP rfl g4 rfl dX12_unpack_51 ?_
    obtain ⟨g5, hf⟩ := gd_s hf
    obtain ⟨σ6, eσ6, hf⟩ := bd_s hf
    refine bk_iast (wf := mw) (σ1 := σ6) (q0 := 14) (n := 9) (j := x3.toNatClampNeg) C hP hD hS rfl g5 rfl (by rw [eσ6]; exact mw_a14 g _ _ _) dX12_unpack_52 (fun H locs hP hD hS => ?_)
    refine lv_aload_n hx hb dX12_unpack_53 rfl (lv_at hl 0 rfl) ?_
    refine bk_get (wf := mw) (q0 := 0) (ci := 11) (k := 25) (v := .ref (g.2.2 15)) C hP wl_X12 rfl rfl (by decide) wa_170 rfl rfl dX12_unpack_54 ?_
    refine lv_iload_n hx hb dX12_unpack_57 rfl (lv_at hl 3 rfl) ?_
    refine lv_aload_n hx hb dX12_unpack_58 rfl (lv_at hl 1 rfl) ?_
    refine lv_iload_n hx hb dX12_unpack_59 rfl (lv_at hl 2 rfl) ?_
    refine lv_iconst (v := (2 : Int32)) hx hb dX12_unpack_60 (by decide) ?_
    refine lv_iadd hx hb dX12_unpack_61 ?_
    refine lv_bipush (v := (18 : Int32)) hx hb dX12_unpack_62 (by decide) ?_
    refine lv_iadd hx hb dX12_unpack_64 ?_
    refine lv_iload_n hx hb dX12_unpack_65 rfl (lv_at hl 3 rfl) ?_
    refine lv_iadd hx hb dX12_unpack_66 ?_
    obtain ⟨g7, hf⟩ := gd_s hf
    refine bk_iald (wf := mw) (q0 := 17) (n := 1520) (j := (((x2 + (2 : Int32)) + (18 : Int32)) + x3).toNatClampNeg) C hP rfl g7 rfl dX12_unpack_67 ?_
    obtain ⟨g8, hf⟩ := gd_s hf
    obtain ⟨σ9, eσ9, hf⟩ := bd_s hf
    refine bk_iast (wf := mw) (σ1 := σ9) (q0 := 15) (n := 9) (j := x3.toNatClampNeg) C hP hD hS rfl g8 rfl (by rw [eσ9]; exact mw_a15 g _ _ _) dX12_unpack_68 (fun H locs hP hD hS => ?_)
    refine lv_aload_n hx hb dX12_unpack_69 rfl (lv_at hl 0 rfl) ?_
    refine bk_get (wf := mw) (q0 := 0) (ci := 11) (k := 26) (v := .ref (g.2.2 16)) C hP wl_X12 rfl rfl (by decide) wa_171 rfl rfl dX12_unpack_70 ?_
    refine lv_iload_n hx hb dX12_unpack_73 rfl (lv_at hl 3 rfl) ?_
    refine lv_aload_n hx hb dX12_unpack_74 rfl (lv_at hl 1 rfl) ?_
    refine lv_iload_n hx hb dX12_unpack_75 rfl (lv_at hl 2 rfl) ?_
    refine lv_iconst (v := (2 : Int32)) hx hb dX12_unpack_76 (by decide) ?_
    refine lv_iadd hx hb dX12_unpack_77 ?_
    refine lv_bipush (v := (27 : Int32)) hx hb dX12_unpack_78 (by decide) ?_
    refine lv_iadd hx hb dX12_unpack_80 ?_
    refine lv_iload_n hx hb dX12_unpack_81 rfl (lv_at hl 3 rfl) ?_
    refine lv_iadd hx hb dX12_unpack_82 ?_
    obtain ⟨g10, hf⟩ := gd_s hf
    refine bk_iald (wf := mw) (q0 := 17) (n := 1520) (j := (((x2 + (2 : Int32)) + (27 : Int32)) + x3).toNatClampNeg) C hP rfl g10 rfl dX12_unpack_83 ?_
    obtain ⟨g11, hf⟩ := gd_s hf
    obtain ⟨σ12, eσ12, hf⟩ := bd_s hf
    refine bk_iast (wf := mw) (σ1 := σ12) (q0 := 16) (n := 9) (j := x3.toNatClampNeg) C hP hD hS rfl g11 rfl (by rw [eσ12]; exact mw_a16 g _ _ _) dX12_unpack_84 (fun H locs hP hD hS => ?_)
    obtain ⟨v13, ev13, hf⟩ := bd_s hf
    refine lv_iinc (v := v13) (lv' := [(3, .int v13), (0, .ref (g.2.2 0)), (1, .ref (g.2.2 17)), (2, .int x2)]) hx hb dX12_unpack_85 hl (k := 3) rfl (by rw [ev13]; rfl) (by decide) rfl (fun ls hl => ?_)
    refine lv_goto (tgt := 18) hx hb dX12_unpack_88 (by decide) ?_
    cases hf
    exact k0 rfl H locs ls hP hD hS (lv_sub hl [1, 2, 3, 0] rfl)
theorem lp_X12_unpack_17_h18 {N : Nat} {n : Nat} {x2 : Int32} {x3 : Int32} {σ : Sg} {z : Nat × Int32 × Sg} (C : Cx p s m args meth c cX12_unpack 4 none RX12 g A X) (hz : it (fun q => s_X12_unpack_17_h18 N x2 q.1 q.2) n (x3, σ) = some z) (k : Bk mw p l e rm_X12_unpack_17 s m args below meth c 4 g A Q 0 0 91 [] [] z.2.2) : Bk mw p l e rm_X12_unpack_17 s m args below meth c 4 g A Q 0 0 18 [(0, .ref (g.2.2 0)), (1, .ref (g.2.2 17)), (2, .int x2), (3, .int x3)] [] σ :=
  it_W (S := Int32 × Sg) (fun q => Bk mw p l e rm_X12_unpack_17 s m args below meth c 4 g A Q 0 0 18 [(0, .ref (g.2.2 0)), (1, .ref (g.2.2 17)), (2, .int x2), (3, .int q.1)] [] q.2) (fun z => Bk mw p l e rm_X12_unpack_17 s m args below meth c 4 g A Q 0 0 91 [] [] z.2.2) (fun q z hq k0 k => e_X12_unpack_17_h18 C hq k0 k) n (x3, σ) z hz k
def f_X12_unpack_17 (N : Nat) (x2 : Int32) (σ : Sg) : Option (Sg) :=
if (x2 < 0 ∨ 1520 ≤ x2.toNatClampNeg) then none else
bd (wr σ 0 28 (σ 17 x2.toNatClampNeg)) fun σ15 =>
if ((x2 + (1 : Int32)) < 0 ∨ 1520 ≤ (x2 + (1 : Int32)).toNatClampNeg) then none else
bd (wr σ15 0 29 (σ15 17 (x2 + (1 : Int32)).toNatClampNeg)) fun σ17 =>
(it (fun q => s_X12_unpack_17_h18 N x2 q.1 q.2) N ((0 : Int32), σ17)).bind fun z18 =>
some (z18.2.2)
set_option maxHeartbeats 4000000 in
set_option maxRecDepth 100000 in
theorem b_X12_unpack_17 {N : Nat} {x2 : Int32} {σ : Sg} {z : Sg} (C : Cx p s m args meth c cX12_unpack 4 none RX12 g A X) (hf : f_X12_unpack_17 N x2 σ = some z) : Bk mw p l e rm_X12_unpack_17 s m args below meth c 4 g A (MQ below (qV mw g A z) args s 0 0 A) 0 0 0 [(0, .ref (g.2.2 0)), (1, .ref (g.2.2 17)), (2, .int x2)] [] σ := by
  obtain ⟨hx, hb, hr, hml, hown, hts, hK, hlocks, hXX, hA, hXo⟩ := id C
  intro H locs ls hP hD hS hl
  unfold f_X12_unpack_17 at hf
  refine lv_aload_n hx hb dX12_unpack_0 rfl (lv_at hl 0 rfl) ?_
  refine lv_aload_n hx hb dX12_unpack_1 rfl (lv_at hl 1 rfl) ?_
  refine lv_iload_n hx hb dX12_unpack_2 rfl (lv_at hl 2 rfl) ?_
  obtain ⟨g14, hf⟩ := gd_s hf
  refine bk_iald (wf := mw) (q0 := 17) (n := 1520) (j := x2.toNatClampNeg) C hP rfl g14 rfl dX12_unpack_3 ?_
  obtain ⟨σ15, eσ15, hf⟩ := bd_s hf
  refine bk_put (wf := mw) (σ1 := σ15) (q0 := 0) (ci := 11) (k := 28) (v := .int (σ 17 x2.toNatClampNeg)) C hP hD hS wl_X12 tyX12_ok nmX12 rfl rfl (by decide) wa_613 rfl rfl rfl rfl rfl (Nat.le_of_ble_eq_true rfl) (by rw [eσ15]; exact mw_p0_28 g _ _) dX12_unpack_4 (fun H locs hP hD hS => ?_)
  refine lv_aload_n hx hb dX12_unpack_7 rfl (lv_at hl 0 rfl) ?_
  refine lv_aload_n hx hb dX12_unpack_8 rfl (lv_at hl 1 rfl) ?_
  refine lv_iload_n hx hb dX12_unpack_9 rfl (lv_at hl 2 rfl) ?_
  refine lv_iconst (v := (1 : Int32)) hx hb dX12_unpack_10 (by decide) ?_
  refine lv_iadd hx hb dX12_unpack_11 ?_
  obtain ⟨g16, hf⟩ := gd_s hf
  refine bk_iald (wf := mw) (q0 := 17) (n := 1520) (j := (x2 + (1 : Int32)).toNatClampNeg) C hP rfl g16 rfl dX12_unpack_12 ?_
  obtain ⟨σ17, eσ17, hf⟩ := bd_s hf
  refine bk_put (wf := mw) (σ1 := σ17) (q0 := 0) (ci := 11) (k := 29) (v := .int (σ15 17 (x2 + (1 : Int32)).toNatClampNeg)) C hP hD hS wl_X12 tyX12_ok nmX12 rfl rfl (by decide) wa_614 rfl rfl rfl rfl rfl (Nat.le_of_ble_eq_true rfl) (by rw [eσ17]; exact mw_p0_29 g _ _) dX12_unpack_13 (fun H locs hP hD hS => ?_)
  refine lv_iconst (v := (0 : Int32)) hx hb dX12_unpack_16 (by decide) ?_
  refine lv_istore_n (lv' := [(3, .int (0 : Int32)), (0, .ref (g.2.2 0)), (1, .ref (g.2.2 17)), (2, .int x2)]) hx hb dX12_unpack_17 rfl hl (by decide) rfl (fun ls hl => ?_)
  obtain ⟨z18, hz18, hf⟩ := bi_s hf
  refine lp_X12_unpack_17_h18 C hz18 ?_ H locs ls hP hD hS (lv_sub hl [1, 2, 3, 0] rfl)
  intro H locs ls hP hD hS hl
  cases hf
  exact bk_vret C hP hD hS rfl dX12_unpack_91
theorem c_X12_unpack_17 {N : Nat} {x2 : Int32} {σ : Sg} {z : Sg} (hX : xOK g X) (hf : f_X12_unpack_17 N x2 σ = some z) : MetV l yX12_unpack (Cond.code yX12_unpack cX12_unpack 4 none :: wsA) rm_X12_unpack_17 mw g X [.ref (g.2.2 0), .ref (g.2.2 17), .int x2] σ z :=
  MetV_of hX (by decide) (Nat.le_of_ble_eq_true rfl) (fun p e s m args below meth c A C => b_X12_unpack_17 C hf)
-- X12_undo: undo()I
abbrev rm_X12_undo : Room := { frames := 1, cells := 0, slots := 0, locals := 23 }
theorem nd_X12_undo : yX12_undo.cls ≠ "java/lang/invoke/MethodHandle" ∧ yX12_undo.cls ≠ "java/lang/invoke/VarHandle" ∧ (parseMethodDescriptor yX12_undo.desc).map (fun d => d.parameters.length) = some 0 := by decide +kernel
def f_X12_undo (N : Nat) (σ : Sg) : Option (Int32 × Sg) :=
bd (wr σ 0 2 (0 : Int32)) fun σ1 =>
if (σ1 0 30) = 0 then (some ((-1 : Int32), σ1))
else (bd (wr σ1 0 30 ((σ1 0 30) - (1 : Int32))) fun σ2 =>
(f_X12_unpack_17 N ((38 : Int32) * (σ2 0 30)) σ2).bind fun q3 =>
some ((q3 0 30), q3))
set_option maxHeartbeats 4000000 in
set_option maxRecDepth 100000 in
theorem b_X12_undo {N : Nat} {σ : Sg} {z : Int32 × Sg} (C : Cx p s m args meth c cX12_undo 1 (some .int) RX12 g A X) (hf : f_X12_undo N σ = some z) : Bk mw p l e rm_X12_undo s m args below meth c 1 g A (MQ below (qI mw g A z.1 z.2) args s 0 0 A) 0 0 0 [(0, .ref (g.2.2 0))] [] σ := by
  obtain ⟨hx, hb, hr, hml, hown, hts, hK, hlocks, hXX, hA, hXo⟩ := id C
  intro H locs ls hP hD hS hl
  unfold f_X12_undo at hf
  refine lv_aload_n hx hb dX12_undo_0 rfl (lv_at hl 0 rfl) ?_
  refine lv_iconst (v := (0 : Int32)) hx hb dX12_undo_1 (by decide) ?_
  obtain ⟨σ1, eσ1, hf⟩ := bd_s hf
  refine bk_put (wf := mw) (σ1 := σ1) (q0 := 0) (ci := 11) (k := 2) (v := .int (0 : Int32)) C hP hD hS wl_X12 tyX12_ok nmX12 rfl rfl (by decide) wa_205 rfl rfl rfl rfl rfl (Nat.le_of_ble_eq_true rfl) (by rw [eσ1]; exact mw_p0_2 g _ _) dX12_undo_2 (fun H locs hP hD hS => ?_)
  refine lv_aload_n hx hb dX12_undo_5 rfl (lv_at hl 0 rfl) ?_
  refine bk_get (wf := mw) (q0 := 0) (ci := 11) (k := 30) (v := .int (σ1 0 30)) C hP wl_X12 rfl rfl (by decide) wa_615 rfl rfl dX12_undo_6 ?_
  refine lv_if_ne (tgt := 14) hx hb dX12_undo_9 (by decide) (fun t9 => ?_) (fun t9 => ?_)
  · have hf := (if_neg t9).symm.trans hf
    refine lv_aload_n hx hb dX12_undo_14 rfl (lv_at hl 0 rfl) ?_
    refine lv_dup hx hb dX12_undo_15 rfl ?_
    refine bk_get (wf := mw) (q0 := 0) (ci := 11) (k := 30) (v := .int (σ1 0 30)) C hP wl_X12 rfl rfl (by decide) wa_615 rfl rfl dX12_undo_16 ?_
    refine lv_iconst (v := (1 : Int32)) hx hb dX12_undo_19 (by decide) ?_
    refine lv_isub hx hb dX12_undo_20 ?_
    obtain ⟨σ2, eσ2, hf⟩ := bd_s hf
    refine bk_put (wf := mw) (σ1 := σ2) (q0 := 0) (ci := 11) (k := 30) (v := .int ((σ1 0 30) - (1 : Int32))) C hP hD hS wl_X12 tyX12_ok nmX12 rfl rfl (by decide) wa_615 rfl rfl rfl rfl rfl (Nat.le_of_ble_eq_true rfl) (by rw [eσ2]; exact mw_p0_30 g _ _) dX12_undo_21 (fun H locs hP hD hS => ?_)
    refine lv_aload_n hx hb dX12_undo_24 rfl (lv_at hl 0 rfl) ?_
    refine lv_aload_n hx hb dX12_undo_25 rfl (lv_at hl 0 rfl) ?_
    refine bk_get (wf := mw) (q0 := 0) (ci := 11) (k := 27) (v := .ref (g.2.2 17)) C hP wl_X12 rfl rfl (by decide) wa_172 rfl rfl dX12_undo_26 ?_
    refine lv_bipush (v := (38 : Int32)) hx hb dX12_undo_29 (by decide) ?_
    refine lv_aload_n hx hb dX12_undo_31 rfl (lv_at hl 0 rfl) ?_
    refine bk_get (wf := mw) (q0 := 0) (ci := 11) (k := 30) (v := .int (σ2 0 30)) C hP wl_X12 rfl rfl (by decide) wa_615 rfl rfl dX12_undo_32 ?_
    refine lv_imul hx hb dX12_undo_35 ?_
    obtain ⟨q3, hq3, hf⟩ := bi_s hf
    refine bk_VV (wf := mw) (q0 := 0) (ci := 11) (rest := []) [.ref (g.2.2 17), .int ((38 : Int32) * (σ2 0 30))] C hP hD hS hl.1 (c_X12_unpack_17 hXo hq3) (cwA_V 2 hts wa_1010 wa_1007 wa_1008 wa_1009 wa_5 rfl rfl nd_X12_unpack ⟨Nat.le_of_ble_eq_true rfl, Nat.le_of_ble_eq_true rfl⟩) rfl rfl rfl rfl (Nat.le_of_ble_eq_true rfl) dX12_undo_36 ⟨Nat.le_of_ble_eq_true rfl, Nat.le_of_ble_eq_true rfl⟩ (fun H locs hP hD hS => ?_)
    refine lv_aload_n hx hb dX12_undo_39 rfl (lv_at hl 0 rfl) ?_
    refine bk_get (wf := mw) (q0 := 0) (ci := 11) (k := 30) (v := .int (q3 0 30)) C hP wl_X12 rfl rfl (by decide) wa_615 rfl rfl dX12_undo_40 ?_
    cases hf
    exact bk_iret C hP hD hS rfl dX12_undo_43
  · have hf := (if_pos t9).symm.trans hf
    refine lv_iconst (v := (-1 : Int32)) hx hb dX12_undo_12 (by decide) ?_
    cases hf
    exact bk_iret C hP hD hS rfl dX12_undo_13
theorem c_X12_undo {N : Nat} {σ : Sg} {z : Int32 × Sg} (hX : xOK g X) (hf : f_X12_undo N σ = some z) : MetI l yX12_undo (Cond.code yX12_undo cX12_undo 1 (some .int) :: wsA) rm_X12_undo mw g X [.ref (g.2.2 0)] σ z.1 z.2 :=
  MetI_of hX (by decide) (Nat.le_of_ble_eq_true rfl) (fun p e s m args below meth c A C => b_X12_undo C hf)
end GEN
