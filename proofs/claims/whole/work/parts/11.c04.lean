section GEN
variable {p : Program} {l : Launch} {e : Env} {s : State} {m : MethodId} {args : Array Value} {below : List Frame} {meth : Method} {c : Code} {g : WG} {A : Nat → Prop} {X : Xt} {Q : State → Prop}
-- X11_copyFarms_57_23: copyFarms([I[I)V
abbrev rm_X11_copyFarms_57_23 : Room := { frames := 1, cells := 0, slots := 0, locals := 80 }
def f_X11_copyFarms_57_23 (N : Nat) (σ : Sg) : Option (Sg) :=
bd (wrR σ 23 (va_cpy (σ 57) (σ 23) 0 0 9)) fun σ1 =>
some σ1
set_option maxHeartbeats 4000000 in
set_option maxRecDepth 100000 in
theorem b_X11_copyFarms_57_23 {N : Nat} {σ : Sg} {z : Sg} (C : Cx p s m args meth c cX11_copyFarms 2 none RX11 g A X) (hf : f_X11_copyFarms_57_23 N σ = some z) : Bk cw p l e rm_X11_copyFarms_57_23 s m args below meth c 2 g A (MQ below (qV cw g A z) args s 0 0 A) 0 0 0 [(0, .ref (g.2.2 57)), (1, .ref (g.2.2 23))] [] σ := by
  obtain ⟨hx, hb, hr, hml, hown, hts, hK, hlocks, hXX, hA, hXo⟩ := id C
  intro H locs ls hP hD hS hl
  unfold f_X11_copyFarms_57_23 at hf
  refine lv_aload_n hx hb dX11_copyFarms_0 rfl (lv_at hl 0 rfl) ?_
  refine lv_iconst (v := (0 : Int32)) hx hb dX11_copyFarms_1 (by decide) ?_
  refine lv_aload_n hx hb dX11_copyFarms_2 rfl (lv_at hl 1 rfl) ?_
  refine lv_iconst (v := (0 : Int32)) hx hb dX11_copyFarms_3 (by decide) ?_
  refine lv_bipush (v := (9 : Int32)) hx hb dX11_copyFarms_4 (by decide) ?_
  obtain ⟨σ1, eσ1, hf⟩ := bd_s hf
  refine bk_copy (wf := cw) (σ1 := σ1) (q0 := 57) (q1 := 23) (n0 := 9) (n1 := 9) (js := 0) (jd := 0) (jn := 9) C hP hD hS hl.1 wa_446 wa_441 wa_442 wa_443 rfl rfl (by decide) (by decide) (by decide) (by decide) (by decide) (by decide) (Nat.le_of_ble_eq_true rfl) (Nat.le_of_ble_eq_true rfl) (Nat.le_of_ble_eq_true rfl) (Nat.le_of_ble_eq_true rfl) (by rw [eσ1]; exact cw_r23 g _ _) dX11_copyFarms_6 (fun H locs hP hD hS => ?_)
  cases hf
  exact bk_vret C hP hD hS rfl dX11_copyFarms_9
theorem c_X11_copyFarms_57_23 {N : Nat} {σ : Sg} {z : Sg} (hX : xOK g X) (hf : f_X11_copyFarms_57_23 N σ = some z) : MetV l yX11_copyFarms (Cond.code yX11_copyFarms cX11_copyFarms 2 none :: wsA) rm_X11_copyFarms_57_23 cw g X [.ref (g.2.2 57), .ref (g.2.2 23)] σ z :=
  MetV_of hX (by decide) (Nat.le_of_ble_eq_true rfl) (fun p e s m args below meth c A C => b_X11_copyFarms_57_23 C hf)
-- X11_copyFarms_58_24: copyFarms([I[I)V
abbrev rm_X11_copyFarms_58_24 : Room := { frames := 1, cells := 0, slots := 0, locals := 80 }
def f_X11_copyFarms_58_24 (N : Nat) (σ : Sg) : Option (Sg) :=
bd (wrR σ 24 (va_cpy (σ 58) (σ 24) 0 0 9)) fun σ1 =>
some σ1
set_option maxHeartbeats 4000000 in
set_option maxRecDepth 100000 in
theorem b_X11_copyFarms_58_24 {N : Nat} {σ : Sg} {z : Sg} (C : Cx p s m args meth c cX11_copyFarms 2 none RX11 g A X) (hf : f_X11_copyFarms_58_24 N σ = some z) : Bk cw p l e rm_X11_copyFarms_58_24 s m args below meth c 2 g A (MQ below (qV cw g A z) args s 0 0 A) 0 0 0 [(0, .ref (g.2.2 58)), (1, .ref (g.2.2 24))] [] σ := by
  obtain ⟨hx, hb, hr, hml, hown, hts, hK, hlocks, hXX, hA, hXo⟩ := id C
  intro H locs ls hP hD hS hl
  unfold f_X11_copyFarms_58_24 at hf
  refine lv_aload_n hx hb dX11_copyFarms_0 rfl (lv_at hl 0 rfl) ?_
  refine lv_iconst (v := (0 : Int32)) hx hb dX11_copyFarms_1 (by decide) ?_
  refine lv_aload_n hx hb dX11_copyFarms_2 rfl (lv_at hl 1 rfl) ?_
  refine lv_iconst (v := (0 : Int32)) hx hb dX11_copyFarms_3 (by decide) ?_
  refine lv_bipush (v := (9 : Int32)) hx hb dX11_copyFarms_4 (by decide) ?_
  obtain ⟨σ1, eσ1, hf⟩ := bd_s hf
  refine bk_copy (wf := cw) (σ1 := σ1) (q0 := 58) (q1 := 24) (n0 := 9) (n1 := 9) (js := 0) (jd := 0) (jn := 9) C hP hD hS hl.1 wa_446 wa_441 wa_442 wa_443 rfl rfl (by decide) (by decide) (by decide) (by decide) (by decide) (by decide) (Nat.le_of_ble_eq_true rfl) (Nat.le_of_ble_eq_true rfl) (Nat.le_of_ble_eq_true rfl) (Nat.le_of_ble_eq_true rfl) (by rw [eσ1]; exact cw_r24 g _ _) dX11_copyFarms_6 (fun H locs hP hD hS => ?_)
  cases hf
  exact bk_vret C hP hD hS rfl dX11_copyFarms_9
theorem c_X11_copyFarms_58_24 {N : Nat} {σ : Sg} {z : Sg} (hX : xOK g X) (hf : f_X11_copyFarms_58_24 N σ = some z) : MetV l yX11_copyFarms (Cond.code yX11_copyFarms cX11_copyFarms 2 none :: wsA) rm_X11_copyFarms_58_24 cw g X [.ref (g.2.2 58), .ref (g.2.2 24)] σ z :=
  MetV_of hX (by decide) (Nat.le_of_ble_eq_true rfl) (fun p e s m args below meth c A C => b_X11_copyFarms_58_24 C hf)
-- X11_copyFarms_59_25: copyFarms([I[I)V
abbrev rm_X11_copyFarms_59_25 : Room := { frames := 1, cells := 0, slots := 0, locals := 80 }
def f_X11_copyFarms_59_25 (N : Nat) (σ : Sg) : Option (Sg) :=
bd (wrR σ 25 (va_cpy (σ 59) (σ 25) 0 0 9)) fun σ1 =>
some σ1
set_option maxHeartbeats 4000000 in
set_option maxRecDepth 100000 in
theorem b_X11_copyFarms_59_25 {N : Nat} {σ : Sg} {z : Sg} (C : Cx p s m args meth c cX11_copyFarms 2 none RX11 g A X) (hf : f_X11_copyFarms_59_25 N σ = some z) : Bk cw p l e rm_X11_copyFarms_59_25 s m args below meth c 2 g A (MQ below (qV cw g A z) args s 0 0 A) 0 0 0 [(0, .ref (g.2.2 59)), (1, .ref (g.2.2 25))] [] σ := by
  obtain ⟨hx, hb, hr, hml, hown, hts, hK, hlocks, hXX, hA, hXo⟩ := id C
  intro H locs ls hP hD hS hl
  unfold f_X11_copyFarms_59_25 at hf
  refine lv_aload_n hx hb dX11_copyFarms_0 rfl (lv_at hl 0 rfl) ?_
  refine lv_iconst (v := (0 : Int32)) hx hb dX11_copyFarms_1 (by decide) ?_
  refine lv_aload_n hx hb dX11_copyFarms_2 rfl (lv_at hl 1 rfl) ?_
  refine lv_iconst (v := (0 : Int32)) hx hb dX11_copyFarms_3 (by decide) ?_
  refine lv_bipush (v := (9 : Int32)) hx hb dX11_copyFarms_4 (by decide) ?_
  obtain ⟨σ1, eσ1, hf⟩ := bd_s hf
  refine bk_copy (wf := cw) (σ1 := σ1) (q0 := 59) (q1 := 25) (n0 := 9) (n1 := 9) (js := 0) (jd := 0) (jn := 9) C hP hD hS hl.1 wa_446 wa_441 wa_442 wa_443 rfl rfl (by decide) (by decide) (by decide) (by decide) (by decide) (by decide) (Nat.le_of_ble_eq_true rfl) (Nat.le_of_ble_eq_true rfl) (Nat.le_of_ble_eq_true rfl) (Nat.le_of_ble_eq_true rfl) (by rw [eσ1]; exact cw_r25 g _ _) dX11_copyFarms_6 (fun H locs hP hD hS => ?_)
  cases hf
  exact bk_vret C hP hD hS rfl dX11_copyFarms_9
theorem c_X11_copyFarms_59_25 {N : Nat} {σ : Sg} {z : Sg} (hX : xOK g X) (hf : f_X11_copyFarms_59_25 N σ = some z) : MetV l yX11_copyFarms (Cond.code yX11_copyFarms cX11_copyFarms 2 none :: wsA) rm_X11_copyFarms_59_25 cw g X [.ref (g.2.2 59), .ref (g.2.2 25)] σ z :=
  MetV_of hX (by decide) (Nat.le_of_ble_eq_true rfl) (fun p e s m args below meth c A C => b_X11_copyFarms_59_25 C hf)
-- X11_copyFarms_60_26: copyFarms([I[I)V
abbrev rm_X11_copyFarms_60_26 : Room := { frames := 1, cells := 0, slots := 0, locals := 80 }
def f_X11_copyFarms_60_26 (N : Nat) (σ : Sg) : Option (Sg) :=
bd (wrR σ 26 (va_cpy (σ 60) (σ 26) 0 0 9)) fun σ1 =>
some σ1
set_option maxHeartbeats 4000000 in
set_option maxRecDepth 100000 in
theorem b_X11_copyFarms_60_26 {N : Nat} {σ : Sg} {z : Sg} (C : Cx p s m args meth c cX11_copyFarms 2 none RX11 g A X) (hf : f_X11_copyFarms_60_26 N σ = some z) : Bk cw p l e rm_X11_copyFarms_60_26 s m args below meth c 2 g A (MQ below (qV cw g A z) args s 0 0 A) 0 0 0 [(0, .ref (g.2.2 60)), (1, .ref (g.2.2 26))] [] σ := by
  obtain ⟨hx, hb, hr, hml, hown, hts, hK, hlocks, hXX, hA, hXo⟩ := id C
  intro H locs ls hP hD hS hl
  unfold f_X11_copyFarms_60_26 at hf
  refine lv_aload_n hx hb dX11_copyFarms_0 rfl (lv_at hl 0 rfl) ?_
  refine lv_iconst (v := (0 : Int32)) hx hb dX11_copyFarms_1 (by decide) ?_
  refine lv_aload_n hx hb dX11_copyFarms_2 rfl (lv_at hl 1 rfl) ?_
  refine lv_iconst (v := (0 : Int32)) hx hb dX11_copyFarms_3 (by decide) ?_
  refine lv_bipush (v := (9 : Int32)) hx hb dX11_copyFarms_4 (by decide) ?_
  obtain ⟨σ1, eσ1, hf⟩ := bd_s hf
  refine bk_copy (wf := cw) (σ1 := σ1) (q0 := 60) (q1 := 26) (n0 := 9) (n1 := 9) (js := 0) (jd := 0) (jn := 9) C hP hD hS hl.1 wa_446 wa_441 wa_442 wa_443 rfl rfl (by decide) (by decide) (by decide) (by decide) (by decide) (by decide) (Nat.le_of_ble_eq_true rfl) (Nat.le_of_ble_eq_true rfl) (Nat.le_of_ble_eq_true rfl) (Nat.le_of_ble_eq_true rfl) (by rw [eσ1]; exact cw_r26 g _ _) dX11_copyFarms_6 (fun H locs hP hD hS => ?_)
  cases hf
  exact bk_vret C hP hD hS rfl dX11_copyFarms_9
theorem c_X11_copyFarms_60_26 {N : Nat} {σ : Sg} {z : Sg} (hX : xOK g X) (hf : f_X11_copyFarms_60_26 N σ = some z) : MetV l yX11_copyFarms (Cond.code yX11_copyFarms cX11_copyFarms 2 none :: wsA) rm_X11_copyFarms_60_26 cw g X [.ref (g.2.2 60), .ref (g.2.2 26)] σ z :=
  MetV_of hX (by decide) (Nat.le_of_ble_eq_true rfl) (fun p e s m args below meth c A C => b_X11_copyFarms_60_26 C hf)
-- X7_copy_22_56: copy(LNodPost$State;)V
abbrev rm_X7_copy_22_56 : Room := { frames := 2, cells := 0, slots := 0, locals := 101 }
def f_X7_copy_22_56 (N : Nat) (σ : Sg) : Option (Sg) :=
bd (wr σ 22 0 (σ 56 0)) fun σ1 =>
bd (wr σ1 22 1 (σ1 56 1)) fun σ2 =>
(f_X11_copyFarms_57_23 N σ2).bind fun q3 =>
(f_X11_copyFarms_58_24 N q3).bind fun q4 =>
(f_X11_copyFarms_59_25 N q4).bind fun q5 =>
(f_X11_copyFarms_60_26 N q5).bind fun q6 =>
some q6
set_option maxHeartbeats 4000000 in
set_option maxRecDepth 100000 in
theorem b_X7_copy_22_56 {N : Nat} {σ : Sg} {z : Sg} (C : Cx p s m args meth c cX7_copy 2 none RX7 g A X) (hf : f_X7_copy_22_56 N σ = some z) : Bk cw p l e rm_X7_copy_22_56 s m args below meth c 2 g A (MQ below (qV cw g A z) args s 0 0 A) 0 0 0 [(0, .ref (g.2.2 22)), (1, .ref (g.2.2 56))] [] σ := by
  obtain ⟨hx, hb, hr, hml, hown, hts, hK, hlocks, hXX, hA, hXo⟩ := id C
  intro H locs ls hP hD hS hl
  unfold f_X7_copy_22_56 at hf
  refine lv_aload_n hx hb dX7_copy_0 rfl (lv_at hl 0 rfl) ?_
  refine lv_aload_n hx hb dX7_copy_1 rfl (lv_at hl 1 rfl) ?_
  refine bk_get (wf := cw) (q0 := 56) (ci := 7) (k := 0) (v := .int (σ 56 0)) C hP wl_X7 rfl rfl (by decide) wa_107 rfl rfl dX7_copy_2 ?_
  obtain ⟨σ1, eσ1, hf⟩ := bd_s hf
  refine bk_put (wf := cw) (σ1 := σ1) (q0 := 22) (ci := 7) (k := 0) (v := .int (σ 56 0)) C hP hD hS wl_X7 tyX7_ok nmX7 rfl rfl (by decide) wa_107 rfl rfl rfl rfl rfl (Nat.le_of_ble_eq_true rfl) (by rw [eσ1]; exact cw_p22_0 g _ _) dX7_copy_5 (fun H locs hP hD hS => ?_)
  refine lv_aload_n hx hb dX7_copy_8 rfl (lv_at hl 0 rfl) ?_
  refine lv_aload_n hx hb dX7_copy_9 rfl (lv_at hl 1 rfl) ?_
  refine bk_get (wf := cw) (q0 := 56) (ci := 7) (k := 1) (v := .int (σ1 56 1)) C hP wl_X7 rfl rfl (by decide) wa_108 rfl rfl dX7_copy_10 ?_
  obtain ⟨σ2, eσ2, hf⟩ := bd_s hf
  refine bk_put (wf := cw) (σ1 := σ2) (q0 := 22) (ci := 7) (k := 1) (v := .int (σ1 56 1)) C hP hD hS wl_X7 tyX7_ok nmX7 rfl rfl (by decide) wa_108 rfl rfl rfl rfl rfl (Nat.le_of_ble_eq_true rfl) (by rw [eσ2]; exact cw_p22_1 g _ _) dX7_copy_13 (fun H locs hP hD hS => ?_)
  refine lv_aload_n hx hb dX7_copy_16 rfl (lv_at hl 1 rfl) ?_
  refine bk_get (wf := cw) (q0 := 56) (ci := 7) (k := 2) (v := .ref (g.2.2 57)) C hP wl_X7 rfl rfl (by decide) wa_109 rfl rfl dX7_copy_17 ?_
  refine lv_aload_n hx hb dX7_copy_20 rfl (lv_at hl 0 rfl) ?_
  refine bk_get (wf := cw) (q0 := 22) (ci := 7) (k := 2) (v := .ref (g.2.2 23)) C hP wl_X7 rfl rfl (by decide) wa_109 rfl rfl dX7_copy_21 ?_
  obtain ⟨q3, hq3, hf⟩ := bi_s hf
  refine bk_NV (wf := cw) (rest := []) [.ref (g.2.2 57), .ref (g.2.2 23)] C hP hD hS hl.1 (c_X11_copyFarms_57_23 hXo hq3) wa_445 wa_444 wa_2 (hXo.2.2.2 _ _ _ hXX).1.1 rfl rfl nd_X11_copyFarms ⟨Nat.le_of_ble_eq_true rfl, Nat.le_of_ble_eq_true rfl⟩ rfl rfl (Nat.le_of_ble_eq_true rfl) dX7_copy_24 ⟨Nat.le_of_ble_eq_true rfl, Nat.le_of_ble_eq_true rfl⟩ (fun H locs hP hD hS => ?_)
  refine lv_aload_n hx hb dX7_copy_27 rfl (lv_at hl 1 rfl) ?_
  refine bk_get (wf := cw) (q0 := 56) (ci := 7) (k := 3) (v := .ref (g.2.2 58)) C hP wl_X7 rfl rfl (by decide) wa_110 rfl rfl dX7_copy_28 ?_
  refine lv_aload_n hx hb dX7_copy_31 rfl (lv_at hl 0 rfl) ?_
  refine bk_get (wf := cw) (q0 := 22) (ci := 7) (k := 3) (v := .ref (g.2.2 24)) C hP wl_X7 rfl rfl (by decide) wa_110 rfl rfl dX7_copy_32 ?_
  obtain ⟨q4, hq4, hf⟩ := bi_s hf
  refine bk_NV (wf := cw) (rest := []) [.ref (g.2.2 58), .ref (g.2.2 24)] C hP hD hS hl.1 (c_X11_copyFarms_58_24 hXo hq4) wa_445 wa_444 wa_2 (hXo.2.2.2 _ _ _ hXX).1.1 rfl rfl nd_X11_copyFarms ⟨Nat.le_of_ble_eq_true rfl, Nat.le_of_ble_eq_true rfl⟩ rfl rfl (Nat.le_of_ble_eq_true rfl) dX7_copy_35 ⟨Nat.le_of_ble_eq_true rfl, Nat.le_of_ble_eq_true rfl⟩ (fun H locs hP hD hS => ?_)
  refine lv_aload_n hx hb dX7_copy_38 rfl (lv_at hl 1 rfl) ?_
  refine bk_get (wf := cw) (q0 := 56) (ci := 7) (k := 4) (v := .ref (g.2.2 59)) C hP wl_X7 rfl rfl (by decide) wa_111 rfl rfl dX7_copy_39 ?_
  refine lv_aload_n hx hb dX7_copy_42 rfl (lv_at hl 0 rfl) ?_
  refine bk_get (wf := cw) (q0 := 22) (ci := 7) (k := 4) (v := .ref (g.2.2 25)) C hP wl_X7 rfl rfl (by decide) wa_111 rfl rfl dX7_copy_43 ?_
  obtain ⟨q5, hq5, hf⟩ := bi_s hf
  refine bk_NV (wf := cw) (rest := []) [.ref (g.2.2 59), .ref (g.2.2 25)] C hP hD hS hl.1 (c_X11_copyFarms_59_25 hXo hq5) wa_445 wa_444 wa_2 (hXo.2.2.2 _ _ _ hXX).1.1 rfl rfl nd_X11_copyFarms ⟨Nat.le_of_ble_eq_true rfl, Nat.le_of_ble_eq_true rfl⟩ rfl rfl (Nat.le_of_ble_eq_true rfl) dX7_copy_46 ⟨Nat.le_of_ble_eq_true rfl, Nat.le_of_ble_eq_true rfl⟩ (fun H locs hP hD hS => ?_)
  refine lv_aload_n hx hb dX7_copy_49 rfl (lv_at hl 1 rfl) ?_
  refine bk_get (wf := cw) (q0 := 56) (ci := 7) (k := 5) (v := .ref (g.2.2 60)) C hP wl_X7 rfl rfl (by decide) wa_112 rfl rfl dX7_copy_50 ?_
  refine lv_aload_n hx hb dX7_copy_53 rfl (lv_at hl 0 rfl) ?_
  refine bk_get (wf := cw) (q0 := 22) (ci := 7) (k := 5) (v := .ref (g.2.2 26)) C hP wl_X7 rfl rfl (by decide) wa_112 rfl rfl dX7_copy_54 ?_
  obtain ⟨q6, hq6, hf⟩ := bi_s hf
  refine bk_NV (wf := cw) (rest := []) [.ref (g.2.2 60), .ref (g.2.2 26)] C hP hD hS hl.1 (c_X11_copyFarms_60_26 hXo hq6) wa_445 wa_444 wa_2 (hXo.2.2.2 _ _ _ hXX).1.1 rfl rfl nd_X11_copyFarms ⟨Nat.le_of_ble_eq_true rfl, Nat.le_of_ble_eq_true rfl⟩ rfl rfl (Nat.le_of_ble_eq_true rfl) dX7_copy_57 ⟨Nat.le_of_ble_eq_true rfl, Nat.le_of_ble_eq_true rfl⟩ (fun H locs hP hD hS => ?_)
  cases hf
  exact bk_vret C hP hD hS rfl dX7_copy_60
theorem c_X7_copy_22_56 {N : Nat} {σ : Sg} {z : Sg} (hX : xOK g X) (hf : f_X7_copy_22_56 N σ = some z) : MetV l yX7_copy (Cond.code yX7_copy cX7_copy 2 none :: wsA) rm_X7_copy_22_56 cw g X [.ref (g.2.2 22), .ref (g.2.2 56)] σ z :=
  MetV_of hX (by decide) (Nat.le_of_ble_eq_true rfl) (fun p e s m args below meth c A C => b_X7_copy_22_56 C hf)
-- X11_ticks_0: ticks(I)I
abbrev rm_X11_ticks_0 : Room := { frames := 6, cells := 0, slots := 0, locals := 144 }
theorem nd_X11_ticks : yX11_ticks.cls ≠ "java/lang/invoke/MethodHandle" ∧ yX11_ticks.cls ≠ "java/lang/invoke/VarHandle" ∧ (parseMethodDescriptor yX11_ticks.desc).map (fun d => d.parameters.length) = some 1 := by decide +kernel
def s_X11_ticks_0_h67 (N : Nat) (x1 : Int32) (x2 : Int32) (σ : Sg) : Option (Nat × Int32 × Sg) :=
if x1 ≤ x2 then (some (1, 0, σ))
else ((f_X2_go_55 N σ).bind fun q1 =>
bd (x2 + (1 : Int32)) fun v2 =>
some (0, v2, (q1.2)))
set_option maxHeartbeats 4000000 in
set_option maxRecDepth 100000 in
theorem e_X11_ticks_0_h67 {N : Nat} {x1 : Int32} {x2 : Int32} {σ : Sg} {z : Nat × Int32 × Sg} (C : Cx p s m args meth c cX11_ticks 3 (some .int) RX11 g A X) (hf : s_X11_ticks_0_h67 N x1 x2 σ = some z) (k0 : z.1 = 0 → Bk cw p l e rm_X11_ticks_0 s m args below meth c 3 g A Q 0 0 67 [(0, .ref (g.2.2 0)), (1, .int x1), (2, .int z.2.1)] [] z.2.2) (k : ¬ z.1 = 0 → Bk cw p l e rm_X11_ticks_0 s m args below meth c 3 g A Q 0 0 86 [(0, .ref (g.2.2 0))] [] z.2.2) : Bk cw p l e rm_X11_ticks_0 s m args below meth c 3 g A Q 0 0 67 [(0, .ref (g.2.2 0)), (1, .int x1), (2, .int x2)] [] σ := by
  obtain ⟨hx, hb, hr, hml, hown, hts, hK, hlocks, hXX, hA, hXo⟩ := id C
  intro H locs ls hP hD hS hl
  unfold s_X11_ticks_0_h67 at hf
  refine lv_iload_n hx hb dX11_ticks_67 rfl (lv_at hl 2 rfl) ?_
  refine lv_iload_n hx hb dX11_ticks_68 rfl (lv_at hl 1 rfl) ?_
  refine lv_icmp_ge (tgt := 86) hx hb dX11_ticks_69 (by decide) (fun t69 => ?_) (fun t69 => ?_)
  · have hf := (if_pos t69).symm.trans hf
    cases hf
    exact (k (show ¬ (1 : Nat) = 0 by decide)) H locs ls hP hD hS (lv_sub hl [0] rfl)
  · have hf := (if_neg t69).symm.trans hf
    refine lv_aload_n hx hb dX11_ticks_72 rfl (lv_at hl 0 rfl) ?_
    refine bk_get (wf := cw) (q0 := 0) (ci := 10) (k := 10) (v := .ref (g.2.2 55)) C hP wl_X11 rfl rfl (by decide) wa_42 rfl rfl dX11_ticks_73 ?_
    obtain ⟨q1, hq1, hf⟩ := bi_s hf
    refine bk_VI (wf := cw) (q0 := 55) (ci := 2) (rest := []) [] C hP hD hS hl.1 (c_X2_go_55 hXo hq1) (cwA_V 0 hts wa_833 wa_830 wa_831 wa_832 wa_41 rfl rfl nd_X2_go ⟨Nat.le_of_ble_eq_true rfl, Nat.le_of_ble_eq_true rfl⟩) rfl rfl rfl rfl (Nat.le_of_ble_eq_true rfl) dX11_ticks_76 ⟨Nat.le_of_ble_eq_true rfl, Nat.le_of_ble_eq_true rfl⟩ (fun H locs hP hD hS => ?_)
    refine lv_pop hx hb dX11_ticks_79 rfl ?_
    obtain ⟨v2, ev2, hf⟩ := bd_s hf
    refine lv_iinc (v := v2) (lv' := [(2, .int v2), (0, .ref (g.2.2 0)), (1, .int x1)]) hx hb dX11_ticks_80 hl (k := 2) rfl (by rw [ev2]; rfl) (by decide) rfl (fun ls hl => ?_)
    refine lv_goto (tgt := 67) hx hb dX11_ticks_83 (by decide) ?_
    cases hf
    exact k0 rfl H locs ls hP hD hS (lv_sub hl [1, 2, 0] rfl)
theorem lp_X11_ticks_0_h67 {N : Nat} {n : Nat} {x1 : Int32} {x2 : Int32} {σ : Sg} {z : Nat × Int32 × Sg} (C : Cx p s m args meth c cX11_ticks 3 (some .int) RX11 g A X) (hz : it (fun q => s_X11_ticks_0_h67 N x1 q.1 q.2) n (x2, σ) = some z) (k : Bk cw p l e rm_X11_ticks_0 s m args below meth c 3 g A Q 0 0 86 [(0, .ref (g.2.2 0))] [] z.2.2) : Bk cw p l e rm_X11_ticks_0 s m args below meth c 3 g A Q 0 0 67 [(0, .ref (g.2.2 0)), (1, .int x1), (2, .int x2)] [] σ :=
  it_W (S := Int32 × Sg) (fun q => Bk cw p l e rm_X11_ticks_0 s m args below meth c 3 g A Q 0 0 67 [(0, .ref (g.2.2 0)), (1, .int x1), (2, .int q.1)] [] q.2) (fun z => Bk cw p l e rm_X11_ticks_0 s m args below meth c 3 g A Q 0 0 86 [(0, .ref (g.2.2 0))] [] z.2.2) (fun q z hq k0 k => e_X11_ticks_0_h67 C hq k0 k) n (x2, σ) z hz k
def f_X11_ticks_0_b29 (N : Nat) (σ : Sg) : Option (Int32 × Sg) :=
(f_X11_refuseAct_0 N σ).bind fun q3 =>
some (q3.1, (q3.2))
set_option maxHeartbeats 4000000 in
set_option maxRecDepth 100000 in
theorem b_X11_ticks_0_b29 {N : Nat} {σ : Sg} {z : Int32 × Sg} (C : Cx p s m args meth c cX11_ticks 3 (some .int) RX11 g A X) (hf : f_X11_ticks_0_b29 N σ = some z) : Bk cw p l e rm_X11_ticks_0 s m args below meth c 3 g A (MQ below (qI cw g A z.1 z.2) args s 0 0 A) 0 0 29 [(0, .ref (g.2.2 0))] [] σ := by
  obtain ⟨hx, hb, hr, hml, hown, hts, hK, hlocks, hXX, hA, hXo⟩ := id C
  intro H locs ls hP hD hS hl
  unfold f_X11_ticks_0_b29 at hf
  refine lv_aload_n hx hb dX11_ticks_29 rfl (lv_at hl 0 rfl) ?_
  obtain ⟨q3, hq3, hf⟩ := bi_s hf
  refine bk_VI (wf := cw) (q0 := 0) (ci := 10) (rest := []) [] C hP hD hS hl.1 (c_X11_refuseAct_0 hXo hq3) (cwA_V 0 hts wa_812 wa_809 wa_810 wa_811 wa_2 rfl rfl nd_X11_refuseAct ⟨Nat.le_of_ble_eq_true rfl, Nat.le_of_ble_eq_true rfl⟩) rfl rfl rfl rfl (Nat.le_of_ble_eq_true rfl) dX11_ticks_30 ⟨Nat.le_of_ble_eq_true rfl, Nat.le_of_ble_eq_true rfl⟩ (fun H locs hP hD hS => ?_)
  cases hf
  exact bk_iret C hP hD hS rfl dX11_ticks_33
def f_X11_ticks_0 (N : Nat) (x1 : Int32) (σ : Sg) : Option (Int32 × Sg) :=
if x1 < (1 : Int32) then (f_X11_ticks_0_b29 N σ)
else (if (20 : Int32) < x1 then (f_X11_ticks_0_b29 N σ)
else (if ((σ 22 0) + x1) ≤ (999 : Int32) then ((f_X0_keep_27_22 N σ).bind fun q4 =>
(f_X2_start_55_22 N q4).bind fun q5 =>
(it (fun q => s_X11_ticks_0_h67 N x1 q.1 q.2) N ((0 : Int32), q5)).bind fun z6 =>
(f_X7_copy_22_56 N (z6.2.2)).bind fun q7 =>
some ((q7 22 0), q7))
else (f_X11_ticks_0_b29 N σ)))
set_option maxHeartbeats 4000000 in
set_option maxRecDepth 100000 in
theorem b_X11_ticks_0 {N : Nat} {x1 : Int32} {σ : Sg} {z : Int32 × Sg} (C : Cx p s m args meth c cX11_ticks 3 (some .int) RX11 g A X) (hf : f_X11_ticks_0 N x1 σ = some z) : Bk cw p l e rm_X11_ticks_0 s m args below meth c 3 g A (MQ below (qI cw g A z.1 z.2) args s 0 0 A) 0 0 0 [(0, .ref (g.2.2 0)), (1, .int x1)] [] σ := by
  obtain ⟨hx, hb, hr, hml, hown, hts, hK, hlocks, hXX, hA, hXo⟩ := id C
  intro H locs ls hP hD hS hl
  unfold f_X11_ticks_0 at hf
  refine lv_iload_n hx hb dX11_ticks_0 rfl (lv_at hl 1 rfl) ?_
  refine lv_iconst (v := (1 : Int32)) hx hb dX11_ticks_1 (by decide) ?_
  refine lv_icmp_lt (tgt := 29) hx hb dX11_ticks_2 (by decide) (fun t2 => ?_) (fun t2 => ?_)
  · have hf := (if_pos t2).symm.trans hf
    exact b_X11_ticks_0_b29 C hf H locs ls hP hD hS (lv_sub hl [0] rfl)
  · have hf := (if_neg t2).symm.trans hf
    refine lv_iload_n hx hb dX11_ticks_5 rfl (lv_at hl 1 rfl) ?_
    refine lv_bipush (v := (20 : Int32)) hx hb dX11_ticks_6 (by decide) ?_
    refine lv_icmp_gt (tgt := 29) hx hb dX11_ticks_8 (by decide) (fun t8 => ?_) (fun t8 => ?_)
    · have hf := (if_pos t8).symm.trans hf
      exact b_X11_ticks_0_b29 C hf H locs ls hP hD hS (lv_sub hl [0] rfl)
    · have hf := (if_neg t8).symm.trans hf
      refine lv_aload_n hx hb dX11_ticks_11 rfl (lv_at hl 0 rfl) ?_
      refine bk_get (wf := cw) (q0 := 0) (ci := 10) (k := 4) (v := .ref (g.2.2 21)) C hP wl_X11 rfl rfl (by decide) wa_27 rfl rfl dX11_ticks_12 ?_
      refine bk_get (wf := cw) (q0 := 21) (ci := 1) (k := 0) (v := .ref (g.2.2 22)) C hP wl_X1 rfl rfl (by decide) wa_221 rfl rfl dX11_ticks_15 ?_
      refine bk_get (wf := cw) (q0 := 22) (ci := 7) (k := 0) (v := .int (σ 22 0)) C hP wl_X7 rfl rfl (by decide) wa_645 rfl rfl dX11_ticks_18 ?_
      refine lv_iload_n hx hb dX11_ticks_21 rfl (lv_at hl 1 rfl) ?_
      refine lv_iadd hx hb dX11_ticks_22 ?_
      refine lv_sipush (v := (999 : Int32)) hx hb dX11_ticks_23 (by decide) ?_
      refine lv_icmp_le (tgt := 34) hx hb dX11_ticks_26 (by decide) (fun t26 => ?_) (fun t26 => ?_)
      · have hf := (if_pos t26).symm.trans hf
        refine lv_aload_n hx hb dX11_ticks_34 rfl (lv_at hl 0 rfl) ?_
        refine bk_get (wf := cw) (q0 := 0) (ci := 10) (k := 4) (v := .ref (g.2.2 21)) C hP wl_X11 rfl rfl (by decide) wa_27 rfl rfl dX11_ticks_35 ?_
        refine bk_get (wf := cw) (q0 := 21) (ci := 1) (k := 1) (v := .ref (g.2.2 27)) C hP wl_X1 rfl rfl (by decide) wa_222 rfl rfl dX11_ticks_38 ?_
        refine lv_aload_n hx hb dX11_ticks_41 rfl (lv_at hl 0 rfl) ?_
        refine bk_get (wf := cw) (q0 := 0) (ci := 10) (k := 4) (v := .ref (g.2.2 21)) C hP wl_X11 rfl rfl (by decide) wa_27 rfl rfl dX11_ticks_42 ?_
        refine bk_get (wf := cw) (q0 := 21) (ci := 1) (k := 0) (v := .ref (g.2.2 22)) C hP wl_X1 rfl rfl (by decide) wa_221 rfl rfl dX11_ticks_45 ?_
        obtain ⟨q4, hq4, hf⟩ := bi_s hf
        refine bk_VV (wf := cw) (q0 := 27) (ci := 0) (rest := []) [.ref (g.2.2 22)] C hP hD hS hl.1 (c_X0_keep_27_22 hXo hq4) (cwA_V 1 hts wa_816 wa_813 wa_814 wa_815 wa_97 rfl rfl nd_X0_keep ⟨Nat.le_of_ble_eq_true rfl, Nat.le_of_ble_eq_true rfl⟩) rfl rfl rfl rfl (Nat.le_of_ble_eq_true rfl) dX11_ticks_48 ⟨Nat.le_of_ble_eq_true rfl, Nat.le_of_ble_eq_true rfl⟩ (fun H locs hP hD hS => ?_)
        refine lv_aload_n hx hb dX11_ticks_51 rfl (lv_at hl 0 rfl) ?_
        refine bk_get (wf := cw) (q0 := 0) (ci := 10) (k := 10) (v := .ref (g.2.2 55)) C hP wl_X11 rfl rfl (by decide) wa_42 rfl rfl dX11_ticks_52 ?_
        refine lv_aload_n hx hb dX11_ticks_55 rfl (lv_at hl 0 rfl) ?_
        refine bk_get (wf := cw) (q0 := 0) (ci := 10) (k := 4) (v := .ref (g.2.2 21)) C hP wl_X11 rfl rfl (by decide) wa_27 rfl rfl dX11_ticks_56 ?_
        refine bk_get (wf := cw) (q0 := 21) (ci := 1) (k := 0) (v := .ref (g.2.2 22)) C hP wl_X1 rfl rfl (by decide) wa_221 rfl rfl dX11_ticks_59 ?_
        obtain ⟨q5, hq5, hf⟩ := bi_s hf
        refine bk_VV (wf := cw) (q0 := 55) (ci := 2) (rest := []) [.ref (g.2.2 22)] C hP hD hS hl.1 (c_X2_start_55_22 hXo hq5) (cwA_V 1 hts wa_825 wa_822 wa_823 wa_824 wa_41 rfl rfl nd_X2_start ⟨Nat.le_of_ble_eq_true rfl, Nat.le_of_ble_eq_true rfl⟩) rfl rfl rfl rfl (Nat.le_of_ble_eq_true rfl) dX11_ticks_62 ⟨Nat.le_of_ble_eq_true rfl, Nat.le_of_ble_eq_true rfl⟩ (fun H locs hP hD hS => ?_)
        refine lv_iconst (v := (0 : Int32)) hx hb dX11_ticks_65 (by decide) ?_
        refine lv_istore_n (lv' := [(2, .int (0 : Int32)), (0, .ref (g.2.2 0)), (1, .int x1)]) hx hb dX11_ticks_66 rfl hl (by decide) rfl (fun ls hl => ?_)
        obtain ⟨z6, hz6, hf⟩ := bi_s hf
        refine lp_X11_ticks_0_h67 C hz6 ?_ H locs ls hP hD hS (lv_sub hl [1, 2, 0] rfl)
        intro H locs ls hP hD hS hl
        refine lv_aload_n hx hb dX11_ticks_86 rfl (lv_at hl 0 rfl) ?_
        refine bk_get (wf := cw) (q0 := 0) (ci := 10) (k := 4) (v := .ref (g.2.2 21)) C hP wl_X11 rfl rfl (by decide) wa_27 rfl rfl dX11_ticks_87 ?_
        refine bk_get (wf := cw) (q0 := 21) (ci := 1) (k := 0) (v := .ref (g.2.2 22)) C hP wl_X1 rfl rfl (by decide) wa_221 rfl rfl dX11_ticks_90 ?_
        refine lv_aload_n hx hb dX11_ticks_93 rfl (lv_at hl 0 rfl) ?_
        refine bk_get (wf := cw) (q0 := 0) (ci := 10) (k := 10) (v := .ref (g.2.2 55)) C hP wl_X11 rfl rfl (by decide) wa_42 rfl rfl dX11_ticks_94 ?_
        refine bk_get (wf := cw) (q0 := 55) (ci := 2) (k := 0) (v := .ref (g.2.2 56)) C hP wl_X2 rfl rfl (by decide) wa_808 rfl rfl dX11_ticks_97 ?_
        obtain ⟨q7, hq7, hf⟩ := bi_s hf
        refine bk_VV (wf := cw) (q0 := 22) (ci := 7) (rest := []) [.ref (g.2.2 56)] C hP hD hS hl.1 (c_X7_copy_22_56 hXo hq7) (cwA_V 1 hts wa_829 wa_878 wa_827 wa_828 wa_93 rfl rfl nd_X7_copy ⟨Nat.le_of_ble_eq_true rfl, Nat.le_of_ble_eq_true rfl⟩) rfl rfl rfl rfl (Nat.le_of_ble_eq_true rfl) dX11_ticks_100 ⟨Nat.le_of_ble_eq_true rfl, Nat.le_of_ble_eq_true rfl⟩ (fun H locs hP hD hS => ?_)
        refine lv_aload_n hx hb dX11_ticks_103 rfl (lv_at hl 0 rfl) ?_
        refine bk_get (wf := cw) (q0 := 0) (ci := 10) (k := 4) (v := .ref (g.2.2 21)) C hP wl_X11 rfl rfl (by decide) wa_27 rfl rfl dX11_ticks_104 ?_
        refine bk_get (wf := cw) (q0 := 21) (ci := 1) (k := 0) (v := .ref (g.2.2 22)) C hP wl_X1 rfl rfl (by decide) wa_221 rfl rfl dX11_ticks_107 ?_
        refine bk_get (wf := cw) (q0 := 22) (ci := 7) (k := 0) (v := .int (q7 22 0)) C hP wl_X7 rfl rfl (by decide) wa_645 rfl rfl dX11_ticks_110 ?_
        cases hf
        exact bk_iret C hP hD hS rfl dX11_ticks_113
      · have hf := (if_neg t26).symm.trans hf
        exact b_X11_ticks_0_b29 C hf H locs ls hP hD hS (lv_sub hl [0] rfl)
theorem c_X11_ticks_0 {N : Nat} {x1 : Int32} {σ : Sg} {z : Int32 × Sg} (hX : xOK g X) (hf : f_X11_ticks_0 N x1 σ = some z) : MetI l yX11_ticks (Cond.code yX11_ticks cX11_ticks 3 (some .int) :: wsA) rm_X11_ticks_0 cw g X [.ref (g.2.2 0), .int x1] σ z.1 z.2 :=
  MetI_of hX (by decide) (Nat.le_of_ble_eq_true rfl) (fun p e s m args below meth c A C => b_X11_ticks_0 C hf)
-- X7_sleeps_22: sleeps(I)Z
abbrev rm_X7_sleeps_22 : Room := { frames := 0, cells := 0, slots := 0, locals := 0 }
theorem nd_X7_sleeps : yX7_sleeps.cls ≠ "java/lang/invoke/MethodHandle" ∧ yX7_sleeps.cls ≠ "java/lang/invoke/VarHandle" ∧ (parseMethodDescriptor yX7_sleeps.desc).map (fun d => d.parameters.length) = some 1 := by decide +kernel
def f_X7_sleeps_22 (N : Nat) (x1 : Int32) (σ : Sg) : Option (Int32 × Sg) :=
if (((σ 22 1) >>> (x1 &&& 31)) &&& (1 : Int32)) = (1 : Int32) then (some ((1 : Int32), σ))
else (some ((0 : Int32), σ))
set_option maxHeartbeats 4000000 in
set_option maxRecDepth 100000 in
theorem b_X7_sleeps_22 {N : Nat} {x1 : Int32} {σ : Sg} {z : Int32 × Sg} (C : Cx p s m args meth c cX7_sleeps 2 (some .boolean) RX7 g A X) (hf : f_X7_sleeps_22 N x1 σ = some z) : Bk cw p l e rm_X7_sleeps_22 s m args below meth c 2 g A (MQ below (qI cw g A z.1 z.2) args s 0 0 A) 0 0 0 [(0, .ref (g.2.2 22)), (1, .int x1)] [] σ := by
  obtain ⟨hx, hb, hr, hml, hown, hts, hK, hlocks, hXX, hA, hXo⟩ := id C
  intro H locs ls hP hD hS hl
  unfold f_X7_sleeps_22 at hf
  refine lv_aload_n hx hb dX7_sleeps_0 rfl (lv_at hl 0 rfl) ?_
  refine bk_get (wf := cw) (q0 := 22) (ci := 7) (k := 1) (v := .int (σ 22 1)) C hP wl_X7 rfl rfl (by decide) wa_108 rfl rfl dX7_sleeps_1 ?_
  refine lv_iload_n hx hb dX7_sleeps_4 rfl (lv_at hl 1 rfl) ?_
  refine lv_ishr hx hb dX7_sleeps_5 ?_
  refine lv_iconst (v := (1 : Int32)) hx hb dX7_sleeps_6 (by decide) ?_
  refine lv_iand hx hb dX7_sleeps_7 ?_
  refine lv_iconst (v := (1 : Int32)) hx hb dX7_sleeps_8 (by decide) ?_
  refine lv_icmp_ne (tgt := 16) hx hb dX7_sleeps_9 (by decide) (fun t9 => ?_) (fun t9 => ?_)
  · have hf := (if_neg t9).symm.trans hf
    refine lv_iconst (v := (0 : Int32)) hx hb dX7_sleeps_16 (by decide) ?_
    cases hf
    exact bk_zret C hP hD hS (by decide) rfl dX7_sleeps_17
  · have hf := (if_pos t9).symm.trans hf
    refine lv_iconst (v := (1 : Int32)) hx hb dX7_sleeps_12 (by decide) ?_
    refine lv_goto (tgt := 17) hx hb dX7_sleeps_13 (by decide) ?_
    cases hf
    exact bk_zret C hP hD hS (by decide) rfl dX7_sleeps_17
theorem c_X7_sleeps_22 {N : Nat} {x1 : Int32} {σ : Sg} {z : Int32 × Sg} (hX : xOK g X) (hf : f_X7_sleeps_22 N x1 σ = some z) : MetI l yX7_sleeps (Cond.code yX7_sleeps cX7_sleeps 2 (some .boolean) :: wsA) rm_X7_sleeps_22 cw g X [.ref (g.2.2 22), .int x1] σ z.1 z.2 :=
  MetI_of hX (by decide) (Nat.le_of_ble_eq_true rfl) (fun p e s m args below meth c A C => b_X7_sleeps_22 C hf)
-- X7_startNod_22: startNod(I)V
abbrev rm_X7_startNod_22 : Room := { frames := 1, cells := 0, slots := 0, locals := 21 }
theorem nd_X7_startNod : yX7_startNod.cls ≠ "java/lang/invoke/MethodHandle" ∧ yX7_startNod.cls ≠ "java/lang/invoke/VarHandle" ∧ (parseMethodDescriptor yX7_startNod.desc).map (fun d => d.parameters.length) = some 1 := by decide +kernel
def f_X7_startNod_22 (N : Nat) (x1 : Int32) (σ : Sg) : Option (Sg) :=
(f_X7_sleeps_22 N x1 σ).bind fun q1 =>
if q1.1 = 0 then (if (x1 < 0 ∨ 9 ≤ x1.toNatClampNeg) then none else
bd (wr (q1.2) 23 (x1.toNatClampNeg) (1 : Int32)) fun σ3 =>
some σ3)
else (some (q1.2))
set_option maxHeartbeats 4000000 in
set_option maxRecDepth 100000 in
theorem b_X7_startNod_22 {N : Nat} {x1 : Int32} {σ : Sg} {z : Sg} (C : Cx p s m args meth c cX7_startNod 2 none RX7 g A X) (hf : f_X7_startNod_22 N x1 σ = some z) : Bk cw p l e rm_X7_startNod_22 s m args below meth c 2 g A (MQ below (qV cw g A z) args s 0 0 A) 0 0 0 [(0, .ref (g.2.2 22)), (1, .int x1)] [] σ := by
  obtain ⟨hx, hb, hr, hml, hown, hts, hK, hlocks, hXX, hA, hXo⟩ := id C
  intro H locs ls hP hD hS hl
  unfold f_X7_startNod_22 at hf
  refine lv_aload_n hx hb dX7_startNod_0 rfl (lv_at hl 0 rfl) ?_
  refine lv_iload_n hx hb dX7_startNod_1 rfl (lv_at hl 1 rfl) ?_
  obtain ⟨q1, hq1, hf⟩ := bi_s hf
  refine bk_VI (wf := cw) (q0 := 22) (ci := 7) (rest := []) [.int x1] C hP hD hS hl.1 (c_X7_sleeps_22 hXo hq1) (cwA_V 1 hts wa_926 wa_931 wa_924 wa_925 wa_93 rfl rfl nd_X7_sleeps ⟨Nat.le_of_ble_eq_true rfl, Nat.le_of_ble_eq_true rfl⟩) rfl rfl rfl rfl (Nat.le_of_ble_eq_true rfl) dX7_startNod_2 ⟨Nat.le_of_ble_eq_true rfl, Nat.le_of_ble_eq_true rfl⟩ (fun H locs hP hD hS => ?_)
  refine lv_if_ne (tgt := 15) hx hb dX7_startNod_5 (by decide) (fun t5 => ?_) (fun t5 => ?_)
  · have hf := (if_neg t5).symm.trans hf
    cases hf
    exact bk_vret C hP hD hS rfl dX7_startNod_15
  · have hf := (if_pos t5).symm.trans hf
    refine lv_aload_n hx hb dX7_startNod_8 rfl (lv_at hl 0 rfl) ?_
    refine bk_get (wf := cw) (q0 := 22) (ci := 7) (k := 2) (v := .ref (g.2.2 23)) C hP wl_X7 rfl rfl (by decide) wa_109 rfl rfl dX7_startNod_9 ?_
    refine lv_iload_n hx hb dX7_startNod_12 rfl (lv_at hl 1 rfl) ?_
    refine lv_iconst (v := (1 : Int32)) hx hb dX7_startNod_13 (by decide) ?_
    obtain ⟨g2, hf⟩ := gd_s hf
    obtain ⟨σ3, eσ3, hf⟩ := bd_s hf
    refine bk_iast (wf := cw) (σ1 := σ3) (q0 := 23) (n := 9) (j := x1.toNatClampNeg) C hP hD hS rfl g2 rfl (by rw [eσ3]; exact cw_a23 g _ _ _) dX7_startNod_14 (fun H locs hP hD hS => ?_)
    cases hf
    exact bk_vret C hP hD hS rfl dX7_startNod_15
theorem c_X7_startNod_22 {N : Nat} {x1 : Int32} {σ : Sg} {z : Sg} (hX : xOK g X) (hf : f_X7_startNod_22 N x1 σ = some z) : MetV l yX7_startNod (Cond.code yX7_startNod cX7_startNod 2 none :: wsA) rm_X7_startNod_22 cw g X [.ref (g.2.2 22), .int x1] σ z :=
  MetV_of hX (by decide) (Nat.le_of_ble_eq_true rfl) (fun p e s m args below meth c A C => b_X7_startNod_22 C hf)
-- X11_begin_0: begin(I)Z
abbrev rm_X11_begin_0 : Room := { frames := 7, cells := 1, slots := 6, locals := 111 }
theorem nd_X11_begin : yX11_begin.cls ≠ "java/lang/invoke/MethodHandle" ∧ yX11_begin.cls ≠ "java/lang/invoke/VarHandle" ∧ (parseMethodDescriptor yX11_begin.desc).map (fun d => d.parameters.length) = some 1 := by decide +kernel
def f_X11_begin_0 (N : Nat) (x1 : Int32) (σ : Sg) : Option (Zt) :=
(f_X11_needFarm_0 N x1 σ).bind fun q1 =>
if q1.1 = 0 then ((f_X7_sleeps_22 N x1 (q1.2.2)).bind fun q2 =>
if q2.1 = 0 then ((f_X0_keep_27_22 N (q2.2)).bind fun q3 =>
(f_X7_startNod_22 N x1 q3).bind fun q4 =>
some (0, (1 : Int32), q4))
else ((f_X11_refuseAct_0 N (q2.2)).bind fun q5 =>
some (0, (0 : Int32), (q5.2))))
else some (q1.1, 0, q1.2.2)
set_option maxHeartbeats 4000000 in
set_option maxRecDepth 100000 in
theorem b_X11_begin_0 {N : Nat} {x1 : Int32} {σ : Sg} {z : Zt} (C : Cx p s m args meth c cX11_begin 2 (some .boolean) RX11 g A X) (hex : ∀ x ∈ c.exceptionTable.toList, False) (hst : l.stackTraces = false) (hf : f_X11_begin_0 N x1 σ = some z) : Bk cw p l e rm_X11_begin_0 s m args below meth c 2 g A (vx_MQ below (qTi cw g A z) (xT cw g A z) args s 1 6 A) 0 0 0 [(0, .ref (g.2.2 0)), (1, .int x1)] [] σ := by
  obtain ⟨hx, hb, hr, hml, hown, hts, hK, hlocks, hXX, hA, hXo⟩ := id C
  intro H locs ls hP hD hS hl
  unfold f_X11_begin_0 at hf
  refine lv_aload_n hx hb dX11_begin_0 rfl (lv_at hl 0 rfl) ?_
  refine lv_iload_n hx hb dX11_begin_1 rfl (lv_at hl 1 rfl) ?_
  obtain ⟨q1, hq1, hf⟩ := bi_s hf
  refine bk_TV (wf := cw) (q0 := 0) (ci := 10) (rest := []) [.int x1] C hex hP hD hS hl.1 (c_X11_needFarm_0 hXo hst hq1) (cwA_V 1 hts wa_791 wa_788 wa_789 wa_790 wa_2 rfl rfl nd_X11_needFarm ⟨Nat.le_of_ble_eq_true rfl, Nat.le_of_ble_eq_true rfl⟩) rfl rfl rfl rfl (Nat.le_of_ble_eq_true rfl) dX11_begin_2 ⟨Nat.le_of_ble_eq_true rfl, Nat.le_of_ble_eq_true rfl⟩ ⟨Nat.le_of_ble_eq_true rfl, Nat.le_of_ble_eq_true rfl⟩ (fun h0 => by have hf := (if_neg h0).symm.trans hf; cases hf; exact ⟨rfl, rfl⟩) (fun h0 H locs hP hD hS => ?_)
  have hf := (if_pos h0).symm.trans hf
  refine lv_aload_n hx hb dX11_begin_5 rfl (lv_at hl 0 rfl) ?_
  refine bk_get (wf := cw) (q0 := 0) (ci := 10) (k := 4) (v := .ref (g.2.2 21)) C hP wl_X11 rfl rfl (by decide) wa_27 rfl rfl dX11_begin_6 ?_
  refine bk_get (wf := cw) (q0 := 21) (ci := 1) (k := 0) (v := .ref (g.2.2 22)) C hP wl_X1 rfl rfl (by decide) wa_221 rfl rfl dX11_begin_9 ?_
  refine lv_iload_n hx hb dX11_begin_12 rfl (lv_at hl 1 rfl) ?_
  obtain ⟨q2, hq2, hf⟩ := bi_s hf
  refine bk_VI (wf := cw) (q0 := 22) (ci := 7) (rest := []) [.int x1] C hP hD hS hl.1 (c_X7_sleeps_22 hXo hq2) (cwA_V 1 hts wa_926 wa_923 wa_924 wa_925 wa_93 rfl rfl nd_X7_sleeps ⟨Nat.le_of_ble_eq_true rfl, Nat.le_of_ble_eq_true rfl⟩) rfl rfl rfl rfl (Nat.le_of_ble_eq_true rfl) dX11_begin_13 ⟨Nat.le_of_ble_eq_true rfl, Nat.le_of_ble_eq_true rfl⟩ (fun H locs hP hD hS => ?_)
  refine lv_if_eq (tgt := 26) hx hb dX11_begin_16 (by decide) (fun t16 => ?_) (fun t16 => ?_)
  · have hf := (if_pos t16).symm.trans hf
    refine lv_aload_n hx hb dX11_begin_26 rfl (lv_at hl 0 rfl) ?_
    refine bk_get (wf := cw) (q0 := 0) (ci := 10) (k := 4) (v := .ref (g.2.2 21)) C hP wl_X11 rfl rfl (by decide) wa_27 rfl rfl dX11_begin_27 ?_
    refine bk_get (wf := cw) (q0 := 21) (ci := 1) (k := 1) (v := .ref (g.2.2 27)) C hP wl_X1 rfl rfl (by decide) wa_222 rfl rfl dX11_begin_30 ?_
    refine lv_aload_n hx hb dX11_begin_33 rfl (lv_at hl 0 rfl) ?_
    refine bk_get (wf := cw) (q0 := 0) (ci := 10) (k := 4) (v := .ref (g.2.2 21)) C hP wl_X11 rfl rfl (by decide) wa_27 rfl rfl dX11_begin_34 ?_
    refine bk_get (wf := cw) (q0 := 21) (ci := 1) (k := 0) (v := .ref (g.2.2 22)) C hP wl_X1 rfl rfl (by decide) wa_221 rfl rfl dX11_begin_37 ?_
    obtain ⟨q3, hq3, hf⟩ := bi_s hf
    refine bk_VV (wf := cw) (q0 := 27) (ci := 0) (rest := []) [.ref (g.2.2 22)] C hP hD hS hl.1 (c_X0_keep_27_22 hXo hq3) (cwA_V 1 hts wa_816 wa_813 wa_814 wa_815 wa_97 rfl rfl nd_X0_keep ⟨Nat.le_of_ble_eq_true rfl, Nat.le_of_ble_eq_true rfl⟩) rfl rfl rfl rfl (Nat.le_of_ble_eq_true rfl) dX11_begin_40 ⟨Nat.le_of_ble_eq_true rfl, Nat.le_of_ble_eq_true rfl⟩ (fun H locs hP hD hS => ?_)
    refine lv_aload_n hx hb dX11_begin_43 rfl (lv_at hl 0 rfl) ?_
    refine bk_get (wf := cw) (q0 := 0) (ci := 10) (k := 4) (v := .ref (g.2.2 21)) C hP wl_X11 rfl rfl (by decide) wa_27 rfl rfl dX11_begin_44 ?_
    refine bk_get (wf := cw) (q0 := 21) (ci := 1) (k := 0) (v := .ref (g.2.2 22)) C hP wl_X1 rfl rfl (by decide) wa_221 rfl rfl dX11_begin_47 ?_
    refine lv_iload_n hx hb dX11_begin_50 rfl (lv_at hl 1 rfl) ?_
    obtain ⟨q4, hq4, hf⟩ := bi_s hf
    refine bk_VV (wf := cw) (q0 := 22) (ci := 7) (rest := []) [.int x1] C hP hD hS hl.1 (c_X7_startNod_22 hXo hq4) (cwA_V 1 hts wa_930 wa_927 wa_928 wa_929 wa_93 rfl rfl nd_X7_startNod ⟨Nat.le_of_ble_eq_true rfl, Nat.le_of_ble_eq_true rfl⟩) rfl rfl rfl rfl (Nat.le_of_ble_eq_true rfl) dX11_begin_51 ⟨Nat.le_of_ble_eq_true rfl, Nat.le_of_ble_eq_true rfl⟩ (fun H locs hP hD hS => ?_)
    refine lv_iconst (v := (1 : Int32)) hx hb dX11_begin_54 (by decide) ?_
    exact bk_zretT C hP hD hS (by decide) hf (Nat.le_of_ble_eq_true rfl) (Nat.le_of_ble_eq_true rfl) dX11_begin_55
  · have hf := (if_neg t16).symm.trans hf
    refine lv_aload_n hx hb dX11_begin_19 rfl (lv_at hl 0 rfl) ?_
    obtain ⟨q5, hq5, hf⟩ := bi_s hf
    refine bk_VI (wf := cw) (q0 := 0) (ci := 10) (rest := []) [] C hP hD hS hl.1 (c_X11_refuseAct_0 hXo hq5) (cwA_V 0 hts wa_812 wa_809 wa_810 wa_811 wa_2 rfl rfl nd_X11_refuseAct ⟨Nat.le_of_ble_eq_true rfl, Nat.le_of_ble_eq_true rfl⟩) rfl rfl rfl rfl (Nat.le_of_ble_eq_true rfl) dX11_begin_20 ⟨Nat.le_of_ble_eq_true rfl, Nat.le_of_ble_eq_true rfl⟩ (fun H locs hP hD hS => ?_)
    refine lv_pop hx hb dX11_begin_23 rfl ?_
    refine lv_iconst (v := (0 : Int32)) hx hb dX11_begin_24 (by decide) ?_
    exact bk_zretT C hP hD hS (by decide) hf (Nat.le_of_ble_eq_true rfl) (Nat.le_of_ble_eq_true rfl) dX11_begin_25
theorem c_X11_begin_0 {N : Nat} {x1 : Int32} {σ : Sg} {z : Zt} (hX : xOK g X) (hst : l.stackTraces = false) (hf : f_X11_begin_0 N x1 σ = some z) : MetTi l yX11_begin (Cond.code yX11_begin cX11_begin 2 (some .boolean) :: wsA) rm_X11_begin_0 1 6 cw g X [.ref (g.2.2 0), .int x1] σ z :=
  MetTi_of hX (by decide) (Nat.le_of_ble_eq_true rfl) (fun p e s m args below meth c A C hex => b_X11_begin_0 C hex hst hf)
-- X7_turnSleep_22: turnSleep(I)V
abbrev rm_X7_turnSleep_22 : Room := { frames := 0, cells := 0, slots := 0, locals := 0 }
theorem nd_X7_turnSleep : yX7_turnSleep.cls ≠ "java/lang/invoke/MethodHandle" ∧ yX7_turnSleep.cls ≠ "java/lang/invoke/VarHandle" ∧ (parseMethodDescriptor yX7_turnSleep.desc).map (fun d => d.parameters.length) = some 1 := by decide +kernel
def f_X7_turnSleep_22 (N : Nat) (x1 : Int32) (σ : Sg) : Option (Sg) :=
bd (wr σ 22 1 ((σ 22 1) ^^^ ((1 : Int32) <<< (x1 &&& 31)))) fun σ1 =>
if (x1 < 0 ∨ 9 ≤ x1.toNatClampNeg) then none else
bd (wr σ1 23 (x1.toNatClampNeg) (0 : Int32)) fun σ3 =>
some σ3
set_option maxHeartbeats 4000000 in
set_option maxRecDepth 100000 in
theorem b_X7_turnSleep_22 {N : Nat} {x1 : Int32} {σ : Sg} {z : Sg} (C : Cx p s m args meth c cX7_turnSleep 2 none RX7 g A X) (hf : f_X7_turnSleep_22 N x1 σ = some z) : Bk cw p l e rm_X7_turnSleep_22 s m args below meth c 2 g A (MQ below (qV cw g A z) args s 0 0 A) 0 0 0 [(0, .ref (g.2.2 22)), (1, .int x1)] [] σ := by
  obtain ⟨hx, hb, hr, hml, hown, hts, hK, hlocks, hXX, hA, hXo⟩ := id C
  intro H locs ls hP hD hS hl
  unfold f_X7_turnSleep_22 at hf
  refine lv_aload_n hx hb dX7_turnSleep_0 rfl (lv_at hl 0 rfl) ?_
  refine lv_dup hx hb dX7_turnSleep_1 rfl ?_
  refine bk_get (wf := cw) (q0 := 22) (ci := 7) (k := 1) (v := .int (σ 22 1)) C hP wl_X7 rfl rfl (by decide) wa_108 rfl rfl dX7_turnSleep_2 ?_
  refine lv_iconst (v := (1 : Int32)) hx hb dX7_turnSleep_5 (by decide) ?_
  refine lv_iload_n hx hb dX7_turnSleep_6 rfl (lv_at hl 1 rfl) ?_
  refine lv_ishl hx hb dX7_turnSleep_7 ?_
  refine lv_ixor hx hb dX7_turnSleep_8 ?_
  obtain ⟨σ1, eσ1, hf⟩ := bd_s hf
  refine bk_put (wf := cw) (σ1 := σ1) (q0 := 22) (ci := 7) (k := 1) (v := .int ((σ 22 1) ^^^ ((1 : Int32) <<< (x1 &&& 31)))) C hP hD hS wl_X7 tyX7_ok nmX7 rfl rfl (by decide) wa_108 rfl rfl rfl rfl rfl (Nat.le_of_ble_eq_true rfl) (by rw [eσ1]; exact cw_p22_1 g _ _) dX7_turnSleep_9 (fun H locs hP hD hS => ?_)
  refine lv_aload_n hx hb dX7_turnSleep_12 rfl (lv_at hl 0 rfl) ?_
  refine bk_get (wf := cw) (q0 := 22) (ci := 7) (k := 2) (v := .ref (g.2.2 23)) C hP wl_X7 rfl rfl (by decide) wa_109 rfl rfl dX7_turnSleep_13 ?_
  refine lv_iload_n hx hb dX7_turnSleep_16 rfl (lv_at hl 1 rfl) ?_
  refine lv_iconst (v := (0 : Int32)) hx hb dX7_turnSleep_17 (by decide) ?_
  obtain ⟨g2, hf⟩ := gd_s hf
  obtain ⟨σ3, eσ3, hf⟩ := bd_s hf
  refine bk_iast (wf := cw) (σ1 := σ3) (q0 := 23) (n := 9) (j := x1.toNatClampNeg) C hP hD hS rfl g2 rfl (by rw [eσ3]; exact cw_a23 g _ _ _) dX7_turnSleep_18 (fun H locs hP hD hS => ?_)
  cases hf
  exact bk_vret C hP hD hS rfl dX7_turnSleep_19
theorem c_X7_turnSleep_22 {N : Nat} {x1 : Int32} {σ : Sg} {z : Sg} (hX : xOK g X) (hf : f_X7_turnSleep_22 N x1 σ = some z) : MetV l yX7_turnSleep (Cond.code yX7_turnSleep cX7_turnSleep 2 none :: wsA) rm_X7_turnSleep_22 cw g X [.ref (g.2.2 22), .int x1] σ z :=
  MetV_of hX (by decide) (Nat.le_of_ble_eq_true rfl) (fun p e s m args below meth c A C => b_X7_turnSleep_22 C hf)
-- X11_sleep_0: sleep(IZ)Z
abbrev rm_X11_sleep_0 : Room := { frames := 7, cells := 1, slots := 6, locals := 111 }
theorem nd_X11_sleep : yX11_sleep.cls ≠ "java/lang/invoke/MethodHandle" ∧ yX11_sleep.cls ≠ "java/lang/invoke/VarHandle" ∧ (parseMethodDescriptor yX11_sleep.desc).map (fun d => d.parameters.length) = some 2 := by decide +kernel
def f_X11_sleep_0 (N : Nat) (x1 : Int32) (x2 : Int32) (σ : Sg) : Option (Zt) :=
(f_X11_needFarm_0 N x1 σ).bind fun q1 =>
if q1.1 = 0 then ((f_X7_sleeps_22 N x1 (q1.2.2)).bind fun q2 =>
if q2.1 = x2 then ((f_X11_refuseAct_0 N (q2.2)).bind fun q5 =>
some (0, (0 : Int32), (q5.2)))
else ((f_X0_keep_27_22 N (q2.2)).bind fun q3 =>
(f_X7_turnSleep_22 N x1 q3).bind fun q4 =>
some (0, (1 : Int32), q4)))
else some (q1.1, 0, q1.2.2)
set_option maxHeartbeats 4000000 in
set_option maxRecDepth 100000 in
theorem b_X11_sleep_0 {N : Nat} {x1 : Int32} {x2 : Int32} {σ : Sg} {z : Zt} (C : Cx p s m args meth c cX11_sleep 3 (some .boolean) RX11 g A X) (hex : ∀ x ∈ c.exceptionTable.toList, False) (hst : l.stackTraces = false) (hf : f_X11_sleep_0 N x1 x2 σ = some z) : Bk cw p l e rm_X11_sleep_0 s m args below meth c 3 g A (vx_MQ below (qTi cw g A z) (xT cw g A z) args s 1 6 A) 0 0 0 [(0, .ref (g.2.2 0)), (1, .int x1), (2, .int x2)] [] σ := by
  obtain ⟨hx, hb, hr, hml, hown, hts, hK, hlocks, hXX, hA, hXo⟩ := id C
  intro H locs ls hP hD hS hl
  unfold f_X11_sleep_0 at hf
  refine lv_aload_n hx hb dX11_sleep_0 rfl (lv_at hl 0 rfl) ?_
  refine lv_iload_n hx hb dX11_sleep_1 rfl (lv_at hl 1 rfl) ?_
  obtain ⟨q1, hq1, hf⟩ := bi_s hf
  refine bk_TV (wf := cw) (q0 := 0) (ci := 10) (rest := []) [.int x1] C hex hP hD hS hl.1 (c_X11_needFarm_0 hXo hst hq1) (cwA_V 1 hts wa_791 wa_788 wa_789 wa_790 wa_2 rfl rfl nd_X11_needFarm ⟨Nat.le_of_ble_eq_true rfl, Nat.le_of_ble_eq_true rfl⟩) rfl rfl rfl rfl (Nat.le_of_ble_eq_true rfl) dX11_sleep_2 ⟨Nat.le_of_ble_eq_true rfl, Nat.le_of_ble_eq_true rfl⟩ ⟨Nat.le_of_ble_eq_true rfl, Nat.le_of_ble_eq_true rfl⟩ (fun h0 => by have hf := (if_neg h0).symm.trans hf; cases hf; exact ⟨rfl, rfl⟩) (fun h0 H locs hP hD hS => ?_)
  have hf := (if_pos h0).symm.trans hf
  refine lv_aload_n hx hb dX11_sleep_5 rfl (lv_at hl 0 rfl) ?_
  refine bk_get (wf := cw) (q0 := 0) (ci := 10) (k := 4) (v := .ref (g.2.2 21)) C hP wl_X11 rfl rfl (by decide) wa_27 rfl rfl dX11_sleep_6 ?_
  refine bk_get (wf := cw) (q0 := 21) (ci := 1) (k := 0) (v := .ref (g.2.2 22)) C hP wl_X1 rfl rfl (by decide) wa_221 rfl rfl dX11_sleep_9 ?_
  refine lv_iload_n hx hb dX11_sleep_12 rfl (lv_at hl 1 rfl) ?_
  obtain ⟨q2, hq2, hf⟩ := bi_s hf
  refine bk_VI (wf := cw) (q0 := 22) (ci := 7) (rest := []) [.int x1] C hP hD hS hl.1 (c_X7_sleeps_22 hXo hq2) (cwA_V 1 hts wa_926 wa_923 wa_924 wa_925 wa_93 rfl rfl nd_X7_sleeps ⟨Nat.le_of_ble_eq_true rfl, Nat.le_of_ble_eq_true rfl⟩) rfl rfl rfl rfl (Nat.le_of_ble_eq_true rfl) dX11_sleep_13 ⟨Nat.le_of_ble_eq_true rfl, Nat.le_of_ble_eq_true rfl⟩ (fun H locs hP hD hS => ?_)
  refine lv_iload_n hx hb dX11_sleep_16 rfl (lv_at hl 2 rfl) ?_
  refine lv_icmp_ne (tgt := 27) hx hb dX11_sleep_17 (by decide) (fun t17 => ?_) (fun t17 => ?_)
  · have hf := (if_neg t17).symm.trans hf
    refine lv_aload_n hx hb dX11_sleep_27 rfl (lv_at hl 0 rfl) ?_
    refine bk_get (wf := cw) (q0 := 0) (ci := 10) (k := 4) (v := .ref (g.2.2 21)) C hP wl_X11 rfl rfl (by decide) wa_27 rfl rfl dX11_sleep_28 ?_
    refine bk_get (wf := cw) (q0 := 21) (ci := 1) (k := 1) (v := .ref (g.2.2 27)) C hP wl_X1 rfl rfl (by decide) wa_222 rfl rfl dX11_sleep_31 ?_
    refine lv_aload_n hx hb dX11_sleep_34 rfl (lv_at hl 0 rfl) ?_
    refine bk_get (wf := cw) (q0 := 0) (ci := 10) (k := 4) (v := .ref (g.2.2 21)) C hP wl_X11 rfl rfl (by decide) wa_27 rfl rfl dX11_sleep_35 ?_
    refine bk_get (wf := cw) (q0 := 21) (ci := 1) (k := 0) (v := .ref (g.2.2 22)) C hP wl_X1 rfl rfl (by decide) wa_221 rfl rfl dX11_sleep_38 ?_
    obtain ⟨q3, hq3, hf⟩ := bi_s hf
    refine bk_VV (wf := cw) (q0 := 27) (ci := 0) (rest := []) [.ref (g.2.2 22)] C hP hD hS hl.1 (c_X0_keep_27_22 hXo hq3) (cwA_V 1 hts wa_816 wa_813 wa_814 wa_815 wa_97 rfl rfl nd_X0_keep ⟨Nat.le_of_ble_eq_true rfl, Nat.le_of_ble_eq_true rfl⟩) rfl rfl rfl rfl (Nat.le_of_ble_eq_true rfl) dX11_sleep_41 ⟨Nat.le_of_ble_eq_true rfl, Nat.le_of_ble_eq_true rfl⟩ (fun H locs hP hD hS => ?_)
    refine lv_aload_n hx hb dX11_sleep_44 rfl (lv_at hl 0 rfl) ?_
    refine bk_get (wf := cw) (q0 := 0) (ci := 10) (k := 4) (v := .ref (g.2.2 21)) C hP wl_X11 rfl rfl (by decide) wa_27 rfl rfl dX11_sleep_45 ?_
    refine bk_get (wf := cw) (q0 := 21) (ci := 1) (k := 0) (v := .ref (g.2.2 22)) C hP wl_X1 rfl rfl (by decide) wa_221 rfl rfl dX11_sleep_48 ?_
    refine lv_iload_n hx hb dX11_sleep_51 rfl (lv_at hl 1 rfl) ?_
    obtain ⟨q4, hq4, hf⟩ := bi_s hf
    refine bk_VV (wf := cw) (q0 := 22) (ci := 7) (rest := []) [.int x1] C hP hD hS hl.1 (c_X7_turnSleep_22 hXo hq4) (cwA_V 1 hts wa_958 wa_955 wa_956 wa_957 wa_93 rfl rfl nd_X7_turnSleep ⟨Nat.le_of_ble_eq_true rfl, Nat.le_of_ble_eq_true rfl⟩) rfl rfl rfl rfl (Nat.le_of_ble_eq_true rfl) dX11_sleep_52 ⟨Nat.le_of_ble_eq_true rfl, Nat.le_of_ble_eq_true rfl⟩ (fun H locs hP hD hS => ?_)
    refine lv_iconst (v := (1 : Int32)) hx hb dX11_sleep_55 (by decide) ?_
    exact bk_zretT C hP hD hS (by decide) hf (Nat.le_of_ble_eq_true rfl) (Nat.le_of_ble_eq_true rfl) dX11_sleep_56
  · have hf := (if_pos t17).symm.trans hf
    refine lv_aload_n hx hb dX11_sleep_20 rfl (lv_at hl 0 rfl) ?_
    obtain ⟨q5, hq5, hf⟩ := bi_s hf
    refine bk_VI (wf := cw) (q0 := 0) (ci := 10) (rest := []) [] C hP hD hS hl.1 (c_X11_refuseAct_0 hXo hq5) (cwA_V 0 hts wa_812 wa_809 wa_810 wa_811 wa_2 rfl rfl nd_X11_refuseAct ⟨Nat.le_of_ble_eq_true rfl, Nat.le_of_ble_eq_true rfl⟩) rfl rfl rfl rfl (Nat.le_of_ble_eq_true rfl) dX11_sleep_21 ⟨Nat.le_of_ble_eq_true rfl, Nat.le_of_ble_eq_true rfl⟩ (fun H locs hP hD hS => ?_)
    refine lv_pop hx hb dX11_sleep_24 rfl ?_
    refine lv_iconst (v := (0 : Int32)) hx hb dX11_sleep_25 (by decide) ?_
    exact bk_zretT C hP hD hS (by decide) hf (Nat.le_of_ble_eq_true rfl) (Nat.le_of_ble_eq_true rfl) dX11_sleep_26
theorem c_X11_sleep_0 {N : Nat} {x1 : Int32} {x2 : Int32} {σ : Sg} {z : Zt} (hX : xOK g X) (hst : l.stackTraces = false) (hf : f_X11_sleep_0 N x1 x2 σ = some z) : MetTi l yX11_sleep (Cond.code yX11_sleep cX11_sleep 3 (some .boolean) :: wsA) rm_X11_sleep_0 1 6 cw g X [.ref (g.2.2 0), .int x1, .int x2] σ z :=
  MetTi_of hX (by decide) (Nat.le_of_ble_eq_true rfl) (fun p e s m args below meth c A C hex => b_X11_sleep_0 C hex hst hf)
-- X11_hat_0: hat(II)I
abbrev rm_X11_hat_0 : Room := { frames := 7, cells := 1, slots := 6, locals := 115 }
theorem nd_X11_hat : yX11_hat.cls ≠ "java/lang/invoke/MethodHandle" ∧ yX11_hat.cls ≠ "java/lang/invoke/VarHandle" ∧ (parseMethodDescriptor yX11_hat.desc).map (fun d => d.parameters.length) = some 2 := by decide +kernel
def f_X11_hat_0_b15 (N : Nat) (σ : Sg) : Option (Zt) :=
(f_X11_refuseAct_0 N σ).bind fun q1 =>
some (0, q1.1, (q1.2))
set_option maxHeartbeats 4000000 in
set_option maxRecDepth 100000 in
theorem b_X11_hat_0_b15 {N : Nat} {σ : Sg} {z : Zt} (C : Cx p s m args meth c cX11_hat 4 (some .int) RX11 g A X) (hex : ∀ x ∈ c.exceptionTable.toList, False) (hst : l.stackTraces = false) (hf : f_X11_hat_0_b15 N σ = some z) : Bk cw p l e rm_X11_hat_0 s m args below meth c 4 g A (vx_MQ below (qTi cw g A z) (xT cw g A z) args s 1 6 A) 1 6 15 [(0, .ref (g.2.2 0))] [] σ := by
  obtain ⟨hx, hb, hr, hml, hown, hts, hK, hlocks, hXX, hA, hXo⟩ := id C
  intro H locs ls hP hD hS hl
  unfold f_X11_hat_0_b15 at hf
  refine lv_aload_n hx hb dX11_hat_15 rfl (lv_at hl 0 rfl) ?_
  obtain ⟨q1, hq1, hf⟩ := bi_s hf
  refine bk_VI (wf := cw) (q0 := 0) (ci := 10) (rest := []) [] C hP hD hS hl.1 (c_X11_refuseAct_0 hXo hq1) (cwA_V 0 hts wa_812 wa_809 wa_810 wa_811 wa_2 rfl rfl nd_X11_refuseAct ⟨Nat.le_of_ble_eq_true rfl, Nat.le_of_ble_eq_true rfl⟩) rfl rfl rfl rfl (Nat.le_of_ble_eq_true rfl) dX11_hat_16 ⟨Nat.le_of_ble_eq_true rfl, Nat.le_of_ble_eq_true rfl⟩ (fun H locs hP hD hS => ?_)
  exact bk_iretT C hP hD hS hf (Nat.le_of_ble_eq_true rfl) (Nat.le_of_ble_eq_true rfl) dX11_hat_19
def f_X11_hat_0 (N : Nat) (x1 : Int32) (x2 : Int32) (σ : Sg) : Option (Zt) :=
(f_X11_needFarm_0 N x1 σ).bind fun q2 =>
if q2.1 = 0 then (if x2 < 0 then (f_X11_hat_0_b15 N (q2.2.2))
else (if x2 ≤ (20 : Int32) then ((f_X0_keep_27_22 N (q2.2.2)).bind fun q3 =>
if (x1 < 0 ∨ 9 ≤ x1.toNatClampNeg) then none else
bd (q3 26 x1.toNatClampNeg) fun v5 =>
if (x1 < 0 ∨ 9 ≤ x1.toNatClampNeg) then none else
bd (wr q3 26 (x1.toNatClampNeg) x2) fun σ7 =>
(f_X6_build_47_26 N σ7).bind fun q8 =>
some (0, v5, q8))
else (f_X11_hat_0_b15 N (q2.2.2))))
else some (q2.1, 0, q2.2.2)
set_option maxHeartbeats 4000000 in
set_option maxRecDepth 100000 in
theorem b_X11_hat_0 {N : Nat} {x1 : Int32} {x2 : Int32} {σ : Sg} {z : Zt} (C : Cx p s m args meth c cX11_hat 4 (some .int) RX11 g A X) (hex : ∀ x ∈ c.exceptionTable.toList, False) (hst : l.stackTraces = false) (hf : f_X11_hat_0 N x1 x2 σ = some z) : Bk cw p l e rm_X11_hat_0 s m args below meth c 4 g A (vx_MQ below (qTi cw g A z) (xT cw g A z) args s 1 6 A) 0 0 0 [(0, .ref (g.2.2 0)), (1, .int x1), (2, .int x2)] [] σ := by
  obtain ⟨hx, hb, hr, hml, hown, hts, hK, hlocks, hXX, hA, hXo⟩ := id C
  intro H locs ls hP hD hS hl
  unfold f_X11_hat_0 at hf
  refine lv_aload_n hx hb dX11_hat_0 rfl (lv_at hl 0 rfl) ?_
  refine lv_iload_n hx hb dX11_hat_1 rfl (lv_at hl 1 rfl) ?_
  obtain ⟨q2, hq2, hf⟩ := bi_s hf
  refine bk_TV (wf := cw) (q0 := 0) (ci := 10) (rest := []) [.int x1] C hex hP hD hS hl.1 (c_X11_needFarm_0 hXo hst hq2) (cwA_V 1 hts wa_791 wa_788 wa_789 wa_790 wa_2 rfl rfl nd_X11_needFarm ⟨Nat.le_of_ble_eq_true rfl, Nat.le_of_ble_eq_true rfl⟩) rfl rfl rfl rfl (Nat.le_of_ble_eq_true rfl) dX11_hat_2 ⟨Nat.le_of_ble_eq_true rfl, Nat.le_of_ble_eq_true rfl⟩ ⟨Nat.le_of_ble_eq_true rfl, Nat.le_of_ble_eq_true rfl⟩ (fun h0 => by have hf := (if_neg h0).symm.trans hf; cases hf; exact ⟨rfl, rfl⟩) (fun h0 H locs hP hD hS => ?_)
  have hf := (if_pos h0).symm.trans hf
  refine lv_iload_n hx hb dX11_hat_5 rfl (lv_at hl 2 rfl) ?_
  refine lv_if_lt (tgt := 15) hx hb dX11_hat_6 (by decide) (fun t6 => ?_) (fun t6 => ?_)
  · have hf := (if_pos t6).symm.trans hf
    exact b_X11_hat_0_b15 C hex hst hf H locs ls hP hD hS (lv_sub hl [0] rfl)
  · have hf := (if_neg t6).symm.trans hf
    refine lv_iload_n hx hb dX11_hat_9 rfl (lv_at hl 2 rfl) ?_
    refine lv_bipush (v := (20 : Int32)) hx hb dX11_hat_10 (by decide) ?_
    refine lv_icmp_le (tgt := 20) hx hb dX11_hat_12 (by decide) (fun t12 => ?_) (fun t12 => ?_)
    · have hf := (if_pos t12).symm.trans hf
      refine lv_aload_n hx hb dX11_hat_20 rfl (lv_at hl 0 rfl) ?_
      refine bk_get (wf := cw) (q0 := 0) (ci := 10) (k := 4) (v := .ref (g.2.2 21)) C hP wl_X11 rfl rfl (by decide) wa_27 rfl rfl dX11_hat_21 ?_
      refine bk_get (wf := cw) (q0 := 21) (ci := 1) (k := 1) (v := .ref (g.2.2 27)) C hP wl_X1 rfl rfl (by decide) wa_222 rfl rfl dX11_hat_24 ?_
      refine lv_aload_n hx hb dX11_hat_27 rfl (lv_at hl 0 rfl) ?_
      refine bk_get (wf := cw) (q0 := 0) (ci := 10) (k := 4) (v := .ref (g.2.2 21)) C hP wl_X11 rfl rfl (by decide) wa_27 rfl rfl dX11_hat_28 ?_
      refine bk_get (wf := cw) (q0 := 21) (ci := 1) (k := 0) (v := .ref (g.2.2 22)) C hP wl_X1 rfl rfl (by decide) wa_221 rfl rfl dX11_hat_31 ?_
      obtain ⟨q3, hq3, hf⟩ := bi_s hf
      refine bk_VV (wf := cw) (q0 := 27) (ci := 0) (rest := []) [.ref (g.2.2 22)] C hP hD hS hl.1 (c_X0_keep_27_22 hXo hq3) (cwA_V 1 hts wa_816 wa_813 wa_814 wa_815 wa_97 rfl rfl nd_X0_keep ⟨Nat.le_of_ble_eq_true rfl, Nat.le_of_ble_eq_true rfl⟩) rfl rfl rfl rfl (Nat.le_of_ble_eq_true rfl) dX11_hat_34 ⟨Nat.le_of_ble_eq_true rfl, Nat.le_of_ble_eq_true rfl⟩ (fun H locs hP hD hS => ?_)
      refine lv_aload_n hx hb dX11_hat_37 rfl (lv_at hl 0 rfl) ?_
      refine bk_get (wf := cw) (q0 := 0) (ci := 10) (k := 4) (v := .ref (g.2.2 21)) C hP wl_X11 rfl rfl (by decide) wa_27 rfl rfl dX11_hat_38 ?_
      refine bk_get (wf := cw) (q0 := 21) (ci := 1) (k := 0) (v := .ref (g.2.2 22)) C hP wl_X1 rfl rfl (by decide) wa_221 rfl rfl dX11_hat_41 ?_
      refine bk_get (wf := cw) (q0 := 22) (ci := 7) (k := 5) (v := .ref (g.2.2 26)) C hP wl_X7 rfl rfl (by decide) wa_224 rfl rfl dX11_hat_44 ?_
      refine lv_iload_n hx hb dX11_hat_47 rfl (lv_at hl 1 rfl) ?_
      obtain ⟨g4, hf⟩ := gd_s hf
      refine bk_iald (wf := cw) (q0 := 26) (n := 9) (j := x1.toNatClampNeg) C hP rfl g4 rfl dX11_hat_48 ?_
      obtain ⟨v5, ev5, hf⟩ := bd_s hf
      rw [← ev5]
      refine lv_istore_n (lv' := [(3, .int v5), (0, .ref (g.2.2 0)), (1, .int x1), (2, .int x2)]) hx hb dX11_hat_49 rfl hl (by decide) rfl (fun ls hl => ?_)
      refine lv_aload_n hx hb dX11_hat_50 rfl (lv_at hl 1 rfl) ?_
      refine bk_get (wf := cw) (q0 := 0) (ci := 10) (k := 4) (v := .ref (g.2.2 21)) C hP wl_X11 rfl rfl (by decide) wa_27 rfl rfl dX11_hat_51 ?_
      refine bk_get (wf := cw) (q0 := 21) (ci := 1) (k := 0) (v := .ref (g.2.2 22)) C hP wl_X1 rfl rfl (by decide) wa_221 rfl rfl dX11_hat_54 ?_
      refine bk_get (wf := cw) (q0 := 22) (ci := 7) (k := 5) (v := .ref (g.2.2 26)) C hP wl_X7 rfl rfl (by decide) wa_224 rfl rfl dX11_hat_57 ?_
      refine lv_iload_n hx hb dX11_hat_60 rfl (lv_at hl 2 rfl) ?_
      refine lv_iload_n hx hb dX11_hat_61 rfl (lv_at hl 3 rfl) ?_
      obtain ⟨g6, hf⟩ := gd_s hf
      obtain ⟨σ7, eσ7, hf⟩ := bd_s hf
      refine bk_iast (wf := cw) (σ1 := σ7) (q0 := 26) (n := 9) (j := x1.toNatClampNeg) C hP hD hS rfl g6 rfl (by rw [eσ7]; exact cw_a26 g _ _ _) dX11_hat_62 (fun H locs hP hD hS => ?_)
      refine lv_aload_n hx hb dX11_hat_63 rfl (lv_at hl 1 rfl) ?_
      refine bk_get (wf := cw) (q0 := 0) (ci := 10) (k := 7) (v := .ref (g.2.2 47)) C hP wl_X11 rfl rfl (by decide) wa_33 rfl rfl dX11_hat_64 ?_
      refine lv_aload_n hx hb dX11_hat_67 rfl (lv_at hl 1 rfl) ?_
      refine bk_get (wf := cw) (q0 := 0) (ci := 10) (k := 4) (v := .ref (g.2.2 21)) C hP wl_X11 rfl rfl (by decide) wa_27 rfl rfl dX11_hat_68 ?_
      refine bk_get (wf := cw) (q0 := 21) (ci := 1) (k := 0) (v := .ref (g.2.2 22)) C hP wl_X1 rfl rfl (by decide) wa_221 rfl rfl dX11_hat_71 ?_
      refine bk_get (wf := cw) (q0 := 22) (ci := 7) (k := 5) (v := .ref (g.2.2 26)) C hP wl_X7 rfl rfl (by decide) wa_224 rfl rfl dX11_hat_74 ?_
      obtain ⟨q8, hq8, hf⟩ := bi_s hf
      refine bk_VV (wf := cw) (q0 := 47) (ci := 6) (rest := []) [.ref (g.2.2 26)] C hP hD hS hl.1 (c_X6_build_47_26 hXo hq8) (cwA_V 1 hts wa_472 wa_469 wa_470 wa_471 wa_32 rfl rfl nd_X6_build ⟨Nat.le_of_ble_eq_true rfl, Nat.le_of_ble_eq_true rfl⟩) rfl rfl rfl rfl (Nat.le_of_ble_eq_true rfl) dX11_hat_77 ⟨Nat.le_of_ble_eq_true rfl, Nat.le_of_ble_eq_true rfl⟩ (fun H locs hP hD hS => ?_)
      refine lv_iload_n hx hb dX11_hat_80 rfl (lv_at hl 0 rfl) ?_
      exact bk_iretT C hP hD hS hf (Nat.le_of_ble_eq_true rfl) (Nat.le_of_ble_eq_true rfl) dX11_hat_81
    · have hf := (if_neg t12).symm.trans hf
      exact b_X11_hat_0_b15 C hex hst hf H locs ls hP hD hS (lv_sub hl [0] rfl)
theorem c_X11_hat_0 {N : Nat} {x1 : Int32} {x2 : Int32} {σ : Sg} {z : Zt} (hX : xOK g X) (hst : l.stackTraces = false) (hf : f_X11_hat_0 N x1 x2 σ = some z) : MetTi l yX11_hat (Cond.code yX11_hat cX11_hat 4 (some .int) :: wsA) rm_X11_hat_0 1 6 cw g X [.ref (g.2.2 0), .int x1, .int x2] σ z :=
  MetTi_of hX (by decide) (Nat.le_of_ble_eq_true rfl) (fun p e s m args below meth c A C hex => b_X11_hat_0 C hex hst hf)
-- X11_hush_0: hush()I
abbrev rm_X11_hush_0 : Room := { frames := 2, cells := 0, slots := 0, locals := 45 }
theorem nd_X11_hush : yX11_hush.cls ≠ "java/lang/invoke/MethodHandle" ∧ yX11_hush.cls ≠ "java/lang/invoke/VarHandle" ∧ (parseMethodDescriptor yX11_hush.desc).map (fun d => d.parameters.length) = some 0 := by decide +kernel
def f_X11_hush_0 (N : Nat) (σ : Sg) : Option (Int32 × Sg) :=
(f_X7_whoWaits_22 N σ).bind fun q1 =>
bd q1.1 fun v2 =>
if v2 = 0 then ((f_X11_refuseAct_0 N (q1.2)).bind fun q5 =>
some (q5.1, (q5.2)))
else ((f_X0_keep_27_22 N (q1.2)).bind fun q3 =>
(f_X7_quiet_22 N q3).bind fun q4 =>
some (v2, q4))
set_option maxHeartbeats 4000000 in
set_option maxRecDepth 100000 in
theorem b_X11_hush_0 {N : Nat} {σ : Sg} {z : Int32 × Sg} (C : Cx p s m args meth c cX11_hush 2 (some .int) RX11 g A X) (hf : f_X11_hush_0 N σ = some z) : Bk cw p l e rm_X11_hush_0 s m args below meth c 2 g A (MQ below (qI cw g A z.1 z.2) args s 0 0 A) 0 0 0 [(0, .ref (g.2.2 0))] [] σ := by
  obtain ⟨hx, hb, hr, hml, hown, hts, hK, hlocks, hXX, hA, hXo⟩ := id C
  intro H locs ls hP hD hS hl
  unfold f_X11_hush_0 at hf
  refine lv_aload_n hx hb dX11_hush_0 rfl (lv_at hl 0 rfl) ?_
  refine bk_get (wf := cw) (q0 := 0) (ci := 10) (k := 4) (v := .ref (g.2.2 21)) C hP wl_X11 rfl rfl (by decide) wa_27 rfl rfl dX11_hush_1 ?_
  refine bk_get (wf := cw) (q0 := 21) (ci := 1) (k := 0) (v := .ref (g.2.2 22)) C hP wl_X1 rfl rfl (by decide) wa_221 rfl rfl dX11_hush_4 ?_
  obtain ⟨q1, hq1, hf⟩ := bi_s hf
  refine bk_VI (wf := cw) (q0 := 22) (ci := 7) (rest := []) [] C hP hD hS hl.1 (c_X7_whoWaits_22 hXo hq1) (cwA_V 0 hts wa_662 wa_659 wa_660 wa_661 wa_93 rfl rfl nd_X7_whoWaits ⟨Nat.le_of_ble_eq_true rfl, Nat.le_of_ble_eq_true rfl⟩) rfl rfl rfl rfl (Nat.le_of_ble_eq_true rfl) dX11_hush_7 ⟨Nat.le_of_ble_eq_true rfl, Nat.le_of_ble_eq_true rfl⟩ (fun H locs hP hD hS => ?_)
  obtain ⟨v2, ev2, hf⟩ := bd_s hf
  rw [← ev2]
  refine lv_istore_n (lv' := [(1, .int v2), (0, .ref (g.2.2 0))]) hx hb dX11_hush_10 rfl hl (by decide) rfl (fun ls hl => ?_)
  refine lv_iload_n hx hb dX11_hush_11 rfl (lv_at hl 0 rfl) ?_
  refine lv_if_ne (tgt := 20) hx hb dX11_hush_12 (by decide) (fun t12 => ?_) (fun t12 => ?_)
  · have hf := (if_neg t12).symm.trans hf
    refine lv_aload_n hx hb dX11_hush_20 rfl (lv_at hl 1 rfl) ?_
    refine bk_get (wf := cw) (q0 := 0) (ci := 10) (k := 4) (v := .ref (g.2.2 21)) C hP wl_X11 rfl rfl (by decide) wa_27 rfl rfl dX11_hush_21 ?_
    refine bk_get (wf := cw) (q0 := 21) (ci := 1) (k := 1) (v := .ref (g.2.2 27)) C hP wl_X1 rfl rfl (by decide) wa_222 rfl rfl dX11_hush_24 ?_
    refine lv_aload_n hx hb dX11_hush_27 rfl (lv_at hl 1 rfl) ?_
    refine bk_get (wf := cw) (q0 := 0) (ci := 10) (k := 4) (v := .ref (g.2.2 21)) C hP wl_X11 rfl rfl (by decide) wa_27 rfl rfl dX11_hush_28 ?_
    refine bk_get (wf := cw) (q0 := 21) (ci := 1) (k := 0) (v := .ref (g.2.2 22)) C hP wl_X1 rfl rfl (by decide) wa_221 rfl rfl dX11_hush_31 ?_
    obtain ⟨q3, hq3, hf⟩ := bi_s hf
    refine bk_VV (wf := cw) (q0 := 27) (ci := 0) (rest := []) [.ref (g.2.2 22)] C hP hD hS hl.1 (c_X0_keep_27_22 hXo hq3) (cwA_V 1 hts wa_816 wa_813 wa_814 wa_815 wa_97 rfl rfl nd_X0_keep ⟨Nat.le_of_ble_eq_true rfl, Nat.le_of_ble_eq_true rfl⟩) rfl rfl rfl rfl (Nat.le_of_ble_eq_true rfl) dX11_hush_34 ⟨Nat.le_of_ble_eq_true rfl, Nat.le_of_ble_eq_true rfl⟩ (fun H locs hP hD hS => ?_)
    refine lv_aload_n hx hb dX11_hush_37 rfl (lv_at hl 1 rfl) ?_
    refine bk_get (wf := cw) (q0 := 0) (ci := 10) (k := 4) (v := .ref (g.2.2 21)) C hP wl_X11 rfl rfl (by decide) wa_27 rfl rfl dX11_hush_38 ?_
    refine bk_get (wf := cw) (q0 := 21) (ci := 1) (k := 0) (v := .ref (g.2.2 22)) C hP wl_X1 rfl rfl (by decide) wa_221 rfl rfl dX11_hush_41 ?_
    obtain ⟨q4, hq4, hf⟩ := bi_s hf
    refine bk_VV (wf := cw) (q0 := 22) (ci := 7) (rest := []) [] C hP hD hS hl.1 (c_X7_quiet_22 hXo hq4) (cwA_V 0 hts wa_460 wa_982 wa_458 wa_459 wa_93 rfl rfl nd_X7_quiet ⟨Nat.le_of_ble_eq_true rfl, Nat.le_of_ble_eq_true rfl⟩) rfl rfl rfl rfl (Nat.le_of_ble_eq_true rfl) dX11_hush_44 ⟨Nat.le_of_ble_eq_true rfl, Nat.le_of_ble_eq_true rfl⟩ (fun H locs hP hD hS => ?_)
    refine lv_iload_n hx hb dX11_hush_47 rfl (lv_at hl 0 rfl) ?_
    cases hf
    exact bk_iret C hP hD hS rfl dX11_hush_48
  · have hf := (if_pos t12).symm.trans hf
    refine lv_aload_n hx hb dX11_hush_15 rfl (lv_at hl 1 rfl) ?_
    obtain ⟨q5, hq5, hf⟩ := bi_s hf
    refine bk_VI (wf := cw) (q0 := 0) (ci := 10) (rest := []) [] C hP hD hS hl.1 (c_X11_refuseAct_0 hXo hq5) (cwA_V 0 hts wa_812 wa_809 wa_810 wa_811 wa_2 rfl rfl nd_X11_refuseAct ⟨Nat.le_of_ble_eq_true rfl, Nat.le_of_ble_eq_true rfl⟩) rfl rfl rfl rfl (Nat.le_of_ble_eq_true rfl) dX11_hush_16 ⟨Nat.le_of_ble_eq_true rfl, Nat.le_of_ble_eq_true rfl⟩ (fun H locs hP hD hS => ?_)
    cases hf
    exact bk_iret C hP hD hS rfl dX11_hush_19
theorem c_X11_hush_0 {N : Nat} {σ : Sg} {z : Int32 × Sg} (hX : xOK g X) (hf : f_X11_hush_0 N σ = some z) : MetI l yX11_hush (Cond.code yX11_hush cX11_hush 2 (some .int) :: wsA) rm_X11_hush_0 cw g X [.ref (g.2.2 0)] σ z.1 z.2 :=
  MetI_of hX (by decide) (Nat.le_of_ble_eq_true rfl) (fun p e s m args below meth c A C => b_X11_hush_0 C hf)
-- X7_load_22_28: load([II)V
abbrev rm_X7_load_22_28 : Room := { frames := 0, cells := 0, slots := 0, locals := 0 }
theorem nd_X7_load : yX7_load.cls ≠ "java/lang/invoke/MethodHandle" ∧ yX7_load.cls ≠ "java/lang/invoke/VarHandle" ∧ (parseMethodDescriptor yX7_load.desc).map (fun d => d.parameters.length) = some 2 := by decide +kernel
def s_X7_load_22_28_h32 (N : Nat) (x2 : Int32) (x3 : Int32) (σ : Sg) : Option (Nat × Int32 × Sg) :=
if (9 : Int32) ≤ x3 then (some (1, 0, σ))
else (bd ((x2 + (2 : Int32)) + ((4 : Int32) * x3)) fun v1 =>
if (v1 < 0 ∨ 1520 ≤ v1.toNatClampNeg) then none else
if (x3 < 0 ∨ 9 ≤ x3.toNatClampNeg) then none else
bd (wr σ 23 (x3.toNatClampNeg) (σ 28 v1.toNatClampNeg)) fun σ4 =>
if ((v1 + (1 : Int32)) < 0 ∨ 1520 ≤ (v1 + (1 : Int32)).toNatClampNeg) then none else
if (x3 < 0 ∨ 9 ≤ x3.toNatClampNeg) then none else
bd (wr σ4 24 (x3.toNatClampNeg) (σ4 28 (v1 + (1 : Int32)).toNatClampNeg)) fun σ7 =>
if ((v1 + (2 : Int32)) < 0 ∨ 1520 ≤ (v1 + (2 : Int32)).toNatClampNeg) then none else
if (x3 < 0 ∨ 9 ≤ x3.toNatClampNeg) then none else
bd (wr σ7 25 (x3.toNatClampNeg) (σ7 28 (v1 + (2 : Int32)).toNatClampNeg)) fun σ10 =>
if ((v1 + (3 : Int32)) < 0 ∨ 1520 ≤ (v1 + (3 : Int32)).toNatClampNeg) then none else
if (x3 < 0 ∨ 9 ≤ x3.toNatClampNeg) then none else
bd (wr σ10 26 (x3.toNatClampNeg) (σ10 28 (v1 + (3 : Int32)).toNatClampNeg)) fun σ13 =>
bd (x3 + (1 : Int32)) fun v14 =>
some (0, v14, σ13))
set_option maxHeartbeats 4000000 in
set_option maxRecDepth 100000 in
theorem e_X7_load_22_28_h32 {N : Nat} {x2 : Int32} {x3 : Int32} {σ : Sg} {z : Nat × Int32 × Sg} (C : Cx p s m args meth c cX7_load 5 none RX7 g A X) (hf : s_X7_load_22_28_h32 N x2 x3 σ = some z) (k0 : z.1 = 0 → Bk cw p l e rm_X7_load_22_28 s m args below meth c 5 g A Q 0 0 32 [(0, .ref (g.2.2 22)), (1, .ref (g.2.2 28)), (2, .int x2), (3, .int z.2.1)] [] z.2.2) (k : ¬ z.1 = 0 → Bk cw p l e rm_X7_load_22_28 s m args below meth c 5 g A Q 0 0 99 [] [] z.2.2) : Bk cw p l e rm_X7_load_22_28 s m args below meth c 5 g A Q 0 0 32 [(0, .ref (g.2.2 22)), (1, .ref (g.2.2 28)), (2, .int x2), (3, .int x3)] [] σ := by
  obtain ⟨hx, hb, hr, hml, hown, hts, hK, hlocks, hXX, hA, hXo⟩ := id C
  intro H locs ls hP hD hS hl
  unfold s_X7_load_22_28_h32 at hf
  refine lv_iload_n hx hb dX7_load_32 rfl (lv_at hl 3 rfl) ?_
  refine lv_bipush (v := (9 : Int32)) hx hb dX7_load_33 (by decide) ?_
  refine lv_icmp_ge (tgt := 99) hx hb dX7_load_35 (by decide) (fun t35 => ?_) (fun t35 => ?_)
  · have hf := (if_pos t35).symm.trans hf
    cases hf
    exact (k (show ¬ (1 : Nat) = 0 by decide)) H locs ls hP hD hS (lv_sub hl [] rfl)
  · have hf := (if_neg t35).symm.trans hf
    refine lv_iload_n hx hb dX7_load_38 rfl (lv_at hl 2 rfl) ?_
    refine lv_iconst (v := (2 : Int32)) hx hb dX7_load_39 (by decide) ?_
    refine lv_iadd hx hb dX7_load_40 ?_
    refine lv_iconst (v := (4 : Int32)) hx hb dX7_load_41 (by decide) ?_
    refine lv_iload_n hx hb dX7_load_42 rfl (lv_at hl 3 rfl) ?_
    refine lv_imul hx hb dX7_load_43 ?_
    refine lv_iadd hx hb dX7_load_44 ?_
    obtain ⟨v1, ev1, hf⟩ := bd_s hf
    rw [← ev1]
    refine lv_istore (lv' := [(4, .int v1), (0, .ref (g.2.2 22)), (1, .ref (g.2.2 28)), (2, .int x2), (3, .int x3)]) hx hb dX7_load_45 hl (by decide) rfl (fun ls hl => ?_)
    refine lv_aload_n hx hb dX7_load_47 rfl (lv_at hl 1 rfl) ?_
    refine bk_get (wf := cw) (q0 := 22) (ci := 7) (k := 2) (v := .ref (g.2.2 23)) C hP wl_X7 rfl rfl (by decide) wa_109 rfl rfl dX7_load_48 ?_
    refine lv_iload_n hx hb dX7_load_51 rfl (lv_at hl 4 rfl) ?_
    refine lv_aload_n hx hb dX7_load_52 rfl (lv_at hl 2 rfl) ?_
    refine lv_iload hx hb dX7_load_53 (lv_at hl 0 rfl) ?_
    obtain ⟨g2, hf⟩ := gd_s hf
    refine bk_iald (wf := cw) (q0 := 28) (n := 1520) (j := v1.toNatClampNeg) C hP rfl g2 rfl dX7_load_55 ?_
    obtain ⟨g3, hf⟩ := gd_s hf
    obtain ⟨σ4, eσ4, hf⟩ := bd_s hf
    refine bk_iast (wf := cw) (σ1 := σ4) (q0 := 23) (n := 9) (j := x3.toNatClampNeg) C hP hD hS rfl g3 rfl (by rw [eσ4]; exact cw_a23 g _ _ _) dX7_load_56 (fun H locs hP hD hS => ?_)
    refine lv_aload_n hx hb dX7_load_57 rfl (lv_at hl 1 rfl) ?_
    refine bk_get (wf := cw) (q0 := 22) (ci := 7) (k := 3) (v := .ref (g.2.2 24)) C hP wl_X7 rfl rfl (by decide) wa_110 rfl rfl dX7_load_58 ?_
    refine lv_iload_n hx hb dX7_load_61 rfl (lv_at hl 4 rfl) ?_
    refine lv_aload_n hx hb dX7_load_62 rfl (lv_at hl 2 rfl) ?_
    refine lv_iload hx hb dX7_load_63 (lv_at hl 0 rfl) ?_
    refine lv_iconst (v := (1 : Int32)) hx hb dX7_load_65 (by decide) ?_
    refine lv_iadd hx hb dX7_load_66 ?_
    obtain ⟨g5, hf⟩ := gd_s hf
    refine bk_iald (wf := cw) (q0 := 28) (n := 1520) (j := (v1 + (1 : Int32)).toNatClampNeg) C hP rfl g5 rfl dX7_load_67 ?_
    obtain ⟨g6, hf⟩ := gd_s hf
    obtain ⟨σ7, eσ7, hf⟩ := bd_s hf
    refine bk_iast (wf := cw) (σ1 := σ7) (q0 := 24) (n := 9) (j := x3.toNatClampNeg) C hP hD hS rfl g6 rfl (by rw [eσ7]; exact cw_a24 g _ _ _) dX7_load_68 (fun H locs hP hD hS => ?_)
    refine lv_aload_n hx hb dX7_load_69 rfl (lv_at hl 1 rfl) ?_
    refine bk_get (wf := cw) (q0 := 22) (ci := 7) (k := 4) (v := .ref (g.2.2 25)) C hP wl_X7 rfl rfl (by decide) wa_111 rfl rfl dX7_load_70 ?_
    refine lv_iload_n hx hb dX7_load_73 rfl (lv_at hl 4 rfl) ?_
    refine lv_aload_n hx hb dX7_load_74 rfl (lv_at hl 2 rfl) ?_
    refine lv_iload hx hb dX7_load_75 (lv_at hl 0 rfl) ?_
    refine lv_iconst (v := (2 : Int32)) hx hb dX7_load_77 (by decide) ?_
    refine lv_iadd hx hb dX7_load_78 ?_
    obtain ⟨g8, hf⟩ := gd_s hf
    refine bk_iald (wf := cw) (q0 := 28) (n := 1520) (j := (v1 + (2 : Int32)).toNatClampNeg) C hP rfl g8 rfl dX7_load_79 ?_
    obtain ⟨g9, hf⟩ := gd_s hf
    obtain ⟨σ10, eσ10, hf⟩ := bd_s hf
    refine bk_iast (wf := cw) (σ1 := σ10) (q0 := 25) (n := 9) (j := x3.toNatClampNeg) C hP hD hS rfl g9 rfl (by rw [eσ10]; exact cw_a25 g _ _ _) dX7_load_80 (fun H locs hP hD hS => ?_)
    refine lv_aload_n hx hb dX7_load_81 rfl (lv_at hl 1 rfl) ?_
    refine bk_get (wf := cw) (q0 := 22) (ci := 7) (k := 5) (v := .ref (g.2.2 26)) C hP wl_X7 rfl rfl (by decide) wa_112 rfl rfl dX7_load_82 ?_
    refine lv_iload_n hx hb dX7_load_85 rfl (lv_at hl 4 rfl) ?_
    refine lv_aload_n hx hb dX7_load_86 rfl (lv_at hl 2 rfl) ?_
    refine lv_iload hx hb dX7_load_87 (lv_at hl 0 rfl) ?_
    refine lv_iconst (v := (3 : Int32)) hx hb dX7_load_89 (by decide) ?_
    refine lv_iadd hx hb dX7_load_90 ?_
    obtain ⟨g11, hf⟩ := gd_s hf
    refine bk_iald (wf := cw) (q0 := 28) (n := 1520) (j := (v1 + (3 : Int32)).toNatClampNeg) C hP rfl g11 rfl dX7_load_91 ?_
    obtain ⟨g12, hf⟩ := gd_s hf
    obtain ⟨σ13, eσ13, hf⟩ := bd_s hf
    refine bk_iast (wf := cw) (σ1 := σ13) (q0 := 26) (n := 9) (j := x3.toNatClampNeg) C hP hD hS rfl g12 rfl (by rw [eσ13]; exact cw_a26 g _ _ _) dX7_load_92 (fun H locs hP hD hS => ?_)
    obtain ⟨v14, ev14, hf⟩ := bd_s hf
    refine lv_iinc (v := v14) (lv' := [(3, .int v14), (4, .int v1), (0, .ref (g.2.2 22)), (1, .ref (g.2.2 28)), (2, .int x2)]) hx hb dX7_load_93 hl (k := 4) rfl (by rw [ev14]; rfl) (by decide) rfl (fun ls hl => ?_)
    refine lv_goto (tgt := 32) hx hb dX7_load_96 (by decide) ?_
    cases hf
    exact k0 rfl H locs ls hP hD hS (lv_sub hl [2, 3, 4, 0] rfl)
theorem lp_X7_load_22_28_h32 {N : Nat} {n : Nat} {x2 : Int32} {x3 : Int32} {σ : Sg} {z : Nat × Int32 × Sg} (C : Cx p s m args meth c cX7_load 5 none RX7 g A X) (hz : it (fun q => s_X7_load_22_28_h32 N x2 q.1 q.2) n (x3, σ) = some z) (k : Bk cw p l e rm_X7_load_22_28 s m args below meth c 5 g A Q 0 0 99 [] [] z.2.2) : Bk cw p l e rm_X7_load_22_28 s m args below meth c 5 g A Q 0 0 32 [(0, .ref (g.2.2 22)), (1, .ref (g.2.2 28)), (2, .int x2), (3, .int x3)] [] σ :=
  it_W (S := Int32 × Sg) (fun q => Bk cw p l e rm_X7_load_22_28 s m args below meth c 5 g A Q 0 0 32 [(0, .ref (g.2.2 22)), (1, .ref (g.2.2 28)), (2, .int x2), (3, .int q.1)] [] q.2) (fun z => Bk cw p l e rm_X7_load_22_28 s m args below meth c 5 g A Q 0 0 99 [] [] z.2.2) (fun q z hq k0 k => e_X7_load_22_28_h32 C hq k0 k) n (x3, σ) z hz k
def f_X7_load_22_28 (N : Nat) (x2 : Int32) (σ : Sg) : Option (Sg) :=
if x2 < 0 then (some σ)
else (if x2 ≤ ((1520 : Int32) - (38 : Int32)) then (if (x2 < 0 ∨ 1520 ≤ x2.toNatClampNeg) then none else
bd (wr σ 22 0 (σ 28 x2.toNatClampNeg)) fun σ16 =>
if ((x2 + (1 : Int32)) < 0 ∨ 1520 ≤ (x2 + (1 : Int32)).toNatClampNeg) then none else
bd (wr σ16 22 1 (σ16 28 (x2 + (1 : Int32)).toNatClampNeg)) fun σ18 =>
(it (fun q => s_X7_load_22_28_h32 N x2 q.1 q.2) N ((0 : Int32), σ18)).bind fun z19 =>
some (z19.2.2))
else (some σ))
set_option maxHeartbeats 4000000 in
set_option maxRecDepth 100000 in
theorem b_X7_load_22_28 {N : Nat} {x2 : Int32} {σ : Sg} {z : Sg} (C : Cx p s m args meth c cX7_load 5 none RX7 g A X) (hf : f_X7_load_22_28 N x2 σ = some z) : Bk cw p l e rm_X7_load_22_28 s m args below meth c 5 g A (MQ below (qV cw g A z) args s 0 0 A) 0 0 0 [(0, .ref (g.2.2 22)), (1, .ref (g.2.2 28)), (2, .int x2)] [] σ := by
  obtain ⟨hx, hb, hr, hml, hown, hts, hK, hlocks, hXX, hA, hXo⟩ := id C
  intro H locs ls hP hD hS hl
  unfold f_X7_load_22_28 at hf
  refine lv_iload_n hx hb dX7_load_0 rfl (lv_at hl 2 rfl) ?_
  refine lv_if_lt (tgt := 13) hx hb dX7_load_1 (by decide) (fun t1 => ?_) (fun t1 => ?_)
  · have hf := (if_pos t1).symm.trans hf
    cases hf
    exact bk_vret C hP hD hS rfl dX7_load_13
  · have hf := (if_neg t1).symm.trans hf
    refine lv_iload_n hx hb dX7_load_4 rfl (lv_at hl 2 rfl) ?_
    refine lv_aload_n hx hb dX7_load_5 rfl (lv_at hl 1 rfl) ?_
    refine bk_alen (wf := cw) (q0 := 28) (t0 := 0) (v := (1520 : Int32)) C hP rfl rfl (show Int32.ofNat 1520 = (1520 : Int32) by decide) dX7_load_6 ?_
    refine lv_bipush (v := (38 : Int32)) hx hb dX7_load_7 (by decide) ?_
    refine lv_isub hx hb dX7_load_9 ?_
    refine lv_icmp_le (tgt := 14) hx hb dX7_load_10 (by decide) (fun t10 => ?_) (fun t10 => ?_)
    · have hf := (if_pos t10).symm.trans hf
      refine lv_aload_n hx hb dX7_load_14 rfl (lv_at hl 0 rfl) ?_
      refine lv_aload_n hx hb dX7_load_15 rfl (lv_at hl 1 rfl) ?_
      refine lv_iload_n hx hb dX7_load_16 rfl (lv_at hl 2 rfl) ?_
      obtain ⟨g15, hf⟩ := gd_s hf
      refine bk_iald (wf := cw) (q0 := 28) (n := 1520) (j := x2.toNatClampNeg) C hP rfl g15 rfl dX7_load_17 ?_
      obtain ⟨σ16, eσ16, hf⟩ := bd_s hf
      refine bk_put (wf := cw) (σ1 := σ16) (q0 := 22) (ci := 7) (k := 0) (v := .int (σ 28 x2.toNatClampNeg)) C hP hD hS wl_X7 tyX7_ok nmX7 rfl rfl (by decide) wa_107 rfl rfl rfl rfl rfl (Nat.le_of_ble_eq_true rfl) (by rw [eσ16]; exact cw_p22_0 g _ _) dX7_load_18 (fun H locs hP hD hS => ?_)
      refine lv_aload_n hx hb dX7_load_21 rfl (lv_at hl 0 rfl) ?_
      refine lv_aload_n hx hb dX7_load_22 rfl (lv_at hl 1 rfl) ?_
      refine lv_iload_n hx hb dX7_load_23 rfl (lv_at hl 2 rfl) ?_
      refine lv_iconst (v := (1 : Int32)) hx hb dX7_load_24 (by decide) ?_
      refine lv_iadd hx hb dX7_load_25 ?_
      obtain ⟨g17, hf⟩ := gd_s hf
      refine bk_iald (wf := cw) (q0 := 28) (n := 1520) (j := (x2 + (1 : Int32)).toNatClampNeg) C hP rfl g17 rfl dX7_load_26 ?_
      obtain ⟨σ18, eσ18, hf⟩ := bd_s hf
      refine bk_put (wf := cw) (σ1 := σ18) (q0 := 22) (ci := 7) (k := 1) (v := .int (σ16 28 (x2 + (1 : Int32)).toNatClampNeg)) C hP hD hS wl_X7 tyX7_ok nmX7 rfl rfl (by decide) wa_108 rfl rfl rfl rfl rfl (Nat.le_of_ble_eq_true rfl) (by rw [eσ18]; exact cw_p22_1 g _ _) dX7_load_27 (fun H locs hP hD hS => ?_)
      refine lv_iconst (v := (0 : Int32)) hx hb dX7_load_30 (by decide) ?_
      refine lv_istore_n (lv' := [(3, .int (0 : Int32)), (0, .ref (g.2.2 22)), (1, .ref (g.2.2 28)), (2, .int x2)]) hx hb dX7_load_31 rfl hl (by decide) rfl (fun ls hl => ?_)
      obtain ⟨z19, hz19, hf⟩ := bi_s hf
      refine lp_X7_load_22_28_h32 C hz19 ?_ H locs ls hP hD hS (lv_sub hl [1, 2, 3, 0] rfl)
      intro H locs ls hP hD hS hl
      cases hf
      exact bk_vret C hP hD hS rfl dX7_load_99
    · have hf := (if_neg t10).symm.trans hf
      cases hf
      exact bk_vret C hP hD hS rfl dX7_load_13
theorem c_X7_load_22_28 {N : Nat} {x2 : Int32} {σ : Sg} {z : Sg} (hX : xOK g X) (hf : f_X7_load_22_28 N x2 σ = some z) : MetV l yX7_load (Cond.code yX7_load cX7_load 5 none :: wsA) rm_X7_load_22_28 cw g X [.ref (g.2.2 22), .ref (g.2.2 28), .int x2] σ z :=
  MetV_of hX (by decide) (Nat.le_of_ble_eq_true rfl) (fun p e s m args below meth c A C => b_X7_load_22_28 C hf)
-- X0_takeBack_27_22: takeBack(LNodPost$State;)Z
abbrev rm_X0_takeBack_27_22 : Room := { frames := 1, cells := 0, slots := 0, locals := 24 }
theorem nd_X0_takeBack : yX0_takeBack.cls ≠ "java/lang/invoke/MethodHandle" ∧ yX0_takeBack.cls ≠ "java/lang/invoke/VarHandle" ∧ (parseMethodDescriptor yX0_takeBack.desc).map (fun d => d.parameters.length) = some 1 := by decide +kernel
def f_X0_takeBack_27_22 (N : Nat) (σ : Sg) : Option (Int32 × Sg) :=
if (σ 27 0) = 0 then (some ((0 : Int32), σ))
else (bd (wr σ 27 1 ((((σ 27 1) + (40 : Int32)) - (1 : Int32)) - (((σ 27 1) + (40 : Int32)) - (1 : Int32)) / (40 : Int32) * (40 : Int32))) fun σ1 =>
bd (wr σ1 27 0 ((σ1 27 0) - (1 : Int32))) fun σ2 =>
(f_X7_load_22_28 N ((σ2 27 1) * (38 : Int32)) σ2).bind fun q3 =>
some ((1 : Int32), q3))
set_option maxHeartbeats 4000000 in
set_option maxRecDepth 100000 in
theorem b_X0_takeBack_27_22 {N : Nat} {σ : Sg} {z : Int32 × Sg} (C : Cx p s m args meth c cX0_takeBack 2 (some .boolean) RX0 g A X) (hf : f_X0_takeBack_27_22 N σ = some z) : Bk cw p l e rm_X0_takeBack_27_22 s m args below meth c 2 g A (MQ below (qI cw g A z.1 z.2) args s 0 0 A) 0 0 0 [(0, .ref (g.2.2 27)), (1, .ref (g.2.2 22))] [] σ := by
  obtain ⟨hx, hb, hr, hml, hown, hts, hK, hlocks, hXX, hA, hXo⟩ := id C
  intro H locs ls hP hD hS hl
  unfold f_X0_takeBack_27_22 at hf
  refine lv_aload_n hx hb dX0_takeBack_0 rfl (lv_at hl 0 rfl) ?_
  refine bk_get (wf := cw) (q0 := 27) (ci := 0) (k := 0) (v := .int (σ 27 0)) C hP wl_X0 rfl rfl (by decide) wa_116 rfl rfl dX0_takeBack_1 ?_
  refine lv_if_ne (tgt := 9) hx hb dX0_takeBack_4 (by decide) (fun t4 => ?_) (fun t4 => ?_)
  · have hf := (if_neg t4).symm.trans hf
    refine lv_aload_n hx hb dX0_takeBack_9 rfl (lv_at hl 0 rfl) ?_
    refine lv_aload_n hx hb dX0_takeBack_10 rfl (lv_at hl 0 rfl) ?_
    refine bk_get (wf := cw) (q0 := 27) (ci := 0) (k := 1) (v := .int (σ 27 1)) C hP wl_X0 rfl rfl (by decide) wa_117 rfl rfl dX0_takeBack_11 ?_
    refine lv_bipush (v := (40 : Int32)) hx hb dX0_takeBack_14 (by decide) ?_
    refine lv_iadd hx hb dX0_takeBack_16 ?_
    refine lv_iconst (v := (1 : Int32)) hx hb dX0_takeBack_17 (by decide) ?_
    refine lv_isub hx hb dX0_takeBack_18 ?_
    refine lv_bipush (v := (40 : Int32)) hx hb dX0_takeBack_19 (by decide) ?_
    refine lv_irem hx hb dX0_takeBack_21 (by decide) ?_
    obtain ⟨σ1, eσ1, hf⟩ := bd_s hf
    refine bk_put (wf := cw) (σ1 := σ1) (q0 := 27) (ci := 0) (k := 1) (v := .int ((((σ 27 1) + (40 : Int32)) - (1 : Int32)) - (((σ 27 1) + (40 : Int32)) - (1 : Int32)) / (40 : Int32) * (40 : Int32))) C hP hD hS wl_X0 tyX0_ok nmX0 rfl rfl (by decide) wa_117 rfl rfl rfl rfl rfl (Nat.le_of_ble_eq_true rfl) (by rw [eσ1]; exact cw_p27_1 g _ _) dX0_takeBack_22 (fun H locs hP hD hS => ?_)
    refine lv_aload_n hx hb dX0_takeBack_25 rfl (lv_at hl 0 rfl) ?_
    refine lv_dup hx hb dX0_takeBack_26 rfl ?_
    refine bk_get (wf := cw) (q0 := 27) (ci := 0) (k := 0) (v := .int (σ1 27 0)) C hP wl_X0 rfl rfl (by decide) wa_116 rfl rfl dX0_takeBack_27 ?_
    refine lv_iconst (v := (1 : Int32)) hx hb dX0_takeBack_30 (by decide) ?_
    refine lv_isub hx hb dX0_takeBack_31 ?_
    obtain ⟨σ2, eσ2, hf⟩ := bd_s hf
    refine bk_put (wf := cw) (σ1 := σ2) (q0 := 27) (ci := 0) (k := 0) (v := .int ((σ1 27 0) - (1 : Int32))) C hP hD hS wl_X0 tyX0_ok nmX0 rfl rfl (by decide) wa_116 rfl rfl rfl rfl rfl (Nat.le_of_ble_eq_true rfl) (by rw [eσ2]; exact cw_p27_0 g _ _) dX0_takeBack_32 (fun H locs hP hD hS => ?_)
    refine lv_aload_n hx hb dX0_takeBack_35 rfl (lv_at hl 1 rfl) ?_
    refine lv_aload_n hx hb dX0_takeBack_36 rfl (lv_at hl 0 rfl) ?_
    refine bk_get (wf := cw) (q0 := 27) (ci := 0) (k := 2) (v := .ref (g.2.2 28)) C hP wl_X0 rfl rfl (by decide) wa_118 rfl rfl dX0_takeBack_37 ?_
    refine lv_aload_n hx hb dX0_takeBack_40 rfl (lv_at hl 0 rfl) ?_
    refine bk_get (wf := cw) (q0 := 27) (ci := 0) (k := 1) (v := .int (σ2 27 1)) C hP wl_X0 rfl rfl (by decide) wa_117 rfl rfl dX0_takeBack_41 ?_
    refine lv_bipush (v := (38 : Int32)) hx hb dX0_takeBack_44 (by decide) ?_
    refine lv_imul hx hb dX0_takeBack_46 ?_
    obtain ⟨q3, hq3, hf⟩ := bi_s hf
    refine bk_VV (wf := cw) (q0 := 22) (ci := 7) (rest := []) [.ref (g.2.2 28), .int ((σ2 27 1) * (38 : Int32))] C hP hD hS hl.1 (c_X7_load_22_28 hXo hq3) (cwA_V 2 hts wa_1002 wa_999 wa_1000 wa_1001 wa_93 rfl rfl nd_X7_load ⟨Nat.le_of_ble_eq_true rfl, Nat.le_of_ble_eq_true rfl⟩) rfl rfl rfl rfl (Nat.le_of_ble_eq_true rfl) dX0_takeBack_47 ⟨Nat.le_of_ble_eq_true rfl, Nat.le_of_ble_eq_true rfl⟩ (fun H locs hP hD hS => ?_)
    refine lv_iconst (v := (1 : Int32)) hx hb dX0_takeBack_50 (by decide) ?_
    cases hf
    exact bk_zret C hP hD hS (by decide) rfl dX0_takeBack_51
  · have hf := (if_pos t4).symm.trans hf
    refine lv_iconst (v := (0 : Int32)) hx hb dX0_takeBack_7 (by decide) ?_
    cases hf
    exact bk_zret C hP hD hS (by decide) rfl dX0_takeBack_8
theorem c_X0_takeBack_27_22 {N : Nat} {σ : Sg} {z : Int32 × Sg} (hX : xOK g X) (hf : f_X0_takeBack_27_22 N σ = some z) : MetI l yX0_takeBack (Cond.code yX0_takeBack cX0_takeBack 2 (some .boolean) :: wsA) rm_X0_takeBack_27_22 cw g X [.ref (g.2.2 27), .ref (g.2.2 22)] σ z.1 z.2 :=
  MetI_of hX (by decide) (Nat.le_of_ble_eq_true rfl) (fun p e s m args below meth c A C => b_X0_takeBack_27_22 C hf)
-- X11_undo_0: undo()I
abbrev rm_X11_undo_0 : Room := { frames := 5, cells := 0, slots := 0, locals := 115 }
theorem nd_X11_undo : yX11_undo.cls ≠ "java/lang/invoke/MethodHandle" ∧ yX11_undo.cls ≠ "java/lang/invoke/VarHandle" ∧ (parseMethodDescriptor yX11_undo.desc).map (fun d => d.parameters.length) = some 0 := by decide +kernel
def f_X11_undo_0 (N : Nat) (σ : Sg) : Option (Int32 × Sg) :=
(f_X0_takeBack_27_22 N σ).bind fun q1 =>
if q1.1 = 0 then (some ((-1 : Int32), (q1.2)))
else ((f_X6_build_47_26 N (q1.2)).bind fun q2 =>
some ((q2 27 0), q2))
set_option maxHeartbeats 4000000 in
set_option maxRecDepth 100000 in
theorem b_X11_undo_0 {N : Nat} {σ : Sg} {z : Int32 × Sg} (C : Cx p s m args meth c cX11_undo 1 (some .int) RX11 g A X) (hf : f_X11_undo_0 N σ = some z) : Bk cw p l e rm_X11_undo_0 s m args below meth c 1 g A (MQ below (qI cw g A z.1 z.2) args s 0 0 A) 0 0 0 [(0, .ref (g.2.2 0))] [] σ := by
  obtain ⟨hx, hb, hr, hml, hown, hts, hK, hlocks, hXX, hA, hXo⟩ := id C
  intro H locs ls hP hD hS hl
  unfold f_X11_undo_0 at hf
  refine lv_aload_n hx hb dX11_undo_0 rfl (lv_at hl 0 rfl) ?_
  refine bk_get (wf := cw) (q0 := 0) (ci := 10) (k := 4) (v := .ref (g.2.2 21)) C hP wl_X11 rfl rfl (by decide) wa_27 rfl rfl dX11_undo_1 ?_
  refine bk_get (wf := cw) (q0 := 21) (ci := 1) (k := 1) (v := .ref (g.2.2 27)) C hP wl_X1 rfl rfl (by decide) wa_222 rfl rfl dX11_undo_4 ?_
  refine lv_aload_n hx hb dX11_undo_7 rfl (lv_at hl 0 rfl) ?_
  refine bk_get (wf := cw) (q0 := 0) (ci := 10) (k := 4) (v := .ref (g.2.2 21)) C hP wl_X11 rfl rfl (by decide) wa_27 rfl rfl dX11_undo_8 ?_
  refine bk_get (wf := cw) (q0 := 21) (ci := 1) (k := 0) (v := .ref (g.2.2 22)) C hP wl_X1 rfl rfl (by decide) wa_221 rfl rfl dX11_undo_11 ?_
  obtain ⟨q1, hq1, hf⟩ := bi_s hf
  refine bk_VI (wf := cw) (q0 := 27) (ci := 0) (rest := []) [.ref (g.2.2 22)] C hP hD hS hl.1 (c_X0_takeBack_27_22 hXo hq1) (cwA_V 1 hts wa_998 wa_995 wa_996 wa_997 wa_97 rfl rfl nd_X0_takeBack ⟨Nat.le_of_ble_eq_true rfl, Nat.le_of_ble_eq_true rfl⟩) rfl rfl rfl rfl (Nat.le_of_ble_eq_true rfl) dX11_undo_14 ⟨Nat.le_of_ble_eq_true rfl, Nat.le_of_ble_eq_true rfl⟩ (fun H locs hP hD hS => ?_)
  refine lv_if_ne (tgt := 22) hx hb dX11_undo_17 (by decide) (fun t17 => ?_) (fun t17 => ?_)
  · have hf := (if_neg t17).symm.trans hf
    refine lv_aload_n hx hb dX11_undo_22 rfl (lv_at hl 0 rfl) ?_
    refine bk_get (wf := cw) (q0 := 0) (ci := 10) (k := 7) (v := .ref (g.2.2 47)) C hP wl_X11 rfl rfl (by decide) wa_33 rfl rfl dX11_undo_23 ?_
    refine lv_aload_n hx hb dX11_undo_26 rfl (lv_at hl 0 rfl) ?_
    refine bk_get (wf := cw) (q0 := 0) (ci := 10) (k := 4) (v := .ref (g.2.2 21)) C hP wl_X11 rfl rfl (by decide) wa_27 rfl rfl dX11_undo_27 ?_
    refine bk_get (wf := cw) (q0 := 21) (ci := 1) (k := 0) (v := .ref (g.2.2 22)) C hP wl_X1 rfl rfl (by decide) wa_221 rfl rfl dX11_undo_30 ?_
    refine bk_get (wf := cw) (q0 := 22) (ci := 7) (k := 5) (v := .ref (g.2.2 26)) C hP wl_X7 rfl rfl (by decide) wa_224 rfl rfl dX11_undo_33 ?_
    obtain ⟨q2, hq2, hf⟩ := bi_s hf
    refine bk_VV (wf := cw) (q0 := 47) (ci := 6) (rest := []) [.ref (g.2.2 26)] C hP hD hS hl.1 (c_X6_build_47_26 hXo hq2) (cwA_V 1 hts wa_472 wa_469 wa_470 wa_471 wa_32 rfl rfl nd_X6_build ⟨Nat.le_of_ble_eq_true rfl, Nat.le_of_ble_eq_true rfl⟩) rfl rfl rfl rfl (Nat.le_of_ble_eq_true rfl) dX11_undo_36 ⟨Nat.le_of_ble_eq_true rfl, Nat.le_of_ble_eq_true rfl⟩ (fun H locs hP hD hS => ?_)
    refine lv_aload_n hx hb dX11_undo_39 rfl (lv_at hl 0 rfl) ?_
    refine bk_get (wf := cw) (q0 := 0) (ci := 10) (k := 4) (v := .ref (g.2.2 21)) C hP wl_X11 rfl rfl (by decide) wa_27 rfl rfl dX11_undo_40 ?_
    refine bk_get (wf := cw) (q0 := 21) (ci := 1) (k := 1) (v := .ref (g.2.2 27)) C hP wl_X1 rfl rfl (by decide) wa_222 rfl rfl dX11_undo_43 ?_
    refine bk_get (wf := cw) (q0 := 27) (ci := 0) (k := 0) (v := .int (q2 27 0)) C hP wl_X0 rfl rfl (by decide) wa_649 rfl rfl dX11_undo_46 ?_
    cases hf
    exact bk_iret C hP hD hS rfl dX11_undo_49
  · have hf := (if_pos t17).symm.trans hf
    refine lv_iconst (v := (-1 : Int32)) hx hb dX11_undo_20 (by decide) ?_
    cases hf
    exact bk_iret C hP hD hS rfl dX11_undo_21
theorem c_X11_undo_0 {N : Nat} {σ : Sg} {z : Int32 × Sg} (hX : xOK g X) (hf : f_X11_undo_0 N σ = some z) : MetI l yX11_undo (Cond.code yX11_undo cX11_undo 1 (some .int) :: wsA) rm_X11_undo_0 cw g X [.ref (g.2.2 0)] σ z.1 z.2 :=
  MetI_of hX (by decide) (Nat.le_of_ble_eq_true rfl) (fun p e s m args below meth c A C => b_X11_undo_0 C hf)
-- X11_nodding_0: nodding(I)I
abbrev rm_X11_nodding_0 : Room := { frames := 7, cells := 1, slots := 6, locals := 144 }
theorem nd_X11_nodding : yX11_nodding.cls ≠ "java/lang/invoke/MethodHandle" ∧ yX11_nodding.cls ≠ "java/lang/invoke/VarHandle" ∧ (parseMethodDescriptor yX11_nodding.desc).map (fun d => d.parameters.length) = some 1 := by decide +kernel
def s_X11_nodding_0_h25 (N : Nat) (x1 : Int32) (x2 : Int32) (x3 : Int32) (σ : Sg) : Option (Nat × Int32 × Int32 × Sg) :=
if x1 < x3 then (some (1, x2, 0, σ))
else ((f_X2_go_55 N σ).bind fun q1 =>
bd q1.1 fun v2 =>
bd (x3 + (1 : Int32)) fun v3 =>
some (0, v2, v3, (q1.2)))
set_option maxHeartbeats 4000000 in
set_option maxRecDepth 100000 in
theorem e_X11_nodding_0_h25 {N : Nat} {x1 : Int32} {x2 : Int32} {x3 : Int32} {σ : Sg} {z : Nat × Int32 × Int32 × Sg} (C : Cx p s m args meth c cX11_nodding 4 (some .int) RX11 g A X) (hex : ∀ x ∈ c.exceptionTable.toList, False) (hst : l.stackTraces = false) (hf : s_X11_nodding_0_h25 N x1 x2 x3 σ = some z) (k0 : z.1 = 0 → Bk cw p l e rm_X11_nodding_0 s m args below meth c 4 g A Q 1 6 25 [(0, .ref (g.2.2 0)), (1, .int x1), (2, .int z.2.1), (3, .int z.2.2.1)] [] z.2.2.2) (k : ¬ z.1 = 0 → Bk cw p l e rm_X11_nodding_0 s m args below meth c 4 g A Q 1 6 44 [(2, .int z.2.1)] [] z.2.2.2) : Bk cw p l e rm_X11_nodding_0 s m args below meth c 4 g A Q 1 6 25 [(0, .ref (g.2.2 0)), (1, .int x1), (2, .int x2), (3, .int x3)] [] σ := by
  obtain ⟨hx, hb, hr, hml, hown, hts, hK, hlocks, hXX, hA, hXo⟩ := id C
  intro H locs ls hP hD hS hl
  unfold s_X11_nodding_0_h25 at hf
  refine lv_iload_n hx hb dX11_nodding_25 rfl (lv_at hl 3 rfl) ?_
  refine lv_iload_n hx hb dX11_nodding_26 rfl (lv_at hl 1 rfl) ?_
  refine lv_icmp_gt (tgt := 44) hx hb dX11_nodding_27 (by decide) (fun t27 => ?_) (fun t27 => ?_)
  · have hf := (if_pos t27).symm.trans hf
    cases hf
    exact (k (show ¬ (1 : Nat) = 0 by decide)) H locs ls hP hD hS (lv_sub hl [2] rfl)
  · have hf := (if_neg t27).symm.trans hf
    refine lv_aload_n hx hb dX11_nodding_30 rfl (lv_at hl 0 rfl) ?_
    refine bk_get (wf := cw) (q0 := 0) (ci := 10) (k := 10) (v := .ref (g.2.2 55)) C hP wl_X11 rfl rfl (by decide) wa_42 rfl rfl dX11_nodding_31 ?_
    obtain ⟨q1, hq1, hf⟩ := bi_s hf
    refine bk_VI (wf := cw) (q0 := 55) (ci := 2) (rest := []) [] C hP hD hS hl.1 (c_X2_go_55 hXo hq1) (cwA_V 0 hts wa_833 wa_830 wa_831 wa_832 wa_41 rfl rfl nd_X2_go ⟨Nat.le_of_ble_eq_true rfl, Nat.le_of_ble_eq_true rfl⟩) rfl rfl rfl rfl (Nat.le_of_ble_eq_true rfl) dX11_nodding_34 ⟨Nat.le_of_ble_eq_true rfl, Nat.le_of_ble_eq_true rfl⟩ (fun H locs hP hD hS => ?_)
    obtain ⟨v2, ev2, hf⟩ := bd_s hf
    rw [← ev2]
    refine lv_istore_n (lv' := [(2, .int v2), (0, .ref (g.2.2 0)), (1, .int x1), (3, .int x3)]) hx hb dX11_nodding_37 rfl hl (by decide) rfl (fun ls hl => ?_)
    obtain ⟨v3, ev3, hf⟩ := bd_s hf
    refine lv_iinc (v := v3) (lv' := [(3, .int v3), (2, .int v2), (0, .ref (g.2.2 0)), (1, .int x1)]) hx hb dX11_nodding_38 hl (k := 3) rfl (by rw [ev3]; rfl) (by decide) rfl (fun ls hl => ?_)
    refine lv_goto (tgt := 25) hx hb dX11_nodding_41 (by decide) ?_
    cases hf
    exact k0 rfl H locs ls hP hD hS (lv_sub hl [2, 3, 1, 0] rfl)
theorem lp_X11_nodding_0_h25 {N : Nat} {n : Nat} {x1 : Int32} {x2 : Int32} {x3 : Int32} {σ : Sg} {z : Nat × Int32 × Int32 × Sg} (C : Cx p s m args meth c cX11_nodding 4 (some .int) RX11 g A X) (hex : ∀ x ∈ c.exceptionTable.toList, False) (hst : l.stackTraces = false) (hz : it (fun q => s_X11_nodding_0_h25 N x1 q.1 q.2.1 q.2.2) n (x2, x3, σ) = some z) (k : Bk cw p l e rm_X11_nodding_0 s m args below meth c 4 g A Q 1 6 44 [(2, .int z.2.1)] [] z.2.2.2) : Bk cw p l e rm_X11_nodding_0 s m args below meth c 4 g A Q 1 6 25 [(0, .ref (g.2.2 0)), (1, .int x1), (2, .int x2), (3, .int x3)] [] σ :=
  it_W (S := Int32 × Int32 × Sg) (fun q => Bk cw p l e rm_X11_nodding_0 s m args below meth c 4 g A Q 1 6 25 [(0, .ref (g.2.2 0)), (1, .int x1), (2, .int q.1), (3, .int q.2.1)] [] q.2.2) (fun z => Bk cw p l e rm_X11_nodding_0 s m args below meth c 4 g A Q 1 6 44 [(2, .int z.2.1)] [] z.2.2.2) (fun q z hq k0 k => e_X11_nodding_0_h25 C hex hst hq k0 k) n (x2, x3, σ) z hz k
def f_X11_nodding_0 (N : Nat) (x1 : Int32) (σ : Sg) : Option (Zt) :=
(f_X11_needWithin N x1 (1 : Int32) (60 : Int32) σ).bind fun q4 =>
if q4.1 = 0 then ((f_X2_start_55_22 N (q4.2.2)).bind fun q5 =>
(it (fun q => s_X11_nodding_0_h25 N x1 q.1 q.2.1 q.2.2) N ((0 : Int32), (1 : Int32), q5)).bind fun z6 =>
some (0, (z6.2.1), (z6.2.2.2)))
else some (q4.1, 0, q4.2.2)
set_option maxHeartbeats 4000000 in
set_option maxRecDepth 100000 in
theorem b_X11_nodding_0 {N : Nat} {x1 : Int32} {σ : Sg} {z : Zt} (C : Cx p s m args meth c cX11_nodding 4 (some .int) RX11 g A X) (hex : ∀ x ∈ c.exceptionTable.toList, False) (hst : l.stackTraces = false) (hf : f_X11_nodding_0 N x1 σ = some z) : Bk cw p l e rm_X11_nodding_0 s m args below meth c 4 g A (vx_MQ below (qTi cw g A z) (xT cw g A z) args s 1 6 A) 0 0 0 [(0, .ref (g.2.2 0)), (1, .int x1)] [] σ := by
  obtain ⟨hx, hb, hr, hml, hown, hts, hK, hlocks, hXX, hA, hXo⟩ := id C
  intro H locs ls hP hD hS hl
  unfold f_X11_nodding_0 at hf
  refine lv_iload_n hx hb dX11_nodding_0 rfl (lv_at hl 1 rfl) ?_
  refine lv_iconst (v := (1 : Int32)) hx hb dX11_nodding_1 (by decide) ?_
  refine lv_bipush (v := (60 : Int32)) hx hb dX11_nodding_2 (by decide) ?_
  obtain ⟨q4, hq4, hf⟩ := bi_s hf
  refine bk_TS (wf := cw) (rest := []) [.int x1, .int (1 : Int32), .int (60 : Int32)] C hex hP hD hS hl.1 (c_X11_needWithin hXo hst hq4) (cwA_S 3 hts wa_1020 wa_1018 wa_1019 wa_2 rfl rfl nd_X11_needWithin ⟨Nat.le_of_ble_eq_true rfl, Nat.le_of_ble_eq_true rfl⟩) rfl rfl (Nat.le_of_ble_eq_true rfl) dX11_nodding_4 ⟨Nat.le_of_ble_eq_true rfl, Nat.le_of_ble_eq_true rfl⟩ ⟨Nat.le_of_ble_eq_true rfl, Nat.le_of_ble_eq_true rfl⟩ (fun h0 => by have hf := (if_neg h0).symm.trans hf; cases hf; exact ⟨rfl, rfl⟩) (fun h0 H locs hP hD hS => ?_)
  have hf := (if_pos h0).symm.trans hf
  refine lv_aload_n hx hb dX11_nodding_7 rfl (lv_at hl 0 rfl) ?_
  refine bk_get (wf := cw) (q0 := 0) (ci := 10) (k := 10) (v := .ref (g.2.2 55)) C hP wl_X11 rfl rfl (by decide) wa_42 rfl rfl dX11_nodding_8 ?_
  refine lv_aload_n hx hb dX11_nodding_11 rfl (lv_at hl 0 rfl) ?_
  refine bk_get (wf := cw) (q0 := 0) (ci := 10) (k := 4) (v := .ref (g.2.2 21)) C hP wl_X11 rfl rfl (by decide) wa_27 rfl rfl dX11_nodding_12 ?_
  refine bk_get (wf := cw) (q0 := 21) (ci := 1) (k := 0) (v := .ref (g.2.2 22)) C hP wl_X1 rfl rfl (by decide) wa_221 rfl rfl dX11_nodding_15 ?_
  obtain ⟨q5, hq5, hf⟩ := bi_s hf
  refine bk_VV (wf := cw) (q0 := 55) (ci := 2) (rest := []) [.ref (g.2.2 22)] C hP hD hS hl.1 (c_X2_start_55_22 hXo hq5) (cwA_V 1 hts wa_825 wa_822 wa_823 wa_824 wa_41 rfl rfl nd_X2_start ⟨Nat.le_of_ble_eq_true rfl, Nat.le_of_ble_eq_true rfl⟩) rfl rfl rfl rfl (Nat.le_of_ble_eq_true rfl) dX11_nodding_18 ⟨Nat.le_of_ble_eq_true rfl, Nat.le_of_ble_eq_true rfl⟩ (fun H locs hP hD hS => ?_)
  refine lv_iconst (v := (0 : Int32)) hx hb dX11_nodding_21 (by decide) ?_
  refine lv_istore_n (lv' := [(2, .int (0 : Int32)), (0, .ref (g.2.2 0)), (1, .int x1)]) hx hb dX11_nodding_22 rfl hl (by decide) rfl (fun ls hl => ?_)
  refine lv_iconst (v := (1 : Int32)) hx hb dX11_nodding_23 (by decide) ?_
  refine lv_istore_n (lv' := [(3, .int (1 : Int32)), (2, .int (0 : Int32)), (0, .ref (g.2.2 0)), (1, .int x1)]) hx hb dX11_nodding_24 rfl hl (by decide) rfl (fun ls hl => ?_)
  obtain ⟨z6, hz6, hf⟩ := bi_s hf
  refine lp_X11_nodding_0_h25 C hex hst hz6 ?_ H locs ls hP hD hS (lv_sub hl [2, 3, 1, 0] rfl)
  intro H locs ls hP hD hS hl
  refine lv_iload_n hx hb dX11_nodding_44 rfl (lv_at hl 0 rfl) ?_
  exact bk_iretT C hP hD hS hf (Nat.le_of_ble_eq_true rfl) (Nat.le_of_ble_eq_true rfl) dX11_nodding_45
theorem c_X11_nodding_0 {N : Nat} {x1 : Int32} {σ : Sg} {z : Zt} (hX : xOK g X) (hst : l.stackTraces = false) (hf : f_X11_nodding_0 N x1 σ = some z) : MetTi l yX11_nodding (Cond.code yX11_nodding cX11_nodding 4 (some .int) :: wsA) rm_X11_nodding_0 1 6 cw g X [.ref (g.2.2 0), .int x1] σ z :=
  MetTi_of hX (by decide) (Nat.le_of_ble_eq_true rfl) (fun p e s m args below meth c A C hex => b_X11_nodding_0 C hex hst hf)
-- X11_then_0: then(III)I
abbrev rm_X11_then_0 : Room := { frames := 7, cells := 3, slots := 18, locals := 144 }
theorem nd_X11_then : yX11_then.cls ≠ "java/lang/invoke/MethodHandle" ∧ yX11_then.cls ≠ "java/lang/invoke/VarHandle" ∧ (parseMethodDescriptor yX11_then.desc).map (fun d => d.parameters.length) = some 3 := by decide +kernel
def s_X11_then_0_h34 (N : Nat) (x1 : Int32) (x2 : Int32) (x3 : Int32) (x4 : Int32) (σ : Sg) : Option (Nat × Int32 × Sg) :=
if x2 < x4 then (some (1, 0, σ))
else ((f_X2_go_55 N σ).bind fun q1 =>
bd (x4 + (1 : Int32)) fun v2 =>
some (0, v2, (q1.2)))
set_option maxHeartbeats 4000000 in
set_option maxRecDepth 100000 in
theorem e_X11_then_0_h34 {N : Nat} {x1 : Int32} {x2 : Int32} {x3 : Int32} {x4 : Int32} {σ : Sg} {z : Nat × Int32 × Sg} (C : Cx p s m args meth c cX11_then 5 (some .int) RX11 g A X) (hex : ∀ x ∈ c.exceptionTable.toList, False) (hst : l.stackTraces = false) (hf : s_X11_then_0_h34 N x1 x2 x3 x4 σ = some z) (k0 : z.1 = 0 → Bk cw p l e rm_X11_then_0 s m args below meth c 5 g A Q 3 18 34 [(0, .ref (g.2.2 0)), (1, .int x1), (2, .int x2), (3, .int x3), (4, .int z.2.1)] [] z.2.2) (k : ¬ z.1 = 0 → Bk cw p l e rm_X11_then_0 s m args below meth c 5 g A Q 3 18 54 [(0, .ref (g.2.2 0)), (1, .int x1), (3, .int x3)] [] z.2.2) : Bk cw p l e rm_X11_then_0 s m args below meth c 5 g A Q 3 18 34 [(0, .ref (g.2.2 0)), (1, .int x1), (2, .int x2), (3, .int x3), (4, .int x4)] [] σ := by
  obtain ⟨hx, hb, hr, hml, hown, hts, hK, hlocks, hXX, hA, hXo⟩ := id C
  intro H locs ls hP hD hS hl
  unfold s_X11_then_0_h34 at hf
  refine lv_iload hx hb dX11_then_34 (lv_at hl 4 rfl) ?_
  refine lv_iload_n hx hb dX11_then_36 rfl (lv_at hl 2 rfl) ?_
  refine lv_icmp_gt (tgt := 54) hx hb dX11_then_37 (by decide) (fun t37 => ?_) (fun t37 => ?_)
  · have hf := (if_pos t37).symm.trans hf
    cases hf
    exact (k (show ¬ (1 : Nat) = 0 by decide)) H locs ls hP hD hS (lv_sub hl [0, 1, 3] rfl)
  · have hf := (if_neg t37).symm.trans hf
    refine lv_aload_n hx hb dX11_then_40 rfl (lv_at hl 0 rfl) ?_
    refine bk_get (wf := cw) (q0 := 0) (ci := 10) (k := 10) (v := .ref (g.2.2 55)) C hP wl_X11 rfl rfl (by decide) wa_42 rfl rfl dX11_then_41 ?_
    obtain ⟨q1, hq1, hf⟩ := bi_s hf
    refine bk_VI (wf := cw) (q0 := 55) (ci := 2) (rest := []) [] C hP hD hS hl.1 (c_X2_go_55 hXo hq1) (cwA_V 0 hts wa_833 wa_830 wa_831 wa_832 wa_41 rfl rfl nd_X2_go ⟨Nat.le_of_ble_eq_true rfl, Nat.le_of_ble_eq_true rfl⟩) rfl rfl rfl rfl (Nat.le_of_ble_eq_true rfl) dX11_then_44 ⟨Nat.le_of_ble_eq_true rfl, Nat.le_of_ble_eq_true rfl⟩ (fun H locs hP hD hS => ?_)
    refine lv_pop hx hb dX11_then_47 rfl ?_
    obtain ⟨v2, ev2, hf⟩ := bd_s hf
    refine lv_iinc (v := v2) (lv' := [(4, .int v2), (0, .ref (g.2.2 0)), (1, .int x1), (2, .int x2), (3, .int x3)]) hx hb dX11_then_48 hl (k := 4) rfl (by rw [ev2]; rfl) (by decide) rfl (fun ls hl => ?_)
    refine lv_goto (tgt := 34) hx hb dX11_then_51 (by decide) ?_
    cases hf
    exact k0 rfl H locs ls hP hD hS (lv_sub hl [1, 2, 3, 4, 0] rfl)
theorem lp_X11_then_0_h34 {N : Nat} {n : Nat} {x1 : Int32} {x2 : Int32} {x3 : Int32} {x4 : Int32} {σ : Sg} {z : Nat × Int32 × Sg} (C : Cx p s m args meth c cX11_then 5 (some .int) RX11 g A X) (hex : ∀ x ∈ c.exceptionTable.toList, False) (hst : l.stackTraces = false) (hz : it (fun q => s_X11_then_0_h34 N x1 x2 x3 q.1 q.2) n (x4, σ) = some z) (k : Bk cw p l e rm_X11_then_0 s m args below meth c 5 g A Q 3 18 54 [(0, .ref (g.2.2 0)), (1, .int x1), (3, .int x3)] [] z.2.2) : Bk cw p l e rm_X11_then_0 s m args below meth c 5 g A Q 3 18 34 [(0, .ref (g.2.2 0)), (1, .int x1), (2, .int x2), (3, .int x3), (4, .int x4)] [] σ :=
  it_W (S := Int32 × Sg) (fun q => Bk cw p l e rm_X11_then_0 s m args below meth c 5 g A Q 3 18 34 [(0, .ref (g.2.2 0)), (1, .int x1), (2, .int x2), (3, .int x3), (4, .int q.1)] [] q.2) (fun z => Bk cw p l e rm_X11_then_0 s m args below meth c 5 g A Q 3 18 54 [(0, .ref (g.2.2 0)), (1, .int x1), (3, .int x3)] [] z.2.2) (fun q z hq k0 k => e_X11_then_0_h34 C hex hst hq k0 k) n (x4, σ) z hz k
def f_X11_then_0 (N : Nat) (x1 : Int32) (x2 : Int32) (x3 : Int32) (σ : Sg) : Option (Zt) :=
(f_X11_needFarm_0 N x1 σ).bind fun q3 =>
if q3.1 = 0 then ((f_X11_needWhat N x3 (1 : Int32) (q3.2.2)).bind fun q4 =>
if q4.1 = 0 then ((f_X11_needWithin N x2 (0 : Int32) (60 : Int32) (q4.2.2)).bind fun q5 =>
if q5.1 = 0 then ((f_X2_start_55_22 N (q5.2.2)).bind fun q6 =>
(it (fun q => s_X11_then_0_h34 N x1 x2 x3 q.1 q.2) N ((1 : Int32), q6)).bind fun z7 =>
if x3 = 0 then (if (x1 < 0 ∨ 9 ≤ x1.toNatClampNeg) then none else
some (0, ((z7.2.2) 57 x1.toNatClampNeg), (z7.2.2)))
else (if (x1 < 0 ∨ 9 ≤ x1.toNatClampNeg) then none else
some (0, ((z7.2.2) 59 x1.toNatClampNeg), (z7.2.2))))
else some (q5.1, 0, q5.2.2))
else some (q4.1, 0, q4.2.2))
else some (q3.1, 0, q3.2.2)
set_option maxHeartbeats 4000000 in
set_option maxRecDepth 100000 in
theorem b_X11_then_0 {N : Nat} {x1 : Int32} {x2 : Int32} {x3 : Int32} {σ : Sg} {z : Zt} (C : Cx p s m args meth c cX11_then 5 (some .int) RX11 g A X) (hex : ∀ x ∈ c.exceptionTable.toList, False) (hst : l.stackTraces = false) (hf : f_X11_then_0 N x1 x2 x3 σ = some z) : Bk cw p l e rm_X11_then_0 s m args below meth c 5 g A (vx_MQ below (qTi cw g A z) (xT cw g A z) args s 3 18 A) 0 0 0 [(0, .ref (g.2.2 0)), (1, .int x1), (2, .int x2), (3, .int x3)] [] σ := by
  obtain ⟨hx, hb, hr, hml, hown, hts, hK, hlocks, hXX, hA, hXo⟩ := id C
  intro H locs ls hP hD hS hl
  unfold f_X11_then_0 at hf
  refine lv_aload_n hx hb dX11_then_0 rfl (lv_at hl 0 rfl) ?_
  refine lv_iload_n hx hb dX11_then_1 rfl (lv_at hl 1 rfl) ?_
  obtain ⟨q3, hq3, hf⟩ := bi_s hf
  refine bk_TV (wf := cw) (q0 := 0) (ci := 10) (rest := []) [.int x1] C hex hP hD hS hl.1 (c_X11_needFarm_0 hXo hst hq3) (cwA_V 1 hts wa_791 wa_788 wa_789 wa_790 wa_2 rfl rfl nd_X11_needFarm ⟨Nat.le_of_ble_eq_true rfl, Nat.le_of_ble_eq_true rfl⟩) rfl rfl rfl rfl (Nat.le_of_ble_eq_true rfl) dX11_then_2 ⟨Nat.le_of_ble_eq_true rfl, Nat.le_of_ble_eq_true rfl⟩ ⟨Nat.le_of_ble_eq_true rfl, Nat.le_of_ble_eq_true rfl⟩ (fun h0 => by have hf := (if_neg h0).symm.trans hf; cases hf; exact ⟨rfl, rfl⟩) (fun h0 H locs hP hD hS => ?_)
  have hf := (if_pos h0).symm.trans hf
  refine lv_iload_n hx hb dX11_then_5 rfl (lv_at hl 3 rfl) ?_
  refine lv_iconst (v := (1 : Int32)) hx hb dX11_then_6 (by decide) ?_
  obtain ⟨q4, hq4, hf⟩ := bi_s hf
  refine bk_TS (wf := cw) (rest := []) [.int x3, .int (1 : Int32)] C hex hP hD hS hl.1 (c_X11_needWhat hXo hst hq4) (cwA_S 2 hts wa_1035 wa_1033 wa_1034 wa_2 rfl rfl nd_X11_needWhat ⟨Nat.le_of_ble_eq_true rfl, Nat.le_of_ble_eq_true rfl⟩) rfl rfl (Nat.le_of_ble_eq_true rfl) dX11_then_7 ⟨Nat.le_of_ble_eq_true rfl, Nat.le_of_ble_eq_true rfl⟩ ⟨Nat.le_of_ble_eq_true rfl, Nat.le_of_ble_eq_true rfl⟩ (fun h0 => by have hf := (if_neg h0).symm.trans hf; cases hf; exact ⟨rfl, rfl⟩) (fun h0 H locs hP hD hS => ?_)
  have hf := (if_pos h0).symm.trans hf
  refine lv_iload_n hx hb dX11_then_10 rfl (lv_at hl 2 rfl) ?_
  refine lv_iconst (v := (0 : Int32)) hx hb dX11_then_11 (by decide) ?_
  refine lv_bipush (v := (60 : Int32)) hx hb dX11_then_12 (by decide) ?_
  obtain ⟨q5, hq5, hf⟩ := bi_s hf
  refine bk_TS (wf := cw) (rest := []) [.int x2, .int (0 : Int32), .int (60 : Int32)] C hex hP hD hS hl.1 (c_X11_needWithin hXo hst hq5) (cwA_S 3 hts wa_1020 wa_1018 wa_1019 wa_2 rfl rfl nd_X11_needWithin ⟨Nat.le_of_ble_eq_true rfl, Nat.le_of_ble_eq_true rfl⟩) rfl rfl (Nat.le_of_ble_eq_true rfl) dX11_then_14 ⟨Nat.le_of_ble_eq_true rfl, Nat.le_of_ble_eq_true rfl⟩ ⟨Nat.le_of_ble_eq_true rfl, Nat.le_of_ble_eq_true rfl⟩ (fun h0 => by have hf := (if_neg h0).symm.trans hf; cases hf; exact ⟨rfl, rfl⟩) (fun h0 H locs hP hD hS => ?_)
  have hf := (if_pos h0).symm.trans hf
  refine lv_aload_n hx hb dX11_then_17 rfl (lv_at hl 0 rfl) ?_
  refine bk_get (wf := cw) (q0 := 0) (ci := 10) (k := 10) (v := .ref (g.2.2 55)) C hP wl_X11 rfl rfl (by decide) wa_42 rfl rfl dX11_then_18 ?_
  refine lv_aload_n hx hb dX11_then_21 rfl (lv_at hl 0 rfl) ?_
  refine bk_get (wf := cw) (q0 := 0) (ci := 10) (k := 4) (v := .ref (g.2.2 21)) C hP wl_X11 rfl rfl (by decide) wa_27 rfl rfl dX11_then_22 ?_
  refine bk_get (wf := cw) (q0 := 21) (ci := 1) (k := 0) (v := .ref (g.2.2 22)) C hP wl_X1 rfl rfl (by decide) wa_221 rfl rfl dX11_then_25 ?_
  obtain ⟨q6, hq6, hf⟩ := bi_s hf
  refine bk_VV (wf := cw) (q0 := 55) (ci := 2) (rest := []) [.ref (g.2.2 22)] C hP hD hS hl.1 (c_X2_start_55_22 hXo hq6) (cwA_V 1 hts wa_825 wa_822 wa_823 wa_824 wa_41 rfl rfl nd_X2_start ⟨Nat.le_of_ble_eq_true rfl, Nat.le_of_ble_eq_true rfl⟩) rfl rfl rfl rfl (Nat.le_of_ble_eq_true rfl) dX11_then_28 ⟨Nat.le_of_ble_eq_true rfl, Nat.le_of_ble_eq_true rfl⟩ (fun H locs hP hD hS => ?_)
  refine lv_iconst (v := (1 : Int32)) hx hb dX11_then_31 (by decide) ?_
  refine lv_istore (lv' := [(4, .int (1 : Int32)), (0, .ref (g.2.2 0)), (1, .int x1), (2, .int x2), (3, .int x3)]) hx hb dX11_then_32 hl (by decide) rfl (fun ls hl => ?_)
  obtain ⟨z7, hz7, hf⟩ := bi_s hf
  refine lp_X11_then_0_h34 C hex hst hz7 ?_ H locs ls hP hD hS (lv_sub hl [1, 2, 3, 4, 0] rfl)
  intro H locs ls hP hD hS hl
  refine lv_iload_n hx hb dX11_then_54 rfl (lv_at hl 2 rfl) ?_
  refine lv_if_ne (tgt := 73) hx hb dX11_then_55 (by decide) (fun t55 => ?_) (fun t55 => ?_)
  · have hf := (if_neg t55).symm.trans hf
    refine lv_aload_n hx hb dX11_then_73 rfl (lv_at hl 0 rfl) ?_
    refine bk_get (wf := cw) (q0 := 0) (ci := 10) (k := 10) (v := .ref (g.2.2 55)) C hP wl_X11 rfl rfl (by decide) wa_42 rfl rfl dX11_then_74 ?_
    refine bk_get (wf := cw) (q0 := 55) (ci := 2) (k := 0) (v := .ref (g.2.2 56)) C hP wl_X2 rfl rfl (by decide) wa_808 rfl rfl dX11_then_77 ?_
    refine bk_get (wf := cw) (q0 := 56) (ci := 7) (k := 4) (v := .ref (g.2.2 59)) C hP wl_X7 rfl rfl (by decide) wa_786 rfl rfl dX11_then_80 ?_
    refine lv_iload_n hx hb dX11_then_83 rfl (lv_at hl 1 rfl) ?_
    obtain ⟨g8, hf⟩ := gd_s hf
    refine bk_iald (wf := cw) (q0 := 59) (n := 9) (j := x1.toNatClampNeg) C hP rfl g8 rfl dX11_then_84 ?_
    exact bk_iretT C hP hD hS hf (Nat.le_of_ble_eq_true rfl) (Nat.le_of_ble_eq_true rfl) dX11_then_85
  · have hf := (if_pos t55).symm.trans hf
    refine lv_aload_n hx hb dX11_then_58 rfl (lv_at hl 0 rfl) ?_
    refine bk_get (wf := cw) (q0 := 0) (ci := 10) (k := 10) (v := .ref (g.2.2 55)) C hP wl_X11 rfl rfl (by decide) wa_42 rfl rfl dX11_then_59 ?_
    refine bk_get (wf := cw) (q0 := 55) (ci := 2) (k := 0) (v := .ref (g.2.2 56)) C hP wl_X2 rfl rfl (by decide) wa_808 rfl rfl dX11_then_62 ?_
    refine bk_get (wf := cw) (q0 := 56) (ci := 7) (k := 2) (v := .ref (g.2.2 57)) C hP wl_X7 rfl rfl (by decide) wa_784 rfl rfl dX11_then_65 ?_
    refine lv_iload_n hx hb dX11_then_68 rfl (lv_at hl 1 rfl) ?_
    obtain ⟨g9, hf⟩ := gd_s hf
    refine bk_iald (wf := cw) (q0 := 57) (n := 9) (j := x1.toNatClampNeg) C hP rfl g9 rfl dX11_then_69 ?_
    refine lv_goto (tgt := 85) hx hb dX11_then_70 (by decide) ?_
    exact bk_iretT C hP hD hS hf (Nat.le_of_ble_eq_true rfl) (Nat.le_of_ble_eq_true rfl) dX11_then_85
theorem c_X11_then_0 {N : Nat} {x1 : Int32} {x2 : Int32} {x3 : Int32} {σ : Sg} {z : Zt} (hX : xOK g X) (hst : l.stackTraces = false) (hf : f_X11_then_0 N x1 x2 x3 σ = some z) : MetTi l yX11_then (Cond.code yX11_then cX11_then 5 (some .int) :: wsA) rm_X11_then_0 3 18 cw g X [.ref (g.2.2 0), .int x1, .int x2, .int x3] σ z :=
  MetTi_of hX (by decide) (Nat.le_of_ble_eq_true rfl) (fun p e s m args below meth c A C hex => b_X11_then_0 C hex hst hf)
-- X2_firstNod_55: firstNod(I)I
abbrev rm_X2_firstNod_55 : Room := { frames := 6, cells := 0, slots := 0, locals := 140 }
theorem nd_X2_firstNod : yX2_firstNod.cls ≠ "java/lang/invoke/MethodHandle" ∧ yX2_firstNod.cls ≠ "java/lang/invoke/VarHandle" ∧ (parseMethodDescriptor yX2_firstNod.desc).map (fun d => d.parameters.length) = some 1 := by decide +kernel
def s_X2_firstNod_55_h2 (N : Nat) (x1 : Int32) (x2 : Int32) (σ : Sg) : Option (Nat × Int32 × Sg) :=
if (60 : Int32) < x2 then (some (2, 0, σ))
else ((f_X2_go_55 N σ).bind fun q1 =>
if ((q1.1 >>> (x1 &&& 31)) &&& (1 : Int32)) = (1 : Int32) then (some (1, x2, (q1.2)))
else (bd (x2 + (1 : Int32)) fun v2 =>
some (0, v2, (q1.2))))
set_option maxHeartbeats 4000000 in
set_option maxRecDepth 100000 in
theorem e_X2_firstNod_55_h2 {N : Nat} {x1 : Int32} {x2 : Int32} {σ : Sg} {z : Nat × Int32 × Sg} (C : Cx p s m args meth c cX2_firstNod 3 (some .int) RX2 g A X) (hf : s_X2_firstNod_55_h2 N x1 x2 σ = some z) (k0 : z.1 = 0 → Bk cw p l e rm_X2_firstNod_55 s m args below meth c 3 g A Q 0 0 2 [(0, .ref (g.2.2 55)), (1, .int x1), (2, .int z.2.1)] [] z.2.2) (k : ¬ z.1 = 0 → ((z.1 = 1 → Bk cw p l e rm_X2_firstNod_55 s m args below meth c 3 g A Q 0 0 20 [(2, .int z.2.1)] [] z.2.2) ∧ (¬ z.1 = 1 → Bk cw p l e rm_X2_firstNod_55 s m args below meth c 3 g A Q 0 0 28 [] [] z.2.2))) : Bk cw p l e rm_X2_firstNod_55 s m args below meth c 3 g A Q 0 0 2 [(0, .ref (g.2.2 55)), (1, .int x1), (2, .int x2)] [] σ := by
  obtain ⟨hx, hb, hr, hml, hown, hts, hK, hlocks, hXX, hA, hXo⟩ := id C
  intro H locs ls hP hD hS hl
  unfold s_X2_firstNod_55_h2 at hf
  refine lv_iload_n hx hb dX2_firstNod_2 rfl (lv_at hl 2 rfl) ?_
  refine lv_bipush (v := (60 : Int32)) hx hb dX2_firstNod_3 (by decide) ?_
  refine lv_icmp_gt (tgt := 28) hx hb dX2_firstNod_5 (by decide) (fun t5 => ?_) (fun t5 => ?_)
  · have hf := (if_pos t5).symm.trans hf
    cases hf
    exact ((k (show ¬ (2 : Nat) = 0 by decide)).2 (show ¬ (2 : Nat) = 1 by decide)) H locs ls hP hD hS (lv_sub hl [] rfl)
  · have hf := (if_neg t5).symm.trans hf
    refine lv_aload_n hx hb dX2_firstNod_8 rfl (lv_at hl 0 rfl) ?_
    obtain ⟨q1, hq1, hf⟩ := bi_s hf
    refine bk_VI (wf := cw) (q0 := 55) (ci := 2) (rest := []) [] C hP hD hS hl.1 (c_X2_go_55 hXo hq1) (cwA_V 0 hts wa_833 wa_1051 wa_831 wa_832 wa_41 rfl rfl nd_X2_go ⟨Nat.le_of_ble_eq_true rfl, Nat.le_of_ble_eq_true rfl⟩) rfl rfl rfl rfl (Nat.le_of_ble_eq_true rfl) dX2_firstNod_9 ⟨Nat.le_of_ble_eq_true rfl, Nat.le_of_ble_eq_true rfl⟩ (fun H locs hP hD hS => ?_)
    refine lv_iload_n hx hb dX2_firstNod_12 rfl (lv_at hl 1 rfl) ?_
    refine lv_ishr hx hb dX2_firstNod_13 ?_
    refine lv_iconst (v := (1 : Int32)) hx hb dX2_firstNod_14 (by decide) ?_
    refine lv_iand hx hb dX2_firstNod_15 ?_
    refine lv_iconst (v := (1 : Int32)) hx hb dX2_firstNod_16 (by decide) ?_
    refine lv_icmp_ne (tgt := 22) hx hb dX2_firstNod_17 (by decide) (fun t17 => ?_) (fun t17 => ?_)
    · have hf := (if_neg t17).symm.trans hf
      obtain ⟨v2, ev2, hf⟩ := bd_s hf
      refine lv_iinc (v := v2) (lv' := [(2, .int v2), (0, .ref (g.2.2 55)), (1, .int x1)]) hx hb dX2_firstNod_22 hl (k := 2) rfl (by rw [ev2]; rfl) (by decide) rfl (fun ls hl => ?_)
      refine lv_goto (tgt := 2) hx hb dX2_firstNod_25 (by decide) ?_
      cases hf
      exact k0 rfl H locs ls hP hD hS (lv_sub hl [1, 2, 0] rfl)
    · have hf := (if_pos t17).symm.trans hf
      cases hf
      exact ((k (show ¬ (1 : Nat) = 0 by decide)).1 rfl) H locs ls hP hD hS (lv_sub hl [2] rfl)
theorem lp_X2_firstNod_55_h2 {N : Nat} {n : Nat} {x1 : Int32} {x2 : Int32} {σ : Sg} {z : Nat × Int32 × Sg} (C : Cx p s m args meth c cX2_firstNod 3 (some .int) RX2 g A X) (hz : it (fun q => s_X2_firstNod_55_h2 N x1 q.1 q.2) n (x2, σ) = some z) (k : ((z.1 = 1 → Bk cw p l e rm_X2_firstNod_55 s m args below meth c 3 g A Q 0 0 20 [(2, .int z.2.1)] [] z.2.2) ∧ (¬ z.1 = 1 → Bk cw p l e rm_X2_firstNod_55 s m args below meth c 3 g A Q 0 0 28 [] [] z.2.2))) : Bk cw p l e rm_X2_firstNod_55 s m args below meth c 3 g A Q 0 0 2 [(0, .ref (g.2.2 55)), (1, .int x1), (2, .int x2)] [] σ :=
  it_W (S := Int32 × Sg) (fun q => Bk cw p l e rm_X2_firstNod_55 s m args below meth c 3 g A Q 0 0 2 [(0, .ref (g.2.2 55)), (1, .int x1), (2, .int q.1)] [] q.2) (fun z => ((z.1 = 1 → Bk cw p l e rm_X2_firstNod_55 s m args below meth c 3 g A Q 0 0 20 [(2, .int z.2.1)] [] z.2.2) ∧ (¬ z.1 = 1 → Bk cw p l e rm_X2_firstNod_55 s m args below meth c 3 g A Q 0 0 28 [] [] z.2.2))) (fun q z hq k0 k => e_X2_firstNod_55_h2 C hq k0 k) n (x2, σ) z hz k
def f_X2_firstNod_55 (N : Nat) (x1 : Int32) (σ : Sg) : Option (Int32 × Sg) :=
(it (fun q => s_X2_firstNod_55_h2 N x1 q.1 q.2) N ((1 : Int32), σ)).bind fun z3 =>
if z3.1 = 1 then (some ((z3.2.1), (z3.2.2)))
else (some ((-1 : Int32), (z3.2.2)))
set_option maxHeartbeats 4000000 in
set_option maxRecDepth 100000 in
theorem b_X2_firstNod_55 {N : Nat} {x1 : Int32} {σ : Sg} {z : Int32 × Sg} (C : Cx p s m args meth c cX2_firstNod 3 (some .int) RX2 g A X) (hf : f_X2_firstNod_55 N x1 σ = some z) : Bk cw p l e rm_X2_firstNod_55 s m args below meth c 3 g A (MQ below (qI cw g A z.1 z.2) args s 0 0 A) 0 0 0 [(0, .ref (g.2.2 55)), (1, .int x1)] [] σ := by
  obtain ⟨hx, hb, hr, hml, hown, hts, hK, hlocks, hXX, hA, hXo⟩ := id C
  intro H locs ls hP hD hS hl
  unfold f_X2_firstNod_55 at hf
  refine lv_iconst (v := (1 : Int32)) hx hb dX2_firstNod_0 (by decide) ?_
  refine lv_istore_n (lv' := [(2, .int (1 : Int32)), (0, .ref (g.2.2 55)), (1, .int x1)]) hx hb dX2_firstNod_1 rfl hl (by decide) rfl (fun ls hl => ?_)
  obtain ⟨z3, hz3, hf⟩ := bi_s hf
  refine lp_X2_firstNod_55_h2 C hz3 ⟨fun t0 => ?_, fun t0 => ?_⟩ H locs ls hP hD hS (lv_sub hl [1, 2, 0] rfl)
  · have hf := (if_pos t0).symm.trans hf
    intro H locs ls hP hD hS hl
    refine lv_iload_n hx hb dX2_firstNod_20 rfl (lv_at hl 0 rfl) ?_
    cases hf
    exact bk_iret C hP hD hS rfl dX2_firstNod_21
  · have hf := (if_neg t0).symm.trans hf
    intro H locs ls hP hD hS hl
    refine lv_iconst (v := (-1 : Int32)) hx hb dX2_firstNod_28 (by decide) ?_
    cases hf
    exact bk_iret C hP hD hS rfl dX2_firstNod_29
theorem c_X2_firstNod_55 {N : Nat} {x1 : Int32} {σ : Sg} {z : Int32 × Sg} (hX : xOK g X) (hf : f_X2_firstNod_55 N x1 σ = some z) : MetI l yX2_firstNod (Cond.code yX2_firstNod cX2_firstNod 3 (some .int) :: wsA) rm_X2_firstNod_55 cw g X [.ref (g.2.2 55), .int x1] σ z.1 z.2 :=
  MetI_of hX (by decide) (Nat.le_of_ble_eq_true rfl) (fun p e s m args below meth c A C => b_X2_firstNod_55 C hf)
-- X11_first_0: first(I)I
abbrev rm_X11_first_0 : Room := { frames := 7, cells := 1, slots := 6, locals := 162 }
theorem nd_X11_first : yX11_first.cls ≠ "java/lang/invoke/MethodHandle" ∧ yX11_first.cls ≠ "java/lang/invoke/VarHandle" ∧ (parseMethodDescriptor yX11_first.desc).map (fun d => d.parameters.length) = some 1 := by decide +kernel
def f_X11_first_0 (N : Nat) (x1 : Int32) (σ : Sg) : Option (Zt) :=
(f_X11_needFarm_0 N x1 σ).bind fun q1 =>
if q1.1 = 0 then ((f_X2_start_55_22 N (q1.2.2)).bind fun q2 =>
(f_X2_firstNod_55 N x1 q2).bind fun q3 =>
some (0, q3.1, (q3.2)))
else some (q1.1, 0, q1.2.2)
set_option maxHeartbeats 4000000 in
set_option maxRecDepth 100000 in
theorem b_X11_first_0 {N : Nat} {x1 : Int32} {σ : Sg} {z : Zt} (C : Cx p s m args meth c cX11_first 2 (some .int) RX11 g A X) (hex : ∀ x ∈ c.exceptionTable.toList, False) (hst : l.stackTraces = false) (hf : f_X11_first_0 N x1 σ = some z) : Bk cw p l e rm_X11_first_0 s m args below meth c 2 g A (vx_MQ below (qTi cw g A z) (xT cw g A z) args s 1 6 A) 0 0 0 [(0, .ref (g.2.2 0)), (1, .int x1)] [] σ := by
  obtain ⟨hx, hb, hr, hml, hown, hts, hK, hlocks, hXX, hA, hXo⟩ := id C
  intro H locs ls hP hD hS hl
  unfold f_X11_first_0 at hf
  refine lv_aload_n hx hb dX11_first_0 rfl (lv_at hl 0 rfl) ?_
  refine lv_iload_n hx hb dX11_first_1 rfl (lv_at hl 1 rfl) ?_
  obtain ⟨q1, hq1, hf⟩ := bi_s hf
  refine bk_TV (wf := cw) (q0 := 0) (ci := 10) (rest := []) [.int x1] C hex hP hD hS hl.1 (c_X11_needFarm_0 hXo hst hq1) (cwA_V 1 hts wa_791 wa_788 wa_789 wa_790 wa_2 rfl rfl nd_X11_needFarm ⟨Nat.le_of_ble_eq_true rfl, Nat.le_of_ble_eq_true rfl⟩) rfl rfl rfl rfl (Nat.le_of_ble_eq_true rfl) dX11_first_2 ⟨Nat.le_of_ble_eq_true rfl, Nat.le_of_ble_eq_true rfl⟩ ⟨Nat.le_of_ble_eq_true rfl, Nat.le_of_ble_eq_true rfl⟩ (fun h0 => by have hf := (if_neg h0).symm.trans hf; cases hf; exact ⟨rfl, rfl⟩) (fun h0 H locs hP hD hS => ?_)
  have hf := (if_pos h0).symm.trans hf
  refine lv_aload_n hx hb dX11_first_5 rfl (lv_at hl 0 rfl) ?_
  refine bk_get (wf := cw) (q0 := 0) (ci := 10) (k := 10) (v := .ref (g.2.2 55)) C hP wl_X11 rfl rfl (by decide) wa_42 rfl rfl dX11_first_6 ?_
  refine lv_aload_n hx hb dX11_first_9 rfl (lv_at hl 0 rfl) ?_
  refine bk_get (wf := cw) (q0 := 0) (ci := 10) (k := 4) (v := .ref (g.2.2 21)) C hP wl_X11 rfl rfl (by decide) wa_27 rfl rfl dX11_first_10 ?_
  refine bk_get (wf := cw) (q0 := 21) (ci := 1) (k := 0) (v := .ref (g.2.2 22)) C hP wl_X1 rfl rfl (by decide) wa_221 rfl rfl dX11_first_13 ?_
  obtain ⟨q2, hq2, hf⟩ := bi_s hf
  refine bk_VV (wf := cw) (q0 := 55) (ci := 2) (rest := []) [.ref (g.2.2 22)] C hP hD hS hl.1 (c_X2_start_55_22 hXo hq2) (cwA_V 1 hts wa_825 wa_822 wa_823 wa_824 wa_41 rfl rfl nd_X2_start ⟨Nat.le_of_ble_eq_true rfl, Nat.le_of_ble_eq_true rfl⟩) rfl rfl rfl rfl (Nat.le_of_ble_eq_true rfl) dX11_first_16 ⟨Nat.le_of_ble_eq_true rfl, Nat.le_of_ble_eq_true rfl⟩ (fun H locs hP hD hS => ?_)
  refine lv_aload_n hx hb dX11_first_19 rfl (lv_at hl 0 rfl) ?_
  refine bk_get (wf := cw) (q0 := 0) (ci := 10) (k := 10) (v := .ref (g.2.2 55)) C hP wl_X11 rfl rfl (by decide) wa_42 rfl rfl dX11_first_20 ?_
  refine lv_iload_n hx hb dX11_first_23 rfl (lv_at hl 1 rfl) ?_
  obtain ⟨q3, hq3, hf⟩ := bi_s hf
  refine bk_VI (wf := cw) (q0 := 55) (ci := 2) (rest := []) [.int x1] C hP hD hS hl.1 (c_X2_firstNod_55 hXo hq3) (cwA_V 1 hts wa_1050 wa_1047 wa_1048 wa_1049 wa_41 rfl rfl nd_X2_firstNod ⟨Nat.le_of_ble_eq_true rfl, Nat.le_of_ble_eq_true rfl⟩) rfl rfl rfl rfl (Nat.le_of_ble_eq_true rfl) dX11_first_24 ⟨Nat.le_of_ble_eq_true rfl, Nat.le_of_ble_eq_true rfl⟩ (fun H locs hP hD hS => ?_)
  exact bk_iretT C hP hD hS hf (Nat.le_of_ble_eq_true rfl) (Nat.le_of_ble_eq_true rfl) dX11_first_27
theorem c_X11_first_0 {N : Nat} {x1 : Int32} {σ : Sg} {z : Zt} (hX : xOK g X) (hst : l.stackTraces = false) (hf : f_X11_first_0 N x1 σ = some z) : MetTi l yX11_first (Cond.code yX11_first cX11_first 2 (some .int) :: wsA) rm_X11_first_0 1 6 cw g X [.ref (g.2.2 0), .int x1] σ z :=
  MetTi_of hX (by decide) (Nat.le_of_ble_eq_true rfl) (fun p e s m args below meth c A C hex => b_X11_first_0 C hex hst hf)
-- X7_whoWaits_56: whoWaits()I
abbrev rm_X7_whoWaits_56 : Room := { frames := 0, cells := 0, slots := 0, locals := 0 }
def f_X7_whoWaits_56_b25 (N : Nat) (x1 : Int32) (x2 : Int32) (σ : Sg) : Option (Nat × Int32 × Int32 × Sg) :=
bd (x2 + (1 : Int32)) fun v1 =>
some (0, x1, v1, σ)
set_option maxHeartbeats 4000000 in
set_option maxRecDepth 100000 in
theorem b_X7_whoWaits_56_b25 {N : Nat} {x1 : Int32} {x2 : Int32} {σ : Sg} {z : Nat × Int32 × Int32 × Sg} (C : Cx p s m args meth c cX7_whoWaits 3 (some .int) RX7 g A X) (hf : f_X7_whoWaits_56_b25 N x1 x2 σ = some z) (k0 : z.1 = 0 → Bk cw p l e rm_X7_whoWaits_56 s m args below meth c 3 g A Q 0 0 4 [(0, .ref (g.2.2 56)), (1, .int z.2.1), (2, .int z.2.2.1)] [] z.2.2.2) (k : ¬ z.1 = 0 → Bk cw p l e rm_X7_whoWaits_56 s m args below meth c 3 g A Q 0 0 31 [(1, .int z.2.1)] [] z.2.2.2) : Bk cw p l e rm_X7_whoWaits_56 s m args below meth c 3 g A Q 0 0 25 [(0, .ref (g.2.2 56)), (1, .int x1), (2, .int x2)] [] σ := by
  obtain ⟨hx, hb, hr, hml, hown, hts, hK, hlocks, hXX, hA, hXo⟩ := id C
  intro H locs ls hP hD hS hl
  unfold f_X7_whoWaits_56_b25 at hf
  obtain ⟨v1, ev1, hf⟩ := bd_s hf
  refine lv_iinc (v := v1) (lv' := [(2, .int v1), (0, .ref (g.2.2 56)), (1, .int x1)]) hx hb dX7_whoWaits_25 hl (k := 2) rfl (by rw [ev1]; rfl) (by decide) rfl (fun ls hl => ?_)
  refine lv_goto (tgt := 4) hx hb dX7_whoWaits_28 (by decide) ?_
  cases hf
  exact k0 rfl H locs ls hP hD hS (lv_sub hl [1, 2, 0] rfl)
def s_X7_whoWaits_56_h4 (N : Nat) (x1 : Int32) (x2 : Int32) (σ : Sg) : Option (Nat × Int32 × Int32 × Sg) :=
if (9 : Int32) ≤ x2 then (some (1, x1, 0, σ))
else (if (x2 < 0 ∨ 9 ≤ x2.toNatClampNeg) then none else
if (σ 57 x2.toNatClampNeg) ≤ 0 then (f_X7_whoWaits_56_b25 N x1 x2 σ)
else (bd (x1 ||| ((1 : Int32) <<< (x2 &&& 31))) fun v3 =>
f_X7_whoWaits_56_b25 N v3 x2 σ))
set_option maxHeartbeats 4000000 in
set_option maxRecDepth 100000 in
theorem e_X7_whoWaits_56_h4 {N : Nat} {x1 : Int32} {x2 : Int32} {σ : Sg} {z : Nat × Int32 × Int32 × Sg} (C : Cx p s m args meth c cX7_whoWaits 3 (some .int) RX7 g A X) (hf : s_X7_whoWaits_56_h4 N x1 x2 σ = some z) (k0 : z.1 = 0 → Bk cw p l e rm_X7_whoWaits_56 s m args below meth c 3 g A Q 0 0 4 [(0, .ref (g.2.2 56)), (1, .int z.2.1), (2, .int z.2.2.1)] [] z.2.2.2) (k : ¬ z.1 = 0 → Bk cw p l e rm_X7_whoWaits_56 s m args below meth c 3 g A Q 0 0 31 [(1, .int z.2.1)] [] z.2.2.2) : Bk cw p l e rm_X7_whoWaits_56 s m args below meth c 3 g A Q 0 0 4 [(0, .ref (g.2.2 56)), (1, .int x1), (2, .int x2)] [] σ := by
  obtain ⟨hx, hb, hr, hml, hown, hts, hK, hlocks, hXX, hA, hXo⟩ := id C
  intro H locs ls hP hD hS hl
  unfold s_X7_whoWaits_56_h4 at hf
  refine lv_iload_n hx hb dX7_whoWaits_4 rfl (lv_at hl 2 rfl) ?_
  refine lv_bipush (v := (9 : Int32)) hx hb dX7_whoWaits_5 (by decide) ?_
  refine lv_icmp_ge (tgt := 31) hx hb dX7_whoWaits_7 (by decide) (fun t7 => ?_) (fun t7 => ?_)
  · have hf := (if_pos t7).symm.trans hf
    cases hf
    exact (k (show ¬ (1 : Nat) = 0 by decide)) H locs ls hP hD hS (lv_sub hl [1] rfl)
  · have hf := (if_neg t7).symm.trans hf
    refine lv_aload_n hx hb dX7_whoWaits_10 rfl (lv_at hl 0 rfl) ?_
    refine bk_get (wf := cw) (q0 := 56) (ci := 7) (k := 2) (v := .ref (g.2.2 57)) C hP wl_X7 rfl rfl (by decide) wa_109 rfl rfl dX7_whoWaits_11 ?_
    refine lv_iload_n hx hb dX7_whoWaits_14 rfl (lv_at hl 2 rfl) ?_
    obtain ⟨g2, hf⟩ := gd_s hf
    refine bk_iald (wf := cw) (q0 := 57) (n := 9) (j := x2.toNatClampNeg) C hP rfl g2 rfl dX7_whoWaits_15 ?_
    refine lv_if_le (tgt := 25) hx hb dX7_whoWaits_16 (by decide) (fun t16 => ?_) (fun t16 => ?_)
    · have hf := (if_pos t16).symm.trans hf
      exact b_X7_whoWaits_56_b25 C hf k0 k H locs ls hP hD hS (lv_sub hl [0, 1, 2] rfl)
    · have hf := (if_neg t16).symm.trans hf
      refine lv_iload_n hx hb dX7_whoWaits_19 rfl (lv_at hl 1 rfl) ?_
      refine lv_iconst (v := (1 : Int32)) hx hb dX7_whoWaits_20 (by decide) ?_
      refine lv_iload_n hx hb dX7_whoWaits_21 rfl (lv_at hl 2 rfl) ?_
      refine lv_ishl hx hb dX7_whoWaits_22 ?_
      refine lv_ior hx hb dX7_whoWaits_23 ?_
      obtain ⟨v3, ev3, hf⟩ := bd_s hf
      rw [← ev3]
      refine lv_istore_n (lv' := [(1, .int v3), (0, .ref (g.2.2 56)), (2, .int x2)]) hx hb dX7_whoWaits_24 rfl hl (by decide) rfl (fun ls hl => ?_)
      exact b_X7_whoWaits_56_b25 C hf k0 k H locs ls hP hD hS (lv_sub hl [1, 0, 2] rfl)
theorem lp_X7_whoWaits_56_h4 {N : Nat} {n : Nat} {x1 : Int32} {x2 : Int32} {σ : Sg} {z : Nat × Int32 × Int32 × Sg} (C : Cx p s m args meth c cX7_whoWaits 3 (some .int) RX7 g A X) (hz : it (fun q => s_X7_whoWaits_56_h4 N q.1 q.2.1 q.2.2) n (x1, x2, σ) = some z) (k : Bk cw p l e rm_X7_whoWaits_56 s m args below meth c 3 g A Q 0 0 31 [(1, .int z.2.1)] [] z.2.2.2) : Bk cw p l e rm_X7_whoWaits_56 s m args below meth c 3 g A Q 0 0 4 [(0, .ref (g.2.2 56)), (1, .int x1), (2, .int x2)] [] σ :=
  it_W (S := Int32 × Int32 × Sg) (fun q => Bk cw p l e rm_X7_whoWaits_56 s m args below meth c 3 g A Q 0 0 4 [(0, .ref (g.2.2 56)), (1, .int q.1), (2, .int q.2.1)] [] q.2.2) (fun z => Bk cw p l e rm_X7_whoWaits_56 s m args below meth c 3 g A Q 0 0 31 [(1, .int z.2.1)] [] z.2.2.2) (fun q z hq k0 k => e_X7_whoWaits_56_h4 C hq k0 k) n (x1, x2, σ) z hz k
def f_X7_whoWaits_56 (N : Nat) (σ : Sg) : Option (Int32 × Sg) :=
(it (fun q => s_X7_whoWaits_56_h4 N q.1 q.2.1 q.2.2) N ((0 : Int32), (0 : Int32), σ)).bind fun z4 =>
some ((z4.2.1), (z4.2.2.2))
set_option maxHeartbeats 4000000 in
set_option maxRecDepth 100000 in
theorem b_X7_whoWaits_56 {N : Nat} {σ : Sg} {z : Int32 × Sg} (C : Cx p s m args meth c cX7_whoWaits 3 (some .int) RX7 g A X) (hf : f_X7_whoWaits_56 N σ = some z) : Bk cw p l e rm_X7_whoWaits_56 s m args below meth c 3 g A (MQ below (qI cw g A z.1 z.2) args s 0 0 A) 0 0 0 [(0, .ref (g.2.2 56))] [] σ := by
  obtain ⟨hx, hb, hr, hml, hown, hts, hK, hlocks, hXX, hA, hXo⟩ := id C
  intro H locs ls hP hD hS hl
  unfold f_X7_whoWaits_56 at hf
  refine lv_iconst (v := (0 : Int32)) hx hb dX7_whoWaits_0 (by decide) ?_
  refine lv_istore_n (lv' := [(1, .int (0 : Int32)), (0, .ref (g.2.2 56))]) hx hb dX7_whoWaits_1 rfl hl (by decide) rfl (fun ls hl => ?_)
  refine lv_iconst (v := (0 : Int32)) hx hb dX7_whoWaits_2 (by decide) ?_
  refine lv_istore_n (lv' := [(2, .int (0 : Int32)), (1, .int (0 : Int32)), (0, .ref (g.2.2 56))]) hx hb dX7_whoWaits_3 rfl hl (by decide) rfl (fun ls hl => ?_)
  obtain ⟨z4, hz4, hf⟩ := bi_s hf
  refine lp_X7_whoWaits_56_h4 C hz4 ?_ H locs ls hP hD hS (lv_sub hl [2, 1, 0] rfl)
  intro H locs ls hP hD hS hl
  refine lv_iload_n hx hb dX7_whoWaits_31 rfl (lv_at hl 0 rfl) ?_
  cases hf
  exact bk_iret C hP hD hS rfl dX7_whoWaits_32
theorem c_X7_whoWaits_56 {N : Nat} {σ : Sg} {z : Int32 × Sg} (hX : xOK g X) (hf : f_X7_whoWaits_56 N σ = some z) : MetI l yX7_whoWaits (Cond.code yX7_whoWaits cX7_whoWaits 3 (some .int) :: wsA) rm_X7_whoWaits_56 cw g X [.ref (g.2.2 56)] σ z.1 z.2 :=
  MetI_of hX (by decide) (Nat.le_of_ble_eq_true rfl) (fun p e s m args below meth c A C => b_X7_whoWaits_56 C hf)
-- X11_still_0: still()I
abbrev rm_X11_still_0 : Room := { frames := 6, cells := 0, slots := 0, locals := 144 }
theorem nd_X11_still : yX11_still.cls ≠ "java/lang/invoke/MethodHandle" ∧ yX11_still.cls ≠ "java/lang/invoke/VarHandle" ∧ (parseMethodDescriptor yX11_still.desc).map (fun d => d.parameters.length) = some 0 := by decide +kernel
def s_X11_still_0_h16 (N : Nat) (x1 : Int32) (σ : Sg) : Option (Nat × Int32 × Sg) :=
if (60 : Int32) < x1 then (some (2, 0, σ))
else ((f_X7_whoWaits_56 N σ).bind fun q1 =>
if q1.1 = 0 then (some (1, x1, (q1.2)))
else ((f_X2_go_55 N (q1.2)).bind fun q2 =>
bd (x1 + (1 : Int32)) fun v3 =>
some (0, v3, (q2.2))))
set_option maxHeartbeats 4000000 in
set_option maxRecDepth 100000 in
theorem e_X11_still_0_h16 {N : Nat} {x1 : Int32} {σ : Sg} {z : Nat × Int32 × Sg} (C : Cx p s m args meth c cX11_still 2 (some .int) RX11 g A X) (hf : s_X11_still_0_h16 N x1 σ = some z) (k0 : z.1 = 0 → Bk cw p l e rm_X11_still_0 s m args below meth c 2 g A Q 0 0 16 [(0, .ref (g.2.2 0)), (1, .int z.2.1)] [] z.2.2) (k : ¬ z.1 = 0 → ((z.1 = 1 → Bk cw p l e rm_X11_still_0 s m args below meth c 2 g A Q 0 0 35 [(1, .int z.2.1)] [] z.2.2) ∧ (¬ z.1 = 1 → Bk cw p l e rm_X11_still_0 s m args below meth c 2 g A Q 0 0 51 [] [] z.2.2))) : Bk cw p l e rm_X11_still_0 s m args below meth c 2 g A Q 0 0 16 [(0, .ref (g.2.2 0)), (1, .int x1)] [] σ := by
  obtain ⟨hx, hb, hr, hml, hown, hts, hK, hlocks, hXX, hA, hXo⟩ := id C
  intro H locs ls hP hD hS hl
  unfold s_X11_still_0_h16 at hf
  refine lv_iload_n hx hb dX11_still_16 rfl (lv_at hl 1 rfl) ?_
  refine lv_bipush (v := (60 : Int32)) hx hb dX11_still_17 (by decide) ?_
  refine lv_icmp_gt (tgt := 51) hx hb dX11_still_19 (by decide) (fun t19 => ?_) (fun t19 => ?_)
  · have hf := (if_pos t19).symm.trans hf
    cases hf
    exact ((k (show ¬ (2 : Nat) = 0 by decide)).2 (show ¬ (2 : Nat) = 1 by decide)) H locs ls hP hD hS (lv_sub hl [] rfl)
  · have hf := (if_neg t19).symm.trans hf
    refine lv_aload_n hx hb dX11_still_22 rfl (lv_at hl 0 rfl) ?_
    refine bk_get (wf := cw) (q0 := 0) (ci := 10) (k := 10) (v := .ref (g.2.2 55)) C hP wl_X11 rfl rfl (by decide) wa_42 rfl rfl dX11_still_23 ?_
    refine bk_get (wf := cw) (q0 := 55) (ci := 2) (k := 0) (v := .ref (g.2.2 56)) C hP wl_X2 rfl rfl (by decide) wa_808 rfl rfl dX11_still_26 ?_
    obtain ⟨q1, hq1, hf⟩ := bi_s hf
    refine bk_VI (wf := cw) (q0 := 56) (ci := 7) (rest := []) [] C hP hD hS hl.1 (c_X7_whoWaits_56 hXo hq1) (cwA_V 0 hts wa_662 wa_659 wa_660 wa_661 wa_93 rfl rfl nd_X7_whoWaits ⟨Nat.le_of_ble_eq_true rfl, Nat.le_of_ble_eq_true rfl⟩) rfl rfl rfl rfl (Nat.le_of_ble_eq_true rfl) dX11_still_29 ⟨Nat.le_of_ble_eq_true rfl, Nat.le_of_ble_eq_true rfl⟩ (fun H locs hP hD hS => ?_)
    refine lv_if_ne (tgt := 37) hx hb dX11_still_32 (by decide) (fun t32 => ?_) (fun t32 => ?_)
    · have hf := (if_neg t32).symm.trans hf
      refine lv_aload_n hx hb dX11_still_37 rfl (lv_at hl 0 rfl) ?_
      refine bk_get (wf := cw) (q0 := 0) (ci := 10) (k := 10) (v := .ref (g.2.2 55)) C hP wl_X11 rfl rfl (by decide) wa_42 rfl rfl dX11_still_38 ?_
      obtain ⟨q2, hq2, hf⟩ := bi_s hf
      refine bk_VI (wf := cw) (q0 := 55) (ci := 2) (rest := []) [] C hP hD hS hl.1 (c_X2_go_55 hXo hq2) (cwA_V 0 hts wa_833 wa_830 wa_831 wa_832 wa_41 rfl rfl nd_X2_go ⟨Nat.le_of_ble_eq_true rfl, Nat.le_of_ble_eq_true rfl⟩) rfl rfl rfl rfl (Nat.le_of_ble_eq_true rfl) dX11_still_41 ⟨Nat.le_of_ble_eq_true rfl, Nat.le_of_ble_eq_true rfl⟩ (fun H locs hP hD hS => ?_)
      refine lv_pop hx hb dX11_still_44 rfl ?_
      obtain ⟨v3, ev3, hf⟩ := bd_s hf
      refine lv_iinc (v := v3) (lv' := [(1, .int v3), (0, .ref (g.2.2 0))]) hx hb dX11_still_45 hl (k := 1) rfl (by rw [ev3]; rfl) (by decide) rfl (fun ls hl => ?_)
      refine lv_goto (tgt := 16) hx hb dX11_still_48 (by decide) ?_
      cases hf
      exact k0 rfl H locs ls hP hD hS (lv_sub hl [1, 0] rfl)
    · have hf := (if_pos t32).symm.trans hf
      cases hf
      exact ((k (show ¬ (1 : Nat) = 0 by decide)).1 rfl) H locs ls hP hD hS (lv_sub hl [1] rfl)
theorem lp_X11_still_0_h16 {N : Nat} {n : Nat} {x1 : Int32} {σ : Sg} {z : Nat × Int32 × Sg} (C : Cx p s m args meth c cX11_still 2 (some .int) RX11 g A X) (hz : it (fun q => s_X11_still_0_h16 N q.1 q.2) n (x1, σ) = some z) (k : ((z.1 = 1 → Bk cw p l e rm_X11_still_0 s m args below meth c 2 g A Q 0 0 35 [(1, .int z.2.1)] [] z.2.2) ∧ (¬ z.1 = 1 → Bk cw p l e rm_X11_still_0 s m args below meth c 2 g A Q 0 0 51 [] [] z.2.2))) : Bk cw p l e rm_X11_still_0 s m args below meth c 2 g A Q 0 0 16 [(0, .ref (g.2.2 0)), (1, .int x1)] [] σ :=
  it_W (S := Int32 × Sg) (fun q => Bk cw p l e rm_X11_still_0 s m args below meth c 2 g A Q 0 0 16 [(0, .ref (g.2.2 0)), (1, .int q.1)] [] q.2) (fun z => ((z.1 = 1 → Bk cw p l e rm_X11_still_0 s m args below meth c 2 g A Q 0 0 35 [(1, .int z.2.1)] [] z.2.2) ∧ (¬ z.1 = 1 → Bk cw p l e rm_X11_still_0 s m args below meth c 2 g A Q 0 0 51 [] [] z.2.2))) (fun q z hq k0 k => e_X11_still_0_h16 C hq k0 k) n (x1, σ) z hz k
def f_X11_still_0 (N : Nat) (σ : Sg) : Option (Int32 × Sg) :=
(f_X2_start_55_22 N σ).bind fun q4 =>
(it (fun q => s_X11_still_0_h16 N q.1 q.2) N ((0 : Int32), q4)).bind fun z5 =>
if z5.1 = 1 then (some ((z5.2.1), (z5.2.2)))
else (some ((-1 : Int32), (z5.2.2)))
set_option maxHeartbeats 4000000 in
set_option maxRecDepth 100000 in
theorem b_X11_still_0 {N : Nat} {σ : Sg} {z : Int32 × Sg} (C : Cx p s m args meth c cX11_still 2 (some .int) RX11 g A X) (hf : f_X11_still_0 N σ = some z) : Bk cw p l e rm_X11_still_0 s m args below meth c 2 g A (MQ below (qI cw g A z.1 z.2) args s 0 0 A) 0 0 0 [(0, .ref (g.2.2 0))] [] σ := by
  obtain ⟨hx, hb, hr, hml, hown, hts, hK, hlocks, hXX, hA, hXo⟩ := id C
  intro H locs ls hP hD hS hl
  unfold f_X11_still_0 at hf
  refine lv_aload_n hx hb dX11_still_0 rfl (lv_at hl 0 rfl) ?_
  refine bk_get (wf := cw) (q0 := 0) (ci := 10) (k := 10) (v := .ref (g.2.2 55)) C hP wl_X11 rfl rfl (by decide) wa_42 rfl rfl dX11_still_1 ?_
  refine lv_aload_n hx hb dX11_still_4 rfl (lv_at hl 0 rfl) ?_
  refine bk_get (wf := cw) (q0 := 0) (ci := 10) (k := 4) (v := .ref (g.2.2 21)) C hP wl_X11 rfl rfl (by decide) wa_27 rfl rfl dX11_still_5 ?_
  refine bk_get (wf := cw) (q0 := 21) (ci := 1) (k := 0) (v := .ref (g.2.2 22)) C hP wl_X1 rfl rfl (by decide) wa_221 rfl rfl dX11_still_8 ?_
  obtain ⟨q4, hq4, hf⟩ := bi_s hf
  refine bk_VV (wf := cw) (q0 := 55) (ci := 2) (rest := []) [.ref (g.2.2 22)] C hP hD hS hl.1 (c_X2_start_55_22 hXo hq4) (cwA_V 1 hts wa_825 wa_822 wa_823 wa_824 wa_41 rfl rfl nd_X2_start ⟨Nat.le_of_ble_eq_true rfl, Nat.le_of_ble_eq_true rfl⟩) rfl rfl rfl rfl (Nat.le_of_ble_eq_true rfl) dX11_still_11 ⟨Nat.le_of_ble_eq_true rfl, Nat.le_of_ble_eq_true rfl⟩ (fun H locs hP hD hS => ?_)
  refine lv_iconst (v := (0 : Int32)) hx hb dX11_still_14 (by decide) ?_
  refine lv_istore_n (lv' := [(1, .int (0 : Int32)), (0, .ref (g.2.2 0))]) hx hb dX11_still_15 rfl hl (by decide) rfl (fun ls hl => ?_)
  obtain ⟨z5, hz5, hf⟩ := bi_s hf
  refine lp_X11_still_0_h16 C hz5 ⟨fun t0 => ?_, fun t0 => ?_⟩ H locs ls hP hD hS (lv_sub hl [1, 0] rfl)
  · have hf := (if_pos t0).symm.trans hf
    intro H locs ls hP hD hS hl
    refine lv_iload_n hx hb dX11_still_35 rfl (lv_at hl 0 rfl) ?_
    cases hf
    exact bk_iret C hP hD hS rfl dX11_still_36
  · have hf := (if_neg t0).symm.trans hf
    intro H locs ls hP hD hS hl
    refine lv_iconst (v := (-1 : Int32)) hx hb dX11_still_51 (by decide) ?_
    cases hf
    exact bk_iret C hP hD hS rfl dX11_still_52
theorem c_X11_still_0 {N : Nat} {σ : Sg} {z : Int32 × Sg} (hX : xOK g X) (hf : f_X11_still_0 N σ = some z) : MetI l yX11_still (Cond.code yX11_still cX11_still 2 (some .int) :: wsA) rm_X11_still_0 cw g X [.ref (g.2.2 0)] σ z.1 z.2 :=
  MetI_of hX (by decide) (Nat.le_of_ble_eq_true rfl) (fun p e s m args below meth c A C => b_X11_still_0 C hf)
-- X11_loudest_0: loudest(I)I
abbrev rm_X11_loudest_0 : Room := { frames := 7, cells := 1, slots := 6, locals := 144 }
theorem nd_X11_loudest : yX11_loudest.cls ≠ "java/lang/invoke/MethodHandle" ∧ yX11_loudest.cls ≠ "java/lang/invoke/VarHandle" ∧ (parseMethodDescriptor yX11_loudest.desc).map (fun d => d.parameters.length) = some 1 := by decide +kernel
def f_X11_loudest_0_b58 (N : Nat) (x1 : Int32) (x2 : Int32) (x3 : Int32) (x4 : Int32) (σ : Sg) : Option (Nat × Int32 × Int32 × Int32 × Sg) :=
bd (x4 + (1 : Int32)) fun v1 =>
some (0, x2, x3, v1, σ)
set_option maxHeartbeats 4000000 in
set_option maxRecDepth 100000 in
theorem b_X11_loudest_0_b58 {N : Nat} {x1 : Int32} {x2 : Int32} {x3 : Int32} {x4 : Int32} {σ : Sg} {z : Nat × Int32 × Int32 × Int32 × Sg} (C : Cx p s m args meth c cX11_loudest 6 (some .int) RX11 g A X) (hex : ∀ x ∈ c.exceptionTable.toList, False) (hst : l.stackTraces = false) (hf : f_X11_loudest_0_b58 N x1 x2 x3 x4 σ = some z) (k0 : z.1 = 0 → Bk cw p l e rm_X11_loudest_0 s m args below meth c 6 g A Q 1 6 28 [(0, .ref (g.2.2 0)), (1, .int x1), (2, .int z.2.1), (3, .int z.2.2.1), (4, .int z.2.2.2.1)] [] z.2.2.2.2) (k : ¬ z.1 = 0 → Bk cw p l e rm_X11_loudest_0 s m args below meth c 6 g A Q 1 6 64 [(3, .int z.2.2.1)] [] z.2.2.2.2) : Bk cw p l e rm_X11_loudest_0 s m args below meth c 6 g A Q 1 6 58 [(0, .ref (g.2.2 0)), (1, .int x1), (2, .int x2), (3, .int x3), (4, .int x4)] [] σ := by
  obtain ⟨hx, hb, hr, hml, hown, hts, hK, hlocks, hXX, hA, hXo⟩ := id C
  intro H locs ls hP hD hS hl
  unfold f_X11_loudest_0_b58 at hf
  obtain ⟨v1, ev1, hf⟩ := bd_s hf
  refine lv_iinc (v := v1) (lv' := [(4, .int v1), (0, .ref (g.2.2 0)), (1, .int x1), (2, .int x2), (3, .int x3)]) hx hb dX11_loudest_58 hl (k := 4) rfl (by rw [ev1]; rfl) (by decide) rfl (fun ls hl => ?_)
  refine lv_goto (tgt := 28) hx hb dX11_loudest_61 (by decide) ?_
  cases hf
  exact k0 rfl H locs ls hP hD hS (lv_sub hl [1, 2, 3, 4, 0] rfl)
def s_X11_loudest_0_h28 (N : Nat) (x1 : Int32) (x2 : Int32) (x3 : Int32) (x4 : Int32) (σ : Sg) : Option (Nat × Int32 × Int32 × Int32 × Sg) :=
if x1 < x4 then (some (1, 0, x3, 0, σ))
else ((f_X2_go_55 N σ).bind fun q2 =>
(f_J6_bitCount_0f7a4 N q2.1 (q2.2)).bind fun q3 =>
bd q3.1 fun v4 =>
if v4 ≤ x2 then (f_X11_loudest_0_b58 N x1 x2 x3 x4 (q3.2))
else (f_X11_loudest_0_b58 N x1 v4 x4 x4 (q3.2)))
set_option maxHeartbeats 4000000 in
set_option maxRecDepth 100000 in
theorem e_X11_loudest_0_h28 {N : Nat} {x1 : Int32} {x2 : Int32} {x3 : Int32} {x4 : Int32} {σ : Sg} {z : Nat × Int32 × Int32 × Int32 × Sg} (C : Cx p s m args meth c cX11_loudest 6 (some .int) RX11 g A X) (hex : ∀ x ∈ c.exceptionTable.toList, False) (hst : l.stackTraces = false) (hf : s_X11_loudest_0_h28 N x1 x2 x3 x4 σ = some z) (k0 : z.1 = 0 → Bk cw p l e rm_X11_loudest_0 s m args below meth c 6 g A Q 1 6 28 [(0, .ref (g.2.2 0)), (1, .int x1), (2, .int z.2.1), (3, .int z.2.2.1), (4, .int z.2.2.2.1)] [] z.2.2.2.2) (k : ¬ z.1 = 0 → Bk cw p l e rm_X11_loudest_0 s m args below meth c 6 g A Q 1 6 64 [(3, .int z.2.2.1)] [] z.2.2.2.2) : Bk cw p l e rm_X11_loudest_0 s m args below meth c 6 g A Q 1 6 28 [(0, .ref (g.2.2 0)), (1, .int x1), (2, .int x2), (3, .int x3), (4, .int x4)] [] σ := by
  obtain ⟨hx, hb, hr, hml, hown, hts, hK, hlocks, hXX, hA, hXo⟩ := id C
  intro H locs ls hP hD hS hl
  unfold s_X11_loudest_0_h28 at hf
  refine lv_iload hx hb dX11_loudest_28 (lv_at hl 4 rfl) ?_
  refine lv_iload_n hx hb dX11_loudest_30 rfl (lv_at hl 1 rfl) ?_
  refine lv_icmp_gt (tgt := 64) hx hb dX11_loudest_31 (by decide) (fun t31 => ?_) (fun t31 => ?_)
  · have hf := (if_pos t31).symm.trans hf
    cases hf
    exact (k (show ¬ (1 : Nat) = 0 by decide)) H locs ls hP hD hS (lv_sub hl [3] rfl)
  · have hf := (if_neg t31).symm.trans hf
    refine lv_aload_n hx hb dX11_loudest_34 rfl (lv_at hl 0 rfl) ?_
    refine bk_get (wf := cw) (q0 := 0) (ci := 10) (k := 10) (v := .ref (g.2.2 55)) C hP wl_X11 rfl rfl (by decide) wa_42 rfl rfl dX11_loudest_35 ?_
    obtain ⟨q2, hq2, hf⟩ := bi_s hf
    refine bk_VI (wf := cw) (q0 := 55) (ci := 2) (rest := []) [] C hP hD hS hl.1 (c_X2_go_55 hXo hq2) (cwA_V 0 hts wa_833 wa_830 wa_831 wa_832 wa_41 rfl rfl nd_X2_go ⟨Nat.le_of_ble_eq_true rfl, Nat.le_of_ble_eq_true rfl⟩) rfl rfl rfl rfl (Nat.le_of_ble_eq_true rfl) dX11_loudest_38 ⟨Nat.le_of_ble_eq_true rfl, Nat.le_of_ble_eq_true rfl⟩ (fun H locs hP hD hS => ?_)
    obtain ⟨q3, hq3, hf⟩ := bi_s hf
    refine bk_SI (wf := cw) (rest := []) [.int q2.1] C hP hD hS hl.1 (c_J6_bitCount_0f7a4 hXo hq3) (cwA_S 1 hts wa_699 wa_1071 wa_697 wa_698 rfl rfl nd_J6_bitCount_0f7a4 ⟨Nat.le_of_ble_eq_true rfl, Nat.le_of_ble_eq_true rfl⟩) rfl rfl (Nat.le_of_ble_eq_true rfl) dX11_loudest_41 ⟨Nat.le_of_ble_eq_true rfl, Nat.le_of_ble_eq_true rfl⟩ (fun H locs hP hD hS => ?_)
    obtain ⟨v4, ev4, hf⟩ := bd_s hf
    rw [← ev4]
    refine lv_istore (lv' := [(5, .int v4), (0, .ref (g.2.2 0)), (1, .int x1), (2, .int x2), (3, .int x3), (4, .int x4)]) hx hb dX11_loudest_44 hl (by decide) rfl (fun ls hl => ?_)
    refine lv_iload hx hb dX11_loudest_46 (lv_at hl 0 rfl) ?_
    refine lv_iload_n hx hb dX11_loudest_48 rfl (lv_at hl 3 rfl) ?_
    refine lv_icmp_le (tgt := 58) hx hb dX11_loudest_49 (by decide) (fun t49 => ?_) (fun t49 => ?_)
    · have hf := (if_pos t49).symm.trans hf
      exact b_X11_loudest_0_b58 C hex hst hf k0 k H locs ls hP hD hS (lv_sub hl [1, 2, 3, 4, 5] rfl)
    · have hf := (if_neg t49).symm.trans hf
      refine lv_iload hx hb dX11_loudest_52 (lv_at hl 0 rfl) ?_
      refine lv_istore_n (lv' := [(2, .int v4), (5, .int v4), (0, .ref (g.2.2 0)), (1, .int x1), (3, .int x3), (4, .int x4)]) hx hb dX11_loudest_54 rfl hl (by decide) rfl (fun ls hl => ?_)
      refine lv_iload hx hb dX11_loudest_55 (lv_at hl 5 rfl) ?_
      refine lv_istore_n (lv' := [(3, .int x4), (2, .int v4), (5, .int v4), (0, .ref (g.2.2 0)), (1, .int x1), (4, .int x4)]) hx hb dX11_loudest_57 rfl hl (by decide) rfl (fun ls hl => ?_)
      exact b_X11_loudest_0_b58 C hex hst hf k0 k H locs ls hP hD hS (lv_sub hl [3, 4, 1, 0, 5] rfl)
theorem lp_X11_loudest_0_h28 {N : Nat} {n : Nat} {x1 : Int32} {x2 : Int32} {x3 : Int32} {x4 : Int32} {σ : Sg} {z : Nat × Int32 × Int32 × Int32 × Sg} (C : Cx p s m args meth c cX11_loudest 6 (some .int) RX11 g A X) (hex : ∀ x ∈ c.exceptionTable.toList, False) (hst : l.stackTraces = false) (hz : it (fun q => s_X11_loudest_0_h28 N x1 q.1 q.2.1 q.2.2.1 q.2.2.2) n (x2, x3, x4, σ) = some z) (k : Bk cw p l e rm_X11_loudest_0 s m args below meth c 6 g A Q 1 6 64 [(3, .int z.2.2.1)] [] z.2.2.2.2) : Bk cw p l e rm_X11_loudest_0 s m args below meth c 6 g A Q 1 6 28 [(0, .ref (g.2.2 0)), (1, .int x1), (2, .int x2), (3, .int x3), (4, .int x4)] [] σ :=
  it_W (S := Int32 × Int32 × Int32 × Sg) (fun q => Bk cw p l e rm_X11_loudest_0 s m args below meth c 6 g A Q 1 6 28 [(0, .ref (g.2.2 0)), (1, .int x1), (2, .int q.1), (3, .int q.2.1), (4, .int q.2.2.1)] [] q.2.2.2) (fun z => Bk cw p l e rm_X11_loudest_0 s m args below meth c 6 g A Q 1 6 64 [(3, .int z.2.2.1)] [] z.2.2.2.2) (fun q z hq k0 k => e_X11_loudest_0_h28 C hex hst hq k0 k) n (x2, x3, x4, σ) z hz k
def f_X11_loudest_0 (N : Nat) (x1 : Int32) (σ : Sg) : Option (Zt) :=
(f_X11_needWithin N x1 (1 : Int32) (60 : Int32) σ).bind fun q5 =>
if q5.1 = 0 then ((f_X2_start_55_22 N (q5.2.2)).bind fun q6 =>
(it (fun q => s_X11_loudest_0_h28 N x1 q.1 q.2.1 q.2.2.1 q.2.2.2) N ((-1 : Int32), (-1 : Int32), (1 : Int32), q6)).bind fun z7 =>
some (0, (z7.2.2.1), (z7.2.2.2.2)))
else some (q5.1, 0, q5.2.2)
set_option maxHeartbeats 4000000 in
set_option maxRecDepth 100000 in
theorem b_X11_loudest_0 {N : Nat} {x1 : Int32} {σ : Sg} {z : Zt} (C : Cx p s m args meth c cX11_loudest 6 (some .int) RX11 g A X) (hex : ∀ x ∈ c.exceptionTable.toList, False) (hst : l.stackTraces = false) (hf : f_X11_loudest_0 N x1 σ = some z) : Bk cw p l e rm_X11_loudest_0 s m args below meth c 6 g A (vx_MQ below (qTi cw g A z) (xT cw g A z) args s 1 6 A) 0 0 0 [(0, .ref (g.2.2 0)), (1, .int x1)] [] σ := by
  obtain ⟨hx, hb, hr, hml, hown, hts, hK, hlocks, hXX, hA, hXo⟩ := id C
  intro H locs ls hP hD hS hl
  unfold f_X11_loudest_0 at hf
  refine lv_iload_n hx hb dX11_loudest_0 rfl (lv_at hl 1 rfl) ?_
  refine lv_iconst (v := (1 : Int32)) hx hb dX11_loudest_1 (by decide) ?_
  refine lv_bipush (v := (60 : Int32)) hx hb dX11_loudest_2 (by decide) ?_
  obtain ⟨q5, hq5, hf⟩ := bi_s hf
  refine bk_TS (wf := cw) (rest := []) [.int x1, .int (1 : Int32), .int (60 : Int32)] C hex hP hD hS hl.1 (c_X11_needWithin hXo hst hq5) (cwA_S 3 hts wa_1020 wa_1018 wa_1019 wa_2 rfl rfl nd_X11_needWithin ⟨Nat.le_of_ble_eq_true rfl, Nat.le_of_ble_eq_true rfl⟩) rfl rfl (Nat.le_of_ble_eq_true rfl) dX11_loudest_4 ⟨Nat.le_of_ble_eq_true rfl, Nat.le_of_ble_eq_true rfl⟩ ⟨Nat.le_of_ble_eq_true rfl, Nat.le_of_ble_eq_true rfl⟩ (fun h0 => by have hf := (if_neg h0).symm.trans hf; cases hf; exact ⟨rfl, rfl⟩) (fun h0 H locs hP hD hS => ?_)
  have hf := (if_pos h0).symm.trans hf
  refine lv_aload_n hx hb dX11_loudest_7 rfl (lv_at hl 0 rfl) ?_
  refine bk_get (wf := cw) (q0 := 0) (ci := 10) (k := 10) (v := .ref (g.2.2 55)) C hP wl_X11 rfl rfl (by decide) wa_42 rfl rfl dX11_loudest_8 ?_
  refine lv_aload_n hx hb dX11_loudest_11 rfl (lv_at hl 0 rfl) ?_
  refine bk_get (wf := cw) (q0 := 0) (ci := 10) (k := 4) (v := .ref (g.2.2 21)) C hP wl_X11 rfl rfl (by decide) wa_27 rfl rfl dX11_loudest_12 ?_
  refine bk_get (wf := cw) (q0 := 21) (ci := 1) (k := 0) (v := .ref (g.2.2 22)) C hP wl_X1 rfl rfl (by decide) wa_221 rfl rfl dX11_loudest_15 ?_
  obtain ⟨q6, hq6, hf⟩ := bi_s hf
  refine bk_VV (wf := cw) (q0 := 55) (ci := 2) (rest := []) [.ref (g.2.2 22)] C hP hD hS hl.1 (c_X2_start_55_22 hXo hq6) (cwA_V 1 hts wa_825 wa_822 wa_823 wa_824 wa_41 rfl rfl nd_X2_start ⟨Nat.le_of_ble_eq_true rfl, Nat.le_of_ble_eq_true rfl⟩) rfl rfl rfl rfl (Nat.le_of_ble_eq_true rfl) dX11_loudest_18 ⟨Nat.le_of_ble_eq_true rfl, Nat.le_of_ble_eq_true rfl⟩ (fun H locs hP hD hS => ?_)
  refine lv_iconst (v := (-1 : Int32)) hx hb dX11_loudest_21 (by decide) ?_
  refine lv_istore_n (lv' := [(2, .int (-1 : Int32)), (0, .ref (g.2.2 0)), (1, .int x1)]) hx hb dX11_loudest_22 rfl hl (by decide) rfl (fun ls hl => ?_)
  refine lv_iconst (v := (-1 : Int32)) hx hb dX11_loudest_23 (by decide) ?_
  refine lv_istore_n (lv' := [(3, .int (-1 : Int32)), (2, .int (-1 : Int32)), (0, .ref (g.2.2 0)), (1, .int x1)]) hx hb dX11_loudest_24 rfl hl (by decide) rfl (fun ls hl => ?_)
  refine lv_iconst (v := (1 : Int32)) hx hb dX11_loudest_25 (by decide) ?_
  refine lv_istore (lv' := [(4, .int (1 : Int32)), (3, .int (-1 : Int32)), (2, .int (-1 : Int32)), (0, .ref (g.2.2 0)), (1, .int x1)]) hx hb dX11_loudest_26 hl (by decide) rfl (fun ls hl => ?_)
  obtain ⟨z7, hz7, hf⟩ := bi_s hf
  refine lp_X11_loudest_0_h28 C hex hst hz7 ?_ H locs ls hP hD hS (lv_sub hl [3, 4, 2, 1, 0] rfl)
  intro H locs ls hP hD hS hl
  refine lv_iload_n hx hb dX11_loudest_64 rfl (lv_at hl 0 rfl) ?_
  exact bk_iretT C hP hD hS hf (Nat.le_of_ble_eq_true rfl) (Nat.le_of_ble_eq_true rfl) dX11_loudest_65
theorem c_X11_loudest_0 {N : Nat} {x1 : Int32} {σ : Sg} {z : Zt} (hX : xOK g X) (hst : l.stackTraces = false) (hf : f_X11_loudest_0 N x1 σ = some z) : MetTi l yX11_loudest (Cond.code yX11_loudest cX11_loudest 6 (some .int) :: wsA) rm_X11_loudest_0 1 6 cw g X [.ref (g.2.2 0), .int x1] σ z :=
  MetTi_of hX (by decide) (Nat.le_of_ble_eq_true rfl) (fun p e s m args below meth c A C hex => b_X11_loudest_0 C hex hst hf)
-- X11_oftenest_0: oftenest(I)I
abbrev rm_X11_oftenest_0 : Room := { frames := 7, cells := 1, slots := 6, locals := 144 }
theorem nd_X11_oftenest : yX11_oftenest.cls ≠ "java/lang/invoke/MethodHandle" ∧ yX11_oftenest.cls ≠ "java/lang/invoke/VarHandle" ∧ (parseMethodDescriptor yX11_oftenest.desc).map (fun d => d.parameters.length) = some 1 := by decide +kernel
def f_X11_oftenest_0_b89 (N : Nat) (x2 : Int32) (x3 : Int32) (x4 : Int32) (σ : Sg) : Option (Nat × Int32 × Int32 × Int32 × Sg) :=
bd (x4 + (1 : Int32)) fun v1 =>
some (0, x2, x3, v1, σ)
set_option maxHeartbeats 4000000 in
set_option maxRecDepth 100000 in
theorem b_X11_oftenest_0_b89 {N : Nat} {x2 : Int32} {x3 : Int32} {x4 : Int32} {σ : Sg} {z : Nat × Int32 × Int32 × Int32 × Sg} (C : Cx p s m args meth c cX11_oftenest 5 (some .int) RX11 g A X) (hex : ∀ x ∈ c.exceptionTable.toList, False) (hst : l.stackTraces = false) (hf : f_X11_oftenest_0_b89 N x2 x3 x4 σ = some z) (k0 : z.1 = 0 → Bk cw p l e rm_X11_oftenest_0 s m args below meth c 5 g A Q 1 6 49 [(0, .ref (g.2.2 0)), (2, .int z.2.1), (3, .int z.2.2.1), (4, .int z.2.2.2.1)] [] z.2.2.2.2) (k : ¬ z.1 = 0 → Bk cw p l e rm_X11_oftenest_0 s m args below meth c 5 g A Q 1 6 95 [(3, .int z.2.2.1)] [] z.2.2.2.2) : Bk cw p l e rm_X11_oftenest_0 s m args below meth c 5 g A Q 1 6 89 [(0, .ref (g.2.2 0)), (2, .int x2), (3, .int x3), (4, .int x4)] [] σ := by
  obtain ⟨hx, hb, hr, hml, hown, hts, hK, hlocks, hXX, hA, hXo⟩ := id C
  intro H locs ls hP hD hS hl
  unfold f_X11_oftenest_0_b89 at hf
  obtain ⟨v1, ev1, hf⟩ := bd_s hf
  refine lv_iinc (v := v1) (lv' := [(4, .int v1), (0, .ref (g.2.2 0)), (2, .int x2), (3, .int x3)]) hx hb dX11_oftenest_89 hl (k := 3) rfl (by rw [ev1]; rfl) (by decide) rfl (fun ls hl => ?_)
  refine lv_goto (tgt := 49) hx hb dX11_oftenest_92 (by decide) ?_
  cases hf
  exact k0 rfl H locs ls hP hD hS (lv_sub hl [1, 2, 3, 0] rfl)
def s_X11_oftenest_0_h49 (N : Nat) (x2 : Int32) (x3 : Int32) (x4 : Int32) (σ : Sg) : Option (Nat × Int32 × Int32 × Int32 × Sg) :=
if (σ 12 0) ≤ x4 then (some (1, 0, x3, 0, σ))
else (if (x4 < 0 ∨ 9 ≤ x4.toNatClampNeg) then none else
if (σ 61 x4.toNatClampNeg) ≤ x2 then (f_X11_oftenest_0_b89 N x2 x3 x4 σ)
else (if (x4 < 0 ∨ 9 ≤ x4.toNatClampNeg) then none else
bd (σ 61 x4.toNatClampNeg) fun v4 =>
f_X11_oftenest_0_b89 N v4 x4 x4 σ))
set_option maxHeartbeats 4000000 in
set_option maxRecDepth 100000 in
theorem e_X11_oftenest_0_h49 {N : Nat} {x2 : Int32} {x3 : Int32} {x4 : Int32} {σ : Sg} {z : Nat × Int32 × Int32 × Int32 × Sg} (C : Cx p s m args meth c cX11_oftenest 5 (some .int) RX11 g A X) (hex : ∀ x ∈ c.exceptionTable.toList, False) (hst : l.stackTraces = false) (hf : s_X11_oftenest_0_h49 N x2 x3 x4 σ = some z) (k0 : z.1 = 0 → Bk cw p l e rm_X11_oftenest_0 s m args below meth c 5 g A Q 1 6 49 [(0, .ref (g.2.2 0)), (2, .int z.2.1), (3, .int z.2.2.1), (4, .int z.2.2.2.1)] [] z.2.2.2.2) (k : ¬ z.1 = 0 → Bk cw p l e rm_X11_oftenest_0 s m args below meth c 5 g A Q 1 6 95 [(3, .int z.2.2.1)] [] z.2.2.2.2) : Bk cw p l e rm_X11_oftenest_0 s m args below meth c 5 g A Q 1 6 49 [(0, .ref (g.2.2 0)), (2, .int x2), (3, .int x3), (4, .int x4)] [] σ := by
  obtain ⟨hx, hb, hr, hml, hown, hts, hK, hlocks, hXX, hA, hXo⟩ := id C
  intro H locs ls hP hD hS hl
  unfold s_X11_oftenest_0_h49 at hf
  refine lv_iload hx hb dX11_oftenest_49 (lv_at hl 3 rfl) ?_
  refine lv_aload_n hx hb dX11_oftenest_51 rfl (lv_at hl 0 rfl) ?_
  refine bk_get (wf := cw) (q0 := 0) (ci := 10) (k := 3) (v := .ref (g.2.2 12)) C hP wl_X11 rfl rfl (by decide) wa_23 rfl rfl dX11_oftenest_52 ?_
  refine bk_get (wf := cw) (q0 := 12) (ci := 8) (k := 0) (v := .int (σ 12 0)) C hP wl_X9 rfl rfl (by decide) wa_644 rfl rfl dX11_oftenest_55 ?_
  refine lv_icmp_ge (tgt := 95) hx hb dX11_oftenest_58 (by decide) (fun t58 => ?_) (fun t58 => ?_)
  · have hf := (if_pos t58).symm.trans hf
    cases hf
    exact (k (show ¬ (1 : Nat) = 0 by decide)) H locs ls hP hD hS (lv_sub hl [2] rfl)
  · have hf := (if_neg t58).symm.trans hf
    refine lv_aload_n hx hb dX11_oftenest_61 rfl (lv_at hl 0 rfl) ?_
    refine bk_get (wf := cw) (q0 := 0) (ci := 10) (k := 10) (v := .ref (g.2.2 55)) C hP wl_X11 rfl rfl (by decide) wa_42 rfl rfl dX11_oftenest_62 ?_
    refine bk_get (wf := cw) (q0 := 55) (ci := 2) (k := 1) (v := .ref (g.2.2 61)) C hP wl_X2 rfl rfl (by decide) wa_1083 rfl rfl dX11_oftenest_65 ?_
    refine lv_iload hx hb dX11_oftenest_68 (lv_at hl 3 rfl) ?_
    obtain ⟨g2, hf⟩ := gd_s hf
    refine bk_iald (wf := cw) (q0 := 61) (n := 9) (j := x4.toNatClampNeg) C hP rfl g2 rfl dX11_oftenest_70 ?_
    refine lv_iload_n hx hb dX11_oftenest_71 rfl (lv_at hl 1 rfl) ?_
    refine lv_icmp_le (tgt := 89) hx hb dX11_oftenest_72 (by decide) (fun t72 => ?_) (fun t72 => ?_)
    · have hf := (if_pos t72).symm.trans hf
      exact b_X11_oftenest_0_b89 C hex hst hf k0 k H locs ls hP hD hS (lv_sub hl [0, 1, 2, 3] rfl)
    · have hf := (if_neg t72).symm.trans hf
      refine lv_aload_n hx hb dX11_oftenest_75 rfl (lv_at hl 0 rfl) ?_
      refine bk_get (wf := cw) (q0 := 0) (ci := 10) (k := 10) (v := .ref (g.2.2 55)) C hP wl_X11 rfl rfl (by decide) wa_42 rfl rfl dX11_oftenest_76 ?_
      refine bk_get (wf := cw) (q0 := 55) (ci := 2) (k := 1) (v := .ref (g.2.2 61)) C hP wl_X2 rfl rfl (by decide) wa_1083 rfl rfl dX11_oftenest_79 ?_
      refine lv_iload hx hb dX11_oftenest_82 (lv_at hl 3 rfl) ?_
      obtain ⟨g3, hf⟩ := gd_s hf
      refine bk_iald (wf := cw) (q0 := 61) (n := 9) (j := x4.toNatClampNeg) C hP rfl g3 rfl dX11_oftenest_84 ?_
      obtain ⟨v4, ev4, hf⟩ := bd_s hf
      rw [← ev4]
      refine lv_istore_n (lv' := [(2, .int v4), (0, .ref (g.2.2 0)), (3, .int x3), (4, .int x4)]) hx hb dX11_oftenest_85 rfl hl (by decide) rfl (fun ls hl => ?_)
      refine lv_iload hx hb dX11_oftenest_86 (lv_at hl 3 rfl) ?_
      refine lv_istore_n (lv' := [(3, .int x4), (2, .int v4), (0, .ref (g.2.2 0)), (4, .int x4)]) hx hb dX11_oftenest_88 rfl hl (by decide) rfl (fun ls hl => ?_)
      exact b_X11_oftenest_0_b89 C hex hst hf k0 k H locs ls hP hD hS (lv_sub hl [2, 1, 0, 3] rfl)
theorem lp_X11_oftenest_0_h49 {N : Nat} {n : Nat} {x2 : Int32} {x3 : Int32} {x4 : Int32} {σ : Sg} {z : Nat × Int32 × Int32 × Int32 × Sg} (C : Cx p s m args meth c cX11_oftenest 5 (some .int) RX11 g A X) (hex : ∀ x ∈ c.exceptionTable.toList, False) (hst : l.stackTraces = false) (hz : it (fun q => s_X11_oftenest_0_h49 N q.1 q.2.1 q.2.2.1 q.2.2.2) n (x2, x3, x4, σ) = some z) (k : Bk cw p l e rm_X11_oftenest_0 s m args below meth c 5 g A Q 1 6 95 [(3, .int z.2.2.1)] [] z.2.2.2.2) : Bk cw p l e rm_X11_oftenest_0 s m args below meth c 5 g A Q 1 6 49 [(0, .ref (g.2.2 0)), (2, .int x2), (3, .int x3), (4, .int x4)] [] σ :=
  it_W (S := Int32 × Int32 × Int32 × Sg) (fun q => Bk cw p l e rm_X11_oftenest_0 s m args below meth c 5 g A Q 1 6 49 [(0, .ref (g.2.2 0)), (2, .int q.1), (3, .int q.2.1), (4, .int q.2.2.1)] [] q.2.2.2) (fun z => Bk cw p l e rm_X11_oftenest_0 s m args below meth c 5 g A Q 1 6 95 [(3, .int z.2.2.1)] [] z.2.2.2.2) (fun q z hq k0 k => e_X11_oftenest_0_h49 C hex hst hq k0 k) n (x2, x3, x4, σ) z hz k
def s_X11_oftenest_0_h23 (N : Nat) (x1 : Int32) (x2 : Int32) (σ : Sg) : Option (Nat × Int32 × Sg) :=
if x1 < x2 then (some (1, 0, σ))
else ((f_X2_go_55 N σ).bind fun q5 =>
bd (x2 + (1 : Int32)) fun v6 =>
some (0, v6, (q5.2)))
set_option maxHeartbeats 4000000 in
set_option maxRecDepth 100000 in
theorem e_X11_oftenest_0_h23 {N : Nat} {x1 : Int32} {x2 : Int32} {σ : Sg} {z : Nat × Int32 × Sg} (C : Cx p s m args meth c cX11_oftenest 5 (some .int) RX11 g A X) (hex : ∀ x ∈ c.exceptionTable.toList, False) (hst : l.stackTraces = false) (hf : s_X11_oftenest_0_h23 N x1 x2 σ = some z) (k0 : z.1 = 0 → Bk cw p l e rm_X11_oftenest_0 s m args below meth c 5 g A Q 1 6 23 [(0, .ref (g.2.2 0)), (1, .int x1), (2, .int z.2.1)] [] z.2.2) (k : ¬ z.1 = 0 → Bk cw p l e rm_X11_oftenest_0 s m args below meth c 5 g A Q 1 6 42 [(0, .ref (g.2.2 0))] [] z.2.2) : Bk cw p l e rm_X11_oftenest_0 s m args below meth c 5 g A Q 1 6 23 [(0, .ref (g.2.2 0)), (1, .int x1), (2, .int x2)] [] σ := by
  obtain ⟨hx, hb, hr, hml, hown, hts, hK, hlocks, hXX, hA, hXo⟩ := id C
  intro H locs ls hP hD hS hl
  unfold s_X11_oftenest_0_h23 at hf
  refine lv_iload_n hx hb dX11_oftenest_23 rfl (lv_at hl 2 rfl) ?_
  refine lv_iload_n hx hb dX11_oftenest_24 rfl (lv_at hl 1 rfl) ?_
  refine lv_icmp_gt (tgt := 42) hx hb dX11_oftenest_25 (by decide) (fun t25 => ?_) (fun t25 => ?_)
  · have hf := (if_pos t25).symm.trans hf
    cases hf
    exact (k (show ¬ (1 : Nat) = 0 by decide)) H locs ls hP hD hS (lv_sub hl [0] rfl)
  · have hf := (if_neg t25).symm.trans hf
    refine lv_aload_n hx hb dX11_oftenest_28 rfl (lv_at hl 0 rfl) ?_
    refine bk_get (wf := cw) (q0 := 0) (ci := 10) (k := 10) (v := .ref (g.2.2 55)) C hP wl_X11 rfl rfl (by decide) wa_42 rfl rfl dX11_oftenest_29 ?_
    obtain ⟨q5, hq5, hf⟩ := bi_s hf
    refine bk_VI (wf := cw) (q0 := 55) (ci := 2) (rest := []) [] C hP hD hS hl.1 (c_X2_go_55 hXo hq5) (cwA_V 0 hts wa_833 wa_830 wa_831 wa_832 wa_41 rfl rfl nd_X2_go ⟨Nat.le_of_ble_eq_true rfl, Nat.le_of_ble_eq_true rfl⟩) rfl rfl rfl rfl (Nat.le_of_ble_eq_true rfl) dX11_oftenest_32 ⟨Nat.le_of_ble_eq_true rfl, Nat.le_of_ble_eq_true rfl⟩ (fun H locs hP hD hS => ?_)
    refine lv_pop hx hb dX11_oftenest_35 rfl ?_
    obtain ⟨v6, ev6, hf⟩ := bd_s hf
    refine lv_iinc (v := v6) (lv' := [(2, .int v6), (0, .ref (g.2.2 0)), (1, .int x1)]) hx hb dX11_oftenest_36 hl (k := 2) rfl (by rw [ev6]; rfl) (by decide) rfl (fun ls hl => ?_)
    refine lv_goto (tgt := 23) hx hb dX11_oftenest_39 (by decide) ?_
    cases hf
    exact k0 rfl H locs ls hP hD hS (lv_sub hl [1, 2, 0] rfl)
theorem lp_X11_oftenest_0_h23 {N : Nat} {n : Nat} {x1 : Int32} {x2 : Int32} {σ : Sg} {z : Nat × Int32 × Sg} (C : Cx p s m args meth c cX11_oftenest 5 (some .int) RX11 g A X) (hex : ∀ x ∈ c.exceptionTable.toList, False) (hst : l.stackTraces = false) (hz : it (fun q => s_X11_oftenest_0_h23 N x1 q.1 q.2) n (x2, σ) = some z) (k : Bk cw p l e rm_X11_oftenest_0 s m args below meth c 5 g A Q 1 6 42 [(0, .ref (g.2.2 0))] [] z.2.2) : Bk cw p l e rm_X11_oftenest_0 s m args below meth c 5 g A Q 1 6 23 [(0, .ref (g.2.2 0)), (1, .int x1), (2, .int x2)] [] σ :=
  it_W (S := Int32 × Sg) (fun q => Bk cw p l e rm_X11_oftenest_0 s m args below meth c 5 g A Q 1 6 23 [(0, .ref (g.2.2 0)), (1, .int x1), (2, .int q.1)] [] q.2) (fun z => Bk cw p l e rm_X11_oftenest_0 s m args below meth c 5 g A Q 1 6 42 [(0, .ref (g.2.2 0))] [] z.2.2) (fun q z hq k0 k => e_X11_oftenest_0_h23 C hex hst hq k0 k) n (x2, σ) z hz k
def f_X11_oftenest_0 (N : Nat) (x1 : Int32) (σ : Sg) : Option (Zt) :=
(f_X11_needWithin N x1 (1 : Int32) (60 : Int32) σ).bind fun q7 =>
if q7.1 = 0 then ((f_X2_start_55_22 N (q7.2.2)).bind fun q8 =>
(it (fun q => s_X11_oftenest_0_h23 N x1 q.1 q.2) N ((1 : Int32), q8)).bind fun z9 =>
(it (fun q => s_X11_oftenest_0_h49 N q.1 q.2.1 q.2.2.1 q.2.2.2) N ((-1 : Int32), (-1 : Int32), (0 : Int32), (z9.2.2))).bind fun z10 =>
some (0, (z10.2.2.1), (z10.2.2.2.2)))
else some (q7.1, 0, q7.2.2)
set_option maxHeartbeats 4000000 in
set_option maxRecDepth 100000 in
theorem b_X11_oftenest_0 {N : Nat} {x1 : Int32} {σ : Sg} {z : Zt} (C : Cx p s m args meth c cX11_oftenest 5 (some .int) RX11 g A X) (hex : ∀ x ∈ c.exceptionTable.toList, False) (hst : l.stackTraces = false) (hf : f_X11_oftenest_0 N x1 σ = some z) : Bk cw p l e rm_X11_oftenest_0 s m args below meth c 5 g A (vx_MQ below (qTi cw g A z) (xT cw g A z) args s 1 6 A) 0 0 0 [(0, .ref (g.2.2 0)), (1, .int x1)] [] σ := by
  obtain ⟨hx, hb, hr, hml, hown, hts, hK, hlocks, hXX, hA, hXo⟩ := id C
  intro H locs ls hP hD hS hl
  unfold f_X11_oftenest_0 at hf
  refine lv_iload_n hx hb dX11_oftenest_0 rfl (lv_at hl 1 rfl) ?_
  refine lv_iconst (v := (1 : Int32)) hx hb dX11_oftenest_1 (by decide) ?_
  refine lv_bipush (v := (60 : Int32)) hx hb dX11_oftenest_2 (by decide) ?_
  obtain ⟨q7, hq7, hf⟩ := bi_s hf
  refine bk_TS (wf := cw) (rest := []) [.int x1, .int (1 : Int32), .int (60 : Int32)] C hex hP hD hS hl.1 (c_X11_needWithin hXo hst hq7) (cwA_S 3 hts wa_1020 wa_1018 wa_1019 wa_2 rfl rfl nd_X11_needWithin ⟨Nat.le_of_ble_eq_true rfl, Nat.le_of_ble_eq_true rfl⟩) rfl rfl (Nat.le_of_ble_eq_true rfl) dX11_oftenest_4 ⟨Nat.le_of_ble_eq_true rfl, Nat.le_of_ble_eq_true rfl⟩ ⟨Nat.le_of_ble_eq_true rfl, Nat.le_of_ble_eq_true rfl⟩ (fun h0 => by have hf := (if_neg h0).symm.trans hf; cases hf; exact ⟨rfl, rfl⟩) (fun h0 H locs hP hD hS => ?_)
  have hf := (if_pos h0).symm.trans hf
  refine lv_aload_n hx hb dX11_oftenest_7 rfl (lv_at hl 0 rfl) ?_
  refine bk_get (wf := cw) (q0 := 0) (ci := 10) (k := 10) (v := .ref (g.2.2 55)) C hP wl_X11 rfl rfl (by decide) wa_42 rfl rfl dX11_oftenest_8 ?_
  refine lv_aload_n hx hb dX11_oftenest_11 rfl (lv_at hl 0 rfl) ?_
  refine bk_get (wf := cw) (q0 := 0) (ci := 10) (k := 4) (v := .ref (g.2.2 21)) C hP wl_X11 rfl rfl (by decide) wa_27 rfl rfl dX11_oftenest_12 ?_
  refine bk_get (wf := cw) (q0 := 21) (ci := 1) (k := 0) (v := .ref (g.2.2 22)) C hP wl_X1 rfl rfl (by decide) wa_221 rfl rfl dX11_oftenest_15 ?_
  obtain ⟨q8, hq8, hf⟩ := bi_s hf
  refine bk_VV (wf := cw) (q0 := 55) (ci := 2) (rest := []) [.ref (g.2.2 22)] C hP hD hS hl.1 (c_X2_start_55_22 hXo hq8) (cwA_V 1 hts wa_825 wa_822 wa_823 wa_824 wa_41 rfl rfl nd_X2_start ⟨Nat.le_of_ble_eq_true rfl, Nat.le_of_ble_eq_true rfl⟩) rfl rfl rfl rfl (Nat.le_of_ble_eq_true rfl) dX11_oftenest_18 ⟨Nat.le_of_ble_eq_true rfl, Nat.le_of_ble_eq_true rfl⟩ (fun H locs hP hD hS => ?_)
  refine lv_iconst (v := (1 : Int32)) hx hb dX11_oftenest_21 (by decide) ?_
  refine lv_istore_n (lv' := [(2, .int (1 : Int32)), (0, .ref (g.2.2 0)), (1, .int x1)]) hx hb dX11_oftenest_22 rfl hl (by decide) rfl (fun ls hl => ?_)
  obtain ⟨z9, hz9, hf⟩ := bi_s hf
  refine lp_X11_oftenest_0_h23 C hex hst hz9 ?_ H locs ls hP hD hS (lv_sub hl [1, 2, 0] rfl)
  intro H locs ls hP hD hS hl
  refine lv_iconst (v := (-1 : Int32)) hx hb dX11_oftenest_42 (by decide) ?_
  refine lv_istore_n (lv' := [(2, .int (-1 : Int32)), (0, .ref (g.2.2 0))]) hx hb dX11_oftenest_43 rfl hl (by decide) rfl (fun ls hl => ?_)
  refine lv_iconst (v := (-1 : Int32)) hx hb dX11_oftenest_44 (by decide) ?_
  refine lv_istore_n (lv' := [(3, .int (-1 : Int32)), (2, .int (-1 : Int32)), (0, .ref (g.2.2 0))]) hx hb dX11_oftenest_45 rfl hl (by decide) rfl (fun ls hl => ?_)
  refine lv_iconst (v := (0 : Int32)) hx hb dX11_oftenest_46 (by decide) ?_
  refine lv_istore (lv' := [(4, .int (0 : Int32)), (3, .int (-1 : Int32)), (2, .int (-1 : Int32)), (0, .ref (g.2.2 0))]) hx hb dX11_oftenest_47 hl (by decide) rfl (fun ls hl => ?_)
  obtain ⟨z10, hz10, hf⟩ := bi_s hf
  refine lp_X11_oftenest_0_h49 C hex hst hz10 ?_ H locs ls hP hD hS (lv_sub hl [3, 2, 1, 0] rfl)
  intro H locs ls hP hD hS hl
  refine lv_iload_n hx hb dX11_oftenest_95 rfl (lv_at hl 0 rfl) ?_
  exact bk_iretT C hP hD hS hf (Nat.le_of_ble_eq_true rfl) (Nat.le_of_ble_eq_true rfl) dX11_oftenest_96
theorem c_X11_oftenest_0 {N : Nat} {x1 : Int32} {σ : Sg} {z : Zt} (hX : xOK g X) (hst : l.stackTraces = false) (hf : f_X11_oftenest_0 N x1 σ = some z) : MetTi l yX11_oftenest (Cond.code yX11_oftenest cX11_oftenest 5 (some .int) :: wsA) rm_X11_oftenest_0 1 6 cw g X [.ref (g.2.2 0), .int x1] σ z :=
  MetTi_of hX (by decide) (Nat.le_of_ble_eq_true rfl) (fun p e s m args below meth c A C hex => b_X11_oftenest_0 C hex hst hf)
-- X11_crowd_0: crowd(II)I
abbrev rm_X11_crowd_0 : Room := { frames := 7, cells := 2, slots := 12, locals := 144 }
theorem nd_X11_crowd : yX11_crowd.cls ≠ "java/lang/invoke/MethodHandle" ∧ yX11_crowd.cls ≠ "java/lang/invoke/VarHandle" ∧ (parseMethodDescriptor yX11_crowd.desc).map (fun d => d.parameters.length) = some 2 := by decide +kernel
def f_X11_crowd_0_b71 (N : Nat) (x1 : Int32) (x2 : Int32) (x3 : Int32) (x5 : Int32) (t0 : Int32) (t1 : Int32) (σ : Sg) : Option (Nat × Int32 × Int32 × Int32 × Sg) :=
bd (t0 + t1) fun v1 =>
bd (x5 + (1 : Int32)) fun v2 =>
some (0, x3, v1, v2, σ)
set_option maxHeartbeats 4000000 in
set_option maxRecDepth 100000 in
theorem b_X11_crowd_0_b71 {N : Nat} {x1 : Int32} {x2 : Int32} {x3 : Int32} {x5 : Int32} {t0 : Int32} {t1 : Int32} {σ : Sg} {z : Nat × Int32 × Int32 × Int32 × Sg} (C : Cx p s m args meth c cX11_crowd 7 (some .int) RX11 g A X) (hex : ∀ x ∈ c.exceptionTable.toList, False) (hst : l.stackTraces = false) (hf : f_X11_crowd_0_b71 N x1 x2 x3 x5 t0 t1 σ = some z) (k0 : z.1 = 0 → Bk cw p l e rm_X11_crowd_0 s m args below meth c 7 g A Q 2 12 34 [(0, .ref (g.2.2 0)), (1, .int x1), (2, .int x2), (3, .int z.2.1), (4, .int z.2.2.1), (5, .int z.2.2.2.1)] [] z.2.2.2.2) (k : ¬ z.1 = 0 → Bk cw p l e rm_X11_crowd_0 s m args below meth c 7 g A Q 2 12 80 [(2, .int x2), (3, .int z.2.1), (4, .int z.2.2.1)] [] z.2.2.2.2) : Bk cw p l e rm_X11_crowd_0 s m args below meth c 7 g A Q 2 12 71 [(0, .ref (g.2.2 0)), (1, .int x1), (2, .int x2), (3, .int x3), (5, .int x5)] [.int t1, .int t0] σ := by
  obtain ⟨hx, hb, hr, hml, hown, hts, hK, hlocks, hXX, hA, hXo⟩ := id C
  intro H locs ls hP hD hS hl
  unfold f_X11_crowd_0_b71 at hf
  refine lv_iadd hx hb dX11_crowd_71 ?_
  obtain ⟨v1, ev1, hf⟩ := bd_s hf
  rw [← ev1]
  refine lv_istore (lv' := [(4, .int v1), (0, .ref (g.2.2 0)), (1, .int x1), (2, .int x2), (3, .int x3), (5, .int x5)]) hx hb dX11_crowd_72 hl (by decide) rfl (fun ls hl => ?_)
  obtain ⟨v2, ev2, hf⟩ := bd_s hf
  refine lv_iinc (v := v2) (lv' := [(5, .int v2), (4, .int v1), (0, .ref (g.2.2 0)), (1, .int x1), (2, .int x2), (3, .int x3)]) hx hb dX11_crowd_74 hl (k := 5) rfl (by rw [ev2]; rfl) (by decide) rfl (fun ls hl => ?_)
  refine lv_goto (tgt := 34) hx hb dX11_crowd_77 (by decide) ?_
  cases hf
  exact k0 rfl H locs ls hP hD hS (lv_sub hl [2, 3, 4, 5, 1, 0] rfl)
def s_X11_crowd_0_h34 (N : Nat) (x1 : Int32) (x2 : Int32) (x3 : Int32) (x4 : Int32) (x5 : Int32) (σ : Sg) : Option (Nat × Int32 × Int32 × Int32 × Sg) :=
if x1 < x5 then (some (1, x3, x4, 0, σ))
else ((f_X2_go_55 N σ).bind fun q3 =>
(f_J6_bitCount_0f7a4 N q3.1 (q3.2)).bind fun q4 =>
bd q4.1 fun v5 =>
bd (if x3 < v5 then v5 else x3) fun v6 =>
if v5 = 0 then (f_X11_crowd_0_b71 N x1 x2 v6 x5 x4 (1 : Int32) (q4.2))
else (f_X11_crowd_0_b71 N x1 x2 v6 x5 x4 (0 : Int32) (q4.2)))
set_option maxHeartbeats 4000000 in
set_option maxRecDepth 100000 in
theorem e_X11_crowd_0_h34 {N : Nat} {x1 : Int32} {x2 : Int32} {x3 : Int32} {x4 : Int32} {x5 : Int32} {σ : Sg} {z : Nat × Int32 × Int32 × Int32 × Sg} (C : Cx p s m args meth c cX11_crowd 7 (some .int) RX11 g A X) (hex : ∀ x ∈ c.exceptionTable.toList, False) (hst : l.stackTraces = false) (hf : s_X11_crowd_0_h34 N x1 x2 x3 x4 x5 σ = some z) (k0 : z.1 = 0 → Bk cw p l e rm_X11_crowd_0 s m args below meth c 7 g A Q 2 12 34 [(0, .ref (g.2.2 0)), (1, .int x1), (2, .int x2), (3, .int z.2.1), (4, .int z.2.2.1), (5, .int z.2.2.2.1)] [] z.2.2.2.2) (k : ¬ z.1 = 0 → Bk cw p l e rm_X11_crowd_0 s m args below meth c 7 g A Q 2 12 80 [(2, .int x2), (3, .int z.2.1), (4, .int z.2.2.1)] [] z.2.2.2.2) : Bk cw p l e rm_X11_crowd_0 s m args below meth c 7 g A Q 2 12 34 [(0, .ref (g.2.2 0)), (1, .int x1), (2, .int x2), (3, .int x3), (4, .int x4), (5, .int x5)] [] σ := by
  obtain ⟨hx, hb, hr, hml, hown, hts, hK, hlocks, hXX, hA, hXo⟩ := id C
  intro H locs ls hP hD hS hl
  unfold s_X11_crowd_0_h34 at hf
  refine lv_iload hx hb dX11_crowd_34 (lv_at hl 5 rfl) ?_
  refine lv_iload_n hx hb dX11_crowd_36 rfl (lv_at hl 1 rfl) ?_
  refine lv_icmp_gt (tgt := 80) hx hb dX11_crowd_37 (by decide) (fun t37 => ?_) (fun t37 => ?_)
  · have hf := (if_pos t37).symm.trans hf
    cases hf
    exact (k (show ¬ (1 : Nat) = 0 by decide)) H locs ls hP hD hS (lv_sub hl [2, 3, 4] rfl)
  · have hf := (if_neg t37).symm.trans hf
    refine lv_aload_n hx hb dX11_crowd_40 rfl (lv_at hl 0 rfl) ?_
    refine bk_get (wf := cw) (q0 := 0) (ci := 10) (k := 10) (v := .ref (g.2.2 55)) C hP wl_X11 rfl rfl (by decide) wa_42 rfl rfl dX11_crowd_41 ?_
    obtain ⟨q3, hq3, hf⟩ := bi_s hf
    refine bk_VI (wf := cw) (q0 := 55) (ci := 2) (rest := []) [] C hP hD hS hl.1 (c_X2_go_55 hXo hq3) (cwA_V 0 hts wa_833 wa_830 wa_831 wa_832 wa_41 rfl rfl nd_X2_go ⟨Nat.le_of_ble_eq_true rfl, Nat.le_of_ble_eq_true rfl⟩) rfl rfl rfl rfl (Nat.le_of_ble_eq_true rfl) dX11_crowd_44 ⟨Nat.le_of_ble_eq_true rfl, Nat.le_of_ble_eq_true rfl⟩ (fun H locs hP hD hS => ?_)
    obtain ⟨q4, hq4, hf⟩ := bi_s hf
    refine bk_SI (wf := cw) (rest := []) [.int q3.1] C hP hD hS hl.1 (c_J6_bitCount_0f7a4 hXo hq4) (cwA_S 1 hts wa_699 wa_1071 wa_697 wa_698 rfl rfl nd_J6_bitCount_0f7a4 ⟨Nat.le_of_ble_eq_true rfl, Nat.le_of_ble_eq_true rfl⟩) rfl rfl (Nat.le_of_ble_eq_true rfl) dX11_crowd_47 ⟨Nat.le_of_ble_eq_true rfl, Nat.le_of_ble_eq_true rfl⟩ (fun H locs hP hD hS => ?_)
    obtain ⟨v5, ev5, hf⟩ := bd_s hf
    rw [← ev5]
    refine lv_istore (lv' := [(6, .int v5), (0, .ref (g.2.2 0)), (1, .int x1), (2, .int x2), (3, .int x3), (4, .int x4), (5, .int x5)]) hx hb dX11_crowd_50 hl (by decide) rfl (fun ls hl => ?_)
    refine lv_iload_n hx hb dX11_crowd_52 rfl (lv_at hl 4 rfl) ?_
    refine lv_iload hx hb dX11_crowd_53 (lv_at hl 0 rfl) ?_
    refine va_mmax hx hb (hml.trans hl.1.symm) hown (hts _ wa_1258) (hts _ wa_749) (hts _ wa_231) (hts _ wa_750) (Nat.le_of_ble_eq_true rfl) (Nat.le_of_ble_eq_true rfl) (Nat.le_of_ble_eq_true rfl) (Nat.le_of_ble_eq_true rfl) dX11_crowd_55 ?_
    obtain ⟨v6, ev6, hf⟩ := bd_s hf
    rw [← ev6]
    refine lv_istore_n (lv' := [(3, .int v6), (6, .int v5), (0, .ref (g.2.2 0)), (1, .int x1), (2, .int x2), (4, .int x4), (5, .int x5)]) hx hb dX11_crowd_58 rfl hl (by decide) rfl (fun ls hl => ?_)
    refine lv_iload hx hb dX11_crowd_59 (lv_at hl 5 rfl) ?_
    refine lv_iload hx hb dX11_crowd_61 (lv_at hl 1 rfl) ?_
    refine lv_if_ne (tgt := 70) hx hb dX11_crowd_63 (by decide) (fun t63 => ?_) (fun t63 => ?_)
    · have hf := (if_neg t63).symm.trans hf
      refine lv_iconst (v := (0 : Int32)) hx hb dX11_crowd_70 (by decide) ?_
      exact b_X11_crowd_0_b71 C hex hst hf k0 k H locs ls hP hD hS (lv_sub hl [2, 3, 4, 0, 6] rfl)
    · have hf := (if_pos t63).symm.trans hf
      refine lv_iconst (v := (1 : Int32)) hx hb dX11_crowd_66 (by decide) ?_
      refine lv_goto (tgt := 71) hx hb dX11_crowd_67 (by decide) ?_
      exact b_X11_crowd_0_b71 C hex hst hf k0 k H locs ls hP hD hS (lv_sub hl [2, 3, 4, 0, 6] rfl)
theorem lp_X11_crowd_0_h34 {N : Nat} {n : Nat} {x1 : Int32} {x2 : Int32} {x3 : Int32} {x4 : Int32} {x5 : Int32} {σ : Sg} {z : Nat × Int32 × Int32 × Int32 × Sg} (C : Cx p s m args meth c cX11_crowd 7 (some .int) RX11 g A X) (hex : ∀ x ∈ c.exceptionTable.toList, False) (hst : l.stackTraces = false) (hz : it (fun q => s_X11_crowd_0_h34 N x1 x2 q.1 q.2.1 q.2.2.1 q.2.2.2) n (x3, x4, x5, σ) = some z) (k : Bk cw p l e rm_X11_crowd_0 s m args below meth c 7 g A Q 2 12 80 [(2, .int x2), (3, .int z.2.1), (4, .int z.2.2.1)] [] z.2.2.2.2) : Bk cw p l e rm_X11_crowd_0 s m args below meth c 7 g A Q 2 12 34 [(0, .ref (g.2.2 0)), (1, .int x1), (2, .int x2), (3, .int x3), (4, .int x4), (5, .int x5)] [] σ :=
  it_W (S := Int32 × Int32 × Int32 × Sg) (fun q => Bk cw p l e rm_X11_crowd_0 s m args below meth c 7 g A Q 2 12 34 [(0, .ref (g.2.2 0)), (1, .int x1), (2, .int x2), (3, .int q.1), (4, .int q.2.1), (5, .int q.2.2.1)] [] q.2.2.2) (fun z => Bk cw p l e rm_X11_crowd_0 s m args below meth c 7 g A Q 2 12 80 [(2, .int x2), (3, .int z.2.1), (4, .int z.2.2.1)] [] z.2.2.2.2) (fun q z hq k0 k => e_X11_crowd_0_h34 C hex hst hq k0 k) n (x3, x4, x5, σ) z hz k
def f_X11_crowd_0 (N : Nat) (x1 : Int32) (x2 : Int32) (σ : Sg) : Option (Zt) :=
(f_X11_needWhat N x2 (1 : Int32) σ).bind fun q7 =>
if q7.1 = 0 then ((f_X11_needWithin N x1 (1 : Int32) (60 : Int32) (q7.2.2)).bind fun q8 =>
if q8.1 = 0 then ((f_X2_start_55_22 N (q8.2.2)).bind fun q9 =>
(it (fun q => s_X11_crowd_0_h34 N x1 x2 q.1 q.2.1 q.2.2.1 q.2.2.2) N ((0 : Int32), (0 : Int32), (1 : Int32), q9)).bind fun z10 =>
if x2 = 0 then (some (0, (z10.2.1), (z10.2.2.2.2)))
else (some (0, (z10.2.2.1), (z10.2.2.2.2))))
else some (q8.1, 0, q8.2.2))
else some (q7.1, 0, q7.2.2)
set_option maxHeartbeats 4000000 in
set_option maxRecDepth 100000 in
theorem b_X11_crowd_0 {N : Nat} {x1 : Int32} {x2 : Int32} {σ : Sg} {z : Zt} (C : Cx p s m args meth c cX11_crowd 7 (some .int) RX11 g A X) (hex : ∀ x ∈ c.exceptionTable.toList, False) (hst : l.stackTraces = false) (hf : f_X11_crowd_0 N x1 x2 σ = some z) : Bk cw p l e rm_X11_crowd_0 s m args below meth c 7 g A (vx_MQ below (qTi cw g A z) (xT cw g A z) args s 2 12 A) 0 0 0 [(0, .ref (g.2.2 0)), (1, .int x1), (2, .int x2)] [] σ := by
  obtain ⟨hx, hb, hr, hml, hown, hts, hK, hlocks, hXX, hA, hXo⟩ := id C
  intro H locs ls hP hD hS hl
  unfold f_X11_crowd_0 at hf
  refine lv_iload_n hx hb dX11_crowd_0 rfl (lv_at hl 2 rfl) ?_
  refine lv_iconst (v := (1 : Int32)) hx hb dX11_crowd_1 (by decide) ?_
  obtain ⟨q7, hq7, hf⟩ := bi_s hf
  refine bk_TS (wf := cw) (rest := []) [.int x2, .int (1 : Int32)] C hex hP hD hS hl.1 (c_X11_needWhat hXo hst hq7) (cwA_S 2 hts wa_1035 wa_1033 wa_1034 wa_2 rfl rfl nd_X11_needWhat ⟨Nat.le_of_ble_eq_true rfl, Nat.le_of_ble_eq_true rfl⟩) rfl rfl (Nat.le_of_ble_eq_true rfl) dX11_crowd_2 ⟨Nat.le_of_ble_eq_true rfl, Nat.le_of_ble_eq_true rfl⟩ ⟨Nat.le_of_ble_eq_true rfl, Nat.le_of_ble_eq_true rfl⟩ (fun h0 => by have hf := (if_neg h0).symm.trans hf; cases hf; exact ⟨rfl, rfl⟩) (fun h0 H locs hP hD hS => ?_)
  have hf := (if_pos h0).symm.trans hf
  refine lv_iload_n hx hb dX11_crowd_5 rfl (lv_at hl 1 rfl) ?_
  refine lv_iconst (v := (1 : Int32)) hx hb dX11_crowd_6 (by decide) ?_
  refine lv_bipush (v := (60 : Int32)) hx hb dX11_crowd_7 (by decide) ?_
  obtain ⟨q8, hq8, hf⟩ := bi_s hf
  refine bk_TS (wf := cw) (rest := []) [.int x1, .int (1 : Int32), .int (60 : Int32)] C hex hP hD hS hl.1 (c_X11_needWithin hXo hst hq8) (cwA_S 3 hts wa_1020 wa_1018 wa_1019 wa_2 rfl rfl nd_X11_needWithin ⟨Nat.le_of_ble_eq_true rfl, Nat.le_of_ble_eq_true rfl⟩) rfl rfl (Nat.le_of_ble_eq_true rfl) dX11_crowd_9 ⟨Nat.le_of_ble_eq_true rfl, Nat.le_of_ble_eq_true rfl⟩ ⟨Nat.le_of_ble_eq_true rfl, Nat.le_of_ble_eq_true rfl⟩ (fun h0 => by have hf := (if_neg h0).symm.trans hf; cases hf; exact ⟨rfl, rfl⟩) (fun h0 H locs hP hD hS => ?_)
  have hf := (if_pos h0).symm.trans hf
  refine lv_aload_n hx hb dX11_crowd_12 rfl (lv_at hl 0 rfl) ?_
  refine bk_get (wf := cw) (q0 := 0) (ci := 10) (k := 10) (v := .ref (g.2.2 55)) C hP wl_X11 rfl rfl (by decide) wa_42 rfl rfl dX11_crowd_13 ?_
  refine lv_aload_n hx hb dX11_crowd_16 rfl (lv_at hl 0 rfl) ?_
  refine bk_get (wf := cw) (q0 := 0) (ci := 10) (k := 4) (v := .ref (g.2.2 21)) C hP wl_X11 rfl rfl (by decide) wa_27 rfl rfl dX11_crowd_17 ?_
  refine bk_get (wf := cw) (q0 := 21) (ci := 1) (k := 0) (v := .ref (g.2.2 22)) C hP wl_X1 rfl rfl (by decide) wa_221 rfl rfl dX11_crowd_20 ?_
  obtain ⟨q9, hq9, hf⟩ := bi_s hf
  refine bk_VV (wf := cw) (q0 := 55) (ci := 2) (rest := []) [.ref (g.2.2 22)] C hP hD hS hl.1 (c_X2_start_55_22 hXo hq9) (cwA_V 1 hts wa_825 wa_822 wa_823 wa_824 wa_41 rfl rfl nd_X2_start ⟨Nat.le_of_ble_eq_true rfl, Nat.le_of_ble_eq_true rfl⟩) rfl rfl rfl rfl (Nat.le_of_ble_eq_true rfl) dX11_crowd_23 ⟨Nat.le_of_ble_eq_true rfl, Nat.le_of_ble_eq_true rfl⟩ (fun H locs hP hD hS => ?_)
  refine lv_iconst (v := (0 : Int32)) hx hb dX11_crowd_26 (by decide) ?_
  refine lv_istore_n (lv' := [(3, .int (0 : Int32)), (0, .ref (g.2.2 0)), (1, .int x1), (2, .int x2)]) hx hb dX11_crowd_27 rfl hl (by decide) rfl (fun ls hl => ?_)
  refine lv_iconst (v := (0 : Int32)) hx hb dX11_crowd_28 (by decide) ?_
  refine lv_istore (lv' := [(4, .int (0 : Int32)), (3, .int (0 : Int32)), (0, .ref (g.2.2 0)), (1, .int x1), (2, .int x2)]) hx hb dX11_crowd_29 hl (by decide) rfl (fun ls hl => ?_)
  refine lv_iconst (v := (1 : Int32)) hx hb dX11_crowd_31 (by decide) ?_
  refine lv_istore (lv' := [(5, .int (1 : Int32)), (4, .int (0 : Int32)), (3, .int (0 : Int32)), (0, .ref (g.2.2 0)), (1, .int x1), (2, .int x2)]) hx hb dX11_crowd_32 hl (by decide) rfl (fun ls hl => ?_)
  obtain ⟨z10, hz10, hf⟩ := bi_s hf
  refine lp_X11_crowd_0_h34 C hex hst hz10 ?_ H locs ls hP hD hS (lv_sub hl [3, 4, 5, 2, 1, 0] rfl)
  intro H locs ls hP hD hS hl
  refine lv_iload_n hx hb dX11_crowd_80 rfl (lv_at hl 0 rfl) ?_
  refine lv_if_ne (tgt := 88) hx hb dX11_crowd_81 (by decide) (fun t81 => ?_) (fun t81 => ?_)
  · have hf := (if_neg t81).symm.trans hf
    refine lv_iload hx hb dX11_crowd_88 (lv_at hl 2 rfl) ?_
    exact bk_iretT C hP hD hS hf (Nat.le_of_ble_eq_true rfl) (Nat.le_of_ble_eq_true rfl) dX11_crowd_90
  · have hf := (if_pos t81).symm.trans hf
    refine lv_iload_n hx hb dX11_crowd_84 rfl (lv_at hl 1 rfl) ?_
    refine lv_goto (tgt := 90) hx hb dX11_crowd_85 (by decide) ?_
    exact bk_iretT C hP hD hS hf (Nat.le_of_ble_eq_true rfl) (Nat.le_of_ble_eq_true rfl) dX11_crowd_90
theorem c_X11_crowd_0 {N : Nat} {x1 : Int32} {x2 : Int32} {σ : Sg} {z : Zt} (hX : xOK g X) (hst : l.stackTraces = false) (hf : f_X11_crowd_0 N x1 x2 σ = some z) : MetTi l yX11_crowd (Cond.code yX11_crowd cX11_crowd 7 (some .int) :: wsA) rm_X11_crowd_0 2 12 cw g X [.ref (g.2.2 0), .int x1, .int x2] σ z :=
  MetTi_of hX (by decide) (Nat.le_of_ble_eq_true rfl) (fun p e s m args below meth c A C hex => b_X11_crowd_0 C hex hst hf)
-- X7_sleeps_56: sleeps(I)Z
abbrev rm_X7_sleeps_56 : Room := { frames := 0, cells := 0, slots := 0, locals := 0 }
def f_X7_sleeps_56 (N : Nat) (x1 : Int32) (σ : Sg) : Option (Int32 × Sg) :=
if (((σ 56 1) >>> (x1 &&& 31)) &&& (1 : Int32)) = (1 : Int32) then (some ((1 : Int32), σ))
else (some ((0 : Int32), σ))
set_option maxHeartbeats 4000000 in
set_option maxRecDepth 100000 in
theorem b_X7_sleeps_56 {N : Nat} {x1 : Int32} {σ : Sg} {z : Int32 × Sg} (C : Cx p s m args meth c cX7_sleeps 2 (some .boolean) RX7 g A X) (hf : f_X7_sleeps_56 N x1 σ = some z) : Bk cw p l e rm_X7_sleeps_56 s m args below meth c 2 g A (MQ below (qI cw g A z.1 z.2) args s 0 0 A) 0 0 0 [(0, .ref (g.2.2 56)), (1, .int x1)] [] σ := by
  obtain ⟨hx, hb, hr, hml, hown, hts, hK, hlocks, hXX, hA, hXo⟩ := id C
  intro H locs ls hP hD hS hl
  unfold f_X7_sleeps_56 at hf
  refine lv_aload_n hx hb dX7_sleeps_0 rfl (lv_at hl 0 rfl) ?_
  refine bk_get (wf := cw) (q0 := 56) (ci := 7) (k := 1) (v := .int (σ 56 1)) C hP wl_X7 rfl rfl (by decide) wa_108 rfl rfl dX7_sleeps_1 ?_
  refine lv_iload_n hx hb dX7_sleeps_4 rfl (lv_at hl 1 rfl) ?_
  refine lv_ishr hx hb dX7_sleeps_5 ?_
  refine lv_iconst (v := (1 : Int32)) hx hb dX7_sleeps_6 (by decide) ?_
  refine lv_iand hx hb dX7_sleeps_7 ?_
  refine lv_iconst (v := (1 : Int32)) hx hb dX7_sleeps_8 (by decide) ?_
  refine lv_icmp_ne (tgt := 16) hx hb dX7_sleeps_9 (by decide) (fun t9 => ?_) (fun t9 => ?_)
  · have hf := (if_neg t9).symm.trans hf
    refine lv_iconst (v := (0 : Int32)) hx hb dX7_sleeps_16 (by decide) ?_
    cases hf
    exact bk_zret C hP hD hS (by decide) rfl dX7_sleeps_17
  · have hf := (if_pos t9).symm.trans hf
    refine lv_iconst (v := (1 : Int32)) hx hb dX7_sleeps_12 (by decide) ?_
    refine lv_goto (tgt := 17) hx hb dX7_sleeps_13 (by decide) ?_
    cases hf
    exact bk_zret C hP hD hS (by decide) rfl dX7_sleeps_17
theorem c_X7_sleeps_56 {N : Nat} {x1 : Int32} {σ : Sg} {z : Int32 × Sg} (hX : xOK g X) (hf : f_X7_sleeps_56 N x1 σ = some z) : MetI l yX7_sleeps (Cond.code yX7_sleeps cX7_sleeps 2 (some .boolean) :: wsA) rm_X7_sleeps_56 cw g X [.ref (g.2.2 56), .int x1] σ z.1 z.2 :=
  MetI_of hX (by decide) (Nat.le_of_ble_eq_true rfl) (fun p e s m args below meth c A C => b_X7_sleeps_56 C hf)
-- X7_startNod_56: startNod(I)V
abbrev rm_X7_startNod_56 : Room := { frames := 1, cells := 0, slots := 0, locals := 21 }
def f_X7_startNod_56 (N : Nat) (x1 : Int32) (σ : Sg) : Option (Sg) :=
(f_X7_sleeps_56 N x1 σ).bind fun q1 =>
if q1.1 = 0 then (if (x1 < 0 ∨ 9 ≤ x1.toNatClampNeg) then none else
bd (wr (q1.2) 57 (x1.toNatClampNeg) (1 : Int32)) fun σ3 =>
some σ3)
else (some (q1.2))
set_option maxHeartbeats 4000000 in
set_option maxRecDepth 100000 in
theorem b_X7_startNod_56 {N : Nat} {x1 : Int32} {σ : Sg} {z : Sg} (C : Cx p s m args meth c cX7_startNod 2 none RX7 g A X) (hf : f_X7_startNod_56 N x1 σ = some z) : Bk cw p l e rm_X7_startNod_56 s m args below meth c 2 g A (MQ below (qV cw g A z) args s 0 0 A) 0 0 0 [(0, .ref (g.2.2 56)), (1, .int x1)] [] σ := by
  obtain ⟨hx, hb, hr, hml, hown, hts, hK, hlocks, hXX, hA, hXo⟩ := id C
  intro H locs ls hP hD hS hl
  unfold f_X7_startNod_56 at hf
  refine lv_aload_n hx hb dX7_startNod_0 rfl (lv_at hl 0 rfl) ?_
  refine lv_iload_n hx hb dX7_startNod_1 rfl (lv_at hl 1 rfl) ?_
  obtain ⟨q1, hq1, hf⟩ := bi_s hf
  refine bk_VI (wf := cw) (q0 := 56) (ci := 7) (rest := []) [.int x1] C hP hD hS hl.1 (c_X7_sleeps_56 hXo hq1) (cwA_V 1 hts wa_926 wa_931 wa_924 wa_925 wa_93 rfl rfl nd_X7_sleeps ⟨Nat.le_of_ble_eq_true rfl, Nat.le_of_ble_eq_true rfl⟩) rfl rfl rfl rfl (Nat.le_of_ble_eq_true rfl) dX7_startNod_2 ⟨Nat.le_of_ble_eq_true rfl, Nat.le_of_ble_eq_true rfl⟩ (fun H locs hP hD hS => ?_)
  refine lv_if_ne (tgt := 15) hx hb dX7_startNod_5 (by decide) (fun t5 => ?_) (fun t5 => ?_)
  · have hf := (if_neg t5).symm.trans hf
    cases hf
    exact bk_vret C hP hD hS rfl dX7_startNod_15
  · have hf := (if_pos t5).symm.trans hf
    refine lv_aload_n hx hb dX7_startNod_8 rfl (lv_at hl 0 rfl) ?_
    refine bk_get (wf := cw) (q0 := 56) (ci := 7) (k := 2) (v := .ref (g.2.2 57)) C hP wl_X7 rfl rfl (by decide) wa_109 rfl rfl dX7_startNod_9 ?_
    refine lv_iload_n hx hb dX7_startNod_12 rfl (lv_at hl 1 rfl) ?_
    refine lv_iconst (v := (1 : Int32)) hx hb dX7_startNod_13 (by decide) ?_
    obtain ⟨g2, hf⟩ := gd_s hf
    obtain ⟨σ3, eσ3, hf⟩ := bd_s hf
    refine bk_iast (wf := cw) (σ1 := σ3) (q0 := 57) (n := 9) (j := x1.toNatClampNeg) C hP hD hS rfl g2 rfl (by rw [eσ3]; exact cw_a57 g _ _ _) dX7_startNod_14 (fun H locs hP hD hS => ?_)
    cases hf
    exact bk_vret C hP hD hS rfl dX7_startNod_15
theorem c_X7_startNod_56 {N : Nat} {x1 : Int32} {σ : Sg} {z : Sg} (hX : xOK g X) (hf : f_X7_startNod_56 N x1 σ = some z) : MetV l yX7_startNod (Cond.code yX7_startNod cX7_startNod 2 none :: wsA) rm_X7_startNod_56 cw g X [.ref (g.2.2 56), .int x1] σ z :=
  MetV_of hX (by decide) (Nat.le_of_ble_eq_true rfl) (fun p e s m args below meth c A C => b_X7_startNod_56 C hf)
-- X7_quiet_56: quiet()V
abbrev rm_X7_quiet_56 : Room := { frames := 0, cells := 0, slots := 0, locals := 0 }
def s_X7_quiet_56_h2 (N : Nat) (x1 : Int32) (σ : Sg) : Option (Nat × Int32 × Sg) :=
if (9 : Int32) ≤ x1 then (some (1, 0, σ))
else (if (x1 < 0 ∨ 9 ≤ x1.toNatClampNeg) then none else
bd (wr σ 57 (x1.toNatClampNeg) (0 : Int32)) fun σ2 =>
bd (x1 + (1 : Int32)) fun v3 =>
some (0, v3, σ2))
set_option maxHeartbeats 4000000 in
set_option maxRecDepth 100000 in
theorem e_X7_quiet_56_h2 {N : Nat} {x1 : Int32} {σ : Sg} {z : Nat × Int32 × Sg} (C : Cx p s m args meth c cX7_quiet 2 none RX7 g A X) (hf : s_X7_quiet_56_h2 N x1 σ = some z) (k0 : z.1 = 0 → Bk cw p l e rm_X7_quiet_56 s m args below meth c 2 g A Q 0 0 2 [(0, .ref (g.2.2 56)), (1, .int z.2.1)] [] z.2.2) (k : ¬ z.1 = 0 → Bk cw p l e rm_X7_quiet_56 s m args below meth c 2 g A Q 0 0 21 [] [] z.2.2) : Bk cw p l e rm_X7_quiet_56 s m args below meth c 2 g A Q 0 0 2 [(0, .ref (g.2.2 56)), (1, .int x1)] [] σ := by
  obtain ⟨hx, hb, hr, hml, hown, hts, hK, hlocks, hXX, hA, hXo⟩ := id C
  intro H locs ls hP hD hS hl
  unfold s_X7_quiet_56_h2 at hf
  refine lv_iload_n hx hb dX7_quiet_2 rfl (lv_at hl 1 rfl) ?_
  refine lv_bipush (v := (9 : Int32)) hx hb dX7_quiet_3 (by decide) ?_
  refine lv_icmp_ge (tgt := 21) hx hb dX7_quiet_5 (by decide) (fun t5 => ?_) (fun t5 => ?_)
  · have hf := (if_pos t5).symm.trans hf
    cases hf
    exact (k (show ¬ (1 : Nat) = 0 by decide)) H locs ls hP hD hS (lv_sub hl [] rfl)
  · have hf := (if_neg t5).symm.trans hf
    refine lv_aload_n hx hb dX7_quiet_8 rfl (lv_at hl 0 rfl) ?_
    refine bk_get (wf := cw) (q0 := 56) (ci := 7) (k := 2) (v := .ref (g.2.2 57)) C hP wl_X7 rfl rfl (by decide) wa_109 rfl rfl dX7_quiet_9 ?_
    refine lv_iload_n hx hb dX7_quiet_12 rfl (lv_at hl 1 rfl) ?_
    refine lv_iconst (v := (0 : Int32)) hx hb dX7_quiet_13 (by decide) ?_
    obtain ⟨g1, hf⟩ := gd_s hf
    obtain ⟨σ2, eσ2, hf⟩ := bd_s hf
    refine bk_iast (wf := cw) (σ1 := σ2) (q0 := 57) (n := 9) (j := x1.toNatClampNeg) C hP hD hS rfl g1 rfl (by rw [eσ2]; exact cw_a57 g _ _ _) dX7_quiet_14 (fun H locs hP hD hS => ?_)
    obtain ⟨v3, ev3, hf⟩ := bd_s hf
    refine lv_iinc (v := v3) (lv' := [(1, .int v3), (0, .ref (g.2.2 56))]) hx hb dX7_quiet_15 hl (k := 1) rfl (by rw [ev3]; rfl) (by decide) rfl (fun ls hl => ?_)
    refine lv_goto (tgt := 2) hx hb dX7_quiet_18 (by decide) ?_
    cases hf
    exact k0 rfl H locs ls hP hD hS (lv_sub hl [1, 0] rfl)
theorem lp_X7_quiet_56_h2 {N : Nat} {n : Nat} {x1 : Int32} {σ : Sg} {z : Nat × Int32 × Sg} (C : Cx p s m args meth c cX7_quiet 2 none RX7 g A X) (hz : it (fun q => s_X7_quiet_56_h2 N q.1 q.2) n (x1, σ) = some z) (k : Bk cw p l e rm_X7_quiet_56 s m args below meth c 2 g A Q 0 0 21 [] [] z.2.2) : Bk cw p l e rm_X7_quiet_56 s m args below meth c 2 g A Q 0 0 2 [(0, .ref (g.2.2 56)), (1, .int x1)] [] σ :=
  it_W (S := Int32 × Sg) (fun q => Bk cw p l e rm_X7_quiet_56 s m args below meth c 2 g A Q 0 0 2 [(0, .ref (g.2.2 56)), (1, .int q.1)] [] q.2) (fun z => Bk cw p l e rm_X7_quiet_56 s m args below meth c 2 g A Q 0 0 21 [] [] z.2.2) (fun q z hq k0 k => e_X7_quiet_56_h2 C hq k0 k) n (x1, σ) z hz k
def f_X7_quiet_56 (N : Nat) (σ : Sg) : Option (Sg) :=
(it (fun q => s_X7_quiet_56_h2 N q.1 q.2) N ((0 : Int32), σ)).bind fun z4 =>
some (z4.2.2)
set_option maxHeartbeats 4000000 in
set_option maxRecDepth 100000 in
theorem b_X7_quiet_56 {N : Nat} {σ : Sg} {z : Sg} (C : Cx p s m args meth c cX7_quiet 2 none RX7 g A X) (hf : f_X7_quiet_56 N σ = some z) : Bk cw p l e rm_X7_quiet_56 s m args below meth c 2 g A (MQ below (qV cw g A z) args s 0 0 A) 0 0 0 [(0, .ref (g.2.2 56))] [] σ := by
  obtain ⟨hx, hb, hr, hml, hown, hts, hK, hlocks, hXX, hA, hXo⟩ := id C
  intro H locs ls hP hD hS hl
  unfold f_X7_quiet_56 at hf
  refine lv_iconst (v := (0 : Int32)) hx hb dX7_quiet_0 (by decide) ?_
  refine lv_istore_n (lv' := [(1, .int (0 : Int32)), (0, .ref (g.2.2 56))]) hx hb dX7_quiet_1 rfl hl (by decide) rfl (fun ls hl => ?_)
  obtain ⟨z4, hz4, hf⟩ := bi_s hf
  refine lp_X7_quiet_56_h2 C hz4 ?_ H locs ls hP hD hS (lv_sub hl [1, 0] rfl)
  intro H locs ls hP hD hS hl
  cases hf
  exact bk_vret C hP hD hS rfl dX7_quiet_21
theorem c_X7_quiet_56 {N : Nat} {σ : Sg} {z : Sg} (hX : xOK g X) (hf : f_X7_quiet_56 N σ = some z) : MetV l yX7_quiet (Cond.code yX7_quiet cX7_quiet 2 none :: wsA) rm_X7_quiet_56 cw g X [.ref (g.2.2 56)] σ z :=
  MetV_of hX (by decide) (Nat.le_of_ble_eq_true rfl) (fun p e s m args below meth c A C => b_X7_quiet_56 C hf)
-- X2_startAnew_55_22: startAnew(LNodPost$State;I)V
abbrev rm_X2_startAnew_55_22 : Room := { frames := 4, cells := 0, slots := 0, locals := 144 }
theorem nd_X2_startAnew : yX2_startAnew.cls ≠ "java/lang/invoke/MethodHandle" ∧ yX2_startAnew.cls ≠ "java/lang/invoke/VarHandle" ∧ (parseMethodDescriptor yX2_startAnew.desc).map (fun d => d.parameters.length) = some 2 := by decide +kernel
def f_X2_startAnew_55_22_b52 (N : Nat) (x2 : Int32) (x3 : Int32) (σ : Sg) : Option (Nat × Int32 × Sg) :=
bd (x3 + (1 : Int32)) fun v1 =>
some (0, v1, σ)
set_option maxHeartbeats 4000000 in
set_option maxRecDepth 100000 in
theorem b_X2_startAnew_55_22_b52 {N : Nat} {x2 : Int32} {x3 : Int32} {σ : Sg} {z : Nat × Int32 × Sg} (C : Cx p s m args meth c cX2_startAnew 4 none RX2 g A X) (hf : f_X2_startAnew_55_22_b52 N x2 x3 σ = some z) (k0 : z.1 = 0 → Bk cw p l e rm_X2_startAnew_55_22 s m args below meth c 4 g A Q 0 0 14 [(0, .ref (g.2.2 55)), (2, .int x2), (3, .int z.2.1)] [] z.2.2) (k : ¬ z.1 = 0 → Bk cw p l e rm_X2_startAnew_55_22 s m args below meth c 4 g A Q 0 0 58 [] [] z.2.2) : Bk cw p l e rm_X2_startAnew_55_22 s m args below meth c 4 g A Q 0 0 52 [(0, .ref (g.2.2 55)), (2, .int x2), (3, .int x3)] [] σ := by
  obtain ⟨hx, hb, hr, hml, hown, hts, hK, hlocks, hXX, hA, hXo⟩ := id C
  intro H locs ls hP hD hS hl
  unfold f_X2_startAnew_55_22_b52 at hf
  obtain ⟨v1, ev1, hf⟩ := bd_s hf
  refine lv_iinc (v := v1) (lv' := [(3, .int v1), (0, .ref (g.2.2 55)), (2, .int x2)]) hx hb dX2_startAnew_52 hl (k := 2) rfl (by rw [ev1]; rfl) (by decide) rfl (fun ls hl => ?_)
  refine lv_goto (tgt := 14) hx hb dX2_startAnew_55 (by decide) ?_
  cases hf
  exact k0 rfl H locs ls hP hD hS (lv_sub hl [1, 2, 0] rfl)
def s_X2_startAnew_55_22_h14 (N : Nat) (x2 : Int32) (x3 : Int32) (σ : Sg) : Option (Nat × Int32 × Sg) :=
if (σ 12 0) ≤ x3 then (some (1, 0, σ))
else (if (x3 < 0 ∨ 9 ≤ x3.toNatClampNeg) then none else
bd (wr σ 58 (x3.toNatClampNeg) (0 : Int32)) fun σ3 =>
if ((x2 >>> (x3 &&& 31)) &&& (1 : Int32)) = (1 : Int32) then ((f_X7_startNod_56 N x3 σ3).bind fun q4 =>
f_X2_startAnew_55_22_b52 N x2 x3 q4)
else (f_X2_startAnew_55_22_b52 N x2 x3 σ3))
set_option maxHeartbeats 4000000 in
set_option maxRecDepth 100000 in
theorem e_X2_startAnew_55_22_h14 {N : Nat} {x2 : Int32} {x3 : Int32} {σ : Sg} {z : Nat × Int32 × Sg} (C : Cx p s m args meth c cX2_startAnew 4 none RX2 g A X) (hf : s_X2_startAnew_55_22_h14 N x2 x3 σ = some z) (k0 : z.1 = 0 → Bk cw p l e rm_X2_startAnew_55_22 s m args below meth c 4 g A Q 0 0 14 [(0, .ref (g.2.2 55)), (2, .int x2), (3, .int z.2.1)] [] z.2.2) (k : ¬ z.1 = 0 → Bk cw p l e rm_X2_startAnew_55_22 s m args below meth c 4 g A Q 0 0 58 [] [] z.2.2) : Bk cw p l e rm_X2_startAnew_55_22 s m args below meth c 4 g A Q 0 0 14 [(0, .ref (g.2.2 55)), (2, .int x2), (3, .int x3)] [] σ := by
  obtain ⟨hx, hb, hr, hml, hown, hts, hK, hlocks, hXX, hA, hXo⟩ := id C
  intro H locs ls hP hD hS hl
  unfold s_X2_startAnew_55_22_h14 at hf
  refine lv_iload_n hx hb dX2_startAnew_14 rfl (lv_at hl 2 rfl) ?_
  refine lv_aload_n hx hb dX2_startAnew_15 rfl (lv_at hl 0 rfl) ?_
  refine bk_get (wf := cw) (q0 := 55) (ci := 2) (k := 3) (v := .ref (g.2.2 12)) C hP wl_X2 rfl rfl (by decide) wa_148 rfl rfl dX2_startAnew_16 ?_
  refine bk_get (wf := cw) (q0 := 12) (ci := 8) (k := 0) (v := .int (σ 12 0)) C hP wl_X9 rfl rfl (by decide) wa_840 rfl rfl dX2_startAnew_19 ?_
  refine lv_icmp_ge (tgt := 58) hx hb dX2_startAnew_22 (by decide) (fun t22 => ?_) (fun t22 => ?_)
  · have hf := (if_pos t22).symm.trans hf
    cases hf
    exact (k (show ¬ (1 : Nat) = 0 by decide)) H locs ls hP hD hS (lv_sub hl [] rfl)
  · have hf := (if_neg t22).symm.trans hf
    refine lv_aload_n hx hb dX2_startAnew_25 rfl (lv_at hl 0 rfl) ?_
    refine bk_get (wf := cw) (q0 := 55) (ci := 2) (k := 0) (v := .ref (g.2.2 56)) C hP wl_X2 rfl rfl (by decide) wa_144 rfl rfl dX2_startAnew_26 ?_
    refine bk_get (wf := cw) (q0 := 56) (ci := 7) (k := 3) (v := .ref (g.2.2 58)) C hP wl_X7 rfl rfl (by decide) wa_847 rfl rfl dX2_startAnew_29 ?_
    refine lv_iload_n hx hb dX2_startAnew_32 rfl (lv_at hl 2 rfl) ?_
    refine lv_iconst (v := (0 : Int32)) hx hb dX2_startAnew_33 (by decide) ?_
    obtain ⟨g2, hf⟩ := gd_s hf
    obtain ⟨σ3, eσ3, hf⟩ := bd_s hf
    refine bk_iast (wf := cw) (σ1 := σ3) (q0 := 58) (n := 9) (j := x3.toNatClampNeg) C hP hD hS rfl g2 rfl (by rw [eσ3]; exact cw_a58 g _ _ _) dX2_startAnew_34 (fun H locs hP hD hS => ?_)
    refine lv_iload_n hx hb dX2_startAnew_35 rfl (lv_at hl 1 rfl) ?_
    refine lv_iload_n hx hb dX2_startAnew_36 rfl (lv_at hl 2 rfl) ?_
    refine lv_ishr hx hb dX2_startAnew_37 ?_
    refine lv_iconst (v := (1 : Int32)) hx hb dX2_startAnew_38 (by decide) ?_
    refine lv_iand hx hb dX2_startAnew_39 ?_
    refine lv_iconst (v := (1 : Int32)) hx hb dX2_startAnew_40 (by decide) ?_
    refine lv_icmp_ne (tgt := 52) hx hb dX2_startAnew_41 (by decide) (fun t41 => ?_) (fun t41 => ?_)
    · have hf := (if_neg t41).symm.trans hf
      exact b_X2_startAnew_55_22_b52 C hf k0 k H locs ls hP hD hS (lv_sub hl [0, 1, 2] rfl)
    · have hf := (if_pos t41).symm.trans hf
      refine lv_aload_n hx hb dX2_startAnew_44 rfl (lv_at hl 0 rfl) ?_
      refine bk_get (wf := cw) (q0 := 55) (ci := 2) (k := 0) (v := .ref (g.2.2 56)) C hP wl_X2 rfl rfl (by decide) wa_144 rfl rfl dX2_startAnew_45 ?_
      refine lv_iload_n hx hb dX2_startAnew_48 rfl (lv_at hl 2 rfl) ?_
      obtain ⟨q4, hq4, hf⟩ := bi_s hf
      refine bk_VV (wf := cw) (q0 := 56) (ci := 7) (rest := []) [.int x3] C hP hD hS hl.1 (c_X7_startNod_56 hXo hq4) (cwA_V 1 hts wa_930 wa_1105 wa_928 wa_929 wa_93 rfl rfl nd_X7_startNod ⟨Nat.le_of_ble_eq_true rfl, Nat.le_of_ble_eq_true rfl⟩) rfl rfl rfl rfl (Nat.le_of_ble_eq_true rfl) dX2_startAnew_49 ⟨Nat.le_of_ble_eq_true rfl, Nat.le_of_ble_eq_true rfl⟩ (fun H locs hP hD hS => ?_)
      exact b_X2_startAnew_55_22_b52 C hf k0 k H locs ls hP hD hS (lv_sub hl [0, 1, 2] rfl)
theorem lp_X2_startAnew_55_22_h14 {N : Nat} {n : Nat} {x2 : Int32} {x3 : Int32} {σ : Sg} {z : Nat × Int32 × Sg} (C : Cx p s m args meth c cX2_startAnew 4 none RX2 g A X) (hz : it (fun q => s_X2_startAnew_55_22_h14 N x2 q.1 q.2) n (x3, σ) = some z) (k : Bk cw p l e rm_X2_startAnew_55_22 s m args below meth c 4 g A Q 0 0 58 [] [] z.2.2) : Bk cw p l e rm_X2_startAnew_55_22 s m args below meth c 4 g A Q 0 0 14 [(0, .ref (g.2.2 55)), (2, .int x2), (3, .int x3)] [] σ :=
  it_W (S := Int32 × Sg) (fun q => Bk cw p l e rm_X2_startAnew_55_22 s m args below meth c 4 g A Q 0 0 14 [(0, .ref (g.2.2 55)), (2, .int x2), (3, .int q.1)] [] q.2) (fun z => Bk cw p l e rm_X2_startAnew_55_22 s m args below meth c 4 g A Q 0 0 58 [] [] z.2.2) (fun q z hq k0 k => e_X2_startAnew_55_22_h14 C hq k0 k) n (x3, σ) z hz k
def f_X2_startAnew_55_22 (N : Nat) (x2 : Int32) (σ : Sg) : Option (Sg) :=
(f_X2_start_55_22 N σ).bind fun q5 =>
(f_X7_quiet_56 N q5).bind fun q6 =>
(it (fun q => s_X2_startAnew_55_22_h14 N x2 q.1 q.2) N ((0 : Int32), q6)).bind fun z7 =>
some (z7.2.2)
set_option maxHeartbeats 4000000 in
set_option maxRecDepth 100000 in
theorem b_X2_startAnew_55_22 {N : Nat} {x2 : Int32} {σ : Sg} {z : Sg} (C : Cx p s m args meth c cX2_startAnew 4 none RX2 g A X) (hf : f_X2_startAnew_55_22 N x2 σ = some z) : Bk cw p l e rm_X2_startAnew_55_22 s m args below meth c 4 g A (MQ below (qV cw g A z) args s 0 0 A) 0 0 0 [(0, .ref (g.2.2 55)), (1, .ref (g.2.2 22)), (2, .int x2)] [] σ := by
  obtain ⟨hx, hb, hr, hml, hown, hts, hK, hlocks, hXX, hA, hXo⟩ := id C
  intro H locs ls hP hD hS hl
  unfold f_X2_startAnew_55_22 at hf
  refine lv_aload_n hx hb dX2_startAnew_0 rfl (lv_at hl 0 rfl) ?_
  refine lv_aload_n hx hb dX2_startAnew_1 rfl (lv_at hl 1 rfl) ?_
  obtain ⟨q5, hq5, hf⟩ := bi_s hf
  refine bk_VV (wf := cw) (q0 := 55) (ci := 2) (rest := []) [.ref (g.2.2 22)] C hP hD hS hl.1 (c_X2_start_55_22 hXo hq5) (cwA_V 1 hts wa_825 wa_1103 wa_823 wa_824 wa_41 rfl rfl nd_X2_start ⟨Nat.le_of_ble_eq_true rfl, Nat.le_of_ble_eq_true rfl⟩) rfl rfl rfl rfl (Nat.le_of_ble_eq_true rfl) dX2_startAnew_2 ⟨Nat.le_of_ble_eq_true rfl, Nat.le_of_ble_eq_true rfl⟩ (fun H locs hP hD hS => ?_)
  refine lv_aload_n hx hb dX2_startAnew_5 rfl (lv_at hl 0 rfl) ?_
  refine bk_get (wf := cw) (q0 := 55) (ci := 2) (k := 0) (v := .ref (g.2.2 56)) C hP wl_X2 rfl rfl (by decide) wa_144 rfl rfl dX2_startAnew_6 ?_
  obtain ⟨q6, hq6, hf⟩ := bi_s hf
  refine bk_VV (wf := cw) (q0 := 56) (ci := 7) (rest := []) [] C hP hD hS hl.1 (c_X7_quiet_56 hXo hq6) (cwA_V 0 hts wa_460 wa_1104 wa_458 wa_459 wa_93 rfl rfl nd_X7_quiet ⟨Nat.le_of_ble_eq_true rfl, Nat.le_of_ble_eq_true rfl⟩) rfl rfl rfl rfl (Nat.le_of_ble_eq_true rfl) dX2_startAnew_9 ⟨Nat.le_of_ble_eq_true rfl, Nat.le_of_ble_eq_true rfl⟩ (fun H locs hP hD hS => ?_)
  refine lv_iconst (v := (0 : Int32)) hx hb dX2_startAnew_12 (by decide) ?_
  refine lv_istore_n (lv' := [(3, .int (0 : Int32)), (0, .ref (g.2.2 55)), (1, .ref (g.2.2 22)), (2, .int x2)]) hx hb dX2_startAnew_13 rfl hl (by decide) rfl (fun ls hl => ?_)
  obtain ⟨z7, hz7, hf⟩ := bi_s hf
  refine lp_X2_startAnew_55_22_h14 C hz7 ?_ H locs ls hP hD hS (lv_sub hl [1, 3, 0] rfl)
  intro H locs ls hP hD hS hl
  cases hf
  exact bk_vret C hP hD hS rfl dX2_startAnew_58
theorem c_X2_startAnew_55_22 {N : Nat} {x2 : Int32} {σ : Sg} {z : Sg} (hX : xOK g X) (hf : f_X2_startAnew_55_22 N x2 σ = some z) : MetV l yX2_startAnew (Cond.code yX2_startAnew cX2_startAnew 4 none :: wsA) rm_X2_startAnew_55_22 cw g X [.ref (g.2.2 55), .ref (g.2.2 22), .int x2] σ z :=
  MetV_of hX (by decide) (Nat.le_of_ble_eq_true rfl) (fun p e s m args below meth c A C => b_X2_startAnew_55_22 C hf)
-- X11_reaches_0: reaches(II)I
abbrev rm_X11_reaches_0 : Room := { frames := 8, cells := 2, slots := 12, locals := 167 }
theorem nd_X11_reaches : yX11_reaches.cls ≠ "java/lang/invoke/MethodHandle" ∧ yX11_reaches.cls ≠ "java/lang/invoke/VarHandle" ∧ (parseMethodDescriptor yX11_reaches.desc).map (fun d => d.parameters.length) = some 2 := by decide +kernel
def f_X11_reaches_0 (N : Nat) (x1 : Int32) (x2 : Int32) (σ : Sg) : Option (Zt) :=
(f_X11_needFarms_0 N x1 x2 σ).bind fun q1 =>
if q1.1 = 0 then ((f_X2_startAnew_55_22 N ((1 : Int32) <<< (x1 &&& 31)) (q1.2.2)).bind fun q2 =>
(f_X2_firstNod_55 N x2 q2).bind fun q3 =>
some (0, q3.1, (q3.2)))
else some (q1.1, 0, q1.2.2)
set_option maxHeartbeats 4000000 in
set_option maxRecDepth 100000 in
theorem b_X11_reaches_0 {N : Nat} {x1 : Int32} {x2 : Int32} {σ : Sg} {z : Zt} (C : Cx p s m args meth c cX11_reaches 3 (some .int) RX11 g A X) (hex : ∀ x ∈ c.exceptionTable.toList, False) (hst : l.stackTraces = false) (hf : f_X11_reaches_0 N x1 x2 σ = some z) : Bk cw p l e rm_X11_reaches_0 s m args below meth c 3 g A (vx_MQ below (qTi cw g A z) (xT cw g A z) args s 2 12 A) 0 0 0 [(0, .ref (g.2.2 0)), (1, .int x1), (2, .int x2)] [] σ := by
  obtain ⟨hx, hb, hr, hml, hown, hts, hK, hlocks, hXX, hA, hXo⟩ := id C
  intro H locs ls hP hD hS hl
  unfold f_X11_reaches_0 at hf
  refine lv_aload_n hx hb dX11_reaches_0 rfl (lv_at hl 0 rfl) ?_
  refine lv_iload_n hx hb dX11_reaches_1 rfl (lv_at hl 1 rfl) ?_
  refine lv_iload_n hx hb dX11_reaches_2 rfl (lv_at hl 2 rfl) ?_
  obtain ⟨q1, hq1, hf⟩ := bi_s hf
  refine bk_TV (wf := cw) (q0 := 0) (ci := 10) (rest := []) [.int x1, .int x2] C hex hP hD hS hl.1 (c_X11_needFarms_0 hXo hst hq1) (cwA_V 2 hts wa_1098 wa_1095 wa_1096 wa_1097 wa_2 rfl rfl nd_X11_needFarms ⟨Nat.le_of_ble_eq_true rfl, Nat.le_of_ble_eq_true rfl⟩) rfl rfl rfl rfl (Nat.le_of_ble_eq_true rfl) dX11_reaches_3 ⟨Nat.le_of_ble_eq_true rfl, Nat.le_of_ble_eq_true rfl⟩ ⟨Nat.le_of_ble_eq_true rfl, Nat.le_of_ble_eq_true rfl⟩ (fun h0 => by have hf := (if_neg h0).symm.trans hf; cases hf; exact ⟨rfl, rfl⟩) (fun h0 H locs hP hD hS => ?_)
  have hf := (if_pos h0).symm.trans hf
  refine lv_aload_n hx hb dX11_reaches_6 rfl (lv_at hl 0 rfl) ?_
  refine bk_get (wf := cw) (q0 := 0) (ci := 10) (k := 10) (v := .ref (g.2.2 55)) C hP wl_X11 rfl rfl (by decide) wa_42 rfl rfl dX11_reaches_7 ?_
  refine lv_aload_n hx hb dX11_reaches_10 rfl (lv_at hl 0 rfl) ?_
  refine bk_get (wf := cw) (q0 := 0) (ci := 10) (k := 4) (v := .ref (g.2.2 21)) C hP wl_X11 rfl rfl (by decide) wa_27 rfl rfl dX11_reaches_11 ?_
  refine bk_get (wf := cw) (q0 := 21) (ci := 1) (k := 0) (v := .ref (g.2.2 22)) C hP wl_X1 rfl rfl (by decide) wa_221 rfl rfl dX11_reaches_14 ?_
  refine lv_iconst (v := (1 : Int32)) hx hb dX11_reaches_17 (by decide) ?_
  refine lv_iload_n hx hb dX11_reaches_18 rfl (lv_at hl 1 rfl) ?_
  refine lv_ishl hx hb dX11_reaches_19 ?_
  obtain ⟨q2, hq2, hf⟩ := bi_s hf
  refine bk_VV (wf := cw) (q0 := 55) (ci := 2) (rest := []) [.ref (g.2.2 22), .int ((1 : Int32) <<< (x1 &&& 31))] C hP hD hS hl.1 (c_X2_startAnew_55_22 hXo hq2) (cwA_V 2 hts wa_1102 wa_1099 wa_1100 wa_1101 wa_41 rfl rfl nd_X2_startAnew ⟨Nat.le_of_ble_eq_true rfl, Nat.le_of_ble_eq_true rfl⟩) rfl rfl rfl rfl (Nat.le_of_ble_eq_true rfl) dX11_reaches_20 ⟨Nat.le_of_ble_eq_true rfl, Nat.le_of_ble_eq_true rfl⟩ (fun H locs hP hD hS => ?_)
  refine lv_aload_n hx hb dX11_reaches_23 rfl (lv_at hl 0 rfl) ?_
  refine bk_get (wf := cw) (q0 := 0) (ci := 10) (k := 10) (v := .ref (g.2.2 55)) C hP wl_X11 rfl rfl (by decide) wa_42 rfl rfl dX11_reaches_24 ?_
  refine lv_iload_n hx hb dX11_reaches_27 rfl (lv_at hl 2 rfl) ?_
  obtain ⟨q3, hq3, hf⟩ := bi_s hf
  refine bk_VI (wf := cw) (q0 := 55) (ci := 2) (rest := []) [.int x2] C hP hD hS hl.1 (c_X2_firstNod_55 hXo hq3) (cwA_V 1 hts wa_1050 wa_1047 wa_1048 wa_1049 wa_41 rfl rfl nd_X2_firstNod ⟨Nat.le_of_ble_eq_true rfl, Nat.le_of_ble_eq_true rfl⟩) rfl rfl rfl rfl (Nat.le_of_ble_eq_true rfl) dX11_reaches_28 ⟨Nat.le_of_ble_eq_true rfl, Nat.le_of_ble_eq_true rfl⟩ (fun H locs hP hD hS => ?_)
  exact bk_iretT C hP hD hS hf (Nat.le_of_ble_eq_true rfl) (Nat.le_of_ble_eq_true rfl) dX11_reaches_31
theorem c_X11_reaches_0 {N : Nat} {x1 : Int32} {x2 : Int32} {σ : Sg} {z : Zt} (hX : xOK g X) (hst : l.stackTraces = false) (hf : f_X11_reaches_0 N x1 x2 σ = some z) : MetTi l yX11_reaches (Cond.code yX11_reaches cX11_reaches 3 (some .int) :: wsA) rm_X11_reaches_0 2 12 cw g X [.ref (g.2.2 0), .int x1, .int x2] σ z :=
  MetTi_of hX (by decide) (Nat.le_of_ble_eq_true rfl) (fun p e s m args below meth c A C hex => b_X11_reaches_0 C hex hst hf)
-- X2_gather_55: gather(I)I
abbrev rm_X2_gather_55 : Room := { frames := 6, cells := 0, slots := 0, locals := 140 }
theorem nd_X2_gather : yX2_gather.cls ≠ "java/lang/invoke/MethodHandle" ∧ yX2_gather.cls ≠ "java/lang/invoke/VarHandle" ∧ (parseMethodDescriptor yX2_gather.desc).map (fun d => d.parameters.length) = some 1 := by decide +kernel
def s_X2_gather_55_h23 (N : Nat) (x1 : Int32) (x3 : Int32) (x2 : Int32) (x4 : Int32) (σ : Sg) : Option (Nat × Int32 × Int32 × Sg) :=
if x1 ≤ x4 then (some (1, x2, 0, σ))
else (if x2 = x3 then (some (1, x2, 0, σ))
else ((f_X7_whoWaits_56 N σ).bind fun q1 =>
if q1.1 = 0 then (some (1, x2, 0, (q1.2)))
else ((f_X2_go_55 N (q1.2)).bind fun q2 =>
bd (x2 ||| q2.1) fun v3 =>
bd (x4 + (1 : Int32)) fun v4 =>
some (0, v3, v4, (q2.2)))))
set_option maxHeartbeats 4000000 in
set_option maxRecDepth 100000 in
theorem e_X2_gather_55_h23 {N : Nat} {x1 : Int32} {x3 : Int32} {x2 : Int32} {x4 : Int32} {σ : Sg} {z : Nat × Int32 × Int32 × Sg} (C : Cx p s m args meth c cX2_gather 5 (some .int) RX2 g A X) (hf : s_X2_gather_55_h23 N x1 x3 x2 x4 σ = some z) (k0 : z.1 = 0 → Bk cw p l e rm_X2_gather_55 s m args below meth c 5 g A Q 0 0 23 [(0, .ref (g.2.2 55)), (1, .int x1), (2, .int z.2.1), (3, .int x3), (4, .int z.2.2.1)] [] z.2.2.2) (k : ¬ z.1 = 0 → Bk cw p l e rm_X2_gather_55 s m args below meth c 5 g A Q 0 0 57 [(2, .int z.2.1)] [] z.2.2.2) : Bk cw p l e rm_X2_gather_55 s m args below meth c 5 g A Q 0 0 23 [(0, .ref (g.2.2 55)), (1, .int x1), (2, .int x2), (3, .int x3), (4, .int x4)] [] σ := by
  obtain ⟨hx, hb, hr, hml, hown, hts, hK, hlocks, hXX, hA, hXo⟩ := id C
  intro H locs ls hP hD hS hl
  unfold s_X2_gather_55_h23 at hf
  refine lv_iload hx hb dX2_gather_23 (lv_at hl 4 rfl) ?_
  refine lv_iload_n hx hb dX2_gather_25 rfl (lv_at hl 1 rfl) ?_
  refine lv_icmp_ge (tgt := 57) hx hb dX2_gather_26 (by decide) (fun t26 => ?_) (fun t26 => ?_)
  · have hf := (if_pos t26).symm.trans hf
    cases hf
    exact (k (show ¬ (1 : Nat) = 0 by decide)) H locs ls hP hD hS (lv_sub hl [2] rfl)
  · have hf := (if_neg t26).symm.trans hf
    refine lv_iload_n hx hb dX2_gather_29 rfl (lv_at hl 2 rfl) ?_
    refine lv_iload_n hx hb dX2_gather_30 rfl (lv_at hl 3 rfl) ?_
    refine lv_icmp_eq (tgt := 57) hx hb dX2_gather_31 (by decide) (fun t31 => ?_) (fun t31 => ?_)
    · have hf := (if_pos t31).symm.trans hf
      cases hf
      exact (k (show ¬ (1 : Nat) = 0 by decide)) H locs ls hP hD hS (lv_sub hl [2] rfl)
    · have hf := (if_neg t31).symm.trans hf
      refine lv_aload_n hx hb dX2_gather_34 rfl (lv_at hl 0 rfl) ?_
      refine bk_get (wf := cw) (q0 := 55) (ci := 2) (k := 0) (v := .ref (g.2.2 56)) C hP wl_X2 rfl rfl (by decide) wa_144 rfl rfl dX2_gather_35 ?_
      obtain ⟨q1, hq1, hf⟩ := bi_s hf
      refine bk_VI (wf := cw) (q0 := 56) (ci := 7) (rest := []) [] C hP hD hS hl.1 (c_X7_whoWaits_56 hXo hq1) (cwA_V 0 hts wa_662 wa_1134 wa_660 wa_661 wa_93 rfl rfl nd_X7_whoWaits ⟨Nat.le_of_ble_eq_true rfl, Nat.le_of_ble_eq_true rfl⟩) rfl rfl rfl rfl (Nat.le_of_ble_eq_true rfl) dX2_gather_38 ⟨Nat.le_of_ble_eq_true rfl, Nat.le_of_ble_eq_true rfl⟩ (fun H locs hP hD hS => ?_)
      refine lv_if_eq (tgt := 57) hx hb dX2_gather_41 (by decide) (fun t41 => ?_) (fun t41 => ?_)
      · have hf := (if_pos t41).symm.trans hf
        cases hf
        exact (k (show ¬ (1 : Nat) = 0 by decide)) H locs ls hP hD hS (lv_sub hl [2] rfl)
      · have hf := (if_neg t41).symm.trans hf
        refine lv_iload_n hx hb dX2_gather_44 rfl (lv_at hl 2 rfl) ?_
        refine lv_aload_n hx hb dX2_gather_45 rfl (lv_at hl 0 rfl) ?_
        obtain ⟨q2, hq2, hf⟩ := bi_s hf
        refine bk_VI (wf := cw) (q0 := 55) (ci := 2) (rest := [.int x2]) [] C hP hD hS hl.1 (c_X2_go_55 hXo hq2) (cwA_V 0 hts wa_833 wa_1051 wa_831 wa_832 wa_41 rfl rfl nd_X2_go ⟨Nat.le_of_ble_eq_true rfl, Nat.le_of_ble_eq_true rfl⟩) rfl rfl rfl rfl (Nat.le_of_ble_eq_true rfl) dX2_gather_46 ⟨Nat.le_of_ble_eq_true rfl, Nat.le_of_ble_eq_true rfl⟩ (fun H locs hP hD hS => ?_)
        refine lv_ior hx hb dX2_gather_49 ?_
        obtain ⟨v3, ev3, hf⟩ := bd_s hf
        rw [← ev3]
        refine lv_istore_n (lv' := [(2, .int v3), (0, .ref (g.2.2 55)), (1, .int x1), (3, .int x3), (4, .int x4)]) hx hb dX2_gather_50 rfl hl (by decide) rfl (fun ls hl => ?_)
        obtain ⟨v4, ev4, hf⟩ := bd_s hf
        refine lv_iinc (v := v4) (lv' := [(4, .int v4), (2, .int v3), (0, .ref (g.2.2 55)), (1, .int x1), (3, .int x3)]) hx hb dX2_gather_51 hl (k := 4) rfl (by rw [ev4]; rfl) (by decide) rfl (fun ls hl => ?_)
        refine lv_goto (tgt := 23) hx hb dX2_gather_54 (by decide) ?_
        cases hf
        exact k0 rfl H locs ls hP hD hS (lv_sub hl [2, 3, 1, 4, 0] rfl)
theorem lp_X2_gather_55_h23 {N : Nat} {n : Nat} {x1 : Int32} {x3 : Int32} {x2 : Int32} {x4 : Int32} {σ : Sg} {z : Nat × Int32 × Int32 × Sg} (C : Cx p s m args meth c cX2_gather 5 (some .int) RX2 g A X) (hz : it (fun q => s_X2_gather_55_h23 N x1 x3 q.1 q.2.1 q.2.2) n (x2, x4, σ) = some z) (k : Bk cw p l e rm_X2_gather_55 s m args below meth c 5 g A Q 0 0 57 [(2, .int z.2.1)] [] z.2.2.2) : Bk cw p l e rm_X2_gather_55 s m args below meth c 5 g A Q 0 0 23 [(0, .ref (g.2.2 55)), (1, .int x1), (2, .int x2), (3, .int x3), (4, .int x4)] [] σ :=
  it_W (S := Int32 × Int32 × Sg) (fun q => Bk cw p l e rm_X2_gather_55 s m args below meth c 5 g A Q 0 0 23 [(0, .ref (g.2.2 55)), (1, .int x1), (2, .int q.1), (3, .int x3), (4, .int q.2.1)] [] q.2.2) (fun z => Bk cw p l e rm_X2_gather_55 s m args below meth c 5 g A Q 0 0 57 [(2, .int z.2.1)] [] z.2.2.2) (fun q z hq k0 k => e_X2_gather_55_h23 C hq k0 k) n (x2, x4, σ) z hz k
def f_X2_gather_55 (N : Nat) (x1 : Int32) (σ : Sg) : Option (Int32 × Sg) :=
(f_X9_all_12 N σ).bind fun q5 =>
bd (q5.1 &&& (((q5.2) 56 1) ^^^ (-1 : Int32))) fun v6 =>
(it (fun q => s_X2_gather_55_h23 N x1 v6 q.1 q.2.1 q.2.2) N ((0 : Int32), (0 : Int32), (q5.2))).bind fun z7 =>
some ((z7.2.1), (z7.2.2.2))
set_option maxHeartbeats 4000000 in
set_option maxRecDepth 100000 in
theorem b_X2_gather_55 {N : Nat} {x1 : Int32} {σ : Sg} {z : Int32 × Sg} (C : Cx p s m args meth c cX2_gather 5 (some .int) RX2 g A X) (hf : f_X2_gather_55 N x1 σ = some z) : Bk cw p l e rm_X2_gather_55 s m args below meth c 5 g A (MQ below (qI cw g A z.1 z.2) args s 0 0 A) 0 0 0 [(0, .ref (g.2.2 55)), (1, .int x1)] [] σ := by
  obtain ⟨hx, hb, hr, hml, hown, hts, hK, hlocks, hXX, hA, hXo⟩ := id C
  intro H locs ls hP hD hS hl
  unfold f_X2_gather_55 at hf
  refine lv_iconst (v := (0 : Int32)) hx hb dX2_gather_0 (by decide) ?_
  refine lv_istore_n (lv' := [(2, .int (0 : Int32)), (0, .ref (g.2.2 55)), (1, .int x1)]) hx hb dX2_gather_1 rfl hl (by decide) rfl (fun ls hl => ?_)
  refine lv_aload_n hx hb dX2_gather_2 rfl (lv_at hl 1 rfl) ?_
  refine bk_get (wf := cw) (q0 := 55) (ci := 2) (k := 3) (v := .ref (g.2.2 12)) C hP wl_X2 rfl rfl (by decide) wa_148 rfl rfl dX2_gather_3 ?_
  obtain ⟨q5, hq5, hf⟩ := bi_s hf
  refine bk_VI (wf := cw) (q0 := 12) (ci := 8) (rest := []) [] C hP hD hS hl.1 (c_X9_all_12 hXo hq5) (cwA_V 0 hts wa_695 wa_1133 wa_693 wa_694 wa_22 rfl rfl nd_X9_all ⟨Nat.le_of_ble_eq_true rfl, Nat.le_of_ble_eq_true rfl⟩) rfl rfl rfl rfl (Nat.le_of_ble_eq_true rfl) dX2_gather_6 ⟨Nat.le_of_ble_eq_true rfl, Nat.le_of_ble_eq_true rfl⟩ (fun H locs hP hD hS => ?_)
  refine lv_aload_n hx hb dX2_gather_9 rfl (lv_at hl 1 rfl) ?_
  refine bk_get (wf := cw) (q0 := 55) (ci := 2) (k := 0) (v := .ref (g.2.2 56)) C hP wl_X2 rfl rfl (by decide) wa_144 rfl rfl dX2_gather_10 ?_
  refine bk_get (wf := cw) (q0 := 56) (ci := 7) (k := 1) (v := .int ((q5.2) 56 1)) C hP wl_X7 rfl rfl (by decide) wa_856 rfl rfl dX2_gather_13 ?_
  refine lv_iconst (v := (-1 : Int32)) hx hb dX2_gather_16 (by decide) ?_
  refine lv_ixor hx hb dX2_gather_17 ?_
  refine lv_iand hx hb dX2_gather_18 ?_
  obtain ⟨v6, ev6, hf⟩ := bd_s hf
  rw [← ev6]
  refine lv_istore_n (lv' := [(3, .int v6), (2, .int (0 : Int32)), (0, .ref (g.2.2 55)), (1, .int x1)]) hx hb dX2_gather_19 rfl hl (by decide) rfl (fun ls hl => ?_)
  refine lv_iconst (v := (0 : Int32)) hx hb dX2_gather_20 (by decide) ?_
  refine lv_istore (lv' := [(4, .int (0 : Int32)), (3, .int v6), (2, .int (0 : Int32)), (0, .ref (g.2.2 55)), (1, .int x1)]) hx hb dX2_gather_21 hl (by decide) rfl (fun ls hl => ?_)
  obtain ⟨z7, hz7, hf⟩ := bi_s hf
  refine lp_X2_gather_55_h23 C hz7 ?_ H locs ls hP hD hS (lv_sub hl [3, 4, 2, 1, 0] rfl)
  intro H locs ls hP hD hS hl
  refine lv_iload_n hx hb dX2_gather_57 rfl (lv_at hl 0 rfl) ?_
  cases hf
  exact bk_iret C hP hD hS rfl dX2_gather_58
theorem c_X2_gather_55 {N : Nat} {x1 : Int32} {σ : Sg} {z : Int32 × Sg} (hX : xOK g X) (hf : f_X2_gather_55 N x1 σ = some z) : MetI l yX2_gather (Cond.code yX2_gather cX2_gather 5 (some .int) :: wsA) rm_X2_gather_55 cw g X [.ref (g.2.2 55), .int x1] σ z.1 z.2 :=
  MetI_of hX (by decide) (Nat.le_of_ble_eq_true rfl) (fun p e s m args below meth c A C => b_X2_gather_55 C hf)
-- X11_reachedBy_0: reachedBy(II)I
abbrev rm_X11_reachedBy_0 : Room := { frames := 7, cells := 0, slots := 0, locals := 167 }
theorem nd_X11_reachedBy : yX11_reachedBy.cls ≠ "java/lang/invoke/MethodHandle" ∧ yX11_reachedBy.cls ≠ "java/lang/invoke/VarHandle" ∧ (parseMethodDescriptor yX11_reachedBy.desc).map (fun d => d.parameters.length) = some 2 := by decide +kernel
def f_X11_reachedBy_0 (N : Nat) (x1 : Int32) (x2 : Int32) (σ : Sg) : Option (Int32 × Sg) :=
(f_X2_startAnew_55_22 N x1 σ).bind fun q1 =>
(f_X2_gather_55 N x2 q1).bind fun q2 =>
some (q2.1, (q2.2))
set_option maxHeartbeats 4000000 in
set_option maxRecDepth 100000 in
theorem b_X11_reachedBy_0 {N : Nat} {x1 : Int32} {x2 : Int32} {σ : Sg} {z : Int32 × Sg} (C : Cx p s m args meth c cX11_reachedBy 3 (some .int) RX11 g A X) (hf : f_X11_reachedBy_0 N x1 x2 σ = some z) : Bk cw p l e rm_X11_reachedBy_0 s m args below meth c 3 g A (MQ below (qI cw g A z.1 z.2) args s 0 0 A) 0 0 0 [(0, .ref (g.2.2 0)), (1, .int x1), (2, .int x2)] [] σ := by
  obtain ⟨hx, hb, hr, hml, hown, hts, hK, hlocks, hXX, hA, hXo⟩ := id C
  intro H locs ls hP hD hS hl
  unfold f_X11_reachedBy_0 at hf
  refine lv_aload_n hx hb dX11_reachedBy_0 rfl (lv_at hl 0 rfl) ?_
  refine bk_get (wf := cw) (q0 := 0) (ci := 10) (k := 10) (v := .ref (g.2.2 55)) C hP wl_X11 rfl rfl (by decide) wa_42 rfl rfl dX11_reachedBy_1 ?_
  refine lv_aload_n hx hb dX11_reachedBy_4 rfl (lv_at hl 0 rfl) ?_
  refine bk_get (wf := cw) (q0 := 0) (ci := 10) (k := 4) (v := .ref (g.2.2 21)) C hP wl_X11 rfl rfl (by decide) wa_27 rfl rfl dX11_reachedBy_5 ?_
  refine bk_get (wf := cw) (q0 := 21) (ci := 1) (k := 0) (v := .ref (g.2.2 22)) C hP wl_X1 rfl rfl (by decide) wa_221 rfl rfl dX11_reachedBy_8 ?_
  refine lv_iload_n hx hb dX11_reachedBy_11 rfl (lv_at hl 1 rfl) ?_
  obtain ⟨q1, hq1, hf⟩ := bi_s hf
  refine bk_VV (wf := cw) (q0 := 55) (ci := 2) (rest := []) [.ref (g.2.2 22), .int x1] C hP hD hS hl.1 (c_X2_startAnew_55_22 hXo hq1) (cwA_V 2 hts wa_1102 wa_1099 wa_1100 wa_1101 wa_41 rfl rfl nd_X2_startAnew ⟨Nat.le_of_ble_eq_true rfl, Nat.le_of_ble_eq_true rfl⟩) rfl rfl rfl rfl (Nat.le_of_ble_eq_true rfl) dX11_reachedBy_12 ⟨Nat.le_of_ble_eq_true rfl, Nat.le_of_ble_eq_true rfl⟩ (fun H locs hP hD hS => ?_)
  refine lv_aload_n hx hb dX11_reachedBy_15 rfl (lv_at hl 0 rfl) ?_
  refine bk_get (wf := cw) (q0 := 0) (ci := 10) (k := 10) (v := .ref (g.2.2 55)) C hP wl_X11 rfl rfl (by decide) wa_42 rfl rfl dX11_reachedBy_16 ?_
  refine lv_iload_n hx hb dX11_reachedBy_19 rfl (lv_at hl 2 rfl) ?_
  obtain ⟨q2, hq2, hf⟩ := bi_s hf
  refine bk_VI (wf := cw) (q0 := 55) (ci := 2) (rest := []) [.int x2] C hP hD hS hl.1 (c_X2_gather_55 hXo hq2) (cwA_V 1 hts wa_1132 wa_1129 wa_1130 wa_1131 wa_41 rfl rfl nd_X2_gather ⟨Nat.le_of_ble_eq_true rfl, Nat.le_of_ble_eq_true rfl⟩) rfl rfl rfl rfl (Nat.le_of_ble_eq_true rfl) dX11_reachedBy_20 ⟨Nat.le_of_ble_eq_true rfl, Nat.le_of_ble_eq_true rfl⟩ (fun H locs hP hD hS => ?_)
  cases hf
  exact bk_iret C hP hD hS rfl dX11_reachedBy_23
theorem c_X11_reachedBy_0 {N : Nat} {x1 : Int32} {x2 : Int32} {σ : Sg} {z : Int32 × Sg} (hX : xOK g X) (hf : f_X11_reachedBy_0 N x1 x2 σ = some z) : MetI l yX11_reachedBy (Cond.code yX11_reachedBy cX11_reachedBy 3 (some .int) :: wsA) rm_X11_reachedBy_0 cw g X [.ref (g.2.2 0), .int x1, .int x2] σ z.1 z.2 :=
  MetI_of hX (by decide) (Nat.le_of_ble_eq_true rfl) (fun p e s m args below meth c A C => b_X11_reachedBy_0 C hf)
-- X11_reached_0: reached(II)I
abbrev rm_X11_reached_0 : Room := { frames := 8, cells := 2, slots := 12, locals := 189 }
theorem nd_X11_reached : yX11_reached.cls ≠ "java/lang/invoke/MethodHandle" ∧ yX11_reached.cls ≠ "java/lang/invoke/VarHandle" ∧ (parseMethodDescriptor yX11_reached.desc).map (fun d => d.parameters.length) = some 2 := by decide +kernel
def f_X11_reached_0 (N : Nat) (x1 : Int32) (x2 : Int32) (σ : Sg) : Option (Zt) :=
(f_X11_needFarm_0 N x1 σ).bind fun q1 =>
if q1.1 = 0 then ((f_X11_needWithin N x2 (0 : Int32) (60 : Int32) (q1.2.2)).bind fun q2 =>
if q2.1 = 0 then ((f_X11_reachedBy_0 N ((1 : Int32) <<< (x1 &&& 31)) x2 (q2.2.2)).bind fun q3 =>
some (0, q3.1, (q3.2)))
else some (q2.1, 0, q2.2.2))
else some (q1.1, 0, q1.2.2)
set_option maxHeartbeats 4000000 in
set_option maxRecDepth 100000 in
theorem b_X11_reached_0 {N : Nat} {x1 : Int32} {x2 : Int32} {σ : Sg} {z : Zt} (C : Cx p s m args meth c cX11_reached 3 (some .int) RX11 g A X) (hex : ∀ x ∈ c.exceptionTable.toList, False) (hst : l.stackTraces = false) (hf : f_X11_reached_0 N x1 x2 σ = some z) : Bk cw p l e rm_X11_reached_0 s m args below meth c 3 g A (vx_MQ below (qTi cw g A z) (xT cw g A z) args s 2 12 A) 0 0 0 [(0, .ref (g.2.2 0)), (1, .int x1), (2, .int x2)] [] σ := by
  obtain ⟨hx, hb, hr, hml, hown, hts, hK, hlocks, hXX, hA, hXo⟩ := id C
  intro H locs ls hP hD hS hl
  unfold f_X11_reached_0 at hf
  refine lv_aload_n hx hb dX11_reached_0 rfl (lv_at hl 0 rfl) ?_
  refine lv_iload_n hx hb dX11_reached_1 rfl (lv_at hl 1 rfl) ?_
  obtain ⟨q1, hq1, hf⟩ := bi_s hf
  refine bk_TV (wf := cw) (q0 := 0) (ci := 10) (rest := []) [.int x1] C hex hP hD hS hl.1 (c_X11_needFarm_0 hXo hst hq1) (cwA_V 1 hts wa_791 wa_788 wa_789 wa_790 wa_2 rfl rfl nd_X11_needFarm ⟨Nat.le_of_ble_eq_true rfl, Nat.le_of_ble_eq_true rfl⟩) rfl rfl rfl rfl (Nat.le_of_ble_eq_true rfl) dX11_reached_2 ⟨Nat.le_of_ble_eq_true rfl, Nat.le_of_ble_eq_true rfl⟩ ⟨Nat.le_of_ble_eq_true rfl, Nat.le_of_ble_eq_true rfl⟩ (fun h0 => by have hf := (if_neg h0).symm.trans hf; cases hf; exact ⟨rfl, rfl⟩) (fun h0 H locs hP hD hS => ?_)
  have hf := (if_pos h0).symm.trans hf
  refine lv_iload_n hx hb dX11_reached_5 rfl (lv_at hl 2 rfl) ?_
  refine lv_iconst (v := (0 : Int32)) hx hb dX11_reached_6 (by decide) ?_
  refine lv_bipush (v := (60 : Int32)) hx hb dX11_reached_7 (by decide) ?_
  obtain ⟨q2, hq2, hf⟩ := bi_s hf
  refine bk_TS (wf := cw) (rest := []) [.int x2, .int (0 : Int32), .int (60 : Int32)] C hex hP hD hS hl.1 (c_X11_needWithin hXo hst hq2) (cwA_S 3 hts wa_1020 wa_1018 wa_1019 wa_2 rfl rfl nd_X11_needWithin ⟨Nat.le_of_ble_eq_true rfl, Nat.le_of_ble_eq_true rfl⟩) rfl rfl (Nat.le_of_ble_eq_true rfl) dX11_reached_9 ⟨Nat.le_of_ble_eq_true rfl, Nat.le_of_ble_eq_true rfl⟩ ⟨Nat.le_of_ble_eq_true rfl, Nat.le_of_ble_eq_true rfl⟩ (fun h0 => by have hf := (if_neg h0).symm.trans hf; cases hf; exact ⟨rfl, rfl⟩) (fun h0 H locs hP hD hS => ?_)
  have hf := (if_pos h0).symm.trans hf
  refine lv_aload_n hx hb dX11_reached_12 rfl (lv_at hl 0 rfl) ?_
  refine lv_iconst (v := (1 : Int32)) hx hb dX11_reached_13 (by decide) ?_
  refine lv_iload_n hx hb dX11_reached_14 rfl (lv_at hl 1 rfl) ?_
  refine lv_ishl hx hb dX11_reached_15 ?_
  refine lv_iload_n hx hb dX11_reached_16 rfl (lv_at hl 2 rfl) ?_
  obtain ⟨q3, hq3, hf⟩ := bi_s hf
  refine bk_VI (wf := cw) (q0 := 0) (ci := 10) (rest := []) [.int ((1 : Int32) <<< (x1 &&& 31)), .int x2] C hP hD hS hl.1 (c_X11_reachedBy_0 hXo hq3) (cwA_V 2 hts wa_1128 wa_1125 wa_1126 wa_1127 wa_2 rfl rfl nd_X11_reachedBy ⟨Nat.le_of_ble_eq_true rfl, Nat.le_of_ble_eq_true rfl⟩) rfl rfl rfl rfl (Nat.le_of_ble_eq_true rfl) dX11_reached_17 ⟨Nat.le_of_ble_eq_true rfl, Nat.le_of_ble_eq_true rfl⟩ (fun H locs hP hD hS => ?_)
  exact bk_iretT C hP hD hS hf (Nat.le_of_ble_eq_true rfl) (Nat.le_of_ble_eq_true rfl) dX11_reached_20
theorem c_X11_reached_0 {N : Nat} {x1 : Int32} {x2 : Int32} {σ : Sg} {z : Zt} (hX : xOK g X) (hst : l.stackTraces = false) (hf : f_X11_reached_0 N x1 x2 σ = some z) : MetTi l yX11_reached (Cond.code yX11_reached cX11_reached 3 (some .int) :: wsA) rm_X11_reached_0 2 12 cw g X [.ref (g.2.2 0), .int x1, .int x2] σ z :=
  MetTi_of hX (by decide) (Nat.le_of_ble_eq_true rfl) (fun p e s m args below meth c A C hex => b_X11_reached_0 C hex hst hf)
-- X11_reachesWithout_0: reachesWithout(III)Z
abbrev rm_X11_reachesWithout_0 : Room := { frames := 7, cells := 0, slots := 0, locals := 167 }
theorem nd_X11_reachesWithout : yX11_reachesWithout.cls ≠ "java/lang/invoke/MethodHandle" ∧ yX11_reachesWithout.cls ≠ "java/lang/invoke/VarHandle" ∧ (parseMethodDescriptor yX11_reachesWithout.desc).map (fun d => d.parameters.length) = some 3 := by decide +kernel
def f_X11_reachesWithout_0 (N : Nat) (x1 : Int32) (x2 : Int32) (x3 : Int32) (σ : Sg) : Option (Int32 × Sg) :=
(f_X2_startAnew_55_22 N ((1 : Int32) <<< (x1 &&& 31)) σ).bind fun q1 =>
bd (wr q1 56 1 ((q1 56 1) ||| ((1 : Int32) <<< (x3 &&& 31)))) fun σ2 =>
(f_X2_firstNod_55 N x2 σ2).bind fun q3 =>
if q3.1 = (-1 : Int32) then (some ((0 : Int32), (q3.2)))
else (some ((1 : Int32), (q3.2)))
set_option maxHeartbeats 4000000 in
set_option maxRecDepth 100000 in
theorem b_X11_reachesWithout_0 {N : Nat} {x1 : Int32} {x2 : Int32} {x3 : Int32} {σ : Sg} {z : Int32 × Sg} (C : Cx p s m args meth c cX11_reachesWithout 4 (some .boolean) RX11 g A X) (hf : f_X11_reachesWithout_0 N x1 x2 x3 σ = some z) : Bk cw p l e rm_X11_reachesWithout_0 s m args below meth c 4 g A (MQ below (qI cw g A z.1 z.2) args s 0 0 A) 0 0 0 [(0, .ref (g.2.2 0)), (1, .int x1), (2, .int x2), (3, .int x3)] [] σ := by
  obtain ⟨hx, hb, hr, hml, hown, hts, hK, hlocks, hXX, hA, hXo⟩ := id C
  intro H locs ls hP hD hS hl
  unfold f_X11_reachesWithout_0 at hf
  refine lv_aload_n hx hb dX11_reachesWithout_0 rfl (lv_at hl 0 rfl) ?_
  refine bk_get (wf := cw) (q0 := 0) (ci := 10) (k := 10) (v := .ref (g.2.2 55)) C hP wl_X11 rfl rfl (by decide) wa_42 rfl rfl dX11_reachesWithout_1 ?_
  refine lv_aload_n hx hb dX11_reachesWithout_4 rfl (lv_at hl 0 rfl) ?_
  refine bk_get (wf := cw) (q0 := 0) (ci := 10) (k := 4) (v := .ref (g.2.2 21)) C hP wl_X11 rfl rfl (by decide) wa_27 rfl rfl dX11_reachesWithout_5 ?_
  refine bk_get (wf := cw) (q0 := 21) (ci := 1) (k := 0) (v := .ref (g.2.2 22)) C hP wl_X1 rfl rfl (by decide) wa_221 rfl rfl dX11_reachesWithout_8 ?_
  refine lv_iconst (v := (1 : Int32)) hx hb dX11_reachesWithout_11 (by decide) ?_
  refine lv_iload_n hx hb dX11_reachesWithout_12 rfl (lv_at hl 1 rfl) ?_
  refine lv_ishl hx hb dX11_reachesWithout_13 ?_
  obtain ⟨q1, hq1, hf⟩ := bi_s hf
  refine bk_VV (wf := cw) (q0 := 55) (ci := 2) (rest := []) [.ref (g.2.2 22), .int ((1 : Int32) <<< (x1 &&& 31))] C hP hD hS hl.1 (c_X2_startAnew_55_22 hXo hq1) (cwA_V 2 hts wa_1102 wa_1099 wa_1100 wa_1101 wa_41 rfl rfl nd_X2_startAnew ⟨Nat.le_of_ble_eq_true rfl, Nat.le_of_ble_eq_true rfl⟩) rfl rfl rfl rfl (Nat.le_of_ble_eq_true rfl) dX11_reachesWithout_14 ⟨Nat.le_of_ble_eq_true rfl, Nat.le_of_ble_eq_true rfl⟩ (fun H locs hP hD hS => ?_)
  refine lv_aload_n hx hb dX11_reachesWithout_17 rfl (lv_at hl 0 rfl) ?_
  refine bk_get (wf := cw) (q0 := 0) (ci := 10) (k := 10) (v := .ref (g.2.2 55)) C hP wl_X11 rfl rfl (by decide) wa_42 rfl rfl dX11_reachesWithout_18 ?_
  refine bk_get (wf := cw) (q0 := 55) (ci := 2) (k := 0) (v := .ref (g.2.2 56)) C hP wl_X2 rfl rfl (by decide) wa_808 rfl rfl dX11_reachesWithout_21 ?_
  refine lv_dup hx hb dX11_reachesWithout_24 rfl ?_
  refine bk_get (wf := cw) (q0 := 56) (ci := 7) (k := 1) (v := .int (q1 56 1)) C hP wl_X7 rfl rfl (by decide) wa_648 rfl rfl dX11_reachesWithout_25 ?_
  refine lv_iconst (v := (1 : Int32)) hx hb dX11_reachesWithout_28 (by decide) ?_
  refine lv_iload_n hx hb dX11_reachesWithout_29 rfl (lv_at hl 3 rfl) ?_
  refine lv_ishl hx hb dX11_reachesWithout_30 ?_
  refine lv_ior hx hb dX11_reachesWithout_31 ?_
  obtain ⟨σ2, eσ2, hf⟩ := bd_s hf
  refine bk_put (wf := cw) (σ1 := σ2) (q0 := 56) (ci := 7) (k := 1) (v := .int ((q1 56 1) ||| ((1 : Int32) <<< (x3 &&& 31)))) C hP hD hS wl_X7 tyX7_ok nmX7 rfl rfl (by decide) wa_648 rfl rfl rfl rfl rfl (Nat.le_of_ble_eq_true rfl) (by rw [eσ2]; exact cw_p56_1 g _ _) dX11_reachesWithout_32 (fun H locs hP hD hS => ?_)
  refine lv_aload_n hx hb dX11_reachesWithout_35 rfl (lv_at hl 0 rfl) ?_
  refine bk_get (wf := cw) (q0 := 0) (ci := 10) (k := 10) (v := .ref (g.2.2 55)) C hP wl_X11 rfl rfl (by decide) wa_42 rfl rfl dX11_reachesWithout_36 ?_
  refine lv_iload_n hx hb dX11_reachesWithout_39 rfl (lv_at hl 2 rfl) ?_
  obtain ⟨q3, hq3, hf⟩ := bi_s hf
  refine bk_VI (wf := cw) (q0 := 55) (ci := 2) (rest := []) [.int x2] C hP hD hS hl.1 (c_X2_firstNod_55 hXo hq3) (cwA_V 1 hts wa_1050 wa_1047 wa_1048 wa_1049 wa_41 rfl rfl nd_X2_firstNod ⟨Nat.le_of_ble_eq_true rfl, Nat.le_of_ble_eq_true rfl⟩) rfl rfl rfl rfl (Nat.le_of_ble_eq_true rfl) dX11_reachesWithout_40 ⟨Nat.le_of_ble_eq_true rfl, Nat.le_of_ble_eq_true rfl⟩ (fun H locs hP hD hS => ?_)
  refine lv_iconst (v := (-1 : Int32)) hx hb dX11_reachesWithout_43 (by decide) ?_
  refine lv_icmp_eq (tgt := 51) hx hb dX11_reachesWithout_44 (by decide) (fun t44 => ?_) (fun t44 => ?_)
  · have hf := (if_pos t44).symm.trans hf
    refine lv_iconst (v := (0 : Int32)) hx hb dX11_reachesWithout_51 (by decide) ?_
    cases hf
    exact bk_zret C hP hD hS (by decide) rfl dX11_reachesWithout_52
  · have hf := (if_neg t44).symm.trans hf
    refine lv_iconst (v := (1 : Int32)) hx hb dX11_reachesWithout_47 (by decide) ?_
    refine lv_goto (tgt := 52) hx hb dX11_reachesWithout_48 (by decide) ?_
    cases hf
    exact bk_zret C hP hD hS (by decide) rfl dX11_reachesWithout_52
theorem c_X11_reachesWithout_0 {N : Nat} {x1 : Int32} {x2 : Int32} {x3 : Int32} {σ : Sg} {z : Int32 × Sg} (hX : xOK g X) (hf : f_X11_reachesWithout_0 N x1 x2 x3 σ = some z) : MetI l yX11_reachesWithout (Cond.code yX11_reachesWithout cX11_reachesWithout 4 (some .boolean) :: wsA) rm_X11_reachesWithout_0 cw g X [.ref (g.2.2 0), .int x1, .int x2, .int x3] σ z.1 z.2 :=
  MetI_of hX (by decide) (Nat.le_of_ble_eq_true rfl) (fun p e s m args below meth c A C => b_X11_reachesWithout_0 C hf)
-- X11_through_0: through(II)I
abbrev rm_X11_through_0 : Room := { frames := 8, cells := 2, slots := 12, locals := 190 }
theorem nd_X11_through : yX11_through.cls ≠ "java/lang/invoke/MethodHandle" ∧ yX11_through.cls ≠ "java/lang/invoke/VarHandle" ∧ (parseMethodDescriptor yX11_through.desc).map (fun d => d.parameters.length) = some 2 := by decide +kernel
def f_X11_through_0_b84 (N : Nat) (x1 : Int32) (x2 : Int32) (x3 : Int32) (x4 : Int32) (σ : Sg) : Option (Nat × Int32 × Int32 × Sg) :=
bd (x4 + (1 : Int32)) fun v1 =>
some (0, x3, v1, σ)
set_option maxHeartbeats 4000000 in
set_option maxRecDepth 100000 in
theorem b_X11_through_0_b84 {N : Nat} {x1 : Int32} {x2 : Int32} {x3 : Int32} {x4 : Int32} {σ : Sg} {z : Nat × Int32 × Int32 × Sg} (C : Cx p s m args meth c cX11_through 5 (some .int) RX11 g A X) (hex : ∀ x ∈ c.exceptionTable.toList, False) (hst : l.stackTraces = false) (hf : f_X11_through_0_b84 N x1 x2 x3 x4 σ = some z) (k0 : z.1 = 0 → Bk cw p l e rm_X11_through_0 s m args below meth c 5 g A Q 2 12 42 [(0, .ref (g.2.2 0)), (1, .int x1), (2, .int x2), (3, .int z.2.1), (4, .int z.2.2.1)] [] z.2.2.2) (k : ¬ z.1 = 0 → Bk cw p l e rm_X11_through_0 s m args below meth c 5 g A Q 2 12 90 [(3, .int z.2.1)] [] z.2.2.2) : Bk cw p l e rm_X11_through_0 s m args below meth c 5 g A Q 2 12 84 [(0, .ref (g.2.2 0)), (1, .int x1), (2, .int x2), (3, .int x3), (4, .int x4)] [] σ := by
  obtain ⟨hx, hb, hr, hml, hown, hts, hK, hlocks, hXX, hA, hXo⟩ := id C
  intro H locs ls hP hD hS hl
  unfold f_X11_through_0_b84 at hf
  obtain ⟨v1, ev1, hf⟩ := bd_s hf
  refine lv_iinc (v := v1) (lv' := [(4, .int v1), (0, .ref (g.2.2 0)), (1, .int x1), (2, .int x2), (3, .int x3)]) hx hb dX11_through_84 hl (k := 4) rfl (by rw [ev1]; rfl) (by decide) rfl (fun ls hl => ?_)
  refine lv_goto (tgt := 42) hx hb dX11_through_87 (by decide) ?_
  cases hf
  exact k0 rfl H locs ls hP hD hS (lv_sub hl [1, 2, 3, 4, 0] rfl)
def s_X11_through_0_h42 (N : Nat) (x1 : Int32) (x2 : Int32) (x3 : Int32) (x4 : Int32) (σ : Sg) : Option (Nat × Int32 × Int32 × Sg) :=
if (σ 12 0) ≤ x4 then (some (1, x3, 0, σ))
else (if x4 = x1 then (f_X11_through_0_b84 N x1 x2 x3 x4 σ)
else (if x4 = x2 then (f_X11_through_0_b84 N x1 x2 x3 x4 σ)
else ((f_X11_reachesWithout_0 N x1 x2 x4 σ).bind fun q2 =>
if q2.1 = 0 then (bd (x3 ||| ((1 : Int32) <<< (x4 &&& 31))) fun v3 =>
f_X11_through_0_b84 N x1 x2 v3 x4 (q2.2))
else (f_X11_through_0_b84 N x1 x2 x3 x4 (q2.2)))))
set_option maxHeartbeats 4000000 in
set_option maxRecDepth 100000 in
theorem e_X11_through_0_h42 {N : Nat} {x1 : Int32} {x2 : Int32} {x3 : Int32} {x4 : Int32} {σ : Sg} {z : Nat × Int32 × Int32 × Sg} (C : Cx p s m args meth c cX11_through 5 (some .int) RX11 g A X) (hex : ∀ x ∈ c.exceptionTable.toList, False) (hst : l.stackTraces = false) (hf : s_X11_through_0_h42 N x1 x2 x3 x4 σ = some z) (k0 : z.1 = 0 → Bk cw p l e rm_X11_through_0 s m args below meth c 5 g A Q 2 12 42 [(0, .ref (g.2.2 0)), (1, .int x1), (2, .int x2), (3, .int z.2.1), (4, .int z.2.2.1)] [] z.2.2.2) (k : ¬ z.1 = 0 → Bk cw p l e rm_X11_through_0 s m args below meth c 5 g A Q 2 12 90 [(3, .int z.2.1)] [] z.2.2.2) : Bk cw p l e rm_X11_through_0 s m args below meth c 5 g A Q 2 12 42 [(0, .ref (g.2.2 0)), (1, .int x1), (2, .int x2), (3, .int x3), (4, .int x4)] [] σ := by
  obtain ⟨hx, hb, hr, hml, hown, hts, hK, hlocks, hXX, hA, hXo⟩ := id C
  intro H locs ls hP hD hS hl
  unfold s_X11_through_0_h42 at hf
  refine lv_iload hx hb dX11_through_42 (lv_at hl 4 rfl) ?_
  refine lv_aload_n hx hb dX11_through_44 rfl (lv_at hl 0 rfl) ?_
  refine bk_get (wf := cw) (q0 := 0) (ci := 10) (k := 3) (v := .ref (g.2.2 12)) C hP wl_X11 rfl rfl (by decide) wa_23 rfl rfl dX11_through_45 ?_
  refine bk_get (wf := cw) (q0 := 12) (ci := 8) (k := 0) (v := .int (σ 12 0)) C hP wl_X9 rfl rfl (by decide) wa_644 rfl rfl dX11_through_48 ?_
  refine lv_icmp_ge (tgt := 90) hx hb dX11_through_51 (by decide) (fun t51 => ?_) (fun t51 => ?_)
  · have hf := (if_pos t51).symm.trans hf
    cases hf
    exact (k (show ¬ (1 : Nat) = 0 by decide)) H locs ls hP hD hS (lv_sub hl [3] rfl)
  · have hf := (if_neg t51).symm.trans hf
    refine lv_iload hx hb dX11_through_54 (lv_at hl 4 rfl) ?_
    refine lv_iload_n hx hb dX11_through_56 rfl (lv_at hl 1 rfl) ?_
    refine lv_icmp_eq (tgt := 84) hx hb dX11_through_57 (by decide) (fun t57 => ?_) (fun t57 => ?_)
    · have hf := (if_pos t57).symm.trans hf
      exact b_X11_through_0_b84 C hex hst hf k0 k H locs ls hP hD hS (lv_sub hl [0, 1, 2, 3, 4] rfl)
    · have hf := (if_neg t57).symm.trans hf
      refine lv_iload hx hb dX11_through_60 (lv_at hl 4 rfl) ?_
      refine lv_iload_n hx hb dX11_through_62 rfl (lv_at hl 2 rfl) ?_
      refine lv_icmp_eq (tgt := 84) hx hb dX11_through_63 (by decide) (fun t63 => ?_) (fun t63 => ?_)
      · have hf := (if_pos t63).symm.trans hf
        exact b_X11_through_0_b84 C hex hst hf k0 k H locs ls hP hD hS (lv_sub hl [0, 1, 2, 3, 4] rfl)
      · have hf := (if_neg t63).symm.trans hf
        refine lv_aload_n hx hb dX11_through_66 rfl (lv_at hl 0 rfl) ?_
        refine lv_iload_n hx hb dX11_through_67 rfl (lv_at hl 1 rfl) ?_
        refine lv_iload_n hx hb dX11_through_68 rfl (lv_at hl 2 rfl) ?_
        refine lv_iload hx hb dX11_through_69 (lv_at hl 4 rfl) ?_
        obtain ⟨q2, hq2, hf⟩ := bi_s hf
        refine bk_VI (wf := cw) (q0 := 0) (ci := 10) (rest := []) [.int x1, .int x2, .int x4] C hP hD hS hl.1 (c_X11_reachesWithout_0 hXo hq2) (cwA_V 3 hts wa_1149 wa_1146 wa_1147 wa_1148 wa_2 rfl rfl nd_X11_reachesWithout ⟨Nat.le_of_ble_eq_true rfl, Nat.le_of_ble_eq_true rfl⟩) rfl rfl rfl rfl (Nat.le_of_ble_eq_true rfl) dX11_through_71 ⟨Nat.le_of_ble_eq_true rfl, Nat.le_of_ble_eq_true rfl⟩ (fun H locs hP hD hS => ?_)
        refine lv_if_ne (tgt := 84) hx hb dX11_through_74 (by decide) (fun t74 => ?_) (fun t74 => ?_)
        · have hf := (if_neg t74).symm.trans hf
          exact b_X11_through_0_b84 C hex hst hf k0 k H locs ls hP hD hS (lv_sub hl [0, 1, 2, 3, 4] rfl)
        · have hf := (if_pos t74).symm.trans hf
          refine lv_iload_n hx hb dX11_through_77 rfl (lv_at hl 3 rfl) ?_
          refine lv_iconst (v := (1 : Int32)) hx hb dX11_through_78 (by decide) ?_
          refine lv_iload hx hb dX11_through_79 (lv_at hl 4 rfl) ?_
          refine lv_ishl hx hb dX11_through_81 ?_
          refine lv_ior hx hb dX11_through_82 ?_
          obtain ⟨v3, ev3, hf⟩ := bd_s hf
          rw [← ev3]
          refine lv_istore_n (lv' := [(3, .int v3), (0, .ref (g.2.2 0)), (1, .int x1), (2, .int x2), (4, .int x4)]) hx hb dX11_through_83 rfl hl (by decide) rfl (fun ls hl => ?_)
          exact b_X11_through_0_b84 C hex hst hf k0 k H locs ls hP hD hS (lv_sub hl [1, 2, 3, 0, 4] rfl)
theorem lp_X11_through_0_h42 {N : Nat} {n : Nat} {x1 : Int32} {x2 : Int32} {x3 : Int32} {x4 : Int32} {σ : Sg} {z : Nat × Int32 × Int32 × Sg} (C : Cx p s m args meth c cX11_through 5 (some .int) RX11 g A X) (hex : ∀ x ∈ c.exceptionTable.toList, False) (hst : l.stackTraces = false) (hz : it (fun q => s_X11_through_0_h42 N x1 x2 q.1 q.2.1 q.2.2) n (x3, x4, σ) = some z) (k : Bk cw p l e rm_X11_through_0 s m args below meth c 5 g A Q 2 12 90 [(3, .int z.2.1)] [] z.2.2.2) : Bk cw p l e rm_X11_through_0 s m args below meth c 5 g A Q 2 12 42 [(0, .ref (g.2.2 0)), (1, .int x1), (2, .int x2), (3, .int x3), (4, .int x4)] [] σ :=
  it_W (S := Int32 × Int32 × Sg) (fun q => Bk cw p l e rm_X11_through_0 s m args below meth c 5 g A Q 2 12 42 [(0, .ref (g.2.2 0)), (1, .int x1), (2, .int x2), (3, .int q.1), (4, .int q.2.1)] [] q.2.2) (fun z => Bk cw p l e rm_X11_through_0 s m args below meth c 5 g A Q 2 12 90 [(3, .int z.2.1)] [] z.2.2.2) (fun q z hq k0 k => e_X11_through_0_h42 C hex hst hq k0 k) n (x3, x4, σ) z hz k
def f_X11_through_0 (N : Nat) (x1 : Int32) (x2 : Int32) (σ : Sg) : Option (Zt) :=
(f_X11_needFarms_0 N x1 x2 σ).bind fun q4 =>
if q4.1 = 0 then ((f_X2_startAnew_55_22 N ((1 : Int32) <<< (x1 &&& 31)) (q4.2.2)).bind fun q5 =>
(f_X2_firstNod_55 N x2 q5).bind fun q6 =>
if q6.1 = (-1 : Int32) then (some (0, (0 : Int32), (q6.2)))
else ((it (fun q => s_X11_through_0_h42 N x1 x2 q.1 q.2.1 q.2.2) N ((0 : Int32), (0 : Int32), (q6.2))).bind fun z7 =>
some (0, (z7.2.1), (z7.2.2.2))))
else some (q4.1, 0, q4.2.2)
set_option maxHeartbeats 4000000 in
set_option maxRecDepth 100000 in
theorem b_X11_through_0 {N : Nat} {x1 : Int32} {x2 : Int32} {σ : Sg} {z : Zt} (C : Cx p s m args meth c cX11_through 5 (some .int) RX11 g A X) (hex : ∀ x ∈ c.exceptionTable.toList, False) (hst : l.stackTraces = false) (hf : f_X11_through_0 N x1 x2 σ = some z) : Bk cw p l e rm_X11_through_0 s m args below meth c 5 g A (vx_MQ below (qTi cw g A z) (xT cw g A z) args s 2 12 A) 0 0 0 [(0, .ref (g.2.2 0)), (1, .int x1), (2, .int x2)] [] σ := by
  obtain ⟨hx, hb, hr, hml, hown, hts, hK, hlocks, hXX, hA, hXo⟩ := id C
  intro H locs ls hP hD hS hl
  unfold f_X11_through_0 at hf
  refine lv_aload_n hx hb dX11_through_0 rfl (lv_at hl 0 rfl) ?_
  refine lv_iload_n hx hb dX11_through_1 rfl (lv_at hl 1 rfl) ?_
  refine lv_iload_n hx hb dX11_through_2 rfl (lv_at hl 2 rfl) ?_
  obtain ⟨q4, hq4, hf⟩ := bi_s hf
  refine bk_TV (wf := cw) (q0 := 0) (ci := 10) (rest := []) [.int x1, .int x2] C hex hP hD hS hl.1 (c_X11_needFarms_0 hXo hst hq4) (cwA_V 2 hts wa_1098 wa_1095 wa_1096 wa_1097 wa_2 rfl rfl nd_X11_needFarms ⟨Nat.le_of_ble_eq_true rfl, Nat.le_of_ble_eq_true rfl⟩) rfl rfl rfl rfl (Nat.le_of_ble_eq_true rfl) dX11_through_3 ⟨Nat.le_of_ble_eq_true rfl, Nat.le_of_ble_eq_true rfl⟩ ⟨Nat.le_of_ble_eq_true rfl, Nat.le_of_ble_eq_true rfl⟩ (fun h0 => by have hf := (if_neg h0).symm.trans hf; cases hf; exact ⟨rfl, rfl⟩) (fun h0 H locs hP hD hS => ?_)
  have hf := (if_pos h0).symm.trans hf
  refine lv_aload_n hx hb dX11_through_6 rfl (lv_at hl 0 rfl) ?_
  refine bk_get (wf := cw) (q0 := 0) (ci := 10) (k := 10) (v := .ref (g.2.2 55)) C hP wl_X11 rfl rfl (by decide) wa_42 rfl rfl dX11_through_7 ?_
  refine lv_aload_n hx hb dX11_through_10 rfl (lv_at hl 0 rfl) ?_
  refine bk_get (wf := cw) (q0 := 0) (ci := 10) (k := 4) (v := .ref (g.2.2 21)) C hP wl_X11 rfl rfl (by decide) wa_27 rfl rfl dX11_through_11 ?_
  refine bk_get (wf := cw) (q0 := 21) (ci := 1) (k := 0) (v := .ref (g.2.2 22)) C hP wl_X1 rfl rfl (by decide) wa_221 rfl rfl dX11_through_14 ?_
  refine lv_iconst (v := (1 : Int32)) hx hb dX11_through_17 (by decide) ?_
  refine lv_iload_n hx hb dX11_through_18 rfl (lv_at hl 1 rfl) ?_
  refine lv_ishl hx hb dX11_through_19 ?_
  obtain ⟨q5, hq5, hf⟩ := bi_s hf
  refine bk_VV (wf := cw) (q0 := 55) (ci := 2) (rest := []) [.ref (g.2.2 22), .int ((1 : Int32) <<< (x1 &&& 31))] C hP hD hS hl.1 (c_X2_startAnew_55_22 hXo hq5) (cwA_V 2 hts wa_1102 wa_1099 wa_1100 wa_1101 wa_41 rfl rfl nd_X2_startAnew ⟨Nat.le_of_ble_eq_true rfl, Nat.le_of_ble_eq_true rfl⟩) rfl rfl rfl rfl (Nat.le_of_ble_eq_true rfl) dX11_through_20 ⟨Nat.le_of_ble_eq_true rfl, Nat.le_of_ble_eq_true rfl⟩ (fun H locs hP hD hS => ?_)
  refine lv_aload_n hx hb dX11_through_23 rfl (lv_at hl 0 rfl) ?_
  refine bk_get (wf := cw) (q0 := 0) (ci := 10) (k := 10) (v := .ref (g.2.2 55)) C hP wl_X11 rfl rfl (by decide) wa_42 rfl rfl dX11_through_24 ?_
  refine lv_iload_n hx hb dX11_through_27 rfl (lv_at hl 2 rfl) ?_
  obtain ⟨q6, hq6, hf⟩ := bi_s hf
  refine bk_VI (wf := cw) (q0 := 55) (ci := 2) (rest := []) [.int x2] C hP hD hS hl.1 (c_X2_firstNod_55 hXo hq6) (cwA_V 1 hts wa_1050 wa_1047 wa_1048 wa_1049 wa_41 rfl rfl nd_X2_firstNod ⟨Nat.le_of_ble_eq_true rfl, Nat.le_of_ble_eq_true rfl⟩) rfl rfl rfl rfl (Nat.le_of_ble_eq_true rfl) dX11_through_28 ⟨Nat.le_of_ble_eq_true rfl, Nat.le_of_ble_eq_true rfl⟩ (fun H locs hP hD hS => ?_)
  refine lv_iconst (v := (-1 : Int32)) hx hb dX11_through_31 (by decide) ?_
  refine lv_icmp_ne (tgt := 37) hx hb dX11_through_32 (by decide) (fun t32 => ?_) (fun t32 => ?_)
  · have hf := (if_neg t32).symm.trans hf
    refine lv_iconst (v := (0 : Int32)) hx hb dX11_through_37 (by decide) ?_
    refine lv_istore_n (lv' := [(3, .int (0 : Int32)), (0, .ref (g.2.2 0)), (1, .int x1), (2, .int x2)]) hx hb dX11_through_38 rfl hl (by decide) rfl (fun ls hl => ?_)
    refine lv_iconst (v := (0 : Int32)) hx hb dX11_through_39 (by decide) ?_
    refine lv_istore (lv' := [(4, .int (0 : Int32)), (3, .int (0 : Int32)), (0, .ref (g.2.2 0)), (1, .int x1), (2, .int x2)]) hx hb dX11_through_40 hl (by decide) rfl (fun ls hl => ?_)
    obtain ⟨z7, hz7, hf⟩ := bi_s hf
    refine lp_X11_through_0_h42 C hex hst hz7 ?_ H locs ls hP hD hS (lv_sub hl [2, 3, 4, 1, 0] rfl)
    intro H locs ls hP hD hS hl
    refine lv_iload_n hx hb dX11_through_90 rfl (lv_at hl 0 rfl) ?_
    exact bk_iretT C hP hD hS hf (Nat.le_of_ble_eq_true rfl) (Nat.le_of_ble_eq_true rfl) dX11_through_91
  · have hf := (if_pos t32).symm.trans hf
    refine lv_iconst (v := (0 : Int32)) hx hb dX11_through_35 (by decide) ?_
    exact bk_iretT C hP hD hS hf (Nat.le_of_ble_eq_true rfl) (Nat.le_of_ble_eq_true rfl) dX11_through_36
theorem c_X11_through_0 {N : Nat} {x1 : Int32} {x2 : Int32} {σ : Sg} {z : Zt} (hX : xOK g X) (hst : l.stackTraces = false) (hf : f_X11_through_0 N x1 x2 σ = some z) : MetTi l yX11_through (Cond.code yX11_through cX11_through 5 (some .int) :: wsA) rm_X11_through_0 2 12 cw g X [.ref (g.2.2 0), .int x1, .int x2] σ z :=
  MetTi_of hX (by decide) (Nat.le_of_ble_eq_true rfl) (fun p e s m args below meth c A C hex => b_X11_through_0 C hex hst hf)
-- X11_best_0: best(I)I
abbrev rm_X11_best_0 : Room := { frames := 8, cells := 1, slots := 6, locals := 189 }
theorem nd_X11_best : yX11_best.cls ≠ "java/lang/invoke/MethodHandle" ∧ yX11_best.cls ≠ "java/lang/invoke/VarHandle" ∧ (parseMethodDescriptor yX11_best.desc).map (fun d => d.parameters.length) = some 1 := by decide +kernel
def f_X11_best_0_b52 (N : Nat) (x1 : Int32) (x2 : Int32) (x3 : Int32) (x4 : Int32) (σ : Sg) : Option (Nat × Int32 × Int32 × Int32 × Sg) :=
bd (x4 + (1 : Int32)) fun v1 =>
some (0, x2, x3, v1, σ)
set_option maxHeartbeats 4000000 in
set_option maxRecDepth 100000 in
theorem b_X11_best_0_b52 {N : Nat} {x1 : Int32} {x2 : Int32} {x3 : Int32} {x4 : Int32} {σ : Sg} {z : Nat × Int32 × Int32 × Int32 × Sg} (C : Cx p s m args meth c cX11_best 6 (some .int) RX11 g A X) (hex : ∀ x ∈ c.exceptionTable.toList, False) (hst : l.stackTraces = false) (hf : f_X11_best_0_b52 N x1 x2 x3 x4 σ = some z) (k0 : z.1 = 0 → Bk cw p l e rm_X11_best_0 s m args below meth c 6 g A Q 1 6 14 [(0, .ref (g.2.2 0)), (1, .int x1), (2, .int z.2.1), (3, .int z.2.2.1), (4, .int z.2.2.2.1)] [] z.2.2.2.2) (k : ¬ z.1 = 0 → Bk cw p l e rm_X11_best_0 s m args below meth c 6 g A Q 1 6 58 [(3, .int z.2.2.1)] [] z.2.2.2.2) : Bk cw p l e rm_X11_best_0 s m args below meth c 6 g A Q 1 6 52 [(0, .ref (g.2.2 0)), (1, .int x1), (2, .int x2), (3, .int x3), (4, .int x4)] [] σ := by
  obtain ⟨hx, hb, hr, hml, hown, hts, hK, hlocks, hXX, hA, hXo⟩ := id C
  intro H locs ls hP hD hS hl
  unfold f_X11_best_0_b52 at hf
  obtain ⟨v1, ev1, hf⟩ := bd_s hf
  refine lv_iinc (v := v1) (lv' := [(4, .int v1), (0, .ref (g.2.2 0)), (1, .int x1), (2, .int x2), (3, .int x3)]) hx hb dX11_best_52 hl (k := 4) rfl (by rw [ev1]; rfl) (by decide) rfl (fun ls hl => ?_)
  refine lv_goto (tgt := 14) hx hb dX11_best_55 (by decide) ?_
  cases hf
  exact k0 rfl H locs ls hP hD hS (lv_sub hl [1, 2, 3, 4, 0] rfl)
def s_X11_best_0_h14 (N : Nat) (x1 : Int32) (x2 : Int32) (x3 : Int32) (x4 : Int32) (σ : Sg) : Option (Nat × Int32 × Int32 × Int32 × Sg) :=
if (σ 12 0) ≤ x4 then (some (1, 0, x3, 0, σ))
else ((f_X11_reachedBy_0 N ((1 : Int32) <<< (x4 &&& 31)) x1 σ).bind fun q2 =>
(f_J6_bitCount_0f7a4 N q2.1 (q2.2)).bind fun q3 =>
bd q3.1 fun v4 =>
if v4 ≤ x2 then (f_X11_best_0_b52 N x1 x2 x3 x4 (q3.2))
else (f_X11_best_0_b52 N x1 v4 x4 x4 (q3.2)))
set_option maxHeartbeats 4000000 in
set_option maxRecDepth 100000 in
theorem e_X11_best_0_h14 {N : Nat} {x1 : Int32} {x2 : Int32} {x3 : Int32} {x4 : Int32} {σ : Sg} {z : Nat × Int32 × Int32 × Int32 × Sg} (C : Cx p s m args meth c cX11_best 6 (some .int) RX11 g A X) (hex : ∀ x ∈ c.exceptionTable.toList, False) (hst : l.stackTraces = false) (hf : s_X11_best_0_h14 N x1 x2 x3 x4 σ = some z) (k0 : z.1 = 0 → Bk cw p l e rm_X11_best_0 s m args below meth c 6 g A Q 1 6 14 [(0, .ref (g.2.2 0)), (1, .int x1), (2, .int z.2.1), (3, .int z.2.2.1), (4, .int z.2.2.2.1)] [] z.2.2.2.2) (k : ¬ z.1 = 0 → Bk cw p l e rm_X11_best_0 s m args below meth c 6 g A Q 1 6 58 [(3, .int z.2.2.1)] [] z.2.2.2.2) : Bk cw p l e rm_X11_best_0 s m args below meth c 6 g A Q 1 6 14 [(0, .ref (g.2.2 0)), (1, .int x1), (2, .int x2), (3, .int x3), (4, .int x4)] [] σ := by
  obtain ⟨hx, hb, hr, hml, hown, hts, hK, hlocks, hXX, hA, hXo⟩ := id C
  intro H locs ls hP hD hS hl
  unfold s_X11_best_0_h14 at hf
  refine lv_iload hx hb dX11_best_14 (lv_at hl 4 rfl) ?_
  refine lv_aload_n hx hb dX11_best_16 rfl (lv_at hl 0 rfl) ?_
  refine bk_get (wf := cw) (q0 := 0) (ci := 10) (k := 3) (v := .ref (g.2.2 12)) C hP wl_X11 rfl rfl (by decide) wa_23 rfl rfl dX11_best_17 ?_
  refine bk_get (wf := cw) (q0 := 12) (ci := 8) (k := 0) (v := .int (σ 12 0)) C hP wl_X9 rfl rfl (by decide) wa_644 rfl rfl dX11_best_20 ?_
  refine lv_icmp_ge (tgt := 58) hx hb dX11_best_23 (by decide) (fun t23 => ?_) (fun t23 => ?_)
  · have hf := (if_pos t23).symm.trans hf
    cases hf
    exact (k (show ¬ (1 : Nat) = 0 by decide)) H locs ls hP hD hS (lv_sub hl [3] rfl)
  · have hf := (if_neg t23).symm.trans hf
    refine lv_aload_n hx hb dX11_best_26 rfl (lv_at hl 0 rfl) ?_
    refine lv_iconst (v := (1 : Int32)) hx hb dX11_best_27 (by decide) ?_
    refine lv_iload hx hb dX11_best_28 (lv_at hl 4 rfl) ?_
    refine lv_ishl hx hb dX11_best_30 ?_
    refine lv_iload_n hx hb dX11_best_31 rfl (lv_at hl 1 rfl) ?_
    obtain ⟨q2, hq2, hf⟩ := bi_s hf
    refine bk_VI (wf := cw) (q0 := 0) (ci := 10) (rest := []) [.int ((1 : Int32) <<< (x4 &&& 31)), .int x1] C hP hD hS hl.1 (c_X11_reachedBy_0 hXo hq2) (cwA_V 2 hts wa_1128 wa_1125 wa_1126 wa_1127 wa_2 rfl rfl nd_X11_reachedBy ⟨Nat.le_of_ble_eq_true rfl, Nat.le_of_ble_eq_true rfl⟩) rfl rfl rfl rfl (Nat.le_of_ble_eq_true rfl) dX11_best_32 ⟨Nat.le_of_ble_eq_true rfl, Nat.le_of_ble_eq_true rfl⟩ (fun H locs hP hD hS => ?_)
    obtain ⟨q3, hq3, hf⟩ := bi_s hf
    refine bk_SI (wf := cw) (rest := []) [.int q2.1] C hP hD hS hl.1 (c_J6_bitCount_0f7a4 hXo hq3) (cwA_S 1 hts wa_699 wa_1071 wa_697 wa_698 rfl rfl nd_J6_bitCount_0f7a4 ⟨Nat.le_of_ble_eq_true rfl, Nat.le_of_ble_eq_true rfl⟩) rfl rfl (Nat.le_of_ble_eq_true rfl) dX11_best_35 ⟨Nat.le_of_ble_eq_true rfl, Nat.le_of_ble_eq_true rfl⟩ (fun H locs hP hD hS => ?_)
    obtain ⟨v4, ev4, hf⟩ := bd_s hf
    rw [← ev4]
    refine lv_istore (lv' := [(5, .int v4), (0, .ref (g.2.2 0)), (1, .int x1), (2, .int x2), (3, .int x3), (4, .int x4)]) hx hb dX11_best_38 hl (by decide) rfl (fun ls hl => ?_)
    refine lv_iload hx hb dX11_best_40 (lv_at hl 0 rfl) ?_
    refine lv_iload_n hx hb dX11_best_42 rfl (lv_at hl 3 rfl) ?_
    refine lv_icmp_le (tgt := 52) hx hb dX11_best_43 (by decide) (fun t43 => ?_) (fun t43 => ?_)
    · have hf := (if_pos t43).symm.trans hf
      exact b_X11_best_0_b52 C hex hst hf k0 k H locs ls hP hD hS (lv_sub hl [1, 2, 3, 4, 5] rfl)
    · have hf := (if_neg t43).symm.trans hf
      refine lv_iload hx hb dX11_best_46 (lv_at hl 0 rfl) ?_
      refine lv_istore_n (lv' := [(2, .int v4), (5, .int v4), (0, .ref (g.2.2 0)), (1, .int x1), (3, .int x3), (4, .int x4)]) hx hb dX11_best_48 rfl hl (by decide) rfl (fun ls hl => ?_)
      refine lv_iload hx hb dX11_best_49 (lv_at hl 5 rfl) ?_
      refine lv_istore_n (lv' := [(3, .int x4), (2, .int v4), (5, .int v4), (0, .ref (g.2.2 0)), (1, .int x1), (4, .int x4)]) hx hb dX11_best_51 rfl hl (by decide) rfl (fun ls hl => ?_)
      exact b_X11_best_0_b52 C hex hst hf k0 k H locs ls hP hD hS (lv_sub hl [3, 4, 1, 0, 5] rfl)
theorem lp_X11_best_0_h14 {N : Nat} {n : Nat} {x1 : Int32} {x2 : Int32} {x3 : Int32} {x4 : Int32} {σ : Sg} {z : Nat × Int32 × Int32 × Int32 × Sg} (C : Cx p s m args meth c cX11_best 6 (some .int) RX11 g A X) (hex : ∀ x ∈ c.exceptionTable.toList, False) (hst : l.stackTraces = false) (hz : it (fun q => s_X11_best_0_h14 N x1 q.1 q.2.1 q.2.2.1 q.2.2.2) n (x2, x3, x4, σ) = some z) (k : Bk cw p l e rm_X11_best_0 s m args below meth c 6 g A Q 1 6 58 [(3, .int z.2.2.1)] [] z.2.2.2.2) : Bk cw p l e rm_X11_best_0 s m args below meth c 6 g A Q 1 6 14 [(0, .ref (g.2.2 0)), (1, .int x1), (2, .int x2), (3, .int x3), (4, .int x4)] [] σ :=
  it_W (S := Int32 × Int32 × Int32 × Sg) (fun q => Bk cw p l e rm_X11_best_0 s m args below meth c 6 g A Q 1 6 14 [(0, .ref (g.2.2 0)), (1, .int x1), (2, .int q.1), (3, .int q.2.1), (4, .int q.2.2.1)] [] q.2.2.2) (fun z => Bk cw p l e rm_X11_best_0 s m args below meth c 6 g A Q 1 6 58 [(3, .int z.2.2.1)] [] z.2.2.2.2) (fun q z hq k0 k => e_X11_best_0_h14 C hex hst hq k0 k) n (x2, x3, x4, σ) z hz k
def f_X11_best_0 (N : Nat) (x1 : Int32) (σ : Sg) : Option (Zt) :=
(f_X11_needWithin N x1 (1 : Int32) (60 : Int32) σ).bind fun q5 =>
if q5.1 = 0 then ((it (fun q => s_X11_best_0_h14 N x1 q.1 q.2.1 q.2.2.1 q.2.2.2) N ((-1 : Int32), (-1 : Int32), (0 : Int32), (q5.2.2))).bind fun z6 =>
some (0, (z6.2.2.1), (z6.2.2.2.2)))
else some (q5.1, 0, q5.2.2)
set_option maxHeartbeats 4000000 in
set_option maxRecDepth 100000 in
theorem b_X11_best_0 {N : Nat} {x1 : Int32} {σ : Sg} {z : Zt} (C : Cx p s m args meth c cX11_best 6 (some .int) RX11 g A X) (hex : ∀ x ∈ c.exceptionTable.toList, False) (hst : l.stackTraces = false) (hf : f_X11_best_0 N x1 σ = some z) : Bk cw p l e rm_X11_best_0 s m args below meth c 6 g A (vx_MQ below (qTi cw g A z) (xT cw g A z) args s 1 6 A) 0 0 0 [(0, .ref (g.2.2 0)), (1, .int x1)] [] σ := by
  obtain ⟨hx, hb, hr, hml, hown, hts, hK, hlocks, hXX, hA, hXo⟩ := id C
  intro H locs ls hP hD hS hl
  unfold f_X11_best_0 at hf
  refine lv_iload_n hx hb dX11_best_0 rfl (lv_at hl 1 rfl) ?_
  refine lv_iconst (v := (1 : Int32)) hx hb dX11_best_1 (by decide) ?_
  refine lv_bipush (v := (60 : Int32)) hx hb dX11_best_2 (by decide) ?_
  obtain ⟨q5, hq5, hf⟩ := bi_s hf
  refine bk_TS (wf := cw) (rest := []) [.int x1, .int (1 : Int32), .int (60 : Int32)] C hex hP hD hS hl.1 (c_X11_needWithin hXo hst hq5) (cwA_S 3 hts wa_1020 wa_1018 wa_1019 wa_2 rfl rfl nd_X11_needWithin ⟨Nat.le_of_ble_eq_true rfl, Nat.le_of_ble_eq_true rfl⟩) rfl rfl (Nat.le_of_ble_eq_true rfl) dX11_best_4 ⟨Nat.le_of_ble_eq_true rfl, Nat.le_of_ble_eq_true rfl⟩ ⟨Nat.le_of_ble_eq_true rfl, Nat.le_of_ble_eq_true rfl⟩ (fun h0 => by have hf := (if_neg h0).symm.trans hf; cases hf; exact ⟨rfl, rfl⟩) (fun h0 H locs hP hD hS => ?_)
  have hf := (if_pos h0).symm.trans hf
  refine lv_iconst (v := (-1 : Int32)) hx hb dX11_best_7 (by decide) ?_
  refine lv_istore_n (lv' := [(2, .int (-1 : Int32)), (0, .ref (g.2.2 0)), (1, .int x1)]) hx hb dX11_best_8 rfl hl (by decide) rfl (fun ls hl => ?_)
  refine lv_iconst (v := (-1 : Int32)) hx hb dX11_best_9 (by decide) ?_
  refine lv_istore_n (lv' := [(3, .int (-1 : Int32)), (2, .int (-1 : Int32)), (0, .ref (g.2.2 0)), (1, .int x1)]) hx hb dX11_best_10 rfl hl (by decide) rfl (fun ls hl => ?_)
  refine lv_iconst (v := (0 : Int32)) hx hb dX11_best_11 (by decide) ?_
  refine lv_istore (lv' := [(4, .int (0 : Int32)), (3, .int (-1 : Int32)), (2, .int (-1 : Int32)), (0, .ref (g.2.2 0)), (1, .int x1)]) hx hb dX11_best_12 hl (by decide) rfl (fun ls hl => ?_)
  obtain ⟨z6, hz6, hf⟩ := bi_s hf
  refine lp_X11_best_0_h14 C hex hst hz6 ?_ H locs ls hP hD hS (lv_sub hl [3, 4, 2, 1, 0] rfl)
  intro H locs ls hP hD hS hl
  refine lv_iload_n hx hb dX11_best_58 rfl (lv_at hl 0 rfl) ?_
  exact bk_iretT C hP hD hS hf (Nat.le_of_ble_eq_true rfl) (Nat.le_of_ble_eq_true rfl) dX11_best_59
theorem c_X11_best_0 {N : Nat} {x1 : Int32} {σ : Sg} {z : Zt} (hX : xOK g X) (hst : l.stackTraces = false) (hf : f_X11_best_0 N x1 σ = some z) : MetTi l yX11_best (Cond.code yX11_best cX11_best 6 (some .int) :: wsA) rm_X11_best_0 1 6 cw g X [.ref (g.2.2 0), .int x1] σ z :=
  MetTi_of hX (by decide) (Nat.le_of_ble_eq_true rfl) (fun p e s m args below meth c A C hex => b_X11_best_0 C hex hst hf)
end GEN
