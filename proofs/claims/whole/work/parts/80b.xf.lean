/-! ===== what is known of the launch's constants at the start, and that it lasts ===== -/
def gxw : Cond → Bool
  | .castable _ _ => true
  | .declares _ => true
  | w => goodWord w
theorem ex_gx : ∀ w ∈ exI ++ exN, gxw w = true := by decide +kernel
theorem gx_at {a a' : Array Value} {u U : State} {w : Cond} (hW : u.WarmedH U.vm) (hg : gxw w = true) (h : w.before a u = true) : w.before a' U = true := by
  cases w with
  | castable C T => exact va_tabs rfl rfl (va_Nw.warmC hW (va_Nw.of rfl h))
  | declares x => exact va_tabs rfl rfl (va_Nw.warmD hW (va_Nw.of rfl h))
  | _ => exact word_at hW (good_of_word hg) h
theorem XF_w {g : WG} {A : Nat → Prop} {u U : State} {H : Heap} (hW : u.WarmedH U.vm) (h : XF g A u H) : XF g A U H := by
  have hvm := hW.alike
  obtain ⟨⟨n1, n2, nq, ao, nc⟩, ⟨z1, z2⟩, ww, ms, tx, ⟨t1, t2, t3, t4⟩, cs, pr, fl, ld⟩ := h
  refine ⟨⟨va_Nw.warmM hW n1, va_Nw.warmM hW n2, fun q hq => va_Nw.warmM hW (nq q hq), ao.moved hvm, nc.moved hvm⟩, ⟨z1.moved hvm, z2.moved hvm⟩, fun a w hw => gx_at hW (ex_gx w hw) (ww a w hw), fun q hq => ?_, fun i hi => ⟨(tx i hi).1.moved hvm, (tx i hi).2.1.moved hvm, (tx i hi).2.2.1.moved hvm, (tx i hi).2.2.2.moved hvm⟩, ⟨fun i hi => ⟨(t1 i hi).1.moved hvm, (t1 i hi).2.1.moved hvm, (t1 i hi).2.2.1.moved hvm, (t1 i hi).2.2.2.moved hvm⟩, t2.moved hvm, t3.moved hvm, t4⟩, cs.moved hvm, pr.moved hvm, va_Nw.warmF hW fl, fun q hq => vk_R.warm hW (ld q hq)⟩
  obtain ⟨sa, hs⟩ := ms q hq
  exact ⟨sa, vk_R.warm hW hs⟩
theorem XF_k {g : WG} {A : Nat → Prop} {U : State} {H H1 : Heap} (h : XF g A U H) (hq : ∀ a : Nat, a < H.size → ¬ A a → H1[a]? = H[a]?) : XF g A U H1 := by
  obtain ⟨n, ⟨z1, z2⟩, ww, ms, tx, ⟨t1, t2, t3, t4⟩, cs, pr, fl, ld⟩ := h
  exact ⟨n, ⟨z1.kept hq, z2.kept hq⟩, ww, ms, fun i hi => ⟨(tx i hi).1.kept hq, (tx i hi).2.1.kept hq, (tx i hi).2.2.1.kept hq, (tx i hi).2.2.2.kept hq⟩, ⟨fun i hi => ⟨(t1 i hi).1.kept hq, (t1 i hi).2.1.kept hq, (t1 i hi).2.2.1.kept hq, (t1 i hi).2.2.2.kept hq⟩, t2.kept hq, t3.kept hq, t4⟩, cs.kept hq, pr.kept hq, fl, ld⟩
theorem XF_n {g : WG} {A B : Nat → Prop} {U : State} {H : Heap} (h : XF g A U H) (hq : ∀ q, B q → A q) : XF g B U H := by
  obtain ⟨n, ⟨z1, z2⟩, ww, ms, tx, ⟨t1, t2, t3, t4⟩, cs, pr, fl, ld⟩ := h
  exact ⟨n, ⟨z1.narrow hq, z2.narrow hq⟩, ww, ms, fun i hi => ⟨(tx i hi).1.narrow hq, (tx i hi).2.1.narrow hq, (tx i hi).2.2.1.narrow hq, (tx i hi).2.2.2.narrow hq⟩, ⟨fun i hi => ⟨(t1 i hi).1.narrow hq, (t1 i hi).2.1.narrow hq, (t1 i hi).2.2.1.narrow hq, (t1 i hi).2.2.2.narrow hq⟩, t2.narrow hq, t3.narrow hq, t4⟩, cs.narrow hq, pr.narrow hq, fl, ld⟩
/-- places from 100 on alone count -/
theorem XF_cg {g g' : WG} {A : Nat → Prop} {U : State} {H : Heap} (e : ∀ k, 100 ≤ k → g.2.2 k = g'.2.2 k) (h : XF g A U H) : XF g' A U H := by
  obtain ⟨n, z, ww, ms, tx, ⟨t1, t2, t3, t4⟩, cs, pr, fl, ld⟩ := h
  refine ⟨n, z, ww, ms, fun i hi => ?_, ⟨fun i hi => ?_, ?_, ?_, fun i j hi hj he => ?_⟩, cs, pr, fl, fun q hq => ?_⟩
  · have := tx i hi
    rw [e (100 + i) (by omega), e (150 + i) (by omega)] at this
    exact this
  · have := t1 i hi
    rw [e (300 + i) (by omega), e (100 + (14 + i)) (by omega)] at this
    exact this
  · rw [← e 330 (by omega)]; exact t2
  · rw [← e 330 (by omega)]
    have ef : (fun j => Value.ref (g.2.2 (300 + j))) = fun j => Value.ref (g'.2.2 (300 + j)) := funext fun j => by rw [e (300 + j) (by omega)]
    rw [← ef]; exact t3
  · rw [← e (300 + i) (by omega), ← e (300 + j) (by omega)] at he
    exact t4 i j hi hj he
  · rw [← e (100 + q.2.2) (by omega)]; exact ld q hq
theorem XF_ok {g g' : WG} (e : ∀ k, 100 ≤ k → g.2.2 k = g'.2.2 k) : xOK g' (XF g) := ⟨fun A u U H hW h => XF_w hW h, fun A U H H1 h hq => XF_k h hq, fun A B U H h hq => XF_n h hq, fun A U H h => XF_cg e h⟩
/-! the start's addresses -/
def adr (b : Nat) (s : State) (t : Term) : Nat := match t.eval #[Value.ref b] s none [] s with
  | some (.ref a) => a
  | _ => 0
theorem adr_e {b : Nat} {s : State} {t : Term} {a : Nat} (h : t.eval #[Value.ref b] s none [] s = some (.ref a)) : adr b s t = a := by
  unfold adr; rw [h]
theorem adr_x {b : Nat} {s : State} {t : Term} {nm : String} (h : (Cond.exactly t nm).before #[Value.ref b] s = true) : t.eval #[Value.ref b] s none [] s = some (.ref (adr b s t)) := by
  obtain ⟨a, c, cA, kA, q1, -⟩ := Cond.exactly_spec (args := #[Value.ref b]) (first := s) (o := none) (s := s) (idx := []) (t := t) (cls := nm) h
  rw [adr_e q1]; exact q1
def tmV (i : Nat) : Term := .field (tmS i) "java/lang/String" "value" "[B"
def tmT (i : Nat) : Term := .static "NodPost$Token" (tkNm.getD i "") "LNodPost$Token;"
def tmA : Term := .static "NodPost$Token" "ALL" "[LNodPost$Token;"
def adH (b : Nat) (s : State) (k : Nat) : Nat := if k < 150 then adr b s (tmS (k - 100)) else if k < 300 then adr b s (tmV (k - 150)) else if k < 330 then adr b s (tmT (k - 300)) else adr b s tmA
def adF (b : Nat) (s : State) (lo : Nat → Nat) (k : Nat) : Nat := if k < 100 then lo k else adH b s k
theorem adF_hi {b : Nat} {s : State} {lo lo' : Nat → Nat} {k : Nat} (h : 100 ≤ k) : adF b s lo k = adF b s lo' k := by
  unfold adF; rw [if_neg (by omega), if_neg (by omega)]
theorem adF_S {b : Nat} {s : State} {lo : Nat → Nat} {i : Nat} (h : i < 41) : adF b s lo (100 + i) = adr b s (tmS i) := by
  unfold adF adH; rw [if_neg (by omega), if_pos (by omega), Nat.add_sub_cancel_left]
theorem adF_V {b : Nat} {s : State} {lo : Nat → Nat} {i : Nat} (h : i < 41) : adF b s lo (150 + i) = adr b s (tmV i) := by
  unfold adF adH; rw [if_neg (by omega), if_neg (by omega), if_pos (by omega), Nat.add_sub_cancel_left]
theorem adF_T {b : Nat} {s : State} {lo : Nat → Nat} {i : Nat} (h : i < 27) : adF b s lo (300 + i) = adr b s (tmT i) := by
  unfold adF adH; rw [if_neg (by omega), if_neg (by omega), if_neg (by omega), if_pos (by omega), Nat.add_sub_cancel_left]
theorem adF_A {b : Nat} {s : State} {lo : Nat → Nat} : adF b s lo 330 = adr b s tmA := rfl
theorem XF_at {D : va_G} {aC : Nat → ClassId} {b : Nat} {s : State} {lo : Nat → Nat} (h : (Jvm.Cond.and given_1 narrow_1).before #[Value.ref b] s = true) (ht : ∀ w ∈ lw_tbl, w.before #[Value.ref b] s = true) : XF (D, aC, adF b s lo) (fun q => s.heap.size ≤ q) s s.heap := by
  have hA : ∀ a : Nat, a < s.heap.size → ¬ (fun q : Nat => s.heap.size ≤ q) a := fun a h => Nat.not_le.mpr h
  refine ⟨⟨va_Nw.of rfl (ht _ xw_s), va_Nw.of rfl (ht _ xw_u), fun q hq => va_Nw.of rfl (ht _ (xw_n q hq)), va_AO.of (ht _ xw_o), va_Nc.of (nf_n h)⟩, ⟨vx_Zqof (ht _ xw_z1) (ht _ xw_i1) (nf_z1 h) hA, vx_Zqof (ht _ xw_z2) (ht _ xw_i1) (nf_z2 h) hA⟩, fun a w hw => ?_, fun q hq => ⟨_, vk_R.of (ht _ (xw_m q hq)) (adr_x (nf_m h q hq))⟩, fun i hi => ?_, ⟨fun i hi => ?_, ?_, ?_, fun i j hi hj he => ?_⟩, va_Zof (ht _ xw_z3) (ht _ xw_i2) (va_eqi (nf_z3 h)) hA, va_Zqof (ht _ xw_z4) (ht _ xw_i3) (nf_z4 h) hA, va_Nw.of rfl (ht _ xw_f), fun q hq => ?_⟩
  · refine vx_ot_at (State.WarmedH.refl s) rfl ?_ (ht w (xt_A w hw))
    rcases List.mem_append.mp hw with hw | hw
    · exact exI_ot w (List.mem_cons_of_mem _ (List.mem_cons_of_mem _ hw))
    · exact exN_ot w (List.mem_cons_of_mem _ (List.mem_cons_of_mem _ hw))
  · dsimp only
    rw [adF_S hi, adF_V hi]
    obtain ⟨t, e, hT⟩ := va_Tof (tm := tmV i) (ty := .byte) (N := tlen i) (f := fun j => .int (tby i j)) (A := fun q => s.heap.size ≤ q) (by have := tlen_lt i hi; omega) (nf_A h i hi) (va_eqt (nf_L h i hi)) (fun j hj => va_eqt (nf_B h i hi j hj)) hA
    cases adr_e e
    exact ⟨va_Oof (nf_E h i hi) (adr_x (nf_E h i hi)) hA, vk_OFof (adr_x (nf_E h i hi)) (va_eqt (nf_C h i hi)) hA, vk_OFof (adr_x (nf_E h i hi)) e hA, hT⟩
  · dsimp only
    rw [adF_T hi, adF_S (show 14 + i < 41 by omega)]
    have ee := adr_x (nf_T h i hi)
    exact ⟨va_Zof (ht _ (xw_t i hi)) (ht _ xw_i4) ee hA, va_Oof (nf_T h i hi) ee hA, vk_OFof ee (va_eqv (nf_X h i hi) (adr_x (nf_E h (14 + i) (by omega)))) hA, vk_OFof ee (va_eqt (nf_I h i hi)) hA⟩
  · obtain ⟨t, e, hT⟩ := va_Tof (tm := tmA) (ty := .object "NodPost$Token") (N := 27) (f := fun j => .ref (adF b s lo (300 + j))) (A := fun q => s.heap.size ≤ q) (by omega) (nf_a1 h) (va_eqt (nf_a2 h)) (fun j hj => by rw [adF_T hj]; exact va_eqv (nf_V h j hj) (adr_x (nf_T h j hj))) hA
    cases adr_e e
    exact va_Zof (ht _ xw_z5) (ht _ xw_i4) e hA
  · obtain ⟨t, e, hT⟩ := va_Tof (tm := tmA) (ty := .object "NodPost$Token") (N := 27) (f := fun j => .ref (adF b s lo (300 + j))) (A := fun q => s.heap.size ≤ q) (by omega) (nf_a1 h) (va_eqt (nf_a2 h)) (fun j hj => by rw [adF_T hj]; exact va_eqv (nf_V h j hj) (adr_x (nf_T h j hj))) hA
    cases adr_e e
    exact hT
  · dsimp only at he
    rw [adF_T hi, adF_T hj] at he
    have e1 := va_eqt (nf_O h i hi)
    have e2 := va_eqt (nf_O h j hj)
    rw [va_fe (adr_x (nf_T h i hi))] at e1
    rw [va_fe (adr_x (nf_T h j hj))] at e2
    have he' : adr b s (.static "NodPost$Token" (tkNm.getD i "") "LNodPost$Token;") = adr b s (.static "NodPost$Token" (tkNm.getD j "") "LNodPost$Token;") := he
    rw [he'] at e1
    have e3 := Value.int.inj (Option.some.inj (e1.symm.trans e2))
    have e4 := congrArg Int32.toNatClampNeg e3
    rw [Int32.toNatClampNeg_ofNat_of_lt (by omega), Int32.toNatClampNeg_ofNat_of_lt (by omega)] at e4
    exact e4
  · obtain ⟨hl, e⟩ := nf_l q hq
    dsimp only
    rw [adF_S hl]
    have ee := adr_x (nf_E h q.2.2 hl)
    refine vk_R.of (ht _ (xw_l q hq)) ?_
    rw [← e]
    exact ee
/-! the classes -/
theorem K_at {b : Nat} {s : State} (ht : ∀ w ∈ lw_tbl, w.before #[Value.ref b] s = true) : ∃ (D : va_G) (aC : Nat → ClassId), ∀ f : Nat → Nat, va_K D vwCl (tyl (D, aC, f)) s := by
  have hts : ∀ w ∈ wsA, w.before #[Value.ref b] s = true := fun w h => ht w (wt_A w h)
  obtain ⟨c0, i0, k0⟩ := u_known (C := RX0) (T := TX0) (N := 3) (n := 3) hts wl_X0 (hts _ wa_96)
  obtain ⟨c1, i1, k1⟩ := u_known (C := RX1) (T := TX1) (N := 4) (n := 4) hts wl_X1 (hts _ wa_25)
  obtain ⟨c2, i2, k2⟩ := u_known (C := RX2) (T := TX2) (N := 6) (n := 6) hts wl_X2 (hts _ wa_40)
  obtain ⟨c3, i3, k3⟩ := u_known (C := RX3) (T := TX3) (N := 13) (n := 13) hts wl_X3 (hts _ wa_17)
  obtain ⟨c4, i4, k4⟩ := u_known (C := RX4) (T := TX4) (N := 3) (n := 3) hts wl_X4 (hts _ wa_79)
  obtain ⟨c5, i5, k5⟩ := u_known (C := RX5) (T := TX5) (N := 4) (n := 4) hts wl_X5 (hts _ wa_100)
  obtain ⟨c6, i6, k6⟩ := u_known (C := RX6) (T := TX6) (N := 3) (n := 3) hts wl_X6 (hts _ wa_31)
  obtain ⟨c7, i7, k7⟩ := u_known (C := RX7) (T := TX7) (N := 6) (n := 6) hts wl_X7 (hts _ wa_92)
  obtain ⟨c8, i8, k8⟩ := u_known (C := RX9) (T := TX9) (N := 11) (n := 11) hts wl_X9 (hts _ wa_21)
  obtain ⟨c9, i9, k9⟩ := u_known (C := RX10) (T := TX10) (N := 2) (n := 2) hts wl_X10 (hts _ wa_36)
  obtain ⟨c10, i10, k10⟩ := u_known (C := RX11) (T := TX11) (N := 13) (n := 13) hts wl_X11 (hts _ wa_1)
  obtain ⟨c11, i11, k11⟩ := u_known (C := RX12) (T := TX12) (N := 57) (n := 57) hts wl_X12 (hts _ wa_4)
  obtain ⟨a0, ka0, co0, f0, x0, y0⟩ := Cond.arrayClass_spec (hts _ wa_43)
  obtain ⟨a1, ka1, co1, f1, x1, y1⟩ := Cond.arrayClass_spec (hts _ wa_13)
  obtain ⟨a2, ka2, co2, f2, x2, y2⟩ := Cond.arrayClass_spec (hts _ wa_183)
  obtain ⟨co3, a3, ka3, h3, -, x3, y3, f3⟩ := Cond.arrayOver_spec (ht _ xw_o)
  obtain ⟨a4, ka4, co4, f4, x4, y4⟩ := Cond.arrayClass_spec (hts _ wa_6)
  refine ⟨(fun k => if k = 0 then c0 else if k = 1 then c1 else if k = 2 then c2 else if k = 3 then c3 else if k = 4 then c4 else if k = 5 then c5 else if k = 6 then c6 else if k = 7 then c7 else if k = 8 then c8 else if k = 9 then c9 else if k = 10 then c10 else c11, fun k => if k = 0 then i0 else if k = 1 then i1 else if k = 2 then i2 else if k = 3 then i3 else if k = 4 then i4 else if k = 5 then i5 else if k = 6 then i6 else if k = 7 then i7 else if k = 8 then i8 else if k = 9 then i9 else if k = 10 then i10 else i11), fun k => if k = 0 then a0 else if k = 1 then a1 else if k = 2 then a2 else if k = 3 then a3 else a4, fun f => ⟨?_, ?_⟩⟩
  · intro k q hq
    match k, hq with
    | 0, hq => cases hq; exact k0
    | 1, hq => cases hq; exact k1
    | 2, hq => cases hq; exact k2
    | 3, hq => cases hq; exact k3
    | 4, hq => cases hq; exact k4
    | 5, hq => cases hq; exact k5
    | 6, hq => cases hq; exact k6
    | 7, hq => cases hq; exact k7
    | 8, hq => cases hq; exact k8
    | 9, hq => cases hq; exact k9
    | 10, hq => cases hq; exact k10
    | 11, hq => cases hq; exact k11
    | k + 12, hq => cases hq
  · intro k q hq
    match k, hq with
    | 0, hq => cases hq; exact ⟨fun n z => ⟨fun k h => (by cases h), ka0, x0, co0, y0⟩, f0⟩
    | 1, hq => cases hq; exact ⟨fun n z => ⟨fun k h => (by cases h), ka1, x1, co1, y1⟩, f1⟩
    | 2, hq => cases hq; exact ⟨fun n z => ⟨fun k h => (by cases h), ka2, x2, co2, y2⟩, f2⟩
    | 3, hq => cases hq; exact ⟨fun n z => ⟨fun k h => (by cases h), ka3, x3, co3, y3⟩, ka3, co3, x3, y3, h3, f3⟩
    | 4, hq => cases hq; exact ⟨fun n z => ⟨fun k h => (by cases h), ka4, x4, co4, y4⟩, f4⟩
    | k + 5, hq => cases hq
