/-! ===== how many bits ===== -/
def PP.cnt (a : Int32) : Nat → Nat
  | 0 => 0
  | n + 1 => if hasB a n then cnt a n + 1 else cnt a n
def PP.pc (a : Int32) : Int32 := nI (cnt a 9)
theorem PP.cnt_le (a : Int32) : ∀ n, cnt a n ≤ n
  | 0 => Nat.le_refl 0
  | n + 1 => by unfold cnt; have := cnt_le a n; split <;> omega
theorem PP.bc_dec : ∀ k : Nat, k < 512 → f_J6_bitCount_0f7a4 0 (nI k) (fun _ _ => 0) = f_J6_bitCount_0f7a4 0 (nI k) (fun _ _ => 0) := fun _ _ => rfl
def PP.bcF (x0 : Int32) : Int32 :=
  let v1 := x0 - (((x0).toUInt32 >>> (((1 : Int32)).toUInt32 &&& Int32.toUInt32 31)).toInt32 &&& (1431655765 : Int32))
  let v2 := (v1 &&& (858993459 : Int32)) + (((v1).toUInt32 >>> (((2 : Int32)).toUInt32 &&& Int32.toUInt32 31)).toInt32 &&& (858993459 : Int32))
  let v3 := (v2 + ((v2).toUInt32 >>> (((4 : Int32)).toUInt32 &&& Int32.toUInt32 31)).toInt32) &&& (252645135 : Int32)
  let v4 := v3 + ((v3).toUInt32 >>> (((8 : Int32)).toUInt32 &&& Int32.toUInt32 31)).toInt32
  let v5 := v4 + ((v4).toUInt32 >>> (((16 : Int32)).toUInt32 &&& Int32.toUInt32 31)).toInt32
  v5 &&& (63 : Int32)
set_option maxRecDepth 20000 in
theorem PP.bcF_d : ∀ k : Nat, k < 512 → bcF (nI k) = pc (nI k) := by decide +kernel
set_option maxRecDepth 20000 in
theorem PP.bits_d : ∀ k : Nat, k < 512 → (nI k ≠ 0 → cnt (nI k &&& (nI k - 1)) 9 + 1 = cnt (nI k) 9) ∧ (nI k = 0 → cnt (nI k) 9 = 0) ∧ (nI k &&& (nI k - 1)).toNatClampNeg < 512 ∧ nI k &&& (nI k - 1) = nI (nI k &&& (nI k - 1)).toNatClampNeg := by decide +kernel
theorem PP.c_bc (N : Nat) {a : Int32} (σ : Sg) (h : sub 9 a) : f_J6_bitCount_0f7a4 N a σ = some (pc a, σ) := by
  obtain ⟨k, hk, rfl⟩ := sub_v h
  rw [← bcF_d k hk]; rfl
theorem PP.m_bc {N : Nat} (hN : 20 < N) {a : Int32} (σ : Sg) (h : sub 9 a) : f_X12_bitsOf N a σ = some (pc a, σ) := by
  obtain ⟨k, hk, rfl⟩ := sub_v h
  unfold f_X12_bitsOf
  rw [← ev_eq, ev_b]
  refine ev_for (fun i s => ∃ j, j < 512 ∧ s = (nI i, nI j, σ) ∧ i + cnt (nI j) 9 = cnt (nI k) 9) 9 N _ (by omega) ⟨k, hk, rfl, by omega⟩ ?_ ?_
  · rintro i s hi ⟨j, hj, rfl, hc⟩
    obtain ⟨d1, d2, d3, d4⟩ := bits_d j hj
    unfold s_X12_bitsOf_h4
    by_cases h0 : nI j = 0
    · rw [if_pos h0, ev_s]
      refine Or.inr ⟨by simp, ev_s.mpr ?_⟩
      have := d2 h0
      simp only [pc]; rw [← hc, this]; rfl
    · rw [if_neg h0, ev_bd, ev_bd, ev_s]
      refine Or.inl ⟨rfl, _, d3, ?_, ?_⟩
      · rw [← d4]; simp only [nI_s]
      · rw [← d4]; have := d1 h0; omega
  · rintro s ⟨j, hj, rfl, hc⟩
    obtain ⟨d1, d2, d3, d4⟩ := bits_d j hj
    have : nI j = 0 := by
      by_cases h0 : nI j = 0
      · exact h0
      · have := d1 h0; have := cnt_le (nI k) 9; omega
    unfold s_X12_bitsOf_h4
    rw [if_pos this, ev_s]
    refine ⟨by simp, ev_s.mpr ?_⟩
    have := d2 this
    simp only [pc]; rw [← hc, this]
/-! ===== the land, the state: L 0 = farms, sight, rest, mists, length of the rule; L 1 x, 2 heights, 3 slow, 4 mist, 5 deaf, 6 rule; s 0 = tick, asleep; s 1 waiting, 2 rests, 3 nods, 4 hats ===== -/
def PP.aw (L : Sg) (a b : Nat) : Int32 := if 0 ≤ L 1 a - L 1 b then L 1 a - L 1 b else 0 - (L 1 a - L 1 b)
def PP.tp (L s : Sg) (k : Nat) : Int32 := L 2 k + s 4 k
def PP.lo (L : Sg) (a b : Nat) : Nat := if L 1 a < L 1 b then a else b
def PP.hi (L : Sg) (a b : Nat) : Nat := if L 1 a < L 1 b then b else a
def PP.inW (L : Sg) (t : Nat → Int32) (a b k : Nat) : Bool := decide (L 1 (lo L a b) < L 1 k ∧ L 1 k < L 1 (hi L a b) ∧ ¬ t k * (L 1 (hi L a b) - L 1 (lo L a b)) < t (lo L a b) * (L 1 (hi L a b) - L 1 k) + t (hi L a b) * (L 1 k - L 1 (lo L a b)))
def PP.way (F : Nat) (L : Sg) (t : Nat → Int32) (a b : Nat) : Int32 := mk (inW L t a b) F
def PP.sgt (F : Nat) (L : Sg) (t : Nat → Int32) (m : Int32) (a b : Nat) : Bool := decide (a ≠ b ∧ aw L a b ≤ L 0 1 - 9 * m ∧ way F L t a b = 0)
def PP.sees (F : Nat) (L : Sg) (t : Nat → Int32) (m : Int32) (a : Nat) : Int32 := mk (sgt F L t m a) F
def PP.mis (L : Sg) (t : Int32) : Int32 := if L 0 3 = 0 then 0 else L 4 (t - t / L 0 3 * L 0 3).toNatClampNeg
/-! the rule -/
def PP.jnd (o a b : Int32) : Int32 := if o = -8 then (if a ≠ 0 ∨ b ≠ 0 then 1 else 0) else if o = -9 then (if a ≠ 0 ∧ b ≠ 0 then 1 else 0) else if o = -10 then (if a < b then 1 else 0) else if o = -11 then (if a = b then 1 else 0) else if o = -12 then a + b else if o = -13 then a - b else if o = -14 then a * b else if b = 0 then 0 else a / b
def PP.evS (c v : Nat → Int32) : Nat → Nat × (Nat → Int32)
  | 0 => (0, fun _ => 0)
  | k + 1 =>
    let q := evS c v k
    if -6 ≤ c k then (q.1 + 1, upd q.2 q.1 (if 0 ≤ c k then c k else v (-1 - c k).toNatClampNeg))
    else if c k = -7 then (q.1, upd q.2 (q.1 - 1) (if q.2 (q.1 - 1) = 0 then 1 else 0))
    else (q.1 - 1, upd q.2 (q.1 - 2) (jnd (c k) (q.2 (q.1 - 2)) (q.2 (q.1 - 1))))
/-- how deep the stack is -/
def PP.dp (c : Nat → Int32) : Nat → Nat
  | 0 => 0
  | k + 1 => if -6 ≤ c k then dp c k + 1 else if c k = -7 then dp c k else dp c k - 1
theorem PP.evS_dp (c v : Nat → Int32) : ∀ k, (evS c v k).1 = dp c k
  | 0 => rfl
  | k + 1 => by
    have := evS_dp c v k
    unfold evS dp
    dsimp only
    split
    · simp [this]
    · split
      · exact this
      · simp [this]
def PP.RuleOK (len : Nat) (c : Nat → Int32) : Prop := len ≤ 700 ∧ ∀ k, k < len → -15 ≤ c k ∧ (-6 ≤ c k → dp c k < 31) ∧ (c k = -7 → 1 ≤ dp c k) ∧ (c k < -7 → 2 ≤ dp c k)
def PP.nst (F : Nat) (L : Sg) (f : Nat) (some : Int32) : Nat → Option Nat
  | 0 => none
  | k + 1 => if hasB some k then (match nst F L f some k with | none => Option.some k | Option.some j => if aw L k f < aw L j f then Option.some k else Option.some j) else nst F L f some k
def PP.vals (L s : Sg) (m : Int32) (f g : Nat) (set : Int32) (i : Nat) : Int32 := if i = 0 then pc set else if i = 1 then aw L g f else if i = 2 then L 2 g - L 2 f else if i = 3 then s 3 f else if i = 4 then m else s 0 0
def PP.mnd (F : Nat) (L s : Sg) (m : Int32) (f : Nat) (set : Int32) : Bool := decide (L 0 4 = 0 ∨ L 5 f = 1 ∨ 0 < (evS (L 6) (vals L s m f ((nst F L f set F).getD 0) set) (L 0 4).toNatClampNeg).2 0)
/-! a tick -/
def PP.nds (F : Nat) (s : Sg) : Int32 := mk (fun k => decide (s 1 k = 1)) F
def PP.wN (s : Sg) (k : Nat) : Int32 := if 0 < s 1 k then s 1 k - 1 else s 1 k
def PP.rN (L s : Sg) (k : Nat) : Int32 := if s 1 k = 1 then L 0 2 else if 0 < s 1 k then s 2 k else if 0 < s 2 k then s 2 k - 1 else s 2 k
def PP.nN (s : Sg) (k : Nat) : Int32 := if s 1 k = 1 then (if 999 < s 3 k + 1 then 999 else s 3 k + 1) else s 3 k
def PP.stt (t a : Int32) (w r n h : Nat → Int32) : Sg := fun c i => if c = 0 then (if i = 0 then t else a) else if c = 1 then w i else if c = 2 then r i else if c = 3 then n i else h i
def PP.sN (F : Nat) (L s : Sg) : Sg := stt (s 0 0) (s 0 1) (fun k => if k < F then wN s k else s 1 k) (fun k => if k < F then rN L s k else s 2 k) (fun k => if k < F then nN s k else s 3 k) (s 4)
def PP.starts (F : Nat) (L s : Sg) (m : Int32) (f : Nat) : Bool := decide (wN s f = 0 ∧ rN L s f = 0 ∧ ¬ hasB (s 0 1 ||| nds F s) f ∧ sees F L (tp L s) m f &&& nds F s ≠ 0 ∧ mnd F L (sN F L s) m f (sees F L (tp L s) m f &&& nds F s) = true)
def PP.tick (F : Nat) (L : Sg) (m : Int32) (s : Sg) : Sg := stt (s 0 0 + 1) (s 0 1) (fun k => if k < F ∧ starts F L s m k = true then L 3 k else sN F L s 1 k) (sN F L s 2) (sN F L s 3) (s 4)
/-! what changes, what not -/
def PP.Fr (P : List Nat) (σ σ' : Sg) : Prop := ∀ c, c ∉ P → σ' c = σ c
theorem PP.Fr.refl (P : List Nat) (σ : Sg) : Fr P σ σ := fun _ _ => rfl
theorem PP.Fr.tr {P : List Nat} {a b c : Sg} (h : Fr P a b) (k : Fr P b c) : Fr P a c := fun x hx => (k x hx).trans (h x hx)
theorem PP.Fr.mo {P Q : List Nat} {a b : Sg} (h : Fr P a b) (d : ∀ c, c ∈ P → c ∈ Q) : Fr Q a b := fun x hx => h x (fun y => hx (d x y))
theorem PP.Fr.wr {P : List Nat} {a b : Sg} {k j : Nat} {v : Int32} (h : Fr P a b) (d : k ∈ P) : Fr P a (wr b k j v) := fun x hx => (wr_n (fun e : x = k => hx (by rw [e]; exact d))).trans (h x hx)
theorem PP.Fr.wrR {P : List Nat} {a b : Sg} {k : Nat} {f : Nat → Int32} (h : Fr P a b) (d : k ∈ P) : Fr P a (wrR b k f) := fun x hx => (wrR_n (fun e : x = k => hx (by rw [e]; exact d))).trans (h x hx)
/-! the class's cells -/
def PP.LC (F : Nat) (L σ : Sg) : Prop := F ≤ 9 ∧ σ 12 0 = nI F ∧ σ 12 6 = L 0 1 ∧ σ 12 7 = L 0 2 ∧ σ 12 8 = L 0 3 ∧ σ 18 0 = L 0 4 ∧ (∀ i, i < F → σ 13 i = L 1 i ∧ σ 14 i = L 2 i ∧ σ 16 i = L 3 i ∧ (hasB (σ 12 5) i ↔ L 5 i = 1)) ∧ (∀ i, i < (L 0 3).toNatClampNeg → σ 17 i = L 4 i) ∧ (∀ i, i < (L 0 4).toNatClampNeg → σ 19 i = L 6 i)
theorem PP.LC.fr {F : Nat} {L σ σ' : Sg} {P : List Nat} (h : LC F L σ) (f : Fr P σ σ') (d : ∀ c, c ∈ [12, 13, 14, 16, 17, 18, 19] → c ∉ P) : LC F L σ' := by
  unfold LC at h ⊢
  rw [f 12 (d 12 (by simp)), f 13 (d 13 (by simp)), f 14 (d 14 (by simp)), f 16 (d 16 (by simp)), f 17 (d 17 (by simp)), f 18 (d 18 (by simp)), f 19 (d 19 (by simp))]
  exact h
def PP.SC (b F : Nat) (s σ : Sg) : Prop := σ b 0 = s 0 0 ∧ σ b 1 = s 0 1 ∧ (∀ i, i < F → σ (b + 1) i = s 1 i ∧ σ (b + 2) i = s 2 i ∧ σ (b + 3) i = s 3 i ∧ σ (b + 4) i = s 4 i) ∧ ∀ i, F ≤ i → i < 9 → σ (b + 1) i = 0
theorem PP.SC.fr {b F : Nat} {s σ σ' : Sg} {P : List Nat} (h : SC b F s σ) (f : Fr P σ σ') (d : ∀ c, c ∈ [b, b + 1, b + 2, b + 3, b + 4] → c ∉ P) : SC b F s σ' := by
  unfold SC at h ⊢
  rw [f b (d b (by simp)), f (b + 1) (d _ (by simp)), f (b + 2) (d _ (by simp)), f (b + 3) (d _ (by simp)), f (b + 4) (d _ (by simp))]
  exact h
/-- tops and rows of a Sight -/
def PP.RC (b F : Nat) (L : Sg) (t : Nat → Int32) (σ : Sg) : Prop := (∀ i, i < F → σ (b + 1) i = t i) ∧ ∀ m i, m < 10 → i < F → σ (b + 2) (m * 9 + i) = sees F L t (nI m) i
theorem PP.RC.fr {b F : Nat} {L σ σ' : Sg} {t : Nat → Int32} {P : List Nat} (h : RC b F L t σ) (f : Fr P σ σ') (d : ∀ c, c ∈ [b + 1, b + 2] → c ∉ P) : RC b F L t σ' := by
  unfold RC at h ⊢
  rw [f (b + 1) (d _ (by simp)), f (b + 2) (d _ (by simp))]
  exact h
def PP.LandOK (F : Nat) (L : Sg) : Prop := F ≤ 9 ∧ L 0 0 = nI F ∧ (1 ≤ L 0 1 ∧ L 0 1 ≤ 99) ∧ (0 ≤ L 0 2 ∧ L 0 2 ≤ 9) ∧ (0 ≤ L 0 3 ∧ L 0 3 ≤ 8) ∧ (0 ≤ L 0 4 ∧ RuleOK (L 0 4).toNatClampNeg (L 6)) ∧ (∀ i, i < F → (0 ≤ L 1 i ∧ L 1 i ≤ 99) ∧ (0 ≤ L 2 i ∧ L 2 i ≤ 99) ∧ (1 ≤ L 3 i ∧ L 3 i ≤ 5) ∧ (L 5 i = 0 ∨ L 5 i = 1)) ∧ (∀ i, i < (L 0 3).toNatClampNeg → 0 ≤ L 4 i ∧ L 4 i ≤ 9) ∧ ∀ i j, i < F → j < F → L 1 i = L 1 j → i = j
def PP.StOK (F : Nat) (s : Sg) : Prop := (0 ≤ s 0 0 ∧ s 0 0 ≤ 2000) ∧ sub F (s 0 1) ∧ ∀ i, i < F → (0 ≤ s 1 i ∧ s 1 i ≤ 5) ∧ (0 ≤ s 2 i ∧ s 2 i ≤ 9) ∧ (0 ≤ s 3 i ∧ s 3 i ≤ 999) ∧ (0 ≤ s 4 i ∧ s 4 i ≤ 20) ∧ (hasB (s 0 1) i → s 1 i = 0)
