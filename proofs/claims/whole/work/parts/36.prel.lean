/-! ===== the relation: farms, land, book (state, acts, what was seen, refusals), image, text, fault ===== -/
abbrev PP.Bo : Type := Sg × Nat × (Nat → Sg) × Nat × Sg × (Nat → Int32)
abbrev PP.Ab : Type := Nat × Sg × Bo × Option Bo × Nat × (Nat → Int32) × Int32
def PP.rowC (F : Nat) (s : Sg) (row : Nat → Int32) (b : Nat) : Prop := row b = s 0 0 ∧ row (b + 1) = s 0 1 ∧ (∀ i, i < F → row (b + 2 + 4 * i) = s 1 i ∧ row (b + 2 + 4 * i + 1) = s 2 i ∧ row (b + 2 + 4 * i + 2) = s 3 i ∧ row (b + 2 + 4 * i + 3) = s 4 i) ∧ ∀ i, F ≤ i → i < 9 → row (b + 2 + 4 * i) = 0
/-- the acts in a ring: the oldest first -/
def PP.AC (c F A : Nat) (h : Nat → Sg) (σ : Sg) : Prop := σ c 0 = nI A ∧ ∃ nx, nx < 40 ∧ σ c 1 = nI nx ∧ ∀ j, j < A → rowC F (h j) (σ (c + 1)) (38 * ((nx + 40 - A + j) % 40))
def PP.KC (c K : Nat) (q σ : Sg) : Prop := σ c 0 = nI K ∧ ∀ j, j < K → σ (c + 1) j = q 0 j ∧ σ (c + 2) j = q 1 j ∧ σ (c + 3) j = q 2 j
def PP.BC (b F : Nat) (B : Bo) (σ : Sg) : Prop := SC (b + 1) F B.1 σ ∧ AC (b + 6) F B.2.1 B.2.2.1 σ ∧ KC (b + 8) B.2.2.2.1 B.2.2.2.2.1 σ ∧ ∀ j, j < 3 → σ (b + 12) j = B.2.2.2.2.2 j
def PP.BookOK (F : Nat) (B : Bo) : Prop := (StOK F B.1 ∧ B.1 0 0 ≤ 999) ∧ (B.2.1 ≤ 40 ∧ ∀ j, j < B.2.1 → StOK F (B.2.2.1 j) ∧ B.2.2.1 j 0 0 ≤ 999) ∧ B.2.2.2.1 ≤ 8 ∧ ∀ j, j < B.2.2.2.1 → (∃ f, f < F ∧ B.2.2.2.2.1 0 j = nI f) ∧ (∃ k, k < 20 ∧ B.2.2.2.2.1 1 j = nI (k + 1)) ∧ (B.2.2.2.2.1 2 j = 0 ∨ B.2.2.2.2.1 2 j = 1)
def PP.OKa (a : Ab) : Prop := LandOK a.1 a.2.1 ∧ BookOK a.1 a.2.2.1 ∧ (∀ B, a.2.2.2.1 = some B → BookOK a.1 B) ∧ a.2.2.2.2.1 ≤ 700 ∧ a.2.2.2.2.1 % 20 = 0 ∧ ∀ i, i < a.2.2.2.2.1 → ∃ k, k < 256 ∧ a.2.2.2.2.2.1 i = nI k
/-- a byte as the class keeps it -/
def PP.byC (x : Int32) (y : Int32) : Prop := x &&& 255 = y ∧ -128 ≤ x ∧ x ≤ 127
def PP.TC (n : Nat) (t : Nat → Int32) (p : Int32) (σ : Sg) : Prop := σ 0 1 = nI n ∧ (∀ i, i < n → byC (σ 1 i) (t i)) ∧ σ 2 2 = p
def PP.IC (F : Nat) (o : Option Bo) (σ : Sg) : Prop := match o with | none => σ 0 6 = 0 | some B => σ 0 6 = 1 ∧ BC 34 F B σ
def PP.RlC (a : Ab) (σ : Sg) : Prop := LC a.1 a.2.1 σ ∧ BC 21 a.1 a.2.2.1 σ ∧ RC 47 a.1 a.2.1 (tp a.2.1 a.2.2.1.1) σ ∧ IC a.1 a.2.2.2.1 σ ∧ TC a.2.2.2.2.1 a.2.2.2.2.2.1 a.2.2.2.2.2.2 σ
def PP.AM (F A : Nat) (h : Nat → Sg) (row : Nat → Int32) : Prop := ∀ j, j < A → rowM F (h j) row (38 * j)
def PP.KM (K : Nat) (q : Sg) (a b c : Nat → Int32) : Prop := ∀ j, j < K → a j = q 0 j ∧ b j = q 1 j ∧ c j = q 2 j
def PP.BM (F : Nat) (B : Bo) (τ : Sg) : Prop := SM F B.1 τ ∧ τ 0 30 = nI B.2.1 ∧ AM F B.2.1 B.2.2.1 (τ 17) ∧ τ 0 31 = nI B.2.2.2.1 ∧ KM B.2.2.2.1 B.2.2.2.2.1 (τ 24) (τ 25) (τ 27) ∧ ∀ j, j < 3 → τ 11 j = B.2.2.2.2.2 j
def PP.BI (F : Nat) (B : Bo) (τ : Sg) : Prop := rowM F B.1 (τ 30) 0 ∧ τ 0 49 = nI B.2.1 ∧ AM F B.2.1 B.2.2.1 (τ 31) ∧ τ 0 50 = nI B.2.2.2.1 ∧ KM B.2.2.2.1 B.2.2.2.2.1 (τ 32) (τ 33) (τ 35) ∧ ∀ j, j < 3 → τ 34 j = B.2.2.2.2.2 j
def PP.TM (n : Nat) (t : Nat → Int32) (p : Int32) (τ : Sg) : Prop := τ 0 13 = nI n ∧ (∀ i, i < n → τ 12 i = t i) ∧ τ 0 22 = p
def PP.IM (F : Nat) (o : Option Bo) (τ : Sg) : Prop := match o with | none => τ 0 48 = 0 | some B => τ 0 48 = 1 ∧ BI F B τ
def PP.RlM (a : Ab) (τ : Sg) : Prop := LM a.1 a.2.1 τ ∧ BM a.1 a.2.2.1 τ ∧ τ 0 32 = -1 ∧ IM a.1 a.2.2.2.1 τ ∧ TM a.2.2.2.2.1 a.2.2.2.2.2.1 a.2.2.2.2.2.2 τ
def PP.Rl (σ τ : Sg) : Prop := ∃ a, OKa a ∧ RlC a σ ∧ RlM a τ
theorem PP.BC.fr {b F : Nat} {B : Bo} {σ σ' : Sg} {P : List Nat} (h : BC b F B σ) (f : Fr P σ σ') (d : ∀ c, c ∈ [b + 1, b + 2, b + 3, b + 4, b + 5, b + 6, b + 7, b + 8, b + 9, b + 10, b + 11, b + 12] → c ∉ P) : BC b F B σ' := by
  obtain ⟨h1, h2, h3, h4⟩ := h
  refine ⟨h1.fr f (fun c hc => d c ?_), ?_, ?_, ?_⟩
  · simp only [List.mem_cons, List.not_mem_nil, or_false] at hc ⊢; omega
  · unfold AC at h2 ⊢
    rw [f (b + 6) (d _ (by simp)), f (b + 6 + 1) (d _ (by simp))]; exact h2
  · unfold KC at h3 ⊢
    rw [f (b + 8) (d _ (by simp)), f (b + 8 + 1) (d _ (by simp)), f (b + 8 + 2) (d _ (by simp)), f (b + 8 + 3) (d _ (by simp))]; exact h3
  · rw [f (b + 12) (d _ (by simp))]; exact h4
theorem PP.IC.fr {F : Nat} {o : Option Bo} {σ σ' : Sg} {P : List Nat} (h : IC F o σ) (f : Fr P σ σ') (d0 : 0 ∉ P) (d : ∀ c, c ∈ [34 + 1, 34 + 2, 34 + 3, 34 + 4, 34 + 5, 34 + 6, 34 + 7, 34 + 8, 34 + 9, 34 + 10, 34 + 11, 34 + 12] → c ∉ P) : IC F o σ' := by
  cases o with
  | none => unfold IC at h ⊢; rw [f 0 d0]; exact h
  | some B => unfold IC at h ⊢; rw [f 0 d0]; exact ⟨h.1, h.2.fr f d⟩
/-- the class's cells that a question leaves alone -/
def PP.qC : List Nat := [20, 51, 52, 54, 55, 56, 57, 58, 59, 60, 61, 62, 63, 64]
theorem PP.RlC.q {a : Ab} {σ σ' : Sg} (h : RlC a σ) (f : Fr qC σ σ') : RlC a σ' := by
  obtain ⟨h1, h2, h3, h4, h5⟩ := h
  refine ⟨h1.fr f (by decide), h2.fr f (by decide), h3.fr f (by decide), ?_, ?_⟩
  · exact h4.fr f (by decide) (by decide)
  · unfold TC at h5 ⊢
    rw [f 0 (by decide), f 1 (by decide), f 2 (by decide)]; exact h5
theorem PP.IM.fr {F : Nat} {o : Option Bo} {τ τ' : Sg} {P Q : List Nat} (h : IM F o τ) (f : FM P Q τ τ') (d : ∀ c, c ∈ [30, 31, 32, 33, 34, 35] → c ∉ P) (d' : ∀ c, c ∈ [48, 49, 50] → c ∉ Q) : IM F o τ' := by
  cases o with
  | none => unfold IM at h ⊢; rw [f.2 48 (d' 48 (by simp))]; exact h
  | some B =>
    unfold IM BI at h ⊢
    rw [f.2 48 (d' 48 (by simp)), f.2 49 (d' 49 (by simp)), f.2 50 (d' 50 (by simp)), f.1 30 (by decide) (d 30 (by simp)), f.1 31 (by decide) (d 31 (by simp)), f.1 32 (by decide) (d 32 (by simp)), f.1 33 (by decide) (d 33 (by simp)), f.1 34 (by decide) (d 34 (by simp)), f.1 35 (by decide) (d 35 (by simp))]
    exact h
def PP.qM : List Nat := [13, 14, 15, 16, 18, 19, 20, 21, 22, 23, 26, 28, 29]
def PP.qF : List Nat := [2, 28, 29, 32, 35, 44, 47]
theorem PP.RlM.q {a : Ab} {τ τ' : Sg} (h : RlM a τ) (f : FM qM qF τ τ') (hs : SM a.1 a.2.2.1.1 τ') (h32 : τ' 0 32 = -1) : RlM a τ' := by
  obtain ⟨h1, ⟨b1, b2, b3, b4, b5, b6⟩, h3, h4, h5⟩ := h
  refine ⟨h1.fr f (by decide), ⟨hs, ?_, ?_, ?_, ?_, ?_⟩, h32, ?_, ?_⟩
  · rw [f.2 30 (by decide)]; exact b2
  · rw [f.1 17 (by decide) (by decide)]; exact b3
  · rw [f.2 31 (by decide)]; exact b4
  · rw [f.1 24 (by decide) (by decide), f.1 25 (by decide) (by decide), f.1 27 (by decide) (by decide)]; exact b5
  · rw [f.1 11 (by decide) (by decide)]; exact b6
  · exact h4.fr f (by decide) (by decide)
  · unfold TM at h5 ⊢
    rw [f.2 13 (by decide), f.2 22 (by decide), f.1 12 (by decide) (by decide)]; exact h5
/-- nothing but the code and other fields of no weight has changed -/
theorem PP.RlM.q0 {a : Ab} {τ τ' : Sg} (h : RlM a τ) (f : FM [18, 19, 20, 21, 22, 23, 26, 28, 29] [2, 35, 44, 47] τ τ') : RlM a τ' := by
  refine h.q (f.mo (by decide) (by decide)) (h.2.1.1.fr f (by decide) (by decide)) ?_
  rw [f.2 32 (by decide)]; exact h.2.2.1
theorem PP.RlM.code {a : Ab} {τ : Sg} (h : RlM a τ) (v : Int32) : RlM a (wr τ 0 2 v) := h.q0 ((FM.refl _ _ _).w0 (by decide))
/-! ===== what both sides ask first ===== -/
theorem PP.i64_le (x y : Int32) : x.toInt64 ≤ y.toInt64 ↔ x ≤ y := by
  rw [Int64.le_iff_toInt_le, Int32.le_iff_toInt_le, Int32.toInt_toInt64, Int32.toInt_toInt64]
theorem PP.i64_lt (x y : Int32) : x.toInt64 < y.toInt64 ↔ x < y := by
  rw [Int64.lt_iff_toInt_lt, Int32.lt_iff_toInt_lt, Int32.toInt_toInt64, Int32.toInt_toInt64]
theorem PP.lgc_lt (x y : Int64) : lg_cmp x y < 0 ↔ x < y := by
  unfold lg_cmp
  by_cases h1 : x > y
  · rw [if_pos h1]
    rw [gt_iff_lt, Int64.lt_iff_toInt_lt] at h1
    rw [Int64.lt_iff_toInt_lt]
    constructor
    · intro h; exact absurd h (by decide)
    · intro h; omega
  · rw [if_neg h1]
    by_cases h2 : x = y
    · rw [if_pos h2, h2, Int64.lt_iff_toInt_lt]
      constructor
      · intro h; exact absurd h (by decide)
      · intro h; omega
    · rw [if_neg h2]
      rw [gt_iff_lt, Int64.lt_iff_toInt_lt] at h1
      rw [← Int64.toInt_inj] at h2
      rw [Int64.lt_iff_toInt_lt]
      constructor
      · intro h; omega
      · intro h; decide
theorem PP.lgc_gt (x y : Int64) : 0 < lg_cmp x y ↔ y < x := by
  unfold lg_cmp
  by_cases h1 : x > y
  · rw [if_pos h1]
    exact ⟨fun _ => h1, fun _ => by decide⟩
  · rw [if_neg h1]
    refine ⟨fun h => ?_, fun h => absurd h h1⟩
    split at h <;> exact absurd h (by decide)
theorem PP.m_isIn {N : Nat} {x y z : Int32} {τ : Sg} : f_X12_isIn N x.toInt64 y.toInt64 z.toInt64 τ = some ((if y ≤ x ∧ x ≤ z then 1 else 0), τ) := by
  unfold f_X12_isIn f_X12_isIn_b17
  simp only [lgc_lt, lgc_gt, i64_lt]
  by_cases h1 : x < y
  · have : ¬ y ≤ x := by grind
    simp [h1, this]
  · have h1' : y ≤ x := by grind
    by_cases h2 : z < x
    · have : ¬ x ≤ z := by grind
      simp [h1, h2, this]
    · have : x ≤ z := by grind
      simp [h1, h1', h2, this]
theorem PP.m_isFarm {N F : Nat} {x : Int32} {τ : Sg} (hF : F ≤ 9) (h : τ 3 0 = nI F) : f_X12_isFarm N x τ = some ((if 0 ≤ x ∧ x < nI F then 1 else 0), τ) := by
  unfold f_X12_isFarm
  rw [h, show (0 : Int64) = (0 : Int32).toInt64 from rfl, m_isIn, Option.bind_some]
  have e : (x ≤ nI F - 1) ↔ x < nI F := by
    have h1 := nI_n0 (show F < 2147483648 by omega)
    have h2 : nI F ≤ nI 9 := (nI_le (by omega) (by omega)).mpr hF
    rw [show nI 9 = 9 from rfl] at h2
    grind
  simp only [e]
  by_cases hc : 0 ≤ x ∧ x < nI F
  · simp [hc]
  · simp [hc]
theorem PP.c_farm {N F : Nat} {x : Int32} {σ : Sg} (hF : F ≤ 9) (h : σ 12 0 = nI F) : f_X11_needFarm_0 N x σ = some ((if 0 ≤ x ∧ x < nI F then 0 else 1), 0, σ) := by
  unfold f_X11_needFarm_0 f_X11_needFarm_0_b21
  rw [h]
  have h2 : nI F ≤ nI 9 := (nI_le (by omega) (by omega)).mpr hF
  rw [show nI 9 = 9 from rfl] at h2
  by_cases h0 : x < 0
  · have : ¬ 0 ≤ x := by grind
    simp [h0, this]
  · have h0' : 0 ≤ x := by grind
    by_cases h1 : nI F ≤ x
    · have : ¬ x < nI F := by grind
      simp [h0, h1, this]
    · have h3 : x < nI F := by grind
      have h4 : x < 9 := by grind
      simp [h0, h0', h1, h3, h4]
theorem PP.c_what {N : Nat} {x y : Int32} {σ : Sg} : f_X11_needWhat N x y σ = some ((if 0 ≤ x ∧ x ≤ y then 0 else 1), 0, σ) := by
  unfold f_X11_needWhat f_X11_needWhat_b9
  by_cases h0 : x < 0
  · have : ¬ 0 ≤ x := by grind
    simp [h0, this]
  · have h0' : 0 ≤ x := by grind
    by_cases h1 : x ≤ y <;> simp [h0, h0', h1]
theorem PP.c_within {N : Nat} {x y z : Int32} {σ : Sg} : f_X11_needWithin N x y z σ = some ((if y ≤ x ∧ x ≤ z then 0 else 2), 0, σ) := by
  unfold f_X11_needWithin f_X11_needWithin_b10
  by_cases h0 : x < y
  · have : ¬ y ≤ x := by grind
    simp [h0, this]
  · have h0' : y ≤ x := by grind
    by_cases h1 : x ≤ z <;> simp [h0, h0', h1]
theorem PP.c_farms {N F : Nat} {x y : Int32} {σ : Sg} (hF : F ≤ 9) (h : σ 12 0 = nI F) : f_X11_needFarms_0 N x y σ = some ((if (0 ≤ x ∧ x < nI F) ∧ 0 ≤ y ∧ y < nI F then 0 else 1), 0, σ) := by
  unfold f_X11_needFarms_0
  rw [c_farm hF h, Option.bind_some]
  by_cases h1 : 0 ≤ x ∧ x < nI F
  · simp only [h1, and_self, if_true, c_farm hF h, Option.bind_some, true_and]
    by_cases h2 : 0 ≤ y ∧ y < nI F <;> simp [h2]
  · simp [h1]
theorem PP.farm_n {F : Nat} {x : Int32} (hF : F ≤ 9) (h : 0 ≤ x ∧ x < nI F) : ∃ f, f < F ∧ x = nI f := nI_ofb (by omega) h.1 h.2
/-! ===== how an op is put together ===== -/
theorem PP.okZ {a : Ab} {cC : Nat} {cM r : Int32} {o : Option Zt} {p : Option (Int32 × Sg)} {D : Nat → Int32 → Prop} (ho : OKa a) (hD : D cC cM) (h1 : Ev o (fun z => z.1 = cC ∧ (cC = 0 → z.2.1 = r) ∧ RlC a z.2.2)) (h2 : Ev p (fun q => q.2 0 2 = cM ∧ (cC = 0 → q.1 = r) ∧ RlM a q.2)) : ∃ (z : Zt) (r : Int32) (τ' : Sg), o = some z ∧ p = some (r, τ') ∧ D z.1 (τ' 0 2) ∧ (z.1 = 0 → z.2.1 = r) ∧ Rl z.2.2 τ' := by
  obtain ⟨z, e1, a1, a2, a3⟩ := h1
  obtain ⟨⟨q, τ'⟩, e2, b1, b2, b3⟩ := h2
  refine ⟨z, q, τ', e1, e2, ?_, ?_, ⟨a, ho, a3, b3⟩⟩
  · rw [a1]; dsimp only at b1; rw [b1]; exact hD
  · intro h0
    rw [a1] at h0
    rw [a2 h0]; exact (b2 h0).symm
theorem PP.okI {a : Ab} {r : Int32} {o : Option (Int32 × Sg)} {p : Option (Int32 × Sg)} (ho : OKa a) (h1 : Ev o (fun z => z.1 = r ∧ RlC a z.2)) (h2 : Ev p (fun q => q.1 = r ∧ RlM a q.2)) : ∃ (r : Int32) (σ' τ' : Sg), o = some (r, σ') ∧ p = some (r, τ') ∧ Rl σ' τ' := by
  obtain ⟨⟨z, σ'⟩, e1, a1, a3⟩ := h1
  obtain ⟨⟨q, τ'⟩, e2, b1, b3⟩ := h2
  dsimp only at a1 a3 b1 b3
  subst a1 b1
  exact ⟨_, σ', τ', e1, e2, ⟨a, ho, a3, b3⟩⟩
theorem PP.okV {a : Ab} {o : Option Sg} {p : Option Sg} (ho : OKa a) (h1 : Ev o (fun z => RlC a z)) (h2 : Ev p (fun q => RlM a q)) : ∃ (σ' τ' : Sg), o = some σ' ∧ p = some τ' ∧ Rl σ' τ' := by
  obtain ⟨σ', e1, a3⟩ := h1
  obtain ⟨τ', e2, b3⟩ := h2
  exact ⟨σ', τ', e1, e2, ⟨a, ho, a3, b3⟩⟩
