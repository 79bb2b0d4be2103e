/-! ===== acts are kept ===== -/
def PP.pA (A : Nat) : Nat := if A = 40 then 40 else A + 1
def PP.pH (s : Sg) (A : Nat) (h : Nat → Sg) : Nat → Sg := fun j => if A = 40 then (if j = 39 then s else h (j + 1)) else (if j = A then s else h j)
theorem PP.rowC.cg {F b : Nat} {s : Sg} {r r' : Nat → Int32} (h : rowC F s r b) (hF : F ≤ 9) (e : ∀ j, b ≤ j → j < b + 38 → r' j = r j) : rowC F s r' b := by
  obtain ⟨h0, h1, h2, h3⟩ := h
  refine ⟨?_, ?_, ?_, ?_⟩
  · rw [e b (by omega) (by omega)]; exact h0
  · rw [e (b + 1) (by omega) (by omega)]; exact h1
  · intro i hi
    rw [e (b + 2 + 4 * i) (by omega) (by omega), e (b + 2 + 4 * i + 1) (by omega) (by omega), e (b + 2 + 4 * i + 2) (by omega) (by omega), e (b + 2 + 4 * i + 3) (by omega) (by omega)]
    exact h2 i hi
  · intro i hi h9
    rw [e (b + 2 + 4 * i) (by omega) (by omega)]; exact h3 i hi h9
theorem PP.rowM.sh {F b d : Nat} {s : Sg} {r r' : Nat → Int32} (h : rowM F s r (b + d)) (hF : F ≤ 9) (e : ∀ j, b ≤ j → j < b + 38 → r' j = r (j + d)) : rowM F s r' b := by
  obtain ⟨h0, h1, h2⟩ := h
  refine ⟨?_, ?_, ?_⟩
  · rw [e b (by omega) (by omega)]; exact h0
  · rw [e (b + 1) (by omega) (by omega), show b + 1 + d = b + d + 1 by omega]; exact h1
  · intro i hi
    rw [e (b + 2 + i) (by omega) (by omega), e (b + 11 + i) (by omega) (by omega), e (b + 20 + i) (by omega) (by omega), e (b + 29 + i) (by omega) (by omega), show b + 2 + i + d = b + d + 2 + i by omega, show b + 11 + i + d = b + d + 11 + i by omega, show b + 20 + i + d = b + d + 20 + i by omega, show b + 29 + i + d = b + d + 29 + i by omega]
    exact h2 i hi
theorem PP.c_store {N b : Nat} {σ : Sg} (hN : 20 < N) (hb : b + 38 ≤ 1520) : Ev (f_X7_store_22_28 N (nI b) σ) (fun σ' => (∀ F s, F ≤ 9 → SC 22 F s σ → rowC F s (σ' 28) b) ∧ (∀ j, j < b ∨ b + 38 ≤ j → σ' 28 j = σ 28 j) ∧ Fr [28] σ σ') := by
  unfold f_X7_store_22_28
  rw [if_neg (nI_nn (by omega)), if_pos (by rw [show (1520 : Int32) - 38 = nI 1482 from rfl, nI_le (by omega) (by omega)]; omega)]
  simp (disch := omega) only [nI_s, nI_g, if_false]
  simp (disch := omega) only [nI_cl, ev_bd, wr_n (show (22 : Nat) ≠ 28 by decide)]
  rw [ev_b]
  refine ev_lp (fun k q => q.1 = nI k ∧ Fr [28] σ q.2 ∧ (∀ j, j < b ∨ b + 38 ≤ j → q.2 28 j = σ 28 j) ∧ q.2 28 b = σ 22 0 ∧ q.2 28 (b + 1) = σ 22 1 ∧ ∀ i, i < k → q.2 28 (b + 2 + 4 * i) = σ 23 i ∧ q.2 28 (b + 2 + 4 * i + 1) = σ 24 i ∧ q.2 28 (b + 2 + 4 * i + 2) = σ 25 i ∧ q.2 28 (b + 2 + 4 * i + 3) = σ 26 i) 9 N _ (by omega) ⟨rfl, ((Fr.refl _ _).wr (by decide)).wr (by decide), ?_, ?_, ?_, fun i hi => absurd hi (by omega)⟩ ?_
  · intro j hj; simp (disch := omega) only [wr_eq, iN, iE, if_true]
  · simp (disch := omega) only [wr_eq, iN, iE, if_true]
  · simp (disch := omega) only [wr_eq, iN, iE, if_true]
  rintro k ⟨a, σ'⟩ hk ⟨e, hf, ho, h0, h1, hi⟩
  dsimp only at e hf ho h0 h1 hi
  subst e
  unfold s_X7_store_22_28_h32
  dsimp only
  by_cases hk9 : k = 9
  · subst hk9
    rw [if_pos (by decide), ev_s]
    refine Or.inr ⟨Nat.one_ne_zero, ev_s.mpr ⟨?_, ho, hf⟩⟩
    rintro F s hF ⟨s0, s1, sx, sz⟩
    refine ⟨h0.trans s0, h1.trans s1, ?_, ?_⟩
    · intro i hiF
      have a1 := hi i (by omega)
      have a2 := sx i hiF
      dsimp only
      rw [a1.1, a1.2.1, a1.2.2.1, a1.2.2.2]
      exact a2
    · intro i hiF h9
      dsimp only
      rw [(hi i h9).1]
      exact sz i hiF h9
  · refine Ev.imp (P := fun r => r.1 = 0 ∧ _) ?_ (fun r h => Or.inl ⟨h.1, by omega, h.2⟩)
    rw [if_neg (by rw [show (9 : Int32) = nI 9 from rfl, nI_le (by omega) (by omega)]; omega)]
    simp (disch := omega) only [show (1 : Int32) = nI 1 from rfl, show (2 : Int32) = nI 2 from rfl, show (3 : Int32) = nI 3 from rfl, show (4 : Int32) = nI 4 from rfl, nI_mul, nI_add, nI_g, if_false, ev_bd]
    simp (disch := omega) only [nI_cl, ev_s, wr_n (show (24 : Nat) ≠ 28 by decide), wr_n (show (25 : Nat) ≠ 28 by decide), wr_n (show (26 : Nat) ≠ 28 by decide), hf 23 (by decide), hf 24 (by decide), hf 25 (by decide), hf 26 (by decide)]
    refine ⟨by trivial, by trivial, (((hf.wr (by decide)).wr (by decide)).wr (by decide)).wr (by decide), ?_, ?_, ?_, ?_⟩
    · intro j hj; simp (disch := omega) only [wr_eq, iN, iE, if_true]; exact ho j hj
    · simp (disch := omega) only [wr_eq, iN, iE, if_true]; exact h0
    · simp (disch := omega) only [wr_eq, iN, iE, if_true]; exact h1
    · intro i hik
      by_cases h : i = k
      · subst h
        refine ⟨?_, ?_, ?_, ?_⟩ <;> simp (disch := omega) only [wr_eq, iN, iE, if_true]
      · have h' := hi i (by omega)
        refine ⟨?_, ?_, ?_, ?_⟩ <;> simp (disch := omega) only [wr_eq, iN, iE, if_true, h']
theorem PP.c_load {N b : Nat} {σ : Sg} (hN : 20 < N) (hb : b + 38 ≤ 1520) : Ev (f_X7_load_22_28 N (nI b) σ) (fun σ' => (∀ F s, F ≤ 9 → rowC F s (σ 28) b → SC 22 F s σ') ∧ Fr [22, 23, 24, 25, 26] σ σ') := by
  unfold f_X7_load_22_28
  rw [if_neg (nI_nn (by omega)), if_pos (by rw [show (1520 : Int32) - 38 = nI 1482 from rfl, nI_le (by omega) (by omega)]; omega)]
  simp (disch := omega) only [nI_s, nI_g, if_false]
  simp (disch := omega) only [nI_cl, ev_bd, wr_n (show (28 : Nat) ≠ 22 by decide)]
  rw [ev_b]
  refine ev_lp (fun k q => q.1 = nI k ∧ Fr [22, 23, 24, 25, 26] σ q.2 ∧ q.2 22 0 = σ 28 b ∧ q.2 22 1 = σ 28 (b + 1) ∧ ∀ i, i < k → q.2 23 i = σ 28 (b + 2 + 4 * i) ∧ q.2 24 i = σ 28 (b + 2 + 4 * i + 1) ∧ q.2 25 i = σ 28 (b + 2 + 4 * i + 2) ∧ q.2 26 i = σ 28 (b + 2 + 4 * i + 3)) 9 N _ (by omega) ⟨rfl, ((Fr.refl _ _).wr (by decide)).wr (by decide), ?_, ?_, fun i hi => absurd hi (by omega)⟩ ?_
  · simp (disch := omega) only [wr_eq, iN, iE, if_true]
  · simp (disch := omega) only [wr_eq, iN, iE, if_true]
  rintro k ⟨a, σ'⟩ hk ⟨e, hf, h0, h1, hi⟩
  dsimp only at e hf h0 h1 hi
  subst e
  unfold s_X7_load_22_28_h32
  dsimp only
  by_cases hk9 : k = 9
  · subst hk9
    rw [if_pos (by decide), ev_s]
    refine Or.inr ⟨Nat.one_ne_zero, ev_s.mpr ⟨?_, hf⟩⟩
    rintro F s hF ⟨s0, s1, sx, sz⟩
    refine ⟨h0.trans s0, h1.trans s1, ?_, ?_⟩
    · intro i hiF
      have a1 := hi i (by omega)
      have a2 := sx i hiF
      dsimp only [Nat.reduceAdd]
      rw [a1.1, a1.2.1, a1.2.2.1, a1.2.2.2]
      exact a2
    · intro i hiF h9
      dsimp only [Nat.reduceAdd]
      rw [(hi i h9).1]
      exact sz i hiF h9
  · refine Ev.imp (P := fun r => r.1 = 0 ∧ _) ?_ (fun r h => Or.inl ⟨h.1, by omega, h.2⟩)
    rw [if_neg (by rw [show (9 : Int32) = nI 9 from rfl, nI_le (by omega) (by omega)]; omega)]
    simp (disch := omega) only [show (1 : Int32) = nI 1 from rfl, show (2 : Int32) = nI 2 from rfl, show (3 : Int32) = nI 3 from rfl, show (4 : Int32) = nI 4 from rfl, nI_mul, nI_add, nI_g, if_false, ev_bd]
    simp (disch := omega) only [nI_cl, ev_s, wr_n (show (28 : Nat) ≠ 23 by decide), wr_n (show (28 : Nat) ≠ 24 by decide), wr_n (show (28 : Nat) ≠ 25 by decide), hf 28 (by decide)]
    refine ⟨by trivial, by trivial, (((hf.wr (by decide)).wr (by decide)).wr (by decide)).wr (by decide), ?_, ?_, ?_⟩
    · simp (disch := omega) only [wr_eq, iN, iE, if_true]; exact h0
    · simp (disch := omega) only [wr_eq, iN, iE, if_true]; exact h1
    · intro i hik
      by_cases h : i = k
      · subst h
        refine ⟨?_, ?_, ?_, ?_⟩ <;> simp (disch := omega) only [wr_eq, iN, iE, if_true]
      · have h' := hi i (by omega)
        refine ⟨?_, ?_, ?_, ?_⟩ <;> simp (disch := omega) only [wr_eq, iN, iE, if_true, h']
theorem PP.c_keep {N F A : Nat} {h : Nat → Sg} {s σ : Sg} (hN : 20 < N) (hF : F ≤ 9) (hA : A ≤ 40) (hs : SC 22 F s σ) (ha : AC 27 F A h σ) : Ev (f_X0_keep_27_22 N σ) (fun σ' => AC 27 F (pA A) (pH s A h) σ' ∧ Fr [27, 28] σ σ') := by
  obtain ⟨a0, nx, hx, a1, ar⟩ := ha
  unfold f_X0_keep_27_22
  rw [a1, show (38 : Int32) = nI 38 from rfl, nI_mul]
  refine (c_store (by omega) (by omega)).bind ?_
  rintro σ1 ⟨hr, ho, hf⟩
  have e27 := hf 27 (by decide)
  rw [ev_bd, ev_bd, ev_s]
  have v1 : (nI nx + 1) - (nI nx + 1) / 40 * 40 = nI ((nx + 1) % 40) := by
    rw [nI_s, show (40 : Int32) = nI 40 from rfl, nI_mod (by omega) (by omega)]
  have v0 : (if (40 : Int32) < nI A + 1 then (40 : Int32) else nI A + 1) = nI (pA A) := by
    unfold pA
    by_cases h : A = 40
    · subst h; rfl
    · rw [if_neg h, nI_s, if_neg]
      rw [show (40 : Int32) = nI 40 from rfl, nI_lt (by omega) (by omega)]; omega
  refine ⟨⟨?_, (nx + 1) % 40, by omega, ?_, ?_⟩, ?_⟩
  · simp (disch := omega) only [wr_eq, iN, iE, if_true, e27, a0, v0]
  · simp (disch := omega) only [wr_eq, iN, iE, if_true, e27, a1, v1]
  · intro j hj
    rw [wr_n (by decide), wr_n (by decide)]
    show rowC F (pH s A h j) (σ1 28) _
    by_cases hA4 : A = 40
    · subst hA4
      have hp : pA 40 = 40 := rfl
      rw [hp] at hj ⊢
      by_cases hj9 : j = 39
      · subst hj9
        have e : pH s 40 h 39 = s := by simp [pH]
        have e2 : 38 * (((nx + 1) % 40 + 40 - 40 + 39) % 40) = nx * 38 := by omega
        rw [e, e2]; exact hr F s hF hs
      · have e : pH s 40 h j = h (j + 1) := by simp [pH, hj9]
        have e2 : 38 * (((nx + 1) % 40 + 40 - 40 + j) % 40) = 38 * ((nx + 40 - 40 + (j + 1)) % 40) := by omega
        rw [e, e2]
        exact (ar (j + 1) (by omega)).cg hF (fun i h1 h2 => ho i (by omega))
    · have hp : pA A = A + 1 := if_neg hA4
      rw [hp] at hj ⊢
      by_cases hj9 : j = A
      · subst hj9
        have e : pH s j h j = s := by simp [pH, hA4]
        have e2 : 38 * (((nx + 1) % 40 + 40 - (j + 1) + j) % 40) = nx * 38 := by omega
        rw [e, e2]; exact hr F s hF hs
      · have e : pH s A h j = h j := by simp [pH, hA4, hj9]
        have e2 : 38 * (((nx + 1) % 40 + 40 - (A + 1) + j) % 40) = 38 * ((nx + 40 - A + j) % 40) := by omega
        rw [e, e2]
        exact (ar j (by omega)).cg hF (fun i h1 h2 => ho i (by omega))
  · exact ((hf.mo (by decide)).wr (by decide)).wr (by decide)
theorem PP.m_keep {N F A : Nat} {h : Nat → Sg} {s τ : Sg} (hN : 2000 < N) (hF : F ≤ 9) (hA : A ≤ 40) (hs : SM F s τ) (ha : τ 0 30 = nI A) (hm : AM F A h (τ 17)) : Ev (f_X12_keep N τ) (fun τ' => τ' 0 30 = nI (pA A) ∧ AM F (pA A) (pH s A h) (τ' 17) ∧ FM [17] [30] τ τ') := by
  have fin : ∀ (τ1 : Sg) (B : Nat) (g : Nat → Sg), B < 40 → τ1 0 30 = nI B → FM [17] [30] τ τ1 → AM F B g (τ1 17) → Ev (f_X12_keep_b52 N τ1) (fun τ' => τ' 0 30 = nI (B + 1) ∧ AM F (B + 1) (fun j => if j = B then s else g j) (τ' 17) ∧ FM [17] [30] τ τ') := by
    intro τ1 B g hB h30 hf hg
    unfold f_X12_keep_b52
    rw [h30, show (38 : Int32) = nI 38 from rfl, nI_mul]
    refine (m_pack_17 (by omega) (by omega)).bind ?_
    rintro τ2 ⟨hr, ho, hf2⟩
    rw [ev_bd, ev_s]
    have s1 : SM F s τ1 := hs.fr hf (by decide) (by decide)
    refine ⟨?_, ?_, ?_⟩
    · rw [wr_e, upd_e, hf2.2 30 (by decide), h30, nI_s]
    · rw [wr_n (by decide)]
      intro j hj
      by_cases hjB : j = B
      · subst hjB
        dsimp only
        rw [if_pos rfl]; exact hr F s hF s1
      · dsimp only
        rw [if_neg hjB]
        exact rowM.sh (d := 0) (hg j (by omega)) hF (fun i h1 h2 => ho i (by omega))
    · exact (hf.tr (hf2.mo (by decide) (by decide))).w0 (by decide)
  unfold f_X12_keep
  rw [ha]
  by_cases h4 : A = 40
  · subst h4
    rw [if_pos (by decide), ev_b]
    refine Ev.imp (P := fun z => FM [17] [] τ z.2.2 ∧ ∀ i, i < 1482 → z.2.2 17 i = τ 17 (i + 38)) ?_ ?_
    · refine ev_lp (fun k q => q.1 = nI (k + 38) ∧ FM [17] [] τ q.2 ∧ (∀ i, i < k → q.2 17 i = τ 17 (i + 38)) ∧ ∀ i, k ≤ i → q.2 17 i = τ 17 i) 1482 N _ (by omega) ⟨rfl, FM.refl _ _ _, fun i hi => absurd hi (by omega), fun _ _ => rfl⟩ ?_
      rintro k ⟨x, τ1⟩ hk ⟨e, hf, h1, h2⟩
      dsimp only at e hf h1 h2
      subst e
      unfold s_X12_keep_h12
      dsimp only
      by_cases hk2 : k = 1482
      · subst hk2
        rw [if_pos (by decide), ev_s]
        exact Or.inr ⟨Nat.one_ne_zero, hf, h1⟩
      · rw [if_neg (by rw [show (1520 : Int32) = nI 1520 from rfl, nI_le (by omega) (by omega)]; omega)]
        have e38 : nI (k + 38) - 38 = nI k := by
          rw [← nI_add, show nI 38 = (38 : Int32) from rfl]; grind
        rw [e38]
        simp (disch := omega) only [nI_g, if_false]
        simp (disch := omega) only [nI_cl, nI_s, ev_bd, ev_s]
        refine Or.inl ⟨by trivial, by omega, by trivial, hf.w (by decide) (by decide), ?_, ?_⟩
        · intro i hi
          by_cases h : i = k
          · subst h
            simp (disch := omega) only [wr_eq, iN, iE, if_true]
            exact h2 _ (by omega)
          · simp (disch := omega) only [wr_eq, iN, iE, if_true]
            exact h1 i (by omega)
        · intro i hi
          simp (disch := omega) only [wr_eq, iN, iE, if_true]
          exact h2 i (by omega)
    · rintro ⟨z1, z2, τ1⟩ ⟨hf, hi⟩
      dsimp only at hf hi ⊢
      rw [ev_bd]
      refine (fin (wr τ1 0 30 (τ1 0 30 - 1)) 39 (fun j => h (j + 1)) (by omega) (by rw [wr_e, upd_e, hf.2 30 (by decide), ha]; rfl) ((hf.mo (by decide) (by decide)).w0 (by decide)) ?_).imp ?_
      · rw [wr_n (by decide)]
        intro j hj
        exact rowM.sh (d := 38) (by rw [show 38 * j + 38 = 38 * (j + 1) by omega]; exact hm (j + 1) (by omega)) hF (fun i h1 h2 => hi i (by omega))
      · rintro τ' ⟨x1, x2, x3⟩
        refine ⟨x1, ?_, x3⟩
        intro j hj
        have := x2 j hj
        unfold pH
        rw [if_pos rfl]
        exact this
  · rw [if_neg (by rw [show (40 : Int32) = nI 40 from rfl, nI_eq (by omega) (by omega)]; exact h4)]
    refine (fin τ A h (by omega) ha (FM.refl _ _ _) hm).imp ?_
    rintro τ' ⟨x1, x2, x3⟩
    have hp : pA A = A + 1 := if_neg h4
    rw [hp]
    refine ⟨x1, ?_, x3⟩
    intro j hj
    have := x2 j hj
    unfold pH
    rw [if_neg h4]
    exact this
/-! ===== a book that has changed ===== -/
def PP.sB (a : Ab) (B : Bo) : Ab := (a.1, a.2.1, B, a.2.2.2)
def PP.actB (B : Bo) (s : Sg) : Bo := (s, pA B.2.1, pH B.1 B.2.1 B.2.2.1, B.2.2.2)
def PP.bC : List Nat := [20, 22, 23, 24, 25, 26, 27, 28, 29, 30, 31, 32, 33, 48, 49, 51, 52, 54, 55, 56, 57, 58, 59, 60, 61, 62, 63, 64]
def PP.sC : List Nat := [20, 22, 23, 24, 25, 26, 48, 49, 51, 52, 54, 55, 56, 57, 58, 59, 60, 61, 62, 63, 64]
def PP.bM : List Nat := [11, 13, 14, 15, 16, 17, 18, 19, 20, 21, 22, 23, 24, 25, 26, 27, 28, 29]
def PP.bF : List Nat := [2, 28, 29, 30, 31, 32, 35, 44, 47]
theorem PP.AC.fr {c F A : Nat} {h : Nat → Sg} {σ σ' : Sg} {P : List Nat} (k : AC c F A h σ) (f : Fr P σ σ') (d : c ∉ P) (d' : c + 1 ∉ P) : AC c F A h σ' := by
  unfold AC at k ⊢
  rw [f c d, f (c + 1) d']; exact k
theorem PP.KC.fr {c K : Nat} {q σ σ' : Sg} {P : List Nat} (k : KC c K q σ) (f : Fr P σ σ') (d : ∀ x, x ∈ [c, c + 1, c + 2, c + 3] → x ∉ P) : KC c K q σ' := by
  unfold KC at k ⊢
  rw [f c (d _ (by simp)), f (c + 1) (d _ (by simp)), f (c + 2) (d _ (by simp)), f (c + 3) (d _ (by simp))]; exact k
theorem PP.RlC.sB {a : Ab} {σ σ' : Sg} {B : Bo} (h : RlC a σ) (f : Fr bC σ σ') (hB : BC 21 a.1 B σ') (hR : RC 47 a.1 a.2.1 (tp a.2.1 B.1) σ') : RlC (sB a B) σ' := by
  obtain ⟨h1, h2, h3, h4, h5⟩ := h
  refine ⟨h1.fr f (by decide), hB, hR, h4.fr f (by decide) (by decide), ?_⟩
  unfold TC at h5 ⊢
  rw [f 0 (by decide), f 1 (by decide), f 2 (by decide)]; exact h5
theorem PP.RlM.sB {a : Ab} {τ τ' : Sg} {B : Bo} (h : RlM a τ) (f : FM bM bF τ τ') (hB : BM a.1 B τ') (h32 : τ' 0 32 = -1) : RlM (sB a B) τ' := by
  obtain ⟨h1, h2, h3, h4, h5⟩ := h
  refine ⟨h1.fr f (by decide), hB, h32, h4.fr f (by decide) (by decide), ?_⟩
  unfold TM at h5 ⊢
  rw [f.2 13 (by decide), f.2 22 (by decide), f.1 12 (by decide) (by decide)]; exact h5
theorem PP.OKa.sB {a : Ab} {B : Bo} (h : OKa a) (hB : BookOK a.1 B) : OKa (sB a B) := ⟨h.1, hB, h.2.2⟩
theorem PP.act_ok {F : Nat} {B : Bo} {s : Sg} (h : BookOK F B) (hs : StOK F s) (ht : s 0 0 ≤ 999) : BookOK F (actB B s) := by
  obtain ⟨h1, ⟨h2, h3⟩, h4⟩ := h
  refine ⟨⟨hs, ht⟩, ⟨?_, ?_⟩, h4⟩
  · show pA B.2.1 ≤ 40
    unfold pA; split <;> omega
  · show ∀ j, j < pA B.2.1 → StOK F (pH B.1 B.2.1 B.2.2.1 j) ∧ pH B.1 B.2.1 B.2.2.1 j 0 0 ≤ 999
    intro j hj
    unfold pA at hj
    unfold pH
    by_cases h4 : B.2.1 = 40
    · rw [if_pos h4] at hj ⊢
      by_cases h9 : j = 39
      · rw [if_pos h9]; exact h1
      · rw [if_neg h9]; exact h3 _ (by omega)
    · rw [if_neg h4] at hj ⊢
      by_cases h9 : j = B.2.1
      · rw [if_pos h9]; exact h1
      · rw [if_neg h9]; exact h3 _ (by omega)
theorem PP.c_act {a : Ab} {σ σ1 σ2 s : Sg} (h : RlC a σ) (hk : AC 27 a.1 (pA a.2.2.1.2.1) (pH a.2.2.1.1 a.2.2.1.2.1 a.2.2.1.2.2.1) σ1) (f1 : Fr [27, 28] σ σ1) (f2 : Fr sC σ1 σ2) (hs : SC 22 a.1 s σ2) (hr : RC 47 a.1 a.2.1 (tp a.2.1 s) σ2) : RlC (PP.sB a (actB a.2.2.1 s)) σ2 := by
  refine h.sB ((f1.mo (by decide)).tr (f2.mo (by decide))) ⟨hs, hk.fr f2 (by decide) (by decide), ?_, ?_⟩ hr
  · exact (h.2.1.2.2.1.fr f1 (by decide)).fr f2 (by decide)
  · intro j hj
    have := h.2.1.2.2.2 j hj
    dsimp only [Nat.reduceAdd] at this ⊢
    rw [f2 33 (by decide), f1 33 (by decide)]; exact this
theorem PP.m_act {a : Ab} {τ τ1 τ2 s : Sg} (h : RlM a τ) (h30 : τ1 0 30 = nI (pA a.2.2.1.2.1)) (hm : AM a.1 (pA a.2.2.1.2.1) (pH a.2.2.1.1 a.2.2.1.2.1 a.2.2.1.2.2.1) (τ1 17)) (f1 : FM [17] [30] τ τ1) (f2 : FM [13, 14, 15, 16, 18, 19] [2, 28, 29, 35] τ1 τ2) (hs : SM a.1 s τ2) : RlM (PP.sB a (actB a.2.2.1 s)) τ2 := by
  obtain ⟨b1, b2, b3, b4, b5, b6⟩ := h.2.1
  have f : FM bM bF τ τ2 := (f1.mo (by decide) (by decide)).tr (f2.mo (by decide) (by decide))
  refine h.sB f ⟨hs, ?_, ?_, ?_, ?_, ?_⟩ ?_
  · rw [f2.2 30 (by decide)]; exact h30
  · rw [f2.1 17 (by decide) (by decide)]; exact hm
  · rw [f2.2 31 (by decide), f1.2 31 (by decide)]; exact b4
  · rw [f2.1 24 (by decide) (by decide), f2.1 25 (by decide) (by decide), f2.1 27 (by decide) (by decide), f1.1 24 (by decide) (by decide), f1.1 25 (by decide) (by decide), f1.1 27 (by decide) (by decide)]; exact b5
  · rw [f2.1 11 (by decide) (by decide), f1.1 11 (by decide) (by decide)]; exact b6
  · rw [f2.2 32 (by decide), f1.2 32 (by decide)]; exact h.2.2.1
/-! ===== refusals ===== -/
def PP.refu (a : Ab) (j : Nat) : Ab := PP.sB a (a.2.2.1.1, a.2.2.1.2.1, a.2.2.1.2.2.1, a.2.2.1.2.2.2.1, a.2.2.1.2.2.2.2.1, upd a.2.2.1.2.2.2.2.2 j (a.2.2.1.2.2.2.2.2 j + 1))
theorem PP.refu_ok {a : Ab} {j : Nat} (h : OKa a) : OKa (refu a j) := h.sB h.2.1
theorem PP.c_refu {a : Ab} {σ : Sg} {j : Nat} (hj : j < 3) (h : RlC a σ) : RlC (refu a j) (wr σ 33 j (σ 33 j + 1)) := by
  have f : Fr [33] σ (wr σ 33 j (σ 33 j + 1)) := (Fr.refl _ _).wr (by decide)
  refine h.sB (f.mo (by decide)) ⟨h.2.1.1.fr f (by decide), h.2.1.2.1.fr f (by decide) (by decide), h.2.1.2.2.1.fr f (by decide), ?_⟩ (h.2.2.1.fr f (by decide))
  intro i hi
  have hx := h.2.1.2.2.2
  dsimp only [Nat.reduceAdd] at hx ⊢
  rw [wr_e]
  by_cases e : i = j
  · subst e; rw [upd_e, upd_e, hx i hi]
  · rw [upd_n e, upd_n e]; exact hx i hi
theorem PP.m_refu {a : Ab} {τ : Sg} {j : Nat} (hj : j < 3) (h : RlM a τ) : RlM (refu a j) (wr τ 11 j (τ 11 j + 1)) := by
  have f : FM [11] [] τ (wr τ 11 j (τ 11 j + 1)) := (FM.refl _ _ _).w (by decide) (by decide)
  obtain ⟨b1, b2, b3, b4, b5, b6⟩ := h.2.1
  refine h.sB (f.mo (by decide) (by decide)) ⟨b1.fr f (by decide) (by decide), b2, b3, b4, b5, ?_⟩ h.2.2.1
  intro i hi
  dsimp only
  rw [wr_e]
  by_cases e : i = j
  · subst e; rw [upd_e, upd_e, b6 i hi]
  · rw [upd_n e, upd_n e]; exact b6 i hi
