/-! ===== the class's rows of who is in sight ===== -/
theorem PP.c_way_47 {N F a b : Nat} {L σ : Sg} {t : Nat → Int32} (hN : 20 < N) (hO : LandOK F L) (hL : LC F L σ) (ht : ∀ i, i < F → σ 48 i = t i) (ha : a < F) (hb : b < F) : f_X6_inTheWay_47 N (nI a) (nI b) σ = some (way F L t a b, σ) := by
  have hF := hO.1
  have l0 := hL.2.1
  have lx := hL.2.2.2.2.2.2.1
  have ox := hO.2.2.2.2.2.2.1
  have key : ∀ l h : Nat, l < F → h < F → l = lo L a b → h = hi L a b → f_X6_inTheWay_47_b37 N (nI l) (nI h) σ = some (way F L t a b, σ) := by
    intro l h hl hh el eh
    unfold f_X6_inTheWay_47_b37
    rw [← ev_eq, ev_b]
    refine ev_lp (fun k q => q = (mk (inW L t a b) k, nI k, σ)) F N _ (by omega) rfl ?_
    rintro k _ hk rfl
    unfold s_X6_inTheWay_47_h45 f_X6_inTheWay_47_b157
    dsimp only
    by_cases hkF : k = F
    · subst hkF
      rw [if_pos (by rw [l0]; exact Int32.le_refl _), ev_s]
      exact Or.inr ⟨Nat.one_ne_zero, ev_s.mpr rfl⟩
    · have hk' : k < F := by omega
      refine Ev.imp (P := fun r => r.1 = 0 ∧ r.2 = (mk (inW L t a b) (k + 1), nI (k + 1), σ)) ?_ (fun r h => Or.inl ⟨h.1, hk', h.2⟩)
      simp (disch := omega) only [l0, nI_le, show ¬ F ≤ k by omega, if_false, nI_g]
      simp (disch := omega) only [nI_cl, (lx k hk').1, (lx l hl).1, (lx h hh).1, ht k hk', ht l hl, ht h hh, ev_bd, ev_i, ev_s, nI_s]
      rw [mk_s]
      have e : inW L t a b k = decide (L 1 l < L 1 k ∧ L 1 k < L 1 h ∧ ¬ t k * (L 1 h - L 1 l) < t l * (L 1 h - L 1 k) + t h * (L 1 k - L 1 l)) := by unfold inW; rw [← el, ← eh]
      simp only [e, decide_eq_true_eq]
      have s1 : L 1 k - L 1 l ≤ 0 ↔ ¬ L 1 l < L 1 k := sub_le0 (ox k hk').1 (ox l hl).1
      have s2 : L 1 h - L 1 k ≤ 0 ↔ ¬ L 1 k < L 1 h := sub_le0 (ox h hh).1 (ox k hk').1
      have s3 : (L 1 k - L 1 l) + (L 1 h - L 1 k) = L 1 h - L 1 l := by grind
      simp only [s1, s2, s3]
      by_cases c1 : L 1 l < L 1 k <;> by_cases c2 : L 1 k < L 1 h <;> by_cases c3 : t k * (L 1 h - L 1 l) < t l * (L 1 h - L 1 k) + t h * (L 1 k - L 1 l) <;> simp [c1, c2, c3]
  unfold f_X6_inTheWay_47 f_X6_inTheWay_47_b26
  simp (disch := omega) only [nI_g, if_false]
  simp (disch := omega) only [nI_cl, nI_eq, (lx a ha).1, (lx b hb).1, reduceIte]
  by_cases h : L 1 a < L 1 b
  · rw [if_neg (show ¬ L 1 b ≤ L 1 a by grind)]
    exact key a b ha hb (by unfold lo; rw [if_pos h]) (by unfold hi; rw [if_pos h])
  · rw [if_pos (show L 1 b ≤ L 1 a by grind)]
    by_cases hab : b = a
    · rw [if_pos hab]
      exact key b b hb hb (by unfold lo; rw [if_neg h]) (by unfold hi; rw [if_neg h]; exact hab)
    · rw [if_neg hab]
      exact key b a hb ha (by unfold lo; rw [if_neg h]) (by unfold hi; rw [if_neg h])
theorem PP.c_near_47 {N F a b : Nat} {L σ : Sg} {m : Int32} (hL : LC F L σ) (ha : a < F) (hb : b < F) : f_X6_isNear_47 N (nI a) (nI b) m σ = some ((if aw L a b ≤ L 0 1 - 9 * m then 1 else 0), σ) := by
  unfold f_X6_isNear_47
  rw [c_away hL ha hb, Option.bind_some]
  dsimp only
  have h6 := hL.2.2.1
  simp only [h6]
  by_cases h : aw L a b ≤ L 0 1 - 9 * m
  · rw [if_pos h, if_neg (by grind)]
  · rw [if_neg h, if_pos (by grind)]
theorem PP.c_mark_47 {N F f o : Nat} {L σ : Sg} (hN : 20 < N) (hO : LandOK F L) (hL : LC F L σ) (hf : f < F) (ho : o < F) (hfo : f ≠ o) : Ev (f_X6_mark_47 N (nI f) (nI o) σ) (fun σ' => Fr [49] σ σ' ∧ ∀ m i, m < 10 → i < 9 → σ' 49 (m * 9 + i) = if aw L f o ≤ L 0 1 - 9 * nI m then (if i = f then σ 49 (m * 9 + i) ||| bit o else if i = o then σ 49 (m * 9 + i) ||| bit f else σ 49 (m * 9 + i)) else σ 49 (m * 9 + i)) := by
  have hF := hO.1
  unfold f_X6_mark_47
  rw [ev_b]
  refine ev_lp (fun k q => q.1 = nI k ∧ Fr [49] σ q.2 ∧ (∀ m, m < k → aw L f o ≤ L 0 1 - 9 * nI m) ∧ ∀ m i, m < 10 → i < 9 → q.2 49 (m * 9 + i) = if m < k then (if i = f then σ 49 (m * 9 + i) ||| bit o else if i = o then σ 49 (m * 9 + i) ||| bit f else σ 49 (m * 9 + i)) else σ 49 (m * 9 + i)) 10 N _ (by omega) ⟨rfl, Fr.refl _ _, fun m hm => absurd hm (by omega), fun m i _ _ => by simp⟩ ?_
  rintro k ⟨i, σ'⟩ hk ⟨e, hfr, hn, hi⟩
  dsimp only at e hfr hn hi
  subst e
  have hL' : LC F L σ' := hL.fr hfr (by decide)
  unfold s_X6_mark_47_h2
  dsimp only
  by_cases hk10 : k = 10
  · subst hk10
    rw [if_pos (by decide), ev_s]
    refine Or.inr ⟨Nat.one_ne_zero, ev_s.mpr ⟨hfr, fun m i hm h9 => ?_⟩⟩
    dsimp only
    rw [hi m i hm h9, if_pos hm, if_pos (hn m hm)]
  · have hk' : k < 10 := by omega
    rw [if_neg (by rw [show (9 : Int32) = nI 9 from rfl, nI_lt (by omega) (by omega)]; omega), c_near_47 hL' hf ho, Option.bind_some]
    dsimp only
    by_cases hnk : aw L f o ≤ L 0 1 - 9 * nI k
    · refine Ev.imp (P := fun r => r.1 = 0 ∧ _) ?_ (fun r h => Or.inl ⟨h.1, hk', h.2⟩)
      rw [if_pos hnk, if_neg (by decide), show (9 : Int32) = nI 9 from rfl, nI_mul, nI_add, nI_add]
      simp (disch := omega) only [nI_g, if_false]
      simp (disch := omega) only [nI_cl, nI_s, ev_bd, ev_s]
      refine ⟨by trivial, by trivial, (hfr.wr (by decide)).wr (by decide), ?_, ?_⟩
      · intro m hm
        by_cases h : m = k
        · subst h; exact hnk
        · exact hn m (by omega)
      · intro m i hm h9
        have h := hi m i hm h9
        have h' := hi m o hm (by omega)
        by_cases hmk : m = k
        · subst hmk
          simp only [Nat.lt_irrefl, if_false] at h h'
          rw [if_pos (by omega)]
          by_cases hif : i = f
          · subst hif
            rw [if_pos rfl]
            simp (disch := omega) only [wr_eq, iN, iE, if_true, h]
          · rw [if_neg hif]
            by_cases hio : i = o
            · subst hio
              rw [if_pos rfl]
              simp (disch := omega) only [wr_eq, iN, iE, if_true, h]
            · rw [if_neg hio]
              simp (disch := omega) only [wr_eq, iN, iE, if_true, h]
        · have e : (m < k + 1) = (m < k) := by apply propext; omega
          simp (disch := omega) only [wr_eq, iN, iE, if_true, h, e]
    · rw [if_neg hnk, if_pos rfl, ev_s]
      refine Or.inr ⟨Nat.one_ne_zero, ev_s.mpr ⟨hfr, fun m i hm h9 => ?_⟩⟩
      dsimp only
      rw [hi m i hm h9]
      by_cases hmk : m < k
      · rw [if_pos hmk, if_pos (hn m hmk)]
      · have : ¬ aw L f o ≤ L 0 1 - 9 * nI m := fun h => hnk (near_mo hO.2.2.1 (nI_n0 (by omega)) ((nI_le (by omega) (by omega)).mpr (by omega)) (by rw [show (9 : Int32) = nI 9 from rfl, nI_le (by omega) (by omega)]; omega) h)
        rw [if_neg hmk, if_neg this]
theorem PP.c_way_50 {N F a b : Nat} {L σ : Sg} {t : Nat → Int32} (hN : 20 < N) (hO : LandOK F L) (hL : LC F L σ) (ht : ∀ i, i < F → σ 51 i = t i) (ha : a < F) (hb : b < F) : f_X6_inTheWay_50 N (nI a) (nI b) σ = some (way F L t a b, σ) := by
  have hF := hO.1
  have l0 := hL.2.1
  have lx := hL.2.2.2.2.2.2.1
  have ox := hO.2.2.2.2.2.2.1
  have key : ∀ l h : Nat, l < F → h < F → l = lo L a b → h = hi L a b → f_X6_inTheWay_50_b37 N (nI l) (nI h) σ = some (way F L t a b, σ) := by
    intro l h hl hh el eh
    unfold f_X6_inTheWay_50_b37
    rw [← ev_eq, ev_b]
    refine ev_lp (fun k q => q = (mk (inW L t a b) k, nI k, σ)) F N _ (by omega) rfl ?_
    rintro k _ hk rfl
    unfold s_X6_inTheWay_50_h45 f_X6_inTheWay_50_b157
    dsimp only
    by_cases hkF : k = F
    · subst hkF
      rw [if_pos (by rw [l0]; exact Int32.le_refl _), ev_s]
      exact Or.inr ⟨Nat.one_ne_zero, ev_s.mpr rfl⟩
    · have hk' : k < F := by omega
      refine Ev.imp (P := fun r => r.1 = 0 ∧ r.2 = (mk (inW L t a b) (k + 1), nI (k + 1), σ)) ?_ (fun r h => Or.inl ⟨h.1, hk', h.2⟩)
      simp (disch := omega) only [l0, nI_le, show ¬ F ≤ k by omega, if_false, nI_g]
      simp (disch := omega) only [nI_cl, (lx k hk').1, (lx l hl).1, (lx h hh).1, ht k hk', ht l hl, ht h hh, ev_bd, ev_i, ev_s, nI_s]
      rw [mk_s]
      have e : inW L t a b k = decide (L 1 l < L 1 k ∧ L 1 k < L 1 h ∧ ¬ t k * (L 1 h - L 1 l) < t l * (L 1 h - L 1 k) + t h * (L 1 k - L 1 l)) := by unfold inW; rw [← el, ← eh]
      simp only [e, decide_eq_true_eq]
      have s1 : L 1 k - L 1 l ≤ 0 ↔ ¬ L 1 l < L 1 k := sub_le0 (ox k hk').1 (ox l hl).1
      have s2 : L 1 h - L 1 k ≤ 0 ↔ ¬ L 1 k < L 1 h := sub_le0 (ox h hh).1 (ox k hk').1
      have s3 : (L 1 k - L 1 l) + (L 1 h - L 1 k) = L 1 h - L 1 l := by grind
      simp only [s1, s2, s3]
      by_cases c1 : L 1 l < L 1 k <;> by_cases c2 : L 1 k < L 1 h <;> by_cases c3 : t k * (L 1 h - L 1 l) < t l * (L 1 h - L 1 k) + t h * (L 1 k - L 1 l) <;> simp [c1, c2, c3]
  unfold f_X6_inTheWay_50 f_X6_inTheWay_50_b26
  simp (disch := omega) only [nI_g, if_false]
  simp (disch := omega) only [nI_cl, nI_eq, (lx a ha).1, (lx b hb).1, reduceIte]
  by_cases h : L 1 a < L 1 b
  · rw [if_neg (show ¬ L 1 b ≤ L 1 a by grind)]
    exact key a b ha hb (by unfold lo; rw [if_pos h]) (by unfold hi; rw [if_pos h])
  · rw [if_pos (show L 1 b ≤ L 1 a by grind)]
    by_cases hab : b = a
    · rw [if_pos hab]
      exact key b b hb hb (by unfold lo; rw [if_neg h]) (by unfold hi; rw [if_neg h]; exact hab)
    · rw [if_neg hab]
      exact key b a hb ha (by unfold lo; rw [if_neg h]) (by unfold hi; rw [if_neg h])
theorem PP.c_near_50 {N F a b : Nat} {L σ : Sg} {m : Int32} (hL : LC F L σ) (ha : a < F) (hb : b < F) : f_X6_isNear_50 N (nI a) (nI b) m σ = some ((if aw L a b ≤ L 0 1 - 9 * m then 1 else 0), σ) := by
  unfold f_X6_isNear_50
  rw [c_away hL ha hb, Option.bind_some]
  dsimp only
  have h6 := hL.2.2.1
  simp only [h6]
  by_cases h : aw L a b ≤ L 0 1 - 9 * m
  · rw [if_pos h, if_neg (by grind)]
  · rw [if_neg h, if_pos (by grind)]
theorem PP.c_mark_50 {N F f o : Nat} {L σ : Sg} (hN : 20 < N) (hO : LandOK F L) (hL : LC F L σ) (hf : f < F) (ho : o < F) (hfo : f ≠ o) : Ev (f_X6_mark_50 N (nI f) (nI o) σ) (fun σ' => Fr [52] σ σ' ∧ ∀ m i, m < 10 → i < 9 → σ' 52 (m * 9 + i) = if aw L f o ≤ L 0 1 - 9 * nI m then (if i = f then σ 52 (m * 9 + i) ||| bit o else if i = o then σ 52 (m * 9 + i) ||| bit f else σ 52 (m * 9 + i)) else σ 52 (m * 9 + i)) := by
  have hF := hO.1
  unfold f_X6_mark_50
  rw [ev_b]
  refine ev_lp (fun k q => q.1 = nI k ∧ Fr [52] σ q.2 ∧ (∀ m, m < k → aw L f o ≤ L 0 1 - 9 * nI m) ∧ ∀ m i, m < 10 → i < 9 → q.2 52 (m * 9 + i) = if m < k then (if i = f then σ 52 (m * 9 + i) ||| bit o else if i = o then σ 52 (m * 9 + i) ||| bit f else σ 52 (m * 9 + i)) else σ 52 (m * 9 + i)) 10 N _ (by omega) ⟨rfl, Fr.refl _ _, fun m hm => absurd hm (by omega), fun m i _ _ => by simp⟩ ?_
  rintro k ⟨i, σ'⟩ hk ⟨e, hfr, hn, hi⟩
  dsimp only at e hfr hn hi
  subst e
  have hL' : LC F L σ' := hL.fr hfr (by decide)
  unfold s_X6_mark_50_h2
  dsimp only
  by_cases hk10 : k = 10
  · subst hk10
    rw [if_pos (by decide), ev_s]
    refine Or.inr ⟨Nat.one_ne_zero, ev_s.mpr ⟨hfr, fun m i hm h9 => ?_⟩⟩
    dsimp only
    rw [hi m i hm h9, if_pos hm, if_pos (hn m hm)]
  · have hk' : k < 10 := by omega
    rw [if_neg (by rw [show (9 : Int32) = nI 9 from rfl, nI_lt (by omega) (by omega)]; omega), c_near_50 hL' hf ho, Option.bind_some]
    dsimp only
    by_cases hnk : aw L f o ≤ L 0 1 - 9 * nI k
    · refine Ev.imp (P := fun r => r.1 = 0 ∧ _) ?_ (fun r h => Or.inl ⟨h.1, hk', h.2⟩)
      rw [if_pos hnk, if_neg (by decide), show (9 : Int32) = nI 9 from rfl, nI_mul, nI_add, nI_add]
      simp (disch := omega) only [nI_g, if_false]
      simp (disch := omega) only [nI_cl, nI_s, ev_bd, ev_s]
      refine ⟨by trivial, by trivial, (hfr.wr (by decide)).wr (by decide), ?_, ?_⟩
      · intro m hm
        by_cases h : m = k
        · subst h; exact hnk
        · exact hn m (by omega)
      · intro m i hm h9
        have h := hi m i hm h9
        have h' := hi m o hm (by omega)
        by_cases hmk : m = k
        · subst hmk
          simp only [Nat.lt_irrefl, if_false] at h h'
          rw [if_pos (by omega)]
          by_cases hif : i = f
          · subst hif
            rw [if_pos rfl]
            simp (disch := omega) only [wr_eq, iN, iE, if_true, h]
          · rw [if_neg hif]
            by_cases hio : i = o
            · subst hio
              rw [if_pos rfl]
              simp (disch := omega) only [wr_eq, iN, iE, if_true, h]
            · rw [if_neg hio]
              simp (disch := omega) only [wr_eq, iN, iE, if_true, h]
        · have e : (m < k + 1) = (m < k) := by apply propext; omega
          simp (disch := omega) only [wr_eq, iN, iE, if_true, h, e]
    · rw [if_neg hnk, if_pos rfl, ev_s]
      refine Or.inr ⟨Nat.one_ne_zero, ev_s.mpr ⟨hfr, fun m i hm h9 => ?_⟩⟩
      dsimp only
      rw [hi m i hm h9]
      by_cases hmk : m < k
      · rw [if_pos hmk, if_pos (hn m hmk)]
      · have : ¬ aw L f o ≤ L 0 1 - 9 * nI m := fun h => hnk (near_mo hO.2.2.1 (nI_n0 (by omega)) ((nI_le (by omega) (by omega)).mpr (by omega)) (by rw [show (9 : Int32) = nI 9 from rfl, nI_le (by omega) (by omega)]; omega) h)
        rw [if_neg hmk, if_neg this]
theorem PP.c_tops_47_26 {N : Nat} {σ : Sg} (hN : 100 < N) : Ev (f_X6_takeTops_47_26 N σ) (fun σ' => Fr [48] σ σ' ∧ ∀ i, i < 9 → σ' 48 i = σ 14 i + σ 26 i) := by
  unfold f_X6_takeTops_47_26
  rw [ev_b]
  refine (ev_fill 48 9 N (fun k => σ 14 k + σ 26 k) σ _ rfl (by omega) ?_ ?_).imp ?_
  · intro k σ' hk h1 h2 h3
    unfold s_X6_takeTops_47_26_h2
    dsimp only
    simp (disch := omega) only [show (9 : Int32) = nI 9 from rfl, nI_le, show ¬ 9 ≤ k by omega, if_false, nI_g]
    simp (disch := omega) only [nI_cl, nI_s, bd, h1 14 (by decide), h1 26 (by decide)]
  · intro σ' h1
    unfold s_X6_takeTops_47_26_h2
    exact ⟨_, if_pos (by dsimp only; decide)⟩
  · rintro z ⟨h1, h2, h3⟩
    rw [ev_s]
    exact ⟨h1, h2⟩
theorem PP.c_build_47_26 {N F : Nat} {L σ : Sg} {t : Nat → Int32} (hN : 100 < N) (hO : LandOK F L) (hL : LC F L σ) (ht : ∀ i, i < F → L 2 i + σ 26 i = t i) : Ev (f_X6_build_47_26 N σ) (fun σ' => RC 47 F L t σ' ∧ Fr [48, 49] σ σ') := by
  have hF := hO.1
  unfold f_X6_build_47_26
  refine (c_tops_47_26 hN).bind ?_
  rintro σ1 ⟨hf1, hv1⟩
  rw [ev_b]
  refine (ev_fill 49 90 N (fun _ => 0) σ1 _ rfl (by omega) ?_ ?_).imp ?_
  · intro k σ' hk h1 h2 h3
    unfold s_X6_build_47_26_h7
    dsimp only
    simp (disch := omega) only [show (90 : Int32) = nI 90 from rfl, nI_le, show ¬ 90 ≤ k by omega, if_false, nI_g]
    simp (disch := omega) only [nI_cl, nI_s, bd]
  · intro σ' h1
    unfold s_X6_build_47_26_h7
    exact ⟨_, if_pos (by dsimp only; decide)⟩
  rintro ⟨_, _, σ2⟩ ⟨hf2, hz2, -⟩
  dsimp only at hf2 hz2 ⊢
  have hL2 : LC F L σ2 := (hL.fr hf1 (by decide)).fr hf2 (by decide)
  have ht2 : ∀ i, i < F → σ2 48 i = t i := by
    intro i hi
    rw [hf2 48 (by decide), hv1 i (by omega), ← ht i hi, (hL.2.2.2.2.2.2.1 i hi).2.1]
  rw [ev_b]
  refine ev_lp (fun k q => q.1 = nI k ∧ Fr [49] σ2 q.2 ∧ ∀ m i b, m < 10 → i < F → b < 32 → (hasB (q.2 49 (m * 9 + i)) b ↔ b < F ∧ (i < k ∧ b < k) ∧ sgt F L t (nI m) i b = true)) F N _ (by omega) ⟨rfl, Fr.refl _ _, fun m i b hm hi hb => ?_⟩ ?_
  · dsimp only
    rw [hz2 _ (by omega)]
    exact ⟨fun h => absurd h (hasB_0 hb), fun h => absurd h.2.1.1 (by omega)⟩
  rintro k ⟨i, σ3⟩ hk ⟨e, hf3, hb3⟩
  dsimp only at e hf3 hb3
  subst e
  have hL3 : LC F L σ3 := hL2.fr hf3 (by decide)
  unfold s_X6_build_47_26_h31
  dsimp only
  have l3 := hL3.2.1
  by_cases hkF : k = F
  · subst hkF
    rw [if_pos (by rw [l3]; exact Int32.le_refl _), ev_s]
    refine Or.inr ⟨Nat.one_ne_zero, ev_s.mpr ⟨⟨?_, ?_⟩, ?_⟩⟩
    · intro i hi
      dsimp only
      rw [hf3 (47 + 1) (by decide)]
      exact ht2 i hi
    · intro m i hm hi
      refine ext_B fun b hb => ?_
      dsimp only [Nat.reduceAdd]
      rw [hb3 m i b hm hi hb]
      unfold sees
      rw [hasB_mk (by omega) hb]
      exact ⟨fun h => ⟨h.1, h.2.2⟩, fun h => ⟨h.1, ⟨hi, h.1⟩, h.2⟩⟩
    · exact ((hf1.mo (by decide)).tr (hf2.mo (by decide))).tr (hf3.mo (by decide))
  · have hk' : k < F := by omega
    rw [if_neg (by rw [l3, nI_le (by omega) (by omega)]; omega), ev_b]
    refine ev_lp (fun j q => q.1 = nI j ∧ Fr [49] σ2 q.2 ∧ ∀ m i b, m < 10 → i < F → b < 32 → (hasB (q.2 49 (m * 9 + i)) b ↔ b < F ∧ ((i < k ∧ b < k) ∨ (i = k ∧ b < j) ∨ (b = k ∧ i < j)) ∧ sgt F L t (nI m) i b = true)) k N _ (by omega) ⟨rfl, hf3, fun m i b hm hi hb => ?_⟩ ?_
    · dsimp only
      rw [hb3 m i b hm hi hb]
      simp
    rintro j ⟨i, σ4⟩ hj ⟨e, hf4, hb4⟩
    dsimp only at e hf4 hb4
    subst e
    have hL4 : LC F L σ4 := hL2.fr hf4 (by decide)
    unfold s_X6_build_47_26_h44 f_X6_build_47_26_b64
    dsimp only
    by_cases hjk : j = k
    · subst hjk
      rw [if_pos (Int32.le_refl _), ev_s]
      refine Or.inr ⟨Nat.one_ne_zero, ?_⟩
      dsimp only
      rw [ev_bd, ev_s]
      refine Or.inl ⟨rfl, hk', nI_s _, hf4, fun m i b hm hi hb => ?_⟩
      dsimp only
      rw [hb4 m i b hm hi hb]
      have hs : ∀ x, ¬ sgt F L t (nI m) x x = true := by
        intro x; unfold sgt; simp
      constructor
      · rintro ⟨h1, h2, h3⟩; exact ⟨h1, by omega, h3⟩
      · rintro ⟨h1, h2, h3⟩
        refine ⟨h1, ?_, h3⟩
        by_cases hib : i = b
        · subst hib; exact absurd h3 (hs i)
        · omega
    · have hj' : j < k := by omega
      have ht4 : ∀ i, i < F → σ4 48 i = t i := by intro i hi; rw [hf4 48 (by decide)]; exact ht2 i hi
      refine Ev.imp (P := fun r => r.1 = 0 ∧ _) ?_ (fun r h => Or.inl ⟨h.1, hj', h.2⟩)
      rw [if_neg (by rw [nI_le (by omega) (by omega)]; omega), c_way_47 (by omega) hO hL4 ht4 hk' (by omega), Option.bind_some]
      dsimp only
      by_cases hw : way F L t k j = 0
      · rw [if_pos hw]
        refine (c_mark_47 (by omega) hO hL4 hk' (by omega) (by omega)).bind ?_
        rintro σ5 ⟨hf5, hb5⟩
        rw [ev_bd, ev_s]
        refine ⟨rfl, nI_s _, hf4.tr hf5, fun m i b hm hi hb => ?_⟩
        dsimp only
        rw [hb5 m i hm (by omega)]
        have hkj : sgt F L t (nI m) k j = true ↔ aw L k j ≤ L 0 1 - 9 * nI m := by
          unfold sgt; rw [decide_eq_true_eq]
          exact ⟨fun h => h.2.1, fun h => ⟨by omega, h, hw⟩⟩
        have hjk2 : sgt F L t (nI m) j k = true ↔ aw L k j ≤ L 0 1 - 9 * nI m := by
          rw [sgt_sym hO (by omega) hk']; exact hkj
        have h4 := hb4 m i b hm hi hb
        by_cases hn : aw L k j ≤ L 0 1 - 9 * nI m
        · rw [if_pos hn]
          by_cases hik : i = k
          · subst hik
            rw [if_pos rfl, hasB_or hb, hasB_bit (by omega) hb, h4]
            constructor
            · rintro (⟨h1, h2, h3⟩ | rfl)
              · exact ⟨h1, by omega, h3⟩
              · exact ⟨by omega, by omega, hkj.mpr hn⟩
            · rintro ⟨h1, h2, h3⟩
              by_cases hbj : j = b
              · exact Or.inr hbj
              · exact Or.inl ⟨h1, by omega, h3⟩
          · rw [if_neg hik]
            by_cases hij : i = j
            · subst hij
              rw [if_pos rfl, hasB_or hb, hasB_bit (by omega) hb, h4]
              constructor
              · rintro (⟨h1, h2, h3⟩ | rfl)
                · exact ⟨h1, by omega, h3⟩
                · exact ⟨by omega, by omega, hjk2.mpr hn⟩
              · rintro ⟨h1, h2, h3⟩
                by_cases hbj : k = b
                · exact Or.inr hbj
                · exact Or.inl ⟨h1, by omega, h3⟩
            · rw [if_neg hij, h4]
              constructor
              · rintro ⟨h1, h2, h3⟩; exact ⟨h1, by omega, h3⟩
              · rintro ⟨h1, h2, h3⟩; exact ⟨h1, by omega, h3⟩
        · rw [if_neg hn, h4]
          constructor
          · rintro ⟨h1, h2, h3⟩; exact ⟨h1, by omega, h3⟩
          · rintro ⟨h1, h2, h3⟩
            refine ⟨h1, ?_, h3⟩
            by_cases c1 : i = k ∧ b = j
            · obtain ⟨rfl, rfl⟩ := c1; exact absurd (hkj.mp h3) hn
            · by_cases c2 : b = k ∧ i = j
              · obtain ⟨rfl, rfl⟩ := c2; exact absurd (hjk2.mp h3) hn
              · omega
      · rw [if_neg hw, ev_bd, ev_s]
        refine ⟨rfl, nI_s _, hf4, fun m i b hm hi hb => ?_⟩
        dsimp only
        rw [hb4 m i b hm hi hb]
        have hkj : ¬ sgt F L t (nI m) k j = true := by
          unfold sgt; rw [decide_eq_true_eq]; exact fun h => hw h.2.2
        have hjk2 : ¬ sgt F L t (nI m) j k = true := by
          rw [sgt_sym hO (by omega) hk']; exact hkj
        constructor
        · rintro ⟨h1, h2, h3⟩; exact ⟨h1, by omega, h3⟩
        · rintro ⟨h1, h2, h3⟩
          refine ⟨h1, ?_, h3⟩
          by_cases c1 : i = k ∧ b = j
          · obtain ⟨rfl, rfl⟩ := c1; exact absurd h3 hkj
          · by_cases c2 : b = k ∧ i = j
            · obtain ⟨rfl, rfl⟩ := c2; exact absurd h3 hjk2
            · omega
theorem PP.c_tops_50_26 {N : Nat} {σ : Sg} (hN : 100 < N) : Ev (f_X6_takeTops_50_26 N σ) (fun σ' => Fr [51] σ σ' ∧ ∀ i, i < 9 → σ' 51 i = σ 14 i + σ 26 i) := by
  unfold f_X6_takeTops_50_26
  rw [ev_b]
  refine (ev_fill 51 9 N (fun k => σ 14 k + σ 26 k) σ _ rfl (by omega) ?_ ?_).imp ?_
  · intro k σ' hk h1 h2 h3
    unfold s_X6_takeTops_50_26_h2
    dsimp only
    simp (disch := omega) only [show (9 : Int32) = nI 9 from rfl, nI_le, show ¬ 9 ≤ k by omega, if_false, nI_g]
    simp (disch := omega) only [nI_cl, nI_s, bd, h1 14 (by decide), h1 26 (by decide)]
  · intro σ' h1
    unfold s_X6_takeTops_50_26_h2
    exact ⟨_, if_pos (by dsimp only; decide)⟩
  · rintro z ⟨h1, h2, h3⟩
    rw [ev_s]
    exact ⟨h1, h2⟩
theorem PP.c_build_50_26 {N F : Nat} {L σ : Sg} {t : Nat → Int32} (hN : 100 < N) (hO : LandOK F L) (hL : LC F L σ) (ht : ∀ i, i < F → L 2 i + σ 26 i = t i) : Ev (f_X6_build_50_26 N σ) (fun σ' => RC 50 F L t σ' ∧ Fr [51, 52] σ σ') := by
  have hF := hO.1
  unfold f_X6_build_50_26
  refine (c_tops_50_26 hN).bind ?_
  rintro σ1 ⟨hf1, hv1⟩
  rw [ev_b]
  refine (ev_fill 52 90 N (fun _ => 0) σ1 _ rfl (by omega) ?_ ?_).imp ?_
  · intro k σ' hk h1 h2 h3
    unfold s_X6_build_50_26_h7
    dsimp only
    simp (disch := omega) only [show (90 : Int32) = nI 90 from rfl, nI_le, show ¬ 90 ≤ k by omega, if_false, nI_g]
    simp (disch := omega) only [nI_cl, nI_s, bd]
  · intro σ' h1
    unfold s_X6_build_50_26_h7
    exact ⟨_, if_pos (by dsimp only; decide)⟩
  rintro ⟨_, _, σ2⟩ ⟨hf2, hz2, -⟩
  dsimp only at hf2 hz2 ⊢
  have hL2 : LC F L σ2 := (hL.fr hf1 (by decide)).fr hf2 (by decide)
  have ht2 : ∀ i, i < F → σ2 51 i = t i := by
    intro i hi
    rw [hf2 51 (by decide), hv1 i (by omega), ← ht i hi, (hL.2.2.2.2.2.2.1 i hi).2.1]
  rw [ev_b]
  refine ev_lp (fun k q => q.1 = nI k ∧ Fr [52] σ2 q.2 ∧ ∀ m i b, m < 10 → i < F → b < 32 → (hasB (q.2 52 (m * 9 + i)) b ↔ b < F ∧ (i < k ∧ b < k) ∧ sgt F L t (nI m) i b = true)) F N _ (by omega) ⟨rfl, Fr.refl _ _, fun m i b hm hi hb => ?_⟩ ?_
  · dsimp only
    rw [hz2 _ (by omega)]
    exact ⟨fun h => absurd h (hasB_0 hb), fun h => absurd h.2.1.1 (by omega)⟩
  rintro k ⟨i, σ3⟩ hk ⟨e, hf3, hb3⟩
  dsimp only at e hf3 hb3
  subst e
  have hL3 : LC F L σ3 := hL2.fr hf3 (by decide)
  unfold s_X6_build_50_26_h31
  dsimp only
  have l3 := hL3.2.1
  by_cases hkF : k = F
  · subst hkF
    rw [if_pos (by rw [l3]; exact Int32.le_refl _), ev_s]
    refine Or.inr ⟨Nat.one_ne_zero, ev_s.mpr ⟨⟨?_, ?_⟩, ?_⟩⟩
    · intro i hi
      dsimp only
      rw [hf3 (50 + 1) (by decide)]
      exact ht2 i hi
    · intro m i hm hi
      refine ext_B fun b hb => ?_
      dsimp only [Nat.reduceAdd]
      rw [hb3 m i b hm hi hb]
      unfold sees
      rw [hasB_mk (by omega) hb]
      exact ⟨fun h => ⟨h.1, h.2.2⟩, fun h => ⟨h.1, ⟨hi, h.1⟩, h.2⟩⟩
    · exact ((hf1.mo (by decide)).tr (hf2.mo (by decide))).tr (hf3.mo (by decide))
  · have hk' : k < F := by omega
    rw [if_neg (by rw [l3, nI_le (by omega) (by omega)]; omega), ev_b]
    refine ev_lp (fun j q => q.1 = nI j ∧ Fr [52] σ2 q.2 ∧ ∀ m i b, m < 10 → i < F → b < 32 → (hasB (q.2 52 (m * 9 + i)) b ↔ b < F ∧ ((i < k ∧ b < k) ∨ (i = k ∧ b < j) ∨ (b = k ∧ i < j)) ∧ sgt F L t (nI m) i b = true)) k N _ (by omega) ⟨rfl, hf3, fun m i b hm hi hb => ?_⟩ ?_
    · dsimp only
      rw [hb3 m i b hm hi hb]
      simp
    rintro j ⟨i, σ4⟩ hj ⟨e, hf4, hb4⟩
    dsimp only at e hf4 hb4
    subst e
    have hL4 : LC F L σ4 := hL2.fr hf4 (by decide)
    unfold s_X6_build_50_26_h44 f_X6_build_50_26_b64
    dsimp only
    by_cases hjk : j = k
    · subst hjk
      rw [if_pos (Int32.le_refl _), ev_s]
      refine Or.inr ⟨Nat.one_ne_zero, ?_⟩
      dsimp only
      rw [ev_bd, ev_s]
      refine Or.inl ⟨rfl, hk', nI_s _, hf4, fun m i b hm hi hb => ?_⟩
      dsimp only
      rw [hb4 m i b hm hi hb]
      have hs : ∀ x, ¬ sgt F L t (nI m) x x = true := by
        intro x; unfold sgt; simp
      constructor
      · rintro ⟨h1, h2, h3⟩; exact ⟨h1, by omega, h3⟩
      · rintro ⟨h1, h2, h3⟩
        refine ⟨h1, ?_, h3⟩
        by_cases hib : i = b
        · subst hib; exact absurd h3 (hs i)
        · omega
    · have hj' : j < k := by omega
      have ht4 : ∀ i, i < F → σ4 51 i = t i := by intro i hi; rw [hf4 51 (by decide)]; exact ht2 i hi
      refine Ev.imp (P := fun r => r.1 = 0 ∧ _) ?_ (fun r h => Or.inl ⟨h.1, hj', h.2⟩)
      rw [if_neg (by rw [nI_le (by omega) (by omega)]; omega), c_way_50 (by omega) hO hL4 ht4 hk' (by omega), Option.bind_some]
      dsimp only
      by_cases hw : way F L t k j = 0
      · rw [if_pos hw]
        refine (c_mark_50 (by omega) hO hL4 hk' (by omega) (by omega)).bind ?_
        rintro σ5 ⟨hf5, hb5⟩
        rw [ev_bd, ev_s]
        refine ⟨rfl, nI_s _, hf4.tr hf5, fun m i b hm hi hb => ?_⟩
        dsimp only
        rw [hb5 m i hm (by omega)]
        have hkj : sgt F L t (nI m) k j = true ↔ aw L k j ≤ L 0 1 - 9 * nI m := by
          unfold sgt; rw [decide_eq_true_eq]
          exact ⟨fun h => h.2.1, fun h => ⟨by omega, h, hw⟩⟩
        have hjk2 : sgt F L t (nI m) j k = true ↔ aw L k j ≤ L 0 1 - 9 * nI m := by
          rw [sgt_sym hO (by omega) hk']; exact hkj
        have h4 := hb4 m i b hm hi hb
        by_cases hn : aw L k j ≤ L 0 1 - 9 * nI m
        · rw [if_pos hn]
          by_cases hik : i = k
          · subst hik
            rw [if_pos rfl, hasB_or hb, hasB_bit (by omega) hb, h4]
            constructor
            · rintro (⟨h1, h2, h3⟩ | rfl)
              · exact ⟨h1, by omega, h3⟩
              · exact ⟨by omega, by omega, hkj.mpr hn⟩
            · rintro ⟨h1, h2, h3⟩
              by_cases hbj : j = b
              · exact Or.inr hbj
              · exact Or.inl ⟨h1, by omega, h3⟩
          · rw [if_neg hik]
            by_cases hij : i = j
            · subst hij
              rw [if_pos rfl, hasB_or hb, hasB_bit (by omega) hb, h4]
              constructor
              · rintro (⟨h1, h2, h3⟩ | rfl)
                · exact ⟨h1, by omega, h3⟩
                · exact ⟨by omega, by omega, hjk2.mpr hn⟩
              · rintro ⟨h1, h2, h3⟩
                by_cases hbj : k = b
                · exact Or.inr hbj
                · exact Or.inl ⟨h1, by omega, h3⟩
            · rw [if_neg hij, h4]
              constructor
              · rintro ⟨h1, h2, h3⟩; exact ⟨h1, by omega, h3⟩
              · rintro ⟨h1, h2, h3⟩; exact ⟨h1, by omega, h3⟩
        · rw [if_neg hn, h4]
          constructor
          · rintro ⟨h1, h2, h3⟩; exact ⟨h1, by omega, h3⟩
          · rintro ⟨h1, h2, h3⟩
            refine ⟨h1, ?_, h3⟩
            by_cases c1 : i = k ∧ b = j
            · obtain ⟨rfl, rfl⟩ := c1; exact absurd (hkj.mp h3) hn
            · by_cases c2 : b = k ∧ i = j
              · obtain ⟨rfl, rfl⟩ := c2; exact absurd (hjk2.mp h3) hn
              · omega
      · rw [if_neg hw, ev_bd, ev_s]
        refine ⟨rfl, nI_s _, hf4, fun m i b hm hi hb => ?_⟩
        dsimp only
        rw [hb4 m i b hm hi hb]
        have hkj : ¬ sgt F L t (nI m) k j = true := by
          unfold sgt; rw [decide_eq_true_eq]; exact fun h => hw h.2.2
        have hjk2 : ¬ sgt F L t (nI m) j k = true := by
          rw [sgt_sym hO (by omega) hk']; exact hkj
        constructor
        · rintro ⟨h1, h2, h3⟩; exact ⟨h1, by omega, h3⟩
        · rintro ⟨h1, h2, h3⟩
          refine ⟨h1, ?_, h3⟩
          by_cases c1 : i = k ∧ b = j
          · obtain ⟨rfl, rfl⟩ := c1; exact absurd h3 hkj
          · by_cases c2 : b = k ∧ i = j
            · obtain ⟨rfl, rfl⟩ := c2; exact absurd h3 hjk2
            · omega
theorem PP.c_tops_50_60 {N : Nat} {σ : Sg} (hN : 100 < N) : Ev (f_X6_takeTops_50_60 N σ) (fun σ' => Fr [51] σ σ' ∧ ∀ i, i < 9 → σ' 51 i = σ 14 i + σ 60 i) := by
  unfold f_X6_takeTops_50_60
  rw [ev_b]
  refine (ev_fill 51 9 N (fun k => σ 14 k + σ 60 k) σ _ rfl (by omega) ?_ ?_).imp ?_
  · intro k σ' hk h1 h2 h3
    unfold s_X6_takeTops_50_60_h2
    dsimp only
    simp (disch := omega) only [show (9 : Int32) = nI 9 from rfl, nI_le, show ¬ 9 ≤ k by omega, if_false, nI_g]
    simp (disch := omega) only [nI_cl, nI_s, bd, h1 14 (by decide), h1 60 (by decide)]
  · intro σ' h1
    unfold s_X6_takeTops_50_60_h2
    exact ⟨_, if_pos (by dsimp only; decide)⟩
  · rintro z ⟨h1, h2, h3⟩
    rw [ev_s]
    exact ⟨h1, h2⟩
theorem PP.c_build_50_60 {N F : Nat} {L σ : Sg} {t : Nat → Int32} (hN : 100 < N) (hO : LandOK F L) (hL : LC F L σ) (ht : ∀ i, i < F → L 2 i + σ 60 i = t i) : Ev (f_X6_build_50_60 N σ) (fun σ' => RC 50 F L t σ' ∧ Fr [51, 52] σ σ') := by
  have hF := hO.1
  unfold f_X6_build_50_60
  refine (c_tops_50_60 hN).bind ?_
  rintro σ1 ⟨hf1, hv1⟩
  rw [ev_b]
  refine (ev_fill 52 90 N (fun _ => 0) σ1 _ rfl (by omega) ?_ ?_).imp ?_
  · intro k σ' hk h1 h2 h3
    unfold s_X6_build_50_60_h7
    dsimp only
    simp (disch := omega) only [show (90 : Int32) = nI 90 from rfl, nI_le, show ¬ 90 ≤ k by omega, if_false, nI_g]
    simp (disch := omega) only [nI_cl, nI_s, bd]
  · intro σ' h1
    unfold s_X6_build_50_60_h7
    exact ⟨_, if_pos (by dsimp only; decide)⟩
  rintro ⟨_, _, σ2⟩ ⟨hf2, hz2, -⟩
  dsimp only at hf2 hz2 ⊢
  have hL2 : LC F L σ2 := (hL.fr hf1 (by decide)).fr hf2 (by decide)
  have ht2 : ∀ i, i < F → σ2 51 i = t i := by
    intro i hi
    rw [hf2 51 (by decide), hv1 i (by omega), ← ht i hi, (hL.2.2.2.2.2.2.1 i hi).2.1]
  rw [ev_b]
  refine ev_lp (fun k q => q.1 = nI k ∧ Fr [52] σ2 q.2 ∧ ∀ m i b, m < 10 → i < F → b < 32 → (hasB (q.2 52 (m * 9 + i)) b ↔ b < F ∧ (i < k ∧ b < k) ∧ sgt F L t (nI m) i b = true)) F N _ (by omega) ⟨rfl, Fr.refl _ _, fun m i b hm hi hb => ?_⟩ ?_
  · dsimp only
    rw [hz2 _ (by omega)]
    exact ⟨fun h => absurd h (hasB_0 hb), fun h => absurd h.2.1.1 (by omega)⟩
  rintro k ⟨i, σ3⟩ hk ⟨e, hf3, hb3⟩
  dsimp only at e hf3 hb3
  subst e
  have hL3 : LC F L σ3 := hL2.fr hf3 (by decide)
  unfold s_X6_build_50_60_h31
  dsimp only
  have l3 := hL3.2.1
  by_cases hkF : k = F
  · subst hkF
    rw [if_pos (by rw [l3]; exact Int32.le_refl _), ev_s]
    refine Or.inr ⟨Nat.one_ne_zero, ev_s.mpr ⟨⟨?_, ?_⟩, ?_⟩⟩
    · intro i hi
      dsimp only
      rw [hf3 (50 + 1) (by decide)]
      exact ht2 i hi
    · intro m i hm hi
      refine ext_B fun b hb => ?_
      dsimp only [Nat.reduceAdd]
      rw [hb3 m i b hm hi hb]
      unfold sees
      rw [hasB_mk (by omega) hb]
      exact ⟨fun h => ⟨h.1, h.2.2⟩, fun h => ⟨h.1, ⟨hi, h.1⟩, h.2⟩⟩
    · exact ((hf1.mo (by decide)).tr (hf2.mo (by decide))).tr (hf3.mo (by decide))
  · have hk' : k < F := by omega
    rw [if_neg (by rw [l3, nI_le (by omega) (by omega)]; omega), ev_b]
    refine ev_lp (fun j q => q.1 = nI j ∧ Fr [52] σ2 q.2 ∧ ∀ m i b, m < 10 → i < F → b < 32 → (hasB (q.2 52 (m * 9 + i)) b ↔ b < F ∧ ((i < k ∧ b < k) ∨ (i = k ∧ b < j) ∨ (b = k ∧ i < j)) ∧ sgt F L t (nI m) i b = true)) k N _ (by omega) ⟨rfl, hf3, fun m i b hm hi hb => ?_⟩ ?_
    · dsimp only
      rw [hb3 m i b hm hi hb]
      simp
    rintro j ⟨i, σ4⟩ hj ⟨e, hf4, hb4⟩
    dsimp only at e hf4 hb4
    subst e
    have hL4 : LC F L σ4 := hL2.fr hf4 (by decide)
    unfold s_X6_build_50_60_h44 f_X6_build_50_60_b64
    dsimp only
    by_cases hjk : j = k
    · subst hjk
      rw [if_pos (Int32.le_refl _), ev_s]
      refine Or.inr ⟨Nat.one_ne_zero, ?_⟩
      dsimp only
      rw [ev_bd, ev_s]
      refine Or.inl ⟨rfl, hk', nI_s _, hf4, fun m i b hm hi hb => ?_⟩
      dsimp only
      rw [hb4 m i b hm hi hb]
      have hs : ∀ x, ¬ sgt F L t (nI m) x x = true := by
        intro x; unfold sgt; simp
      constructor
      · rintro ⟨h1, h2, h3⟩; exact ⟨h1, by omega, h3⟩
      · rintro ⟨h1, h2, h3⟩
        refine ⟨h1, ?_, h3⟩
        by_cases hib : i = b
        · subst hib; exact absurd h3 (hs i)
        · omega
    · have hj' : j < k := by omega
      have ht4 : ∀ i, i < F → σ4 51 i = t i := by intro i hi; rw [hf4 51 (by decide)]; exact ht2 i hi
      refine Ev.imp (P := fun r => r.1 = 0 ∧ _) ?_ (fun r h => Or.inl ⟨h.1, hj', h.2⟩)
      rw [if_neg (by rw [nI_le (by omega) (by omega)]; omega), c_way_50 (by omega) hO hL4 ht4 hk' (by omega), Option.bind_some]
      dsimp only
      by_cases hw : way F L t k j = 0
      · rw [if_pos hw]
        refine (c_mark_50 (by omega) hO hL4 hk' (by omega) (by omega)).bind ?_
        rintro σ5 ⟨hf5, hb5⟩
        rw [ev_bd, ev_s]
        refine ⟨rfl, nI_s _, hf4.tr hf5, fun m i b hm hi hb => ?_⟩
        dsimp only
        rw [hb5 m i hm (by omega)]
        have hkj : sgt F L t (nI m) k j = true ↔ aw L k j ≤ L 0 1 - 9 * nI m := by
          unfold sgt; rw [decide_eq_true_eq]
          exact ⟨fun h => h.2.1, fun h => ⟨by omega, h, hw⟩⟩
        have hjk2 : sgt F L t (nI m) j k = true ↔ aw L k j ≤ L 0 1 - 9 * nI m := by
          rw [sgt_sym hO (by omega) hk']; exact hkj
        have h4 := hb4 m i b hm hi hb
        by_cases hn : aw L k j ≤ L 0 1 - 9 * nI m
        · rw [if_pos hn]
          by_cases hik : i = k
          · subst hik
            rw [if_pos rfl, hasB_or hb, hasB_bit (by omega) hb, h4]
            constructor
            · rintro (⟨h1, h2, h3⟩ | rfl)
              · exact ⟨h1, by omega, h3⟩
              · exact ⟨by omega, by omega, hkj.mpr hn⟩
            · rintro ⟨h1, h2, h3⟩
              by_cases hbj : j = b
              · exact Or.inr hbj
              · exact Or.inl ⟨h1, by omega, h3⟩
          · rw [if_neg hik]
            by_cases hij : i = j
            · subst hij
              rw [if_pos rfl, hasB_or hb, hasB_bit (by omega) hb, h4]
              constructor
              · rintro (⟨h1, h2, h3⟩ | rfl)
                · exact ⟨h1, by omega, h3⟩
                · exact ⟨by omega, by omega, hjk2.mpr hn⟩
              · rintro ⟨h1, h2, h3⟩
                by_cases hbj : k = b
                · exact Or.inr hbj
                · exact Or.inl ⟨h1, by omega, h3⟩
            · rw [if_neg hij, h4]
              constructor
              · rintro ⟨h1, h2, h3⟩; exact ⟨h1, by omega, h3⟩
              · rintro ⟨h1, h2, h3⟩; exact ⟨h1, by omega, h3⟩
        · rw [if_neg hn, h4]
          constructor
          · rintro ⟨h1, h2, h3⟩; exact ⟨h1, by omega, h3⟩
          · rintro ⟨h1, h2, h3⟩
            refine ⟨h1, ?_, h3⟩
            by_cases c1 : i = k ∧ b = j
            · obtain ⟨rfl, rfl⟩ := c1; exact absurd (hkj.mp h3) hn
            · by_cases c2 : b = k ∧ i = j
              · obtain ⟨rfl, rfl⟩ := c2; exact absurd (hjk2.mp h3) hn
              · omega
      · rw [if_neg hw, ev_bd, ev_s]
        refine ⟨rfl, nI_s _, hf4, fun m i b hm hi hb => ?_⟩
        dsimp only
        rw [hb4 m i b hm hi hb]
        have hkj : ¬ sgt F L t (nI m) k j = true := by
          unfold sgt; rw [decide_eq_true_eq]; exact fun h => hw h.2.2
        have hjk2 : ¬ sgt F L t (nI m) j k = true := by
          rw [sgt_sym hO (by omega) hk']; exact hkj
        constructor
        · rintro ⟨h1, h2, h3⟩; exact ⟨h1, by omega, h3⟩
        · rintro ⟨h1, h2, h3⟩
          refine ⟨h1, ?_, h3⟩
          by_cases c1 : i = k ∧ b = j
          · obtain ⟨rfl, rfl⟩ := c1; exact absurd h3 hkj
          · by_cases c2 : b = k ∧ i = j
            · obtain ⟨rfl, rfl⟩ := c2; exact absurd h3 hjk2
            · omega
