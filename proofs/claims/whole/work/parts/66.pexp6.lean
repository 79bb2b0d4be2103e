theorem PP.j_and {N n p c d w : Nat} {t : Nat → Int32} {rc : Int32 → Sg → Option (Int32 × Sg)} {rm : Int32 → Sg → Option Sg} {σ τ : Sg} (hN : 1000 < N) (hw : w ≤ 5) (hR : RK N n t (w + 1) rc rm) (h : ER t n p c d σ τ) (hd : d ≤ 5 * w + 1) : E2 (f_X3_readsAnd_2 N rc (nI w) σ) (f_X12_readAnd N rm (nI w) τ) (PO t n p c d σ τ) := by
  have hn := h.1.2.1.1.1
  unfold f_X3_readsAnd_2 f_X12_readAnd
  refine E2.bind (j_not hN hw hR h (by omega)) ?_
  rintro ⟨v, σ1⟩ τ1 hP
  rw [e2_bl]
  refine j_loop hN hn hP ?_ ?_
  · intro k3 σ2 τ2 hF
    dsimp only
    unfold s_X3_readsAnd_2_h8 s_X12_readAnd_h5
    rw [m_isB hN hF.1, Option.bind_some]
    dsimp only
    rw [if_pos (show (0 : Int32) = 0 from rfl)]
    refine ⟨?_, ?_⟩
    · by_cases c1 : σ2 2 4 ≤ k3
      · rw [if_pos c1]
      · rw [if_neg c1]
    · first | rfl | rw [if_pos rfl]
  · intro k p2 c2 σ2 τ2 hE hk
    dsimp only
    have hlt := tk_lt t n p2 hE.1.1
    have htb := tb_le (t := t) hE.1.1
    have s5 := hE.1.2.2.2.2.1
    have g : ¬ (σ2 2 5 < 0 ∨ 27 ≤ (σ2 2 5).toNatClampNeg) := by rw [s5]; exact gdn hlt (by omega)
    unfold s_X3_readsAnd_2_h8 s_X12_readAnd_h5
    rw [m_is hN hE.2.1 hE.2.2.1 (by omega), Option.bind_some]
    dsimp only
    by_cases k9 : tk t n p2 = 19
    · have kn := tk_ne hE.1.1 (show tk t n p2 ≠ 0 by omega)
      rw [if_neg (show ¬ σ2 2 4 ≤ nI k by rw [hE.1.2.1.2.1, nI_le (by omega) (by omega)]; omega), if_neg (show ¬ (1 : Int32) = 0 by decide), if_neg g, if_pos (show σ2 2 5 = 19 by rw [s5, k9]; rfl), if_neg (show ¬ (if tk t n p2 = ox 9 then (1 : Int32) else 0) = 0 by rw [if_pos (show tk t n p2 = ox 9 from k9)]; decide)]
      exact (j_op hN hE (by omega) (fun p c σ τ hh => j_not hN hw hR hh (by omega)) (by decide) ⟨by decide, by decide⟩ (by decide) (by decide)).imp (fun _ _ hh => Or.inr hh)
    · rw [if_pos (show (if tk t n p2 = ox 9 then (1 : Int32) else 0) = 0 by rw [if_neg (show ¬ tk t n p2 = ox 9 from k9)])]
      by_cases c1 : σ2 2 4 ≤ nI k
      · rw [if_pos c1, e2_s]
        exact Or.inl ⟨rfl, rfl⟩
      · rw [if_neg c1, if_neg (show ¬ (1 : Int32) = 0 by decide), if_neg g, if_neg (show ¬ σ2 2 5 = 19 by rw [s5, nI_lit (m := 19) (x := 19) (by omega) (by omega) rfl]; exact k9), e2_s]
        exact Or.inl ⟨rfl, rfl⟩
theorem PP.j_or {N n p c d w : Nat} {t : Nat → Int32} {rc : Int32 → Sg → Option (Int32 × Sg)} {rm : Int32 → Sg → Option Sg} {σ τ : Sg} (hN : 1000 < N) (hw : w ≤ 5) (hR : RK N n t (w + 1) rc rm) (h : ER t n p c d σ τ) (hd : d ≤ 5 * w + 0) : E2 (f_X3_readsExpression_2 N rc (nI w) σ) (f_X12_readExpression N rm (nI w) τ) (PO t n p c d σ τ) := by
  have hn := h.1.2.1.1.1
  have w6 : nI w < 6 := by rw [show (6 : Int32) = nI 6 from rfl, nI_lt (by omega) (by omega)]; omega
  unfold f_X3_readsExpression_2
  rw [if_pos w6, m_expr hN hw hR.1 h.2.1 h.2.2.1]
  unfold f_X12_readExpression_b62
  refine E2.bind (j_and hN hw hR h (by omega)) ?_
  rintro ⟨v, σ1⟩ τ1 hP
  rw [e2_bl]
  refine j_loop hN hn hP ?_ ?_
  · intro k3 σ2 τ2 hF
    dsimp only
    unfold s_X3_readsExpression_2_h61 s_X12_readExpression_h67
    rw [m_isB hN hF.1, Option.bind_some]
    dsimp only
    rw [if_pos (show (0 : Int32) = 0 from rfl)]
    refine ⟨?_, ?_⟩
    · by_cases c1 : σ2 2 4 ≤ k3
      · rw [if_pos c1]
      · rw [if_neg c1]
    · first | rfl | rw [if_pos rfl]
  · intro k p2 c2 σ2 τ2 hE hk
    dsimp only
    have hlt := tk_lt t n p2 hE.1.1
    have htb := tb_le (t := t) hE.1.1
    have s5 := hE.1.2.2.2.2.1
    have g : ¬ (σ2 2 5 < 0 ∨ 27 ≤ (σ2 2 5).toNatClampNeg) := by rw [s5]; exact gdn hlt (by omega)
    unfold s_X3_readsExpression_2_h61 s_X12_readExpression_h67
    rw [m_is hN hE.2.1 hE.2.2.1 (by omega), Option.bind_some]
    dsimp only
    by_cases k9 : tk t n p2 = 18
    · have kn := tk_ne hE.1.1 (show tk t n p2 ≠ 0 by omega)
      rw [if_neg (show ¬ σ2 2 4 ≤ nI k by rw [hE.1.2.1.2.1, nI_le (by omega) (by omega)]; omega), if_neg (show ¬ (1 : Int32) = 0 by decide), if_neg g, if_pos (show σ2 2 5 = 18 by rw [s5, k9]; rfl), if_neg (show ¬ (if tk t n p2 = ox 10 then (1 : Int32) else 0) = 0 by rw [if_pos (show tk t n p2 = ox 10 from k9)]; decide)]
      exact (j_op hN hE (by omega) (fun p c σ τ hh => j_and hN hw hR hh (by omega)) (by decide) ⟨by decide, by decide⟩ (by decide) (by decide)).imp (fun _ _ hh => Or.inr hh)
    · rw [if_pos (show (if tk t n p2 = ox 10 then (1 : Int32) else 0) = 0 by rw [if_neg (show ¬ tk t n p2 = ox 10 from k9)])]
      by_cases c1 : σ2 2 4 ≤ nI k
      · rw [if_pos c1, e2_s]
        exact Or.inl ⟨rfl, rfl⟩
      · rw [if_neg c1, if_neg (show ¬ (1 : Int32) = 0 by decide), if_neg g, if_neg (show ¬ σ2 2 5 = 18 by rw [s5, nI_lit (m := 18) (x := 18) (by omega) (by omega) rfl]; exact k9), e2_s]
        exact Or.inl ⟨rfl, rfl⟩
theorem PP.j_six {N n p c d : Nat} {t : Nat → Int32} {rc : Int32 → Sg → Option (Int32 × Sg)} {rm : Int32 → Sg → Option Sg} {σ τ : Sg} (hN : 1000 < N) (h : ER t n p c d σ τ) : E2 (f_X3_readsExpression_2 N rc (nI 6) σ) (f_X12_readExpression N rm (nI 6) τ) (PO t n p c d σ τ) := by
  obtain ⟨h1, h2, hb, hC, hc⟩ := id h
  have hn := h1.2.1.1.1
  have hlt := tk_lt t n p h1.1
  have htb := tb_le (t := t) h1.1
  have s5 := h1.2.2.2.2.1
  have g : ¬ (σ 2 5 < 0 ∨ 27 ≤ (σ 2 5).toNatClampNeg) := by rw [s5]; exact gdn hlt (by omega)
  have fin : ∀ x : Int32, x ≠ 0 → E2 ((f_X3_fails_2 N x σ).bind fun q7 => if ¬ (q7.1 = 0 ∨ q7.1 = 1) then none else some (q7.1, (q7.2))) ((f_X12_wrong N x τ).bind fun q8 => f_X12_readExpression_b62 N rm (nI 6) q8) (PO t n p c d σ τ) := by
    intro x hx
    obtain ⟨σ', τ', a1, a2, hF, hg, hg'⟩ := j_fail (N := N) hx h1 h2 hb (show c ≤ 700 by omega) hC.1
    rw [a1, a2, Option.bind_some, Option.bind_some, m_orB hN hF.1]
    dsimp only
    rw [if_neg (by decide), e2_s]
    exact ⟨hg, hg', Or.inl ⟨rfl, hF⟩⟩
  unfold f_X3_readsExpression_2 f_X12_readExpression f_X3_readsExpression_2_b33 f_X3_readsExpression_2_b38 f_X3_readsExpression_2_b49 f_X12_readExpression_b33 f_X12_readExpression_b38
  rw [if_neg (show ¬ nI 6 < (6 : Int32) by decide), if_pos hb, h2.2.2.2.2.2.1, if_neg (show ¬ (1 : Int32) = 0 by decide), if_neg (show ¬ (1 : Int32) = 0 by decide), if_pos (show nI 6 = (6 : Int32) from rfl), if_pos (show (0 : Int32) = 0 from rfl)]
  by_cases hwd : isw (tk t n p) = true
  · have s8 : ¬ σ 2 8 = 0 := by rw [h1.2.2.2.2.2.1, if_pos hwd]; decide
    have k2 : ¬ mt (tk t n p) = 2 := by rw [mt_1.mpr hwd]; decide
    rw [if_neg s8, if_neg k2, if_pos (mt_1.mpr hwd)]
    exact fin 2 (by decide)
  · have s8 : σ 2 8 = 0 := by rw [h1.2.2.2.2.2.1, if_neg hwd]
    rw [if_pos s8, if_neg g]
    by_cases k2 : tk t n p = 2
    · rw [if_pos (show σ 2 5 = 2 by rw [s5, k2]; rfl), if_pos (mt_2.mpr k2)]
      exact fin 2 (by decide)
    · rw [if_neg (show ¬ σ 2 5 = 2 by rw [s5, nI_lit (m := 2) (x := 2) (by omega) (by omega) rfl]; exact k2), if_neg (fun hh => k2 (mt_2.mp hh)), if_neg (fun hh => hwd (mt_1.mp hh)), if_neg g]
      by_cases k5 : tk t n p = 5
      · rw [if_pos (show σ 2 5 = 5 by rw [s5, k5]; rfl), m_mkd (i := 5) (x := 40) h2 hb (by omega) (by omega) rfl, if_pos k5, Option.bind_some]
        dsimp only
        rw [if_neg (by decide), if_neg (by decide), if_pos (show nI 6 = (6 : Int32) from rfl)]
        exact fin 2 (by decide)
      · rw [if_neg (show ¬ σ 2 5 = 5 by rw [s5, nI_lit (m := 5) (x := 5) (by omega) (by omega) rfl]; exact k5), m_mkd (i := 5) (x := 40) h2 hb (by omega) (by omega) rfl, if_neg k5, Option.bind_some]
        dsimp only
        rw [if_pos rfl, if_pos rfl]
        exact fin 1 (by decide)
theorem PP.rk {N n : Nat} {t : Nat → Int32} (hN : 1000 < N) : ∀ k w, w ≤ 6 → 7 ≤ w + k → RK N n t w (fr_X3 N k) (fr_X12 N k)
  | 0, w, h1, h2 => absurd h2 (by omega)
  | k + 1, w, h1, h2 => by
    refine ⟨fun x τ hb => m_exprB hb, fun p c d σ τ h hd => ?_⟩
    show E2 (f_X3_readsExpression_2 N (fr_X3 N k) (nI w) σ) (f_X12_readExpression N (fr_X12 N k) (nI w) τ) _
    by_cases h6 : w = 6
    · subst h6; exact j_six hN h
    · exact j_or hN (by omega) (rk hN k (w + 1) (by omega) (by omega)) h (by omega)
/-- an expression, read by both -/
theorem PP.j_expr {N n p c : Nat} {t : Nat → Int32} {σ τ : Sg} (hN : 1000 < N) (h : ER t n p c 0 σ τ) : E2 (fr_X3 N 8 0 σ) (fr_X12 N 8 0 τ) (PO t n p c 0 σ τ) := (rk hN 8 0 (by omega) (by omega)).2 p c 0 σ τ h (by omega)
