theorem PP.it_x {S : Type} {f : S → Option (Nat × S)} {N : Nat} {s : S} {r : Nat × S} (hN : 0 < N) (h : f s = some r) (h1 : r.1 ≠ 0) : it f N s = some r := by
  obtain ⟨M, rfl⟩ : ∃ M, N = M + 1 := ⟨N - 1, by omega⟩
  show ((f s).bind fun r => if r.1 = 0 then it f M r.2 else some r) = _
  rw [h, Option.bind_some, if_neg h1]
/-! where a fault was found, the reference stays as it is -/
theorem PP.m_prodL {N : Nat} {rm : Int32 → Sg → Option Sg} {x : Int32} {τ : Sg} (hN : 1000 < N) (hb : τ 0 20 ≠ 0) : ((it (fun q => s_X12_readProduct_h5 N rm x q) N τ).bind fun z8 => some (z8.2)) = some τ := by
  rw [it_x (f := fun q => s_X12_readProduct_h5 N rm x q) (by omega) (m_prodSB hb) Nat.one_ne_zero]; rfl
theorem PP.m_sumL {N : Nat} {rm : Int32 → Sg → Option Sg} {x : Int32} {τ : Sg} (hN : 1000 < N) (hb : τ 0 20 ≠ 0) : ((it (fun q => s_X12_readSum_h5 N rm x q) N τ).bind fun z8 => some (z8.2)) = some τ := by
  rw [it_x (f := fun q => s_X12_readSum_h5 N rm x q) (by omega) (m_sumSB hb) Nat.one_ne_zero]; rfl
theorem PP.m_partB {N : Nat} {rm : Int32 → Sg → Option Sg} {x : Int32} {τ : Sg} (hb : τ 0 20 ≠ 0) : f_X12_readPart N rm x τ = some τ := by
  unfold f_X12_readPart; rw [if_neg hb]
theorem PP.m_sumOf {N : Nat} {rm : Int32 → Sg → Option Sg} {x : Int32} {τ τ' : Sg} (hN : 1000 < N) (h : f_X12_readPart N rm x τ = some τ') (hb : τ' 0 20 ≠ 0) : f_X12_readSum N rm x τ = some τ' := by
  unfold f_X12_readSum f_X12_readProduct
  rw [h, Option.bind_some, m_prodL hN hb, Option.bind_some, m_sumL hN hb]
theorem PP.m_testOf {N : Nat} {rm : Int32 → Sg → Option Sg} {x : Int32} {τ τ' : Sg} (hN : 1000 < N) (h : f_X12_readPart N rm x τ = some τ') (hb : τ' 0 20 ≠ 0) : mtest N rm x τ = some τ' := by
  unfold mtest
  rw [m_sumOf hN h hb, Option.bind_some, m_mkdB hb, Option.bind_some]
  dsimp only
  rw [if_pos rfl, m_mkdB hb, Option.bind_some]
  dsimp only
  rw [if_pos rfl]
theorem PP.m_b93B {N k : Nat} {rm : Int32 → Sg → Option Sg} {τ : Sg} (hN : 1000 < N) (hk : k ≤ 7) (hb : τ 0 20 ≠ 0) : f_X12_readNot_b93 N rm (nI k) τ = some τ := by
  unfold f_X12_readNot_b93
  rw [← ev_eq, ev_b]
  refine ev_lp (fun (j : Nat) (q : Int32 × Sg) => q = (nI j, τ) ∧ j ≤ k) k N _ (by omega) ⟨rfl, by omega⟩ ?_
  rintro j _ hj ⟨rfl, hj2⟩
  unfold s_X12_readNot_h95
  dsimp only
  by_cases e : k = j
  · subst e
    rw [if_pos (Int32.le_refl _), ev_s]
    exact Or.inr ⟨Nat.one_ne_zero, ev_s.mpr rfl⟩
  · rw [if_neg (by rw [nI_le (by omega) (by omega)]; omega), m_layB hb, Option.bind_some, ev_bd, ev_s]
    exact Or.inl ⟨rfl, by omega, by dsimp only; rw [nI_s], by omega⟩
theorem PP.m_notOf {N : Nat} {rm : Int32 → Sg → Option Sg} {x : Int32} {τ τ' : Sg} (hN : 1000 < N) (h0 : f_X12_is N 8 τ = some (0, τ)) (h : f_X12_readPart N rm x τ = some τ') (hb : τ' 0 20 ≠ 0) : f_X12_readNot N rm x τ = some τ' := by
  unfold f_X12_readNot
  rw [it_x (f := fun q : Int32 × Sg => s_X12_readNot_h2 N rm x q.1 q.2) (s := ((0 : Int32), τ)) (r := (1, 0, τ)) (by omega) (by
    dsimp only
    unfold s_X12_readNot_h2
    rw [h0, Option.bind_some]
    dsimp only
    rw [if_pos rfl]) Nat.one_ne_zero, Option.bind_some]
  dsimp only
  rw [m_tail, m_testOf hN h hb, Option.bind_some]
  exact m_b93B (k := 0) hN (by omega) hb
theorem PP.m_andOf {N : Nat} {rm : Int32 → Sg → Option Sg} {x : Int32} {τ τ' : Sg} (hN : 1000 < N) (h0 : f_X12_is N 8 τ = some (0, τ)) (h : f_X12_readPart N rm x τ = some τ') (hb : τ' 0 20 ≠ 0) : f_X12_readAnd N rm x τ = some τ' := by
  unfold f_X12_readAnd
  rw [m_notOf hN h0 h hb, Option.bind_some, it_x (f := fun q => s_X12_readAnd_h5 N rm x q) (s := τ') (r := (1, τ')) (by omega) (by
    unfold s_X12_readAnd_h5
    rw [m_isB hN hb, Option.bind_some]
    dsimp only
    rw [if_pos rfl]) Nat.one_ne_zero]
  rfl
theorem PP.m_orOf {N : Nat} {rm : Int32 → Sg → Option Sg} {x : Int32} {τ τ' : Sg} (hN : 1000 < N) (h0 : f_X12_is N 8 τ = some (0, τ)) (h : f_X12_readPart N rm x τ = some τ') (hb : τ' 0 20 ≠ 0) : f_X12_readExpression_b62 N rm x τ = some τ' := by
  unfold f_X12_readExpression_b62
  rw [m_andOf hN h0 h hb, Option.bind_some, it_x (f := fun q => s_X12_readExpression_h67 N rm x q) (s := τ') (r := (1, τ')) (by omega) (by
    unfold s_X12_readExpression_h67
    rw [m_isB hN hb, Option.bind_some]
    dsimp only
    rw [if_pos rfl]) Nat.one_ne_zero]
  rfl
theorem PP.m_orB {N : Nat} {rm : Int32 → Sg → Option Sg} {x : Int32} {τ : Sg} (hN : 1000 < N) (hb : τ 0 20 ≠ 0) : f_X12_readExpression_b62 N rm x τ = some τ := m_orOf hN (m_isB hN hb) (m_partB hb) hb
theorem PP.m_exprB {N : Nat} {rm : Int32 → Sg → Option Sg} {x : Int32} {τ : Sg} (hb : τ 0 20 ≠ 0) : f_X12_readExpression N rm x τ = some τ := by
  unfold f_X12_readExpression; rw [if_neg hb]
theorem PP.wr_bad {τ : Sg} {x y : Int32} (hx : x ≠ 0) : wr (wr τ 0 20 x) 0 21 y 0 20 ≠ 0 := by rw [wr_e, upd_n (by decide), wr_e, upd_e]; exact hx
/-- below the sixth level the reference's own look ahead changes nothing -/
theorem PP.m_expr {N n p w : Nat} {t : Nat → Int32} {rm : Int32 → Sg → Option Sg} {τ : Sg} (hN : 1000 < N) (hw : w ≤ 5) (hrm : ∀ x τ, τ 0 20 ≠ 0 → rm x τ = some τ) (h : PSM t n p τ) (hb : τ 0 20 = 0) : f_X12_readExpression N rm (nI w) τ = f_X12_readExpression_b62 N rm (nI w) τ := by
  unfold f_X12_readExpression f_X12_readExpression_b33 f_X12_readExpression_b38
  have w6 : ¬ nI w = 6 := by rw [nI_lit (m := 6) (x := 6) (by omega) (by omega) rfl]; omega
  rw [if_pos hb, h.2.2.2.2.2.1, if_neg (show ¬ (1 : Int32) = 0 by decide), if_neg w6]
  by_cases k2 : mt (tk t n p) = 2
  · rw [if_pos k2]
  · rw [if_neg k2]
    by_cases k1 : mt (tk t n p) = 1
    · rw [if_pos k1]
    · rw [if_neg k1]
      by_cases k5 : tk t n p = 5
      · rw [m_mkd (i := 5) (x := 40) h hb (by omega) (by omega) rfl, if_pos k5, Option.bind_some]
        dsimp only
        rw [if_neg (by decide), if_neg (by decide), if_neg w6]
      · rw [m_mkd (i := 5) (x := 40) h hb (by omega) (by omega) rfl, if_neg k5, Option.bind_some]
        dsimp only
        rw [if_pos rfl, if_pos rfl, m_wrong hb, Option.bind_some]
        have hw1 : wr (wr τ 0 20 1) 0 21 (τ 0 18) 0 20 ≠ 0 := wr_bad (by decide)
        rw [m_orB hN hw1, m_orOf hN ?_ ?_ hw1]
        · rw [m_is hN h hb (by omega), if_neg]
          intro hh
          apply k1
          rw [mt_1, hh]; decide
        · unfold f_X12_readPart
          rw [if_pos hb, h.2.2.2.2.2.1, if_neg k2, if_neg k1, m_mark0 (i := 5) (x := 40) h hb (by omega) (by omega) rfl k5, m_wrong hb, Option.bind_some, hrm _ _ hw1, Option.bind_some, m_markB hw1, Option.bind_some]
theorem PP.j_not {N n p c d w : Nat} {t : Nat → Int32} {rc : Int32 → Sg → Option (Int32 × Sg)} {rm : Int32 → Sg → Option Sg} {σ τ : Sg} (hN : 1000 < N) (hw : w ≤ 5) (hR : RK N n t (w + 1) rc rm) (h : ER t n p c d σ τ) (hd : d ≤ 5 * w + 2) : E2 (f_X3_readsNot_2 N rc (nI w) σ) (f_X12_readNot N rm (nI w) τ) (PO t n p c d σ τ) := by
  have hn := h.1.2.1.1.1
  have hc := h.2.2.2.2
  unfold f_X3_readsNot_2 f_X12_readNot f_X3_readsNot_2_b50
  refine E2.bind (P := fun z y => GC σ z.2.2 ∧ GM τ y.2.2 ∧ ((∃ k p1, k ≤ 6 ∧ z.2.1 = nI k ∧ y.2.1 = nI k ∧ k + tb t n p ≤ tb t n p1 ∧ ER t n p1 c d z.2.2 y.2.2 ∧ tk t n p1 ≠ 20) ∨ (z.2.1 = 6 ∧ y.2.1 = nI 7 ∧ ∃ σ', z.2.2 2 5 = nI 20 ∧ f_X3_fails_2 N 2 z.2.2 = some (0, σ') ∧ FE σ' y.2.2 ∧ GC z.2.2 σ'))) ?_ ?_
  · refine e2_it (fun (k : Nat) (s : Int32 × Sg) (u : Int32 × Sg) => s.1 = nI k ∧ u.1 = nI k ∧ k ≤ 6 ∧ GC σ s.2 ∧ GM τ u.2 ∧ ∃ p1, k + tb t n p ≤ tb t n p1 ∧ ER t n p1 c d s.2 u.2) 6 ?_ N _ _ 0 (by omega) (by omega) ⟨rfl, rfl, by omega, GC.refl _, GM.refl _, p, by omega, h⟩
    rintro k ⟨k1, σ1⟩ ⟨k2, τ1⟩ hk ⟨e1, e2, hk6, g, g', p1, hp1, hE⟩
    dsimp only at e1 e2 g g' hE
    subst e1 e2
    have hlt := tk_lt t n p1 hE.1.1
    have s5 := hE.1.2.2.2.2.1
    have gd : ¬ (σ1 2 5 < 0 ∨ 27 ≤ (σ1 2 5).toNatClampNeg) := by rw [s5]; exact gdn hlt (by omega)
    unfold s_X3_readsNot_2_h2 s_X12_readNot_h2 f_X12_readNot_b22
    dsimp only
    rw [if_neg gd]
    by_cases k20 : tk t n p1 = 20
    · have ei : f_X12_is N 8 τ1 = some (1, τ1) := by rw [m_is hN hE.2.1 hE.2.2.1 (by omega), if_pos (show tk t n p1 = ox 8 from k20)]
      have kn := tk_ne hE.1.1 (show tk t n p1 ≠ 0 by omega)
      rw [if_pos (show σ1 2 5 = 20 by rw [s5, k20]; rfl), ei, Option.bind_some]
      dsimp only
      rw [if_neg (show ¬ (1 : Int32) = 0 by decide)]
      by_cases e6 : k = 6
      · subst e6
        rw [if_pos (show (6 : Int32) ≤ nI 6 by decide), if_pos (show nI 6 = (6 : Int32) from rfl)]
        obtain ⟨σ', τ', a1, a2, hF, hg, hg'⟩ := j_fail (N := N) (x := 2) (by decide) hE.1 hE.2.1 hE.2.2.1 (show c ≤ 700 by omega) hE.2.2.2.1.1
        rw [a2, Option.bind_some, e2_br, if_neg hF.1, e2_s]
        refine Or.inr (Or.inr ⟨Nat.one_ne_zero, rfl, ?_⟩)
        dsimp only
        rw [m_isB hN hF.1, Option.bind_some]
        dsimp only
        rw [if_pos rfl, ev_s]
        exact ⟨Nat.one_ne_zero, g, g'.tr hg', Or.inr ⟨rfl, rfl, σ', by rw [s5, k20], a1, hF, hg⟩⟩
      · rw [if_neg (show ¬ (6 : Int32) ≤ nI k by rw [show (6 : Int32) = nI 6 from rfl, nI_le (by omega) (by omega)]; omega), if_neg (show ¬ nI k = 6 by rw [nI_lit (m := 6) (x := 6) (by omega) (by omega) rfl]; exact e6), e2_bl, e2_br, if_pos hE.2.2.1]
        refine E2.bind (j_next hN hE (by omega)) ?_
        rintro σ2 τ2 ⟨hE2, g2, g2'⟩
        rw [e2_s]
        exact Or.inl ⟨rfl, rfl, by omega, nI_s k, nI_s k, by omega, g.tr g2, g'.tr g2', te t n p1, by omega, hE2⟩
    · have ei : f_X12_is N 8 τ1 = some (0, τ1) := by rw [m_is hN hE.2.1 hE.2.2.1 (by omega), if_neg (show ¬ tk t n p1 = ox 8 from k20)]
      rw [if_neg (show ¬ σ1 2 5 = 20 by rw [s5, nI_lit (m := 20) (x := 20) (by omega) (by omega) rfl]; exact k20), ei, Option.bind_some]
      dsimp only
      rw [if_pos rfl, e2_s]
      exact Or.inr (Or.inl ⟨Nat.one_ne_zero, Nat.one_ne_zero, g, g', Or.inl ⟨k, p1, hk6, rfl, rfl, hp1, hE, k20⟩⟩)
  · rintro ⟨z1, z2, σ1⟩ ⟨y1, y2, τ1⟩ ⟨g, g', hh⟩
    dsimp only at g g' hh ⊢
    rcases hh with ⟨k, p1, hk, rfl, rfl, hp1, hE, k20⟩ | ⟨rfl, rfl, σ', s5, a1, hF, hg⟩
    · have hlt := tk_lt t n p1 hE.1.1
      have s5 := hE.1.2.2.2.2.1
      have gd : ¬ (σ1 2 5 < 0 ∨ 27 ≤ (σ1 2 5).toNatClampNeg) := by rw [s5]; exact gdn hlt (by omega)
      rw [if_neg gd, if_neg (show ¬ σ1 2 5 = 20 by rw [s5, nI_lit (m := 20) (x := 20) (by omega) (by omega) rfl]; exact k20), m_tail]
      refine E2.bind (j_test hN hw hR hE hd) ?_
      rintro ⟨v, σ2⟩ τ2 hP
      rw [e2_bl]
      exact j_nots hN hn hk g g' hp1 hc hP
    · rw [if_neg (show ¬ (σ1 2 5 < 0 ∨ 27 ≤ (σ1 2 5).toNatClampNeg) by rw [s5]; exact gdn (by omega) (by omega)), if_pos (show σ1 2 5 = 20 from s5), if_pos rfl, a1, Option.bind_some, m_tail, m_testOf hN (m_partB hF.1) hF.1, Option.bind_some, m_b93B hN (by omega) hF.1]
      dsimp only
      rw [if_neg (by decide), e2_s]
      exact ⟨g.tr hg, g', Or.inl ⟨rfl, hF⟩⟩
