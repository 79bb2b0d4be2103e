theorem PP.j_line {N n p c : Nat} {t : Nat → Int32} {b1 b2 b4 b8 : Bool} {σ τ : Sg} (hN : 1000 < N) (h : LR t n p c b1 b2 b4 b8 σ τ) (hk : tk t n p ≠ 0) : E2 (f_X3_readsLine_2 N σ) (f_X12_readLine N (dne b1 b2 b4 b8) τ) (LL t n p σ τ) := by
  have h1 := h.1
  have h2 := h.2.1
  have hb := h.2.2.1
  have hn := h1.2.1.1.1
  have htb := tb_le (t := t) h1.1
  have hlt := tk_lt t n p h1.1
  have s5 := h1.2.2.2.2.1
  have g : ¬ (σ 2 5 < 0 ∨ 27 ≤ (σ 2 5).toNatClampNeg) := by rw [s5]; exact gdn hlt (by omega)
  have E : ∀ (m : Nat) (x : Int32), x = nI m → m < 27 → (σ 2 5 = x ↔ tk t n p = m) := fun m x hx hm => by rw [s5, nI_lit (m := m) (by omega) (by omega) hx]
  have E13 := E 13 13 rfl (by omega)
  have E14 := E 14 14 rfl (by omega)
  have E21 := E 21 21 rfl (by omega)
  have E15 := E 15 15 rfl (by omega)
  have E16 := E 16 16 rfl (by omega)
  have E17 := E 17 17 rfl (by omega)
  unfold f_X3_readsLine_2 f_X3_readsLine_2_b20 f_X3_readsLine_2_b36
  rw [m_line hN h2 hb, if_neg g]
  by_cases k13 : tk t n p = 13
  · have hw : wh1 (tk t n p) = 0 := by rw [k13]; rfl
    rw [if_pos (E13.mpr k13), if_neg g, if_neg (fun hh => by have := E14.mp hh; omega), if_neg (by omega), if_neg (by omega), if_neg (by omega), if_neg (by omega), hw]
    exact e2_ck (j_farmL hN h hk (Or.inl rfl)) (fun _ _ hh => hh.z)
  rw [if_neg (fun hh => k13 (E13.mp hh)), if_neg g]
  by_cases k14 : tk t n p = 14
  · have hw : wh1 (tk t n p) = 1 := by rw [k14]; rfl
    rw [if_pos (E14.mpr k14), if_neg g, if_pos (E14.mpr k14), if_neg (by omega), if_neg (by omega), if_neg (by omega), if_neg (by omega), hw]
    exact e2_ck (j_farmL hN h hk (Or.inr rfl)) (fun _ _ hh => hh.z)
  have hw : wh1 (tk t n p) = -1 := by unfold wh1; rw [if_neg k13, if_neg k14]
  rw [if_neg (fun hh => k14 (E14.mp hh)), if_neg g, hw]
  by_cases k21 : tk t n p = 21
  · rw [if_pos (E21.mpr k21), if_pos k21]
    exact e2_ck (j_mistL hN h k21) (fun _ _ hh => hh.z)
  rw [if_neg (fun hh => k21 (E21.mp hh)), if_neg k21, if_neg g]
  by_cases k15 : tk t n p = 15
  · rw [if_pos (E15.mpr k15), if_pos k15]
    exact e2_ck (j_sight hN h k15) (fun _ _ hh => hh.z)
  rw [if_neg (fun hh => k15 (E15.mp hh)), if_neg k15, if_neg g]
  by_cases k16 : tk t n p = 16
  · rw [if_pos (E16.mpr k16), if_pos k16]
    exact e2_ck (j_rest hN h k16) (fun _ _ hh => hh.z)
  rw [if_neg (fun hh => k16 (E16.mp hh)), if_neg k16, if_neg g]
  by_cases k17 : tk t n p = 17
  · rw [if_pos (E17.mpr k17), if_pos k17]
    exact e2_ck (j_mindsL hN h k17) (fun _ _ hh => hh.z)
  rw [if_neg (fun hh => k17 (E17.mp hh)), if_neg k17]
  obtain ⟨-, -, -, -, -, -, -, ⟨hC, -⟩, hc⟩ := h
  obtain ⟨σ', τ', a1, a2, hF, hg, hg'⟩ := j_fail (N := N) (x := 1) (by decide) h1 h2 hb (show c ≤ 700 by omega) hC.1
  rw [m_noL (dne0 b1 b2 b4 b8).1 a2 hF.1, a1, Option.bind_some]
  dsimp only
  rw [if_neg (by decide), e2_s]
  exact Or.inl ⟨rfl, hF, hg.qc, hg'.qm⟩
theorem PP.mt_0 {k : Nat} : mt k = 0 ↔ k = 0 := by
  unfold mt
  repeat' split
  all_goals constructor <;> intro h <;> first | omega | exact absurd h (by decide) | rfl
/-- all the lines -/
theorem PP.j_lines {N n p c : Nat} {t : Nat → Int32} {b1 b2 b4 b8 : Bool} {σ τ : Sg} (hN : 1000 < N) (h : LR t n p c b1 b2 b4 b8 σ τ) : E2 (it (fun q => s_X3_reads_2_h51 N q.1 q.2) N ((0 : Int32), σ)) (it (fun q => s_X12_upland_h95 N q.1 q.2) N (dne b1 b2 b4 b8, τ)) (fun z y => QC σ z.2.2 ∧ QM τ y.2.2 ∧ ((z.1 = 1 ∧ FE z.2.2 y.2.2) ∨ (z.1 = 2 ∧ ∃ p' c' a1 a2 a4 a8, LR t n p' c' a1 a2 a4 a8 z.2.2 y.2.2))) := by
  have hn := h.1.2.1.1.1
  refine e2_it (fun (k : Nat) (s : Int32 × Sg) (u : Int32 × Sg) => s.1 = nI k ∧ QC σ s.2 ∧ QM τ u.2 ∧ ∃ p' c' a1 a2 a4 a8, k ≤ tb t n p' ∧ u.1 = dne a1 a2 a4 a8 ∧ LR t n p' c' a1 a2 a4 a8 s.2 u.2) 700 ?_ N _ _ 0 (by omega) (by omega) ⟨rfl, Fr.refl _ _, QM.refl _, p, c, b1, b2, b4, b8, by omega, rfl, h⟩
  rintro k ⟨k1, σ1⟩ ⟨d, τ1⟩ hk ⟨e1, qc, qm, p', c', a1, a2, a4, a8, hkp, e2, hL⟩
  dsimp only at e1 qc qm e2 hL
  subst e1 e2
  have htb := tb_le (t := t) hL.1.1
  have hlt := tk_lt t n p' hL.1.1
  have s5 := hL.1.2.2.2.2.1
  unfold s_X3_reads_2_h51 s_X12_upland_h95
  dsimp only
  have g : ¬ (σ1 2 5 < 0 ∨ 27 ≤ (σ1 2 5).toNatClampNeg) := by rw [s5]; exact gdn hlt (by omega)
  have s16 := hL.2.1.2.2.2.2.2.1
  rw [if_pos hL.2.2.1]
  by_cases k0 : tk t n p' = 0
  · rw [if_pos (show τ1 0 16 = 0 by rw [s16]; exact mt_0.mpr k0)]
    by_cases k7 : (700 : Int32) ≤ nI k
    · rw [if_pos k7, e2_s]
      exact Or.inr (Or.inl ⟨by simp, Nat.one_ne_zero, qc, qm, Or.inr ⟨rfl, p', c', a1, a2, a4, a8, hL⟩⟩)
    · rw [if_neg k7, if_neg g, if_pos (show σ1 2 5 = 0 by rw [s5, k0]; rfl), e2_s]
      exact Or.inr (Or.inl ⟨by simp, Nat.one_ne_zero, qc, qm, Or.inr ⟨rfl, p', c', a1, a2, a4, a8, hL⟩⟩)
  · have kn := tk_ne hL.1.1 k0
    rw [if_neg (show ¬ τ1 0 16 = 0 by rw [s16]; exact fun hh => k0 (mt_0.mp hh)), if_neg (show ¬ (700 : Int32) ≤ nI k by rw [show (700 : Int32) = nI 700 from rfl, nI_le (by omega) (by omega)]; omega), if_neg g, if_neg (show ¬ σ1 2 5 = 0 by rw [s5, nI_lit (m := 0) (x := 0) (by omega) (by omega) rfl]; exact k0)]
    obtain ⟨⟨r, σ2⟩, ⟨d2, τ2⟩, f1, f2, hP⟩ := j_line hN hL k0
    rw [f1, f2, Option.bind_some, Option.bind_some, e2_br]
    rcases hP with ⟨r1, hF, g1, g2⟩ | ⟨r1, p2, c2, x1, x2, x4, x8, q1, q2, q3, g1, g2⟩
    · dsimp only at r1 hF g1 g2
      rw [if_pos r1, e2_s]
      refine Or.inr (Or.inr ⟨Nat.one_ne_zero, rfl, ?_⟩)
      dsimp only
      rw [if_neg hF.1, ev_s]
      exact ⟨Nat.one_ne_zero, qc.tr g1, qm.tr g2, Or.inl ⟨rfl, hF⟩⟩
    · dsimp only at r1 q2 q3 g1 g2
      rw [if_neg (show ¬ r = 0 by rw [r1]; decide), e2_bl, e2_s]
      exact Or.inl ⟨rfl, rfl, by omega, nI_s k, qc.tr g1, qm.tr g2, p2, c2, x1, x2, x4, x8, by omega, q2, q3⟩
