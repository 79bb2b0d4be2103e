/-! ===== sight, rest ===== -/
/-- one number and the line's end: class writes it to place `a` of the draft, the reference to place `a` of what was told -/
def PP.oneC (N : Nat) (a : Nat) (x y : Int32) (σ : Sg) : Option (Int32 × Sg) := (f_X3_advance_2 N σ).bind fun q2 =>
(f_X3_isNumber_2 N x y q2).bind fun q3 =>
if q3.1 = 0 then (some ((0 : Int32), (q3.2)))
else (bd (wr (q3.2) 3 a ((q3.2) 2 10)) fun σ4 =>
(f_X3_advance_2 N σ4).bind fun q5 =>
(f_X3_endsLine_2 N q5).bind fun q6 =>
if ¬ (q6.1 = 0 ∨ q6.1 = 1) then none else some (q6.1, (q6.2)))
def PP.oneM (N : Nat) (a : Nat) (x y : Int32) (τ : Sg) : Option Sg := (f_X12_stepOn N τ).bind fun q6 => (f_X12_readNumber N x y q6).bind fun q4 => (bd (wr (q4.2) 3 a q4.1) fun σ5 => some σ5)
theorem PP.j_one {N n p c a : Nat} {t : Nat → Int32} {x y : Int32} {σ τ : Sg} (hN : 1000 < N) (ha : 5 ≤ a) (h1 : PSC t n p σ) (h2 : PSM t n p τ) (hb : τ 0 20 = 0) (hk : tk t n p ≠ 0) (hc : c ≤ 700) (h9 : σ 9 0 = nI c) : E2 (oneC N a x y σ) ((oneM N a x y τ).bind fun q => f_X12_mark N 59 q) (fun r q => FL σ τ r q ∨ (r.1 = 1 ∧ ∃ p' v, tb t n p < tb t n p' ∧ PSC t n p' r.2 ∧ PSM t n p' q ∧ q 0 20 = 0 ∧ x ≤ v ∧ v ≤ y ∧ F2 [5, 6, 7, 8, 9, 10] (wr σ 3 a v) r.2 ∧ FM [] [14, 16, 17, 18, 19] (wr τ 3 a v) q)) := by
  have kn := tk_ne h1.1 hk
  unfold oneC oneM
  obtain ⟨τ1, e3, hP', hf'⟩ := m_stepOn (N := N) (e := te t n p) hN h2.2.1 kn.2.2.1 h2.2.2.2.1
  obtain ⟨σ1, e6, hP, hf⟩ := c_advance (N := N) (e := te t n p) hN h1.2.1 kn.2.2.1 h1.2.2.2.1
  have b1 : τ1 0 20 = 0 := (hf'.2 20 (by decide)).trans hb
  have s9 : σ1 9 0 = nI c := by rw [hf.1 9 (by decide)]; exact h9
  rw [e3, e6, Option.bind_some, Option.bind_some]
  unfold f_X12_readNumber f_X12_readNumber_b18
  obtain ⟨r, q, e1, e2, hj⟩ := j_num (N := N) (x := x) (y := y) hP hP' b1 hc s9
  rw [e1, e2, Option.bind_some, Option.bind_some]
  rcases hj with ⟨r1, r2, hF, hg, hg'⟩ | ⟨rfl, rfl, k2, e10, v1, v2⟩
  · rw [if_pos r1]
    show E2 _ (((((if q.2 0 20 = 0 then _ else _ : Option (Int32 × Sg))).bind _)).bind _) _
    rw [if_neg hF.1, Option.bind_some]
    show E2 _ (f_X12_mark N 59 (wr q.2 3 a q.1)) _
    have e0 : wr q.2 3 a q.1 0 = q.2 0 := wr_n (by decide)
    rw [m_markB (by rw [e0]; exact hF.1), e2_s]
    exact Or.inl ⟨rfl, hF.m e0, hf.qc.tr hg.qc, ((hf'.qm (by decide)).tr hg'.qm).w (by omega)⟩
  · dsimp only
    rw [if_neg (by decide), e2_bl]
    show E2 _ (((((if τ1 0 20 = 0 then _ else _ : Option (Int32 × Sg))).bind _)).bind _) _
    rw [if_pos b1]
    have kn2 := tk_ne hP.1 (show tk t n (te t n p) ≠ 0 by omega)
    obtain ⟨τ3, e3', hP3', hf3'⟩ := m_stepOn (N := N) (e := te t n (te t n p)) hN hP'.2.1 kn2.2.2.1 hP'.2.2.2.1
    have hP2c : PSC t n (te t n p) (wr σ1 3 a (σ1 2 10)) := hP.fr (wr_n (by decide)) (wr_n (by decide))
    obtain ⟨σ3, e6', hP3c, hf3⟩ := c_advance (N := N) (e := te t n (te t n p)) hN hP2c.2.1 kn2.2.2.1 hP2c.2.2.2.1
    rw [e3', e6', Option.bind_some, Option.bind_some]
    show E2 _ (f_X12_mark N 59 (wr τ3 3 a (τ1 0 17))) _
    rw [e10] at hf3
    have s93 : σ3 9 0 = nI c := by rw [hf3.1 9 (by decide), wr_n (by decide)]; exact s9
    have b3 : wr τ3 3 a (τ1 0 17) 0 20 = 0 := by rw [wr_n (by decide)]; exact (hf3'.2 20 (by decide)).trans b1
    have PM : PSM t n (te t n (te t n p)) (wr τ3 3 a (τ1 0 17)) := hP3'.fr (wr_n (by decide)) (wr_n (by decide))
    obtain ⟨r, q, f8, g8, hj⟩ := j_end (N := N) hN hP3c PM b3 hc s93
    rw [f8, g8, Option.bind_some]
    rcases hj with ⟨r1, hF, hg, hg'⟩ | ⟨r1, k8, P8, M8, b8, F8, G8⟩
    · rw [if_neg (by rw [r1]; decide), e2_s]
      exact Or.inl ⟨r1, hF, ((hf.qc.w (by decide)).tr hf3.qc).tr hg, (((hf'.qm (by decide)).tr (hf3'.qm (by decide))).w (by omega)).tr hg'⟩
    · rw [if_neg (by rw [r1]; decide), e2_s]
      have kn3 := tk_ne hP3c.1 (show tk t n (te t n (te t n p)) ≠ 0 by omega)
      refine Or.inr ⟨r1, _, τ1 0 17, by omega, P8, M8, b8, v1, v2, ⟨fun k hk2 => ?_, fun j hj => ?_⟩, ⟨fun k hk0 _ => ?_, fun j hj => ?_⟩⟩
      · dsimp only
        rw [F8.1 k hk2, hf3.1 k hk2]
        by_cases e : k = 3
        · subst e; rw [wr_e, wr_e, hf.1 3 (by decide)]
        · rw [wr_n e, wr_n e, hf.1 k hk2]
      · dsimp only
        rw [F8.2 j hj, hf3.2 j hj, wr_n (by decide), wr_n (by decide), hf.2 j hj]
      · rw [G8.1 k hk0 (by simp)]
        by_cases e : k = 3
        · subst e; rw [wr_e, wr_e, hf3'.1 3 (by decide) (by decide), hf'.1 3 (by decide) (by decide)]
        · rw [wr_n e, wr_n e, hf3'.1 k hk0 (by simp), hf'.1 k hk0 (by simp)]
      · rw [G8.2 j hj, wr_n (by decide), wr_n (by decide), hf3'.2 j hj, hf'.2 j hj]
/-! ===== mist ===== -/
def PP.DM (k : Nat) (σ τ : Sg) : Prop := k ≤ 8 ∧ ∀ i, i < k → σ 8 i = τ 9 (8 + i) ∧ 0 ≤ σ 8 i ∧ σ 8 i ≤ 9
def PP.misC (N : Nat) (σ : Sg) : Option (Int32 × Sg) := ((f_X3_advance_2 N σ).bind fun q5 =>
(f_X3_isNumber_2 N (0 : Int32) (9 : Int32) q5).bind fun q6 =>
if q6.1 = 0 then (some ((0 : Int32), (q6.2)))
else ((it (fun q => s_X3_readsMist_2_h34 N q.1 q.2) N ((0 : Int32), (q6.2))).bind fun z7 =>
if z7.1 = 1 then (some ((0 : Int32), (z7.2.2)))
else (if (((z7.2.2) 2 5) < 0 ∨ 27 ≤ ((z7.2.2) 2 5).toNatClampNeg) then none else
if ((z7.2.2) 2 5) = (2 : Int32) then ((f_X3_fails_2 N (2 : Int32) (z7.2.2)).bind fun q11 =>
if ¬ (q11.1 = 0 ∨ q11.1 = 1) then none else some (q11.1, (q11.2)))
else ((f_X3_endsLine_2 N (z7.2.2)).bind fun q9 =>
if ¬ (q9.1 = 0 ∨ q9.1 = 1) then none else some (q9.1, (q9.2))))))
/-- what the two loops over the mists leave: a fault, too many, or the numbers -/
theorem PP.j_mists {N n p c : Nat} {t : Nat → Int32} {σ τ : Sg} (hN : 1000 < N) (h1 : PSC t n p σ) (h2 : PSM t n p τ) (hb : τ 0 20 = 0) (hc : c ≤ 700) (h9 : σ 9 0 = nI c) (h38 : σ 3 8 = 0) : E2 (it (fun q => s_X3_readsMist_2_h34 N q.1 q.2) N ((0 : Int32), σ)) (it (fun q => s_X12_sayMists_h22 N q.1 q.2) N ((0 : Int32), τ)) (fun z y => QC σ z.2.2 ∧ QM τ y.2.2 ∧ ((z.1 = 1 ∧ y.1 = 1 ∧ FE z.2.2 y.2.2) ∨ (∃ p' k, (z.1 = 2 ∧ k ≤ 8 ∧ tb t n p ≤ tb t n p' ∧ (tk t n p = 2 → 1 ≤ k) ∧ PSC t n p' z.2.2 ∧ z.2.2 9 0 = nI c ∧ ((tk t n p' = 2 ∧ y.1 = 1 ∧ ∃ σ', f_X3_fails_2 N 2 z.2.2 = some (0, σ') ∧ FE σ' y.2.2 ∧ QC z.2.2 σ') ∨ (tk t n p' ≠ 2 ∧ y.1 = 2 ∧ y.2.1 = nI k ∧ PSM t n p' y.2.2 ∧ y.2.2 0 20 = 0 ∧ DM k z.2.2 y.2.2 ∧ z.2.2 3 8 = nI k ∧ Fr [2, 3, 8] σ z.2.2 ∧ (∀ j, j ≠ 8 → z.2.2 3 j = σ 3 j) ∧ (∀ j, j ∉ [5, 6, 7, 8, 9, 10] → z.2.2 2 j = σ 2 j) ∧ FM [9] [14, 16, 17, 18, 19] τ y.2.2)))))) := by
  refine e2_it (fun (k : Nat) (s : Int32 × Sg) (u : Int32 × Sg) => s.1 = nI k ∧ u.1 = nI k ∧ ∃ p', tb t n p ≤ tb t n p' ∧ (k = 0 → p' = p) ∧ PSC t n p' s.2 ∧ PSM t n p' u.2 ∧ u.2 0 20 = 0 ∧ DM k s.2 u.2 ∧ s.2 3 8 = nI k ∧ Fr [2, 3, 8] σ s.2 ∧ (∀ j, j ≠ 8 → s.2 3 j = σ 3 j) ∧ (∀ j, j ∉ [5, 6, 7, 8, 9, 10] → s.2 2 j = σ 2 j) ∧ FM [9] [14, 16, 17, 18, 19] τ u.2 ∧ QM τ u.2) 8 ?_ N _ _ 0 (by omega) (by omega) ⟨rfl, rfl, p, by omega, fun _ => rfl, h1, h2, hb, ⟨by omega, fun i hi => absurd hi (by omega)⟩, h38, Fr.refl _ _, fun _ _ => rfl, fun _ _ => rfl, FM.refl _ _ _, QM.refl _⟩
  rintro k ⟨k1, σ1⟩ ⟨k2, τ1⟩ hk ⟨e1, e2, p', hp, hp0, P1, M1, b1, D1, s38, fr, f3, f2, fm, qm⟩
  dsimp only at e1 e2 P1 M1 b1 D1 s38 fr f3 f2 fm qm
  subst e1 e2
  have hlt := tk_lt t n p' P1.1
  have s5 := P1.2.2.2.2.1
  have gd : ¬ (σ1 2 5 < 0 ∨ 27 ≤ (σ1 2 5).toNatClampNeg) := by rw [s5]; exact gdn hlt (by omega)
  have s9 : σ1 9 0 = nI c := by rw [fr 9 (by decide)]; exact h9
  have qc : QC σ σ1 := fr.mo (by decide)
  unfold s_X3_readsMist_2_h34 s_X12_sayMists_h22 f_X12_sayMists_b48
  dsimp only
  by_cases k8 : k = 8
  · subst k8
    rw [if_pos (show (8 : Int32) ≤ nI 8 by decide), if_pos b1]
    by_cases t2 : tk t n p' = 2
    · rw [if_pos (show τ1 0 16 = 2 by rw [M1.2.2.2.2.2.1]; exact mt_2.mpr t2), if_pos (show nI 8 = (8 : Int32) from rfl)]
      obtain ⟨σ', τ', a1, a2, hF, hg, hg'⟩ := j_fail (N := N) (x := 2) (by decide) P1 M1 b1 hc s9
      rw [a2, Option.bind_some, m_rnB hF.1, Option.bind_some, e2_br, if_neg hF.1, e2_s]
      exact Or.inr (Or.inl ⟨by simp, Nat.one_ne_zero, qc, qm.tr hg'.qm, Or.inr ⟨p', 8, rfl, by omega, hp, fun _ => by omega, P1, s9, Or.inl ⟨t2, rfl, σ', a1, hF, hg.qc⟩⟩⟩)
    · rw [if_neg (show ¬ τ1 0 16 = 2 by rw [M1.2.2.2.2.2.1]; exact fun hh => t2 (mt_2.mp hh)), e2_s]
      exact Or.inr (Or.inl ⟨by simp, by simp, qc, qm, Or.inr ⟨p', 8, rfl, by omega, hp, fun _ => by omega, P1, s9, Or.inr ⟨t2, rfl, rfl, M1, b1, D1, s38, fr, f3, f2, fm⟩⟩⟩)
  · rw [if_neg (show ¬ (8 : Int32) ≤ nI k by rw [show (8 : Int32) = nI 8 from rfl, nI_le (by omega) (by omega)]; omega), if_neg gd, if_pos b1]
    by_cases t2 : tk t n p' = 2
    · rw [if_pos (show σ1 2 5 = 2 by rw [s5, t2]; rfl), if_pos (show τ1 0 16 = 2 by rw [M1.2.2.2.2.2.1]; exact mt_2.mpr t2), if_neg (show ¬ nI k = 8 by rw [nI_lit (m := 8) (x := 8) (by omega) (by omega) rfl]; exact k8), tk8]
      obtain ⟨r, q, f6, g6, hj⟩ := j_take (N := N) (k := 8) (B := 8) (b := 8) (i := k) (x := 0) (y := 9) hN (by omega) rfl (by omega) (by omega) P1 M1 b1 hc s9
      rw [f6, g6, Option.bind_some, Option.bind_some, e2_br]
      rcases hj with ⟨r1, hF, hg, hg'⟩ | ⟨r1, w, ev, lo, hi9, -, P6, M6, b6, F6, G6⟩
      · rw [if_pos r1, if_neg hF.1, e2_s]
        exact Or.inr (Or.inl ⟨Nat.one_ne_zero, Nat.one_ne_zero, qc.tr hg, qm.tr hg', Or.inl ⟨rfl, rfl, hF⟩⟩)
      · have kn := tk_ne P1.1 (show tk t n p' ≠ 0 by omega)
        have e8 : (8 : Int32) + nI k = nI (8 + k) := by rw [show (8 : Int32) = nI 8 from rfl, nI_add]
        rw [if_neg (by rw [r1]; decide), if_pos b6, e8, if_neg (gdn (by omega) (by omega)), nI_cl (by omega), ev, e2_bl, e2_bl, e2_br, e2_br, e2_s]
        obtain ⟨rr, σ2⟩ := r
        obtain ⟨qq, τ2⟩ := q
        dsimp only at r1 ev P6 M6 b6 F6 G6
        refine Or.inl ⟨rfl, rfl, by omega, nI_s k, nI_s k, te t n p', by omega, fun hh => by omega, ?_, ?_, ?_, ⟨by omega, fun i hi => ?_⟩, ?_, fun d hd => ?_, fun j hj => ?_, fun j hj => ?_, ?_, ?_⟩
        · exact PSC.fr P6 (by dsimp only; rw [wr_n (by decide)]) (by dsimp only; rw [wr_n (by decide)])
        · exact PSM.fr M6 (by dsimp only; rw [wr_n (by decide)]) (by dsimp only; rw [wr_n (by decide)])
        · dsimp only; rw [wr_n (by decide)]; exact b6
        · dsimp only
          rw [wr_n (by decide), F6.1 8 (by decide), wr_e, wr_e, G6.1 9 (by decide) (by decide)]
          by_cases e : i = k
          · subst e; rw [upd_e, upd_e]; exact ⟨rfl, lo, hi9⟩
          · rw [upd_n e, upd_n (by omega)]; exact D1.2 i (by omega)
        · dsimp only; rw [wr_e, upd_e, nI_s]
        · dsimp only
          rw [wr_n (fun e => hd (by rw [e]; decide)), F6.1 d (fun e => hd (by rw [e]; decide)), wr_n (fun e => hd (by rw [e]; decide))]; exact fr d hd
        · dsimp only
          rw [wr_e, upd_n hj, F6.1 3 (by decide), wr_n (by decide)]; exact f3 j hj
        · dsimp only
          rw [wr_n (by decide), F6.2 j hj, wr_n (by decide)]; exact f2 j hj
        · exact (fm.tr (G6.mo (by decide) (by decide))).w (by decide) (by decide)
        · exact (qm.tr (G6.qm (by decide))).w (by omega)
    · rw [if_neg (show ¬ σ1 2 5 = 2 by rw [s5, nI_lit (m := 2) (x := 2) (by omega) (by omega) rfl]; exact t2), if_neg (show ¬ τ1 0 16 = 2 by rw [M1.2.2.2.2.2.1]; exact fun hh => t2 (mt_2.mp hh)), e2_s]
      refine Or.inr (Or.inl ⟨by simp, by simp, qc, qm, Or.inr ⟨p', k, rfl, by omega, hp, fun hh => ?_, P1, s9, Or.inr ⟨t2, rfl, rfl, M1, b1, D1, s38, fr, f3, f2, fm⟩⟩⟩)
      by_cases e : k = 0
      · rw [hp0 e] at t2; exact absurd hh t2
      · omega
