def PP.mtest (N : Nat) (rm : Int32 → Sg → Option Sg) (x : Int32) (τ : Sg) : Option Sg :=
  (f_X12_readSum N rm x τ).bind fun q13 => (f_X12_isMarked N 60 q13).bind fun q14 =>
    if q14.1 = 0 then ((f_X12_isMarked N 61 q14.2).bind fun q15 => if q15.1 = 0 then some q15.2 else (f_X12_isMarked N 60 q15.2).bind fun q11 => if q11.1 = 0 then ((f_X12_stepOn N q11.2).bind fun q8 => (f_X12_readSum N rm x q8).bind fun q9 => f_X12_lay N (-25) q9) else ((f_X12_stepOn N q11.2).bind fun q8 => (f_X12_readSum N rm x q8).bind fun q9 => f_X12_lay N (-24) q9))
    else (f_X12_isMarked N 60 q14.2).bind fun q11 => if q11.1 = 0 then ((f_X12_stepOn N q11.2).bind fun q8 => (f_X12_readSum N rm x q8).bind fun q9 => f_X12_lay N (-25) q9) else ((f_X12_stepOn N q11.2).bind fun q8 => (f_X12_readSum N rm x q8).bind fun q9 => f_X12_lay N (-24) q9)
theorem PP.m_tail {N : Nat} {rm : Int32 → Sg → Option Sg} {x k : Int32} {τ : Sg} : ((f_X12_readSum N rm x τ).bind fun q13 =>
(f_X12_isMarked N (60 : Int32) q13).bind fun q14 =>
if q14.1 = 0 then ((f_X12_isMarked N (61 : Int32) (q14.2)).bind fun q15 =>
if q15.1 = 0 then (f_X12_readNot_b93 N rm k (q15.2))
else (f_X12_readNot_b62 N rm x k (q15.2)))
else (f_X12_readNot_b62 N rm x k (q14.2))) = (mtest N rm x τ).bind fun q => f_X12_readNot_b93 N rm k q := by
  have b62 : ∀ q, f_X12_readNot_b62 N rm x k q = ((f_X12_isMarked N 60 q).bind fun q11 => if q11.1 = 0 then ((f_X12_stepOn N q11.2).bind fun q8 => (f_X12_readSum N rm x q8).bind fun q9 => f_X12_lay N (-25) q9) else ((f_X12_stepOn N q11.2).bind fun q8 => (f_X12_readSum N rm x q8).bind fun q9 => f_X12_lay N (-24) q9)).bind fun q => f_X12_readNot_b93 N rm k q := by
    intro q
    unfold f_X12_readNot_b62 f_X12_readNot_b78
    cases f_X12_isMarked N 60 q with
    | none => rfl
    | some q11 =>
      simp only [Option.bind_some]
      by_cases c : q11.1 = 0
      · simp only [if_pos c, Option.bind_assoc]
      · simp only [if_neg c, Option.bind_assoc]
  unfold mtest
  cases f_X12_readSum N rm x τ with
  | none => rfl
  | some q =>
    simp only [Option.bind_some]
    cases f_X12_isMarked N 60 q with
    | none => rfl
    | some q14 =>
      simp only [Option.bind_some]
      by_cases c : q14.1 = 0
      · simp only [if_pos c]
        cases f_X12_isMarked N 61 q14.2 with
        | none => rfl
        | some q15 =>
          simp only [Option.bind_some]
          by_cases c2 : q15.1 = 0
          · simp only [if_pos c2, Option.bind_some]
          · simp only [if_neg c2]; exact b62 _
      · simp only [if_neg c]; exact b62 _
theorem PP.PO.of {t : Nat → Int32} {n p c d p1 c1 : Nat} {σ τ σ1 τ1 : Sg} {r : Int32 × Sg} {q : Sg} (g1 : GC σ σ1) (g2 : GM τ τ1) (a : tb t n p ≤ tb t n p1) (b : c1 + tb t n p ≤ c + tb t n p1) (h : GC σ1 r.2 ∧ GM τ1 q ∧ ((r.1 = 0 ∧ FE r.2 q) ∨ (r.1 = 1 ∧ ∃ p' c', tb t n p1 < tb t n p' ∧ c' + tb t n p1 ≤ c1 + tb t n p' ∧ ER t n p' c' (d + 1) r.2 q))) : PO t n p c d σ τ r q := by
  obtain ⟨h1, h2, h3⟩ := h
  refine ⟨g1.tr h1, g2.tr h2, ?_⟩
  rcases h3 with h3 | ⟨h3, p', c', h4, h5, h6⟩
  · exact Or.inl h3
  · exact Or.inr ⟨h3, p', c', by omega, by omega, h6⟩
theorem PP.j_test {N n p c d w : Nat} {t : Nat → Int32} {rc : Int32 → Sg → Option (Int32 × Sg)} {rm : Int32 → Sg → Option Sg} {σ τ : Sg} (hN : 1000 < N) (hw : w ≤ 5) (hR : RK N n t (w + 1) rc rm) (h : ER t n p c d σ τ) (hd : d ≤ 5 * w + 2) : E2 (f_X3_readsTest_2 N rc (nI w) σ) (mtest N rm (nI w) τ) (PO t n p c d σ τ) := by
  unfold f_X3_readsTest_2 mtest f_X3_readsTest_2_b32
  refine E2.bind (j_sum hN hw hR h (by omega)) ?_
  rintro ⟨v, σ1⟩ τ1 ⟨g1, g1', hP⟩
  dsimp only at g1 g1' hP ⊢
  rcases hP with ⟨rfl, hF⟩ | ⟨rfl, p', c', q1, q2, hE⟩
  · rw [if_pos rfl, m_mkdB hF.1, Option.bind_some]
    dsimp only
    rw [if_pos rfl, m_mkdB hF.1, Option.bind_some]
    dsimp only
    rw [if_pos rfl, e2_s]
    exact ⟨g1, g1', Or.inl ⟨rfl, hF⟩⟩
  · have hlt := tk_lt t n p' hE.1.1
    have s5 := hE.1.2.2.2.2.1
    have g : ¬ (σ1 2 5 < 0 ∨ 27 ≤ (σ1 2 5).toNatClampNeg) := by rw [s5]; exact gdn hlt (by omega)
    rw [if_neg (by decide), if_neg g]
    have fin : ∀ x y : Int32, tk t n p' ≠ 0 → cvt y = x → okc y → -15 ≤ x → x < -7 → E2 ((f_X3_advance_2 N σ1).bind fun q3 => (f_X3_readsSum_2 N rc (nI w) q3).bind fun q4 => bd q4.1 fun v5 => (f_X4_add_9 N x (q4.2)).bind fun q6 => if ¬ (v5 = 0 ∨ v5 = 1) then none else some (v5, q6)) ((f_X12_stepOn N τ1).bind fun q8 => (f_X12_readSum N rm (nI w) q8).bind fun q9 => f_X12_lay N y q9) (PO t n p c d σ τ) := by
      intro x y hk hx hy hx1 hx2
      have hb := (j_bin (N := N) (sc := f_X3_readsSum_2 N rc (nI w)) (sm := f_X12_readSum N rm (nI w)) hN hE hk (fun p c σ τ hh => j_sum hN hw hR hh (by omega)) hx hy hx1 hx2).imp (fun r q hh => PO.of g1 g1' q1 q2 hh)
      have := e2_chk hb
      simp only [Option.bind_assoc, Option.bind_some] at this
      exact this
    by_cases k9 : tk t n p' = 11
    · have e1 : f_X12_isMarked N 60 τ1 = some (1, τ1) := by rw [m_mkd (i := 11) (x := 60) hE.2.1 hE.2.2.1 (by omega) (by omega) rfl, if_pos k9]
      rw [if_pos (show σ1 2 5 = 11 by rw [s5, k9]; rfl), if_neg g, e1, Option.bind_some, e2_bl]
      dsimp only
      rw [if_neg (by decide), e1, Option.bind_some]
      dsimp only
      rw [if_neg (by decide)]
      exact fin _ (-24) (by omega) (by rw [s5, nI_cl (by omega), k9]; decide) ⟨by decide, by decide⟩ (by rw [s5, nI_cl (by omega), k9]; decide) (by rw [s5, nI_cl (by omega), k9]; decide)
    · have e1 : f_X12_isMarked N 60 τ1 = some (0, τ1) := by rw [m_mkd (i := 11) (x := 60) hE.2.1 hE.2.2.1 (by omega) (by omega) rfl, if_neg k9]
      rw [if_neg (show ¬ σ1 2 5 = 11 by rw [s5, nI_lit (m := 11) (x := 11) (by omega) (by omega) rfl]; exact k9), if_neg g, e1, Option.bind_some]
      dsimp only
      rw [if_pos rfl]
      by_cases k10 : tk t n p' = 12
      · have e2 : f_X12_isMarked N 61 τ1 = some (1, τ1) := by rw [m_mkd (i := 12) (x := 61) hE.2.1 hE.2.2.1 (by omega) (by omega) rfl, if_pos k10]
        rw [if_pos (show σ1 2 5 = 12 by rw [s5, k10]; rfl), if_neg g, e2, Option.bind_some, e2_bl]
        dsimp only
        rw [if_neg (by decide), e1, Option.bind_some]
        dsimp only
        rw [if_pos rfl]
        exact fin _ (-25) (by omega) (by rw [s5, nI_cl (by omega), k10]; decide) ⟨by decide, by decide⟩ (by rw [s5, nI_cl (by omega), k10]; decide) (by rw [s5, nI_cl (by omega), k10]; decide)
      · have e2 : f_X12_isMarked N 61 τ1 = some (0, τ1) := by rw [m_mkd (i := 12) (x := 61) hE.2.1 hE.2.2.1 (by omega) (by omega) rfl, if_neg k10]
        rw [if_neg (show ¬ σ1 2 5 = 12 by rw [s5, nI_lit (m := 12) (x := 12) (by omega) (by omega) rfl]; exact k10), e2, Option.bind_some]
        dsimp only
        rw [if_pos rfl, e2_s]
        exact ⟨g1, g1', Or.inr ⟨rfl, p', c', q1, q2, hE⟩⟩
theorem PP.j_nots {N n p c d p1 k : Nat} {t : Nat → Int32} {rc : Int32 → Sg → Option (Int32 × Sg)} {rm : Int32 → Sg → Option Sg} {σ τ σ1 τ1 σ2 τ2 : Sg} {v : Int32} (hN : 1000 < N) (hn : n ≤ 700) (hk : k ≤ 6) (g1 : GC σ σ1) (g1' : GM τ τ1) (a : k + tb t n p ≤ tb t n p1) (hc : c ≤ tb t n p) (h : PO t n p1 c d σ1 τ1 (v, σ2) τ2) : E2 ((it (fun q => s_X3_readsNot_2_h59 N rc (nI k) v q.1 q.2) N ((0 : Int32), σ2)).bind fun z8 => if ¬ (v = 0 ∨ v = 1) then none else some (v, (z8.2.2))) (f_X12_readNot_b93 N rm (nI k) τ2) (PO t n p c d σ τ) := by
  unfold f_X12_readNot_b93
  refine E2.bind (P := fun z y => PO t n p c d σ τ (v, z.2.2) y.2.2) ?_ ?_
  · obtain ⟨g2, g2', h⟩ := h
    dsimp only at g2 g2' h
    refine e2_it (fun (j : Nat) (s : Int32 × Sg) (u : Int32 × Sg) => s.1 = nI j ∧ u.1 = nI j ∧ j ≤ k ∧ GC σ s.2 ∧ GM τ u.2 ∧ ((v = 0 ∧ FE s.2 u.2) ∨ (v = 1 ∧ ∃ p' c', tb t n p1 ≤ tb t n p' ∧ p' ≤ n ∧ c' + tb t n p1 ≤ c + tb t n p' ∧ PSC t n p' s.2 ∧ PSM t n p' u.2 ∧ u.2 0 20 = 0 ∧ CR (c' + j) (d + 1) s.2 u.2))) k ?_ N _ _ 0 (by omega) (by omega) ?_
    · rintro j ⟨j1, σ3⟩ ⟨j2, τ3⟩ hj ⟨e1, e2, e3, g3, g3', hh⟩
      dsimp only at e1 e2 g3 g3' hh
      subst e1 e2
      unfold s_X3_readsNot_2_h59 s_X12_readNot_h95
      dsimp only
      by_cases hjk : k = j
      · subst hjk
        rw [if_pos (Int32.le_refl _), if_pos (Int32.le_refl _), e2_s]
        refine Or.inr (Or.inl ⟨Nat.one_ne_zero, Nat.one_ne_zero, g3, g3', ?_⟩)
        rcases hh with hh | ⟨rfl, p', c', q1, q0, q2, b1, b2, b3, b4⟩
        · exact Or.inl hh
        · exact Or.inr ⟨rfl, p', c' + k, by omega, by omega, b1, b2, b3, b4, by omega⟩
      · have hl : ¬ nI k ≤ nI j := by rw [nI_le (by omega) (by omega)]; omega
        rw [if_neg hl, if_neg hl]
        rcases hh with ⟨hv, f1, f2, f3, c9, hc9, e9⟩ | ⟨hv, p', c', q1, q0, q2, b1, b2, b3, b4⟩
        · rw [m_layB f1, Option.bind_some]
          refine e2_l (c_addF e9 hc9) ?_
          rintro σ4 ⟨k1, k2⟩
          rw [e2_bl, e2_br, e2_s]
          refine Or.inl ⟨rfl, rfl, by omega, nI_s j, nI_s j, by omega, g3.tr ⟨fun k a1 a2 a3 => k1 k a2 a3, fun j _ => congrFun (k1 2 (by decide) (by decide)) j⟩, g3', Or.inl ⟨hv, f1, ?_, ?_, k2⟩⟩
          · dsimp only; rw [k1 2 (by decide) (by decide)]; exact f2
          · dsimp only; rw [k1 2 (by decide) (by decide)]; exact f3
        · have htb := tb_le (t := t) q0
          obtain ⟨σ', τ', e4, e5, hC', f1, f2, hg, hg'⟩ := j_lay (N := N) (x := -7) (y := -28) b4 (by omega) b3 (by decide) ⟨by decide, by decide⟩ (by decide) (fun hh => absurd hh (by decide)) (fun _ => by omega) (fun hh => absurd hh (by decide))
          rw [e4, e5, Option.bind_some, Option.bind_some, e2_bl, e2_br, e2_s]
          refine Or.inl ⟨rfl, rfl, by omega, nI_s j, nI_s j, by omega, g3.tr hg, g3'.tr hg', Or.inr ⟨hv, p', c', q1, q0, q2, b1.fr (f1 1 (by decide) (by decide)) (f1 2 (by decide) (by decide)), b2.fr (f2 0 (by decide) (by decide)) (f2 12 (by decide) (by decide)), ?_, ?_⟩⟩
          · dsimp only; rw [f2 0 (by decide) (by decide)]; exact b3
          · have ed : dn (-7) (d + 1) = d + 1 := by unfold dn; rw [if_neg (by decide), if_pos rfl]
            rw [ed] at hC'; exact hC'
    · refine ⟨rfl, rfl, by omega, g1.tr g2, g1'.tr g2', ?_⟩
      rcases h with h | ⟨h, p', c', q1, q2, b1, b2, b3, b4, b5⟩
      · exact Or.inl h
      · exact Or.inr ⟨h, p', c', q1, b1.1, q2, b1, b2, b3, b4⟩
  · rintro ⟨z1, z2, z3⟩ ⟨y1, y2, y3⟩ hP
    dsimp only at hP ⊢
    rw [if_neg, e2_s]
    · exact hP
    · rcases hP.2.2 with ⟨h, -⟩ | ⟨h, -⟩
      · exact fun x => x (Or.inl h)
      · exact fun x => x (Or.inr h)
