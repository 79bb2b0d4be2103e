theorem PP.PSC.w {t : Nat → Int32} {n p j : Nat} {v : Int32} {σ : Sg} (h : PSC t n p σ) (hj : j ∉ [2, 4, 5, 6, 7, 8, 9, 10]) : PSC t n p (wr σ 2 j v) := by
  have e : ∀ k, k ∈ [2, 4, 5, 6, 7, 8, 9, 10] → wr σ 2 j v 2 k = σ 2 k := fun k hk => by rw [wr_e, upd_n (fun e => hj (by rw [← e]; exact hk))]
  have e1 : wr σ 2 j v 1 = σ 1 := wr_n (by decide)
  unfold PSC TCl at h ⊢
  rw [e1, e 2 (by decide), e 4 (by decide), e 5 (by decide), e 6 (by decide), e 7 (by decide), e 8 (by decide), e 9 (by decide), e 10 (by decide)]
  exact h
theorem PP.FL.l {σ σ1 τ : Sg} {r : Int32 × Sg} {q : Sg} (h : FL σ1 τ r q) (f : QC σ σ1) : FL σ τ r q := ⟨h.1, h.2.1, f.tr h.2.2.1, h.2.2.2⟩
/-- told before: the same fault -/
theorem PP.j_again {N n p c : Nat} {t : Nat → Int32} {x t0 : Int32} {σ τ : Sg} (h1 : PSC t n p σ) (h2 : PSM t n p τ) (hb : τ 0 20 = 0) (hc : c ≤ 700) (h9 : σ 9 0 = nI c) (h0 : 0 < t0) (ha : ¬ (t0 &&& x) = 0) : E2 ((f_X3_fails_2 N (5 : Int32) σ).bind fun q4 => if ¬ (q4.1 = 0 ∨ q4.1 = 1) then none else some (q4.1, (q4.2))) (f_X12_readLine_b66 N x (-1) t0 τ) (LL t n p σ τ) := by
  obtain ⟨σ', τ', a1, a2, hF, hg, hg'⟩ := j_fail (N := N) (x := 5) (by decide) h1 h2 hb hc h9
  rw [m_again h0 ha a2 hF.1, a1, Option.bind_some]
  dsimp only
  rw [if_neg (by decide), e2_s]
  exact Or.inl ⟨rfl, hF, hg.qc, hg'.qm⟩
theorem PP.j_sight {N n p c : Nat} {t : Nat → Int32} {b1 b2 b4 b8 : Bool} {σ τ : Sg} (hN : 1000 < N) (h : LR t n p c b1 b2 b4 b8 σ τ) (hk : tk t n p = 15) : E2 (f_X3_readsSight_2 N σ) (f_X12_readLine_b66 N (dne b1 b2 b4 b8) (-1) 2 τ) (LL t n p σ τ) := by
  obtain ⟨h1, h2, hb, ⟨m, hD⟩, ⟨s1, s2, s3, s4⟩, hT, ⟨k, m1, m2, m3, m4⟩, ⟨hC, hC0⟩, hc⟩ := h
  have htb := tb_le (t := t) h1.1
  have hn := h1.2.1.1.1
  unfold f_X3_readsSight_2
  cases b2 with
  | true =>
    rw [if_neg (show ¬ σ 2 11 = 0 by rw [s4]; decide)]
    exact j_again h1 h2 hb (by omega) hC.1 (by decide) (fun hh => by have := (dne2 b1 true b4 b8).1.mp hh; cases this)
  | false =>
    rw [if_pos (show σ 2 11 = 0 by rw [s4]; rfl), e2_bl, m_told (by decide) ((dne2 b1 false b4 b8).1.mpr rfl) hb, m_once2]
    have qc1 : QC σ (wr σ 2 11 1) := (Fr.refl _ _).wr (by decide)
    refine e2_fs (j_one (N := N) (a := 6) (x := 1) (y := 99) hN (by omega) (h1.w (by decide)) h2 hb (by omega) (show c ≤ 700 by omega) (by rw [wr_n (by decide)]; exact hC.1)) ?_
    rintro ⟨r1, σ3⟩ q hh
    rcases hh with hh | ⟨e1, p', v, q1, q2, q3, q4, q5, q6, q7, q8⟩
    · exact Or.inl (hh.l qc1)
    · dsimp only at e1 q2 q7
      have cS : ∀ k, k ≠ 2 → k ≠ 3 → σ3 k = σ k := fun k k2 k3 => by rw [q7.1 k k2, wr_n k3, wr_n k2]
      have cT : ∀ k, k ≠ 0 → k ≠ 3 → q k = τ k := fun k k0 k3 => by rw [q8.1 k k0 (by simp), wr_n k3]
      have c3 : ∀ j, j ≠ 6 → σ3 3 j = σ 3 j := fun j hj => by rw [q7.1 3 (by decide), wr_e, upd_n hj, wr_n (by decide)]
      have t3 : ∀ j, j ≠ 6 → q 3 j = τ 3 j := fun j hj => by rw [q8.1 3 (by decide) (by simp), wr_e, upd_n hj]
      have e36 : σ3 3 6 = v := by rw [q7.1 3 (by decide), wr_e, upd_e]
      have f36 : q 3 6 = v := by rw [q8.1 3 (by decide) (by simp), wr_e, upd_e]
      refine Or.inr ⟨e1, p', c, b1, true, b4, b8, q1, (dne2 b1 false b4 b8).2, ⟨q2, q3, q4, ⟨m, hD.fr (c3 0 (by decide)) (c3 5 (by decide)) (fun k k4 k7 => cS k (by omega) (by omega)) (t3 5 (by decide)) (fun k k4 k8 => cT k (by omega) (by omega))⟩, ⟨by dsimp only; rw [e36, f36], by dsimp only; rw [e36]; exact q5, by dsimp only; rw [e36]; exact q6, ?_⟩, ⟨?_, ?_, ?_, ?_⟩, ⟨k, (c3 8 (by decide)).trans m1, (t3 8 (by decide)).trans m2, m3, m4.fr (cS 8 (by decide) (by decide)) (cT 9 (by decide) (by decide))⟩, ⟨hC.g (cS 9 (by decide) (by decide)) (cS 10 (by decide) (by decide)) (t3 9 (by decide)) (cT 10 (by decide) (by decide)), hC0⟩, by omega⟩, (qc1.w (by decide)).tr q7.qc, ((QM.refl τ).w (by omega)).tr (q8.qm (by decide))⟩
      · dsimp only; rw [q7.2 11 (by decide), wr_n (by decide), wr_e, upd_e]; rfl
      · dsimp only; rw [c3 7 (by decide), t3 7 (by decide)]; exact hT.1
      · dsimp only; rw [c3 7 (by decide)]; exact hT.2.1
      · dsimp only; rw [c3 7 (by decide)]; exact hT.2.2.1
      · dsimp only; rw [q7.2 12 (by decide), wr_n (by decide), wr_e, upd_n (by decide)]; exact hT.2.2.2
theorem PP.j_rest {N n p c : Nat} {t : Nat → Int32} {b1 b2 b4 b8 : Bool} {σ τ : Sg} (hN : 1000 < N) (h : LR t n p c b1 b2 b4 b8 σ τ) (hk : tk t n p = 16) : E2 (f_X3_readsRest_2 N σ) (f_X12_readLine_b66 N (dne b1 b2 b4 b8) (-1) 4 τ) (LL t n p σ τ) := by
  obtain ⟨h1, h2, hb, ⟨m, hD⟩, hT, ⟨s1, s2, s3, s4⟩, ⟨k, m1, m2, m3, m4⟩, ⟨hC, hC0⟩, hc⟩ := h
  have htb := tb_le (t := t) h1.1
  have hn := h1.2.1.1.1
  unfold f_X3_readsRest_2
  cases b4 with
  | true =>
    rw [if_neg (show ¬ σ 2 12 = 0 by rw [s4]; decide)]
    exact j_again h1 h2 hb (by omega) hC.1 (by decide) (fun hh => by have := (dne4 b1 b2 true b8).1.mp hh; cases this)
  | false =>
    rw [if_pos (show σ 2 12 = 0 by rw [s4]; rfl), e2_bl, m_told (by decide) ((dne4 b1 b2 false b8).1.mpr rfl) hb, m_once4]
    have qc1 : QC σ (wr σ 2 12 1) := (Fr.refl _ _).wr (by decide)
    refine e2_fs (j_one (N := N) (a := 7) (x := 0) (y := 9) hN (by omega) (h1.w (by decide)) h2 hb (by omega) (show c ≤ 700 by omega) (by rw [wr_n (by decide)]; exact hC.1)) ?_
    rintro ⟨r1, σ3⟩ q hh
    rcases hh with hh | ⟨e1, p', v, q1, q2, q3, q4, q5, q6, q7, q8⟩
    · exact Or.inl (hh.l qc1)
    · dsimp only at e1 q2 q7
      have cS : ∀ k, k ≠ 2 → k ≠ 3 → σ3 k = σ k := fun k k2 k3 => by rw [q7.1 k k2, wr_n k3, wr_n k2]
      have cT : ∀ k, k ≠ 0 → k ≠ 3 → q k = τ k := fun k k0 k3 => by rw [q8.1 k k0 (by simp), wr_n k3]
      have c3 : ∀ j, j ≠ 7 → σ3 3 j = σ 3 j := fun j hj => by rw [q7.1 3 (by decide), wr_e, upd_n hj, wr_n (by decide)]
      have t3 : ∀ j, j ≠ 7 → q 3 j = τ 3 j := fun j hj => by rw [q8.1 3 (by decide) (by simp), wr_e, upd_n hj]
      have e36 : σ3 3 7 = v := by rw [q7.1 3 (by decide), wr_e, upd_e]
      have f36 : q 3 7 = v := by rw [q8.1 3 (by decide) (by simp), wr_e, upd_e]
      refine Or.inr ⟨e1, p', c, b1, b2, true, b8, q1, (dne4 b1 b2 false b8).2, ⟨q2, q3, q4, ⟨m, hD.fr (c3 0 (by decide)) (c3 5 (by decide)) (fun k k4 k7 => cS k (by omega) (by omega)) (t3 5 (by decide)) (fun k k4 k8 => cT k (by omega) (by omega))⟩, ⟨?_, ?_, ?_, ?_⟩, ⟨by dsimp only; rw [e36, f36], by dsimp only; rw [e36]; exact q5, by dsimp only; rw [e36]; exact q6, ?_⟩, ⟨k, (c3 8 (by decide)).trans m1, (t3 8 (by decide)).trans m2, m3, m4.fr (cS 8 (by decide) (by decide)) (cT 9 (by decide) (by decide))⟩, ⟨hC.g (cS 9 (by decide) (by decide)) (cS 10 (by decide) (by decide)) (t3 9 (by decide)) (cT 10 (by decide) (by decide)), hC0⟩, by omega⟩, (qc1.w (by decide)).tr q7.qc, ((QM.refl τ).w (by omega)).tr (q8.qm (by decide))⟩
      · dsimp only; rw [c3 6 (by decide), t3 6 (by decide)]; exact hT.1
      · dsimp only; rw [c3 6 (by decide)]; exact hT.2.1
      · dsimp only; rw [c3 6 (by decide)]; exact hT.2.2.1
      · dsimp only; rw [q7.2 11 (by decide), wr_n (by decide), wr_e, upd_n (by decide)]; exact hT.2.2.2
      · dsimp only; rw [q7.2 12 (by decide), wr_n (by decide), wr_e, upd_e]; rfl
theorem PP.j_farmL {N n p c : Nat} {t : Nat → Int32} {b1 b2 b4 b8 : Bool} {x : Int32} {σ τ : Sg} (hN : 1000 < N) (h : LR t n p c b1 b2 b4 b8 σ τ) (hk : tk t n p ≠ 0) (hx : x = 0 ∨ x = 1) : E2 (f_X3_readsFarm_2 N x σ) (f_X12_readLine_b66 N (dne b1 b2 b4 b8) x 0 τ) (LL t n p σ τ) := by
  obtain ⟨h1, h2, hb, ⟨m, hD⟩, hS, hT, ⟨k, m1, m2, m3, m4⟩, ⟨hC, hC0⟩, hc⟩ := h
  have htb := tb_le (t := t) h1.1
  have hn := h1.2.1.1.1
  rw [m_farmL (dne0 b1 b2 b4 b8).1 (by rcases hx with rfl | rfl <;> decide)]
  refine e2_fs (j_farm hN hx h1 h2 hb hk (show c ≤ 700 by omega) hC.1 hD) ?_
  rintro ⟨r1, σ3⟩ q hh
  rcases hh with hh | ⟨e1, p', q1, q2, q3, q4, q5, q6, q7, o1, o2, o3, o4, o5, o6, o7, o8, o9⟩
  · exact Or.inl hh
  · dsimp only at e1 q2 q5 q6 o1 o2 o3 o4 o5 o6
    refine Or.inr ⟨e1, p', c, b1, b2, b4, b8, q1, (dne0 b1 b2 b4 b8).2, ⟨q2, q3, q4, ⟨m + 1, q5⟩, ?_, ?_, ⟨k, (o1 8 (by decide) (by decide)).trans m1, (o7 8 (by decide)).trans m2, m3, m4.fr o2 o8⟩, ⟨hC.g o3 o4 (o7 9 (by decide)) o9, hC0⟩, by omega⟩, q6, q7⟩
    · dsimp only; rw [o1 6 (by decide) (by decide), o7 6 (by decide), o5]; exact hS
    · dsimp only; rw [o1 7 (by decide) (by decide), o7 7 (by decide), o6]; exact hT
theorem PP.j_mindsL {N n p c : Nat} {t : Nat → Int32} {b1 b2 b4 b8 : Bool} {σ τ : Sg} (hN : 1000 < N) (h : LR t n p c b1 b2 b4 b8 σ τ) (hk : tk t n p = 17) : E2 (f_X3_readsMinds_2 N σ) (f_X12_readLine_b66 N (dne b1 b2 b4 b8) (-1) 8 τ) (LL t n p σ τ) := by
  obtain ⟨h1, h2, hb, ⟨m, hD⟩, hS, hT, ⟨k, m1, m2, m3, m4⟩, ⟨hC, hC0⟩, hc⟩ := h
  have htb := tb_le (t := t) h1.1
  have hn := h1.2.1.1.1
  unfold f_X3_readsMinds_2 f_X3_readsMinds_2_b42
  cases b8 with
  | true =>
    have hc1 : c ≠ 0 := by
      intro e
      have := hC.2.2.2.1
      rw [e] at this
      exact absurd this (show ¬ (0 : Nat) = 1 by decide)
    rw [if_neg (show ¬ σ 9 0 ≤ 0 by rw [hC.1, show (0 : Int32) = nI 0 from rfl, nI_le (by omega) (by omega)]; omega)]
    exact j_again h1 h2 hb (by omega) hC.1 (by decide) (fun hh => by have := (dne8 b1 b2 b4 true).1.mp hh; cases this)
  | false =>
    have hc1 := hC0 rfl
    subst hc1
    rw [if_pos (show σ 9 0 ≤ 0 by rw [hC.1]; decide), m_told (by decide) ((dne8 b1 b2 b4 false).1.mpr rfl) hb, m_once8]
    have hE : ER t n p 0 0 σ τ := ⟨h1, h2, hb, hC, by omega⟩
    obtain ⟨σ1, τ1, e1, e2, hE1, g1, g1'⟩ := j_next hN hE (by omega)
    have kn := tk_ne h1.1 (show tk t n p ≠ 0 by omega)
    obtain ⟨⟨r, σ2⟩, τ2, e3, e4, g2, g2', hP⟩ := j_expr hN hE1
    rw [e1, e2, Option.bind_some, Option.bind_some, e3, e4, Option.bind_some, Option.bind_some]
    dsimp only at g2 hP ⊢
    rw [Option.bind_some]
    rcases hP with ⟨rfl, hF⟩ | ⟨rfl, p', c', q1, q2, hE2⟩
    · rw [if_pos rfl, m_markB hF.1, Option.bind_some, e2_s]
      exact Or.inl ⟨rfl, hF, (g1.tr g2).qc, (g1'.tr g2').qm⟩
    · rw [if_neg (by decide)]
      have htb' := tb_le (t := t) hE2.1.1
      obtain ⟨⟨r3, σ3⟩, τ3, f8, g8, hj⟩ := j_end (N := N) hN hE2.1 hE2.2.1 hE2.2.2.1 (show c' ≤ 700 by have := hE2.2.2.2.2; omega) hE2.2.2.2.1.1
      rw [f8, g8, Option.bind_some, Option.bind_some]
      dsimp only at hj ⊢
      rcases hj with ⟨r1, hF, hg, hg'⟩ | ⟨r1, k8, P8, M8, b8, F8, G8⟩
      · rw [if_pos r1, e2_s]
        exact Or.inl ⟨rfl, hF, (g1.tr g2).qc.tr hg, (g1'.tr g2').qm.tr hg'⟩
      · rw [if_neg (by rw [r1]; decide), e2_s]
        have kn2 := tk_ne hE2.1.1 (show tk t n p' ≠ 0 by omega)
        have gg := g1.tr g2
        have gg' := g1'.tr g2'
        have cS : ∀ k, k ≠ 2 → k ≠ 9 → k ≠ 10 → σ3 k = σ k := fun k k2 k9 k10 => by rw [F8.1 k k2]; exact gg.1 k k2 k9 k10
        have c2 : ∀ j, j ∉ [1, 2, 5, 6, 7, 8, 9, 10] → σ3 2 j = σ 2 j := fun j hj => by rw [F8.2 j (fun hh => hj (List.mem_cons_of_mem _ (List.mem_cons_of_mem _ hh)))]; exact gg.2 j hj
        have cT : ∀ k, k ≠ 0 → k ≠ 3 → k ≠ 10 → τ3 k = τ k := fun k k0 k3 k10 => by rw [G8.1 k k0 (by simp)]; exact gg'.1.1 k k0 (by simp; omega)
        have t3 : ∀ j, j ≠ 9 → τ3 3 j = τ 3 j := fun j hj => by rw [G8.1 3 (by decide) (by simp)]; exact gg'.2.1 j hj
        have c3 : σ3 3 = σ 3 := cS 3 (by decide) (by decide) (by decide)
        refine Or.inr ⟨rfl, te t n p', c', b1, b2, b4, true, by omega, (dne8 b1 b2 b4 false).2, ⟨P8, M8, b8, ⟨m, hD.fr (congrFun c3 0) (congrFun c3 5) (fun k k4 k7 => cS k (by omega) (by omega) (by omega)) (t3 5 (by decide)) (fun k k4 k8 => cT k (by omega) (by omega) (by omega))⟩, ?_, ?_, ⟨k, by dsimp only; rw [c3]; exact m1, (t3 8 (by decide)).trans m2, m3, m4.fr (cS 8 (by decide) (by decide) (by decide)) (cT 9 (by decide) (by decide) (by decide))⟩, ⟨hE2.2.2.2.1.f (F8.1 9 (by decide)) (F8.1 10 (by decide)) (G8.1 3 (by decide) (by simp)) (G8.1 10 (by decide) (by simp)), fun hh => by cases hh⟩, by have := hE2.2.2.2.2; omega⟩, gg.qc.tr F8.qc, gg'.qm.tr (G8.qm (by decide))⟩
        · dsimp only; rw [c3, t3 6 (by decide), c2 11 (by decide)]; exact hS
        · dsimp only; rw [c3, t3 7 (by decide), c2 12 (by decide)]; exact hT
