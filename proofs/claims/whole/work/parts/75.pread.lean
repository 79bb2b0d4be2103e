def PP.tld (i : Nat) : Int32 := if i = 1 then 60 else if i = 2 then 3 else 0
theorem PP.m_h50 {N : Nat} {τ : Sg} (hN : 1000 < N) : Ev (it (fun q => s_X12_upland_h50 N q.1 q.2) N ((0 : Int32), τ)) (fun z => (∀ c, c ≠ 3 → z.2.2 c = τ c) ∧ (∀ j, j < 5 → z.2.2 3 j = τ 3 j) ∧ ∀ i, i < 5 → z.2.2 3 (5 + i) = tld i) := by
  refine ev_lp (fun (k : Nat) (q : Int32 × Sg) => q.1 = nI k ∧ k ≤ 5 ∧ (∀ c, c ≠ 3 → q.2 c = τ c) ∧ (∀ j, j < 5 → q.2 3 j = τ 3 j) ∧ ∀ i, i < k → q.2 3 (5 + i) = tld i) 5 N _ (by omega) ⟨rfl, by omega, fun _ _ => rfl, fun _ _ => rfl, fun i hi => absurd hi (by omega)⟩ ?_
  rintro k ⟨k1, τ1⟩ hk ⟨e1, hk5, c1, c2, c3⟩
  dsimp only at e1 c1 c2 c3
  subst e1
  unfold s_X12_upland_h50 f_X12_upland_b82
  dsimp only
  by_cases e5 : k = 5
  · subst e5
    rw [if_pos (show (5 : Int32) ≤ nI 5 by decide), ev_s]
    exact Or.inr ⟨Nat.one_ne_zero, c1, c2, c3⟩
  · have e : (5 : Int32) + nI k = nI (5 + k) := by rw [show (5 : Int32) = nI 5 from rfl, nI_add]
    rw [if_neg (show ¬ (5 : Int32) ≤ nI k by rw [show (5 : Int32) = nI 5 from rfl, nI_le (by omega) (by omega)]; omega), e]
    have go : ∀ v : Int32, v = tld k → Ev (bd (wr τ1 3 (5 + k) v) fun σ4 => bd (nI k + 1) fun v5 => some (0, v5, σ4)) (fun r => (r.1 = 0 ∧ k < 5 ∧ r.2.1 = nI (k + 1) ∧ k + 1 ≤ 5 ∧ (∀ c, c ≠ 3 → r.2.2 c = τ c) ∧ (∀ j, j < 5 → r.2.2 3 j = τ 3 j) ∧ ∀ i, i < k + 1 → r.2.2 3 (5 + i) = tld i) ∨ (r.1 ≠ 0 ∧ (∀ c, c ≠ 3 → r.2.2 c = τ c) ∧ (∀ j, j < 5 → r.2.2 3 j = τ 3 j) ∧ ∀ i, i < 5 → r.2.2 3 (5 + i) = tld i)) := by
      intro v hv
      rw [ev_bd, ev_bd, ev_s]
      refine Or.inl ⟨rfl, by omega, nI_s k, by omega, fun c hc => by dsimp only; rw [wr_n hc]; exact c1 c hc, fun j hj => by dsimp only; rw [wr_e, upd_n (by omega)]; exact c2 j hj, fun i hi => ?_⟩
      dsimp only
      by_cases ei : i = k
      · subst ei; rw [wr_e, upd_e]; exact hv
      · rw [wr_e, upd_n (by omega)]; exact c3 i (by omega)
    by_cases k1 : k = 1
    · rw [if_pos (show nI k = 1 by rw [k1]; rfl), if_neg (gdn (by omega) (by omega)), nI_cl (by omega)]; exact go 60 (by unfold tld; rw [if_pos k1])
    · rw [if_neg (show ¬ nI k = 1 by rw [nI_lit (m := 1) (x := 1) (by omega) (by omega) rfl]; exact k1)]
      by_cases k2 : k = 2
      · rw [if_pos (show nI k = 2 by rw [k2]; rfl), if_neg (gdn (by omega) (by omega)), nI_cl (by omega)]; exact go 3 (by unfold tld; rw [if_neg k1, if_pos k2])
      · rw [if_neg (show ¬ nI k = 2 by rw [nI_lit (m := 2) (x := 2) (by omega) (by omega) rfl]; exact k2), if_neg (gdn (by omega) (by omega)), nI_cl (by omega)]; exact go 0 (by unfold tld; rw [if_neg k1, if_neg k2])
theorem PP.j_reads {N n : Nat} {t : Nat → Int32} {σ τ : Sg} (hN : 1000 < N) (hn : n ≤ 700) (hσ : ∀ i, i < n → byC (σ 1 i) (t i)) (hτ : ∀ i, i < n → τ 12 i = t i) (hby : ∀ i, i < n → ∃ k, k < 256 ∧ t i = nI k) (h15 : τ 0 15 = nI n) (h14 : τ 0 14 = 0) (h20 : τ 0 20 = 0) : E2 (f_X3_reads_2 N (nI n) σ) ((it (fun q => s_X12_upland_h50 N q.1 q.2) N ((0 : Int32), τ)).bind fun z13 => (f_X12_stepOn N (z13.2.2)).bind fun q14 => it (fun q => s_X12_upland_h95 N q.1 q.2) N ((0 : Int32), q14)) (fun r y => QC σ r.2 ∧ QM τ y.2.2 ∧ ((r.1 = 0 ∧ FE r.2 y.2.2) ∨ (r.1 = 1 ∧ ∃ p c b1 b2 b4 b8, LR t n p c b1 b2 b4 b8 r.2 y.2.2))) := by
  unfold f_X3_reads_2 f_X9_clear_3
  rw [if_neg (show ¬ (700 : Int32) < nI n by rw [show (700 : Int32) = nI 700 from rfl, nI_lt (by omega) (by omega)]; omega)]
  show E2 ((f_X3_advance_2 N (wr (wr (wr (wr (wr (wr (wr (wr (wr (wr (wr (wr σ 3 0 0) 3 5 0) 3 6 60) 3 7 3) 3 8 0) 9 0 0) 2 1 0) 2 2 (-1)) 2 11 0) 2 12 0) 2 4 (nI n)) 2 7 0)).bind _) _ _
  have qc0 : QC σ (wr (wr (wr (wr (wr (wr (wr (wr (wr (wr (wr (wr σ 3 0 0) 3 5 0) 3 6 60) 3 7 3) 3 8 0) 9 0 0) 2 1 0) 2 2 (-1)) 2 11 0) 2 12 0) 2 4 (nI n)) 2 7 0) := (((((((((((((Fr.refl _ _).wr (by decide)).wr (by decide)).wr (by decide)).wr (by decide)).wr (by decide)).wr (by decide)).wr (by decide)).wr (by decide)).wr (by decide)).wr (by decide)).wr (by decide)).wr (by decide))
  generalize hs : wr (wr (wr (wr (wr (wr (wr (wr (wr (wr (wr (wr σ 3 0 0) 3 5 0) 3 6 60) 3 7 3) 3 8 0) 9 0 0) 2 1 0) 2 2 (-1)) 2 11 0) 2 12 0) 2 4 (nI n)) 2 7 0 = σ0 at *
  have a30 : σ0 3 0 = 0 := by rw [← hs]; simp [wr, upd]
  have a35 : σ0 3 5 = 0 := by rw [← hs]; simp [wr, upd]
  have a36 : σ0 3 6 = 60 := by rw [← hs]; simp [wr, upd]
  have a37 : σ0 3 7 = 3 := by rw [← hs]; simp [wr, upd]
  have a38 : σ0 3 8 = 0 := by rw [← hs]; simp [wr, upd]
  have a90 : σ0 9 0 = 0 := by rw [← hs]; simp [wr, upd]
  have a22 : σ0 2 2 = -1 := by rw [← hs]; simp [wr, upd]
  have a211 : σ0 2 11 = 0 := by rw [← hs]; simp [wr, upd]
  have a212 : σ0 2 12 = 0 := by rw [← hs]; simp [wr, upd]
  have a24 : σ0 2 4 = nI n := by rw [← hs]; simp [wr, upd]
  have a27 : σ0 2 7 = nI 0 := by rw [← hs]; simp [wr, upd]; rfl
  have a1 : σ0 1 = σ 1 := qc0 1 (by decide)
  have hT : TCl t n σ0 := ⟨⟨hn, a22⟩, a24, by rw [a1]; exact hσ⟩
  obtain ⟨σ1, e1, P1, F1⟩ := c_advance (N := N) (e := 0) hN hT (by omega) a27
  obtain ⟨⟨z1, z2, τ1⟩, e2, w1, w2, w3⟩ := m_h50 (N := N) (τ := τ) hN
  dsimp only at w1 w2 w3
  have hTM : TMl t n τ1 := ⟨hn, by rw [w1 0 (by decide)]; exact h15, by rw [w1 12 (by decide)]; exact hτ, hby⟩
  obtain ⟨τ2, e3, P2, F2'⟩ := m_stepOn (N := N) (e := 0) hN hTM (by omega) (by rw [w1 0 (by decide), h14]; rfl)
  rw [e1, e2, Option.bind_some, Option.bind_some]
  dsimp only
  rw [e3, Option.bind_some]
  have t3 : τ2 3 = τ1 3 := F2'.1 3 (by decide) (by simp)
  have s3 : σ1 3 = σ0 3 := F1.1 3 (by decide)
  have qm1 : QM τ τ1 := ⟨⟨fun c c0 hc => w1 c (fun e => hc (by rw [e]; decide)), fun j _ => by rw [w1 0 (by decide)]⟩, w2, fun c c4 c8 i _ => by rw [w1 c (by omega)], fun i _ => by rw [w1 9 (by decide)], fun i _ => by rw [w1 10 (by decide)]⟩
  have hL : LR t n 0 0 false false false false σ1 τ2 := by
    refine ⟨P1, P2, ?_, ⟨0, ?_, ?_, by omega, fun i hi => absurd hi (by omega), fun i j hi => absurd hi (by omega), fun i _ hi => ?_⟩, ⟨?_, ?_, ?_, ?_⟩, ⟨?_, ?_, ?_, ?_⟩, ⟨0, ?_, ?_, ⟨fun hh => absurd hh (by decide), fun hh => absurd hh (by omega)⟩, by omega, fun i hi => absurd hi (by omega)⟩, ⟨⟨?_, ?_, ⟨by omega, fun k hk => absurd hk (by omega)⟩, rfl, fun i hi => absurd hi (by omega)⟩, fun _ => rfl⟩, by omega⟩
    · rw [F2'.2 20 (by decide), w1 0 (by decide)]; exact h20
    · rw [s3, a30]; rfl
    · rw [t3]; exact (w3 0 (by omega)).trans rfl
    · rw [s3, a35]; exact hasB_0 (by omega)
    · rw [s3, a36, t3]; exact ((w3 1 (by omega)).trans rfl).symm
    · rw [s3, a36]; decide
    · rw [s3, a36]; decide
    · rw [F1.2 11 (by decide), a211]; rfl
    · rw [s3, a37, t3]; exact ((w3 2 (by omega)).trans rfl).symm
    · rw [s3, a37]; decide
    · rw [s3, a37]; decide
    · rw [F1.2 12 (by decide), a212]; rfl
    · rw [s3, a38]; rfl
    · rw [t3]; exact (w3 3 (by omega)).trans rfl
    · rw [F1.1 9 (by decide), a90]; rfl
    · rw [t3]; exact (w3 4 (by omega)).trans rfl
  obtain ⟨z, y, f1, f2, g1, g2, hh⟩ := j_lines hN hL
  rw [f1, show (0 : Int32) = dne false false false false from rfl, f2, Option.bind_some]
  have qc : QC σ z.2.2 := (qc0.tr F1.qc).tr g1
  have qm : QM τ y.2.2 := (qm1.tr (F2'.qm (by decide))).tr g2
  rcases hh with ⟨z1, hF⟩ | ⟨z1, hh⟩
  · rw [if_pos z1, e2_s]
    exact ⟨qc, qm, Or.inl ⟨rfl, hF⟩⟩
  · rw [if_neg (by rw [z1]; decide), e2_s]
    exact ⟨qc, qm, Or.inr ⟨rfl, hh⟩⟩
