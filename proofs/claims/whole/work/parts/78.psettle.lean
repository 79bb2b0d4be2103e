theorem PP.c_settle {N : Nat} {σ : Sg} (hN : 1000 < N) : Ev (f_X7_settle_22_12 N σ) (fun σ' => σ' 22 0 = 0 ∧ σ' 22 1 = 0 ∧ (∀ i, i < 9 → σ' 23 i = 0 ∧ σ' 24 i = 0 ∧ σ' 25 i = 0 ∧ σ' 26 i = σ 15 i) ∧ Fr [22, 23, 24, 25, 26] σ σ') := by
  unfold f_X7_settle_22_12 f_X7_quiet_22
  rw [ev_bd, ev_bd]
  generalize hu : wr (wr σ 22 0 0) 22 1 0 = u
  have c1 : ∀ d, d ≠ 22 → u d = σ d := fun d hd => by rw [← hu, wr_n hd, wr_n hd]
  have u0 : u 22 0 = 0 := by rw [← hu, wr_e, upd_n (by decide), wr_e, upd_e]
  have u1 : u 22 1 = 0 := by rw [← hu, wr_e, upd_e]
  refine Ev.bind (P := fun w => (∀ d, d ≠ 23 → w d = u d) ∧ ∀ i, i < 9 → w 23 i = 0) ?_ ?_
  · rw [ev_b]
    refine ev_lp (fun (k : Nat) (q : Int32 × Sg) => q.1 = nI k ∧ k ≤ 9 ∧ (∀ d, d ≠ 23 → q.2 d = u d) ∧ ∀ i, i < k → q.2 23 i = 0) 9 N _ (by omega) ⟨rfl, by omega, fun _ _ => rfl, fun i hi => absurd hi (by omega)⟩ ?_
    rintro k ⟨k1, v⟩ hk ⟨e1, hk9, d1, d2⟩
    dsimp only at e1 d1 d2
    subst e1
    unfold s_X7_quiet_22_h2
    dsimp only
    by_cases e : k = 9
    · subst e
      rw [if_pos (by decide), ev_s]
      exact Or.inr ⟨Nat.one_ne_zero, ev_s.mpr ⟨d1, d2⟩⟩
    · rw [if_neg (show ¬ (9 : Int32) ≤ nI k by rw [show (9 : Int32) = nI 9 from rfl, nI_le (by omega) (by omega)]; omega), if_neg (gdn (by omega) (by omega)), nI_cl (by omega), ev_bd, ev_bd, ev_s]
      refine Or.inl ⟨rfl, by omega, nI_s k, by omega, fun d hd => by dsimp only; rw [wr_n hd]; exact d1 d hd, fun i hi => ?_⟩
      dsimp only
      by_cases ei : i = k
      · subst ei; rw [wr_e, upd_e]
      · rw [wr_e, upd_n ei]; exact d2 i (by omega)
  · rintro w ⟨x1, x2⟩
    rw [ev_b]
    refine ev_lp (fun (k : Nat) (q : Int32 × Sg) => q.1 = nI k ∧ k ≤ 9 ∧ (∀ d, d ∉ [24, 25, 26] → q.2 d = w d) ∧ ∀ i, i < k → q.2 24 i = 0 ∧ q.2 25 i = 0 ∧ q.2 26 i = w 15 i) 9 N _ (by omega) ⟨rfl, by omega, fun _ _ => rfl, fun i hi => absurd hi (by omega)⟩ ?_
    rintro k ⟨k1, v⟩ hk ⟨e1, hk9, d1, d2⟩
    dsimp only at e1 d1 d2
    subst e1
    unfold s_X7_settle_22_12_h16
    dsimp only
    by_cases e : k = 9
    · subst e
      rw [if_pos (by decide), ev_s]
      refine Or.inr ⟨Nat.one_ne_zero, ev_s.mpr ⟨?_, ?_, fun i hi => ⟨?_, (d2 i hi).1, (d2 i hi).2.1, ?_⟩, fun d hd => ?_⟩⟩
      · dsimp only; rw [d1 22 (by decide), x1 22 (by decide)]; exact u0
      · dsimp only; rw [d1 22 (by decide), x1 22 (by decide)]; exact u1
      · dsimp only; rw [d1 23 (by decide)]; exact x2 i hi
      · dsimp only; rw [(d2 i hi).2.2, x1 15 (by decide), c1 15 (by decide)]
      · simp only [List.mem_cons, List.not_mem_nil, or_false] at hd
        dsimp only
        rw [d1 d (by simp; omega), x1 d (by omega), c1 d (by omega)]
    · have gd : ¬ (nI k < 0 ∨ 9 ≤ (nI k).toNatClampNeg) := gdn (by omega) (by omega)
      rw [if_neg (show ¬ (9 : Int32) ≤ nI k by rw [show (9 : Int32) = nI 9 from rfl, nI_le (by omega) (by omega)]; omega), if_neg gd, ev_bd, if_neg gd, ev_bd, if_neg gd, if_neg gd, ev_bd, ev_bd, ev_s, nI_cl (show k < 2147483648 by omega)]
      refine Or.inl ⟨rfl, by omega, nI_s k, by omega, fun d hd => ?_, fun i hi => ?_⟩
      · simp only [List.mem_cons, List.not_mem_nil, or_false, not_or] at hd
        dsimp only
        rw [wr_n hd.2.2, wr_n hd.2.1, wr_n hd.1]; exact d1 d (by simp; omega)
      · dsimp only
        by_cases ei : i = k
        · subst ei
          have := d1 15 (by decide)
          simp [wr, upd, this]
        · have := d2 i (by omega)
          simp [wr, upd, ei, this]
