set_option linter.unusedVariables false
set_option linter.unusedSimpArgs false
/-! ===== the reference takes the draft over ===== -/
theorem PP.half {c M : Nat} {h : Int32} {f : Int32 × Sg → Option (Nat × Int32 × Sg)} {N : Nat} {τ : Sg} (hN : 1000 < N) (hM : M ≤ 700) (hh : h = nI M) (hs : ∀ k τ1, k < M → f (nI k, τ1) = some (0, nI (k + 1), wr τ1 c k (τ1 c (M + k)))) (he : ∀ τ1, f (nI M, τ1) = some (1, 0, τ1)) : Ev ((it f N ((0 : Int32), τ)).bind fun z => some z.2.2) (fun τ' => (∀ d, d ≠ c → τ' d = τ d) ∧ ∀ i, i < M → τ' c i = τ c (M + i)) := by
  rw [ev_b]
  refine ev_lp (fun (k : Nat) (q : Int32 × Sg) => q.1 = nI k ∧ k ≤ M ∧ (∀ d, d ≠ c → q.2 d = τ d) ∧ (∀ i, i < k → q.2 c i = τ c (M + i)) ∧ ∀ i, k ≤ i → q.2 c i = τ c i) M N _ (by omega) ⟨rfl, by omega, fun _ _ => rfl, fun i hi => absurd hi (by omega), fun _ _ => rfl⟩ ?_
  rintro k ⟨k1, τ1⟩ hk ⟨e1, hkM, c1, c2, c3⟩
  dsimp only at e1 c1 c2 c3
  subst e1
  by_cases e : k = M
  · subst e
    rw [he, ev_s]
    refine Or.inr ⟨Nat.one_ne_zero, ?_⟩
    rw [ev_s]
    exact ⟨c1, c2⟩
  · rw [hs k τ1 (by omega), ev_s]
    refine Or.inl ⟨rfl, by omega, rfl, by omega, fun d hd => by dsimp only; rw [wr_n hd]; exact c1 d hd, fun i hi => ?_, fun i hi => ?_⟩
    · dsimp only
      by_cases ei : i = k
      · subst ei; rw [wr_e, upd_e]; exact c3 (M + i) (by omega)
      · rw [wr_e, upd_n ei]; exact c2 i (by omega)
    · dsimp only
      rw [wr_e, upd_n (by omega)]; exact c3 i (by omega)
theorem PP.m_half3 {N : Nat} {τ : Sg} (hN : 1000 < N) : Ev (f_X12_takeHalf_3 N τ) (fun τ' => (∀ d, d ≠ 3 → τ' d = τ d) ∧ ∀ i, i < 5 → τ' 3 i = τ 3 (5 + i)) := by
  unfold f_X12_takeHalf_3
  refine half (f := fun q => s_X12_takeHalf_3_h2 N q.1 q.2) (h := nI 5) hN (by omega) rfl (fun k τ1 hk => ?_) (fun τ1 => ?_)
  · dsimp only
    unfold s_X12_takeHalf_3_h2
    rw [show ((10 : Int32) / 2) = nI 5 by decide, if_neg (by rw [nI_le (by omega) (by omega)]; omega), nI_add, if_neg (gdn (by omega) (by omega)), if_neg (gdn (by omega) (by omega)), nI_cl (by omega), nI_cl (by omega), nI_s]
    rfl
  · dsimp only
    unfold s_X12_takeHalf_3_h2
    rw [if_pos (by decide)]
