/-! ===== the reference takes the draft over ===== -/
theorem PP.half {c M : Nat} {h : Int32} {f : Int32 × Sg → Option (Nat × Int32 × Sg)} {N : Nat} {τ : Sg} (hN : 1000 < N) (hM : M ≤ 700) (hh : h = nI M) (hs : ∀ k τ1, k < M → f (nI k, τ1) = some (0, nI (k + 1), wr τ1 c k (τ1 c (M + k)))) (he : ∀ τ1, f (nI M, τ1) = some (1, 0, τ1)) : Ev ((it f N ((0 : Int32), τ)).bind fun z => some z.2.2) (fun τ' => (∀ d, d ≠ c → τ' d = τ d) ∧ ∀ i, i < M → τ' c i = τ c (M + i)) := by
  rw [ev_b]
  refine ev_lp (fun (k : Nat) (q : Int32 × Sg) => q.1 = nI k ∧ k ≤ M ∧ (∀ d, d ≠ c → q.2 d = τ d) ∧ (∀ i, i < k → q.2 c i = τ c (M + i)) ∧ ∀ i, k ≤ i → q.2 c i = τ c i) M N _ (by omega) ⟨rfl, by omega, fun _ _ => rfl, fun i hi => absurd hi (by omega), fun _ _ => rfl⟩ ?_
  rintro k ⟨k1, τ1⟩ hk ⟨e1, hkM, c1, c2, c3⟩
  dsimp only at e1 c1 c2 c3
  subst e1
  by_cases e : k = M
  · subst e
    rw [he, ev_s]
    refine Or.inr ⟨Nat.one_ne_zero, ?_⟩
    rw [ev_s]
    exact ⟨c1, c2⟩
  · rw [hs k τ1 (by omega), ev_s]
    refine Or.inl ⟨rfl, by omega, rfl, by omega, fun d hd => by dsimp only; rw [wr_n hd]; exact c1 d hd, fun i hi => ?_, fun i hi => ?_⟩
    · dsimp only
      by_cases ei : i = k
      · subst ei; rw [wr_e, upd_e]; exact c3 (M + i) (by omega)
      · rw [wr_e, upd_n ei]; exact c2 i (by omega)
    · dsimp only
      rw [wr_e, upd_n (by omega)]; exact c3 i (by omega)
theorem PP.m_half3 {N : Nat} {τ : Sg} (hN : 1000 < N) : Ev (f_X12_takeHalf_3 N τ) (fun τ' => (∀ d, d ≠ 3 → τ' d = τ d) ∧ ∀ i, i < 5 → τ' 3 i = τ 3 (5 + i)) := by
  unfold f_X12_takeHalf_3
  refine half (f := fun q => s_X12_takeHalf_3_h2 N q.1 q.2) (h := nI 5) hN (by omega) rfl (fun k τ1 hk => ?_) (fun τ1 => ?_)
  · dsimp only
    unfold s_X12_takeHalf_3_h2
    rw [show ((10 : Int32) / 2) = nI 5 by decide, if_neg (by rw [nI_le (by omega) (by omega)]; omega), nI_add, if_neg (gdn (by omega) (by omega)), if_neg (gdn (by omega) (by omega)), nI_cl (by omega), nI_cl (by omega), nI_s]
    rfl
  · dsimp only
    unfold s_X12_takeHalf_3_h2
    rw [if_pos (by decide)]
theorem PP.m_half4 {N : Nat} {τ : Sg} (hN : 1000 < N) : Ev (f_X12_takeHalf_4 N τ) (fun τ' => (∀ d, d ≠ 4 → τ' d = τ d) ∧ ∀ i, i < 9 → τ' 4 i = τ 4 (9 + i)) := by
  unfold f_X12_takeHalf_4
  refine half (f := fun q => s_X12_takeHalf_4_h2 N q.1 q.2) (h := nI 9) hN (by omega) rfl (fun k τ1 hk => ?_) (fun τ1 => ?_)
  · dsimp only
    unfold s_X12_takeHalf_4_h2
    rw [show ((18 : Int32) / 2) = nI 9 by decide, if_neg (by rw [nI_le (by omega) (by omega)]; omega), nI_add, if_neg (gdn (by omega) (by omega)), if_neg (gdn (by omega) (by omega)), nI_cl (by omega), nI_cl (by omega), nI_s]
    rfl
  · dsimp only
    unfold s_X12_takeHalf_4_h2
    rw [if_pos (by decide)]
theorem PP.m_half5 {N : Nat} {τ : Sg} (hN : 1000 < N) : Ev (f_X12_takeHalf_5 N τ) (fun τ' => (∀ d, d ≠ 5 → τ' d = τ d) ∧ ∀ i, i < 9 → τ' 5 i = τ 5 (9 + i)) := by
  unfold f_X12_takeHalf_5
  refine half (f := fun q => s_X12_takeHalf_5_h2 N q.1 q.2) (h := nI 9) hN (by omega) rfl (fun k τ1 hk => ?_) (fun τ1 => ?_)
  · dsimp only
    unfold s_X12_takeHalf_5_h2
    rw [show ((18 : Int32) / 2) = nI 9 by decide, if_neg (by rw [nI_le (by omega) (by omega)]; omega), nI_add, if_neg (gdn (by omega) (by omega)), if_neg (gdn (by omega) (by omega)), nI_cl (by omega), nI_cl (by omega), nI_s]
    rfl
  · dsimp only
    unfold s_X12_takeHalf_5_h2
    rw [if_pos (by decide)]
theorem PP.m_half6 {N : Nat} {τ : Sg} (hN : 1000 < N) : Ev (f_X12_takeHalf_6 N τ) (fun τ' => (∀ d, d ≠ 6 → τ' d = τ d) ∧ ∀ i, i < 9 → τ' 6 i = τ 6 (9 + i)) := by
  unfold f_X12_takeHalf_6
  refine half (f := fun q => s_X12_takeHalf_6_h2 N q.1 q.2) (h := nI 9) hN (by omega) rfl (fun k τ1 hk => ?_) (fun τ1 => ?_)
  · dsimp only
    unfold s_X12_takeHalf_6_h2
    rw [show ((18 : Int32) / 2) = nI 9 by decide, if_neg (by rw [nI_le (by omega) (by omega)]; omega), nI_add, if_neg (gdn (by omega) (by omega)), if_neg (gdn (by omega) (by omega)), nI_cl (by omega), nI_cl (by omega), nI_s]
    rfl
  · dsimp only
    unfold s_X12_takeHalf_6_h2
    rw [if_pos (by decide)]
theorem PP.m_half7 {N : Nat} {τ : Sg} (hN : 1000 < N) : Ev (f_X12_takeHalf_7 N τ) (fun τ' => (∀ d, d ≠ 7 → τ' d = τ d) ∧ ∀ i, i < 9 → τ' 7 i = τ 7 (9 + i)) := by
  unfold f_X12_takeHalf_7
  refine half (f := fun q => s_X12_takeHalf_7_h2 N q.1 q.2) (h := nI 9) hN (by omega) rfl (fun k τ1 hk => ?_) (fun τ1 => ?_)
  · dsimp only
    unfold s_X12_takeHalf_7_h2
    rw [show ((18 : Int32) / 2) = nI 9 by decide, if_neg (by rw [nI_le (by omega) (by omega)]; omega), nI_add, if_neg (gdn (by omega) (by omega)), if_neg (gdn (by omega) (by omega)), nI_cl (by omega), nI_cl (by omega), nI_s]
    rfl
  · dsimp only
    unfold s_X12_takeHalf_7_h2
    rw [if_pos (by decide)]
theorem PP.m_half8 {N : Nat} {τ : Sg} (hN : 1000 < N) : Ev (f_X12_takeHalf_8 N τ) (fun τ' => (∀ d, d ≠ 8 → τ' d = τ d) ∧ ∀ i, i < 9 → τ' 8 i = τ 8 (9 + i)) := by
  unfold f_X12_takeHalf_8
  refine half (f := fun q => s_X12_takeHalf_8_h2 N q.1 q.2) (h := nI 9) hN (by omega) rfl (fun k τ1 hk => ?_) (fun τ1 => ?_)
  · dsimp only
    unfold s_X12_takeHalf_8_h2
    rw [show ((18 : Int32) / 2) = nI 9 by decide, if_neg (by rw [nI_le (by omega) (by omega)]; omega), nI_add, if_neg (gdn (by omega) (by omega)), if_neg (gdn (by omega) (by omega)), nI_cl (by omega), nI_cl (by omega), nI_s]
    rfl
  · dsimp only
    unfold s_X12_takeHalf_8_h2
    rw [if_pos (by decide)]
theorem PP.m_half9 {N : Nat} {τ : Sg} (hN : 1000 < N) : Ev (f_X12_takeHalf_9 N τ) (fun τ' => (∀ d, d ≠ 9 → τ' d = τ d) ∧ ∀ i, i < 8 → τ' 9 i = τ 9 (8 + i)) := by
  unfold f_X12_takeHalf_9
  refine half (f := fun q => s_X12_takeHalf_9_h2 N q.1 q.2) (h := nI 8) hN (by omega) rfl (fun k τ1 hk => ?_) (fun τ1 => ?_)
  · dsimp only
    unfold s_X12_takeHalf_9_h2
    rw [show ((16 : Int32) / 2) = nI 8 by decide, if_neg (by rw [nI_le (by omega) (by omega)]; omega), nI_add, if_neg (gdn (by omega) (by omega)), if_neg (gdn (by omega) (by omega)), nI_cl (by omega), nI_cl (by omega), nI_s]
    rfl
  · dsimp only
    unfold s_X12_takeHalf_9_h2
    rw [if_pos (by decide)]
theorem PP.m_half10 {N : Nat} {τ : Sg} (hN : 1000 < N) : Ev (f_X12_takeHalf_10 N τ) (fun τ' => (∀ d, d ≠ 10 → τ' d = τ d) ∧ ∀ i, i < 700 → τ' 10 i = τ 10 (700 + i)) := by
  unfold f_X12_takeHalf_10
  refine half (f := fun q => s_X12_takeHalf_10_h2 N q.1 q.2) (h := nI 700) hN (by omega) rfl (fun k τ1 hk => ?_) (fun τ1 => ?_)
  · dsimp only
    unfold s_X12_takeHalf_10_h2
    rw [show ((1400 : Int32) / 2) = nI 700 by decide, if_neg (by rw [nI_le (by omega) (by omega)]; omega), nI_add, if_neg (gdn (by omega) (by omega)), if_neg (gdn (by omega) (by omega)), nI_cl (by omega), nI_cl (by omega), nI_s]
    rfl
  · dsimp only
    unfold s_X12_takeHalf_10_h2
    rw [if_pos (by decide)]
theorem PP.m_over {N m : Nat} {τ : Sg} (hN : 1000 < N) (hm : m ≤ 9) (h5 : τ 3 5 = nI m) : Ev (f_X12_takeOver N τ) (fun τ' => (∀ i, i < 5 → τ' 3 i = τ 3 (5 + i)) ∧ (∀ c, 4 ≤ c → c ≤ 8 → ∀ i, i < 9 → τ' c i = τ c (9 + i)) ∧ (∀ i, i < 8 → τ' 9 i = τ 9 (8 + i)) ∧ (∀ i, i < 700 → τ' 10 i = τ 10 (700 + i)) ∧ (∀ i, i < 9 → τ' 13 i = 0 ∧ τ' 14 i = 0 ∧ τ' 15 i = 0) ∧ (∀ i, i < m → τ' 16 i = τ 7 (9 + i)) ∧ τ' 0 28 = 0 ∧ τ' 0 29 = 0 ∧ τ' 0 30 = 0 ∧ τ' 0 31 = 0 ∧ τ' 0 48 = 0 ∧ FM [3, 4, 5, 6, 7, 8, 9, 10, 13, 14, 15, 16] [28, 29, 30, 31, 48] τ τ') := by
  unfold f_X12_takeOver
  refine (m_half3 hN).bind ?_
  rintro t3 ⟨a3, b3⟩
  refine (m_half4 hN).bind ?_
  rintro t4 ⟨a4, b4⟩
  refine (m_half5 hN).bind ?_
  rintro t5 ⟨a5, b5⟩
  refine (m_half6 hN).bind ?_
  rintro t6 ⟨a6, b6⟩
  refine (m_half7 hN).bind ?_
  rintro t7 ⟨a7, b7⟩
  refine (m_half8 hN).bind ?_
  rintro t8 ⟨a8, b8⟩
  refine (m_half9 hN).bind ?_
  rintro t9 ⟨a9, b9⟩
  refine (m_half10 hN).bind ?_
  rintro t10 ⟨a10, b10⟩
  rw [ev_bd, ev_bd]
  generalize hu : wr (wr t10 0 28 0) 0 29 0 = u
  have cu : ∀ d, d ≠ 0 → u d = t10 d := fun d hd => by rw [← hu, wr_n hd, wr_n hd]
  have ca : ∀ d, d ≠ 0 → d ≠ 3 → d ≠ 4 → d ≠ 5 → d ≠ 6 → d ≠ 7 → d ≠ 8 → d ≠ 9 → d ≠ 10 → u d = τ d := fun d d0 d3 d4 d5 d6 d7 d8 d9 d10 => by rw [cu d d0, a10 d d10, a9 d d9, a8 d d8, a7 d d7, a6 d d6, a5 d d5, a4 d d4, a3 d d3]
  have e3 : u 3 = t3 3 := by rw [cu 3 (by decide), a10 3 (by decide), a9 3 (by decide), a8 3 (by decide), a7 3 (by decide), a6 3 (by decide), a5 3 (by decide), a4 3 (by decide)]
  have e4 : ∀ i, i < 9 → u 4 i = τ 4 (9 + i) := fun i hi => by rw [cu 4 (by decide), a10 4 (by decide), a9 4 (by decide), a8 4 (by decide), a7 4 (by decide), a6 4 (by decide), a5 4 (by decide), b4 i hi, a3 4 (by decide)]
  have e5 : ∀ i, i < 9 → u 5 i = τ 5 (9 + i) := fun i hi => by rw [cu 5 (by decide), a10 5 (by decide), a9 5 (by decide), a8 5 (by decide), a7 5 (by decide), a6 5 (by decide), b5 i hi, a4 5 (by decide), a3 5 (by decide)]
  have e6 : ∀ i, i < 9 → u 6 i = τ 6 (9 + i) := fun i hi => by rw [cu 6 (by decide), a10 6 (by decide), a9 6 (by decide), a8 6 (by decide), a7 6 (by decide), b6 i hi, a5 6 (by decide), a4 6 (by decide), a3 6 (by decide)]
  have e7 : ∀ i, i < 9 → u 7 i = τ 7 (9 + i) := fun i hi => by rw [cu 7 (by decide), a10 7 (by decide), a9 7 (by decide), a8 7 (by decide), b7 i hi, a6 7 (by decide), a5 7 (by decide), a4 7 (by decide), a3 7 (by decide)]
  have e8 : ∀ i, i < 9 → u 8 i = τ 8 (9 + i) := fun i hi => by rw [cu 8 (by decide), a10 8 (by decide), a9 8 (by decide), b8 i hi, a7 8 (by decide), a6 8 (by decide), a5 8 (by decide), a4 8 (by decide), a3 8 (by decide)]
  have e9 : ∀ i, i < 8 → u 9 i = τ 9 (8 + i) := fun i hi => by rw [cu 9 (by decide), a10 9 (by decide), b9 i hi, a8 9 (by decide), a7 9 (by decide), a6 9 (by decide), a5 9 (by decide), a4 9 (by decide), a3 9 (by decide)]
  have e10 : ∀ i, i < 700 → u 10 i = τ 10 (700 + i) := fun i hi => by rw [cu 10 (by decide), b10 i hi, a9 10 (by decide), a8 10 (by decide), a7 10 (by decide), a6 10 (by decide), a5 10 (by decide), a4 10 (by decide), a3 10 (by decide)]
  have u30 : u 3 0 = nI m := by rw [e3, b3 0 (by omega)]; exact h5
  have u0 : ∀ j, j ∉ [28, 29] → u 0 j = τ 0 j := fun j hj => by
    rw [← hu, wr_e, upd_n (fun e => hj (by rw [e]; decide)), wr_e, upd_n (fun e => hj (by rw [e]; decide)), a10 0 (by decide), a9 0 (by decide), a8 0 (by decide), a7 0 (by decide), a6 0 (by decide), a5 0 (by decide), a4 0 (by decide), a3 0 (by decide)]
  have u28 : u 0 28 = 0 := by rw [← hu, wr_e, upd_n (by decide), wr_e, upd_e]
  have u29 : u 0 29 = 0 := by rw [← hu, wr_e, upd_e]
  refine Ev.bind (P := fun z => (∀ d, d ∉ [13, 14, 15, 16] → z.2.2 d = u d) ∧ (∀ i, i < 9 → z.2.2 13 i = 0 ∧ z.2.2 14 i = 0 ∧ z.2.2 15 i = 0) ∧ ∀ i, i < m → z.2.2 16 i = u 7 i) ?_ ?_
  · refine ev_lp (fun (k : Nat) (q : Int32 × Sg) => q.1 = nI k ∧ k ≤ 9 ∧ (∀ d, d ∉ [13, 14, 15, 16] → q.2 d = u d) ∧ (∀ i, i < k → q.2 13 i = 0 ∧ q.2 14 i = 0 ∧ q.2 15 i = 0) ∧ ∀ i, i < k → i < m → q.2 16 i = u 7 i) 9 N _ (by omega) ⟨rfl, by omega, fun _ _ => rfl, fun i hi => absurd hi (by omega), fun i hi => absurd hi (by omega)⟩ ?_
    rintro k ⟨k1, v⟩ hk ⟨e1, hk9, c1, c2, c3⟩
    dsimp only at e1 c1 c2 c3
    subst e1
    unfold s_X12_takeOver_h68 f_X12_takeOver_b120
    dsimp only
    by_cases e : k = 9
    · subst e
      rw [if_pos (by decide), ev_s]
      exact Or.inr ⟨Nat.one_ne_zero, c1, c2, fun i hi => c3 i (by omega) hi⟩
    · have gd : ¬ (nI k < 0 ∨ 9 ≤ (nI k).toNatClampNeg) := gdn (by omega) (by omega)
      rw [if_neg (show ¬ (9 : Int32) ≤ nI k by rw [show (9 : Int32) = nI 9 from rfl, nI_le (by omega) (by omega)]; omega), if_neg gd, ev_bd, if_neg gd, ev_bd, if_neg gd, ev_bd, nI_cl (show k < 2147483648 by omega)]
      have gd2 : ¬ (nI k < 0 ∨ 9 ≤ k) := gdc (by omega) (by omega)
      have gd3 : ¬ (nI k < 0 ∨ 18 ≤ k) := gdc (by omega) (by omega)
      generalize hw : wr (wr (wr v 13 k 0) 14 k 0) 15 k 0 = w
      have w0 : ∀ d, d ∉ [13, 14, 15] → w d = v d := fun d hd => by rw [← hw, wr_n (fun e => hd (by rw [e]; decide)), wr_n (fun e => hd (by rw [e]; decide)), wr_n (fun e => hd (by rw [e]; decide))]
      have w13 : w 13 = upd (v 13) k 0 := by rw [← hw, wr_n (by decide), wr_n (by decide), wr_e]
      have w14 : w 14 = upd (v 14) k 0 := by rw [← hw, wr_n (by decide), wr_e, wr_n (by decide)]
      have w15 : w 15 = upd (v 15) k 0 := by rw [← hw, wr_e, wr_n (by decide), wr_n (by decide)]
      have go : ∀ x : Int32, (k < m → x = u 7 k) → Ev (bd (wr w 16 k x) fun σ2 => bd (nI k + 1) fun v3 => some (0, v3, σ2)) (fun r => (r.1 = 0 ∧ k < 9 ∧ r.2.1 = nI (k + 1) ∧ k + 1 ≤ 9 ∧ (∀ d, d ∉ [13, 14, 15, 16] → r.2.2 d = u d) ∧ (∀ i, i < k + 1 → r.2.2 13 i = 0 ∧ r.2.2 14 i = 0 ∧ r.2.2 15 i = 0) ∧ ∀ i, i < k + 1 → i < m → r.2.2 16 i = u 7 i) ∨ (r.1 ≠ 0 ∧ (∀ d, d ∉ [13, 14, 15, 16] → r.2.2 d = u d) ∧ (∀ i, i < 9 → r.2.2 13 i = 0 ∧ r.2.2 14 i = 0 ∧ r.2.2 15 i = 0) ∧ ∀ i, i < m → r.2.2 16 i = u 7 i)) := by
        intro x hx
        rw [ev_bd, ev_bd, ev_s]
        refine Or.inl ⟨rfl, by omega, nI_s k, by omega, fun d hd => ?_, fun i hi => ?_, fun i hi him => ?_⟩
        · dsimp only
          rw [wr_n (fun e => hd (by rw [e]; decide)), w0 d (fun hh => hd (by simp only [List.mem_cons, List.not_mem_nil, or_false] at hh ⊢; omega))]; exact c1 d hd
        · dsimp only
          rw [wr_n (by decide), wr_n (by decide), wr_n (by decide), w13, w14, w15]
          by_cases ei : i = k
          · subst ei; rw [upd_e, upd_e, upd_e]; exact ⟨rfl, rfl, rfl⟩
          · rw [upd_n ei, upd_n ei, upd_n ei]; exact c2 i (by omega)
        · dsimp only
          rw [wr_e]
          by_cases ei : i = k
          · subst ei; rw [upd_e]; exact hx him
          · rw [upd_n ei, w0 16 (by decide)]; exact c3 i (by omega) him
      have w30 : w 3 0 = nI m := by rw [w0 3 (by decide), c1 3 (by decide)]; exact u30
      by_cases hkm : k < m
      · rw [if_neg (show ¬ w 3 0 ≤ nI k by rw [w30, nI_le (by omega) (by omega)]; omega), if_neg gd3, if_neg gd2]
        exact go _ (fun _ => by rw [w0 7 (by decide), c1 7 (by decide)])
      · rw [if_pos (show w 3 0 ≤ nI k by rw [w30, nI_le (by omega) (by omega)]; omega), if_neg gd2]
        exact go 0 (fun hh => absurd hh hkm)
  · rintro ⟨z1, z2, v⟩ ⟨c1, c2, c3⟩
    dsimp only at c1 c2 c3 ⊢
    rw [ev_bd, ev_bd, ev_bd, ev_s]
    have cw : ∀ d, d ≠ 0 → wr (wr (wr v 0 30 0) 0 31 0) 0 48 0 d = v d := fun d hd => by rw [wr_n hd, wr_n hd, wr_n hd]
    have c0 : ∀ j, j ∉ [30, 31, 48] → wr (wr (wr v 0 30 0) 0 31 0) 0 48 0 0 j = u 0 j := fun j hj => by
      rw [wr_e, upd_n (fun e => hj (by rw [e]; decide)), wr_e, upd_n (fun e => hj (by rw [e]; decide)), wr_e, upd_n (fun e => hj (by rw [e]; decide)), c1 0 (by decide)]
    refine ⟨fun i hi => ?_, fun c c4 c8 i hi => ?_, fun i hi => ?_, fun i hi => ?_, fun i hi => ?_, fun i hi => ?_, ?_, ?_, ?_, ?_, ?_, fun d d0 hd => ?_, fun j hj => ?_⟩
    · rw [cw 3 (by decide), c1 3 (by decide), e3]; exact b3 i hi
    · rw [cw c (by omega), c1 c (by simp; omega)]
      have : c = 4 ∨ c = 5 ∨ c = 6 ∨ c = 7 ∨ c = 8 := by omega
      rcases this with rfl | rfl | rfl | rfl | rfl
      · exact e4 i hi
      · exact e5 i hi
      · exact e6 i hi
      · exact e7 i hi
      · exact e8 i hi
    · rw [cw 9 (by decide), c1 9 (by decide)]; exact e9 i hi
    · rw [cw 10 (by decide), c1 10 (by decide)]; exact e10 i hi
    · rw [cw 13 (by decide), cw 14 (by decide), cw 15 (by decide)]; exact c2 i hi
    · rw [cw 16 (by decide), c3 i hi]; exact e7 i (by omega)
    · rw [c0 28 (by decide)]; exact u28
    · rw [c0 29 (by decide)]; exact u29
    · rw [wr_e, upd_n (by decide), wr_e, upd_n (by decide), wr_e, upd_e]
    · rw [wr_e, upd_n (by decide), wr_e, upd_e]
    · rw [wr_e, upd_e]
    · simp only [List.mem_cons, List.not_mem_nil, or_false] at hd
      rw [cw d d0, c1 d (by simp; omega)]
      exact ca d d0 (by omega) (by omega) (by omega) (by omega) (by omega) (by omega) (by omega) (by omega)
    · simp only [List.mem_cons, List.not_mem_nil, or_false] at hj
      rw [c0 j (by simp; omega)]
      exact u0 j (by simp; omega)
