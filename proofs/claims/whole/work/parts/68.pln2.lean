def PP.FA (i : Nat) (σ τ : Sg) : Prop := (σ 4 i = τ 5 (9 + i) ∧ 0 ≤ σ 4 i ∧ σ 4 i ≤ 99) ∧ (σ 5 i = τ 6 (9 + i) ∧ 0 ≤ σ 5 i ∧ σ 5 i ≤ 99) ∧ (σ 6 i = τ 7 (9 + i) ∧ 0 ≤ σ 6 i ∧ σ 6 i ≤ 20) ∧ (σ 7 i = τ 8 (9 + i) ∧ 1 ≤ σ 7 i ∧ σ 7 i ≤ 5) ∧ ((hasB (σ 3 5) i ↔ τ 4 (9 + i) = 1) ∧ (τ 4 (9 + i) = 0 ∨ τ 4 (9 + i) = 1))
def PP.DF (m : Nat) (σ τ : Sg) : Prop := σ 3 0 = nI m ∧ τ 3 5 = nI m ∧ m ≤ 9 ∧ (∀ i, i < m → FA i σ τ) ∧ (∀ i j, i < m → j < m → σ 4 i = σ 4 j → i = j) ∧ ∀ i, m ≤ i → i < 9 → ¬ hasB (σ 3 5) i
theorem PP.c_taken1 {N m i : Nat} {v : Int32} {σ : Sg} (hN : 1000 < N) (h0 : σ 3 0 = nI m) (hm : m ≤ 9) (hi : i < m) (he : σ 4 i = v) : f_X9_isTaken_3 N v σ = some (1, σ) := by
  unfold f_X9_isTaken_3
  rw [← ev_eq, ev_b]
  refine ev_lp (fun (k : Nat) (q : Int32 × Sg) => q = (nI k, σ) ∧ k ≤ i) i N _ (by omega) ⟨rfl, by omega⟩ ?_
  rintro k _ hk ⟨rfl, hki⟩
  unfold s_X9_isTaken_3_h2
  dsimp only
  rw [if_neg (by rw [h0, nI_le (by omega) (by omega)]; omega), if_neg (gdn (by omega) (by omega)), nI_cl (by omega)]
  by_cases c : σ 4 k = v
  · rw [if_pos c, ev_s]
    refine Or.inr ⟨Nat.one_ne_zero, ?_⟩
    dsimp only
    rw [if_pos rfl, ev_s]
  · rw [if_neg c, ev_bd, ev_s]
    have : k ≠ i := fun e => c (by rw [e]; exact he)
    exact Or.inl ⟨rfl, by omega, by dsimp only; rw [nI_s], by omega⟩
theorem PP.c_taken0 {N m : Nat} {v : Int32} {σ : Sg} (hN : 1000 < N) (h0 : σ 3 0 = nI m) (hm : m ≤ 9) (he : ∀ i, i < m → σ 4 i ≠ v) : f_X9_isTaken_3 N v σ = some (0, σ) := by
  unfold f_X9_isTaken_3
  rw [← ev_eq, ev_b]
  refine ev_lp (fun (k : Nat) (q : Int32 × Sg) => q = (nI k, σ) ∧ k ≤ m) m N _ (by omega) ⟨rfl, by omega⟩ ?_
  rintro k _ hk ⟨rfl, hki⟩
  unfold s_X9_isTaken_3_h2
  dsimp only
  by_cases c : k = m
  · subst c
    rw [if_pos (by rw [h0]; exact Int32.le_refl _), ev_s]
    refine Or.inr ⟨by simp, ?_⟩
    dsimp only
    rw [if_neg (by decide), ev_s]
  · rw [if_neg (by rw [h0, nI_le (by omega) (by omega)]; omega), if_neg (gdn (by omega) (by omega)), nI_cl (by omega), if_neg (he k (by omega)), ev_bd, ev_s]
    exact Or.inl ⟨rfl, by omega, by dsimp only; rw [nI_s], by omega⟩
/-- the reference's look for the same x -/
theorem PP.m_takenB {N m : Nat} {v : Int32} {τ : Sg} (hN : 1000 < N) (hm : m < 9) (hb : τ 0 20 ≠ 0) : Ev (it (fun q => s_X12_sayFarm_h57 N (nI (9 + m)) v q.1 q.2) N ((9 : Int32), τ)) (fun z => z.2.2 = τ) := by
  refine ev_lp (fun (k : Nat) (q : Int32 × Sg) => q = (nI (9 + k), τ) ∧ k ≤ m) m N _ (by omega) ⟨rfl, by omega⟩ ?_
  rintro k _ hk ⟨rfl, hki⟩
  unfold s_X12_sayFarm_h57 f_X12_sayFarm_b79
  dsimp only
  by_cases c : k = m
  · subst c
    rw [if_pos (Int32.le_refl _), ev_s]
    exact Or.inr ⟨Nat.one_ne_zero, rfl⟩
  · rw [if_neg (by rw [nI_le (by omega) (by omega)]; omega), if_neg (gdn (by omega) (by omega)), nI_cl (by omega), m_wrongB hb, Option.bind_some]
    by_cases c2 : τ 5 (9 + k) = v
    · rw [if_pos c2, ev_bd, ev_s]
      exact Or.inl ⟨rfl, by omega, by dsimp only; rw [nI_s]; rfl, by omega⟩
    · rw [if_neg c2, ev_bd, ev_s]
      exact Or.inl ⟨rfl, by omega, by dsimp only; rw [nI_s]; rfl, by omega⟩
theorem PP.m_taken0 {N m : Nat} {v : Int32} {τ : Sg} (hN : 1000 < N) (hm : m < 9) (he : ∀ i, i < m → τ 5 (9 + i) ≠ v) : Ev (it (fun q => s_X12_sayFarm_h57 N (nI (9 + m)) v q.1 q.2) N ((9 : Int32), τ)) (fun z => z.2.2 = τ) := by
  refine ev_lp (fun (k : Nat) (q : Int32 × Sg) => q = (nI (9 + k), τ) ∧ k ≤ m) m N _ (by omega) ⟨rfl, by omega⟩ ?_
  rintro k _ hk ⟨rfl, hki⟩
  unfold s_X12_sayFarm_h57 f_X12_sayFarm_b79
  dsimp only
  by_cases c : k = m
  · subst c
    rw [if_pos (Int32.le_refl _), ev_s]
    exact Or.inr ⟨Nat.one_ne_zero, rfl⟩
  · rw [if_neg (by rw [nI_le (by omega) (by omega)]; omega), if_neg (gdn (by omega) (by omega)), nI_cl (by omega), if_neg (he k (by omega)), ev_bd, ev_s]
    exact Or.inl ⟨rfl, by omega, by dsimp only; rw [nI_s]; rfl, by omega⟩
theorem PP.m_taken1 {N m i : Nat} {v : Int32} {τ τ' : Sg} (hN : 1000 < N) (hm : m < 9) (hb : τ 0 20 = 0) (hi : i < m) (he : τ 5 (9 + i) = v) (hw : f_X12_wrong N 4 τ = some τ') (hb' : τ' 0 20 ≠ 0) (h5 : τ' 5 = τ 5) : Ev (it (fun q => s_X12_sayFarm_h57 N (nI (9 + m)) v q.1 q.2) N ((9 : Int32), τ)) (fun z => z.2.2 = τ') := by
  refine ev_lp (fun (k : Nat) (q : Int32 × Sg) => q.1 = nI (9 + k) ∧ k ≤ m ∧ ((q.2 = τ ∧ k ≤ i) ∨ q.2 = τ')) m N _ (by omega) ⟨rfl, by omega, Or.inl ⟨rfl, by omega⟩⟩ ?_
  rintro k ⟨k1, τ1⟩ hk ⟨e1, hki, hh⟩
  dsimp only at e1 hh
  subst e1
  unfold s_X12_sayFarm_h57 f_X12_sayFarm_b79
  dsimp only
  by_cases c : k = m
  · subst c
    rw [if_pos (Int32.le_refl _), ev_s]
    rcases hh with ⟨-, hh⟩ | hh
    · omega
    · exact Or.inr ⟨Nat.one_ne_zero, hh⟩
  · rw [if_neg (by rw [nI_le (by omega) (by omega)]; omega), if_neg (gdn (by omega) (by omega)), nI_cl (by omega)]
    rcases hh with ⟨rfl, hh⟩ | rfl
    · by_cases c2 : τ1 5 (9 + k) = v
      · rw [if_pos c2, hw, Option.bind_some, ev_bd, ev_s]
        exact Or.inl ⟨rfl, by omega, by dsimp only; rw [nI_s]; rfl, by omega, Or.inr rfl⟩
      · rw [if_neg c2, ev_bd, ev_s]
        have : k ≠ i := fun e => c2 (by rw [e]; exact he)
        exact Or.inl ⟨rfl, by omega, by dsimp only; rw [nI_s]; rfl, by omega, Or.inl ⟨rfl, by omega⟩⟩
    · rw [m_wrongB hb', Option.bind_some]
      by_cases c2 : τ1 5 (9 + k) = v
      · rw [if_pos c2, ev_bd, ev_s]
        exact Or.inl ⟨rfl, by omega, by dsimp only; rw [nI_s]; rfl, by omega, Or.inr rfl⟩
      · rw [if_neg c2, ev_bd, ev_s]
        exact Or.inl ⟨rfl, by omega, by dsimp only; rw [nI_s]; rfl, by omega, Or.inr rfl⟩
/-- what a line leaves -/
def PP.FL (σ τ : Sg) (r : Int32 × Sg) (q : Sg) : Prop := r.1 = 0 ∧ FE r.2 q ∧ QC σ r.2 ∧ QM τ q
theorem PP.shl0 {m : Nat} : (0 : Int32) <<< (nI m &&& 31) = 0 := by simp
theorem PP.hasB_st {m i : Nat} {x s : Int32} (hm : m < 9) (hi : i < 9) (hx : x = 0 ∨ x = 1) : hasB (s ||| (x <<< (nI m &&& 31))) i ↔ hasB s i ∨ (x = 1 ∧ i = m) := by
  rw [hasB_or (by omega)]
  rcases hx with rfl | rfl
  · rw [shl0]
    have := hasB_0 (show i < 32 by omega)
    simp [this]
  · have : hasB ((1 : Int32) <<< (nI m &&& 31)) i ↔ m = i := hasB_bit (by omega) (by omega)
    rw [this]
    constructor
    · rintro (h | h)
      · exact Or.inl h
      · exact Or.inr ⟨rfl, h.symm⟩
    · rintro (h | h)
      · exact Or.inl h
      · exact Or.inr h.2.symm
