theorem PP.c_copy {N : Nat} {σ : Sg} : Ev (f_X9_copy_12_3 N σ) (fun σ' => σ' 12 0 = σ 3 0 ∧ σ' 12 5 = σ 3 5 ∧ σ' 12 6 = σ 3 6 ∧ σ' 12 7 = σ 3 7 ∧ σ' 12 8 = σ 3 8 ∧ (∀ i, i < 9 → σ' 13 i = σ 4 i ∧ σ' 14 i = σ 5 i ∧ σ' 15 i = σ 6 i ∧ σ' 16 i = σ 7 i) ∧ (∀ i, i < 8 → σ' 17 i = σ 8 i) ∧ σ' 18 0 = σ 9 0 ∧ (∀ i, i < 700 → σ' 19 i = σ 10 i) ∧ Fr [12, 13, 14, 15, 16, 17, 18, 19] σ σ') := by
  unfold f_X9_copy_12_3 f_X11_copyFarms_4_13 f_X11_copyFarms_5_14 f_X11_copyFarms_6_15 f_X11_copyFarms_7_16 f_X4_copy_18_9
  rw [ev_bd, ev_bd, ev_bd, ev_bd, ev_bd]
  generalize hu : wr (wr (wr (wr (wr σ 12 0 (σ 3 0)) 12 5 _) 12 6 _) 12 7 _) 12 8 _ = u
  have c1 : ∀ d, d ≠ 12 → u d = σ d := fun d hd => by rw [← hu, wr_n hd, wr_n hd, wr_n hd, wr_n hd, wr_n hd]
  have u0 : u 12 0 = σ 3 0 := by rw [← hu]; simp [wr, upd]
  have u5 : u 12 5 = σ 3 5 := by rw [← hu]; simp [wr, upd]
  have u6 : u 12 6 = σ 3 6 := by rw [← hu]; simp [wr, upd]
  have u7 : u 12 7 = σ 3 7 := by rw [← hu]; simp [wr, upd]
  have u8 : u 12 8 = σ 3 8 := by rw [← hu]; simp [wr, upd]
  clear hu
  simp only [bd, Option.bind_some]
  rw [ev_s]
  refine ⟨?_, ?_, ?_, ?_, ?_, fun i hi => ⟨?_, ?_, ?_, ?_⟩, fun i hi => ?_, ?_, fun i hi => ?_, fun d hd => ?_⟩
  · simp [wrR, wr, upd, u0]
  · simp [wrR, wr, upd, u5]
  · simp [wrR, wr, upd, u6]
  · simp [wrR, wr, upd, u7]
  · simp [wrR, wr, upd, u8]
  · simp [wrR, wr, upd, cp9, hi, c1]
  · simp [wrR, wr, upd, cp9, hi, c1]
  · simp [wrR, wr, upd, cp9, hi, c1]
  · simp [wrR, wr, upd, cp9, hi, c1]
  · simp [wrR, wr, upd, cpn, hi, c1]
  · simp [wrR, wr, upd, c1]
  · simp [wrR, wr, upd, cpn, hi, c1]
  · simp only [List.mem_cons, List.not_mem_nil, or_false, not_or] at hd
    simp [wrR, wr, upd, hd, c1]
