abbrev PP.D1 : Nat → Int32 → Prop := fun c d => (c = 0 ∧ d = 0) ∨ (c = 1 ∧ d = 1)
abbrev PP.D2 : Nat → Int32 → Prop := fun c d => (c = 0 ∧ d = 0) ∨ (c = 2 ∧ d = 1)
abbrev PP.D3 : Nat → Int32 → Prop := fun c d => (c = 0 ∧ d = 0) ∨ (c = 1 ∧ d = 1) ∨ (c = 2 ∧ d = 2)
theorem PP.okS {a : Ab} {r : Int32} {o : Option Zt} {p : Option (Int32 × Sg)} {D : Nat → Int32 → Prop} (ho : OKa a) (hD : D 0 0) (h1 : Ev o (fun z => z.1 = 0 ∧ z.2.1 = r ∧ RlC a z.2.2)) (h2 : Ev p (fun q => q.2 0 2 = 0 ∧ q.1 = r ∧ RlM a q.2)) : ∃ (z : Zt) (r : Int32) (τ' : Sg), o = some z ∧ p = some (r, τ') ∧ D z.1 (τ' 0 2) ∧ (z.1 = 0 → z.2.1 = r) ∧ Rl z.2.2 τ' :=
  okZ (cC := 0) (cM := 0) ho hD (h1.imp fun z h => ⟨h.1, fun _ => h.2.1, h.2.2⟩) (h2.imp fun z h => ⟨h.1, fun _ => h.2.1, h.2.2⟩)
theorem PP.okF {a : Ab} {cC : Nat} {cM : Int32} {o : Option Zt} {p : Option (Int32 × Sg)} {D : Nat → Int32 → Prop} (ho : OKa a) (hc : cC ≠ 0) (hD : D cC cM) (h1 : Ev o (fun z => z.1 = cC ∧ RlC a z.2.2)) (h2 : Ev p (fun q => q.2 0 2 = cM ∧ RlM a q.2)) : ∃ (z : Zt) (r : Int32) (τ' : Sg), o = some z ∧ p = some (r, τ') ∧ D z.1 (τ' 0 2) ∧ (z.1 = 0 → z.2.1 = r) ∧ Rl z.2.2 τ' :=
  okZ (r := 0) ho hD (h1.imp fun z h => ⟨h.1, fun e => absurd e hc, h.2⟩) (h2.imp fun z h => ⟨h.1, fun e => absurd e hc, h.2⟩)
theorem PP.ok_fault {N : Nat} (hN : 5000 < N) : Ok_fault N Rl := by
  rintro σ τ ⟨a, hO, hC, hM⟩
  refine okI (a := a) (r := a.2.2.2.2.2.2) hO (ev_s.mpr ⟨hC.2.2.2.2.2.2, hC⟩) ?_
  unfold f_X12_fault
  rw [ev_bd, ev_s]
  exact ⟨hM.2.2.2.2.2.2, hM.code 0⟩
theorem PP.ok_forget {N : Nat} (hN : 5000 < N) : Ok_forget N Rl := by
  rintro σ τ ⟨a, hO, hC, hM⟩
  have hB := hO.2.1
  refine okV (a := sB a (a.2.2.1.1, a.2.2.1.2.1, a.2.2.1.2.2.1, 0, a.2.2.1.2.2.2.2)) (hO.sB ⟨hB.1, hB.2.1, Nat.zero_le _, fun j hj => absurd hj (Nat.not_lt_zero j)⟩) ?_ ?_
  · unfold f_X11_forget_0 f_X5_clear_29
    simp only [bd, Option.bind_some]
    rw [ev_s]
    have f : Fr [29] σ (wr σ 29 0 0) := (Fr.refl _ _).wr (by decide)
    refine hC.sB (f.mo (by decide)) ⟨hC.2.1.1.fr f (by decide), hC.2.1.2.1.fr f (by decide) (by decide), ⟨rfl, fun j hj => absurd hj (Nat.not_lt_zero j)⟩, ?_⟩ (hC.2.2.1.fr f (by decide))
    intro j hj
    have := hC.2.1.2.2.2 j hj
    dsimp only [Nat.reduceAdd] at this ⊢
    rw [f 33 (by decide)]; exact this
  · unfold f_X12_forget
    rw [ev_bd, ev_bd, ev_s]
    have hM0 := hM.code 0
    have f : FM [] [31] (wr τ 0 2 0) (wr (wr τ 0 2 0) 0 31 0) := (FM.refl _ _ _).w0 (by decide)
    obtain ⟨b1, b2, b3, b4, b5, b6⟩ := hM0.2.1
    refine hM0.sB (f.mo (by decide) (by decide)) ⟨b1.fr f (by decide) (by decide), b2, b3, rfl, fun j hj => absurd hj (Nat.not_lt_zero j), b6⟩ hM0.2.2.1
/-! ===== what was seen ===== -/
theorem PP.ok_see {N : Nat} (hN : 5000 < N) : Ok_see N Rl := by
  rintro x k y σ τ hy ⟨a, hO, hC, hM⟩
  have hF := hO.1.1
  have lC := hC.1.2.1
  have lM : (wr τ 0 2 0) 3 0 = nI a.1 := hM.1.2.1
  have hM0 := hM.code 0
  have hB := hO.2.1
  have hK := hB.2.2.1
  have k0 : σ 29 0 = nI a.2.2.1.2.2.2.1 := hC.2.1.2.2.1.1
  have m0 : (wr τ 0 2 0) 0 31 = nI a.2.2.1.2.2.2.1 := hM0.2.1.2.2.2.1
  have e1 : (1 : Int64) = (1 : Int32).toInt64 := rfl
  have e20 : (20 : Int64) = (20 : Int32).toInt64 := rfl
  by_cases hx : 0 ≤ x ∧ x < nI a.1
  · obtain ⟨f, hf, rfl⟩ := farm_n hF hx
    by_cases hs : (1 ≤ k ∧ k ≤ 20) ∧ a.2.2.1.2.2.2.1 < 8
    · obtain ⟨hk, h8⟩ := hs
      refine okS (a := sB a (a.2.2.1.1, a.2.2.1.2.1, a.2.2.1.2.2.1, a.2.2.1.2.2.2.1 + 1, wr (wr (wr a.2.2.1.2.2.2.2.1 0 a.2.2.1.2.2.2.1 (nI f)) 1 a.2.2.1.2.2.2.1 k) 2 a.2.2.1.2.2.2.1 y, a.2.2.1.2.2.2.2.2)) (r := nI (a.2.2.1.2.2.2.1 + 1)) (D := D1) (hO.sB ⟨hB.1, hB.2.1, by show a.2.2.1.2.2.2.1 + 1 ≤ 8; omega, ?_⟩) (Or.inl ⟨rfl, rfl⟩) ?_ ?_
      · intro j hj
        have hj : j < a.2.2.1.2.2.2.1 + 1 := hj
        dsimp only
        by_cases e : j = a.2.2.1.2.2.2.1
        · subst e
          obtain ⟨n, hn1, hn2, rfl⟩ := in_n (lo := 1) (hi := 20) (by omega) hk (by omega)
          refine ⟨⟨f, hf, ?_⟩, ⟨n - 1, by omega, ?_⟩, ?_⟩
          · simp (disch := omega) only [wr_eq, iN, iE, if_true]
          · rw [show n - 1 + 1 = n by omega]; simp (disch := omega) only [wr_eq, iN, iE, if_true]
          · simp (disch := omega) only [wr_eq, iN, iE, if_true]; exact hy
        · have := hB.2.2.2 j (by omega)
          simp (disch := omega) only [wr_eq, iN, iE, if_true]
          simpa using this
      · unfold f_X11_see_0
        rw [c_farm hF lC, Option.bind_some, if_pos hx]
        dsimp only
        rw [if_pos rfl, if_neg (show ¬ k < 1 by grind), if_neg (show ¬ 20 < k by grind), if_pos (show σ 29 0 < 8 by rw [k0, show (8 : Int32) = nI 8 from rfl, nI_lt (by omega) (by omega)]; exact h8)]
        unfold f_X5_add_29 f_X5_add_29_b46
        rw [k0, if_neg (by rw [show (8 : Int32) = nI 8 from rfl, nI_le (by omega) (by omega)]; omega)]
        simp (disch := omega) only [bd, wr_n (show (29 : Nat) ≠ 30 by decide), wr_n (show (29 : Nat) ≠ 31 by decide), wr_n (show (29 : Nat) ≠ 32 by decide), k0, nI_g, if_false]
        simp (disch := omega) only [nI_cl, nI_s]
        have fin : ∀ v : Int32, v = y → Ev ((some (wr (wr (wr (wr σ 30 a.2.2.1.2.2.2.1 (nI f)) 31 a.2.2.1.2.2.2.1 k) 32 a.2.2.1.2.2.2.1 v) 29 0 (nI (a.2.2.1.2.2.2.1 + 1)))).bind fun q3 => some (0, q3 29 0, q3)) (fun z : Zt => z.1 = 0 ∧ z.2.1 = nI (a.2.2.1.2.2.2.1 + 1) ∧ RlC (sB a (a.2.2.1.1, a.2.2.1.2.1, a.2.2.1.2.2.1, a.2.2.1.2.2.2.1 + 1, wr (wr (wr a.2.2.1.2.2.2.2.1 0 a.2.2.1.2.2.2.1 (nI f)) 1 a.2.2.1.2.2.2.1 k) 2 a.2.2.1.2.2.2.1 y, a.2.2.1.2.2.2.2.2)) z.2.2) := by
          rintro v rfl
          rw [Option.bind_some, ev_s]
          have ff : Fr [29, 30, 31, 32] σ (wr (wr (wr (wr σ 30 a.2.2.1.2.2.2.1 (nI f)) 31 a.2.2.1.2.2.2.1 k) 32 a.2.2.1.2.2.2.1 v) 29 0 (nI (a.2.2.1.2.2.2.1 + 1))) := ((((Fr.refl _ _).wr (by decide)).wr (by decide)).wr (by decide)).wr (by decide)
          refine ⟨rfl, by rw [wr_e, upd_e], ?_⟩
          show RlC _ (wr (wr (wr (wr σ 30 a.2.2.1.2.2.2.1 (nI f)) 31 a.2.2.1.2.2.2.1 k) 32 a.2.2.1.2.2.2.1 v) 29 0 (nI (a.2.2.1.2.2.2.1 + 1)))
          refine hC.sB (ff.mo (by decide)) ⟨hC.2.1.1.fr ff (by decide), hC.2.1.2.1.fr ff (by decide) (by decide), ⟨by show wr _ 29 0 _ 29 0 = _; rw [wr_e, upd_e], ?_⟩, ?_⟩ (hC.2.2.1.fr ff (by decide))
          · intro j hj
            have hj : j < a.2.2.1.2.2.2.1 + 1 := hj
            dsimp only [Nat.reduceAdd]
            by_cases e : j = a.2.2.1.2.2.2.1
            · subst e
              refine ⟨?_, ?_, ?_⟩ <;> simp (disch := omega) only [wr_eq, iN, iE, if_true]
            · have := hC.2.1.2.2.1.2 j (by show j < a.2.2.1.2.2.2.1; omega)
              dsimp only [Nat.reduceAdd] at this
              refine ⟨?_, ?_, ?_⟩ <;> simp (disch := omega) only [wr_eq, iN, iE, if_true, this]
          · intro j hj
            have := hC.2.1.2.2.2 j hj
            dsimp only [Nat.reduceAdd] at this ⊢
            rw [ff 33 (by decide)]; exact this
        by_cases h0 : y = 0
        · rw [if_pos h0]; exact fin 0 h0.symm
        · rw [if_neg h0]; exact fin 1 (hy.resolve_left h0).symm
      · unfold f_X12_see
        rw [ev_bd, m_isFarm hF lM, Option.bind_some, if_pos hx]
        dsimp only
        rw [if_neg (by decide), if_neg (show ¬ (wr τ 0 2 0) 0 31 = 8 by rw [m0, show (8 : Int32) = nI 8 from rfl, nI_eq (by omega) (by omega)]; omega), e1, e20, m_isIn, Option.bind_some, if_pos hk]
        dsimp only
        rw [if_neg (by decide)]
        have hy' : vp_nar .boolean y = y := by rcases hy with rfl | rfl <;> rfl
        have m1 : τ 0 31 = nI a.2.2.1.2.2.2.1 := m0
        simp (disch := omega) only [ev_bd, wr_eq, iN, iE, if_true, m1, nI_g, if_false, hy']
        simp (disch := omega) only [nI_cl, nI_s]
        rw [ev_s]
        generalize hτ1 : wr τ 0 2 0 = τ1 at *
        have ff : FM [24, 25, 27] [31] τ1 (wr (wr (wr (wr τ1 24 a.2.2.1.2.2.2.1 (nI f)) 25 a.2.2.1.2.2.2.1 k) 27 a.2.2.1.2.2.2.1 y) 0 31 (nI (a.2.2.1.2.2.2.1 + 1))) := ((((FM.refl _ _ _).w (by decide) (by decide)).w (by decide) (by decide)).w (by decide) (by decide)).w0 (by decide)
        obtain ⟨b1, b2, b3, b4, b5, b6⟩ := hM0.2.1
        refine ⟨(ff.2 2 (by decide)).trans (by rw [← hτ1]; rfl), by trivial, ?_⟩
        show RlM _ (wr (wr (wr (wr τ1 24 a.2.2.1.2.2.2.1 (nI f)) 25 a.2.2.1.2.2.2.1 k) 27 a.2.2.1.2.2.2.1 y) 0 31 (nI (a.2.2.1.2.2.2.1 + 1)))
        refine hM0.sB (ff.mo (by decide) (by decide)) ⟨b1.fr ff (by decide) (by decide), b2, b3, by rw [wr_e, upd_e], ?_, b6⟩ hM0.2.2.1
        · intro j hj
          have hj : j < a.2.2.1.2.2.2.1 + 1 := hj
          by_cases e : j = a.2.2.1.2.2.2.1
          · subst e
            refine ⟨?_, ?_, ?_⟩ <;> simp (disch := omega) only [wr_eq, iN, iE, if_true]
          · have := b5 j (by omega)
            refine ⟨?_, ?_, ?_⟩ <;> simp (disch := omega) only [wr_eq, iN, iE, if_true, this]
    · refine okS (a := refu a 2) (r := -1) (D := D1) (refu_ok hO) (Or.inl ⟨rfl, rfl⟩) ?_ ?_
      · unfold f_X11_see_0 f_X11_see_0_b31
        rw [c_farm hF lC, Option.bind_some, if_pos hx]
        dsimp only
        rw [if_pos rfl]
        simp only [k0]
        have fin : Ev (bd (wr σ 33 2 (σ 33 2 + 1)) fun σ1 => some (0, (-1 : Int32), σ1)) (fun z : Zt => z.1 = 0 ∧ z.2.1 = -1 ∧ RlC (refu a 2) z.2.2) := by
          rw [ev_bd, ev_s]; exact ⟨rfl, rfl, c_refu (by omega) hC⟩
        by_cases h1 : k < 1
        · rw [if_pos h1]; exact fin
        · rw [if_neg h1]
          by_cases h2 : 20 < k
          · rw [if_pos h2]; exact fin
          · rw [if_neg h2, if_neg]
            · exact fin
            · rw [show (8 : Int32) = nI 8 from rfl, nI_lt (by omega) (by omega)]
              exact fun h => hs ⟨⟨by grind, by grind⟩, h⟩
      · unfold f_X12_see f_X12_see_b40
        rw [ev_bd, m_isFarm hF lM, Option.bind_some, if_pos hx]
        dsimp only
        rw [if_neg (by decide), m_refuse2, Option.bind_some, e1, e20, m_isIn, Option.bind_some]
        dsimp only
        rw [m_refuse2, Option.bind_some]
        simp only [m0]
        have fin : Ev (some ((-1 : Int32), wr (wr τ 0 2 0) 11 2 ((wr τ 0 2 0) 11 2 + 1))) (fun q => q.2 0 2 = 0 ∧ q.1 = -1 ∧ RlM (refu a 2) q.2) := by
          rw [ev_s]; exact ⟨rfl, rfl, m_refu (by omega) hM0⟩
        by_cases h8 : nI a.2.2.1.2.2.2.1 = 8
        · rw [if_pos h8]; exact fin
        · have hk' : ¬ (1 ≤ k ∧ k ≤ 20) := by
            intro hk
            rw [show (8 : Int32) = nI 8 from rfl, nI_eq (by omega) (by omega)] at h8
            exact hs ⟨hk, by omega⟩
          rw [if_neg h8, if_neg hk', if_pos rfl]
          exact fin
  · refine okF (a := a) (cC := 1) (cM := 1) (D := D1) hO (by decide) (Or.inr ⟨rfl, rfl⟩) ?_ ?_
    · unfold f_X11_see_0
      rw [c_farm hF lC, Option.bind_some, if_neg hx]
      dsimp only
      rw [if_neg (by decide), ev_s]
      exact ⟨rfl, hC⟩
    · unfold f_X12_see f_X12_fail
      rw [ev_bd, m_isFarm hF lM, Option.bind_some, if_neg hx]
      simp only [if_true, bd, Option.bind_some, ev_s]
      exact ⟨by trivial, (hM.code 0).code 1⟩
/-! ===== the image ===== -/
theorem PP.cpn (f g : Nat → Int32) {n i : Nat} (h : i < n) : va_cpy f g 0 0 n i = f i := by
  unfold va_cpy
  rw [if_pos ⟨by omega, by omega⟩]
  congr 1
  omega
theorem PP.c_cpA_34 {N : Nat} {σ : Sg} : Ev (f_X0_copy_40_27 N σ) (fun σ' => (∀ F A h, F ≤ 9 → AC 27 F A h σ → AC 40 F A h σ') ∧ Fr [40, 41] σ σ') := by
  unfold f_X0_copy_40_27
  rw [ev_bd, ev_bd, ev_bd, ev_s]
  refine ⟨?_, (((Fr.refl _ _).wr (by decide)).wr (by decide)).wrR (by decide)⟩
  rintro F A h hF ⟨a0, nx, hx, a1, ar⟩
  refine ⟨?_, nx, hx, ?_, ?_⟩
  · simp (disch := omega) only [wrR_eq, wr_eq, iN, iE, if_true]; exact a0
  · simp (disch := omega) only [wrR_eq, wr_eq, iN, iE, if_true]; exact a1
  · intro j hj
    refine (ar j hj).cg hF (fun i h1 h2 => ?_)
    dsimp only [Nat.reduceAdd]
    rw [wrR_e, cpn _ _ (by omega)]
    rw [wr_n (by decide), wr_n (by decide)]
theorem PP.c_cpS_34 {N : Nat} {σ : Sg} : Ev (f_X5_copy_42_29 N σ) (fun σ' => (∀ K q, K ≤ 8 → KC 29 K q σ → KC 42 K q σ') ∧ Fr [42, 43, 44, 45] σ σ') := by
  unfold f_X5_copy_42_29
  rw [ev_bd, ev_bd, ev_bd, ev_bd, ev_s]
  refine ⟨?_, ((((Fr.refl _ _).wr (by decide)).wrR (by decide)).wrR (by decide)).wrR (by decide)⟩
  rintro K q hK ⟨a0, ar⟩
  refine ⟨?_, ?_⟩
  · simp (disch := omega) only [wrR_eq, wr_eq, iN, iE, if_true]; exact a0
  · intro j hj
    have := ar j hj
    dsimp only [Nat.reduceAdd] at this ⊢
    refine ⟨?_, ?_, ?_⟩
    · rw [wrR_n (by decide), wrR_n (by decide), wrR_e, cpn _ _ (by omega), wr_n (by decide)]; exact this.1
    · rw [wrR_n (by decide), wrR_e, cpn _ _ (by omega), wrR_n (by decide), wr_n (by decide)]; exact this.2.1
    · rw [wrR_e, cpn _ _ (by omega), wrR_n (by decide), wrR_n (by decide), wr_n (by decide)]; exact this.2.2
theorem PP.c_cpB_34 {N : Nat} {σ : Sg} : Ev (f_X1_copy_34_21 N σ) (fun σ' => (∀ F B, F ≤ 9 → B.2.2.2.1 ≤ 8 → BC 21 F B σ → BC 34 F B σ') ∧ Fr [35, 36, 37, 38, 39, 40, 41, 42, 43, 44, 45, 46] σ σ') := by
  unfold f_X1_copy_34_21
  refine c_copy_35_22.bind ?_
  rintro σ1 ⟨h1, f1⟩
  refine c_cpA_34.bind ?_
  rintro σ2 ⟨h2, f2⟩
  refine c_cpS_34.bind ?_
  rintro σ3 ⟨h3, f3⟩
  rw [ev_bd, ev_s]
  have f4 : Fr [46] σ3 (wrR σ3 46 (va_cpy (σ3 33) (σ3 46) 0 0 3)) := (Fr.refl _ _).wrR (by decide)
  refine ⟨?_, (((f1.mo (by decide)).tr (f2.mo (by decide))).tr (f3.mo (by decide))).tr (f4.mo (by decide))⟩
  rintro F B hF hK ⟨b1, b2, b3, b4⟩
  refine ⟨?_, ?_, ?_, ?_⟩
  · exact (((h1 F _ hF b1).fr f2 (by decide)).fr f3 (by decide)).fr f4 (by decide)
  · exact ((h2 F _ _ hF (AC.fr (c := 27) b2 f1 (by decide) (by decide))).fr f3 (by decide) (by decide)).fr f4 (by decide) (by decide)
  · exact (h3 _ _ hK ((KC.fr (c := 29) b3 f1 (by decide)).fr f2 (by decide))).fr f4 (by decide)
  · intro j hj
    have := b4 j hj
    dsimp only [Nat.reduceAdd] at this ⊢
    rw [wrR_e, cpn _ _ (by omega), f3 33 (by decide), f2 33 (by decide), f1 33 (by decide)]; exact this
theorem PP.c_cpA_21 {N : Nat} {σ : Sg} : Ev (f_X0_copy_27_40 N σ) (fun σ' => (∀ F A h, F ≤ 9 → AC 40 F A h σ → AC 27 F A h σ') ∧ Fr [27, 28] σ σ') := by
  unfold f_X0_copy_27_40
  rw [ev_bd, ev_bd, ev_bd, ev_s]
  refine ⟨?_, (((Fr.refl _ _).wr (by decide)).wr (by decide)).wrR (by decide)⟩
  rintro F A h hF ⟨a0, nx, hx, a1, ar⟩
  refine ⟨?_, nx, hx, ?_, ?_⟩
  · simp (disch := omega) only [wrR_eq, wr_eq, iN, iE, if_true]; exact a0
  · simp (disch := omega) only [wrR_eq, wr_eq, iN, iE, if_true]; exact a1
  · intro j hj
    refine (ar j hj).cg hF (fun i h1 h2 => ?_)
    dsimp only [Nat.reduceAdd]
    rw [wrR_e, cpn _ _ (by omega)]
    rw [wr_n (by decide), wr_n (by decide)]
theorem PP.c_cpS_21 {N : Nat} {σ : Sg} : Ev (f_X5_copy_29_42 N σ) (fun σ' => (∀ K q, K ≤ 8 → KC 42 K q σ → KC 29 K q σ') ∧ Fr [29, 30, 31, 32] σ σ') := by
  unfold f_X5_copy_29_42
  rw [ev_bd, ev_bd, ev_bd, ev_bd, ev_s]
  refine ⟨?_, ((((Fr.refl _ _).wr (by decide)).wrR (by decide)).wrR (by decide)).wrR (by decide)⟩
  rintro K q hK ⟨a0, ar⟩
  refine ⟨?_, ?_⟩
  · simp (disch := omega) only [wrR_eq, wr_eq, iN, iE, if_true]; exact a0
  · intro j hj
    have := ar j hj
    dsimp only [Nat.reduceAdd] at this ⊢
    refine ⟨?_, ?_, ?_⟩
    · rw [wrR_n (by decide), wrR_n (by decide), wrR_e, cpn _ _ (by omega), wr_n (by decide)]; exact this.1
    · rw [wrR_n (by decide), wrR_e, cpn _ _ (by omega), wrR_n (by decide), wr_n (by decide)]; exact this.2.1
    · rw [wrR_e, cpn _ _ (by omega), wrR_n (by decide), wrR_n (by decide), wr_n (by decide)]; exact this.2.2
theorem PP.c_cpB_21 {N : Nat} {σ : Sg} : Ev (f_X1_copy_21_34 N σ) (fun σ' => (∀ F B, F ≤ 9 → B.2.2.2.1 ≤ 8 → BC 34 F B σ → BC 21 F B σ') ∧ Fr [22, 23, 24, 25, 26, 27, 28, 29, 30, 31, 32, 33] σ σ') := by
  unfold f_X1_copy_21_34
  refine c_copy_22_35.bind ?_
  rintro σ1 ⟨h1, f1⟩
  refine c_cpA_21.bind ?_
  rintro σ2 ⟨h2, f2⟩
  refine c_cpS_21.bind ?_
  rintro σ3 ⟨h3, f3⟩
  rw [ev_bd, ev_s]
  have f4 : Fr [33] σ3 (wrR σ3 33 (va_cpy (σ3 46) (σ3 33) 0 0 3)) := (Fr.refl _ _).wrR (by decide)
  refine ⟨?_, (((f1.mo (by decide)).tr (f2.mo (by decide))).tr (f3.mo (by decide))).tr (f4.mo (by decide))⟩
  rintro F B hF hK ⟨b1, b2, b3, b4⟩
  refine ⟨?_, ?_, ?_, ?_⟩
  · exact (((h1 F _ hF b1).fr f2 (by decide)).fr f3 (by decide)).fr f4 (by decide)
  · exact ((h2 F _ _ hF (AC.fr (c := 40) b2 f1 (by decide) (by decide))).fr f3 (by decide) (by decide)).fr f4 (by decide) (by decide)
  · exact (h3 _ _ hK ((KC.fr (c := 42) b3 f1 (by decide)).fr f2 (by decide))).fr f4 (by decide)
  · intro j hj
    have := b4 j hj
    dsimp only [Nat.reduceAdd] at this ⊢
    rw [wrR_e, cpn _ _ (by omega), f3 46 (by decide), f2 46 (by decide), f1 46 (by decide)]; exact this
theorem PP.m_cp_31_17 {N : Nat} {τ : Sg} (hN : 2000 < N) : Ev (f_X12_copyTo_31_17 N τ) (fun τ' => (∀ i, i < 1520 → τ' 31 i = τ 17 i) ∧ FM [31] [] τ τ') := by
  unfold f_X12_copyTo_31_17
  rw [ev_b]
  refine (ev_fill 31 1520 N (fun k => τ 17 k) τ _ rfl (by omega) ?_ ?_).imp ?_
  · intro k σ' hk h1 h2 h3
    unfold s_X12_copyTo_31_17_h2
    dsimp only
    simp (disch := omega) only [show (1520 : Int32) = nI 1520 from rfl, nI_le, show ¬ 1520 ≤ k by omega, if_false, nI_g]
    simp (disch := omega) only [nI_cl, nI_s, bd, h1 17 (by decide)]
  · intro σ' h1
    unfold s_X12_copyTo_31_17_h2
    exact ⟨_, if_pos (by dsimp only; decide)⟩
  · rintro z ⟨h1, h2, h3⟩
    rw [ev_s]
    exact ⟨h2, FM.of (by decide) h1⟩
theorem PP.m_cp_32_24 {N : Nat} {τ : Sg} (hN : 2000 < N) : Ev (f_X12_copyTo_32_24 N τ) (fun τ' => (∀ i, i < 8 → τ' 32 i = τ 24 i) ∧ FM [32] [] τ τ') := by
  unfold f_X12_copyTo_32_24
  rw [ev_b]
  refine (ev_fill 32 8 N (fun k => τ 24 k) τ _ rfl (by omega) ?_ ?_).imp ?_
  · intro k σ' hk h1 h2 h3
    unfold s_X12_copyTo_32_24_h2
    dsimp only
    simp (disch := omega) only [show (8 : Int32) = nI 8 from rfl, nI_le, show ¬ 8 ≤ k by omega, if_false, nI_g]
    simp (disch := omega) only [nI_cl, nI_s, bd, h1 24 (by decide)]
  · intro σ' h1
    unfold s_X12_copyTo_32_24_h2
    exact ⟨_, if_pos (by dsimp only; decide)⟩
  · rintro z ⟨h1, h2, h3⟩
    rw [ev_s]
    exact ⟨h2, FM.of (by decide) h1⟩
theorem PP.m_cp_33_25 {N : Nat} {τ : Sg} (hN : 2000 < N) : Ev (f_X12_copyTo_33_25 N τ) (fun τ' => (∀ i, i < 8 → τ' 33 i = τ 25 i) ∧ FM [33] [] τ τ') := by
  unfold f_X12_copyTo_33_25
  rw [ev_b]
  refine (ev_fill 33 8 N (fun k => τ 25 k) τ _ rfl (by omega) ?_ ?_).imp ?_
  · intro k σ' hk h1 h2 h3
    unfold s_X12_copyTo_33_25_h2
    dsimp only
    simp (disch := omega) only [show (8 : Int32) = nI 8 from rfl, nI_le, show ¬ 8 ≤ k by omega, if_false, nI_g]
    simp (disch := omega) only [nI_cl, nI_s, bd, h1 25 (by decide)]
  · intro σ' h1
    unfold s_X12_copyTo_33_25_h2
    exact ⟨_, if_pos (by dsimp only; decide)⟩
  · rintro z ⟨h1, h2, h3⟩
    rw [ev_s]
    exact ⟨h2, FM.of (by decide) h1⟩
theorem PP.m_cp_34_11 {N : Nat} {τ : Sg} (hN : 2000 < N) : Ev (f_X12_copyTo_34_11 N τ) (fun τ' => (∀ i, i < 3 → τ' 34 i = τ 11 i) ∧ FM [34] [] τ τ') := by
  unfold f_X12_copyTo_34_11
  rw [ev_b]
  refine (ev_fill 34 3 N (fun k => τ 11 k) τ _ rfl (by omega) ?_ ?_).imp ?_
  · intro k σ' hk h1 h2 h3
    unfold s_X12_copyTo_34_11_h2
    dsimp only
    simp (disch := omega) only [show (3 : Int32) = nI 3 from rfl, nI_le, show ¬ 3 ≤ k by omega, if_false, nI_g]
    simp (disch := omega) only [nI_cl, nI_s, bd, h1 11 (by decide)]
  · intro σ' h1
    unfold s_X12_copyTo_34_11_h2
    exact ⟨_, if_pos (by dsimp only; decide)⟩
  · rintro z ⟨h1, h2, h3⟩
    rw [ev_s]
    exact ⟨h2, FM.of (by decide) h1⟩
theorem PP.m_cp_17_31 {N : Nat} {τ : Sg} (hN : 2000 < N) : Ev (f_X12_copyTo_17_31 N τ) (fun τ' => (∀ i, i < 1520 → τ' 17 i = τ 31 i) ∧ FM [17] [] τ τ') := by
  unfold f_X12_copyTo_17_31
  rw [ev_b]
  refine (ev_fill 17 1520 N (fun k => τ 31 k) τ _ rfl (by omega) ?_ ?_).imp ?_
  · intro k σ' hk h1 h2 h3
    unfold s_X12_copyTo_17_31_h2
    dsimp only
    simp (disch := omega) only [show (1520 : Int32) = nI 1520 from rfl, nI_le, show ¬ 1520 ≤ k by omega, if_false, nI_g]
    simp (disch := omega) only [nI_cl, nI_s, bd, h1 31 (by decide)]
  · intro σ' h1
    unfold s_X12_copyTo_17_31_h2
    exact ⟨_, if_pos (by dsimp only; decide)⟩
  · rintro z ⟨h1, h2, h3⟩
    rw [ev_s]
    exact ⟨h2, FM.of (by decide) h1⟩
theorem PP.m_cp_24_32 {N : Nat} {τ : Sg} (hN : 2000 < N) : Ev (f_X12_copyTo_24_32 N τ) (fun τ' => (∀ i, i < 8 → τ' 24 i = τ 32 i) ∧ FM [24] [] τ τ') := by
  unfold f_X12_copyTo_24_32
  rw [ev_b]
  refine (ev_fill 24 8 N (fun k => τ 32 k) τ _ rfl (by omega) ?_ ?_).imp ?_
  · intro k σ' hk h1 h2 h3
    unfold s_X12_copyTo_24_32_h2
    dsimp only
    simp (disch := omega) only [show (8 : Int32) = nI 8 from rfl, nI_le, show ¬ 8 ≤ k by omega, if_false, nI_g]
    simp (disch := omega) only [nI_cl, nI_s, bd, h1 32 (by decide)]
  · intro σ' h1
    unfold s_X12_copyTo_24_32_h2
    exact ⟨_, if_pos (by dsimp only; decide)⟩
  · rintro z ⟨h1, h2, h3⟩
    rw [ev_s]
    exact ⟨h2, FM.of (by decide) h1⟩
theorem PP.m_cp_25_33 {N : Nat} {τ : Sg} (hN : 2000 < N) : Ev (f_X12_copyTo_25_33 N τ) (fun τ' => (∀ i, i < 8 → τ' 25 i = τ 33 i) ∧ FM [25] [] τ τ') := by
  unfold f_X12_copyTo_25_33
  rw [ev_b]
  refine (ev_fill 25 8 N (fun k => τ 33 k) τ _ rfl (by omega) ?_ ?_).imp ?_
  · intro k σ' hk h1 h2 h3
    unfold s_X12_copyTo_25_33_h2
    dsimp only
    simp (disch := omega) only [show (8 : Int32) = nI 8 from rfl, nI_le, show ¬ 8 ≤ k by omega, if_false, nI_g]
    simp (disch := omega) only [nI_cl, nI_s, bd, h1 33 (by decide)]
  · intro σ' h1
    unfold s_X12_copyTo_25_33_h2
    exact ⟨_, if_pos (by dsimp only; decide)⟩
  · rintro z ⟨h1, h2, h3⟩
    rw [ev_s]
    exact ⟨h2, FM.of (by decide) h1⟩
theorem PP.m_cp_11_34 {N : Nat} {τ : Sg} (hN : 2000 < N) : Ev (f_X12_copyTo_11_34 N τ) (fun τ' => (∀ i, i < 3 → τ' 11 i = τ 34 i) ∧ FM [11] [] τ τ') := by
  unfold f_X12_copyTo_11_34
  rw [ev_b]
  refine (ev_fill 11 3 N (fun k => τ 34 k) τ _ rfl (by omega) ?_ ?_).imp ?_
  · intro k σ' hk h1 h2 h3
    unfold s_X12_copyTo_11_34_h2
    dsimp only
    simp (disch := omega) only [show (3 : Int32) = nI 3 from rfl, nI_le, show ¬ 3 ≤ k by omega, if_false, nI_g]
    simp (disch := omega) only [nI_cl, nI_s, bd, h1 34 (by decide)]
  · intro σ' h1
    unfold s_X12_copyTo_11_34_h2
    exact ⟨_, if_pos (by dsimp only; decide)⟩
  · rintro z ⟨h1, h2, h3⟩
    rw [ev_s]
    exact ⟨h2, FM.of (by decide) h1⟩
theorem PP.m_cpb_image_h70 {N : Nat} {τ : Sg} (hN : 2000 < N) : Ev (it (fun q => s_X12_image_h70 N q.1 q.2) N ((0 : Int32), τ)) (fun z => (∀ i, i < 8 → z.2.2 35 i = vp_nar .boolean (τ 27 i)) ∧ FM [35] [] τ z.2.2) := by
  refine (ev_fill 35 8 N (fun k => vp_nar .boolean (τ 27 k)) τ _ rfl (by omega) ?_ ?_).imp ?_
  · intro k σ' hk h1 h2 h3
    unfold s_X12_image_h70
    dsimp only
    simp (disch := omega) only [show (8 : Int32) = nI 8 from rfl, nI_le, show ¬ 8 ≤ k by omega, if_false, nI_g]
    simp (disch := omega) only [nI_cl, nI_s, bd, h1 27 (by decide)]
  · intro σ' h1
    unfold s_X12_image_h70
    exact ⟨_, if_pos (by dsimp only; decide)⟩
  · rintro z ⟨h1, h2, h3⟩
    exact ⟨h2, FM.of (by decide) h1⟩
theorem PP.m_cpb_restore_h74 {N : Nat} {τ : Sg} (hN : 2000 < N) : Ev (it (fun q => s_X12_restore_h74 N q.1 q.2) N ((0 : Int32), τ)) (fun z => (∀ i, i < 8 → z.2.2 27 i = vp_nar .boolean (τ 35 i)) ∧ FM [27] [] τ z.2.2) := by
  refine (ev_fill 27 8 N (fun k => vp_nar .boolean (τ 35 k)) τ _ rfl (by omega) ?_ ?_).imp ?_
  · intro k σ' hk h1 h2 h3
    unfold s_X12_restore_h74
    dsimp only
    simp (disch := omega) only [show (8 : Int32) = nI 8 from rfl, nI_le, show ¬ 8 ≤ k by omega, if_false, nI_g]
    simp (disch := omega) only [nI_cl, nI_s, bd, h1 35 (by decide)]
  · intro σ' h1
    unfold s_X12_restore_h74
    exact ⟨_, if_pos (by dsimp only; decide)⟩
  · rintro z ⟨h1, h2, h3⟩
    exact ⟨h2, FM.of (by decide) h1⟩
theorem PP.AM.cg {F A : Nat} {h : Nat → Sg} {r r' : Nat → Int32} (k : AM F A h r) (hF : F ≤ 9) (hA : A ≤ 40) (e : ∀ i, i < 1520 → r' i = r i) : AM F A h r' := fun j hj => rowM.sh (d := 0) (k j hj) hF (fun i h1 h2 => e i (by omega))
theorem PP.nar_b {y : Int32} (h : y = 0 ∨ y = 1) : vp_nar .boolean y = y := by rcases h with rfl | rfl <;> rfl
theorem PP.ok_image {N : Nat} (hN : 5000 < N) : Ok_image N Rl := by
  rintro σ τ ⟨a, hO, hC, hM⟩
  have hF := hO.1.1
  have hB := hO.2.1
  refine okV (a := (a.1, a.2.1, a.2.2.1, some a.2.2.1, a.2.2.2.2)) ⟨hO.1, hB, fun B h => by cases h; exact hB, hO.2.2.2⟩ ?_ ?_
  · unfold f_X11_image_0
    refine c_cpB_34.bind ?_
    rintro σ1 ⟨h1, f1⟩
    rw [ev_bd, ev_s]
    have f2 : Fr [0] σ1 (wr σ1 0 6 1) := (Fr.refl _ _).wr (by decide)
    refine ⟨(hC.1.fr f1 (by decide)).fr f2 (by decide), (hC.2.1.fr f1 (by decide)).fr f2 (by decide), (hC.2.2.1.fr f1 (by decide)).fr f2 (by decide), ⟨by rw [wr_e, upd_e], (h1 _ _ hF hB.2.2.1 hC.2.1).fr f2 (by decide)⟩, ?_⟩
    have h5 := hC.2.2.2.2
    unfold TC at h5 ⊢
    rw [wr_e, upd_n (by decide), wr_n (by decide), wr_n (by decide), f1 0 (by decide), f1 1 (by decide), f1 2 (by decide)]; exact h5
  · unfold f_X12_image
    rw [ev_bd, ev_bd, ev_bd, ev_bd]
    have hM0 := hM.code 0
    generalize hτ1 : wr τ 0 2 0 = τ1 at *
    have f1 : FM [] [48, 49, 50] τ1 (wr (wr (wr τ1 0 48 1) 0 49 (wr τ1 0 48 1 0 30)) 0 50 (wr (wr τ1 0 48 1) 0 49 (wr τ1 0 48 1 0 30) 0 31)) := (((FM.refl _ _ _).w0 (by decide)).w0 (by decide)).w0 (by decide)
    have z48 : (wr (wr (wr τ1 0 48 1) 0 49 (wr τ1 0 48 1 0 30)) 0 50 (wr (wr τ1 0 48 1) 0 49 (wr τ1 0 48 1 0 30) 0 31)) 0 48 = 1 := by simp (disch := omega) only [wr_eq, iN, iE, if_true]
    have z49 : (wr (wr (wr τ1 0 48 1) 0 49 (wr τ1 0 48 1 0 30)) 0 50 (wr (wr τ1 0 48 1) 0 49 (wr τ1 0 48 1 0 30) 0 31)) 0 49 = τ1 0 30 := by simp (disch := omega) only [wr_eq, iN, iE, if_true]
    have z50 : (wr (wr (wr τ1 0 48 1) 0 49 (wr τ1 0 48 1 0 30)) 0 50 (wr (wr τ1 0 48 1) 0 49 (wr τ1 0 48 1 0 30) 0 31)) 0 50 = τ1 0 31 := by simp (disch := omega) only [wr_eq, iN, iE, if_true]
    generalize hτ2 : wr (wr (wr τ1 0 48 1) 0 49 (wr τ1 0 48 1 0 30)) 0 50 (wr (wr τ1 0 48 1) 0 49 (wr τ1 0 48 1 0 30) 0 31) = τ2 at *
    rw [show (0 : Int32) = nI 0 from rfl]
    refine (m_pack_30 (by omega) (by omega)).bind ?_
    rintro τ3 ⟨p1, -, f3⟩
    refine (m_cp_31_17 (by omega)).bind ?_
    rintro τ4 ⟨p4, f4⟩
    refine (m_cp_32_24 (by omega)).bind ?_
    rintro τ5 ⟨p5, f5⟩
    refine (m_cp_33_25 (by omega)).bind ?_
    rintro τ6 ⟨p6, f6⟩
    rw [show nI 0 = (0 : Int32) from rfl]
    refine (m_cpb_image_h70 (by omega)).bind ?_
    rintro ⟨_, _, τ7⟩ ⟨p7, f7⟩
    dsimp only at p7 f7 ⊢
    refine (m_cp_34_11 (by omega)).bind ?_
    rintro τ8 ⟨p8, f8⟩
    rw [ev_s]
    have g2 : FM [30, 31, 32, 33, 34, 35] [48, 49, 50] τ1 τ2 := f1.mo (by decide) (by decide)
    have g3 : FM [30, 31, 32, 33, 34, 35] [48, 49, 50] τ2 τ3 := f3.mo (by decide) (by decide)
    have g4 : FM [30, 31, 32, 33, 34, 35] [48, 49, 50] τ3 τ4 := f4.mo (by decide) (by decide)
    have g5 : FM [30, 31, 32, 33, 34, 35] [48, 49, 50] τ4 τ5 := f5.mo (by decide) (by decide)
    have g6 : FM [30, 31, 32, 33, 34, 35] [48, 49, 50] τ5 τ6 := f6.mo (by decide) (by decide)
    have g7 : FM [30, 31, 32, 33, 34, 35] [48, 49, 50] τ6 τ7 := f7.mo (by decide) (by decide)
    have g8 : FM [30, 31, 32, 33, 34, 35] [48, 49, 50] τ7 τ8 := f8.mo (by decide) (by decide)
    have g13 := g2.tr g3
    have g14 := g13.tr g4
    have g15 := g14.tr g5
    have g16 := g15.tr g6
    have g17 := g16.tr g7
    have g : FM [30, 31, 32, 33, 34, 35] [48, 49, 50] τ1 τ8 := g17.tr g8
    obtain ⟨b1, b2, b3, b4, b5, b6⟩ := hM0.2.1
    refine ⟨hM0.1.fr g (by decide), ⟨b1.fr g (by decide) (by decide), ?_, ?_, ?_, ?_, ?_⟩, ?_, ⟨?_, ?_, ?_, ?_, ?_, ?_, ?_⟩, ?_⟩
    · rw [g.2 30 (by decide)]; exact b2
    · rw [g.1 17 (by decide) (by decide)]; exact b3
    · rw [g.2 31 (by decide)]; exact b4
    · rw [g.1 24 (by decide) (by decide), g.1 25 (by decide) (by decide), g.1 27 (by decide) (by decide)]; exact b5
    · rw [g.1 11 (by decide) (by decide)]; exact b6
    · rw [g.2 32 (by decide)]; exact hM0.2.2.1
    · rw [f8.2 48 (by decide), f7.2 48 (by decide), f6.2 48 (by decide), f5.2 48 (by decide), f4.2 48 (by decide), f3.2 48 (by decide)]; exact z48
    · rw [f8.1 30 (by decide) (by decide), f7.1 30 (by decide) (by decide), f6.1 30 (by decide) (by decide), f5.1 30 (by decide) (by decide), f4.1 30 (by decide) (by decide)]
      exact p1 _ _ hF (b1.fr f1 (by decide) (by decide))
    · rw [f8.2 49 (by decide), f7.2 49 (by decide), f6.2 49 (by decide), f5.2 49 (by decide), f4.2 49 (by decide), f3.2 49 (by decide), z49]; exact b2
    · rw [f8.1 31 (by decide) (by decide), f7.1 31 (by decide) (by decide), f6.1 31 (by decide) (by decide), f5.1 31 (by decide) (by decide)]
      refine b3.cg hF hB.2.1.1 (fun i hi => ?_)
      rw [p4 i hi, g13.1 17 (by decide) (by decide)]
    · rw [f8.2 50 (by decide), f7.2 50 (by decide), f6.2 50 (by decide), f5.2 50 (by decide), f4.2 50 (by decide), f3.2 50 (by decide), z50]; exact b4
    · intro j hj
      have hK := hB.2.2.1
      have := b5 j hj
      rw [f8.1 32 (by decide) (by decide), f7.1 32 (by decide) (by decide), f6.1 32 (by decide) (by decide), p5 j (by omega), g14.1 24 (by decide) (by decide), f8.1 33 (by decide) (by decide), f7.1 33 (by decide) (by decide), p6 j (by omega), g15.1 25 (by decide) (by decide), f8.1 35 (by decide) (by decide), p7 j (by omega), g16.1 27 (by decide) (by decide)]
      refine ⟨this.1, this.2.1, ?_⟩
      rw [this.2.2]
      exact nar_b (hB.2.2.2 j hj).2.2
    · intro j hj
      rw [p8 j hj, g17.1 11 (by decide) (by decide)]; exact b6 j hj
    · have h5 := hM0.2.2.2.2
      unfold TM at h5 ⊢
      rw [g.2 13 (by decide), g.2 22 (by decide), g.1 12 (by decide) (by decide)]; exact h5
theorem PP.ok_restore {N : Nat} (hN : 5000 < N) : Ok_restore N Rl := by
  rintro σ τ ⟨a, hO, hC, hM⟩
  have hF := hO.1.1
  have hM0 := hM.code 0
  have iC := hC.2.2.2.1
  have iM := hM0.2.2.2.1
  cases hi : a.2.2.2.1 with
  | none =>
    rw [hi] at iC iM
    have iC : σ 0 6 = 0 := iC
    have iM : (wr τ 0 2 0) 0 48 = 0 := iM
    refine okI (a := a) (r := 0) hO ?_ ?_
    · unfold f_X11_restore_0
      rw [if_pos iC, ev_s]
      exact ⟨rfl, hC⟩
    · unfold f_X12_restore
      rw [ev_bd, if_pos iM, ev_s]
      exact ⟨rfl, hM0⟩
  | some B =>
    rw [hi] at iC iM
    have hB := hO.2.2.1 B hi
    obtain ⟨i1, i2⟩ := iC
    obtain ⟨m1, c1, c2, c3, c4, c5, c6⟩ := iM
    refine okI (a := sB a B) (r := 1) (hO.sB hB) ?_ ?_
    · unfold f_X11_restore_0
      rw [i1, if_neg (by decide)]
      refine c_cpB_21.bind ?_
      rintro σ1 ⟨h1, f1⟩
      have b1 := h1 _ _ hF hB.2.2.1 i2
      refine (c_build_47_26 (t := tp a.2.1 B.1) (by omega) hO.1 (hC.1.fr f1 (by decide)) ?_).bind ?_
      · intro i hi
        have := (b1.1.2.2.1 i hi).2.2.2
        dsimp only [Nat.reduceAdd] at this
        rw [this]; rfl
      · rintro σ2 ⟨hr, f2⟩
        rw [ev_s]
        exact ⟨rfl, hC.sB ((f1.mo (by decide)).tr (f2.mo (by decide))) (b1.fr f2 (by decide)) hr⟩
    · unfold f_X12_restore
      rw [ev_bd, m1, if_neg (by decide), ev_bd, ev_bd]
      generalize hτ1 : wr τ 0 2 0 = τ1 at *
      have f1 : FM [] [30, 31] τ1 (wr (wr τ1 0 30 (τ1 0 49)) 0 31 (wr τ1 0 30 (τ1 0 49) 0 50)) := ((FM.refl _ _ _).w0 (by decide)).w0 (by decide)
      have z30 : (wr (wr τ1 0 30 (τ1 0 49)) 0 31 (wr τ1 0 30 (τ1 0 49) 0 50)) 0 30 = τ1 0 49 := by simp (disch := omega) only [wr_eq, iN, iE, if_true]
      have z31 : (wr (wr τ1 0 30 (τ1 0 49)) 0 31 (wr τ1 0 30 (τ1 0 49) 0 50)) 0 31 = τ1 0 50 := by simp (disch := omega) only [wr_eq, iN, iE, if_true]
      generalize hτ2 : wr (wr τ1 0 30 (τ1 0 49)) 0 31 (wr τ1 0 30 (τ1 0 49) 0 50) = τ2 at *
      rw [show (0 : Int32) = nI 0 from rfl]
      refine (m_unpack_30 (by omega) (by omega)).bind ?_
      rintro τ3 ⟨p1, f3⟩
      refine (m_cp_17_31 (by omega)).bind ?_
      rintro τ4 ⟨p4, f4⟩
      refine (m_cp_24_32 (by omega)).bind ?_
      rintro τ5 ⟨p5, f5⟩
      refine (m_cp_25_33 (by omega)).bind ?_
      rintro τ6 ⟨p6, f6⟩
      rw [show nI 0 = (0 : Int32) from rfl]
      refine (m_cpb_restore_h74 (by omega)).bind ?_
      rintro ⟨_, _, τ7⟩ ⟨p7, f7⟩
      dsimp only at p7 f7 ⊢
      refine (m_cp_11_34 (by omega)).bind ?_
      rintro τ8 ⟨p8, f8⟩
      rw [ev_s]
      have g2 : FM bM bF τ1 τ2 := f1.mo (by decide) (by decide)
      have g3 : FM bM bF τ2 τ3 := f3.mo (by decide) (by decide)
      have g4 : FM bM bF τ3 τ4 := f4.mo (by decide) (by decide)
      have g5 : FM bM bF τ4 τ5 := f5.mo (by decide) (by decide)
      have g6 : FM bM bF τ5 τ6 := f6.mo (by decide) (by decide)
      have g7 : FM bM bF τ6 τ7 := f7.mo (by decide) (by decide)
      have g8 : FM bM bF τ7 τ8 := f8.mo (by decide) (by decide)
      have g13 := g2.tr g3
      have g14 := g13.tr g4
      have g15 := g14.tr g5
      have g16 := g15.tr g6
      have g17 := g16.tr g7
      have g : FM bM bF τ1 τ8 := g17.tr g8
      refine ⟨rfl, ?_⟩
      show RlM (PP.sB a B) τ8
      refine hM0.sB g ⟨?_, ?_, ?_, ?_, ?_, ?_⟩ ?_
      · exact (((((p1 _ _ hF (by rw [f1.1 30 (by decide) (by decide)]; exact c1)).fr f4 (by decide) (by decide)).fr f5 (by decide) (by decide)).fr f6 (by decide) (by decide)).fr f7 (by decide) (by decide)).fr f8 (by decide) (by decide)
      · rw [f8.2 30 (by decide), f7.2 30 (by decide), f6.2 30 (by decide), f5.2 30 (by decide), f4.2 30 (by decide), f3.2 30 (by decide), z30]; exact c2
      · rw [f8.1 17 (by decide) (by decide), f7.1 17 (by decide) (by decide), f6.1 17 (by decide) (by decide), f5.1 17 (by decide) (by decide)]
        refine c3.cg hF hB.2.1.1 (fun i hi => ?_)
        rw [p4 i hi, g13.1 31 (by decide) (by decide)]
      · rw [f8.2 31 (by decide), f7.2 31 (by decide), f6.2 31 (by decide), f5.2 31 (by decide), f4.2 31 (by decide), f3.2 31 (by decide), z31]; exact c4
      · intro j hj
        have hK := hB.2.2.1
        have := c5 j hj
        rw [f8.1 24 (by decide) (by decide), f7.1 24 (by decide) (by decide), f6.1 24 (by decide) (by decide), p5 j (by omega), g14.1 32 (by decide) (by decide), f8.1 25 (by decide) (by decide), f7.1 25 (by decide) (by decide), p6 j (by omega), g15.1 33 (by decide) (by decide), f8.1 27 (by decide) (by decide), p7 j (by omega), g16.1 35 (by decide) (by decide)]
        refine ⟨this.1, this.2.1, ?_⟩
        rw [this.2.2]
        exact nar_b (hB.2.2.2 j hj).2.2
      · intro j hj
        rw [p8 j hj, g17.1 34 (by decide) (by decide)]; exact c6 j hj
      · rw [f8.2 32 (by decide), f7.2 32 (by decide), f6.2 32 (by decide), f5.2 32 (by decide), f4.2 32 (by decide), f3.2 32 (by decide), f1.2 32 (by decide)]; exact hM0.2.2.1
