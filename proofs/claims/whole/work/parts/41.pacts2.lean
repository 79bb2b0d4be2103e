/-! ===== states that acts change ===== -/
def PP.sW (s : Sg) (f : Nat) (v : Int32) : Sg := stt (s 0 0) (s 0 1) (upd (s 1) f v) (s 2) (s 3) (s 4)
def PP.sT (s : Sg) (f : Nat) : Sg := stt (s 0 0) (s 0 1 ^^^ bit f) (upd (s 1) f 0) (s 2) (s 3) (s 4)
def PP.sHt (s : Sg) (f : Nat) (v : Int32) : Sg := stt (s 0 0) (s 0 1) (s 1) (s 2) (s 3) (upd (s 4) f v)
def PP.sQ (s : Sg) : Sg := stt (s 0 0) (s 0 1) (fun _ => 0) (s 2) (s 3) (s 4)
theorem PP.tp_w (L s : Sg) (f : Nat) (v : Int32) : tp L (sW s f v) = tp L s := rfl
theorem PP.tp_t (L s : Sg) (f : Nat) : tp L (sT s f) = tp L s := rfl
theorem PP.tp_q (L s : Sg) : tp L (sQ s) = tp L s := rfl
theorem PP.upd_cg {f g : Nat → Int32} {k i : Nat} {v : Int32} (h : f i = g i) : upd f k v i = upd g k v i := by
  by_cases e : i = k
  · subst e; rw [upd_e, upd_e]
  · rw [upd_n e, upd_n e]; exact h
theorem PP.SC.w {b F f : Nat} {s σ : Sg} {v : Int32} (h : SC b F s σ) (hf : f < F) : SC b F (sW s f v) (wr σ (b + 1) f v) := by
  obtain ⟨h0, h1, h2, h3⟩ := h
  refine ⟨?_, ?_, ?_, ?_⟩
  · rw [wr_n (by omega)]; exact h0
  · rw [wr_n (by omega)]; exact h1
  · intro i hi
    obtain ⟨a1, a2, a3, a4⟩ := h2 i hi
    rw [wr_e, wr_n (show b + 2 ≠ b + 1 by omega), wr_n (show b + 3 ≠ b + 1 by omega), wr_n (show b + 4 ≠ b + 1 by omega)]
    exact ⟨upd_cg a1, a2, a3, a4⟩
  · intro i hi h9
    rw [wr_e, upd_n (by omega)]; exact h3 i hi h9
theorem PP.SC.t {b F f : Nat} {s σ : Sg} (h : SC b F s σ) (hf : f < F) : SC b F (sT s f) (wr (wr σ b 1 (σ b 1 ^^^ bit f)) (b + 1) f 0) := by
  obtain ⟨h0, h1, h2, h3⟩ := h
  refine ⟨?_, ?_, ?_, ?_⟩
  · rw [wr_n (by omega), wr_e, upd_n (by decide)]; exact h0
  · rw [wr_n (by omega), wr_e, upd_e, h1]; rfl
  · intro i hi
    obtain ⟨a1, a2, a3, a4⟩ := h2 i hi
    rw [wr_e, wr_n (show b + 2 ≠ b + 1 by omega), wr_n (show b + 3 ≠ b + 1 by omega), wr_n (show b + 4 ≠ b + 1 by omega), wr_n (show b + 1 ≠ b by omega), wr_n (show b + 2 ≠ b by omega), wr_n (show b + 3 ≠ b by omega), wr_n (show b + 4 ≠ b by omega)]
    exact ⟨upd_cg a1, a2, a3, a4⟩
  · intro i hi h9
    rw [wr_e, upd_n (by omega), wr_n (show b + 1 ≠ b by omega)]; exact h3 i hi h9
theorem PP.SC.h {b F f : Nat} {s σ : Sg} {v : Int32} (h : SC b F s σ) (hf : f < F) : SC b F (sHt s f v) (wr σ (b + 4) f v) := by
  obtain ⟨h0, h1, h2, h3⟩ := h
  refine ⟨?_, ?_, ?_, ?_⟩
  · rw [wr_n (by omega)]; exact h0
  · rw [wr_n (by omega)]; exact h1
  · intro i hi
    obtain ⟨a1, a2, a3, a4⟩ := h2 i hi
    rw [wr_e, wr_n (show b + 1 ≠ b + 4 by omega), wr_n (show b + 2 ≠ b + 4 by omega), wr_n (show b + 3 ≠ b + 4 by omega)]
    exact ⟨a1, a2, a3, upd_cg a4⟩
  · intro i hi h9
    rw [wr_n (by omega)]; exact h3 i hi h9
theorem PP.SM.w {F f : Nat} {s τ : Sg} {v : Int32} (h : SM F s τ) (hf : f < F) : SM F (sW s f v) (wr τ 13 f v) := by
  obtain ⟨h0, h1, h2⟩ := h
  refine ⟨h0, h1, ?_⟩
  intro i hi
  obtain ⟨a1, a2, a3, a4⟩ := h2 i hi
  rw [wr_e, wr_n (show 14 ≠ 13 by decide), wr_n (show 15 ≠ 13 by decide), wr_n (show 16 ≠ 13 by decide)]
  exact ⟨upd_cg a1, a2, a3, a4⟩
theorem PP.SM.h {F f : Nat} {s τ : Sg} {v : Int32} (h : SM F s τ) (hf : f < F) : SM F (sHt s f v) (wr τ 16 f v) := by
  obtain ⟨h0, h1, h2⟩ := h
  refine ⟨h0, h1, ?_⟩
  intro i hi
  obtain ⟨a1, a2, a3, a4⟩ := h2 i hi
  rw [wr_e, wr_n (show 13 ≠ 16 by decide), wr_n (show 14 ≠ 16 by decide), wr_n (show 15 ≠ 16 by decide)]
  exact ⟨a1, a2, a3, upd_cg a4⟩
theorem PP.sW_ok {F f : Nat} {s : Sg} {v : Int32} (h : StOK F s) (hv : 0 ≤ v ∧ v ≤ 5) (ha : v = 0 ∨ ¬ hasB (s 0 1) f) : StOK F (sW s f v) := by
  obtain ⟨h1, h2, h3⟩ := h
  refine ⟨h1, h2, ?_⟩
  intro i hi
  obtain ⟨a1, a2, a3, a4, a5⟩ := h3 i hi
  refine ⟨?_, a2, a3, a4, ?_⟩
  · show 0 ≤ upd (s 1) f v i ∧ upd (s 1) f v i ≤ 5
    by_cases e : i = f
    · subst e; rw [upd_e]; exact hv
    · rw [upd_n e]; exact a1
  · show hasB (s 0 1) i → upd (s 1) f v i = 0
    intro hb
    by_cases e : i = f
    · subst e; rw [upd_e]; exact ha.resolve_right (fun h => h hb)
    · rw [upd_n e]; exact a5 hb
theorem PP.sT_ok {F f : Nat} {s : Sg} (hF : F ≤ 9) (h : StOK F s) (hf : f < F) : StOK F (sT s f) := by
  obtain ⟨h1, h2, h3⟩ := h
  refine ⟨h1, ?_, ?_⟩
  · show sub F (s 0 1 ^^^ bit f)
    intro k hk hFk hb
    rw [hasB_xor hk, hasB_bit (by omega) hk] at hb
    have := h2 k hk hFk
    exact hb ⟨fun x => absurd x this, fun x => absurd x (by omega)⟩
  · intro i hi
    obtain ⟨a1, a2, a3, a4, a5⟩ := h3 i hi
    refine ⟨?_, a2, a3, a4, ?_⟩
    · show 0 ≤ upd (s 1) f 0 i ∧ upd (s 1) f 0 i ≤ 5
      by_cases e : i = f
      · subst e; rw [upd_e]; decide
      · rw [upd_n e]; exact a1
    · show hasB (s 0 1 ^^^ bit f) i → upd (s 1) f 0 i = 0
      intro hb
      by_cases e : i = f
      · subst e; rw [upd_e]
      · rw [upd_n e]
        rw [hasB_xor (by omega), hasB_bit (by omega) (by omega)] at hb
        refine a5 (Classical.byContradiction fun hn => hb ⟨fun x => absurd x hn, fun x => absurd x.symm e⟩)
theorem PP.sHt_ok {F f : Nat} {s : Sg} {v : Int32} (h : StOK F s) (hv : 0 ≤ v ∧ v ≤ 20) : StOK F (sHt s f v) := by
  obtain ⟨h1, h2, h3⟩ := h
  refine ⟨h1, h2, ?_⟩
  intro i hi
  obtain ⟨a1, a2, a3, a4, a5⟩ := h3 i hi
  refine ⟨a1, a2, a3, ?_, a5⟩
  show 0 ≤ upd (s 4) f v i ∧ upd (s 4) f v i ≤ 20
  by_cases e : i = f
  · subst e; rw [upd_e]; exact hv
  · rw [upd_n e]; exact a4
theorem PP.sQ_ok {F : Nat} {s : Sg} (h : StOK F s) : StOK F (sQ s) := by
  obtain ⟨h1, h2, h3⟩ := h
  refine ⟨h1, h2, ?_⟩
  intro i hi
  obtain ⟨a1, a2, a3, a4, a5⟩ := h3 i hi
  exact ⟨show (0 : Int32) ≤ 0 ∧ (0 : Int32) ≤ 5 by decide, a2, a3, a4, fun _ => rfl⟩
theorem PP.m_asleep {N f : Nat} {τ : Sg} : f_X12_isAsleep N (nI f) τ = some ((if hasB (τ 0 29) f then 1 else 0), τ) := by
  unfold f_X12_isAsleep
  rw [m_isOf, Option.bind_some]
  dsimp only
  by_cases h : hasB (τ 0 29) f
  · rw [if_pos h, if_neg (by decide)]
  · rw [if_neg h, if_neg (by decide)]
theorem PP.m_turn {N F f : Nat} {s τ : Sg} (hF : F ≤ 9) (hf : f < F) (hS : StOK F s) (hs : SM F s τ) : Ev (f_X12_turnOver N (nI f) τ) (fun τ' => SM F (sT s f) τ' ∧ FM [13] [29] τ τ') := by
  obtain ⟨h0, h1, h2⟩ := hs
  unfold f_X12_turnOver
  rw [ev_bd, m_asleep, Option.bind_some]
  have e : wr τ 0 29 (τ 0 29 ^^^ (1 : Int32) <<< (nI f &&& 31)) 0 29 = s 0 1 ^^^ bit f := by rw [wr_e, upd_e, h1]
  rw [e]
  have hx : ∀ i, i < F → τ 13 i = s 1 i ∧ τ 14 i = s 2 i ∧ τ 15 i = s 3 i ∧ τ 16 i = s 4 i := h2
  dsimp only
  by_cases hb : hasB (s 0 1 ^^^ bit f) f
  · rw [if_pos hb, if_neg (by decide)]
    simp (disch := omega) only [nI_g, if_false]
    simp (disch := omega) only [nI_cl]
    rw [ev_bd, ev_s]
    refine ⟨⟨?_, ?_, ?_⟩, ((FM.refl _ _ _).w0 (by decide)).w (by decide) (by decide)⟩
    · rw [wr_n (by decide), wr_e, upd_n (by decide)]; exact h0
    · rw [wr_n (by decide), e]; rfl
    · intro i hi
      obtain ⟨a1, a2, a3, a4⟩ := hx i hi
      rw [wr_e, wr_n (show 14 ≠ 13 by decide), wr_n (show 15 ≠ 13 by decide), wr_n (show 16 ≠ 13 by decide), wr_n (show 13 ≠ 0 by decide), wr_n (show 14 ≠ 0 by decide), wr_n (show 15 ≠ 0 by decide), wr_n (show 16 ≠ 0 by decide)]
      exact ⟨upd_cg a1, a2, a3, a4⟩
  · rw [if_neg hb, if_pos rfl, ev_s]
    refine ⟨⟨?_, ?_, ?_⟩, (FM.refl _ _ _).w0 (by decide)⟩
    · rw [wr_e, upd_n (by decide)]; exact h0
    · rw [e]; rfl
    · intro i hi
      obtain ⟨a1, a2, a3, a4⟩ := hx i hi
      rw [wr_n (show 13 ≠ 0 by decide), wr_n (show 14 ≠ 0 by decide), wr_n (show 15 ≠ 0 by decide), wr_n (show 16 ≠ 0 by decide)]
      refine ⟨?_, a2, a3, a4⟩
      show τ 13 i = upd (s 1) f 0 i
      by_cases ei : i = f
      · subst ei
        rw [upd_e, a1]
        refine (hS.2.2 i hi).2.2.2.2 (Classical.byContradiction fun hn => hb ?_)
        rw [hasB_xor (by omega), hasB_bit (by omega) (by omega)]
        exact fun h => hn (h.mpr rfl)
      · rw [upd_n ei]; exact a1
theorem PP.c_sleeps_22 {N f : Nat} {σ : Sg} : f_X7_sleeps_22 N (nI f) σ = some ((if hasB (σ 22 1) f then 1 else 0), σ) := by
  unfold f_X7_sleeps_22
  by_cases h : hasB (σ 22 1) f
  · rw [if_pos h, if_pos h]
  · rw [if_neg h, if_neg h]
theorem PP.c_nod_22 {N f : Nat} {σ : Sg} (hf : f < 9) : f_X7_startNod_22 N (nI f) σ = some (if hasB (σ 22 1) f then σ else wr σ 23 f 1) := by
  unfold f_X7_startNod_22
  rw [c_sleeps_22, Option.bind_some]
  dsimp only
  by_cases h : hasB (σ 22 1) f
  · rw [if_pos h, if_pos h, if_neg (by decide)]
  · rw [if_neg h, if_neg h, if_pos rfl]
    simp (disch := omega) only [nI_g, if_false]
    simp (disch := omega) only [nI_cl, bd]
theorem PP.c_turn_22 {N f : Nat} {σ : Sg} (hf : f < 9) : f_X7_turnSleep_22 N (nI f) σ = some (wr (wr σ 22 1 (σ 22 1 ^^^ bit f)) 23 f 0) := by
  unfold f_X7_turnSleep_22
  simp (disch := omega) only [nI_g, if_false, bd]
  simp (disch := omega) only [nI_cl]
theorem PP.c_quiet_22 {N F : Nat} {s σ : Sg} (hN : 20 < N) (hF : F ≤ 9) (h : SC 22 F s σ) : Ev (f_X7_quiet_22 N σ) (fun σ' => SC 22 F (sQ s) σ' ∧ Fr [23] σ σ') := by
  unfold f_X7_quiet_22
  rw [ev_b]
  refine (ev_fill 23 9 N (fun _ => 0) σ _ rfl (by omega) ?_ ?_).imp ?_
  · intro k σ' hk h1 h2 h3
    unfold s_X7_quiet_22_h2
    dsimp only
    simp (disch := omega) only [show (9 : Int32) = nI 9 from rfl, nI_le, show ¬ 9 ≤ k by omega, if_false, nI_g]
    simp (disch := omega) only [nI_cl, nI_s, bd]
  · intro σ' h1
    unfold s_X7_quiet_22_h2
    exact ⟨_, if_pos (by dsimp only; decide)⟩
  · rintro ⟨_, _, σ'⟩ ⟨h1, h2, h3⟩
    dsimp only at h1 h2 h3 ⊢
    rw [ev_s]
    obtain ⟨s0, s1, sx, sz⟩ := h
    refine ⟨⟨?_, ?_, ?_, ?_⟩, h1⟩
    · rw [h1 22 (by decide)]; exact s0
    · rw [h1 22 (by decide)]; exact s1
    · intro i hi
      have := sx i hi
      rw [h1 (22 + 2) (by decide), h1 (22 + 3) (by decide), h1 (22 + 4) (by decide)]
      exact ⟨h2 i (by omega), this.2⟩
    · intro i hi h9
      exact h2 i h9
theorem PP.c_sleeps_56 {N f : Nat} {σ : Sg} : f_X7_sleeps_56 N (nI f) σ = some ((if hasB (σ 56 1) f then 1 else 0), σ) := by
  unfold f_X7_sleeps_56
  by_cases h : hasB (σ 56 1) f
  · rw [if_pos h, if_pos h]
  · rw [if_neg h, if_neg h]
theorem PP.c_nod_56 {N f : Nat} {σ : Sg} (hf : f < 9) : f_X7_startNod_56 N (nI f) σ = some (if hasB (σ 56 1) f then σ else wr σ 57 f 1) := by
  unfold f_X7_startNod_56
  rw [c_sleeps_56, Option.bind_some]
  dsimp only
  by_cases h : hasB (σ 56 1) f
  · rw [if_pos h, if_pos h, if_neg (by decide)]
  · rw [if_neg h, if_neg h, if_pos rfl]
    simp (disch := omega) only [nI_g, if_false]
    simp (disch := omega) only [nI_cl, bd]
theorem PP.c_turn_56 {N f : Nat} {σ : Sg} (hf : f < 9) : f_X7_turnSleep_56 N (nI f) σ = some (wr (wr σ 56 1 (σ 56 1 ^^^ bit f)) 57 f 0) := by
  unfold f_X7_turnSleep_56
  simp (disch := omega) only [nI_g, if_false, bd]
  simp (disch := omega) only [nI_cl]
theorem PP.c_quiet_56 {N F : Nat} {s σ : Sg} (hN : 20 < N) (hF : F ≤ 9) (h : SC 56 F s σ) : Ev (f_X7_quiet_56 N σ) (fun σ' => SC 56 F (sQ s) σ' ∧ Fr [57] σ σ') := by
  unfold f_X7_quiet_56
  rw [ev_b]
  refine (ev_fill 57 9 N (fun _ => 0) σ _ rfl (by omega) ?_ ?_).imp ?_
  · intro k σ' hk h1 h2 h3
    unfold s_X7_quiet_56_h2
    dsimp only
    simp (disch := omega) only [show (9 : Int32) = nI 9 from rfl, nI_le, show ¬ 9 ≤ k by omega, if_false, nI_g]
    simp (disch := omega) only [nI_cl, nI_s, bd]
  · intro σ' h1
    unfold s_X7_quiet_56_h2
    exact ⟨_, if_pos (by dsimp only; decide)⟩
  · rintro ⟨_, _, σ'⟩ ⟨h1, h2, h3⟩
    dsimp only at h1 h2 h3 ⊢
    rw [ev_s]
    obtain ⟨s0, s1, sx, sz⟩ := h
    refine ⟨⟨?_, ?_, ?_, ?_⟩, h1⟩
    · rw [h1 56 (by decide)]; exact s0
    · rw [h1 56 (by decide)]; exact s1
    · intro i hi
      have := sx i hi
      rw [h1 (56 + 2) (by decide), h1 (56 + 3) (by decide), h1 (56 + 4) (by decide)]
      exact ⟨h2 i (by omega), this.2⟩
    · intro i hi h9
      exact h2 i h9
theorem PP.m_hushAll {N F : Nat} {s τ : Sg} (hN : 20 < N) (hF : F ≤ 9) (h : SM F s τ) : Ev (f_X12_hushAll N τ) (fun τ' => SM F (sQ s) τ' ∧ (∀ i, i < 9 → τ' 13 i = 0) ∧ FM [13] [] τ τ') := by
  unfold f_X12_hushAll
  rw [ev_b]
  refine (ev_fill 13 9 N (fun _ => 0) τ _ rfl (by omega) ?_ ?_).imp ?_
  · intro k σ' hk h1 h2 h3
    unfold s_X12_hushAll_h2
    dsimp only
    simp (disch := omega) only [show (9 : Int32) = nI 9 from rfl, nI_le, show ¬ 9 ≤ k by omega, if_false, nI_g]
    simp (disch := omega) only [nI_cl, nI_s, bd]
  · intro σ' h1
    unfold s_X12_hushAll_h2
    exact ⟨_, if_pos (by dsimp only; decide)⟩
  · rintro ⟨_, _, σ'⟩ ⟨h1, h2, h3⟩
    dsimp only at h1 h2 h3 ⊢
    rw [ev_s]
    obtain ⟨s0, s1, sx⟩ := h
    refine ⟨⟨?_, ?_, ?_⟩, h2, FM.of (by decide) h1⟩
    · rw [h1 0 (by decide)]; exact s0
    · rw [h1 0 (by decide)]; exact s1
    · intro i hi
      have := sx i hi
      rw [h1 14 (by decide), h1 15 (by decide), h1 16 (by decide)]
      exact ⟨h2 i (by omega), this.2⟩
/-! ===== the acts ===== -/
theorem PP.ok_begin {N : Nat} (hN : 5000 < N) : Ok_begin N Rl := by
  rintro x σ τ ⟨a, hO, hC, hM⟩
  have hF := hO.1.1
  have lC := hC.1.2.1
  have lM : (wr τ 0 2 0) 3 0 = nI a.1 := hM.1.2.1
  have hM0 := hM.code 0
  have hB := hO.2.1
  have sa : σ 22 1 = a.2.2.1.1 0 1 := hC.2.1.1.2.1
  have ma : (wr τ 0 2 0) 0 29 = a.2.2.1.1 0 1 := hM0.2.1.1.2.1
  by_cases hx : 0 ≤ x ∧ x < nI a.1
  · obtain ⟨f, hf, rfl⟩ := farm_n hF hx
    by_cases hs : hasB (a.2.2.1.1 0 1) f
    · refine okZ (a := refu a 1) (cC := 0) (cM := 0) (r := 0) (D := fun c d => (c = 0 ∧ d = 0) ∨ (c = 1 ∧ d = 1)) (refu_ok hO) (Or.inl ⟨rfl, rfl⟩) ?_ ?_
      · unfold f_X11_begin_0
        rw [c_farm hF lC, Option.bind_some, if_pos hx]
        dsimp only
        rw [if_pos rfl, c_sleeps_22, Option.bind_some, sa, if_pos hs]
        dsimp only
        rw [if_neg (by decide)]
        unfold f_X11_refuseAct_0
        simp only [bd, Option.bind_some]
        rw [ev_s]
        exact ⟨rfl, fun _ => rfl, c_refu (by omega) hC⟩
      · unfold f_X12_begin
        rw [ev_bd, m_isFarm hF lM, Option.bind_some, if_pos hx]
        dsimp only
        rw [if_neg (by decide), m_asleep, Option.bind_some, ma, if_pos hs]
        dsimp only
        rw [if_neg (by decide)]
        unfold f_X12_refused
        simp only [bd, Option.bind_some]
        rw [if_neg (by decide), ev_s]
        exact ⟨rfl, fun _ => rfl, m_refu (by omega) hM0⟩
    · refine okZ (a := sB a (actB a.2.2.1 (sW a.2.2.1.1 f 1))) (cC := 0) (cM := 0) (r := 1) (D := fun c d => (c = 0 ∧ d = 0) ∨ (c = 1 ∧ d = 1)) (hO.sB (act_ok hB (sW_ok hB.1.1 (by decide) (Or.inr hs)) hB.1.2)) (Or.inl ⟨rfl, rfl⟩) ?_ ?_
      · unfold f_X11_begin_0
        rw [c_farm hF lC, Option.bind_some, if_pos hx]
        dsimp only
        rw [if_pos rfl, c_sleeps_22, Option.bind_some, sa, if_neg hs]
        dsimp only
        rw [if_pos rfl]
        refine (c_keep (by omega) hF hB.2.1.1 hC.2.1.1 hC.2.1.2.1).bind ?_
        rintro σ1 ⟨hk, hf1⟩
        have hs1 : ¬ hasB (σ1 22 1) f := by rw [hf1 22 (by decide), sa]; exact hs
        rw [c_nod_22 (by omega), Option.bind_some, if_neg hs1, ev_s]
        have f2 : Fr [23] σ1 (wr σ1 23 f 1) := (Fr.refl _ _).wr (by decide)
        refine ⟨rfl, fun _ => rfl, c_act hC hk hf1 (f2.mo (by decide)) (SC.w (b := 22) (hC.2.1.1.fr hf1 (by decide)) hf) ?_⟩
        rw [tp_w]
        exact (hC.2.2.1.fr hf1 (by decide)).fr f2 (by decide)
      · unfold f_X12_begin
        rw [ev_bd, m_isFarm hF lM, Option.bind_some, if_pos hx]
        dsimp only
        rw [if_neg (by decide), m_asleep, Option.bind_some, ma, if_neg hs]
        dsimp only
        rw [if_pos rfl]
        refine (m_keep (by omega) hF hB.2.1.1 hM0.2.1.1 hM0.2.1.2.1 hM0.2.1.2.2.1).bind ?_
        rintro τ1 ⟨h30, hk, hf1⟩
        simp (disch := omega) only [nI_g, if_false]
        simp (disch := omega) only [nI_cl]
        rw [ev_bd, ev_s]
        have f2 : FM [13] [] τ1 (wr τ1 13 f 1) := (FM.refl _ _ _).w (by decide) (by decide)
        refine ⟨?_, fun _ => rfl, m_act hM0 h30 hk hf1 (f2.mo (by decide) (by decide)) ((hM0.2.1.1.fr hf1 (by decide) (by decide)).w hf)⟩
        dsimp only
        rw [f2.2 2 (by decide), hf1.2 2 (by decide)]; rfl
  · refine okZ (a := a) (cC := 1) (cM := 1) (r := 0) (D := fun c d => (c = 0 ∧ d = 0) ∨ (c = 1 ∧ d = 1)) hO (Or.inr ⟨rfl, rfl⟩) ?_ ?_
    · unfold f_X11_begin_0
      rw [c_farm hF lC, Option.bind_some, if_neg hx]
      dsimp only
      rw [if_neg (by decide), ev_s]
      exact ⟨rfl, fun h => absurd h (by decide), hC⟩
    · unfold f_X12_begin f_X12_failing
      rw [ev_bd, m_isFarm hF lM, Option.bind_some, if_neg hx]
      simp only [if_true, bd, Option.bind_some]
      rw [if_neg (by decide), ev_s]
      exact ⟨rfl, fun h => absurd h (by decide), (hM.code 0).code 1⟩
theorem PP.ok_sleep {N : Nat} (hN : 5000 < N) : Ok_sleep N Rl := by
  rintro x y σ τ hy ⟨a, hO, hC, hM⟩
  have hF := hO.1.1
  have lC := hC.1.2.1
  have lM : (wr τ 0 2 0) 3 0 = nI a.1 := hM.1.2.1
  have hM0 := hM.code 0
  have hB := hO.2.1
  have sa : σ 22 1 = a.2.2.1.1 0 1 := hC.2.1.1.2.1
  have ma : (wr τ 0 2 0) 0 29 = a.2.2.1.1 0 1 := hM0.2.1.1.2.1
  by_cases hx : 0 ≤ x ∧ x < nI a.1
  · obtain ⟨f, hf, rfl⟩ := farm_n hF hx
    by_cases hs : (if hasB (a.2.2.1.1 0 1) f then (1 : Int32) else 0) = y
    · refine okZ (a := refu a 1) (cC := 0) (cM := 0) (r := 0) (D := fun c d => (c = 0 ∧ d = 0) ∨ (c = 1 ∧ d = 1)) (refu_ok hO) (Or.inl ⟨rfl, rfl⟩) ?_ ?_
      · unfold f_X11_sleep_0
        rw [c_farm hF lC, Option.bind_some, if_pos hx]
        dsimp only
        rw [if_pos rfl, c_sleeps_22, Option.bind_some, sa]
        dsimp only
        rw [if_pos hs]
        unfold f_X11_refuseAct_0
        simp only [bd, Option.bind_some]
        rw [ev_s]
        exact ⟨rfl, fun _ => rfl, c_refu (by omega) hC⟩
      · unfold f_X12_sleep
        rw [ev_bd, m_isFarm hF lM, Option.bind_some, if_pos hx]
        dsimp only
        rw [if_neg (by decide), m_asleep, Option.bind_some, ma]
        dsimp only
        rw [if_pos hs]
        unfold f_X12_refused
        simp only [bd, Option.bind_some]
        rw [if_neg (by decide), ev_s]
        exact ⟨rfl, fun _ => rfl, m_refu (by omega) hM0⟩
    · refine okZ (a := sB a (actB a.2.2.1 (sT a.2.2.1.1 f))) (cC := 0) (cM := 0) (r := 1) (D := fun c d => (c = 0 ∧ d = 0) ∨ (c = 1 ∧ d = 1)) (hO.sB (act_ok hB (sT_ok hF hB.1.1 hf) hB.1.2)) (Or.inl ⟨rfl, rfl⟩) ?_ ?_
      · unfold f_X11_sleep_0
        rw [c_farm hF lC, Option.bind_some, if_pos hx]
        dsimp only
        rw [if_pos rfl, c_sleeps_22, Option.bind_some, sa]
        dsimp only
        rw [if_neg hs]
        refine (c_keep (by omega) hF hB.2.1.1 hC.2.1.1 hC.2.1.2.1).bind ?_
        rintro σ1 ⟨hk, hf1⟩
        rw [c_turn_22 (by omega), Option.bind_some, ev_s]
        have f2 : Fr [22, 23] σ1 (wr (wr σ1 22 1 (σ1 22 1 ^^^ bit f)) 23 f 0) := ((Fr.refl _ _).wr (by decide)).wr (by decide)
        refine ⟨rfl, fun _ => rfl, c_act hC hk hf1 (f2.mo (by decide)) (SC.t (b := 22) (hC.2.1.1.fr hf1 (by decide)) hf) ?_⟩
        rw [tp_t]
        exact (hC.2.2.1.fr hf1 (by decide)).fr f2 (by decide)
      · unfold f_X12_sleep
        rw [ev_bd, m_isFarm hF lM, Option.bind_some, if_pos hx]
        dsimp only
        rw [if_neg (by decide), m_asleep, Option.bind_some, ma]
        dsimp only
        rw [if_neg hs]
        refine (m_keep (by omega) hF hB.2.1.1 hM0.2.1.1 hM0.2.1.2.1 hM0.2.1.2.2.1).bind ?_
        rintro τ1 ⟨h30, hk, hf1⟩
        refine (m_turn hF hf hB.1.1 (hM0.2.1.1.fr hf1 (by decide) (by decide))).bind ?_
        rintro τ2 ⟨hs2, f2⟩
        rw [ev_s]
        refine ⟨?_, fun _ => rfl, m_act hM0 h30 hk hf1 (f2.mo (by decide) (by decide)) hs2⟩
        dsimp only
        rw [f2.2 2 (by decide), hf1.2 2 (by decide)]; rfl
  · refine okZ (a := a) (cC := 1) (cM := 1) (r := 0) (D := fun c d => (c = 0 ∧ d = 0) ∨ (c = 1 ∧ d = 1)) hO (Or.inr ⟨rfl, rfl⟩) ?_ ?_
    · unfold f_X11_sleep_0
      rw [c_farm hF lC, Option.bind_some, if_neg hx]
      dsimp only
      rw [if_neg (by decide), ev_s]
      exact ⟨rfl, fun h => absurd h (by decide), hC⟩
    · unfold f_X12_sleep f_X12_failing
      rw [ev_bd, m_isFarm hF lM, Option.bind_some, if_neg hx]
      simp only [if_true, bd, Option.bind_some]
      rw [if_neg (by decide), ev_s]
      exact ⟨rfl, fun h => absurd h (by decide), (hM.code 0).code 1⟩
theorem PP.ok_hat {N : Nat} (hN : 5000 < N) : Ok_hat N Rl := by
  rintro x y σ τ ⟨a, hO, hC, hM⟩
  have hF := hO.1.1
  have lC := hC.1.2.1
  have lM : (wr τ 0 2 0) 3 0 = nI a.1 := hM.1.2.1
  have hM0 := hM.code 0
  have hB := hO.2.1
  by_cases hx : 0 ≤ x ∧ x < nI a.1
  · obtain ⟨f, hf, rfl⟩ := farm_n hF hx
    by_cases hs : 0 ≤ y ∧ y ≤ 20
    · refine okZ (a := sB a (actB a.2.2.1 (sHt a.2.2.1.1 f y))) (cC := 0) (cM := 0) (r := a.2.2.1.1 4 f) (D := fun c d => (c = 0 ∧ d = 0) ∨ (c = 1 ∧ d = 1)) (hO.sB (act_ok hB (sHt_ok hB.1.1 hs) hB.1.2)) (Or.inl ⟨rfl, rfl⟩) ?_ ?_
      · unfold f_X11_hat_0
        rw [c_farm hF lC, Option.bind_some, if_pos hx]
        dsimp only
        rw [if_pos rfl, if_neg (show ¬ y < 0 by grind), if_pos hs.2]
        refine (c_keep (by omega) hF hB.2.1.1 hC.2.1.1 hC.2.1.2.1).bind ?_
        rintro σ1 ⟨hk, hf1⟩
        simp (disch := omega) only [nI_g, if_false]
        simp (disch := omega) only [nI_cl]
        rw [ev_bd, ev_bd]
        have hs1 : SC 22 a.1 a.2.2.1.1 σ1 := hC.2.1.1.fr hf1 (by decide)
        have f2 : Fr [26] σ1 (wr σ1 26 f y) := (Fr.refl _ _).wr (by decide)
        have hs2 : SC 22 a.1 (sHt a.2.2.1.1 f y) (wr σ1 26 f y) := SC.h (b := 22) hs1 hf
        refine (c_build_47_26 (t := tp a.2.1 (sHt a.2.2.1.1 f y)) (by omega) hO.1 ((hC.1.fr hf1 (by decide)).fr f2 (by decide)) ?_).bind ?_
        · intro i hi
          have := (hs2.2.2.1 i hi).2.2.2
          dsimp only [Nat.reduceAdd] at this
          rw [this]; rfl
        · rintro σ2 ⟨hr, f3⟩
          rw [ev_s]
          refine ⟨rfl, fun _ => ?_, c_act hC hk hf1 ((f2.mo (by decide)).tr (f3.mo (by decide))) (hs2.fr f3 (by decide)) hr⟩
          exact (hs1.2.2.1 f hf).2.2.2
      · unfold f_X12_hat
        rw [ev_bd, m_isFarm hF lM, Option.bind_some, if_pos hx]
        dsimp only
        rw [if_neg (by decide), show (0 : Int64) = (0 : Int32).toInt64 from rfl, show (20 : Int64) = (20 : Int32).toInt64 from rfl, m_isIn, Option.bind_some, if_pos hs]
        dsimp only
        rw [if_neg (by decide)]
        refine (m_keep (by omega) hF hB.2.1.1 hM0.2.1.1 hM0.2.1.2.1 hM0.2.1.2.2.1).bind ?_
        rintro τ1 ⟨h30, hk, hf1⟩
        simp (disch := omega) only [nI_g, if_false]
        simp (disch := omega) only [nI_cl]
        rw [ev_bd, ev_bd, ev_s]
        have hs1 : SM a.1 a.2.2.1.1 τ1 := hM0.2.1.1.fr hf1 (by decide) (by decide)
        have f2 : FM [16] [] τ1 (wr τ1 16 f y) := (FM.refl _ _ _).w (by decide) (by decide)
        refine ⟨?_, fun _ => (hs1.2.2 f hf).2.2.2, m_act hM0 h30 hk hf1 (f2.mo (by decide) (by decide)) (hs1.h hf)⟩
        dsimp only
        rw [f2.2 2 (by decide), hf1.2 2 (by decide)]; rfl
    · refine okZ (a := refu a 1) (cC := 0) (cM := 0) (r := -1) (D := fun c d => (c = 0 ∧ d = 0) ∨ (c = 1 ∧ d = 1)) (refu_ok hO) (Or.inl ⟨rfl, rfl⟩) ?_ ?_
      · unfold f_X11_hat_0 f_X11_hat_0_b15 f_X11_refuseAct_0
        rw [c_farm hF lC, Option.bind_some, if_pos hx]
        dsimp only
        rw [if_pos rfl]
        simp only [bd, Option.bind_some]
        by_cases h0 : y < 0
        · rw [if_pos h0, ev_s]
          exact ⟨rfl, fun _ => rfl, c_refu (by omega) hC⟩
        · rw [if_neg h0, if_neg (show ¬ y ≤ 20 from fun h => hs ⟨by grind, h⟩), ev_s]
          exact ⟨rfl, fun _ => rfl, c_refu (by omega) hC⟩
      · unfold f_X12_hat
        rw [ev_bd, m_isFarm hF lM, Option.bind_some, if_pos hx]
        dsimp only
        rw [if_neg (by decide), show (0 : Int64) = (0 : Int32).toInt64 from rfl, show (20 : Int64) = (20 : Int32).toInt64 from rfl, m_isIn, Option.bind_some, if_neg hs]
        dsimp only
        rw [if_pos rfl]
        unfold f_X12_refuse
        rw [show (1 : Int32) = nI 1 from rfl]
        simp (disch := omega) only [nI_g, if_false]
        simp (disch := omega) only [nI_cl, bd, Option.bind_some]
        rw [ev_s]
        exact ⟨rfl, fun _ => rfl, m_refu (by omega) hM0⟩
  · refine okZ (a := a) (cC := 1) (cM := 1) (r := 0) (D := fun c d => (c = 0 ∧ d = 0) ∨ (c = 1 ∧ d = 1)) hO (Or.inr ⟨rfl, rfl⟩) ?_ ?_
    · unfold f_X11_hat_0
      rw [c_farm hF lC, Option.bind_some, if_neg hx]
      dsimp only
      rw [if_neg (by decide), ev_s]
      exact ⟨rfl, fun h => absurd h (by decide), hC⟩
    · unfold f_X12_hat f_X12_fail
      rw [ev_bd, m_isFarm hF lM, Option.bind_some, if_neg hx]
      simp only [if_true, bd, Option.bind_some, ev_s]
      exact ⟨rfl, fun h => absurd h (by decide), (hM.code 0).code 1⟩
theorem PP.m_refuse1 {N : Nat} {τ : Sg} : f_X12_refuse N 1 τ = some (-1, wr τ 11 1 (τ 11 1 + 1)) := rfl
theorem PP.m_refuse2 {N : Nat} {τ : Sg} : f_X12_refuse N 2 τ = some (-1, wr τ 11 2 (τ 11 2 + 1)) := rfl
theorem PP.ok_hush {N : Nat} (hN : 5000 < N) : Ok_hush N Rl := by
  rintro σ τ ⟨a, hO, hC, hM⟩
  have hF := hO.1.1
  have hM0 := hM.code 0
  have hB := hO.2.1
  have lM : (wr τ 0 2 0) 3 0 = nI a.1 := hM.1.2.1
  by_cases hw : wts a.1 a.2.2.1.1 = 0
  · refine okI (a := refu a 1) (r := -1) (refu_ok hO) ?_ ?_
    · unfold f_X11_hush_0 f_X11_refuseAct_0
      rw [c_waits_22 (by omega) hF hC.2.1.1, Option.bind_some, ev_bd]
      dsimp only
      rw [if_pos hw]
      simp only [bd, Option.bind_some]
      rw [ev_s]
      exact ⟨rfl, c_refu (by omega) hC⟩
    · unfold f_X12_hush
      rw [ev_bd, m_waits (s := a.2.2.1.1) (by omega) hF lM (fun i hi => (hM0.2.1.1.2.2 i hi).1), Option.bind_some, ev_bd]
      dsimp only
      rw [if_pos hw, m_refuse1, Option.bind_some, ev_s]
      exact ⟨rfl, m_refu (by omega) hM0⟩
  · refine okI (a := sB a (actB a.2.2.1 (sQ a.2.2.1.1))) (r := wts a.1 a.2.2.1.1) (hO.sB (act_ok hB (sQ_ok hB.1.1) hB.1.2)) ?_ ?_
    · unfold f_X11_hush_0
      rw [c_waits_22 (by omega) hF hC.2.1.1, Option.bind_some, ev_bd]
      dsimp only
      rw [if_neg hw]
      refine (c_keep (by omega) hF hB.2.1.1 hC.2.1.1 hC.2.1.2.1).bind ?_
      rintro σ1 ⟨hk, hf1⟩
      refine (c_quiet_22 (by omega) hF (hC.2.1.1.fr hf1 (by decide))).bind ?_
      rintro σ2 ⟨hs2, f2⟩
      rw [ev_s]
      refine ⟨rfl, c_act hC hk hf1 (f2.mo (by decide)) hs2 ?_⟩
      rw [tp_q]
      exact (hC.2.2.1.fr hf1 (by decide)).fr f2 (by decide)
    · unfold f_X12_hush
      rw [ev_bd, m_waits (s := a.2.2.1.1) (by omega) hF lM (fun i hi => (hM0.2.1.1.2.2 i hi).1), Option.bind_some, ev_bd]
      dsimp only
      rw [if_neg hw]
      refine (m_keep (by omega) hF hB.2.1.1 hM0.2.1.1 hM0.2.1.2.1 hM0.2.1.2.2.1).bind ?_
      rintro τ1 ⟨h30, hk, hf1⟩
      refine (m_hushAll (by omega) hF (hM0.2.1.1.fr hf1 (by decide) (by decide))).bind ?_
      rintro τ2 ⟨hs2, -, f2⟩
      rw [ev_s]
      exact ⟨rfl, m_act hM0 h30 hk hf1 (f2.mo (by decide) (by decide)) hs2⟩
def PP.unB (B : Bo) : Bo := (B.2.2.1 (B.2.1 - 1), B.2.1 - 1, B.2.2)
theorem PP.un_ok {F : Nat} {B : Bo} (h : BookOK F B) (h0 : B.2.1 ≠ 0) : BookOK F (unB B) := by
  obtain ⟨h1, ⟨h2, h3⟩, h4⟩ := h
  refine ⟨h3 _ (by omega), ⟨?_, ?_⟩, h4⟩
  · show B.2.1 - 1 ≤ 40
    omega
  · intro j hj
    exact h3 j (by have : j < B.2.1 - 1 := hj; omega)
theorem PP.ok_undo {N : Nat} (hN : 5000 < N) : Ok_undo N Rl := by
  rintro σ τ ⟨a, hO, hC, hM⟩
  have hF := hO.1.1
  have hM0 := hM.code 0
  have hB := hO.2.1
  obtain ⟨a0, nx, hnx, a1, ar⟩ := hC.2.1.2.1
  have hA := hB.2.1.1
  have m30 : (wr τ 0 2 0) 0 30 = nI a.2.2.1.2.1 := hM0.2.1.2.1
  dsimp only [Nat.reduceAdd] at a0 a1 ar
  by_cases h0 : a.2.2.1.2.1 = 0
  · refine okI (a := a) (r := -1) hO ?_ ?_
    · unfold f_X11_undo_0 f_X0_takeBack_27_22
      rw [a0, if_pos (by rw [h0]; rfl), Option.bind_some]
      dsimp only
      rw [if_pos rfl, ev_s]
      exact ⟨rfl, hC⟩
    · unfold f_X12_undo
      rw [ev_bd, m30, if_pos (by rw [h0]; rfl), ev_s]
      exact ⟨rfl, hM0⟩
  · have hne : ¬ nI a.2.2.1.2.1 = 0 := by rw [← nI_0, nI_eq (by omega) (by omega)]; exact h0
    refine okI (a := sB a (unB a.2.2.1)) (r := nI (a.2.2.1.2.1 - 1)) (hO.sB (un_ok hB h0)) ?_ ?_
    · unfold f_X11_undo_0 f_X0_takeBack_27_22
      rw [a0, if_neg hne]
      have v1 : (nI nx + 40 - 1) - (nI nx + 40 - 1) / 40 * 40 = nI ((nx + 39) % 40) := by
        rw [show nI nx + 40 - 1 = nI (nx + 39) by rw [← nI_add, show nI 39 = (39 : Int32) from rfl]; grind, show (40 : Int32) = nI 40 from rfl, nI_mod (by omega) (by omega)]
      rw [ev_b, ev_bd, ev_bd, a1, v1]
      have e1 : wr (wr σ 27 1 (nI ((nx + 39) % 40))) 27 0 (wr σ 27 1 (nI ((nx + 39) % 40)) 27 0 - 1) 27 1 = nI ((nx + 39) % 40) := by
        rw [wr_e, upd_n (by decide), wr_e, upd_e]
      rw [e1, show (38 : Int32) = nI 38 from rfl, nI_mul]
      generalize hσ1 : wr (wr σ 27 1 (nI ((nx + 39) % 40))) 27 0 (wr σ 27 1 (nI ((nx + 39) % 40)) 27 0 - 1) = σ1
      have f1 : Fr [27] σ σ1 := by rw [← hσ1]; exact ((Fr.refl _ _).wr (by decide)).wr (by decide)
      have z0 : σ1 27 0 = nI (a.2.2.1.2.1 - 1) := by
        rw [← hσ1, wr_e, upd_e, wr_e, upd_n (by decide), a0]; exact nI_p (by omega)
      have z1 : σ1 27 1 = nI ((nx + 39) % 40) := by rw [← hσ1]; exact e1
      refine (c_load (by omega) (by omega)).bind ?_
      rintro σ2 ⟨hl, f2⟩
      rw [ev_s]
      dsimp only
      rw [if_neg (by decide)]
      have hs2 : SC 22 a.1 (a.2.2.1.2.2.1 (a.2.2.1.2.1 - 1)) σ2 := by
        refine hl _ _ hF ?_
        rw [f1 28 (by decide)]
        have := ar (a.2.2.1.2.1 - 1) (by omega)
        rw [show (nx + 39) % 40 * 38 = 38 * ((nx + 40 - a.2.2.1.2.1 + (a.2.2.1.2.1 - 1)) % 40) by omega]
        exact this
      have hL2 : LC a.1 a.2.1 σ2 := (hC.1.fr f1 (by decide)).fr f2 (by decide)
      refine (c_build_47_26 (t := tp a.2.1 (a.2.2.1.2.2.1 (a.2.2.1.2.1 - 1))) (by omega) hO.1 hL2 ?_).bind ?_
      · intro i hi
        have := (hs2.2.2.1 i hi).2.2.2
        dsimp only [Nat.reduceAdd] at this
        rw [this]; rfl
      · rintro σ3 ⟨hr, f3⟩
        rw [ev_s]
        have ff : Fr bC σ σ3 := ((f1.mo (by decide)).tr (f2.mo (by decide))).tr (f3.mo (by decide))
        refine ⟨?_, hC.sB ff ⟨hs2.fr f3 (by decide), ?_, ?_, ?_⟩ hr⟩
        · dsimp only
          rw [f3 27 (by decide), f2 27 (by decide)]; exact z0
        · refine AC.fr (P := [48, 49]) ?_ f3 (by decide) (by decide)
          refine AC.fr (P := [22, 23, 24, 25, 26]) ?_ f2 (by decide) (by decide)
          refine ⟨z0, (nx + 39) % 40, by omega, z1, ?_⟩
          intro j hj
          have hj : j < a.2.2.1.2.1 - 1 := hj
          dsimp only [Nat.reduceAdd]
          rw [f1 28 (by decide)]
          show rowC a.1 (a.2.2.1.2.2.1 j) (σ 28) (38 * (((nx + 39) % 40 + 40 - (a.2.2.1.2.1 - 1) + j) % 40))
          rw [show ((nx + 39) % 40 + 40 - (a.2.2.1.2.1 - 1) + j) % 40 = (nx + 40 - a.2.2.1.2.1 + j) % 40 by omega]
          exact ar j (by omega)
        · exact ((hC.2.1.2.2.1.fr f1 (by decide)).fr f2 (by decide)).fr f3 (by decide)
        · intro j hj
          have := hC.2.1.2.2.2 j hj
          dsimp only [Nat.reduceAdd] at this ⊢
          rw [f3 33 (by decide), f2 33 (by decide), f1 33 (by decide)]; exact this
    · unfold f_X12_undo
      rw [ev_bd, m30, if_neg hne, ev_bd, nI_p (by omega)]
      have e1 : wr (wr τ 0 2 0) 0 30 (nI (a.2.2.1.2.1 - 1)) 0 30 = nI (a.2.2.1.2.1 - 1) := by rw [wr_e, upd_e]
      rw [e1, show (38 : Int32) = nI 38 from rfl, nI_mul]
      generalize hτ1 : wr (wr τ 0 2 0) 0 30 (nI (a.2.2.1.2.1 - 1)) = τ1
      rw [hτ1] at e1
      have f1 : FM [] [30] (wr τ 0 2 0) τ1 := by rw [← hτ1]; exact (FM.refl _ _ _).w0 (by decide)
      refine (m_unpack_17 (by omega) (by omega)).bind ?_
      rintro τ2 ⟨hl, f2⟩
      rw [ev_s]
      obtain ⟨b1, b2, b3, b4, b5, b6⟩ := hM0.2.1
      have ff : FM bM bF (wr τ 0 2 0) τ2 := (f1.mo (by decide) (by decide)).tr (f2.mo (by decide) (by decide))
      have e2 : τ2 0 30 = nI (a.2.2.1.2.1 - 1) := by rw [f2.2 30 (by decide)]; exact e1
      refine ⟨e2, ?_⟩
      show RlM (PP.sB a (unB a.2.2.1)) τ2
      refine hM0.sB ff ⟨?_, e2, ?_, ?_, ?_, ?_⟩ ?_
      · refine hl _ _ hF ?_
        rw [f1.1 17 (by decide) (by decide)]
        exact b3 _ (by omega)
      · intro j hj
        have hj : j < a.2.2.1.2.1 - 1 := hj
        rw [f2.1 17 (by decide) (by decide), f1.1 17 (by decide) (by decide)]
        exact b3 j (by omega)
      · rw [f2.2 31 (by decide), f1.2 31 (by decide)]; exact b4
      · rw [f2.1 24 (by decide) (by decide), f2.1 25 (by decide) (by decide), f2.1 27 (by decide) (by decide), f1.1 24 (by decide) (by decide), f1.1 25 (by decide) (by decide), f1.1 27 (by decide) (by decide)]; exact b5
      · rw [f2.1 11 (by decide) (by decide), f1.1 11 (by decide) (by decide)]; exact b6
      · rw [f2.2 32 (by decide), f1.2 32 (by decide)]; exact hM0.2.2.1
theorem PP.ok_ticks {N : Nat} (hN : 5000 < N) : Ok_ticks N Rl := by
  rintro x σ τ ⟨a, hO, hC, hM⟩
  have hF := hO.1.1
  have hM0 := hM.code 0
  have hB := hO.2.1
  have st : σ 22 0 = a.2.2.1.1 0 0 := hC.2.1.1.1
  have mt : (wr τ 0 2 0) 0 28 = a.2.2.1.1 0 0 := hM0.2.1.1.1
  have e1 : (1 : Int64) = (1 : Int32).toInt64 := rfl
  have e20 : (20 : Int64) = (20 : Int32).toInt64 := rfl
  by_cases hx : (1 ≤ x ∧ x ≤ 20) ∧ a.2.2.1.1 0 0 + x ≤ 999
  · obtain ⟨⟨hx1, hx2⟩, hx3⟩ := hx
    obtain ⟨n, hn1, hn2, rfl⟩ := in_n (lo := 1) (hi := 20) (by omega) ⟨hx1, hx2⟩ (by omega)
    have hrt : rn a n 0 0 = a.2.2.1.1 0 0 + nI n := run_t _ _ _ n
    refine okI (a := sB a (actB a.2.2.1 (rn a n))) (r := a.2.2.1.1 0 0 + nI n) (hO.sB (act_ok hB (run_ok hO.1 hB.1.1 hB.1.2 n (by omega)) (by rw [hrt]; exact hx3))) ?_ ?_
    · unfold f_X11_ticks_0
      rw [if_neg (by grind), if_neg (by grind), st, if_pos hx3]
      refine (c_keep (by omega) hF hB.2.1.1 hC.2.1.1 hC.2.1.2.1).bind ?_
      rintro σ1 ⟨hk, hf1⟩
      refine (c_start (by omega) hF (hC.1.fr hf1 (by decide)) (hC.2.2.1.fr hf1 (by decide)) (hC.2.1.1.fr hf1 (by decide))).bind ?_
      rintro σ2 ⟨hX, hf2⟩
      rw [ev_b]
      refine ev_lp (fun k q => q.1 = nI k ∧ CX a.1 a.2.1 a.2.2.1.1 k q.2 ∧ Fr qC σ1 q.2) n N _ (by omega) ⟨rfl, hX, hf2.mo (by decide)⟩ ?_
      rintro k ⟨i, σ3⟩ hk2 ⟨e, hX3, hf3⟩
      dsimp only at e hX3 hf3
      subst e
      unfold s_X11_ticks_0_h67
      dsimp only
      by_cases hkn : k = n
      · subst hkn
        rw [if_pos (Int32.le_refl _), ev_s]
        refine Or.inr ⟨Nat.one_ne_zero, ?_⟩
        dsimp only
        refine c_copy_22_56.bind ?_
        rintro σ4 ⟨hs4, hf4⟩
        rw [ev_s]
        have hs := hs4 _ _ hF hX3.2.2.1
        refine ⟨?_, c_act hC hk hf1 ((hf3.mo (by decide)).tr (hf4.mo (by decide))) hs ?_⟩
        · rw [← hrt]; exact hs.1
        · rw [run_tp]
          exact ((hC.2.2.1.fr hf1 (by decide)).fr hf3 (by decide)).fr hf4 (by decide)
      · rw [if_neg (by rw [nI_le (by omega) (by omega)]; omega)]
        refine (c_goa (by omega) hO (by omega) hX3).bind ?_
        rintro ⟨r, σ4⟩ ⟨e, hX4, hf4⟩
        rw [ev_bd, ev_s]
        exact Or.inl ⟨rfl, by omega, nI_s _, hX4, hf3.qc hf4 (by decide)⟩
    · unfold f_X12_ticks
      rw [ev_bd, e1, e20, m_isIn, Option.bind_some, if_pos (show 1 ≤ nI n ∧ nI n ≤ 20 from ⟨hx1, hx2⟩)]
      dsimp only
      rw [if_neg (by decide), if_pos (show (wr τ 0 2 0) 0 28 + nI n ≤ 999 by rw [mt]; exact hx3)]
      refine (m_keep (by omega) hF hB.2.1.1 hM0.2.1.1 hM0.2.1.2.1 hM0.2.1.2.2.1).bind ?_
      rintro τ1 ⟨h30, hk, hf1⟩
      have hX : MX a.1 a.2.1 a.2.2.1.1 0 τ1 := ⟨hM0.1.fr hf1 (by decide), by rw [hf1.2 32 (by decide)]; exact hM0.2.2.1, hM0.2.1.1.fr hf1 (by decide) (by decide)⟩
      refine (m_goOn (by omega) hO.1 hB.1.1 hB.1.2 (by omega) hX).bind ?_
      rintro τ2 ⟨hv, hX2, hf2⟩
      rw [ev_s]
      refine ⟨?_, m_act hM0 h30 hk hf1 (hf2.mo (by decide) (by decide)) hX2.2.2⟩
      rw [← hrt]; exact hX2.2.2.1
  · refine okI (a := refu a 1) (r := -1) (refu_ok hO) ?_ ?_
    · unfold f_X11_ticks_0 f_X11_ticks_0_b29 f_X11_refuseAct_0
      simp only [bd, Option.bind_some]
      rw [st]
      have fin : Ev (some ((-1 : Int32), wr σ 33 1 (σ 33 1 + 1))) (fun z => z.1 = -1 ∧ RlC (refu a 1) z.2) := ev_s.mpr ⟨rfl, c_refu (by omega) hC⟩
      by_cases h1 : x < 1
      · rw [if_pos h1]; exact fin
      · rw [if_neg h1]
        by_cases h2 : 20 < x
        · rw [if_pos h2]; exact fin
        · rw [if_neg h2, if_neg (fun h => hx ⟨⟨by grind, by grind⟩, h⟩)]; exact fin
    · unfold f_X12_ticks f_X12_ticks_b29
      rw [ev_bd, e1, e20, m_isIn, Option.bind_some, m_refuse1, Option.bind_some]
      dsimp only
      have fin : Ev (some ((-1 : Int32), wr (wr τ 0 2 0) 11 1 ((wr τ 0 2 0) 11 1 + 1))) (fun z => z.1 = -1 ∧ RlM (refu a 1) z.2) := ev_s.mpr ⟨rfl, m_refu (by omega) hM0⟩
      by_cases h1 : 1 ≤ x ∧ x ≤ 20
      · rw [if_pos h1, if_neg (by decide), if_neg (show ¬ (wr τ 0 2 0) 0 28 + x ≤ 999 by rw [mt]; exact fun h => hx ⟨h1, h⟩)]; exact fin
      · rw [if_neg h1, if_pos rfl]; exact fin
