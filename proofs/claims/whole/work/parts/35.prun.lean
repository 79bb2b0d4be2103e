/-! ===== ticks that go by ===== -/
def PP.go (F : Nat) (L s : Sg) : Sg := tick F L (mis L (s 0 0)) s
def PP.run (F : Nat) (L s : Sg) : Nat → Sg
  | 0 => s
  | k + 1 => go F L (run F L s k)
theorem PP.run_s (F : Nat) (L s : Sg) (k : Nat) : run F L s (k + 1) = go F L (run F L s k) := rfl
theorem PP.tick_t (F : Nat) (L : Sg) (m : Int32) (s : Sg) : tick F L m s 0 0 = s 0 0 + 1 := rfl
theorem PP.tick_a (F : Nat) (L : Sg) (m : Int32) (s : Sg) : tick F L m s 0 1 = s 0 1 := rfl
theorem PP.tick_h (F : Nat) (L : Sg) (m : Int32) (s : Sg) : tick F L m s 4 = s 4 := rfl
theorem PP.tick_tp (F : Nat) (L : Sg) (m : Int32) (s : Sg) : tp L (tick F L m s) = tp L s := rfl
theorem PP.tick_ok {F : Nat} {L s : Sg} {m : Int32} (hO : LandOK F L) (hS : StOK F s) (ht : s 0 0 ≤ 1999) : StOK F (tick F L m s) := by
  obtain ⟨t0, ha, hx⟩ := hS
  refine ⟨?_, ha, ?_⟩
  · rw [tick_t]; clear ha hx; grind
  · intro i hi
    obtain ⟨h1, h2, h3, h4, h5⟩ := hx i hi
    have hsl := (hO.2.2.2.2.2.2.1 i hi).2.2.1
    have hre := hO.2.2.2.1
    have e1 : tick F L m s 1 i = if starts F L s m i = true then L 3 i else wN s i := by
      simp [tick, sN, stt, hi]
    have e2 : tick F L m s 2 i = rN L s i := by simp [tick, sN, stt, hi]
    have e3 : tick F L m s 3 i = nN s i := by simp [tick, sN, stt, hi]
    have hw : 0 ≤ wN s i ∧ wN s i ≤ 5 := by
      unfold wN; clear hsl hre hx e1 e2 e3 h2 h3 h4 h5 ha; split <;> grind
    rw [e1, e2, e3, tick_a, tick_h]
    refine ⟨?_, ?_, ?_, h4, ?_⟩
    · split
      · clear e1 e2 e3 h5 hx ha; grind
      · exact hw
    · unfold rN
      clear e1 e2 e3 h5 hx ha hw h3 h4
      split
      · exact hre
      · split
        · exact h2
        · split
          · grind
          · exact h2
    · unfold nN
      clear e1 e2 e3 h5 hx ha hw h2 h4
      split
      · split <;> grind
      · exact h3
    · intro hb
      have hn : ¬ starts F L s m i = true := by
        unfold starts
        rw [decide_eq_true_eq]
        rintro ⟨_, _, h, _⟩
        have hF := hO.1
        exact h ((hasB_or (by omega)).mpr (Or.inl hb))
      rw [if_neg hn]
      unfold wN
      rw [h5 hb]; decide
theorem PP.run_t (F : Nat) (L s : Sg) : ∀ k, run F L s k 0 0 = s 0 0 + nI k
  | 0 => by rw [nI_0]; exact (Int32.add_zero _).symm
  | k + 1 => by
    rw [run_s, go, tick_t, run_t F L s k, ← nI_s]; grind
theorem PP.run_a (F : Nat) (L s : Sg) : ∀ k, run F L s k 0 1 = s 0 1
  | 0 => rfl
  | k + 1 => by rw [run_s, go, tick_a, run_a F L s k]
theorem PP.run_h (F : Nat) (L s : Sg) : ∀ k, run F L s k 4 = s 4
  | 0 => rfl
  | k + 1 => by rw [run_s, go, tick_h, run_h F L s k]
theorem PP.run_tp (F : Nat) (L s : Sg) (k : Nat) : tp L (run F L s k) = tp L s := by
  unfold tp; rw [run_h]
theorem PP.run_ok {F : Nat} {L s : Sg} (hO : LandOK F L) (hS : StOK F s) (ht : s 0 0 ≤ 999) : ∀ k, k ≤ 1000 → StOK F (run F L s k)
  | 0, _ => hS
  | k + 1, hk => by
    rw [run_s]
    refine tick_ok hO (run_ok hO hS ht k (by omega)) ?_
    rw [run_t]
    have h0 := hS.1.1
    have : nI k ≤ nI 1000 := (nI_le (by omega) (by omega)).mpr (by omega)
    rw [show nI 1000 = 1000 from rfl] at this
    have h1 := nI_n0 (show k < 2147483648 by omega)
    clear hO hS
    grind
/-- how often one has nodded -/
def PP.tms (F : Nat) (L s : Sg) (i : Nat) : Nat → Int32
  | 0 => 0
  | k + 1 => tms F L s i k + (if run F L s k 1 i = 1 then 1 else 0)
theorem PP.c_mist {N F : Nat} {L σ : Sg} {t : Int32} (hO : LandOK F L) (hL : LC F L σ) (h0 : 0 ≤ t) : f_X9_mistOf_12 N t σ = some (mis L t, σ) := by
  obtain ⟨h3, h4⟩ := hO.2.2.2.2.1
  have l3 := hL.2.2.2.2.1
  have lm := hL.2.2.2.2.2.2.2.1
  obtain ⟨b, hb, e⟩ := nI_of h3
  obtain ⟨a, ha, e28⟩ := nI_of h0
  unfold f_X9_mistOf_12 f_X9_mistOf_12_b21 mis
  rw [l3, e28]
  by_cases hz : L 0 3 = 0
  · rw [hz, if_pos (by decide), if_pos rfl]
  · rw [if_neg hz, e]
    rw [e] at hz lm h4
    have hb0 : b ≠ 0 := fun h => hz (by rw [h]; rfl)
    have hlt : a % b < b := Nat.mod_lt _ (by omega)
    rw [show (8 : Int32) = nI 8 from rfl, nI_le hb (by omega)] at h4
    rw [nI_cl (by omega)] at lm
    rw [nI_mod ha hb]
    simp (disch := omega) only [show (1 : Int32) = nI 1 from rfl, show (8 : Int32) = nI 8 from rfl, nI_lt, show ¬ b < 1 by omega, show ¬ 8 < b by omega, nI_n0, hz, nI_cl, nI_nn, show ¬ 8 ≤ a % b by omega, or_self, if_false, if_true, lm _ hlt]
/-- class: the course has gone k ticks from s -/
def PP.CX (F : Nat) (L s : Sg) (k : Nat) (σ : Sg) : Prop := LC F L σ ∧ RC 47 F L (tp L s) σ ∧ SC 56 F (run F L s k) σ ∧ ∀ i, i < F → σ 61 i = tms F L s i k
theorem PP.c_go {N F k : Nat} {L s σ : Sg} (hN : 1000 < N) (hO : LandOK F L) (hS : StOK F s) (ht : s 0 0 ≤ 999) (hk : k < 1000) (hC : CX F L s k σ) : Ev (f_X2_go_55 N σ) (fun z => z.1 = nds F (run F L s k) ∧ CX F L s (k + 1) z.2 ∧ Fr [20, 56, 57, 58, 59, 61, 62] σ z.2) := by
  obtain ⟨hL, hr, hs, htm⟩ := hC
  have h00 : 0 ≤ run F L s k 0 0 := (run_ok hO hS ht k (by omega)).1.1
  unfold f_X2_go_55
  rw [hs.1, c_mist hO hL h00, Option.bind_some]
  obtain ⟨m, hm, em⟩ := mis_ok hO h00
  dsimp only
  rw [em]
  refine (c_step_47 hN hO hL hs (by rw [run_tp]; exact hr) hm).bind ?_
  rintro ⟨r, σ'⟩ ⟨e, hs', htm', hf⟩
  dsimp only at e hs' htm' hf
  rw [ev_s]
  refine ⟨e, ⟨hL.fr hf (by decide), hr.fr hf (by decide), ?_, ?_⟩, hf⟩
  · rw [run_s, go, em]; exact hs'
  · intro i hi
    dsimp only
    rw [htm' i hi, htm i hi]; rfl
/-- reference: k ticks from s -/
def PP.MX (F : Nat) (L s : Sg) (k : Nat) (τ : Sg) : Prop := LM F L τ ∧ τ 0 32 = -1 ∧ SM F (run F L s k) τ
theorem PP.m_go {N F k : Nat} {L s τ : Sg} (hN : 1000 < N) (hO : LandOK F L) (hS : StOK F s) (ht : s 0 0 ≤ 999) (hk : k < 1000) (hM : MX F L s k τ) : Ev (f_X12_aTick N τ) (fun τ' => τ' 0 35 = nds F (run F L s k) ∧ MX F L s (k + 1) τ' ∧ FM [13, 14, 15, 18, 19] [28, 35] τ τ') := by
  obtain ⟨hL, h32, hs⟩ := hM
  refine (m_tick (m := mis L (run F L s k 0 0)) hN hO hL hs (run_ok hO hS ht k (by omega)) ?_).imp ?_
  · unfold Mi; rw [if_pos h32]
  · rintro τ' ⟨e, hs', hf⟩
    exact ⟨e, ⟨hL.fr hf (by decide), by rw [hf.2 32 (by decide)]; exact h32, hs'⟩, hf⟩
theorem PP.m_goOn {N F n : Nat} {L s τ : Sg} (hN : 1000 < N) (hO : LandOK F L) (hS : StOK F s) (ht : s 0 0 ≤ 999) (hn : n < 1000) (hM : MX F L s 0 τ) : Ev (f_X12_goOn N (nI n) τ) (fun τ' => (∀ j, n = j + 1 → τ' 0 35 = nds F (run F L s j)) ∧ MX F L s n τ' ∧ FM [13, 14, 15, 18, 19] [28, 35] τ τ') := by
  unfold f_X12_goOn
  rw [ev_b]
  refine ev_for (fun k q => q.1 = nI k ∧ (∀ j, k = j + 1 → q.2 0 35 = nds F (run F L s j)) ∧ MX F L s k q.2 ∧ FM [13, 14, 15, 18, 19] [28, 35] τ q.2) n N _ (by omega) ⟨rfl, (fun j h => absurd h (by omega)), hM, FM.refl _ _ _⟩ ?_ ?_
  · rintro k ⟨a, τ'⟩ hk ⟨e1, h35, hM', hf⟩
    dsimp only at e1 h35 hM' hf
    subst e1
    unfold s_X12_goOn_h2
    dsimp only
    rw [if_neg (by rw [nI_le (by omega) (by omega)]; omega)]
    refine (m_go hN hO hS ht (by omega) hM').bind ?_
    rintro τ2 ⟨e, hM2, hf2⟩
    rw [ev_bd, ev_s]
    refine Or.inl ⟨rfl, nI_s k, ?_, hM2, hf.tr hf2⟩
    intro j hj
    have : k = j := by omega
    subst this
    exact e
  · rintro ⟨a, τ'⟩ ⟨e1, h35, hM', hf⟩
    dsimp only at e1 h35 hM' hf
    subst e1
    unfold s_X12_goOn_h2
    dsimp only
    rw [if_pos (by rw [nI_le (by omega) (by omega)]; omega), ev_s]
    exact ⟨by simp, ev_s.mpr ⟨h35, hM', hf⟩⟩
theorem PP.cp9 (f g : Nat → Int32) {i : Nat} (h : i < 9) : va_cpy f g 0 0 9 i = f i := by
  unfold va_cpy
  rw [if_pos (by omega)]
  simp
theorem PP.c_copy_56_22 {N : Nat} {σ : Sg} : Ev (f_X7_copy_56_22 N σ) (fun σ' => (∀ F s, F ≤ 9 → SC 22 F s σ → SC 56 F s σ') ∧ Fr [56, 57, 58, 59, 60] σ σ') := by
  unfold f_X7_copy_56_22 f_X11_copyFarms_23_57 f_X11_copyFarms_24_58 f_X11_copyFarms_25_59 f_X11_copyFarms_26_60
  simp only [bd, Option.bind_some, ev_s]
  refine ⟨?_, ?_⟩
  · rintro F s hF ⟨h0, h1, hx, hz⟩
    refine ⟨?_, ?_, ?_, ?_⟩
    · simp [wrR_eq, wr_eq, h0]
    · simp [wrR_eq, wr_eq, h1]
    · intro i hi
      have h := hx i hi
      have hi9 : i < 9 := by omega
      simp only [Nat.reduceAdd] at h ⊢
      simp [wrR_eq, wr_eq, cp9 _ _ hi9, h]
    · intro i hi hi9
      have h := hz i hi hi9
      simp only [Nat.reduceAdd] at h ⊢
      simp [wrR_eq, wr_eq, cp9 _ _ hi9, h]
  · exact ((((((Fr.refl _ σ).wr (by decide)).wr (by decide)).wrR (by decide)).wrR (by decide)).wrR (by decide)).wrR (by decide)
theorem PP.c_copy_22_56 {N : Nat} {σ : Sg} : Ev (f_X7_copy_22_56 N σ) (fun σ' => (∀ F s, F ≤ 9 → SC 56 F s σ → SC 22 F s σ') ∧ Fr [22, 23, 24, 25, 26] σ σ') := by
  unfold f_X7_copy_22_56 f_X11_copyFarms_57_23 f_X11_copyFarms_58_24 f_X11_copyFarms_59_25 f_X11_copyFarms_60_26
  simp only [bd, Option.bind_some, ev_s]
  refine ⟨?_, ?_⟩
  · rintro F s hF ⟨h0, h1, hx, hz⟩
    refine ⟨?_, ?_, ?_, ?_⟩
    · simp [wrR_eq, wr_eq, h0]
    · simp [wrR_eq, wr_eq, h1]
    · intro i hi
      have h := hx i hi
      have hi9 : i < 9 := by omega
      simp only [Nat.reduceAdd] at h ⊢
      simp [wrR_eq, wr_eq, cp9 _ _ hi9, h]
    · intro i hi hi9
      have h := hz i hi hi9
      simp only [Nat.reduceAdd] at h ⊢
      simp [wrR_eq, wr_eq, cp9 _ _ hi9, h]
  · exact ((((((Fr.refl _ σ).wr (by decide)).wr (by decide)).wrR (by decide)).wrR (by decide)).wrR (by decide)).wrR (by decide)
theorem PP.c_copy_35_22 {N : Nat} {σ : Sg} : Ev (f_X7_copy_35_22 N σ) (fun σ' => (∀ F s, F ≤ 9 → SC 22 F s σ → SC 35 F s σ') ∧ Fr [35, 36, 37, 38, 39] σ σ') := by
  unfold f_X7_copy_35_22 f_X11_copyFarms_23_36 f_X11_copyFarms_24_37 f_X11_copyFarms_25_38 f_X11_copyFarms_26_39
  simp only [bd, Option.bind_some, ev_s]
  refine ⟨?_, ?_⟩
  · rintro F s hF ⟨h0, h1, hx, hz⟩
    refine ⟨?_, ?_, ?_, ?_⟩
    · simp [wrR_eq, wr_eq, h0]
    · simp [wrR_eq, wr_eq, h1]
    · intro i hi
      have h := hx i hi
      have hi9 : i < 9 := by omega
      simp only [Nat.reduceAdd] at h ⊢
      simp [wrR_eq, wr_eq, cp9 _ _ hi9, h]
    · intro i hi hi9
      have h := hz i hi hi9
      simp only [Nat.reduceAdd] at h ⊢
      simp [wrR_eq, wr_eq, cp9 _ _ hi9, h]
  · exact ((((((Fr.refl _ σ).wr (by decide)).wr (by decide)).wrR (by decide)).wrR (by decide)).wrR (by decide)).wrR (by decide)
theorem PP.c_copy_22_35 {N : Nat} {σ : Sg} : Ev (f_X7_copy_22_35 N σ) (fun σ' => (∀ F s, F ≤ 9 → SC 35 F s σ → SC 22 F s σ') ∧ Fr [22, 23, 24, 25, 26] σ σ') := by
  unfold f_X7_copy_22_35 f_X11_copyFarms_36_23 f_X11_copyFarms_37_24 f_X11_copyFarms_38_25 f_X11_copyFarms_39_26
  simp only [bd, Option.bind_some, ev_s]
  refine ⟨?_, ?_⟩
  · rintro F s hF ⟨h0, h1, hx, hz⟩
    refine ⟨?_, ?_, ?_, ?_⟩
    · simp [wrR_eq, wr_eq, h0]
    · simp [wrR_eq, wr_eq, h1]
    · intro i hi
      have h := hx i hi
      have hi9 : i < 9 := by omega
      simp only [Nat.reduceAdd] at h ⊢
      simp [wrR_eq, wr_eq, cp9 _ _ hi9, h]
    · intro i hi hi9
      have h := hz i hi hi9
      simp only [Nat.reduceAdd] at h ⊢
      simp [wrR_eq, wr_eq, cp9 _ _ hi9, h]
  · exact ((((((Fr.refl _ σ).wr (by decide)).wr (by decide)).wrR (by decide)).wrR (by decide)).wrR (by decide)).wrR (by decide)
theorem PP.c_start {N F : Nat} {L s σ : Sg} (hN : 20 < N) (hF : F ≤ 9) (hL : LC F L σ) (hr : RC 47 F L (tp L s) σ) (hs : SC 22 F s σ) : Ev (f_X2_start_55_22 N σ) (fun σ' => CX F L s 0 σ' ∧ Fr [56, 57, 58, 59, 60, 61] σ σ') := by
  unfold f_X2_start_55_22
  refine c_copy_56_22.bind ?_
  rintro σ1 ⟨hc, hf1⟩
  have hs1 := hc F s hF hs
  rw [ev_b]
  refine ev_for (fun k q => q.1 = nI k ∧ Fr [61] σ1 q.2 ∧ ∀ i, i < k → q.2 61 i = 0) 9 N _ (by omega) ⟨rfl, Fr.refl _ _, fun i hi => absurd hi (by omega)⟩ ?_ ?_
  · rintro k ⟨a, σ'⟩ hk ⟨e1, hf, hi⟩
    dsimp only at e1 hf hi
    subst e1
    unfold s_X2_start_55_22_h10
    simp (disch := omega) only [show (9 : Int32) = nI 9 from rfl, nI_le, nI_cl, nI_nn, show ¬ 9 ≤ k by omega, or_self, if_false, ev_bd, ev_s, nI_s]
    refine Or.inl ⟨by trivial, by trivial, hf.wr (by decide), ?_⟩
    intro i hik
    rw [wr_e]
    by_cases h : i = k
    · subst h; rw [upd_e]
    · rw [upd_n h]; exact hi i (by omega)
  · rintro ⟨a, σ'⟩ ⟨e1, hf, hi⟩
    dsimp only at e1 hf hi
    subst e1
    unfold s_X2_start_55_22_h10
    simp (disch := omega) only [show (9 : Int32) = nI 9 from rfl, nI_le, Nat.le_refl, if_true, ev_s]
    have hff : Fr [56, 57, 58, 59, 60, 61] σ σ' := (hf1.mo (by decide)).tr (hf.mo (by decide))
    refine ⟨by decide, ⟨hL.fr hff (by decide), hr.fr hff (by decide), hs1.fr hf (by decide), ?_⟩, hff⟩
    intro i hi'
    exact hi i (by omega)
/-! rows of the reference's states -/
def PP.rowM (F : Nat) (s : Sg) (row : Nat → Int32) (b : Nat) : Prop := row b = s 0 0 ∧ row (b + 1) = s 0 1 ∧ ∀ i, i < F → row (b + 2 + i) = s 1 i ∧ row (b + 11 + i) = s 2 i ∧ row (b + 20 + i) = s 3 i ∧ row (b + 29 + i) = s 4 i
theorem PP.m_pack_17 {N b : Nat} {τ : Sg} (hN : 20 < N) (hb : b + 38 ≤ 1520) : Ev (f_X12_pack_17 N (nI b) τ) (fun τ' => (∀ F s, F ≤ 9 → SM F s τ → rowM F s (τ' 17) b) ∧ (∀ j, j < b ∨ b + 38 ≤ j → τ' 17 j = τ 17 j) ∧ FM [17] [] τ τ') := by
  unfold f_X12_pack_17
  simp (disch := omega) only [nI_s, nI_cl, nI_nn, show ¬ 1520 ≤ b by omega, show ¬ 1520 ≤ b + 1 by omega, or_self, if_false, ev_bd]
  rw [ev_b]
  refine ev_for (fun k q => q.1 = nI k ∧ FM [17] [] τ q.2 ∧ (∀ j, j < b ∨ b + 38 ≤ j → q.2 17 j = τ 17 j) ∧ q.2 17 b = τ 0 28 ∧ q.2 17 (b + 1) = τ 0 29 ∧ ∀ i, i < k → q.2 17 (b + 2 + i) = τ 13 i ∧ q.2 17 (b + 11 + i) = τ 14 i ∧ q.2 17 (b + 20 + i) = τ 15 i ∧ q.2 17 (b + 29 + i) = τ 16 i) 9 N _ (by omega) ⟨rfl, ((FM.refl _ _ _).w (by decide) (by decide)).w (by decide) (by decide), ?_, ?_, ?_, fun i hi => absurd hi (by omega)⟩ ?_ ?_
  · intro j hj
    simp [wr_eq, show j ≠ b by omega, show j ≠ b + 1 by omega]
  · simp [wr_eq]
  · simp [wr_eq]
  · rintro k ⟨a, σ'⟩ hk ⟨e1, hf, ho, h0, h1, hi⟩
    dsimp only at e1 hf ho h0 h1 hi
    subst e1
    have f13 := hf.1 13 (by decide) (by decide)
    have f14 := hf.1 14 (by decide) (by decide)
    have f15 := hf.1 15 (by decide) (by decide)
    have f16 := hf.1 16 (by decide) (by decide)
    refine Ev.imp (P := fun r => r.1 = 0 ∧ _) ?_ (fun r h => Or.inl h)
    unfold s_X12_pack_17_h18
    simp (disch := omega) only [show (9 : Int32) = nI 9 from rfl, show (2 : Int32) = nI 2 from rfl, show (18 : Int32) = nI 18 from rfl, show (27 : Int32) = nI 27 from rfl, nI_add, nI_le, nI_cl, nI_nn, show ¬ 9 ≤ k by omega, show ¬ 1520 ≤ b + 2 + k by omega, show ¬ 1520 ≤ b + 2 + 9 + k by omega, show ¬ 1520 ≤ b + 2 + 18 + k by omega, show ¬ 1520 ≤ b + 2 + 27 + k by omega, or_self, if_false, ev_bd, ev_s, nI_s, wr_n (show (13 : Nat) ≠ 17 by decide), wr_n (show (14 : Nat) ≠ 17 by decide), wr_n (show (15 : Nat) ≠ 17 by decide), wr_n (show (16 : Nat) ≠ 17 by decide), f13, f14, f15, f16]
    refine ⟨by trivial, by trivial, (((hf.w (by decide) (by decide)).w (by decide) (by decide)).w (by decide) (by decide)).w (by decide) (by decide), ?_, ?_, ?_, ?_⟩
    · intro j hj
      simp only [wr_eq, reduceIte, show j ≠ b + 2 + k by omega, show j ≠ b + 2 + 9 + k by omega, show j ≠ b + 2 + 18 + k by omega, show j ≠ b + 2 + 27 + k by omega]
      exact ho j hj
    · simp only [wr_eq, reduceIte, show b ≠ b + 2 + k by omega, show b ≠ b + 2 + 9 + k by omega, show b ≠ b + 2 + 18 + k by omega, show b ≠ b + 2 + 27 + k by omega]
      exact h0
    · simp only [wr_eq, reduceIte, show b + 1 ≠ b + 2 + k by omega, show b + 1 ≠ b + 2 + 9 + k by omega, show b + 1 ≠ b + 2 + 18 + k by omega, show b + 1 ≠ b + 2 + 27 + k by omega]
      exact h1
    · intro i hik
      simp only [wr_eq, reduceIte]
      by_cases h : i = k
      · subst h
        simp only [show b + 2 + i ≠ b + 2 + 9 + i by omega, show b + 2 + i ≠ b + 2 + 18 + i by omega, show b + 2 + i ≠ b + 2 + 27 + i by omega, show b + 11 + i = b + 2 + 9 + i by omega, show b + 20 + i = b + 2 + 18 + i by omega, show b + 29 + i = b + 2 + 27 + i by omega, show b + 2 + 9 + i ≠ b + 2 + 18 + i by omega, show b + 2 + 9 + i ≠ b + 2 + 27 + i by omega, show b + 2 + 18 + i ≠ b + 2 + 27 + i by omega, if_false, reduceIte]
        exact ⟨by trivial, by trivial, by trivial, by trivial⟩
      · have := hi i (by omega)
        simp only [show b + 2 + i ≠ b + 2 + k by omega, show b + 2 + i ≠ b + 2 + 9 + k by omega, show b + 2 + i ≠ b + 2 + 18 + k by omega, show b + 2 + i ≠ b + 2 + 27 + k by omega, show b + 11 + i ≠ b + 2 + k by omega, show b + 11 + i ≠ b + 2 + 9 + k by omega, show b + 11 + i ≠ b + 2 + 18 + k by omega, show b + 11 + i ≠ b + 2 + 27 + k by omega, show b + 20 + i ≠ b + 2 + k by omega, show b + 20 + i ≠ b + 2 + 9 + k by omega, show b + 20 + i ≠ b + 2 + 18 + k by omega, show b + 20 + i ≠ b + 2 + 27 + k by omega, show b + 29 + i ≠ b + 2 + k by omega, show b + 29 + i ≠ b + 2 + 9 + k by omega, show b + 29 + i ≠ b + 2 + 18 + k by omega, show b + 29 + i ≠ b + 2 + 27 + k by omega, if_false]
        exact this
  · rintro ⟨a, σ'⟩ ⟨e1, hf, ho, h0, h1, hi⟩
    dsimp only at e1 hf ho h0 h1 hi
    subst e1
    unfold s_X12_pack_17_h18
    simp (disch := omega) only [show (9 : Int32) = nI 9 from rfl, nI_le, Nat.le_refl, if_true, ev_s]
    refine ⟨by decide, ?_, ho, hf⟩
    rintro F s hF ⟨s0, s1, sx⟩
    refine ⟨h0.trans s0, h1.trans s1, ?_⟩
    intro i hiF
    have a1 := hi i (by omega)
    have a2 := sx i hiF
    rw [← a2.1, ← a2.2.1, ← a2.2.2.1, ← a2.2.2.2]
    exact a1
theorem PP.m_unpack_17 {N b : Nat} {τ : Sg} (hN : 20 < N) (hb : b + 38 ≤ 1520) : Ev (f_X12_unpack_17 N (nI b) τ) (fun τ' => (∀ F s, F ≤ 9 → rowM F s (τ 17) b → SM F s τ') ∧ FM [13, 14, 15, 16] [28, 29] τ τ') := by
  unfold f_X12_unpack_17
  simp (disch := omega) only [nI_s, nI_cl, nI_nn, show ¬ 1520 ≤ b by omega, show ¬ 1520 ≤ b + 1 by omega, or_self, if_false, ev_bd, wr_n (show (17 : Nat) ≠ 0 by decide)]
  rw [ev_b]
  refine ev_for (fun k q => q.1 = nI k ∧ FM [13, 14, 15, 16] [28, 29] τ q.2 ∧ q.2 0 28 = τ 17 b ∧ q.2 0 29 = τ 17 (b + 1) ∧ ∀ i, i < k → q.2 13 i = τ 17 (b + 2 + i) ∧ q.2 14 i = τ 17 (b + 11 + i) ∧ q.2 15 i = τ 17 (b + 20 + i) ∧ q.2 16 i = τ 17 (b + 29 + i)) 9 N _ (by omega) ⟨rfl, ((FM.refl _ _ _).w0 (by decide)).w0 (by decide), ?_, ?_, fun i hi => absurd hi (by omega)⟩ ?_ ?_
  · simp [wr_eq]
  · simp [wr_eq]
  · rintro k ⟨a, σ'⟩ hk ⟨e1, hf, h0, h1, hi⟩
    dsimp only at e1 hf h0 h1 hi
    subst e1
    have fC := hf.1 17 (by decide) (by decide)
    refine Ev.imp (P := fun r => r.1 = 0 ∧ _) ?_ (fun r h => Or.inl h)
    unfold s_X12_unpack_17_h18
    simp (disch := omega) only [show (9 : Int32) = nI 9 from rfl, show (2 : Int32) = nI 2 from rfl, show (18 : Int32) = nI 18 from rfl, show (27 : Int32) = nI 27 from rfl, nI_add, nI_le, nI_cl, nI_nn, show ¬ 9 ≤ k by omega, show ¬ 1520 ≤ b + 2 + k by omega, show ¬ 1520 ≤ b + 2 + 9 + k by omega, show ¬ 1520 ≤ b + 2 + 18 + k by omega, show ¬ 1520 ≤ b + 2 + 27 + k by omega, or_self, if_false, ev_bd, ev_s, nI_s, wr_n (show (17 : Nat) ≠ 13 by decide), wr_n (show (17 : Nat) ≠ 14 by decide), wr_n (show (17 : Nat) ≠ 15 by decide), wr_n (show (17 : Nat) ≠ 16 by decide), fC]
    refine ⟨by trivial, by trivial, (((hf.w (by decide) (by decide)).w (by decide) (by decide)).w (by decide) (by decide)).w (by decide) (by decide), ?_, ?_, ?_⟩
    · simpa [wr_eq] using h0
    · simpa [wr_eq] using h1
    · intro i hik
      simp only [wr_eq, reduceIte, Nat.reduceEqDiff]
      by_cases h : i = k
      · subst h
        simp only [reduceIte]
        exact ⟨by trivial, by trivial, by trivial, by trivial⟩
      · have := hi i (by omega)
        simp only [h, reduceIte]
        exact this
  · rintro ⟨a, σ'⟩ ⟨e1, hf, h0, h1, hi⟩
    dsimp only at e1 hf h0 h1 hi
    subst e1
    unfold s_X12_unpack_17_h18
    simp (disch := omega) only [show (9 : Int32) = nI 9 from rfl, nI_le, Nat.le_refl, if_true, ev_s]
    refine ⟨by decide, ?_, hf⟩
    rintro F s hF ⟨s0, s1, sx⟩
    refine ⟨h0.trans s0, h1.trans s1, ?_⟩
    intro i hiF
    have a1 := hi i (by omega)
    have a2 := sx i hiF
    rw [a1.1, a1.2.1, a1.2.2.1, a1.2.2.2]
    exact a2
theorem PP.m_pack_21 {N b : Nat} {τ : Sg} (hN : 20 < N) (hb : b + 38 ≤ 38) : Ev (f_X12_pack_21 N (nI b) τ) (fun τ' => (∀ F s, F ≤ 9 → SM F s τ → rowM F s (τ' 21) b) ∧ (∀ j, j < b ∨ b + 38 ≤ j → τ' 21 j = τ 21 j) ∧ FM [21] [] τ τ') := by
  unfold f_X12_pack_21
  simp (disch := omega) only [nI_s, nI_cl, nI_nn, show ¬ 38 ≤ b by omega, show ¬ 38 ≤ b + 1 by omega, or_self, if_false, ev_bd]
  rw [ev_b]
  refine ev_for (fun k q => q.1 = nI k ∧ FM [21] [] τ q.2 ∧ (∀ j, j < b ∨ b + 38 ≤ j → q.2 21 j = τ 21 j) ∧ q.2 21 b = τ 0 28 ∧ q.2 21 (b + 1) = τ 0 29 ∧ ∀ i, i < k → q.2 21 (b + 2 + i) = τ 13 i ∧ q.2 21 (b + 11 + i) = τ 14 i ∧ q.2 21 (b + 20 + i) = τ 15 i ∧ q.2 21 (b + 29 + i) = τ 16 i) 9 N _ (by omega) ⟨rfl, ((FM.refl _ _ _).w (by decide) (by decide)).w (by decide) (by decide), ?_, ?_, ?_, fun i hi => absurd hi (by omega)⟩ ?_ ?_
  · intro j hj
    simp [wr_eq, show j ≠ b by omega, show j ≠ b + 1 by omega]
  · simp [wr_eq]
  · simp [wr_eq]
  · rintro k ⟨a, σ'⟩ hk ⟨e1, hf, ho, h0, h1, hi⟩
    dsimp only at e1 hf ho h0 h1 hi
    subst e1
    have f13 := hf.1 13 (by decide) (by decide)
    have f14 := hf.1 14 (by decide) (by decide)
    have f15 := hf.1 15 (by decide) (by decide)
    have f16 := hf.1 16 (by decide) (by decide)
    refine Ev.imp (P := fun r => r.1 = 0 ∧ _) ?_ (fun r h => Or.inl h)
    unfold s_X12_pack_21_h18
    simp (disch := omega) only [show (9 : Int32) = nI 9 from rfl, show (2 : Int32) = nI 2 from rfl, show (18 : Int32) = nI 18 from rfl, show (27 : Int32) = nI 27 from rfl, nI_add, nI_le, nI_cl, nI_nn, show ¬ 9 ≤ k by omega, show ¬ 38 ≤ b + 2 + k by omega, show ¬ 38 ≤ b + 2 + 9 + k by omega, show ¬ 38 ≤ b + 2 + 18 + k by omega, show ¬ 38 ≤ b + 2 + 27 + k by omega, or_self, if_false, ev_bd, ev_s, nI_s, wr_n (show (13 : Nat) ≠ 21 by decide), wr_n (show (14 : Nat) ≠ 21 by decide), wr_n (show (15 : Nat) ≠ 21 by decide), wr_n (show (16 : Nat) ≠ 21 by decide), f13, f14, f15, f16]
    refine ⟨by trivial, by trivial, (((hf.w (by decide) (by decide)).w (by decide) (by decide)).w (by decide) (by decide)).w (by decide) (by decide), ?_, ?_, ?_, ?_⟩
    · intro j hj
      simp only [wr_eq, reduceIte, show j ≠ b + 2 + k by omega, show j ≠ b + 2 + 9 + k by omega, show j ≠ b + 2 + 18 + k by omega, show j ≠ b + 2 + 27 + k by omega]
      exact ho j hj
    · simp only [wr_eq, reduceIte, show b ≠ b + 2 + k by omega, show b ≠ b + 2 + 9 + k by omega, show b ≠ b + 2 + 18 + k by omega, show b ≠ b + 2 + 27 + k by omega]
      exact h0
    · simp only [wr_eq, reduceIte, show b + 1 ≠ b + 2 + k by omega, show b + 1 ≠ b + 2 + 9 + k by omega, show b + 1 ≠ b + 2 + 18 + k by omega, show b + 1 ≠ b + 2 + 27 + k by omega]
      exact h1
    · intro i hik
      simp only [wr_eq, reduceIte]
      by_cases h : i = k
      · subst h
        simp only [show b + 2 + i ≠ b + 2 + 9 + i by omega, show b + 2 + i ≠ b + 2 + 18 + i by omega, show b + 2 + i ≠ b + 2 + 27 + i by omega, show b + 11 + i = b + 2 + 9 + i by omega, show b + 20 + i = b + 2 + 18 + i by omega, show b + 29 + i = b + 2 + 27 + i by omega, show b + 2 + 9 + i ≠ b + 2 + 18 + i by omega, show b + 2 + 9 + i ≠ b + 2 + 27 + i by omega, show b + 2 + 18 + i ≠ b + 2 + 27 + i by omega, if_false, reduceIte]
        exact ⟨by trivial, by trivial, by trivial, by trivial⟩
      · have := hi i (by omega)
        simp only [show b + 2 + i ≠ b + 2 + k by omega, show b + 2 + i ≠ b + 2 + 9 + k by omega, show b + 2 + i ≠ b + 2 + 18 + k by omega, show b + 2 + i ≠ b + 2 + 27 + k by omega, show b + 11 + i ≠ b + 2 + k by omega, show b + 11 + i ≠ b + 2 + 9 + k by omega, show b + 11 + i ≠ b + 2 + 18 + k by omega, show b + 11 + i ≠ b + 2 + 27 + k by omega, show b + 20 + i ≠ b + 2 + k by omega, show b + 20 + i ≠ b + 2 + 9 + k by omega, show b + 20 + i ≠ b + 2 + 18 + k by omega, show b + 20 + i ≠ b + 2 + 27 + k by omega, show b + 29 + i ≠ b + 2 + k by omega, show b + 29 + i ≠ b + 2 + 9 + k by omega, show b + 29 + i ≠ b + 2 + 18 + k by omega, show b + 29 + i ≠ b + 2 + 27 + k by omega, if_false]
        exact this
  · rintro ⟨a, σ'⟩ ⟨e1, hf, ho, h0, h1, hi⟩
    dsimp only at e1 hf ho h0 h1 hi
    subst e1
    unfold s_X12_pack_21_h18
    simp (disch := omega) only [show (9 : Int32) = nI 9 from rfl, nI_le, Nat.le_refl, if_true, ev_s]
    refine ⟨by decide, ?_, ho, hf⟩
    rintro F s hF ⟨s0, s1, sx⟩
    refine ⟨h0.trans s0, h1.trans s1, ?_⟩
    intro i hiF
    have a1 := hi i (by omega)
    have a2 := sx i hiF
    rw [← a2.1, ← a2.2.1, ← a2.2.2.1, ← a2.2.2.2]
    exact a1
theorem PP.m_unpack_21 {N b : Nat} {τ : Sg} (hN : 20 < N) (hb : b + 38 ≤ 38) : Ev (f_X12_unpack_21 N (nI b) τ) (fun τ' => (∀ F s, F ≤ 9 → rowM F s (τ 21) b → SM F s τ') ∧ FM [13, 14, 15, 16] [28, 29] τ τ') := by
  unfold f_X12_unpack_21
  simp (disch := omega) only [nI_s, nI_cl, nI_nn, show ¬ 38 ≤ b by omega, show ¬ 38 ≤ b + 1 by omega, or_self, if_false, ev_bd, wr_n (show (21 : Nat) ≠ 0 by decide)]
  rw [ev_b]
  refine ev_for (fun k q => q.1 = nI k ∧ FM [13, 14, 15, 16] [28, 29] τ q.2 ∧ q.2 0 28 = τ 21 b ∧ q.2 0 29 = τ 21 (b + 1) ∧ ∀ i, i < k → q.2 13 i = τ 21 (b + 2 + i) ∧ q.2 14 i = τ 21 (b + 11 + i) ∧ q.2 15 i = τ 21 (b + 20 + i) ∧ q.2 16 i = τ 21 (b + 29 + i)) 9 N _ (by omega) ⟨rfl, ((FM.refl _ _ _).w0 (by decide)).w0 (by decide), ?_, ?_, fun i hi => absurd hi (by omega)⟩ ?_ ?_
  · simp [wr_eq]
  · simp [wr_eq]
  · rintro k ⟨a, σ'⟩ hk ⟨e1, hf, h0, h1, hi⟩
    dsimp only at e1 hf h0 h1 hi
    subst e1
    have fC := hf.1 21 (by decide) (by decide)
    refine Ev.imp (P := fun r => r.1 = 0 ∧ _) ?_ (fun r h => Or.inl h)
    unfold s_X12_unpack_21_h18
    simp (disch := omega) only [show (9 : Int32) = nI 9 from rfl, show (2 : Int32) = nI 2 from rfl, show (18 : Int32) = nI 18 from rfl, show (27 : Int32) = nI 27 from rfl, nI_add, nI_le, nI_cl, nI_nn, show ¬ 9 ≤ k by omega, show ¬ 38 ≤ b + 2 + k by omega, show ¬ 38 ≤ b + 2 + 9 + k by omega, show ¬ 38 ≤ b + 2 + 18 + k by omega, show ¬ 38 ≤ b + 2 + 27 + k by omega, or_self, if_false, ev_bd, ev_s, nI_s, wr_n (show (21 : Nat) ≠ 13 by decide), wr_n (show (21 : Nat) ≠ 14 by decide), wr_n (show (21 : Nat) ≠ 15 by decide), wr_n (show (21 : Nat) ≠ 16 by decide), fC]
    refine ⟨by trivial, by trivial, (((hf.w (by decide) (by decide)).w (by decide) (by decide)).w (by decide) (by decide)).w (by decide) (by decide), ?_, ?_, ?_⟩
    · simpa [wr_eq] using h0
    · simpa [wr_eq] using h1
    · intro i hik
      simp only [wr_eq, reduceIte, Nat.reduceEqDiff]
      by_cases h : i = k
      · subst h
        simp only [reduceIte]
        exact ⟨by trivial, by trivial, by trivial, by trivial⟩
      · have := hi i (by omega)
        simp only [h, reduceIte]
        exact this
  · rintro ⟨a, σ'⟩ ⟨e1, hf, h0, h1, hi⟩
    dsimp only at e1 hf h0 h1 hi
    subst e1
    unfold s_X12_unpack_21_h18
    simp (disch := omega) only [show (9 : Int32) = nI 9 from rfl, nI_le, Nat.le_refl, if_true, ev_s]
    refine ⟨by decide, ?_, hf⟩
    rintro F s hF ⟨s0, s1, sx⟩
    refine ⟨h0.trans s0, h1.trans s1, ?_⟩
    intro i hiF
    have a1 := hi i (by omega)
    have a2 := sx i hiF
    rw [a1.1, a1.2.1, a1.2.2.1, a1.2.2.2]
    exact a2
theorem PP.m_pack_23 {N b : Nat} {τ : Sg} (hN : 20 < N) (hb : b + 38 ≤ 38) : Ev (f_X12_pack_23 N (nI b) τ) (fun τ' => (∀ F s, F ≤ 9 → SM F s τ → rowM F s (τ' 23) b) ∧ (∀ j, j < b ∨ b + 38 ≤ j → τ' 23 j = τ 23 j) ∧ FM [23] [] τ τ') := by
  unfold f_X12_pack_23
  simp (disch := omega) only [nI_s, nI_cl, nI_nn, show ¬ 38 ≤ b by omega, show ¬ 38 ≤ b + 1 by omega, or_self, if_false, ev_bd]
  rw [ev_b]
  refine ev_for (fun k q => q.1 = nI k ∧ FM [23] [] τ q.2 ∧ (∀ j, j < b ∨ b + 38 ≤ j → q.2 23 j = τ 23 j) ∧ q.2 23 b = τ 0 28 ∧ q.2 23 (b + 1) = τ 0 29 ∧ ∀ i, i < k → q.2 23 (b + 2 + i) = τ 13 i ∧ q.2 23 (b + 11 + i) = τ 14 i ∧ q.2 23 (b + 20 + i) = τ 15 i ∧ q.2 23 (b + 29 + i) = τ 16 i) 9 N _ (by omega) ⟨rfl, ((FM.refl _ _ _).w (by decide) (by decide)).w (by decide) (by decide), ?_, ?_, ?_, fun i hi => absurd hi (by omega)⟩ ?_ ?_
  · intro j hj
    simp [wr_eq, show j ≠ b by omega, show j ≠ b + 1 by omega]
  · simp [wr_eq]
  · simp [wr_eq]
  · rintro k ⟨a, σ'⟩ hk ⟨e1, hf, ho, h0, h1, hi⟩
    dsimp only at e1 hf ho h0 h1 hi
    subst e1
    have f13 := hf.1 13 (by decide) (by decide)
    have f14 := hf.1 14 (by decide) (by decide)
    have f15 := hf.1 15 (by decide) (by decide)
    have f16 := hf.1 16 (by decide) (by decide)
    refine Ev.imp (P := fun r => r.1 = 0 ∧ _) ?_ (fun r h => Or.inl h)
    unfold s_X12_pack_23_h18
    simp (disch := omega) only [show (9 : Int32) = nI 9 from rfl, show (2 : Int32) = nI 2 from rfl, show (18 : Int32) = nI 18 from rfl, show (27 : Int32) = nI 27 from rfl, nI_add, nI_le, nI_cl, nI_nn, show ¬ 9 ≤ k by omega, show ¬ 38 ≤ b + 2 + k by omega, show ¬ 38 ≤ b + 2 + 9 + k by omega, show ¬ 38 ≤ b + 2 + 18 + k by omega, show ¬ 38 ≤ b + 2 + 27 + k by omega, or_self, if_false, ev_bd, ev_s, nI_s, wr_n (show (13 : Nat) ≠ 23 by decide), wr_n (show (14 : Nat) ≠ 23 by decide), wr_n (show (15 : Nat) ≠ 23 by decide), wr_n (show (16 : Nat) ≠ 23 by decide), f13, f14, f15, f16]
    refine ⟨by trivial, by trivial, (((hf.w (by decide) (by decide)).w (by decide) (by decide)).w (by decide) (by decide)).w (by decide) (by decide), ?_, ?_, ?_, ?_⟩
    · intro j hj
      simp only [wr_eq, reduceIte, show j ≠ b + 2 + k by omega, show j ≠ b + 2 + 9 + k by omega, show j ≠ b + 2 + 18 + k by omega, show j ≠ b + 2 + 27 + k by omega]
      exact ho j hj
    · simp only [wr_eq, reduceIte, show b ≠ b + 2 + k by omega, show b ≠ b + 2 + 9 + k by omega, show b ≠ b + 2 + 18 + k by omega, show b ≠ b + 2 + 27 + k by omega]
      exact h0
    · simp only [wr_eq, reduceIte, show b + 1 ≠ b + 2 + k by omega, show b + 1 ≠ b + 2 + 9 + k by omega, show b + 1 ≠ b + 2 + 18 + k by omega, show b + 1 ≠ b + 2 + 27 + k by omega]
      exact h1
    · intro i hik
      simp only [wr_eq, reduceIte]
      by_cases h : i = k
      · subst h
        simp only [show b + 2 + i ≠ b + 2 + 9 + i by omega, show b + 2 + i ≠ b + 2 + 18 + i by omega, show b + 2 + i ≠ b + 2 + 27 + i by omega, show b + 11 + i = b + 2 + 9 + i by omega, show b + 20 + i = b + 2 + 18 + i by omega, show b + 29 + i = b + 2 + 27 + i by omega, show b + 2 + 9 + i ≠ b + 2 + 18 + i by omega, show b + 2 + 9 + i ≠ b + 2 + 27 + i by omega, show b + 2 + 18 + i ≠ b + 2 + 27 + i by omega, if_false, reduceIte]
        exact ⟨by trivial, by trivial, by trivial, by trivial⟩
      · have := hi i (by omega)
        simp only [show b + 2 + i ≠ b + 2 + k by omega, show b + 2 + i ≠ b + 2 + 9 + k by omega, show b + 2 + i ≠ b + 2 + 18 + k by omega, show b + 2 + i ≠ b + 2 + 27 + k by omega, show b + 11 + i ≠ b + 2 + k by omega, show b + 11 + i ≠ b + 2 + 9 + k by omega, show b + 11 + i ≠ b + 2 + 18 + k by omega, show b + 11 + i ≠ b + 2 + 27 + k by omega, show b + 20 + i ≠ b + 2 + k by omega, show b + 20 + i ≠ b + 2 + 9 + k by omega, show b + 20 + i ≠ b + 2 + 18 + k by omega, show b + 20 + i ≠ b + 2 + 27 + k by omega, show b + 29 + i ≠ b + 2 + k by omega, show b + 29 + i ≠ b + 2 + 9 + k by omega, show b + 29 + i ≠ b + 2 + 18 + k by omega, show b + 29 + i ≠ b + 2 + 27 + k by omega, if_false]
        exact this
  · rintro ⟨a, σ'⟩ ⟨e1, hf, ho, h0, h1, hi⟩
    dsimp only at e1 hf ho h0 h1 hi
    subst e1
    unfold s_X12_pack_23_h18
    simp (disch := omega) only [show (9 : Int32) = nI 9 from rfl, nI_le, Nat.le_refl, if_true, ev_s]
    refine ⟨by decide, ?_, ho, hf⟩
    rintro F s hF ⟨s0, s1, sx⟩
    refine ⟨h0.trans s0, h1.trans s1, ?_⟩
    intro i hiF
    have a1 := hi i (by omega)
    have a2 := sx i hiF
    rw [← a2.1, ← a2.2.1, ← a2.2.2.1, ← a2.2.2.2]
    exact a1
theorem PP.m_unpack_23 {N b : Nat} {τ : Sg} (hN : 20 < N) (hb : b + 38 ≤ 38) : Ev (f_X12_unpack_23 N (nI b) τ) (fun τ' => (∀ F s, F ≤ 9 → rowM F s (τ 23) b → SM F s τ') ∧ FM [13, 14, 15, 16] [28, 29] τ τ') := by
  unfold f_X12_unpack_23
  simp (disch := omega) only [nI_s, nI_cl, nI_nn, show ¬ 38 ≤ b by omega, show ¬ 38 ≤ b + 1 by omega, or_self, if_false, ev_bd, wr_n (show (23 : Nat) ≠ 0 by decide)]
  rw [ev_b]
  refine ev_for (fun k q => q.1 = nI k ∧ FM [13, 14, 15, 16] [28, 29] τ q.2 ∧ q.2 0 28 = τ 23 b ∧ q.2 0 29 = τ 23 (b + 1) ∧ ∀ i, i < k → q.2 13 i = τ 23 (b + 2 + i) ∧ q.2 14 i = τ 23 (b + 11 + i) ∧ q.2 15 i = τ 23 (b + 20 + i) ∧ q.2 16 i = τ 23 (b + 29 + i)) 9 N _ (by omega) ⟨rfl, ((FM.refl _ _ _).w0 (by decide)).w0 (by decide), ?_, ?_, fun i hi => absurd hi (by omega)⟩ ?_ ?_
  · simp [wr_eq]
  · simp [wr_eq]
  · rintro k ⟨a, σ'⟩ hk ⟨e1, hf, h0, h1, hi⟩
    dsimp only at e1 hf h0 h1 hi
    subst e1
    have fC := hf.1 23 (by decide) (by decide)
    refine Ev.imp (P := fun r => r.1 = 0 ∧ _) ?_ (fun r h => Or.inl h)
    unfold s_X12_unpack_23_h18
    simp (disch := omega) only [show (9 : Int32) = nI 9 from rfl, show (2 : Int32) = nI 2 from rfl, show (18 : Int32) = nI 18 from rfl, show (27 : Int32) = nI 27 from rfl, nI_add, nI_le, nI_cl, nI_nn, show ¬ 9 ≤ k by omega, show ¬ 38 ≤ b + 2 + k by omega, show ¬ 38 ≤ b + 2 + 9 + k by omega, show ¬ 38 ≤ b + 2 + 18 + k by omega, show ¬ 38 ≤ b + 2 + 27 + k by omega, or_self, if_false, ev_bd, ev_s, nI_s, wr_n (show (23 : Nat) ≠ 13 by decide), wr_n (show (23 : Nat) ≠ 14 by decide), wr_n (show (23 : Nat) ≠ 15 by decide), wr_n (show (23 : Nat) ≠ 16 by decide), fC]
    refine ⟨by trivial, by trivial, (((hf.w (by decide) (by decide)).w (by decide) (by decide)).w (by decide) (by decide)).w (by decide) (by decide), ?_, ?_, ?_⟩
    · simpa [wr_eq] using h0
    · simpa [wr_eq] using h1
    · intro i hik
      simp only [wr_eq, reduceIte, Nat.reduceEqDiff]
      by_cases h : i = k
      · subst h
        simp only [reduceIte]
        exact ⟨by trivial, by trivial, by trivial, by trivial⟩
      · have := hi i (by omega)
        simp only [h, reduceIte]
        exact this
  · rintro ⟨a, σ'⟩ ⟨e1, hf, h0, h1, hi⟩
    dsimp only at e1 hf h0 h1 hi
    subst e1
    unfold s_X12_unpack_23_h18
    simp (disch := omega) only [show (9 : Int32) = nI 9 from rfl, nI_le, Nat.le_refl, if_true, ev_s]
    refine ⟨by decide, ?_, hf⟩
    rintro F s hF ⟨s0, s1, sx⟩
    refine ⟨h0.trans s0, h1.trans s1, ?_⟩
    intro i hiF
    have a1 := hi i (by omega)
    have a2 := sx i hiF
    rw [a1.1, a1.2.1, a1.2.2.1, a1.2.2.2]
    exact a2
theorem PP.m_pack_26 {N b : Nat} {τ : Sg} (hN : 20 < N) (hb : b + 38 ≤ 38) : Ev (f_X12_pack_26 N (nI b) τ) (fun τ' => (∀ F s, F ≤ 9 → SM F s τ → rowM F s (τ' 26) b) ∧ (∀ j, j < b ∨ b + 38 ≤ j → τ' 26 j = τ 26 j) ∧ FM [26] [] τ τ') := by
  unfold f_X12_pack_26
  simp (disch := omega) only [nI_s, nI_cl, nI_nn, show ¬ 38 ≤ b by omega, show ¬ 38 ≤ b + 1 by omega, or_self, if_false, ev_bd]
  rw [ev_b]
  refine ev_for (fun k q => q.1 = nI k ∧ FM [26] [] τ q.2 ∧ (∀ j, j < b ∨ b + 38 ≤ j → q.2 26 j = τ 26 j) ∧ q.2 26 b = τ 0 28 ∧ q.2 26 (b + 1) = τ 0 29 ∧ ∀ i, i < k → q.2 26 (b + 2 + i) = τ 13 i ∧ q.2 26 (b + 11 + i) = τ 14 i ∧ q.2 26 (b + 20 + i) = τ 15 i ∧ q.2 26 (b + 29 + i) = τ 16 i) 9 N _ (by omega) ⟨rfl, ((FM.refl _ _ _).w (by decide) (by decide)).w (by decide) (by decide), ?_, ?_, ?_, fun i hi => absurd hi (by omega)⟩ ?_ ?_
  · intro j hj
    simp [wr_eq, show j ≠ b by omega, show j ≠ b + 1 by omega]
  · simp [wr_eq]
  · simp [wr_eq]
  · rintro k ⟨a, σ'⟩ hk ⟨e1, hf, ho, h0, h1, hi⟩
    dsimp only at e1 hf ho h0 h1 hi
    subst e1
    have f13 := hf.1 13 (by decide) (by decide)
    have f14 := hf.1 14 (by decide) (by decide)
    have f15 := hf.1 15 (by decide) (by decide)
    have f16 := hf.1 16 (by decide) (by decide)
    refine Ev.imp (P := fun r => r.1 = 0 ∧ _) ?_ (fun r h => Or.inl h)
    unfold s_X12_pack_26_h18
    simp (disch := omega) only [show (9 : Int32) = nI 9 from rfl, show (2 : Int32) = nI 2 from rfl, show (18 : Int32) = nI 18 from rfl, show (27 : Int32) = nI 27 from rfl, nI_add, nI_le, nI_cl, nI_nn, show ¬ 9 ≤ k by omega, show ¬ 38 ≤ b + 2 + k by omega, show ¬ 38 ≤ b + 2 + 9 + k by omega, show ¬ 38 ≤ b + 2 + 18 + k by omega, show ¬ 38 ≤ b + 2 + 27 + k by omega, or_self, if_false, ev_bd, ev_s, nI_s, wr_n (show (13 : Nat) ≠ 26 by decide), wr_n (show (14 : Nat) ≠ 26 by decide), wr_n (show (15 : Nat) ≠ 26 by decide), wr_n (show (16 : Nat) ≠ 26 by decide), f13, f14, f15, f16]
    refine ⟨by trivial, by trivial, (((hf.w (by decide) (by decide)).w (by decide) (by decide)).w (by decide) (by decide)).w (by decide) (by decide), ?_, ?_, ?_, ?_⟩
    · intro j hj
      simp only [wr_eq, reduceIte, show j ≠ b + 2 + k by omega, show j ≠ b + 2 + 9 + k by omega, show j ≠ b + 2 + 18 + k by omega, show j ≠ b + 2 + 27 + k by omega]
      exact ho j hj
    · simp only [wr_eq, reduceIte, show b ≠ b + 2 + k by omega, show b ≠ b + 2 + 9 + k by omega, show b ≠ b + 2 + 18 + k by omega, show b ≠ b + 2 + 27 + k by omega]
      exact h0
    · simp only [wr_eq, reduceIte, show b + 1 ≠ b + 2 + k by omega, show b + 1 ≠ b + 2 + 9 + k by omega, show b + 1 ≠ b + 2 + 18 + k by omega, show b + 1 ≠ b + 2 + 27 + k by omega]
      exact h1
    · intro i hik
      simp only [wr_eq, reduceIte]
      by_cases h : i = k
      · subst h
        simp only [show b + 2 + i ≠ b + 2 + 9 + i by omega, show b + 2 + i ≠ b + 2 + 18 + i by omega, show b + 2 + i ≠ b + 2 + 27 + i by omega, show b + 11 + i = b + 2 + 9 + i by omega, show b + 20 + i = b + 2 + 18 + i by omega, show b + 29 + i = b + 2 + 27 + i by omega, show b + 2 + 9 + i ≠ b + 2 + 18 + i by omega, show b + 2 + 9 + i ≠ b + 2 + 27 + i by omega, show b + 2 + 18 + i ≠ b + 2 + 27 + i by omega, if_false, reduceIte]
        exact ⟨by trivial, by trivial, by trivial, by trivial⟩
      · have := hi i (by omega)
        simp only [show b + 2 + i ≠ b + 2 + k by omega, show b + 2 + i ≠ b + 2 + 9 + k by omega, show b + 2 + i ≠ b + 2 + 18 + k by omega, show b + 2 + i ≠ b + 2 + 27 + k by omega, show b + 11 + i ≠ b + 2 + k by omega, show b + 11 + i ≠ b + 2 + 9 + k by omega, show b + 11 + i ≠ b + 2 + 18 + k by omega, show b + 11 + i ≠ b + 2 + 27 + k by omega, show b + 20 + i ≠ b + 2 + k by omega, show b + 20 + i ≠ b + 2 + 9 + k by omega, show b + 20 + i ≠ b + 2 + 18 + k by omega, show b + 20 + i ≠ b + 2 + 27 + k by omega, show b + 29 + i ≠ b + 2 + k by omega, show b + 29 + i ≠ b + 2 + 9 + k by omega, show b + 29 + i ≠ b + 2 + 18 + k by omega, show b + 29 + i ≠ b + 2 + 27 + k by omega, if_false]
        exact this
  · rintro ⟨a, σ'⟩ ⟨e1, hf, ho, h0, h1, hi⟩
    dsimp only at e1 hf ho h0 h1 hi
    subst e1
    unfold s_X12_pack_26_h18
    simp (disch := omega) only [show (9 : Int32) = nI 9 from rfl, nI_le, Nat.le_refl, if_true, ev_s]
    refine ⟨by decide, ?_, ho, hf⟩
    rintro F s hF ⟨s0, s1, sx⟩
    refine ⟨h0.trans s0, h1.trans s1, ?_⟩
    intro i hiF
    have a1 := hi i (by omega)
    have a2 := sx i hiF
    rw [← a2.1, ← a2.2.1, ← a2.2.2.1, ← a2.2.2.2]
    exact a1
theorem PP.m_unpack_26 {N b : Nat} {τ : Sg} (hN : 20 < N) (hb : b + 38 ≤ 38) : Ev (f_X12_unpack_26 N (nI b) τ) (fun τ' => (∀ F s, F ≤ 9 → rowM F s (τ 26) b → SM F s τ') ∧ FM [13, 14, 15, 16] [28, 29] τ τ') := by
  unfold f_X12_unpack_26
  simp (disch := omega) only [nI_s, nI_cl, nI_nn, show ¬ 38 ≤ b by omega, show ¬ 38 ≤ b + 1 by omega, or_self, if_false, ev_bd, wr_n (show (26 : Nat) ≠ 0 by decide)]
  rw [ev_b]
  refine ev_for (fun k q => q.1 = nI k ∧ FM [13, 14, 15, 16] [28, 29] τ q.2 ∧ q.2 0 28 = τ 26 b ∧ q.2 0 29 = τ 26 (b + 1) ∧ ∀ i, i < k → q.2 13 i = τ 26 (b + 2 + i) ∧ q.2 14 i = τ 26 (b + 11 + i) ∧ q.2 15 i = τ 26 (b + 20 + i) ∧ q.2 16 i = τ 26 (b + 29 + i)) 9 N _ (by omega) ⟨rfl, ((FM.refl _ _ _).w0 (by decide)).w0 (by decide), ?_, ?_, fun i hi => absurd hi (by omega)⟩ ?_ ?_
  · simp [wr_eq]
  · simp [wr_eq]
  · rintro k ⟨a, σ'⟩ hk ⟨e1, hf, h0, h1, hi⟩
    dsimp only at e1 hf h0 h1 hi
    subst e1
    have fC := hf.1 26 (by decide) (by decide)
    refine Ev.imp (P := fun r => r.1 = 0 ∧ _) ?_ (fun r h => Or.inl h)
    unfold s_X12_unpack_26_h18
    simp (disch := omega) only [show (9 : Int32) = nI 9 from rfl, show (2 : Int32) = nI 2 from rfl, show (18 : Int32) = nI 18 from rfl, show (27 : Int32) = nI 27 from rfl, nI_add, nI_le, nI_cl, nI_nn, show ¬ 9 ≤ k by omega, show ¬ 38 ≤ b + 2 + k by omega, show ¬ 38 ≤ b + 2 + 9 + k by omega, show ¬ 38 ≤ b + 2 + 18 + k by omega, show ¬ 38 ≤ b + 2 + 27 + k by omega, or_self, if_false, ev_bd, ev_s, nI_s, wr_n (show (26 : Nat) ≠ 13 by decide), wr_n (show (26 : Nat) ≠ 14 by decide), wr_n (show (26 : Nat) ≠ 15 by decide), wr_n (show (26 : Nat) ≠ 16 by decide), fC]
    refine ⟨by trivial, by trivial, (((hf.w (by decide) (by decide)).w (by decide) (by decide)).w (by decide) (by decide)).w (by decide) (by decide), ?_, ?_, ?_⟩
    · simpa [wr_eq] using h0
    · simpa [wr_eq] using h1
    · intro i hik
      simp only [wr_eq, reduceIte, Nat.reduceEqDiff]
      by_cases h : i = k
      · subst h
        simp only [reduceIte]
        exact ⟨by trivial, by trivial, by trivial, by trivial⟩
      · have := hi i (by omega)
        simp only [h, reduceIte]
        exact this
  · rintro ⟨a, σ'⟩ ⟨e1, hf, h0, h1, hi⟩
    dsimp only at e1 hf h0 h1 hi
    subst e1
    unfold s_X12_unpack_26_h18
    simp (disch := omega) only [show (9 : Int32) = nI 9 from rfl, nI_le, Nat.le_refl, if_true, ev_s]
    refine ⟨by decide, ?_, hf⟩
    rintro F s hF ⟨s0, s1, sx⟩
    refine ⟨h0.trans s0, h1.trans s1, ?_⟩
    intro i hiF
    have a1 := hi i (by omega)
    have a2 := sx i hiF
    rw [a1.1, a1.2.1, a1.2.2.1, a1.2.2.2]
    exact a2
theorem PP.m_pack_30 {N b : Nat} {τ : Sg} (hN : 20 < N) (hb : b + 38 ≤ 38) : Ev (f_X12_pack_30 N (nI b) τ) (fun τ' => (∀ F s, F ≤ 9 → SM F s τ → rowM F s (τ' 30) b) ∧ (∀ j, j < b ∨ b + 38 ≤ j → τ' 30 j = τ 30 j) ∧ FM [30] [] τ τ') := by
  unfold f_X12_pack_30
  simp (disch := omega) only [nI_s, nI_cl, nI_nn, show ¬ 38 ≤ b by omega, show ¬ 38 ≤ b + 1 by omega, or_self, if_false, ev_bd]
  rw [ev_b]
  refine ev_for (fun k q => q.1 = nI k ∧ FM [30] [] τ q.2 ∧ (∀ j, j < b ∨ b + 38 ≤ j → q.2 30 j = τ 30 j) ∧ q.2 30 b = τ 0 28 ∧ q.2 30 (b + 1) = τ 0 29 ∧ ∀ i, i < k → q.2 30 (b + 2 + i) = τ 13 i ∧ q.2 30 (b + 11 + i) = τ 14 i ∧ q.2 30 (b + 20 + i) = τ 15 i ∧ q.2 30 (b + 29 + i) = τ 16 i) 9 N _ (by omega) ⟨rfl, ((FM.refl _ _ _).w (by decide) (by decide)).w (by decide) (by decide), ?_, ?_, ?_, fun i hi => absurd hi (by omega)⟩ ?_ ?_
  · intro j hj
    simp [wr_eq, show j ≠ b by omega, show j ≠ b + 1 by omega]
  · simp [wr_eq]
  · simp [wr_eq]
  · rintro k ⟨a, σ'⟩ hk ⟨e1, hf, ho, h0, h1, hi⟩
    dsimp only at e1 hf ho h0 h1 hi
    subst e1
    have f13 := hf.1 13 (by decide) (by decide)
    have f14 := hf.1 14 (by decide) (by decide)
    have f15 := hf.1 15 (by decide) (by decide)
    have f16 := hf.1 16 (by decide) (by decide)
    refine Ev.imp (P := fun r => r.1 = 0 ∧ _) ?_ (fun r h => Or.inl h)
    unfold s_X12_pack_30_h18
    simp (disch := omega) only [show (9 : Int32) = nI 9 from rfl, show (2 : Int32) = nI 2 from rfl, show (18 : Int32) = nI 18 from rfl, show (27 : Int32) = nI 27 from rfl, nI_add, nI_le, nI_cl, nI_nn, show ¬ 9 ≤ k by omega, show ¬ 38 ≤ b + 2 + k by omega, show ¬ 38 ≤ b + 2 + 9 + k by omega, show ¬ 38 ≤ b + 2 + 18 + k by omega, show ¬ 38 ≤ b + 2 + 27 + k by omega, or_self, if_false, ev_bd, ev_s, nI_s, wr_n (show (13 : Nat) ≠ 30 by decide), wr_n (show (14 : Nat) ≠ 30 by decide), wr_n (show (15 : Nat) ≠ 30 by decide), wr_n (show (16 : Nat) ≠ 30 by decide), f13, f14, f15, f16]
    refine ⟨by trivial, by trivial, (((hf.w (by decide) (by decide)).w (by decide) (by decide)).w (by decide) (by decide)).w (by decide) (by decide), ?_, ?_, ?_, ?_⟩
    · intro j hj
      simp only [wr_eq, reduceIte, show j ≠ b + 2 + k by omega, show j ≠ b + 2 + 9 + k by omega, show j ≠ b + 2 + 18 + k by omega, show j ≠ b + 2 + 27 + k by omega]
      exact ho j hj
    · simp only [wr_eq, reduceIte, show b ≠ b + 2 + k by omega, show b ≠ b + 2 + 9 + k by omega, show b ≠ b + 2 + 18 + k by omega, show b ≠ b + 2 + 27 + k by omega]
      exact h0
    · simp only [wr_eq, reduceIte, show b + 1 ≠ b + 2 + k by omega, show b + 1 ≠ b + 2 + 9 + k by omega, show b + 1 ≠ b + 2 + 18 + k by omega, show b + 1 ≠ b + 2 + 27 + k by omega]
      exact h1
    · intro i hik
      simp only [wr_eq, reduceIte]
      by_cases h : i = k
      · subst h
        simp only [show b + 2 + i ≠ b + 2 + 9 + i by omega, show b + 2 + i ≠ b + 2 + 18 + i by omega, show b + 2 + i ≠ b + 2 + 27 + i by omega, show b + 11 + i = b + 2 + 9 + i by omega, show b + 20 + i = b + 2 + 18 + i by omega, show b + 29 + i = b + 2 + 27 + i by omega, show b + 2 + 9 + i ≠ b + 2 + 18 + i by omega, show b + 2 + 9 + i ≠ b + 2 + 27 + i by omega, show b + 2 + 18 + i ≠ b + 2 + 27 + i by omega, if_false, reduceIte]
        exact ⟨by trivial, by trivial, by trivial, by trivial⟩
      · have := hi i (by omega)
        simp only [show b + 2 + i ≠ b + 2 + k by omega, show b + 2 + i ≠ b + 2 + 9 + k by omega, show b + 2 + i ≠ b + 2 + 18 + k by omega, show b + 2 + i ≠ b + 2 + 27 + k by omega, show b + 11 + i ≠ b + 2 + k by omega, show b + 11 + i ≠ b + 2 + 9 + k by omega, show b + 11 + i ≠ b + 2 + 18 + k by omega, show b + 11 + i ≠ b + 2 + 27 + k by omega, show b + 20 + i ≠ b + 2 + k by omega, show b + 20 + i ≠ b + 2 + 9 + k by omega, show b + 20 + i ≠ b + 2 + 18 + k by omega, show b + 20 + i ≠ b + 2 + 27 + k by omega, show b + 29 + i ≠ b + 2 + k by omega, show b + 29 + i ≠ b + 2 + 9 + k by omega, show b + 29 + i ≠ b + 2 + 18 + k by omega, show b + 29 + i ≠ b + 2 + 27 + k by omega, if_false]
        exact this
  · rintro ⟨a, σ'⟩ ⟨e1, hf, ho, h0, h1, hi⟩
    dsimp only at e1 hf ho h0 h1 hi
    subst e1
    unfold s_X12_pack_30_h18
    simp (disch := omega) only [show (9 : Int32) = nI 9 from rfl, nI_le, Nat.le_refl, if_true, ev_s]
    refine ⟨by decide, ?_, ho, hf⟩
    rintro F s hF ⟨s0, s1, sx⟩
    refine ⟨h0.trans s0, h1.trans s1, ?_⟩
    intro i hiF
    have a1 := hi i (by omega)
    have a2 := sx i hiF
    rw [← a2.1, ← a2.2.1, ← a2.2.2.1, ← a2.2.2.2]
    exact a1
theorem PP.m_unpack_30 {N b : Nat} {τ : Sg} (hN : 20 < N) (hb : b + 38 ≤ 38) : Ev (f_X12_unpack_30 N (nI b) τ) (fun τ' => (∀ F s, F ≤ 9 → rowM F s (τ 30) b → SM F s τ') ∧ FM [13, 14, 15, 16] [28, 29] τ τ') := by
  unfold f_X12_unpack_30
  simp (disch := omega) only [nI_s, nI_cl, nI_nn, show ¬ 38 ≤ b by omega, show ¬ 38 ≤ b + 1 by omega, or_self, if_false, ev_bd, wr_n (show (30 : Nat) ≠ 0 by decide)]
  rw [ev_b]
  refine ev_for (fun k q => q.1 = nI k ∧ FM [13, 14, 15, 16] [28, 29] τ q.2 ∧ q.2 0 28 = τ 30 b ∧ q.2 0 29 = τ 30 (b + 1) ∧ ∀ i, i < k → q.2 13 i = τ 30 (b + 2 + i) ∧ q.2 14 i = τ 30 (b + 11 + i) ∧ q.2 15 i = τ 30 (b + 20 + i) ∧ q.2 16 i = τ 30 (b + 29 + i)) 9 N _ (by omega) ⟨rfl, ((FM.refl _ _ _).w0 (by decide)).w0 (by decide), ?_, ?_, fun i hi => absurd hi (by omega)⟩ ?_ ?_
  · simp [wr_eq]
  · simp [wr_eq]
  · rintro k ⟨a, σ'⟩ hk ⟨e1, hf, h0, h1, hi⟩
    dsimp only at e1 hf h0 h1 hi
    subst e1
    have fC := hf.1 30 (by decide) (by decide)
    refine Ev.imp (P := fun r => r.1 = 0 ∧ _) ?_ (fun r h => Or.inl h)
    unfold s_X12_unpack_30_h18
    simp (disch := omega) only [show (9 : Int32) = nI 9 from rfl, show (2 : Int32) = nI 2 from rfl, show (18 : Int32) = nI 18 from rfl, show (27 : Int32) = nI 27 from rfl, nI_add, nI_le, nI_cl, nI_nn, show ¬ 9 ≤ k by omega, show ¬ 38 ≤ b + 2 + k by omega, show ¬ 38 ≤ b + 2 + 9 + k by omega, show ¬ 38 ≤ b + 2 + 18 + k by omega, show ¬ 38 ≤ b + 2 + 27 + k by omega, or_self, if_false, ev_bd, ev_s, nI_s, wr_n (show (30 : Nat) ≠ 13 by decide), wr_n (show (30 : Nat) ≠ 14 by decide), wr_n (show (30 : Nat) ≠ 15 by decide), wr_n (show (30 : Nat) ≠ 16 by decide), fC]
    refine ⟨by trivial, by trivial, (((hf.w (by decide) (by decide)).w (by decide) (by decide)).w (by decide) (by decide)).w (by decide) (by decide), ?_, ?_, ?_⟩
    · simpa [wr_eq] using h0
    · simpa [wr_eq] using h1
    · intro i hik
      simp only [wr_eq, reduceIte, Nat.reduceEqDiff]
      by_cases h : i = k
      · subst h
        simp only [reduceIte]
        exact ⟨by trivial, by trivial, by trivial, by trivial⟩
      · have := hi i (by omega)
        simp only [h, reduceIte]
        exact this
  · rintro ⟨a, σ'⟩ ⟨e1, hf, h0, h1, hi⟩
    dsimp only at e1 hf h0 h1 hi
    subst e1
    unfold s_X12_unpack_30_h18
    simp (disch := omega) only [show (9 : Int32) = nI 9 from rfl, nI_le, Nat.le_refl, if_true, ev_s]
    refine ⟨by decide, ?_, hf⟩
    rintro F s hF ⟨s0, s1, sx⟩
    refine ⟨h0.trans s0, h1.trans s1, ?_⟩
    intro i hiF
    have a1 := hi i (by omega)
    have a2 := sx i hiF
    rw [a1.1, a1.2.1, a1.2.2.1, a1.2.2.2]
    exact a2
