/-! ===== as the mist of the tick that comes lets one see ===== -/
abbrev PP.mn (a : Ab) : Int32 := mis a.2.1 (a.2.2.1.1 0 0)
abbrev PP.se (a : Ab) (i : Nat) : Int32 := sees a.1 a.2.1 (tp a.2.1 a.2.2.1.1) (mn a) i
theorem PP.c_mistNow {N : Nat} {a : Ab} {σ : Sg} (hO : OKa a) (hC : RlC a σ) : f_X11_mistNow_0 N σ = some (mn a, σ) := by
  unfold f_X11_mistNow_0
  have h0 : σ 22 0 = a.2.2.1.1 0 0 := hC.2.1.1.1
  rw [h0, c_mist hO.1 hC.1 hO.2.1.1.1.1.1, Option.bind_some]
theorem PP.c_ofn {N f : Nat} {a : Ab} {σ : Sg} (hO : OKa a) (hC : RlC a σ) (hf : f < a.1) : f_X6_of_47 N (nI f) (mn a) σ = some (se a f, σ) := by
  have hF := hO.1.1
  obtain ⟨m, hm, e⟩ := mis_ok hO.1 hO.2.1.1.1.1.1
  have h := hC.2.2.1.2 m f hm hf
  dsimp only [Nat.reduceAdd] at h
  show f_X6_of_47 N (nI f) (mis a.2.1 (a.2.2.1.1 0 0)) σ = some (sees a.1 a.2.1 (tp a.2.1 a.2.2.1.1) (mis a.2.1 (a.2.2.1.1 0 0)) f, σ)
  rw [e, c_of_47 (by omega) hm, h]
theorem PP.m_mi {a : Ab} {τ : Sg} (hM : RlM a τ) : Mi a.2.1 (τ 0 32) (τ 0 28) = mn a := by
  have h1 := hM.2.2.1
  have h2 : τ 0 28 = a.2.2.1.1 0 0 := hM.2.1.1.1
  unfold Mi
  rw [h1, h2, if_pos rfl]
theorem PP.m_t0 {a : Ab} {τ : Sg} (hO : OKa a) (hM : RlM a τ) : 0 ≤ τ 0 28 := by
  have h2 : τ 0 28 = a.2.2.1.1 0 0 := hM.2.1.1.1
  rw [h2]; exact hO.2.1.1.1.1.1
theorem PP.m_tp {a : Ab} {τ : Sg} (hM : RlM a τ) : ∀ k, k < a.1 → τ 6 k + τ 16 k = tp a.2.1 a.2.2.1.1 k := by
  intro k hk
  rw [(hM.1.2.2.2.2.2.2.1 k hk).2.1, (hM.2.1.1.2.2 k hk).2.2.2]; rfl
theorem PP.m_seesa {N f : Nat} {a : Ab} {τ : Sg} (hN : 20 < N) (hO : OKa a) (hM : RlM a τ) (hf : f < a.1) : f_X12_seesOf N (nI f) τ = some (se a f, τ) := m_sees hN hO.1 hM.1 (m_tp hM) (m_t0 hO hM) (m_mi hM) hf
theorem PP.has_se {a : Ab} {f o : Nat} (hO : OKa a) (ho : o < 32) : hasB (se a f) o ↔ o < a.1 ∧ sgt a.1 a.2.1 (tp a.2.1 a.2.2.1.1) (mn a) f o = true := by
  have hF := hO.1.1
  show hasB (mk _ _) o ↔ _
  rw [hasB_mk (by omega) ho]
theorem PP.m_sighta {N f o : Nat} {a : Ab} {τ : Sg} (hN : 20 < N) (hO : OKa a) (hM : RlM a τ) (hf : f < a.1) (ho : o < a.1) : f_X12_inSight N (nI f) (nI o) τ = some ((if hasB (se a f) o then 1 else 0), τ) := by
  have hF := hO.1.1
  rw [m_sight hN hO.1 hM.1 (m_tp hM) (m_t0 hO hM) (m_mi hM) hf ho]
  have e : hasB (se a f) o ↔ sgt a.1 a.2.1 (tp a.2.1 a.2.2.1.1) (mn a) f o = true := by
    rw [has_se hO (by omega)]; exact ⟨fun h => h.2, fun h => ⟨ho, h⟩⟩
  simp only [e]
theorem PP.se_sub {a : Ab} {f : Nat} (hO : OKa a) : sub a.1 (se a f) := sub_sees hO.1.1
theorem PP.ok_between {N : Nat} (hN : 5000 < N) : Ok_between N Rl := by
  rintro x y σ τ ⟨a, hO, hC, hM⟩
  have hF := hO.1.1
  have lC := hC.1.2.1
  have hM0 := hM.code 0
  have lM : (wr τ 0 2 0) 3 0 = nI a.1 := hM.1.2.1
  by_cases h : (0 ≤ x ∧ x < nI a.1) ∧ 0 ≤ y ∧ y < nI a.1
  · obtain ⟨f, hf, rfl⟩ := farm_n hF h.1
    obtain ⟨o, ho, rfl⟩ := farm_n hF h.2
    refine okS (a := a) (r := way a.1 a.2.1 (tp a.2.1 a.2.2.1.1) f o) (D := D1) hO (Or.inl ⟨rfl, rfl⟩) ?_ ?_
    · unfold f_X11_between_0
      rw [c_farms hF lC, Option.bind_some, if_pos h]
      dsimp only
      rw [if_pos rfl, c_way_47 (by omega) hO.1 hC.1 hC.2.2.1.1 hf ho, Option.bind_some, ev_s]
      exact ⟨rfl, rfl, hC⟩
    · unfold f_X12_between
      rw [ev_bd, m_isFarm hF lM, Option.bind_some, if_pos h.1]
      dsimp only
      rw [if_neg (by decide), m_isFarm hF lM, Option.bind_some, if_pos h.2]
      dsimp only
      rw [if_neg (by decide), m_way (by omega) hM0.1 (m_tp hM0) hf ho, Option.bind_some, ev_s]
      exact ⟨rfl, rfl, hM0⟩
  · refine okF (a := a) (cC := 1) (cM := 1) (D := D1) hO (by decide) (Or.inr ⟨rfl, rfl⟩) ?_ ?_
    · unfold f_X11_between_0
      rw [c_farms hF lC, Option.bind_some, if_neg h]
      dsimp only
      rw [if_neg (by decide), ev_s]
      exact ⟨rfl, hC⟩
    · unfold f_X12_between f_X12_between_b30 f_X12_fail
      rw [ev_bd]
      refine m_farms2 hO hM0 _ _ h _ ?_
      simp only [bd, Option.bind_some]
      rw [ev_s]
      exact ⟨rfl, hM0.code 1⟩
theorem PP.and_rc (x y z : Int32) : (x &&& y) &&& z = (x &&& z) &&& y := by
  rw [Int32.and_assoc, Int32.and_comm y z, ← Int32.and_assoc]
theorem PP.ok_hidden {N : Nat} (hN : 5000 < N) : Ok_hidden N Rl := by
  rintro x σ τ ⟨a, hO, hC, hM⟩
  have hF := hO.1.1
  have lC := hC.1.2.1
  have hM0 := hM.code 0
  have lM : (wr τ 0 2 0) 3 0 = nI a.1 := hM.1.2.1
  by_cases h : 0 ≤ x ∧ x < nI a.1
  · obtain ⟨f, hf, rfl⟩ := farm_n hF h
    refine okS (a := a) (r := (alF a.1 &&& (bit f ^^^ (-1))) &&& (se a f ^^^ (-1))) (D := D1) hO (Or.inl ⟨rfl, rfl⟩) ?_ ?_
    · unfold f_X11_hidden_0 f_X9_all_12
      rw [c_farm hF lC, Option.bind_some, if_pos h]
      dsimp only
      rw [if_pos rfl, Option.bind_some]
      dsimp only
      rw [c_mistNow hO hC, Option.bind_some]
      dsimp only
      rw [c_ofn hO hC hf, Option.bind_some, lC, ev_s]
      exact ⟨rfl, rfl, hC⟩
    · unfold f_X12_hidden f_X12_all
      rw [ev_bd, m_isFarm hF lM, Option.bind_some, if_pos h]
      dsimp only
      rw [if_neg (by decide), Option.bind_some]
      dsimp only
      rw [m_seesa (by omega) hO hM0 hf, Option.bind_some, lM, ev_s]
      exact ⟨rfl, and_rc _ _ _, hM0⟩
  · refine okF (a := a) (cC := 1) (cM := 1) (D := D1) hO (by decide) (Or.inr ⟨rfl, rfl⟩) ?_ ?_
    · unfold f_X11_hidden_0
      rw [c_farm hF lC, Option.bind_some, if_neg h]
      dsimp only
      rw [if_neg (by decide), ev_s]
      exact ⟨rfl, hC⟩
    · unfold f_X12_hidden f_X12_fail
      rw [ev_bd, m_isFarm hF lM, Option.bind_some, if_neg h]
      simp only [if_true, bd, Option.bind_some]
      rw [ev_s]
      exact ⟨rfl, hM0.code 1⟩
/-! which of a few numbers -/
theorem PP.sw_no {x : Int32} {n : Nat} (hn : n < 2147483648) : (x.toInt < 0 ∨ (n : Int) < x.toInt) ↔ ¬ (0 ≤ x ∧ x ≤ nI n) := by
  rw [Int32.le_iff_toInt_le, Int32.le_iff_toInt_le, nI_toInt hn]
  have : (0 : Int32).toInt = 0 := rfl
  rw [this]
  omega
theorem PP.gdn {k n : Nat} (h : k < n) (hn : n ≤ 2147483648) : ¬ (nI k < 0 ∨ n ≤ (nI k).toNatClampNeg) := fun x => (nI_g h hn).mp x
theorem PP.ok_farm {N : Nat} (hN : 5000 < N) : Ok_farm N Rl := by
  rintro x w σ τ ⟨a, hO, hC, hM⟩
  have hF := hO.1.1
  have lC := hC.1.2.1
  have hM0 := hM.code 0
  have lM : (wr τ 0 2 0) 3 0 = nI a.1 := hM.1.2.1
  have e9 : ∀ w : Int32, (w.toInt < 0 ∨ (9 : Int) < w.toInt) ↔ ¬ (0 ≤ w ∧ w ≤ nI 9) := fun w => sw_no (n := 9) (by omega)
  by_cases h : 0 ≤ x ∧ x < nI a.1
  · obtain ⟨f, hf, rfl⟩ := farm_n hF h
    by_cases hw : 0 ≤ w ∧ w ≤ nI 9
    · obtain ⟨n, hn1, hn2, rfl⟩ := in_n (lo := 0) (hi := 9) (by omega) hw (by omega)
      have xC := hC.1.2.2.2.2.2.2.1 f hf
      have xM := hM0.1.2.2.2.2.2.2.1 f hf
      have sC := hC.2.1.1.2.2.1 f hf
      have sM := hM0.2.1.1.2.2 f hf
      dsimp only [Nat.reduceAdd] at sC
      have s1 : σ 22 1 = a.2.2.1.1 0 1 := hC.2.1.1.2.1
      have m1 : (wr τ 0 2 0) 0 29 = a.2.2.1.1 0 1 := hM0.2.1.1.2.1
      have d5 := (hO.1.2.2.2.2.2.2.1 f hf).2.2.2
      have v8 : ((σ 12 5) >>> (nI f &&& 31)) &&& 1 = a.2.1 5 f := by
        rw [bit1]
        rcases d5 with d | d
        · rw [if_neg (fun hb => by rw [xC.2.2.2, d] at hb; exact absurd hb (by decide)), d]
        · rw [if_pos (xC.2.2.2.mpr d), d]
      refine okS (a := a) (r := if n = 0 then a.2.1 1 f else if n = 1 then a.2.1 2 f else if n = 2 then a.2.2.1.1 4 f else if n = 3 then a.2.1 3 f else if n = 4 then a.2.2.1.1 1 f else if n = 5 then a.2.2.1.1 2 f else if n = 6 then a.2.2.1.1 3 f else if n = 7 then ((a.2.2.1.1 0 1) >>> (nI f &&& 31)) &&& 1 else if n = 8 then a.2.1 5 f else se a f) (D := D1) hO (Or.inl ⟨rfl, rfl⟩) ?_ ?_
      · unfold f_X11_farm_0
        rw [c_farm hF lC, Option.bind_some, if_pos h]
        dsimp only
        rw [if_pos rfl, if_neg (fun hh => (e9 _).mp hh hw)]
        have hc : n = 0 ∨ n = 1 ∨ n = 2 ∨ n = 3 ∨ n = 4 ∨ n = 5 ∨ n = 6 ∨ n = 7 ∨ n = 8 ∨ n = 9 := by omega
        rcases hc with rfl | rfl | rfl | rfl | rfl | rfl | rfl | rfl | rfl | rfl
        · rw [if_pos (by decide), if_neg (gdn (by omega) (by omega)), nI_cl (by omega), ev_s]; exact ⟨rfl, xC.1, hC⟩
        · rw [if_neg (by decide), if_pos (by decide), if_neg (gdn (by omega) (by omega)), nI_cl (by omega), ev_s]; exact ⟨rfl, xC.2.1, hC⟩
        · rw [if_neg (by decide), if_neg (by decide), if_pos (by decide), if_neg (gdn (by omega) (by omega)), nI_cl (by omega), ev_s]; exact ⟨rfl, sC.2.2.2, hC⟩
        · rw [if_neg (by decide), if_neg (by decide), if_neg (by decide), if_pos (by decide), if_neg (gdn (by omega) (by omega)), nI_cl (by omega), ev_s]; exact ⟨rfl, xC.2.2.1, hC⟩
        · rw [if_neg (by decide), if_neg (by decide), if_neg (by decide), if_neg (by decide), if_pos (by decide), if_neg (gdn (by omega) (by omega)), nI_cl (by omega), ev_s]; exact ⟨rfl, sC.1, hC⟩
        · rw [if_neg (by decide), if_neg (by decide), if_neg (by decide), if_neg (by decide), if_neg (by decide), if_pos (by decide), if_neg (gdn (by omega) (by omega)), nI_cl (by omega), ev_s]; exact ⟨rfl, sC.2.1, hC⟩
        · rw [if_neg (by decide), if_neg (by decide), if_neg (by decide), if_neg (by decide), if_neg (by decide), if_neg (by decide), if_pos (by decide), if_neg (gdn (by omega) (by omega)), nI_cl (by omega), ev_s]; exact ⟨rfl, sC.2.2.1, hC⟩
        · rw [if_neg (by decide), if_neg (by decide), if_neg (by decide), if_neg (by decide), if_neg (by decide), if_neg (by decide), if_neg (by decide), if_pos (by decide), ev_s, s1]; exact ⟨rfl, rfl, hC⟩
        · rw [if_neg (by decide), if_neg (by decide), if_neg (by decide), if_neg (by decide), if_neg (by decide), if_neg (by decide), if_neg (by decide), if_neg (by decide), if_pos (by decide), ev_s, v8]; exact ⟨rfl, rfl, hC⟩
        · rw [if_neg (by decide), if_neg (by decide), if_neg (by decide), if_neg (by decide), if_neg (by decide), if_neg (by decide), if_neg (by decide), if_neg (by decide), if_neg (by decide), if_pos (by decide), c_mistNow hO hC, Option.bind_some]
          dsimp only
          rw [c_ofn hO hC hf, Option.bind_some, ev_s]; exact ⟨rfl, rfl, hC⟩
      · unfold f_X12_farm
        rw [ev_bd, m_isFarm hF lM, Option.bind_some, if_pos h]
        dsimp only
        rw [if_neg (by decide), if_neg (fun hh => (e9 _).mp hh hw)]
        have hc : n = 0 ∨ n = 1 ∨ n = 2 ∨ n = 3 ∨ n = 4 ∨ n = 5 ∨ n = 6 ∨ n = 7 ∨ n = 8 ∨ n = 9 := by omega
        rcases hc with rfl | rfl | rfl | rfl | rfl | rfl | rfl | rfl | rfl | rfl
        · rw [if_pos (by decide), if_neg (gdn (by omega) (by omega)), nI_cl (by omega), ev_s]; exact ⟨rfl, xM.1, hM0⟩
        · rw [if_neg (by decide), if_pos (by decide), if_neg (gdn (by omega) (by omega)), nI_cl (by omega), ev_s]; exact ⟨rfl, xM.2.1, hM0⟩
        · rw [if_neg (by decide), if_neg (by decide), if_pos (by decide), if_neg (gdn (by omega) (by omega)), nI_cl (by omega), ev_s]; exact ⟨rfl, sM.2.2.2, hM0⟩
        · rw [if_neg (by decide), if_neg (by decide), if_neg (by decide), if_pos (by decide), if_neg (gdn (by omega) (by omega)), nI_cl (by omega), ev_s]; exact ⟨rfl, xM.2.2.1, hM0⟩
        · rw [if_neg (by decide), if_neg (by decide), if_neg (by decide), if_neg (by decide), if_pos (by decide), if_neg (gdn (by omega) (by omega)), nI_cl (by omega), ev_s]; exact ⟨rfl, sM.1, hM0⟩
        · rw [if_neg (by decide), if_neg (by decide), if_neg (by decide), if_neg (by decide), if_neg (by decide), if_pos (by decide), if_neg (gdn (by omega) (by omega)), nI_cl (by omega), ev_s]; exact ⟨rfl, sM.2.1, hM0⟩
        · rw [if_neg (by decide), if_neg (by decide), if_neg (by decide), if_neg (by decide), if_neg (by decide), if_neg (by decide), if_pos (by decide), if_neg (gdn (by omega) (by omega)), nI_cl (by omega), ev_s]; exact ⟨rfl, sM.2.2.1, hM0⟩
        · rw [if_neg (by decide), if_neg (by decide), if_neg (by decide), if_neg (by decide), if_neg (by decide), if_neg (by decide), if_neg (by decide), if_pos (by decide), ev_s, m1]; exact ⟨rfl, rfl, hM0⟩
        · rw [if_neg (by decide), if_neg (by decide), if_neg (by decide), if_neg (by decide), if_neg (by decide), if_neg (by decide), if_neg (by decide), if_neg (by decide), if_pos (by decide), if_neg (gdn (by omega) (by omega)), nI_cl (by omega), ev_s]; exact ⟨rfl, xM.2.2.2, hM0⟩
        · rw [if_neg (by decide), if_neg (by decide), if_neg (by decide), if_neg (by decide), if_neg (by decide), if_neg (by decide), if_neg (by decide), if_neg (by decide), if_neg (by decide), if_pos (by decide), m_seesa (by omega) hO hM0 hf, Option.bind_some, ev_s]; exact ⟨rfl, rfl, hM0⟩
    · refine okF (a := a) (cC := 1) (cM := 1) (D := D1) hO (by decide) (Or.inr ⟨rfl, rfl⟩) ?_ ?_
      · unfold f_X11_farm_0
        rw [c_farm hF lC, Option.bind_some, if_pos h]
        dsimp only
        rw [if_pos rfl, if_pos ((e9 _).mpr hw), ev_s]
        exact ⟨rfl, hC⟩
      · unfold f_X12_farm f_X12_fail
        rw [ev_bd, m_isFarm hF lM, Option.bind_some, if_pos h]
        dsimp only
        rw [if_neg (by decide), if_pos ((e9 _).mpr hw)]
        simp only [bd, Option.bind_some]
        rw [ev_s]
        exact ⟨rfl, hM0.code 1⟩
  · refine okF (a := a) (cC := 1) (cM := 1) (D := D1) hO (by decide) (Or.inr ⟨rfl, rfl⟩) ?_ ?_
    · unfold f_X11_farm_0
      rw [c_farm hF lC, Option.bind_some, if_neg h]
      dsimp only
      rw [if_neg (by decide), ev_s]
      exact ⟨rfl, hC⟩
    · unfold f_X12_farm f_X12_fail
      rw [ev_bd, m_isFarm hF lM, Option.bind_some, if_neg h]
      simp only [if_true, bd, Option.bind_some]
      rw [ev_s]
      exact ⟨rfl, hM0.code 1⟩
/-! ===== the next ones ===== -/
def PP.nx (g : Nat → Int32) (w : Int32) : Nat → Int32
  | 0 => w
  | k + 1 => if hasB w k then nx g w k ||| g k else nx g w k
theorem PP.nx_s (g : Nat → Int32) (w : Int32) (k : Nat) : nx g w (k + 1) = if hasB w k then nx g w k ||| g k else nx g w k := rfl
def PP.itn (φ : Int32 → Int32) (w : Int32) : Nat → Int32
  | 0 => w
  | k + 1 => φ (itn φ w k)
theorem PP.itn_s (φ : Int32 → Int32) (w : Int32) (k : Nat) : itn φ w (k + 1) = φ (itn φ w k) := rfl
abbrev PP.nxa (a : Ab) (w : Int32) : Int32 := nx (se a) w a.1
theorem PP.c_views {N : Nat} {a : Ab} {σ : Sg} (hN : 20 < N) (hO : OKa a) (hC : RlC a σ) : Ev (f_X11_viewsNow_0 N σ) (fun σ' => RlC a σ' ∧ ∀ i, i < a.1 → σ' 54 i = se a i) := by
  have hF := hO.1.1
  unfold f_X11_viewsNow_0 f_X10_take_53_47
  rw [c_mistNow hO hC, Option.bind_some]
  dsimp only
  rw [ev_b, ev_b]
  refine ev_lp (fun k q => q.1 = nI k ∧ RlC a q.2 ∧ ∀ i, i < k → q.2 54 i = se a i) a.1 N _ (by omega) ⟨rfl, hC, fun i hi => absurd hi (by omega)⟩ ?_
  rintro k ⟨_, σ1⟩ hk ⟨e, hR, hi⟩
  dsimp only at e hR hi
  subst e
  have l1 := hR.1.2.1
  unfold s_X10_take_53_47_h2
  dsimp only
  by_cases hkF : k = a.1
  · subst hkF
    rw [if_pos (by rw [l1]; exact Int32.le_refl _), ev_s]
    exact Or.inr ⟨Nat.one_ne_zero, ev_s.mpr (ev_s.mpr ⟨hR, hi⟩)⟩
  · rw [if_neg (by rw [l1, nI_le (by omega) (by omega)]; omega), c_ofn hO hR (by omega), Option.bind_some]
    simp (disch := omega) only [nI_g, if_false]
    simp (disch := omega) only [nI_cl]
    rw [ev_bd, ev_bd, ev_s]
    refine Or.inl ⟨rfl, by omega, nI_s _, hR.q ((Fr.refl _ _).wr (by decide)), fun i hik => ?_⟩
    dsimp only
    rw [wr_e]
    by_cases h : i = k
    · subst h; rw [upd_e]
    · rw [upd_n h]; exact hi i (by omega)
theorem PP.c_next {N : Nat} {a : Ab} {σ : Sg} {w : Int32} (hN : 20 < N) (hO : OKa a) (hC : RlC a σ) (hv : ∀ i, i < a.1 → σ 54 i = se a i) : f_X10_withNext_53 N w σ = some (nxa a w, σ) := by
  have hF := hO.1.1
  have l1 := hC.1.2.1
  unfold f_X10_withNext_53
  rw [← ev_eq, ev_b]
  refine ev_lp (fun k q => q = (nx (se a) w k, nI k, σ)) a.1 N _ (by omega) rfl ?_
  rintro k _ hk rfl
  unfold s_X10_withNext_53_h4 f_X10_withNext_53_b33
  dsimp only
  by_cases hkF : k = a.1
  · subst hkF
    rw [if_pos (by rw [l1]; exact Int32.le_refl _), ev_s]
    exact Or.inr ⟨Nat.one_ne_zero, ev_s.mpr rfl⟩
  · rw [if_neg (by rw [l1, nI_le (by omega) (by omega)]; omega), ev_i]
    refine ⟨fun h => ?_, fun h => ?_⟩
    · simp (disch := omega) only [nI_g, if_false]
      simp (disch := omega) only [nI_cl, hv k (show k < a.1 by omega)]
      rw [ev_bd, ev_bd, ev_s]
      exact Or.inl ⟨rfl, by omega, by rw [nx_s, if_pos h, nI_s]⟩
    · rw [ev_bd, ev_s]
      exact Or.inl ⟨rfl, by omega, by rw [nx_s, if_neg h, nI_s]⟩
theorem PP.ok_way {N : Nat} (hN : 5000 < N) : Ok_way N Rl := by
  rintro x y σ τ ⟨a, hO, hC, hM⟩
  have hF := hO.1.1
  have lC := hC.1.2.1
  have hM0 := hM.code 0
  have lM : (wr τ 0 2 0) 3 0 = nI a.1 := hM.1.2.1
  by_cases h : (0 ≤ x ∧ x < nI a.1) ∧ 0 ≤ y ∧ y < nI a.1
  · obtain ⟨f, hf, rfl⟩ := farm_n hF h.1
    obtain ⟨o, ho, rfl⟩ := farm_n hF h.2
    refine okS (a := a) (r := fsp (fun k => decide (hasB (itn (nxa a) (bit f) k) o)) 0 9) (D := D1) hO (Or.inl ⟨rfl, rfl⟩) ?_ ?_
    · unfold f_X11_way_0 f_X10_steps_53
      rw [c_farms hF lC, Option.bind_some, if_pos h]
      dsimp only
      rw [if_pos rfl]
      refine (c_views (by omega) hO hC).bind ?_
      rintro σ1 ⟨hR, hv⟩
      rw [ev_b, ev_bd, ev_b]
      refine ev_lp (fun k q => q = (itn (nxa a) (bit f) k, nI k, σ1) ∧ fsp (fun k => decide (hasB (itn (nxa a) (bit f) k) o)) 0 k = -1) 9 N _ (by omega) ⟨rfl, rfl⟩ ?_
      rintro k _ hk ⟨rfl, hfs⟩
      unfold s_X10_steps_53_h7
      dsimp only
      by_cases hk9 : k = 9
      · subst hk9
        rw [if_pos (by decide), ev_s]
        refine Or.inr ⟨by simp, ?_⟩
        dsimp only
        rw [if_neg (by decide), ev_s, ev_s]
        exact ⟨rfl, hfs.symm, hR⟩
      · rw [if_neg (by rw [show (9 : Int32) = nI 9 from rfl, nI_le (by omega) (by omega)]; omega), ev_i]
        refine ⟨fun hb => ?_, fun hb => ?_⟩
        · rw [ev_s]
          refine Or.inr ⟨by simp, ?_⟩
          dsimp only
          rw [if_pos rfl, ev_s, ev_s]
          exact ⟨rfl, (fsp_hit (d := 0) (by omega) hfs (decide_eq_true hb) (by omega)).symm, hR⟩
        · rw [c_next (by omega) hO hR hv, Option.bind_some, ev_bd, ev_bd, ev_s]
          refine Or.inl ⟨rfl, by omega, ?_, ?_⟩
          · rw [itn_s, nI_s]
          · rw [fsp_s, if_pos hfs, if_neg (fun h => hb (of_decide_eq_true h))]
    · unfold f_X12_way
      rw [ev_bd, m_isFarm hF lM, Option.bind_some, if_pos h.1]
      dsimp only
      rw [if_neg (by decide), m_isFarm hF lM, Option.bind_some, if_pos h.2]
      dsimp only
      rw [if_neg (by decide), ev_bd, ev_b]
      refine ev_lp (fun k q => q = (itn (nxa a) (bit f) k, nI k, wr τ 0 2 0) ∧ fsp (fun k => decide (hasB (itn (nxa a) (bit f) k) o)) 0 k = -1) 9 N _ (by omega) ⟨rfl, rfl⟩ ?_
      rintro k _ hk ⟨rfl, hfs⟩
      unfold s_X12_way_h34
      dsimp only
      by_cases hk9 : k = 9
      · subst hk9
        rw [if_pos (by decide), ev_s]
        refine Or.inr ⟨by simp, ?_⟩
        dsimp only
        rw [if_neg (by decide), ev_s]
        exact ⟨rfl, hfs.symm, hM0⟩
      · rw [if_neg (by rw [show (9 : Int32) = nI 9 from rfl, nI_le (by omega) (by omega)]; omega), m_isOf, Option.bind_some]
        dsimp only
        by_cases hb : hasB (itn (nxa a) (bit f) k) o
        · rw [if_pos hb, if_neg (by decide), ev_s]
          refine Or.inr ⟨by simp, ?_⟩
          dsimp only
          rw [if_pos rfl, ev_s]
          exact ⟨rfl, (fsp_hit (d := 0) (by omega) hfs (decide_eq_true hb) (by omega)).symm, hM0⟩
        · rw [if_neg hb, if_pos rfl]
          refine Ev.bind (P := fun z => z.2 = (itn (nxa a) (bit f) (k + 1), 0, wr τ 0 2 0)) ?_ ?_
          · refine ev_lp (fun j q => q = (nx (se a) (itn (nxa a) (bit f) k) j, nI j, wr τ 0 2 0)) a.1 N _ (by omega) rfl ?_
            rintro j _ hj rfl
            unfold s_X12_way_h58 f_X12_way_b90
            dsimp only
            by_cases hjF : j = a.1
            · subst hjF
              rw [if_pos (by rw [lM]; exact Int32.le_refl _), ev_s]
              exact Or.inr ⟨Nat.one_ne_zero, by dsimp only; rw [itn_s]⟩
            · rw [if_neg (by rw [lM, nI_le (by omega) (by omega)]; omega), m_isOf, Option.bind_some]
              dsimp only
              by_cases hb2 : hasB (itn (nxa a) (bit f) k) j
              · rw [if_pos hb2, if_neg (by decide), m_seesa (by omega) hO hM0 (by omega), Option.bind_some, ev_bd, ev_bd, ev_s]
                exact Or.inl ⟨rfl, by omega, by rw [nx_s, if_pos hb2, nI_s]⟩
              · rw [if_neg hb2, if_pos rfl, ev_bd, ev_bd, ev_s]
                exact Or.inl ⟨rfl, by omega, by rw [nx_s, if_neg hb2, nI_s, Int32.or_zero]⟩
          · rintro ⟨z1, z2, z3, τ1⟩ e
            cases e
            rw [ev_bd, ev_bd, ev_s]
            exact Or.inl ⟨rfl, by omega, by rw [nI_s], by rw [fsp_s, if_pos hfs, if_neg (fun h => hb (of_decide_eq_true h))]⟩
  · refine okF (a := a) (cC := 1) (cM := 1) (D := D1) hO (by decide) (Or.inr ⟨rfl, rfl⟩) ?_ ?_
    · unfold f_X11_way_0
      rw [c_farms hF lC, Option.bind_some, if_neg h]
      dsimp only
      rw [if_neg (by decide), ev_s]
      exact ⟨rfl, hC⟩
    · unfold f_X12_way f_X12_way_b21 f_X12_fail
      rw [ev_bd]
      refine m_farms2 hO hM0 _ _ h _ ?_
      simp only [bd, Option.bind_some]
      rw [ev_s]
      exact ⟨rfl, hM0.code 1⟩
