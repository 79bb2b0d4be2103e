theorem PP.okSP {a : Ab} {R : Int32 → Prop} {o : Option Zt} {p : Option (Int32 × Sg)} {D : Nat → Int32 → Prop} (ho : OKa a) (hD : D 0 0) (hu : ∀ x y, R x → R y → x = y) (h1 : Ev o (fun z => z.1 = 0 ∧ R z.2.1 ∧ RlC a z.2.2)) (h2 : Ev p (fun q => q.2 0 2 = 0 ∧ R q.1 ∧ RlM a q.2)) : ∃ (z : Zt) (r : Int32) (τ' : Sg), o = some z ∧ p = some (r, τ') ∧ D z.1 (τ' 0 2) ∧ (z.1 = 0 → z.2.1 = r) ∧ Rl z.2.2 τ' := by
  obtain ⟨⟨c, x, σ'⟩, e1, a1, a2, a3⟩ := h1
  obtain ⟨⟨y, τ'⟩, e2, b1, b2, b3⟩ := h2
  dsimp only at a1 a2 a3 b1 b2 b3
  refine ⟨_, _, _, e1, e2, ?_, fun _ => hu x y a2 b2, ⟨a, ho, a3, b3⟩⟩
  dsimp only
  rw [a1, b1]; exact hD
/-! two farms are asked for -/
theorem PP.m_farms2 {N : Nat} {a : Ab} {x y : Int32} {τ : Sg} (hO : OKa a) (hM : RlM a τ) (k1 : Int32 × Sg → Option (Int32 × Sg)) (k2 : Int32 × Sg → Int32 × Sg → Option (Int32 × Sg)) (h : ¬ ((0 ≤ x ∧ x < nI a.1) ∧ 0 ≤ y ∧ y < nI a.1)) (P : Int32 × Sg → Prop) (hk : Ev (k1 (0, τ)) P) : Ev ((f_X12_isFarm N x τ).bind fun q => if q.1 = 0 then k1 q else (f_X12_isFarm N y q.2).bind fun q' => if q'.1 = 0 then k1 q' else k2 q q') P := by
  have hF := hO.1.1
  have lM : τ 3 0 = nI a.1 := hM.1.2.1
  rw [m_isFarm hF lM, Option.bind_some]
  dsimp only
  by_cases hx : 0 ≤ x ∧ x < nI a.1
  · rw [if_pos hx, if_neg (by decide), m_isFarm hF lM, Option.bind_some]
    dsimp only
    rw [if_neg (fun hy => h ⟨hx, hy⟩), if_pos rfl]; exact hk
  · rw [if_neg hx, if_pos rfl]; exact hk
theorem PP.ok_reaches {N : Nat} (hN : 5000 < N) : Ok_reaches N Rl := by
  rintro x y σ τ ⟨a, hO, hC, hM⟩
  have hF := hO.1.1
  have lC := hC.1.2.1
  have hM0 := hM.code 0
  have lM : (wr τ 0 2 0) 3 0 = nI a.1 := hM.1.2.1
  by_cases h : (0 ≤ x ∧ x < nI a.1) ∧ 0 ≤ y ∧ y < nI a.1
  · obtain ⟨f, hf, rfl⟩ := farm_n hF h.1
    obtain ⟨o, ho, rfl⟩ := farm_n hF h.2
    refine okS (a := a) (r := fsp (pn a.1 a.2.1 (sA a.1 a.2.2.1.1 (bit f)) o) 1 60) (D := D1) hO (Or.inl ⟨rfl, rfl⟩) ?_ ?_
    · unfold f_X11_reaches_0
      rw [c_farms hF lC, Option.bind_some, if_pos h]
      dsimp only
      rw [if_pos rfl]
      refine (c_anew (by omega) hF hC.1 hC.2.2.1 hC.2.1.1).bind ?_
      rintro σ1 ⟨hX, hf1⟩
      refine (c_firstg hN hO.1 (sA_ok hO.2.1.1.1) hO.2.1.1.2 (by omega) hX).bind ?_
      rintro ⟨r, σ2⟩ ⟨e, hf2⟩
      rw [ev_s]
      exact ⟨rfl, e, hC.q ((hf1.mo (by decide)).tr (hf2.mo (by decide)))⟩
    · unfold f_X12_reaches
      rw [ev_bd, m_isFarm hF lM, Option.bind_some, if_pos h.1]
      dsimp only
      rw [if_neg (by decide), m_isFarm hF lM, Option.bind_some, if_pos h.2]
      dsimp only
      rw [if_neg (by decide), show (60 : Int32) = nI 60 from rfl]
      refine (m_reachIn hN hO hM0 (by omega)).bind ?_
      rintro ⟨r, τ1⟩ ⟨e, hR1, hc1⟩
      dsimp only at e hR1 hc1 ⊢
      subst e
      by_cases hb : hasB (rch a.1 a.2.1 (sA a.1 a.2.2.1.1 (bit f)) 60) o
      · rw [if_pos hb, if_neg (by decide), ev_b]
        refine ev_lp (fun k q => ∃ l m, 1 ≤ l ∧ l ≤ m ∧ m ≤ 60 ∧ m - l + k ≤ 59 ∧ q.1 = nI l ∧ q.2.1 = nI m ∧ hasB (rch a.1 a.2.1 (sA a.1 a.2.2.1.1 (bit f)) m) o ∧ (∀ j, j < l → ¬ hasB (rch a.1 a.2.1 (sA a.1 a.2.2.1.1 (bit f)) j) o) ∧ RlM a q.2.2 ∧ q.2.2 0 2 = 0) 60 N _ (by omega) ⟨1, 60, by omega, by omega, by omega, by omega, rfl, rfl, hb, ?_, hR1, hc1.trans rfl⟩ ?_
        · intro j hj
          have : j = 0 := by omega
          subst this
          exact hasB_0 (by omega)
        rintro k ⟨_, _, τ2⟩ hk ⟨l, m, h1, h2, h3, h4, e1, e2, hm, hl, hR2, hc2⟩
        dsimp only at e1 e2 hR2 hc2
        subst e1 e2
        unfold s_X12_reaches_h46 f_X12_reaches_b83
        dsimp only
        by_cases hlm : l = m
        · subst hlm
          rw [if_pos (Int32.le_refl _), ev_s]
          refine Or.inr ⟨Nat.one_ne_zero, ev_s.mpr ⟨hc2, ?_, hR2⟩⟩
          dsimp only
          obtain ⟨i, hi, hbi⟩ := (has_rch (by omega) l).mp hm
          have hi' : i = l - 1 := by
            by_cases e : i = l - 1
            · exact e
            · exact absurd ((has_rch (by omega) (l - 1)).mpr ⟨i, by omega, hbi⟩) (hl (l - 1) (by omega))
          have := fsp_hit (p := pn a.1 a.2.1 (sA a.1 a.2.2.1.1 (bit f)) o) (d := 1) (k := i) (n := 60) (by omega) (fsp_none i fun j hj => decide_eq_false fun hbj => hl (l - 1) (by omega) ((has_rch (by omega) (l - 1)).mpr ⟨j, by omega, hbj⟩)) (decide_eq_true hbi) (by omega)
          rw [this, hi', show l - 1 + 1 = l by omega]
        · rw [if_neg (by rw [nI_le (by omega) (by omega)]; omega), ev_bd, nI_add, show (2 : Int32) = nI 2 from rfl, nI_div (by omega) (by omega)]
          refine (m_reachIn hN hO hR2 (by omega)).bind ?_
          rintro ⟨r, τ3⟩ ⟨e, hR3, hc3⟩
          dsimp only at e hR3 hc3 ⊢
          subst e
          by_cases hq : hasB (rch a.1 a.2.1 (sA a.1 a.2.2.1.1 (bit f)) ((l + m) / 2)) o
          · rw [if_pos hq, if_neg (by decide), ev_s]
            exact Or.inl ⟨rfl, by omega, l, (l + m) / 2, by omega, by omega, by omega, by omega, rfl, rfl, hq, hl, hR3, hc3.trans hc2⟩
          · rw [if_neg hq, if_pos rfl, ev_bd, ev_s]
            refine Or.inl ⟨rfl, by omega, (l + m) / 2 + 1, m, by omega, by omega, by omega, by omega, nI_s _, rfl, hm, ?_, hR3, hc3.trans hc2⟩
            intro j hj hbj
            refine hq ?_
            rw [has_rch (by omega)] at hbj ⊢
            obtain ⟨i, hi, hbi⟩ := hbj
            exact ⟨i, by omega, hbi⟩
      · rw [if_neg hb, if_pos rfl, ev_s]
        exact ⟨hc1.trans rfl, ((fsp_rch (by omega)).mpr hb).symm, hR1⟩
  · refine okF (a := a) (cC := 1) (cM := 1) (D := D1) hO (by decide) (Or.inr ⟨rfl, rfl⟩) ?_ ?_
    · unfold f_X11_reaches_0
      rw [c_farms hF lC, Option.bind_some, if_neg h]
      dsimp only
      rw [if_neg (by decide), ev_s]
      exact ⟨rfl, hC⟩
    · unfold f_X12_reaches f_X12_reaches_b21 f_X12_fail
      rw [ev_bd]
      refine m_farms2 hO hM0 _ _ h _ ?_
      simp only [bd, Option.bind_some]
      rw [ev_s]
      exact ⟨rfl, hM0.code 1⟩
theorem PP.ok_reached {N : Nat} (hN : 5000 < N) : Ok_reached N Rl := by
  rintro x n σ τ ⟨a, hO, hC, hM⟩
  have hF := hO.1.1
  have lC := hC.1.2.1
  have hM0 := hM.code 0
  have lM : (wr τ 0 2 0) 3 0 = nI a.1 := hM.1.2.1
  by_cases h : 0 ≤ x ∧ x < nI a.1
  · obtain ⟨f, hf, rfl⟩ := farm_n hF h
    by_cases hn : 0 ≤ n ∧ n ≤ 60
    · obtain ⟨n, hn1, hn2, rfl⟩ := in_n (lo := 0) (hi := 60) (by omega) hn (by omega)
      refine okS (a := a) (r := rch a.1 a.2.1 (sA a.1 a.2.2.1.1 (bit f)) n) (D := D3) hO (Or.inl ⟨rfl, rfl⟩) ?_ ?_
      · unfold f_X11_reached_0
        rw [c_farm hF lC, Option.bind_some, if_pos h]
        dsimp only
        rw [if_pos rfl, c_within, Option.bind_some, if_pos hn]
        dsimp only
        rw [if_pos rfl]
        refine (c_reachedBy hN hO hC hn2).bind ?_
        rintro ⟨r, σ1⟩ ⟨e, hR⟩
        rw [ev_s]
        exact ⟨rfl, e, hR⟩
      · unfold f_X12_reached
        rw [ev_bd, m_isFarm hF lM, Option.bind_some, if_pos h]
        dsimp only
        rw [if_neg (by decide), e0i, e60i, m_isIn, Option.bind_some, if_pos hn]
        dsimp only
        rw [if_neg (by decide)]
        refine (m_reacha hN hO hM0 hn2).bind ?_
        rintro ⟨r, τ1⟩ ⟨e, hR, hc⟩
        rw [ev_s]
        exact ⟨hc.trans rfl, e, hR⟩
    · refine okF (a := a) (cC := 2) (cM := 2) (D := D3) hO (by decide) (Or.inr (Or.inr ⟨rfl, rfl⟩)) ?_ ?_
      · unfold f_X11_reached_0
        rw [c_farm hF lC, Option.bind_some, if_pos h]
        dsimp only
        rw [if_pos rfl, c_within, Option.bind_some, if_neg hn]
        dsimp only
        rw [if_neg (by decide), ev_s]
        exact ⟨rfl, hC⟩
      · unfold f_X12_reached f_X12_fail
        rw [ev_bd, m_isFarm hF lM, Option.bind_some, if_pos h]
        dsimp only
        rw [if_neg (by decide), e0i, e60i, m_isIn, Option.bind_some, if_neg hn]
        simp only [if_true, bd, Option.bind_some]
        rw [ev_s]
        exact ⟨rfl, hM0.code 2⟩
  · refine okF (a := a) (cC := 1) (cM := 1) (D := D3) hO (by decide) (Or.inr (Or.inl ⟨rfl, rfl⟩)) ?_ ?_
    · unfold f_X11_reached_0
      rw [c_farm hF lC, Option.bind_some, if_neg h]
      dsimp only
      rw [if_neg (by decide), ev_s]
      exact ⟨rfl, hC⟩
    · unfold f_X12_reached f_X12_fail
      rw [ev_bd, m_isFarm hF lM, Option.bind_some, if_neg h]
      simp only [if_true, bd, Option.bind_some]
      rw [ev_s]
      exact ⟨rfl, hM0.code 1⟩
/-! ===== by whose sleep a nod doesn't come through ===== -/
def PP.sZ (s : Sg) (k : Nat) : Sg := stt (s 0 0) (s 0 1 ||| bit k) (s 1) (s 2) (s 3) (s 4)
theorem PP.tp_sA (F : Nat) (L s : Sg) (w : Int32) : tp L (sA F s w) = tp L s := rfl
theorem PP.tp_sZ (L s : Sg) (k : Nat) : tp L (sZ s k) = tp L s := rfl
theorem PP.sZA_ok {F k : Nat} {s : Sg} {who : Int32} (hF : F ≤ 9) (hk : k < F) (h : StOK F s) : StOK F (sA F (sZ s k) who) := by
  obtain ⟨h1, h2, h3⟩ := h
  refine ⟨h1, ?_, ?_⟩
  · show sub F (s 0 1 ||| bit k)
    intro i hi hFi hb
    rw [hasB_or hi, hasB_bit (by omega) hi] at hb
    rcases hb with hb | hb
    · exact h2 i hi hFi hb
    · omega
  intro i hi
  obtain ⟨a1, a2, a3, a4, a5⟩ := h3 i hi
  refine ⟨?_, ?_, a3, a4, ?_⟩
  · show (0 : Int32) ≤ (if i < F ∧ hasB who i ∧ ¬ hasB (s 0 1 ||| bit k) i then 1 else 0) ∧ (if i < F ∧ hasB who i ∧ ¬ hasB (s 0 1 ||| bit k) i then (1 : Int32) else 0) ≤ 5
    split <;> decide
  · show (0 : Int32) ≤ (if i < F then 0 else s 2 i) ∧ (if i < F then 0 else s 2 i) ≤ 9
    rw [if_pos hi]; decide
  · show hasB (s 0 1 ||| bit k) i → (if i < F ∧ hasB who i ∧ ¬ hasB (s 0 1 ||| bit k) i then (1 : Int32) else 0) = 0
    intro hb
    rw [if_neg (fun h => h.2.2 hb)]
theorem PP.c_without {N f o k : Nat} {a : Ab} {σ : Sg} (hN : 5000 < N) (hO : OKa a) (hC : RlC a σ) (hf : f < a.1) (ho : o < a.1) (hk : k < a.1) (hkf : k ≠ f) : Ev (f_X11_reachesWithout_0 N (nI f) (nI o) (nI k) σ) (fun z => z.1 = (if hasB (rch a.1 a.2.1 (sA a.1 (sZ a.2.2.1.1 k) (bit f)) 60) o then 1 else 0) ∧ RlC a z.2) := by
  have hF := hO.1.1
  unfold f_X11_reachesWithout_0
  refine (c_anew (by omega) hF hC.1 hC.2.2.1 hC.2.1.1).bind ?_
  rintro σ1 ⟨hX, hf1⟩
  rw [ev_bd]
  have a1 : σ1 56 1 = a.2.2.1.1 0 1 := hX.2.2.1.2.1
  have f2 : Fr [56] σ1 (wr σ1 56 1 (σ1 56 1 ||| bit k)) := (Fr.refl _ _).wr (by decide)
  have hX2 : CX a.1 a.2.1 (sA a.1 (sZ a.2.2.1.1 k) (bit f)) 0 (wr σ1 56 1 (σ1 56 1 ||| bit k)) := by
    obtain ⟨x1, x2, ⟨x3, x4, x5, x6⟩, x7⟩ := hX
    have y3 : σ1 56 0 = a.2.2.1.1 0 0 := x3
    have y5 : ∀ i, i < a.1 → σ1 57 i = (if i < a.1 ∧ hasB (bit f) i ∧ ¬ hasB (a.2.2.1.1 0 1) i then (1 : Int32) else 0) ∧ σ1 58 i = (if i < a.1 then 0 else a.2.2.1.1 2 i) ∧ σ1 59 i = a.2.2.1.1 3 i ∧ σ1 60 i = a.2.2.1.1 4 i := x5
    have y7 : ∀ i, i < a.1 → σ1 61 i = 0 := x7
    refine ⟨x1.fr f2 (by decide), ?_, ⟨?_, ?_, ?_, ?_⟩, ?_⟩
    · rw [tp_sA] at x2
      rw [tp_sA, tp_sZ]
      exact x2.fr f2 (by decide)
    · show wr σ1 56 1 (σ1 56 1 ||| bit k) 56 0 = a.2.2.1.1 0 0
      rw [wr_e, upd_n (by decide)]; exact y3
    · show wr σ1 56 1 (σ1 56 1 ||| bit k) 56 1 = a.2.2.1.1 0 1 ||| bit k
      rw [wr_e, upd_e, a1]
    · intro i hi
      obtain ⟨h1, h2, h3, h4⟩ := y5 i hi
      show wr σ1 56 1 (σ1 56 1 ||| bit k) 57 i = (if i < a.1 ∧ hasB (bit f) i ∧ ¬ hasB (a.2.2.1.1 0 1 ||| bit k) i then (1 : Int32) else 0) ∧ wr σ1 56 1 (σ1 56 1 ||| bit k) 58 i = (if i < a.1 then 0 else a.2.2.1.1 2 i) ∧ wr σ1 56 1 (σ1 56 1 ||| bit k) 59 i = a.2.2.1.1 3 i ∧ wr σ1 56 1 (σ1 56 1 ||| bit k) 60 i = a.2.2.1.1 4 i
      rw [f2 57 (by decide), f2 58 (by decide), f2 59 (by decide), f2 60 (by decide)]
      refine ⟨?_, h2, h3, h4⟩
      rw [h1]
      have e : (i < a.1 ∧ hasB (bit f) i ∧ ¬ hasB (a.2.2.1.1 0 1) i) ↔ (i < a.1 ∧ hasB (bit f) i ∧ ¬ hasB (a.2.2.1.1 0 1 ||| bit k) i) := by
        rw [hasB_bit (by omega) (by omega), hasB_or (by omega), hasB_bit (by omega) (by omega)]
        constructor
        · rintro ⟨h1, h2, h3⟩; exact ⟨h1, h2, fun h => h.elim h3 (fun e => hkf (by omega))⟩
        · rintro ⟨h1, h2, h3⟩; exact ⟨h1, h2, fun h => h3 (Or.inl h)⟩
      simp only [e]
    · intro i hi h9
      have h := x6 i hi h9
      dsimp only [Nat.reduceAdd] at h ⊢
      rw [f2 57 (by decide)]; exact h
    · intro i hi
      show wr σ1 56 1 (σ1 56 1 ||| bit k) 61 i = 0
      rw [f2 61 (by decide)]; exact y7 i hi
  refine (c_firstg hN hO.1 (sZA_ok hF hk hO.2.1.1.1) hO.2.1.1.2 (by omega) hX2).bind ?_
  rintro ⟨r, σ3⟩ ⟨e, hf3⟩
  dsimp only at e hf3 ⊢
  have hR : RlC a σ3 := hC.q (((hf1.mo (by decide)).tr (f2.mo (by decide))).tr (hf3.mo (by decide)))
  have key := fsp_rch (F := a.1) (L := a.2.1) (s := sA a.1 (sZ a.2.2.1.1 k) (bit f)) (o := o) (by omega)
  generalize fsp (pn a.1 a.2.1 (sA a.1 (sZ a.2.2.1.1 k) (bit f)) o) 1 60 = X at e key
  generalize rch a.1 a.2.1 (sA a.1 (sZ a.2.2.1.1 k) (bit f)) 60 = Y at key ⊢
  rw [ev_i]
  refine ⟨fun h => ev_s.mpr ⟨?_, hR⟩, fun h => ev_s.mpr ⟨?_, hR⟩⟩
  · rw [if_neg (key.mp (e.symm.trans h))]
  · rw [if_pos (Classical.byContradiction fun hn => h (e.trans (key.mpr hn)))]
theorem PP.m_without {N f o k : Nat} {a : Ab} {τ : Sg} (hN : 5000 < N) (hO : OKa a) (hM : RlM a τ) (hk : k < a.1) : Ev (f_X12_reachesIn N (nI f) (nI o) 60 (wr τ 0 29 (a.2.2.1.1 0 1 ||| bit k))) (fun q => q.1 = (if hasB (rch a.1 a.2.1 (sA a.1 (sZ a.2.2.1.1 k) (bit f)) 60) o then 1 else 0) ∧ RlM a (wr q.2 0 29 (a.2.2.1.1 0 1)) ∧ q.2 0 2 = τ 0 2) := by
  have hF := hO.1.1
  have f1 : FM [] [29] τ (wr τ 0 29 (a.2.2.1.1 0 1 ||| bit k)) := (FM.refl _ _ _).w0 (by decide)
  have hs1 : SM a.1 (sZ a.2.2.1.1 k) (wr τ 0 29 (a.2.2.1.1 0 1 ||| bit k)) := by
    obtain ⟨s0, s1, sx⟩ := hM.2.1.1
    refine ⟨?_, ?_, ?_⟩
    · rw [wr_e, upd_n (by decide)]; exact s0
    · rw [wr_e, upd_e]; rfl
    · intro i hi
      rw [wr_n (show (13 : Nat) ≠ 0 by decide), wr_n (show (14 : Nat) ≠ 0 by decide), wr_n (show (15 : Nat) ≠ 0 by decide), wr_n (show (16 : Nat) ≠ 0 by decide)]
      exact sx i hi
  unfold f_X12_reachesIn
  rw [show (60 : Int32) = nI 60 from rfl]
  refine (m_reachedBy hN hO.1 (sZA_ok hF hk hO.2.1.1.1) hO.2.1.1.2 (by omega) (hM.1.fr f1 (by decide)) (by rw [f1.2 32 (by decide)]; exact hM.2.2.1) hs1).bind ?_
  rintro ⟨r, τ2⟩ ⟨e, hs2, hf2⟩
  dsimp only at e hs2 hf2 ⊢
  subst e
  have f3 : FM [] [29] τ2 (wr τ2 0 29 (a.2.2.1.1 0 1)) := (FM.refl _ _ _).w0 (by decide)
  have hR : RlM a (wr τ2 0 29 (a.2.2.1.1 0 1)) := by
    refine hM.q (((f1.mo (by decide) (by decide)).tr (hf2.mo (by decide) (by decide))).tr (f3.mo (by decide) (by decide))) ?_ ?_
    · obtain ⟨s0, s1, sx⟩ := hs2
      refine ⟨?_, ?_, ?_⟩
      · rw [wr_e, upd_n (by decide)]; exact s0
      · rw [wr_e, upd_e]
      · intro i hi
        rw [wr_n (show (13 : Nat) ≠ 0 by decide), wr_n (show (14 : Nat) ≠ 0 by decide), wr_n (show (15 : Nat) ≠ 0 by decide), wr_n (show (16 : Nat) ≠ 0 by decide)]
        exact sx i hi
    · rw [f3.2 32 (by decide), hf2.2 32 (by decide), f1.2 32 (by decide)]; exact hM.2.2.1
  have hc : τ2 0 2 = τ 0 2 := by rw [hf2.2 2 (by decide), f1.2 2 (by decide)]
  rw [m_isOf, Option.bind_some]
  dsimp only
  by_cases h : hasB (rch a.1 a.2.1 (sA a.1 (sZ a.2.2.1.1 k) (bit f)) 60) o
  · rw [if_pos h, if_neg (by decide), ev_s]; exact ⟨rfl, hR, hc⟩
  · rw [if_neg h, if_neg (by decide), ev_s]; exact ⟨rfl, hR, hc⟩
def PP.thr (a : Ab) (f o k : Nat) : Bool := decide (k ≠ f ∧ k ≠ o ∧ ¬ hasB (rch a.1 a.2.1 (sA a.1 (sZ a.2.2.1.1 k) (bit f)) 60) o)
theorem PP.ok_through {N : Nat} (hN : 5000 < N) : Ok_through N Rl := by
  rintro x y σ τ ⟨a, hO, hC, hM⟩
  have hF := hO.1.1
  have lC := hC.1.2.1
  have hM0 := hM.code 0
  have lM : (wr τ 0 2 0) 3 0 = nI a.1 := hM.1.2.1
  by_cases h : (0 ≤ x ∧ x < nI a.1) ∧ 0 ≤ y ∧ y < nI a.1
  · obtain ⟨f, hf, rfl⟩ := farm_n hF h.1
    obtain ⟨o, ho, rfl⟩ := farm_n hF h.2
    refine okS (a := a) (r := if hasB (rch a.1 a.2.1 (sA a.1 a.2.2.1.1 (bit f)) 60) o then mk (thr a f o) a.1 else 0) (D := D1) hO (Or.inl ⟨rfl, rfl⟩) ?_ ?_
    · unfold f_X11_through_0
      rw [c_farms hF lC, Option.bind_some, if_pos h]
      dsimp only
      rw [if_pos rfl]
      refine (c_anew (by omega) hF hC.1 hC.2.2.1 hC.2.1.1).bind ?_
      rintro σ1 ⟨hX, hf1⟩
      refine (c_firstg hN hO.1 (sA_ok hO.2.1.1.1) hO.2.1.1.2 (by omega) hX).bind ?_
      rintro ⟨r, σ2⟩ ⟨e, hf2⟩
      dsimp only at e hf2 ⊢
      have hR : RlC a σ2 := hC.q ((hf1.mo (by decide)).tr (hf2.mo (by decide)))
      rw [ev_i]
      refine ⟨fun hn => ?_, fun hn => ?_⟩
      · rw [ev_s, if_neg ((fsp_rch (by omega)).mp (e.symm.trans hn))]; exact ⟨rfl, rfl, hR⟩
      · rw [if_pos (Classical.byContradiction fun hh => hn (e.trans ((fsp_rch (by omega)).mpr hh))), ev_b]
        refine ev_lp (fun k q => q.1 = mk (thr a f o) k ∧ q.2.1 = nI k ∧ RlC a q.2.2) a.1 N _ (by omega) ⟨rfl, rfl, hR⟩ ?_
        rintro k ⟨_, _, σ3⟩ hk ⟨e1, e2, hR3⟩
        dsimp only at e1 e2 hR3
        subst e1 e2
        have l3 := hR3.1.2.1
        unfold s_X11_through_0_h42 f_X11_through_0_b84
        dsimp only
        by_cases hkF : k = a.1
        · subst hkF
          rw [if_pos (by rw [l3]; exact Int32.le_refl _), ev_s]
          exact Or.inr ⟨Nat.one_ne_zero, ev_s.mpr ⟨rfl, rfl, hR3⟩⟩
        · rw [if_neg (by rw [l3, nI_le (by omega) (by omega)]; omega), nI_s]
          have hk' : k < a.1 := by omega
          have skip : ¬ thr a f o k = true → Ev (bd (nI (k + 1)) fun v1 => some (0, mk (thr a f o) k, v1, σ3)) (fun r => (r.1 = 0 ∧ k < a.1 ∧ r.2.1 = mk (thr a f o) (k + 1) ∧ r.2.2.1 = nI (k + 1) ∧ RlC a r.2.2.2) ∨ (r.1 ≠ 0 ∧ Ev (some (0, r.2.1, r.2.2.2)) (fun z : Zt => z.1 = 0 ∧ z.2.1 = mk (thr a f o) a.1 ∧ RlC a z.2.2))) := by
            intro ht
            rw [ev_bd, ev_s]
            exact Or.inl ⟨rfl, hk', by dsimp only; rw [mk_s, if_neg ht], rfl, hR3⟩
          by_cases hkf : k = f
          · rw [if_pos (by rw [hkf])]
            exact skip (by unfold thr; rw [decide_eq_true_eq]; exact fun h => h.1 hkf)
          · rw [if_neg (by rw [nI_eq (by omega) (by omega)]; exact hkf)]
            by_cases hko : k = o
            · rw [if_pos (by rw [hko])]
              exact skip (by unfold thr; rw [decide_eq_true_eq]; exact fun h => h.2.1 hko)
            · rw [if_neg (by rw [nI_eq (by omega) (by omega)]; exact hko)]
              refine (c_without hN hO hR3 hf ho hk' hkf).bind ?_
              rintro ⟨r, σ4⟩ ⟨e, hR4⟩
              dsimp only at e hR4 ⊢
              subst e
              by_cases hb : hasB (rch a.1 a.2.1 (sA a.1 (sZ a.2.2.1.1 k) (bit f)) 60) o
              · rw [if_pos hb, if_neg (by decide), ev_bd, ev_s]
                refine Or.inl ⟨rfl, hk', ?_, rfl, hR4⟩
                dsimp only
                rw [mk_s, if_neg (by unfold thr; rw [decide_eq_true_eq]; exact fun h => h.2.2 hb)]
              · rw [if_neg hb, if_pos rfl, ev_bd, ev_bd, ev_s]
                refine Or.inl ⟨rfl, hk', ?_, rfl, hR4⟩
                dsimp only
                rw [mk_s, if_pos (by unfold thr; rw [decide_eq_true_eq]; exact ⟨hkf, hko, hb⟩)]
    · unfold f_X12_through
      rw [ev_bd, m_isFarm hF lM, Option.bind_some, if_pos h.1]
      dsimp only
      rw [if_neg (by decide), m_isFarm hF lM, Option.bind_some, if_pos h.2]
      dsimp only
      rw [if_neg (by decide), show (60 : Int32) = nI 60 from rfl]
      refine (m_reachIn hN hO hM0 (by omega)).bind ?_
      rintro ⟨r, τ1⟩ ⟨e, hR1, hc1⟩
      dsimp only at e hR1 hc1 ⊢
      subst e
      by_cases hb : hasB (rch a.1 a.2.1 (sA a.1 a.2.2.1.1 (bit f)) 60) o
      · have a1 : τ1 0 29 = a.2.2.1.1 0 1 := hR1.2.1.1.2.1
        rw [if_pos hb, if_neg (by decide), ev_bd, if_pos hb, a1, ev_b]
        refine ev_lp (fun k q => q.1 = mk (thr a f o) k ∧ q.2.1 = nI k ∧ RlM a q.2.2 ∧ q.2.2 0 2 = 0) a.1 N _ (by omega) ⟨rfl, rfl, hR1, hc1.trans rfl⟩ ?_
        rintro k ⟨_, _, τ3⟩ hk ⟨e1, e2, hR3, hc3⟩
        dsimp only at e1 e2 hR3 hc3
        subst e1 e2
        have l3 := hR3.1.2.1
        unfold s_X12_through_h51 f_X12_through_b108 f_X12_through_b116
        dsimp only
        by_cases hkF : k = a.1
        · subst hkF
          rw [if_pos (by rw [l3]; exact Int32.le_refl _), ev_s]
          exact Or.inr ⟨Nat.one_ne_zero, ev_s.mpr ⟨hc3, rfl, hR3⟩⟩
        · rw [if_neg (by rw [l3, nI_le (by omega) (by omega)]; omega), nI_s]
          have hk' : k < a.1 := by omega
          have skip : ¬ thr a f o k = true → Ev (bd (nI (k + 1)) fun v1 => some (0, mk (thr a f o) k, v1, τ3)) (fun r => (r.1 = 0 ∧ k < a.1 ∧ r.2.1 = mk (thr a f o) (k + 1) ∧ r.2.2.1 = nI (k + 1) ∧ RlM a r.2.2.2 ∧ r.2.2.2 0 2 = 0) ∨ (r.1 ≠ 0 ∧ Ev (some (r.2.1, r.2.2.2)) (fun q : Int32 × Sg => q.2 0 2 = 0 ∧ q.1 = mk (thr a f o) a.1 ∧ RlM a q.2))) := by
            intro ht
            rw [ev_bd, ev_s]
            exact Or.inl ⟨rfl, hk', by dsimp only; rw [mk_s, if_neg ht], rfl, hR3, hc3⟩
          by_cases hkf : k = f
          · rw [if_pos (by rw [hkf])]
            exact skip (by unfold thr; rw [decide_eq_true_eq]; exact fun h => h.1 hkf)
          · rw [if_neg (by rw [nI_eq (by omega) (by omega)]; exact hkf)]
            by_cases hko : k = o
            · rw [if_pos (by rw [hko])]
              exact skip (by unfold thr; rw [decide_eq_true_eq]; exact fun h => h.2.1 hko)
            · rw [if_neg (by rw [nI_eq (by omega) (by omega)]; exact hko), ev_bd]
              refine (m_without hN hO hR3 hk').bind ?_
              rintro ⟨r, τ4⟩ ⟨e, hR4, hc4⟩
              dsimp only at e hR4 hc4 ⊢
              subst e
              have hc5 : wr τ4 0 29 (a.2.2.1.1 0 1) 0 2 = 0 := by rw [wr_e, upd_n (by decide), hc4]; exact hc3
              by_cases hb2 : hasB (rch a.1 a.2.1 (sA a.1 (sZ a.2.2.1.1 k) (bit f)) 60) o
              · rw [if_pos hb2, if_neg (by decide), ev_bd, ev_bd, ev_bd, ev_s]
                refine Or.inl ⟨rfl, hk', ?_, rfl, hR4, hc5⟩
                dsimp only
                rw [mk_s, if_neg (by unfold thr; rw [decide_eq_true_eq]; exact fun h => h.2.2 hb2)]
                exact Int32.or_zero
              · rw [if_neg hb2, if_pos rfl, ev_bd, ev_bd, ev_bd, ev_s]
                refine Or.inl ⟨rfl, hk', ?_, rfl, hR4, hc5⟩
                dsimp only
                rw [mk_s, if_pos (by unfold thr; rw [decide_eq_true_eq]; exact ⟨hkf, hko, hb2⟩)]
      · rw [if_neg hb, if_pos rfl, ev_s, if_neg hb]
        exact ⟨hc1.trans rfl, rfl, hR1⟩
  · refine okF (a := a) (cC := 1) (cM := 1) (D := D1) hO (by decide) (Or.inr ⟨rfl, rfl⟩) ?_ ?_
    · unfold f_X11_through_0
      rw [c_farms hF lC, Option.bind_some, if_neg h]
      dsimp only
      rw [if_neg (by decide), ev_s]
      exact ⟨rfl, hC⟩
    · unfold f_X12_through f_X12_through_b21 f_X12_fail
      rw [ev_bd]
      refine m_farms2 hO hM0 _ _ h _ ?_
      simp only [bd, Option.bind_some]
      rw [ev_s]
      exact ⟨rfl, hM0.code 1⟩
theorem PP.ok_best {N : Nat} (hN : 5000 < N) : Ok_best N Rl := by
  rintro x σ τ ⟨a, hO, hC, hM⟩
  have hF := hO.1.1
  have hM0 := hM.code 0
  by_cases hx : 1 ≤ x ∧ x ≤ 60
  · obtain ⟨n, hn1, hn2, rfl⟩ := in_n (lo := 1) (hi := 60) (by omega) hx (by omega)
    refine okS (a := a) (r := (mxs (fun f => pc (rch a.1 a.2.1 (sA a.1 a.2.2.1.1 (bit f)) n)) 0 a.1).2) (D := D2) hO (Or.inl ⟨rfl, rfl⟩) ?_ ?_
    · unfold f_X11_best_0
      rw [c_within, Option.bind_some, if_pos hx]
      dsimp only
      rw [if_pos rfl, ev_b]
      refine ev_lp (fun k q => q.1 = (mxs (fun f => pc (rch a.1 a.2.1 (sA a.1 a.2.2.1.1 (bit f)) n)) 0 k).1 ∧ q.2.1 = (mxs (fun f => pc (rch a.1 a.2.1 (sA a.1 a.2.2.1.1 (bit f)) n)) 0 k).2 ∧ q.2.2.1 = nI k ∧ RlC a q.2.2.2) a.1 N _ (by omega) ⟨rfl, rfl, rfl, hC⟩ ?_
      rintro k ⟨v, w, _, σ1⟩ hk ⟨e1, e2, e3, hR⟩
      dsimp only at e1 e2 e3 hR
      subst e3
      have l3 := hR.1.2.1
      unfold s_X11_best_0_h14 f_X11_best_0_b52
      dsimp only
      by_cases hkF : k = a.1
      · subst hkF
        rw [if_pos (by rw [l3]; exact Int32.le_refl _), ev_s]
        exact Or.inr ⟨Nat.one_ne_zero, ev_s.mpr ⟨rfl, e2, hR⟩⟩
      · rw [if_neg (by rw [l3, nI_le (by omega) (by omega)]; omega)]
        refine (c_reachedBy hN hO hR hn2).bind ?_
        rintro ⟨r, σ2⟩ ⟨e, hR2⟩
        dsimp only at e hR2 ⊢
        subst e
        rw [c_bc N _ (sub_mo (rch_sub hF n) hF), Option.bind_some, ev_bd, ev_i, e1]
        dsimp only
        refine ⟨fun h => ?_, fun h => ?_⟩
        · rw [ev_bd, ev_s]
          exact Or.inl ⟨rfl, by omega, by dsimp only; rw [mxs_s, if_pos h], by dsimp only; rw [mxs_s, if_pos h]; exact e2, nI_s _, hR2⟩
        · rw [ev_bd, ev_s]
          exact Or.inl ⟨rfl, by omega, by dsimp only; rw [mxs_s, if_neg h], by dsimp only; rw [mxs_s, if_neg h]; rfl, nI_s _, hR2⟩
    · unfold f_X12_best
      rw [ev_bd, e1i, e60i, m_isIn, Option.bind_some, if_pos hx]
      dsimp only
      rw [if_neg (by decide), ev_b]
      refine ev_lp (fun k q => q.2.1 = (mxs (fun f => pc (rch a.1 a.2.1 (sA a.1 a.2.2.1.1 (bit f)) n)) 0 k).1 ∧ q.1 = (mxs (fun f => pc (rch a.1 a.2.1 (sA a.1 a.2.2.1.1 (bit f)) n)) 0 k).2 ∧ q.2.2.1 = nI k ∧ RlM a q.2.2.2 ∧ q.2.2.2 0 2 = 0) a.1 N _ (by omega) ⟨rfl, rfl, rfl, hM0, rfl⟩ ?_
      rintro k ⟨v, w, _, τ1⟩ hk ⟨e1, e2, e3, hR, hc⟩
      dsimp only at e1 e2 e3 hR hc
      subst e3
      have l3 := hR.1.2.1
      unfold s_X12_best_h30 f_X12_best_b70
      dsimp only
      by_cases hkF : k = a.1
      · subst hkF
        rw [if_pos (by rw [l3]; exact Int32.le_refl _), ev_s]
        exact Or.inr ⟨Nat.one_ne_zero, ev_s.mpr ⟨hc, e2, hR⟩⟩
      · rw [if_neg (by rw [l3, nI_le (by omega) (by omega)]; omega)]
        refine (m_reacha hN hO hR hn2).bind ?_
        rintro ⟨r, τ2⟩ ⟨e, hR2, hc2⟩
        dsimp only at e hR2 hc2 ⊢
        subst e
        rw [m_bc (by omega) _ (sub_mo (rch_sub hF n) hF), Option.bind_some, ev_bd, ev_i, e1]
        dsimp only
        refine ⟨fun h => ?_, fun h => ?_⟩
        · have h' : ¬ pc (rch a.1 a.2.1 (sA a.1 a.2.2.1.1 (bit k)) n) ≤ (mxs (fun f => pc (rch a.1 a.2.1 (sA a.1 a.2.2.1.1 (bit f)) n)) 0 k).1 := by grind
          rw [ev_bd, ev_s]
          exact Or.inl ⟨rfl, by omega, by dsimp only; rw [mxs_s, if_neg h'], by dsimp only; rw [mxs_s, if_neg h']; rfl, nI_s _, hR2, hc2.trans hc⟩
        · have h' : pc (rch a.1 a.2.1 (sA a.1 a.2.2.1.1 (bit k)) n) ≤ (mxs (fun f => pc (rch a.1 a.2.1 (sA a.1 a.2.2.1.1 (bit f)) n)) 0 k).1 := by grind
          rw [ev_bd, ev_s]
          exact Or.inl ⟨rfl, by omega, by dsimp only; rw [mxs_s, if_pos h'], by dsimp only; rw [mxs_s, if_pos h']; exact e2, nI_s _, hR2, hc2.trans hc⟩
  · refine okF (a := a) (cC := 2) (cM := 1) (D := D2) hO (by decide) (Or.inr ⟨rfl, rfl⟩) ?_ ?_
    · unfold f_X11_best_0
      rw [c_within, Option.bind_some, if_neg hx]
      dsimp only
      rw [if_neg (by decide), ev_s]
      exact ⟨rfl, hC⟩
    · unfold f_X12_best f_X12_fail
      rw [ev_bd, e1i, e60i, m_isIn, Option.bind_some, if_neg hx]
      simp only [if_true, bd, Option.bind_some]
      rw [ev_s]
      exact ⟨rfl, hM0.code 1⟩
