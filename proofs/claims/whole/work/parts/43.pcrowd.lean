/-! the loudest of n turns, counted from d: (most, which) -/
def PP.mxs (g : Nat → Int32) (d : Nat) : Nat → Int32 × Int32
  | 0 => (-1, -1)
  | n + 1 => if g n ≤ (mxs g d n).1 then mxs g d n else (g n, nI (n + d))
theorem PP.mxs_s (g : Nat → Int32) (d n : Nat) : mxs g d (n + 1) = if g n ≤ (mxs g d n).1 then mxs g d n else (g n, nI (n + d)) := rfl
theorem PP.e1i : (1 : Int64) = (1 : Int32).toInt64 := rfl
theorem PP.e60i : (60 : Int64) = (60 : Int32).toInt64 := rfl
theorem PP.e0i : (0 : Int64) = (0 : Int32).toInt64 := rfl
theorem PP.ok_loudest {N : Nat} (hN : 5000 < N) : Ok_loudest N Rl := by
  rintro x σ τ ⟨a, hO, hC, hM⟩
  by_cases hx : 1 ≤ x ∧ x ≤ 60
  · obtain ⟨n, hn1, hn2, rfl⟩ := in_n (lo := 1) (hi := 60) (by omega) hx (by omega)
    refine okZ (a := a) (cC := 0) (cM := 0) (r := (mxs (fun k => pc (nd a k)) 1 n).2) (D := fun c d => (c = 0 ∧ d = 0) ∨ (c = 2 ∧ d = 1)) hO (Or.inl ⟨rfl, rfl⟩) ?_ ?_
    · unfold f_X11_loudest_0
      rw [c_within, Option.bind_some, if_pos hx]
      dsimp only
      rw [if_pos rfl]
      refine (c_open (by omega) hO hC).bind ?_
      rintro σ1 ⟨hX, hf⟩
      rw [ev_b]
      refine ev_for (fun k q => q.2.2.1 = nI (k + 1) ∧ q.1 = (mxs (fun k => pc (nd a k)) 1 k).1 ∧ q.2.1 = (mxs (fun k => pc (nd a k)) 1 k).2 ∧ CX a.1 a.2.1 a.2.2.1.1 k q.2.2.2 ∧ Fr qC σ q.2.2.2) n N _ (by omega) ⟨rfl, rfl, rfl, hX, hf⟩ ?_ ?_
      · rintro k ⟨v, w, i, σ2⟩ hk ⟨e, hv, hw, hX2, hf2⟩
        dsimp only at e hv hw hX2 hf2
        subst e
        unfold s_X11_loudest_0_h28 f_X11_loudest_0_b58
        dsimp only
        rw [if_neg (by rw [nI_lt (by omega) (by omega)]; omega)]
        refine (c_goa (by omega) hO (by omega) hX2).bind ?_
        rintro ⟨r, σ3⟩ ⟨e, hX3, hf3⟩
        dsimp only at e hX3 hf3 ⊢
        subst e
        rw [c_bc N _ (nd_sub9 a hO k), Option.bind_some, ev_bd, hv, hw, ev_i]
        dsimp only
        refine ⟨fun h => ?_, fun h => ?_⟩
        · rw [ev_bd, ev_s]
          exact Or.inl ⟨rfl, nI_s _, by dsimp only; rw [mxs_s, if_pos h], by dsimp only; rw [mxs_s, if_pos h], hX3, hf2.qc hf3 (by decide)⟩
        · rw [ev_bd, ev_s]
          exact Or.inl ⟨rfl, nI_s _, by dsimp only; rw [mxs_s, if_neg h], by dsimp only; rw [mxs_s, if_neg h], hX3, hf2.qc hf3 (by decide)⟩
      · rintro ⟨v, w, i, σ2⟩ ⟨e, hv, hw, hX2, hf2⟩
        dsimp only at e hv hw hX2 hf2
        subst e
        unfold s_X11_loudest_0_h28
        dsimp only
        rw [if_pos (by rw [nI_lt (by omega) (by omega)]; omega), ev_s]
        exact ⟨by simp, ev_s.mpr ⟨rfl, fun _ => hw, hC.q hf2⟩⟩
    · unfold f_X12_loudest
      rw [ev_bd, e1i, e60i, m_isIn, Option.bind_some, if_pos hx]
      dsimp only
      rw [if_neg (by decide)]
      have hM0 := hM.code 0
      refine (m_open (by omega) hO hM0).bind ?_
      rintro τ1 ⟨hX, hp, h2⟩
      rw [ev_b]
      refine ev_for (fun k q => q.2.2.1 = nI (k + 1) ∧ q.2.1 = (mxs (fun k => pc (nd a k)) 1 k).1 ∧ q.1 = (mxs (fun k => pc (nd a k)) 1 k).2 ∧ MX a.1 a.2.1 a.2.2.1.1 k q.2.2.2 ∧ PkM a (wr τ 0 2 0) q.2.2.2 ∧ q.2.2.2 0 2 = 0) n N _ (by omega) ⟨rfl, rfl, rfl, hX, hp, by dsimp only; rw [h2]; rfl⟩ ?_ ?_
      · rintro k ⟨v, w, i, τ2⟩ hk ⟨e, hv, hw, hX2, hp2, hc⟩
        dsimp only at e hv hw hX2 hp2 hc
        subst e
        unfold s_X12_loudest_h39 f_X12_loudest_b74
        dsimp only
        rw [if_neg (by rw [nI_lt (by omega) (by omega)]; omega)]
        refine (m_goa (by omega) hO (by omega) hX2).bind ?_
        rintro τ3 ⟨e, hX3, hf3⟩
        have hc3 : τ3 0 2 = 0 := by rw [hf3.2 2 (by decide)]; exact hc
        rw [e, m_bc (by omega) _ (nd_sub9 a hO k), Option.bind_some, ev_i, hv, hw]
        dsimp only
        refine ⟨fun h => ?_, fun h => ?_⟩
        · have h' : ¬ pc (nd a k) ≤ (mxs (fun k => pc (nd a k)) 1 k).1 := by grind
          rw [e, m_bc (by omega) _ (nd_sub9 a hO k), Option.bind_some, ev_bd, ev_bd, ev_s]
          exact Or.inl ⟨rfl, nI_s _, by dsimp only; rw [mxs_s, if_neg h'], by dsimp only; rw [mxs_s, if_neg h'], hX3, hp2.st hf3 (by decide) (by decide), hc3⟩
        · have h' : pc (nd a k) ≤ (mxs (fun k => pc (nd a k)) 1 k).1 := by grind
          rw [ev_bd, ev_s]
          exact Or.inl ⟨rfl, nI_s _, by dsimp only; rw [mxs_s, if_pos h'], by dsimp only; rw [mxs_s, if_pos h'], hX3, hp2.st hf3 (by decide) (by decide), hc3⟩
      · rintro ⟨v, w, i, τ2⟩ ⟨e, hv, hw, hX2, hp2, hc⟩
        dsimp only at e hv hw hX2 hp2 hc
        subst e
        unfold s_X12_loudest_h39
        dsimp only
        rw [if_pos (by rw [nI_lt (by omega) (by omega)]; omega), ev_s]
        refine ⟨by simp, ?_⟩
        dsimp only
        refine (m_close (by omega) hO hM0 hp2 hX2.2.1).bind ?_
        rintro τ3 ⟨hR, h3, h35⟩
        rw [ev_s]
        exact ⟨by dsimp only; rw [h3]; exact hc, fun _ => hw, hR⟩
  · refine okZ (a := a) (cC := 2) (cM := 1) (r := 0) (D := fun c d => (c = 0 ∧ d = 0) ∨ (c = 2 ∧ d = 1)) hO (Or.inr ⟨rfl, rfl⟩) ?_ ?_
    · unfold f_X11_loudest_0
      rw [c_within, Option.bind_some, if_neg hx]
      dsimp only
      rw [if_neg (by decide), ev_s]
      exact ⟨rfl, fun h => absurd h (by decide), hC⟩
    · unfold f_X12_loudest f_X12_fail
      rw [ev_bd, e1i, e60i, m_isIn, Option.bind_some, if_neg hx]
      simp only [if_true, bd, Option.bind_some, ev_s]
      exact ⟨rfl, fun h => absurd h (by decide), (hM.code 0).code 1⟩
theorem PP.tms_n (F : Nat) (L s : Sg) (i : Nat) : ∀ k, ∃ c, c ≤ k ∧ tms F L s i k = nI c
  | 0 => ⟨0, by omega, rfl⟩
  | k + 1 => by
    obtain ⟨c, hc, e⟩ := tms_n F L s i k
    unfold tms
    split
    · exact ⟨c + 1, by omega, by rw [e]; exact nI_s c⟩
    · exact ⟨c, by omega, by rw [e]; exact Int32.add_zero _⟩
abbrev PP.tma (a : Ab) (n i : Nat) : Int32 := tms a.1 a.2.1 a.2.2.1.1 i n
theorem PP.bit1 {s : Int32} {k : Nat} : (s >>> (nI k &&& 31)) &&& 1 = if hasB s k then 1 else 0 := by
  split
  · rename_i h; exact h
  · rename_i h; exact nhasB.mpr h
theorem PP.nd_has (a : Ab) (hO : OKa a) {k i : Nat} (hi : i < a.1) : hasB (nd a k) i ↔ rn a k 1 i = 1 := by
  have hF := hO.1.1
  rw [show nd a k = mk (fun j => decide (rn a k 1 j = 1)) a.1 from rfl, hasB_mk (by omega) (by omega)]
  simp [hi]
theorem PP.mxs_inv {F : Nat} {g : Nat → Int32} (hg : ∀ i, i < F → ∃ c, c < 2147483648 ∧ g i = nI c) : ∀ k, k ≤ F → (k = 0 ∧ mxs g 0 k = (-1, -1)) ∨ ∃ b, b < k ∧ mxs g 0 k = (g b, nI b)
  | 0, _ => Or.inl ⟨rfl, rfl⟩
  | k + 1, hk => by
    right
    rw [mxs_s]
    rcases mxs_inv hg k (by omega) with ⟨h0, e⟩ | ⟨b, hb, e⟩
    · refine ⟨k, by omega, ?_⟩
      rw [e, if_neg]
      · rfl
      · obtain ⟨c, hc, ec⟩ := hg k (by omega)
        dsimp only
        rw [ec]
        have := nI_n0 hc
        intro h
        exact absurd (Int32.le_trans this h) (by decide)
    · rw [e]
      dsimp only
      split
      · exact ⟨b, by omega, rfl⟩
      · exact ⟨k, by omega, rfl⟩
theorem PP.m_openf {N : Nat} {a : Ab} {τ : Sg} (hN : 20 < N) (hO : OKa a) (h : RlM a τ) : Ev (f_X12_pack_21 N 0 τ) (fun τ1 => MX a.1 a.2.1 a.2.2.1.1 0 τ1 ∧ PkM a τ τ1 ∧ FM [21] [] τ τ1) := by
  rw [show (0 : Int32) = nI 0 from rfl]
  refine (m_pack_21 hN (by omega)).imp ?_
  rintro τ1 ⟨h1, _, hf⟩
  refine ⟨⟨h.1.fr hf (by decide), ?_, h.2.1.1.fr hf (by decide) (by decide)⟩, ⟨h1 _ _ hO.1.1 h.2.1.1, hf.mo (by decide) (by decide)⟩, hf⟩
  rw [hf.2 32 (by decide)]; exact h.2.2.1
theorem PP.m_closef {N : Nat} {a : Ab} {τ τ2 : Sg} (hN : 20 < N) (hO : OKa a) (h : RlM a τ) (hp : PkM a τ τ2) (h32 : τ2 0 32 = -1) : Ev (f_X12_unpack_21 N 0 τ2) (fun τ3 => RlM a τ3 ∧ FM [13, 14, 15, 16] [28, 29] τ2 τ3) := by
  rw [show (0 : Int32) = nI 0 from rfl]
  refine (m_unpack_21 hN (by omega)).imp ?_
  rintro τ3 ⟨h1, hf⟩
  refine ⟨h.q (hp.2.tr (hf.mo (by decide) (by decide))) (h1 _ _ hO.1.1 hp.1) ?_, hf⟩
  rw [hf.2 32 (by decide)]; exact h32
theorem PP.tms_s (F : Nat) (L s : Sg) (i k : Nat) : tms F L s i (k + 1) = tms F L s i k + (if run F L s k 1 i = 1 then 1 else 0) := rfl
theorem PP.ok_oftenest {N : Nat} (hN : 5000 < N) : Ok_oftenest N Rl := by
  rintro x σ τ ⟨a, hO, hC, hM⟩
  have hF := hO.1.1
  by_cases hx : 1 ≤ x ∧ x ≤ 60
  · obtain ⟨n, hn1, hn2, rfl⟩ := in_n (lo := 1) (hi := 60) (by omega) hx (by omega)
    refine okZ (a := a) (cC := 0) (cM := 0) (r := (mxs (tma a n) 0 a.1).2) (D := fun c d => (c = 0 ∧ d = 0) ∨ (c = 2 ∧ d = 1)) hO (Or.inl ⟨rfl, rfl⟩) ?_ ?_
    · unfold f_X11_oftenest_0
      rw [c_within, Option.bind_some, if_pos hx]
      dsimp only
      rw [if_pos rfl]
      refine (c_open (by omega) hO hC).bind ?_
      rintro σ1 ⟨hX, hf⟩
      rw [ev_b]
      refine ev_for (fun k q => q.1 = nI (k + 1) ∧ CX a.1 a.2.1 a.2.2.1.1 k q.2 ∧ Fr qC σ q.2) n N _ (by omega) ⟨rfl, hX, hf⟩ ?_ ?_
      · rintro k ⟨i, σ2⟩ hk ⟨e, hX2, hf2⟩
        dsimp only at e hX2 hf2
        subst e
        unfold s_X11_oftenest_0_h23
        dsimp only
        rw [if_neg (by rw [nI_lt (by omega) (by omega)]; omega)]
        refine (c_goa (by omega) hO (by omega) hX2).bind ?_
        rintro ⟨r, σ3⟩ ⟨e, hX3, hf3⟩
        rw [ev_bd, ev_s]
        exact Or.inl ⟨rfl, nI_s _, hX3, hf2.qc hf3 (by decide)⟩
      · rintro ⟨i, σ2⟩ ⟨e, hX2, hf2⟩
        dsimp only at e hX2 hf2
        subst e
        unfold s_X11_oftenest_0_h23
        dsimp only
        rw [if_pos (by rw [nI_lt (by omega) (by omega)]; omega), ev_s]
        refine ⟨by simp, ?_⟩
        dsimp only
        rw [ev_b]
        refine ev_for (fun k q => q = ((mxs (tma a n) 0 k).1, (mxs (tma a n) 0 k).2, nI k, σ2)) a.1 N _ (by omega) rfl ?_ ?_
        · rintro k _ hk rfl
          refine Ev.imp (P := fun r => r.1 = 0 ∧ _) ?_ (fun r h => Or.inl h)
          unfold s_X11_oftenest_0_h49 f_X11_oftenest_0_b89
          dsimp only
          have ht : σ2 61 k = tma a n k := hX2.2.2.2 k hk
          simp (disch := omega) only [hX2.1.2.1, nI_le, nI_cl, nI_nn, show ¬ a.1 ≤ k by omega, show ¬ 9 ≤ k by omega, or_self, if_false, nI_s, ht, ev_i, ev_bd, ev_s]
          exact ⟨fun h => ⟨by trivial, by rw [mxs_s, if_pos h]⟩, fun h => ⟨by trivial, by rw [mxs_s, if_neg h]; rfl⟩⟩
        · rintro _ rfl
          unfold s_X11_oftenest_0_h49
          dsimp only
          simp (disch := omega) only [hX2.1.2.1, nI_le, Nat.le_refl, if_true, ev_s]
          exact ⟨by decide, by trivial, fun _ => by trivial, hC.q hf2⟩
    · unfold f_X12_oftenest
      rw [ev_bd, e1i, e60i, m_isIn, Option.bind_some, if_pos hx]
      dsimp only
      rw [if_neg (by decide)]
      have hM0 := hM.code 0
      rw [ev_b]
      refine (ev_fill 22 9 N (fun _ => 0) (wr τ 0 2 0) _ rfl (by omega) ?_ ?_).imp ?_
      · intro k σ' hk h1 h2 h3
        unfold s_X12_oftenest_h25
        dsimp only
        simp (disch := omega) only [show (9 : Int32) = nI 9 from rfl, nI_le, show ¬ 9 ≤ k by omega, if_false, nI_g]
        simp (disch := omega) only [nI_cl, nI_s, bd]
      · intro σ' h1
        unfold s_X12_oftenest_h25
        exact ⟨_, if_pos (by dsimp only; decide)⟩
      rintro ⟨_, _, τ1⟩ ⟨hf1, hz1, -⟩
      dsimp only at hf1 hz1 ⊢
      have g1 := FM.of (by decide) hf1
      have hM1 : RlM a τ1 := hM0.q0 (g1.mo (by decide) (by decide))
      have hc1 : τ1 0 2 = 0 := by rw [g1.2 2 (by decide)]; rfl
      refine (m_openf (by omega) hO hM1).bind ?_
      rintro τ2 ⟨hX, hp, hfo⟩
      have h2 : τ2 0 2 = 0 := by rw [hfo.2 2 (by decide)]; exact hc1
      have hz2 : ∀ i, i < a.1 → τ2 22 i = tma a 0 i := by
        intro i hi
        rw [hfo.1 22 (by decide) (by decide), hz1 i (by omega)]; rfl
      rw [ev_b]
      refine ev_lp (fun k q => q.1 = nI k ∧ MX a.1 a.2.1 a.2.2.1.1 k q.2 ∧ PkM a τ1 q.2 ∧ (∀ i, i < a.1 → q.2 22 i = tma a k i) ∧ q.2 0 2 = 0) n N _ (by omega) ⟨rfl, hX, hp, hz2, h2⟩ ?_
      rintro k ⟨i, τ3⟩ hk ⟨e, hX3, hp3, hi3, hc3⟩
      dsimp only at e hX3 hp3 hi3 hc3
      subst e
      unfold s_X12_oftenest_h55
      dsimp only
      by_cases hkn : k = n
      · subst hkn
        rw [if_pos (Int32.le_refl _), ev_s]
        refine Or.inr ⟨Nat.one_ne_zero, ?_⟩
        dsimp only
        refine (m_closef (by omega) hO hM1 hp3 hX3.2.1).bind ?_
        rintro τ4 ⟨hR4, hf4⟩
        have h22 : ∀ i, i < a.1 → τ4 22 i = tma a k i := by
          intro i hi
          rw [hf4.1 22 (by decide) (by decide)]; exact hi3 i hi
        have hc4 : τ4 0 2 = 0 := by rw [hf4.2 2 (by decide)]; exact hc3
        have l4 := hR4.1.2.1
        have hg : ∀ i, i < a.1 → ∃ c, c < 2147483648 ∧ tma a k i = nI c := by
          intro i hi
          obtain ⟨c, hc, e⟩ := tms_n a.1 a.2.1 a.2.2.1.1 i k
          exact ⟨c, by omega, e⟩
        rw [ev_b]
        refine ev_lp (fun j q => q = ((mxs (tma a k) 0 j).2, nI j, τ4)) a.1 N _ (by omega) rfl ?_
        rintro j _ hj rfl
        unfold s_X12_oftenest_h118 f_X12_oftenest_b148 f_X12_oftenest_b150
        dsimp only
        by_cases hjF : j = a.1
        · subst hjF
          rw [if_pos (by rw [l4]; exact Int32.le_refl _), ev_s]
          exact Or.inr ⟨Nat.one_ne_zero, ev_s.mpr ⟨hc4, fun _ => rfl, hR4⟩⟩
        · rw [if_neg (by rw [l4, nI_le (by omega) (by omega)]; omega)]
          refine Ev.imp (P := fun r => r.1 = 0 ∧ r.2 = ((mxs (tma a k) 0 (j + 1)).2, nI (j + 1), τ4)) ?_ (fun r h => Or.inl ⟨h.1, by omega, h.2⟩)
          rw [mxs_s]
          rcases mxs_inv hg j (by omega) with ⟨h0, e⟩ | ⟨b, hb, e⟩
          · rw [e]
            dsimp only
            rw [if_pos rfl, ev_bd, ev_s, if_neg]
            · exact ⟨rfl, by dsimp only; rw [nI_s]; rfl⟩
            · obtain ⟨c, hc, ec⟩ := hg j (by omega)
              rw [ec]
              intro h
              exact absurd (Int32.le_trans (nI_n0 hc) h) (by decide)
          · rw [e]
            dsimp only
            rw [if_neg (nI_m1 (by omega))]
            simp (disch := omega) only [nI_g, if_false]
            simp (disch := omega) only [nI_cl]
            have hj' := h22 j (by omega)
            have hb' := h22 b (by omega)
            by_cases hle : tma a k j ≤ tma a k b
            · rw [if_pos (show τ4 22 j ≤ τ4 22 b by rw [hj', hb']; exact hle), ev_bd, ev_s, if_pos hle]
              exact ⟨rfl, by dsimp only; rw [nI_s]⟩
            · rw [if_neg (show ¬ τ4 22 j ≤ τ4 22 b by rw [hj', hb']; exact hle), ev_bd, ev_s, if_neg hle]
              exact ⟨rfl, by dsimp only; rw [nI_s]; rfl⟩
      · rw [if_neg (by rw [nI_le (by omega) (by omega)]; omega)]
        refine (m_goa (by omega) hO (by omega) hX3).bind ?_
        rintro τ4 ⟨e, hX4, hf4⟩
        refine Ev.bind (P := fun z => FM [22] [] τ4 z.2.2 ∧ ∀ i, i < a.1 → z.2.2 22 i = tma a (k + 1) i) ?_ ?_
        · refine ev_lp (fun j q => q.1 = nI j ∧ FM [22] [] τ4 q.2 ∧ ∀ i, i < a.1 → q.2 22 i = if i < j then tma a (k + 1) i else tma a k i) a.1 N _ (by omega) ⟨rfl, FM.refl _ _ _, fun i hi => by dsimp only; rw [if_neg (by omega), hf4.1 22 (by decide) (by decide)]; exact hi3 i hi⟩ ?_
          rintro j ⟨_, τ5⟩ hj ⟨e5, hf5, hi5⟩
          dsimp only at e5 hf5 hi5
          subst e5
          have l5 : τ5 3 0 = nI a.1 := by rw [hf5.1 3 (by decide) (by decide)]; exact hX4.1.2.1
          have n5 : τ5 0 35 = nd a k := by rw [hf5.2 35 (by decide)]; exact e
          unfold s_X12_oftenest_h66
          dsimp only
          by_cases hjF : j = a.1
          · subst hjF
            rw [if_pos (by rw [l5]; exact Int32.le_refl _), ev_s]
            refine Or.inr ⟨Nat.one_ne_zero, hf5, fun i hi => ?_⟩
            dsimp only
            rw [hi5 i hi, if_pos hi]
          · rw [if_neg (by rw [l5, nI_le (by omega) (by omega)]; omega)]
            simp (disch := omega) only [nI_g, if_false]
            simp (disch := omega) only [nI_cl, nI_s, n5, bit1]
            rw [ev_bd, ev_bd, ev_s]
            refine Or.inl ⟨rfl, by omega, rfl, hf5.w (by decide) (by decide), fun i hi => ?_⟩
            dsimp only
            by_cases hij : i = j
            · subst hij
              rw [wr_e, upd_e, hi5 i hi, if_neg (show ¬ i < i by omega), if_pos (show i < i + 1 by omega)]
              show _ = tms a.1 a.2.1 a.2.2.1.1 i (k + 1)
              rw [tms_s]
              simp only [nd_has a hO hi]
            · rw [wr_e, upd_n hij, hi5 i hi]
              simp only [show (i < j + 1) = (i < j) by apply propext; omega]
        · rintro ⟨_, _, τ5⟩ ⟨hf5, hi5⟩
          dsimp only at hf5 hi5 ⊢
          rw [ev_bd, ev_s]
          refine Or.inl ⟨rfl, by omega, nI_s _, ⟨hX4.1.fr hf5 (by decide), ?_, hX4.2.2.fr hf5 (by decide) (by decide)⟩, (hp3.st hf4 (by decide) (by decide)).st hf5 (by decide) (by decide), hi5, ?_⟩
          · dsimp only; rw [hf5.2 32 (by decide)]; exact hX4.2.1
          · dsimp only; rw [hf5.2 2 (by decide), hf4.2 2 (by decide)]; exact hc3
  · refine okZ (a := a) (cC := 2) (cM := 1) (r := 0) (D := fun c d => (c = 0 ∧ d = 0) ∨ (c = 2 ∧ d = 1)) hO (Or.inr ⟨rfl, rfl⟩) ?_ ?_
    · unfold f_X11_oftenest_0
      rw [c_within, Option.bind_some, if_neg hx]
      dsimp only
      rw [if_neg (by decide), ev_s]
      exact ⟨rfl, fun h => absurd h (by decide), hC⟩
    · unfold f_X12_oftenest f_X12_fail
      rw [ev_bd, e1i, e60i, m_isIn, Option.bind_some, if_neg hx]
      simp only [if_true, bd, Option.bind_some, ev_s]
      exact ⟨rfl, fun h => absurd h (by decide), (hM.code 0).code 1⟩
/-! ===== the crowd ===== -/
def PP.crw (g : Nat → Int32) : Nat → Int32 × Int32
  | 0 => (0, 0)
  | n + 1 => (if (crw g n).1 < g n then g n else (crw g n).1, (crw g n).2 + (if g n = 0 then 1 else 0))
theorem PP.crw_s (g : Nat → Int32) (n : Nat) : crw g (n + 1) = (if (crw g n).1 < g n then g n else (crw g n).1, (crw g n).2 + (if g n = 0 then 1 else 0)) := rfl
theorem PP.pc_0 {x : Int32} (h : sub 9 x) : pc x = 0 ↔ x = 0 := by
  obtain ⟨k, hk, rfl⟩ := sub_v h
  obtain ⟨d1, d2, -, -⟩ := bits_d k hk
  have hc := cnt_le (nI k) 9
  unfold pc
  rw [show (0 : Int32) = nI 0 from rfl, nI_eq (by omega) (by omega)]
  rw [show (0 : Int32) = nI 0 from rfl] at d1 d2
  constructor
  · intro h0
    exact Classical.byContradiction fun hn => by have := d1 hn; omega
  · exact d2
theorem PP.ok_crowd {N : Nat} (hN : 5000 < N) : Ok_crowd N Rl := by
  rintro x w σ τ ⟨a, hO, hC, hM⟩
  have hM0 := hM.code 0
  by_cases hw : 0 ≤ w ∧ w ≤ 1
  · have hw1 : ¬ w < 0 := by have := hw.1; grind
    by_cases hx : 1 ≤ x ∧ x ≤ 60
    · obtain ⟨n, hn1, hn2, rfl⟩ := in_n (lo := 1) (hi := 60) (by omega) hx (by omega)
      refine okS (a := a) (r := if w = 0 then (crw (fun k => pc (nd a k)) n).1 else (crw (fun k => pc (nd a k)) n).2) (D := D3) hO (Or.inl ⟨rfl, rfl⟩) ?_ ?_
      · unfold f_X11_crowd_0
        rw [c_what, Option.bind_some, if_pos hw]
        dsimp only
        rw [if_pos rfl, c_within, Option.bind_some, if_pos hx]
        dsimp only
        rw [if_pos rfl]
        refine (c_open (by omega) hO hC).bind ?_
        rintro σ1 ⟨hX, hf⟩
        rw [ev_b]
        refine ev_lp (fun k q => q.2.2.1 = nI (k + 1) ∧ q.1 = (crw (fun k => pc (nd a k)) k).1 ∧ q.2.1 = (crw (fun k => pc (nd a k)) k).2 ∧ CX a.1 a.2.1 a.2.2.1.1 k q.2.2.2 ∧ Fr qC σ q.2.2.2) n N _ (by omega) ⟨rfl, rfl, rfl, hX, hf⟩ ?_
        rintro k ⟨v, u, i, σ2⟩ hk ⟨e, hv, hu, hX2, hf2⟩
        dsimp only at e hv hu hX2 hf2
        subst e
        unfold s_X11_crowd_0_h34 f_X11_crowd_0_b71
        dsimp only
        by_cases hkn : k = n
        · subst hkn
          rw [if_pos (by rw [nI_lt (by omega) (by omega)]; omega), ev_s]
          refine Or.inr ⟨Nat.one_ne_zero, ?_⟩
          dsimp only
          by_cases hw0 : w = 0
          · rw [if_pos hw0, ev_s]; exact ⟨rfl, by rw [if_pos hw0]; exact hv, hC.q hf2⟩
          · rw [if_neg hw0, ev_s]; exact ⟨rfl, by rw [if_neg hw0]; exact hu, hC.q hf2⟩
        · rw [if_neg (by rw [nI_lt (by omega) (by omega)]; omega)]
          refine (c_goa (by omega) hO (by omega) hX2).bind ?_
          rintro ⟨r, σ3⟩ ⟨e, hX3, hf3⟩
          dsimp only at e hX3 hf3 ⊢
          subst e
          rw [c_bc N _ (nd_sub9 a hO k), Option.bind_some, ev_bd, ev_bd, ev_i]
          dsimp only
          refine ⟨fun h => ?_, fun h => ?_⟩
          · rw [ev_bd, ev_bd, ev_s]
            exact Or.inl ⟨rfl, by omega, nI_s _, by dsimp only; rw [crw_s, hv], by dsimp only; rw [crw_s, hu, if_pos h], hX3, hf2.qc hf3 (by decide)⟩
          · rw [ev_bd, ev_bd, ev_s]
            exact Or.inl ⟨rfl, by omega, nI_s _, by dsimp only; rw [crw_s, hv], by dsimp only; rw [crw_s, hu, if_neg h], hX3, hf2.qc hf3 (by decide)⟩
      · unfold f_X12_crowd
        rw [ev_bd, if_neg hw1, if_pos hw.2, e1i, e60i, m_isIn, Option.bind_some, if_pos hx]
        dsimp only
        rw [if_neg (by decide)]
        refine (m_openf (by omega) hO hM0).bind ?_
        rintro τ1 ⟨hX, hp, hfo⟩
        rw [ev_b]
        refine ev_lp (fun k q => q.2.2.1 = nI k ∧ q.1 = (crw (fun k => pc (nd a k)) k).1 ∧ q.2.1 = (crw (fun k => pc (nd a k)) k).2 ∧ MX a.1 a.2.1 a.2.2.1.1 k q.2.2.2 ∧ PkM a (wr τ 0 2 0) q.2.2.2 ∧ q.2.2.2 0 2 = 0) n N _ (by omega) ⟨rfl, rfl, rfl, hX, hp, by dsimp only; rw [hfo.2 2 (by decide)]; rfl⟩ ?_
        rintro k ⟨v, u, i, τ2⟩ hk ⟨e, hv, hu, hX2, hp2, hc⟩
        dsimp only at e hv hu hX2 hp2 hc
        subst e
        unfold s_X12_crowd_h55 f_X12_crowd_b91
        dsimp only
        by_cases hkn : k = n
        · subst hkn
          rw [if_pos (Int32.le_refl _), ev_s]
          refine Or.inr ⟨Nat.one_ne_zero, ?_⟩
          dsimp only
          refine (m_closef (by omega) hO hM0 hp2 hX2.2.1).bind ?_
          rintro τ3 ⟨hR, hf3⟩
          have hc3 : τ3 0 2 = 0 := by rw [hf3.2 2 (by decide)]; exact hc
          by_cases hw0 : w = 0
          · rw [if_pos hw0, ev_s]; exact ⟨hc3, by rw [if_pos hw0]; exact hv, hR⟩
          · rw [if_neg hw0, ev_s]; exact ⟨hc3, by rw [if_neg hw0]; exact hu, hR⟩
        · rw [if_neg (by rw [nI_le (by omega) (by omega)]; omega)]
          refine (m_goa (by omega) hO (by omega) hX2).bind ?_
          rintro τ3 ⟨e, hX3, hf3⟩
          have hc3 : τ3 0 2 = 0 := by rw [hf3.2 2 (by decide)]; exact hc
          rw [e, m_bc (by omega) _ (nd_sub9 a hO k), Option.bind_some, ev_bd, ev_i]
          dsimp only
          rw [e]
          refine ⟨fun h => ?_, fun h => ?_⟩
          · rw [ev_bd, ev_bd, ev_s]
            exact Or.inl ⟨rfl, by omega, nI_s _, by dsimp only; rw [crw_s, hv], by dsimp only; rw [crw_s, hu, if_pos ((pc_0 (nd_sub9 a hO k)).mpr h)], hX3, hp2.st hf3 (by decide) (by decide), hc3⟩
          · rw [ev_bd, ev_bd, ev_s]
            exact Or.inl ⟨rfl, by omega, nI_s _, by dsimp only; rw [crw_s, hv], by dsimp only; rw [crw_s, hu, if_neg (fun h' => h ((pc_0 (nd_sub9 a hO k)).mp h'))], hX3, hp2.st hf3 (by decide) (by decide), hc3⟩
    · refine okF (a := a) (cC := 2) (cM := 2) (D := D3) hO (by decide) (Or.inr (Or.inr ⟨rfl, rfl⟩)) ?_ ?_
      · unfold f_X11_crowd_0
        rw [c_what, Option.bind_some, if_pos hw]
        dsimp only
        rw [if_pos rfl, c_within, Option.bind_some, if_neg hx]
        dsimp only
        rw [if_neg (by decide), ev_s]
        exact ⟨rfl, hC⟩
      · unfold f_X12_crowd f_X12_fail
        rw [ev_bd, if_neg hw1, if_pos hw.2, e1i, e60i, m_isIn, Option.bind_some, if_neg hx]
        simp only [if_true, bd, Option.bind_some, ev_s]
        exact ⟨by trivial, hM0.code 2⟩
  · refine okF (a := a) (cC := 1) (cM := 1) (D := D3) hO (by decide) (Or.inr (Or.inl ⟨rfl, rfl⟩)) ?_ ?_
    · unfold f_X11_crowd_0
      rw [c_what, Option.bind_some, if_neg hw]
      dsimp only
      rw [if_neg (by decide), ev_s]
      exact ⟨rfl, hC⟩
    · unfold f_X12_crowd f_X12_crowd_b14 f_X12_fail
      simp only [bd, Option.bind_some]
      have fin : Ev (some ((0 : Int32), wr (wr τ 0 2 0) 0 2 1)) (fun q => q.2 0 2 = 1 ∧ RlM a q.2) := ev_s.mpr ⟨rfl, hM0.code 1⟩
      by_cases h0 : w < 0
      · rw [if_pos h0]; exact fin
      · rw [if_neg h0, if_neg (fun h => hw ⟨by grind, h⟩)]; exact fin
