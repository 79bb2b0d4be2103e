/-! ===== where to look ===== -/
def PP.seenB (a : Ab) (n f : Nat) : Nat → Bool
  | 0 => false
  | o + 1 => seenB a n f o || (fit a o && decide (NN a o n = NN a f n))
theorem PP.seenB_s (a : Ab) (n f o : Nat) : seenB a n f (o + 1) = (seenB a n f o || (fit a o && decide (NN a o n = NN a f n))) := rfl
theorem PP.seenB_mo {a : Ab} {n f k : Nat} (h : seenB a n f k = true) : ∀ j, seenB a n f (k + j) = true
  | 0 => h
  | j + 1 => by rw [← Nat.add_assoc, seenB_s, seenB_mo h j]; rfl
def PP.nw (a : Ab) (n f : Nat) : Bool := fit a f && !seenB a n f f
def PP.cn (a : Ab) (n : Nat) : Nat → Int32
  | 0 => 0
  | f + 1 => cn a n f + (if nw a n f = true then 1 else 0)
theorem PP.cn_s (a : Ab) (n f : Nat) : cn a n (f + 1) = cn a n f + (if nw a n f = true then 1 else 0) := rfl
def PP.lks (g : Nat → Int32) : Nat → Int32 × Int32
  | 0 => (0, -1)
  | n + 1 => if g n ≤ (lks g n).1 then lks g n else (g n, nI (n + 1))
theorem PP.lks_s (g : Nat → Int32) (n : Nat) : lks g (n + 1) = if g n ≤ (lks g n).1 then lks g n else (g n, nI (n + 1)) := rfl
theorem PP.ix20 {o n : Nat} : (nI o * 20 + nI (n + 1)) - 1 = nI (20 * o + n) := by
  rw [show (20 : Int32) = nI 20 from rfl, nI_mul, nI_add, nI_p (by omega), show o * 20 + (n + 1) - 1 = 20 * o + n by omega]
theorem PP.c_before {N n f : Nat} {a : Ab} {σ : Sg} (hN : 20 < N) (hO : OKa a) (hf : f < a.1) (hn : n < 20) (hv : ∀ f, f < a.1 → fit a f = true → ∀ k, k < 20 → σ 63 (20 * f + k) = NN a f k) (hft : fit a f = true) : f_X11_isForeseenBefore_0 N (fits a) (nI f) (nI (n + 1)) σ = some ((if seenB a n f f = true then 1 else 0), σ) := by
  have hF := hO.1.1
  unfold f_X11_isForeseenBefore_0
  rw [ix20, if_neg (gdn (by omega) (by omega)), nI_cl (by omega), hv f hf hft n hn, ← ev_eq, ev_bd, ev_b]
  refine ev_lp (fun k q => q = (nI k, σ) ∧ seenB a n f k = false) f N _ (by omega) ⟨rfl, rfl⟩ ?_
  rintro k _ hk ⟨rfl, hs⟩
  unfold s_X11_isForeseenBefore_0_h18 f_X11_isForeseenBefore_0_b55
  dsimp only
  by_cases hkf : k = f
  · subst hkf
    rw [if_pos (Int32.le_refl _), ev_s]
    refine Or.inr ⟨by simp, ?_⟩
    dsimp only
    rw [if_neg (by decide), ev_s, hs]; rfl
  · rw [if_neg (by rw [nI_le (by omega) (by omega)]; omega), nI_s]
    by_cases hb : hasB (fits a) k
    · have hfk : fit a k = true := (has_fits hO (by omega)).mp hb
      rw [if_pos hb, ix20, if_neg (gdn (by omega) (by omega)), nI_cl (show 20 * k + n < 2147483648 by omega)]
      have hvk := hv k (by omega) hfk n hn
      by_cases he : NN a k n = NN a f n
      · rw [if_pos (show σ 63 (20 * k + n) = NN a f n by rw [hvk]; exact he), ev_s]
        refine Or.inr ⟨by simp, ?_⟩
        dsimp only
        rw [if_pos rfl, ev_s]
        have h1 : seenB a n f (k + 1) = true := by rw [seenB_s, hfk, decide_eq_true he, hs]; rfl
        have h2 := seenB_mo h1 (f - (k + 1))
        rw [show k + 1 + (f - (k + 1)) = f by omega] at h2
        rw [h2]; rfl
      · rw [if_neg (show ¬ σ 63 (20 * k + n) = NN a f n by rw [hvk]; exact he), ev_bd, ev_s]
        exact Or.inl ⟨rfl, by omega, rfl, by rw [seenB_s, hs, hfk, decide_eq_false he]; rfl⟩
    · have hfk : fit a k = false := by
        cases h : fit a k with
        | false => rfl
        | true => exact absurd ((has_fits hO (by omega)).mpr h) hb
      rw [if_neg hb, ev_bd, ev_s]
      exact Or.inl ⟨rfl, by omega, rfl, by rw [seenB_s, hs, hfk]; rfl⟩
theorem PP.c_unlike {N n : Nat} {a : Ab} {σ : Sg} (hN : 20 < N) (hO : OKa a) (hC : RlC a σ) (hn : n < 20) (hv : ∀ f, f < a.1 → fit a f = true → ∀ k, k < 20 → σ 63 (20 * f + k) = NN a f k) : f_X11_howManyUnlike_0 N (fits a) (nI (n + 1)) σ = some (cn a n a.1, σ) := by
  have hF := hO.1.1
  have l1 := hC.1.2.1
  unfold f_X11_howManyUnlike_0
  rw [← ev_eq, ev_b]
  refine ev_lp (fun k q => q = (cn a n k, nI k, σ)) a.1 N _ (by omega) rfl ?_
  rintro k _ hk rfl
  unfold s_X11_howManyUnlike_0_h5 f_X11_howManyUnlike_0_b41
  dsimp only
  by_cases hkF : k = a.1
  · subst hkF
    rw [if_pos (by rw [l1]; exact Int32.le_refl _), ev_s]
    exact Or.inr ⟨Nat.one_ne_zero, ev_s.mpr rfl⟩
  · rw [if_neg (by rw [l1, nI_le (by omega) (by omega)]; omega), nI_s]
    have skip : nw a n k = false → Ev (bd (nI (k + 1)) fun v1 => some (0, cn a n k, v1, σ)) (fun r => (r.1 = 0 ∧ k < a.1 ∧ r.2 = (cn a n (k + 1), nI (k + 1), σ)) ∨ (r.1 ≠ 0 ∧ Ev (some (r.2.1, r.2.2.2)) (fun w => w = (cn a n a.1, σ)))) := by
      intro h
      rw [ev_bd, ev_s]
      refine Or.inl ⟨rfl, by omega, ?_⟩
      rw [cn_s, h]
      simp
    by_cases hb : hasB (fits a) k
    · have hfk : fit a k = true := (has_fits hO (by omega)).mp hb
      rw [if_pos hb, c_before hN hO (by omega) hn hv hfk, Option.bind_some]
      dsimp only
      cases hs : seenB a n k k with
      | true =>
        rw [if_pos rfl, if_neg (by decide)]
        exact skip (by unfold nw; rw [hs, hfk]; rfl)
      | false =>
        rw [if_pos (by decide), ev_bd, ev_bd, ev_s]
        refine Or.inl ⟨rfl, by omega, ?_⟩
        rw [cn_s, if_pos (by unfold nw; rw [hs, hfk]; rfl)]
    · rw [if_neg hb]
      refine skip ?_
      have hfk : fit a k = false := by
        cases h : fit a k with
        | false => rfl
        | true => exact absurd ((has_fits hO (by omega)).mpr h) hb
      unfold nw; rw [hfk]; rfl
theorem PP.m_unlike {N n : Nat} {a : Ab} {τ : Sg} (hN : 20 < N) (hO : OKa a) (hM : RlM a τ) (h44 : τ 0 44 = fits a) (hn : n < 20) (hv : ∀ f, f < a.1 → fit a f = true → ∀ k, k < 20 → τ 28 (20 * f + k) = NN a f k) : f_X12_unlike N (nI n) τ = some (cn a n a.1, τ) := by
  have hF := hO.1.1
  have l1 := hM.1.2.1
  unfold f_X12_unlike
  rw [← ev_eq, ev_b]
  refine ev_lp (fun k q => q = (cn a n k, nI k, τ)) a.1 N _ (by omega) rfl ?_
  rintro k _ hk rfl
  unfold s_X12_unlike_h4 f_X12_unlike_b100
  dsimp only
  by_cases hkF : k = a.1
  · subst hkF
    rw [if_pos (by rw [l1]; exact Int32.le_refl _), ev_s]
    exact Or.inr ⟨Nat.one_ne_zero, ev_s.mpr rfl⟩
  · have hk' : k < a.1 := by omega
    rw [if_neg (by rw [l1, nI_le (by omega) (by omega)]; omega), nI_s, m_isOf, Option.bind_some, ev_bd, h44]
    dsimp only
    refine Ev.bind (P := fun z => z.2 = ((if nw a n k = true then 1 else 0), 0, τ)) ?_ ?_
    · refine ev_lp (fun j q => q = ((if fit a k = true ∧ seenB a n k j = false then 1 else 0), nI j, τ)) k N _ (by omega) ?_ ?_
      · have : hasB (fits a) k ↔ fit a k = true ∧ seenB a n k 0 = false := by
          rw [has_fits hO hk']; exact ⟨fun h => ⟨h, rfl⟩, fun h => h.1⟩
        simp only [this]; rfl
      rintro j _ hj rfl
      unfold s_X12_unlike_h27 f_X12_unlike_b76 f_X12_unlike_b81
      dsimp only
      by_cases hjk : j = k
      · subst hjk
        rw [if_pos (Int32.le_refl _), ev_s]
        refine Or.inr ⟨Nat.one_ne_zero, ?_⟩
        dsimp only
        have : nw a n j = true ↔ fit a j = true ∧ seenB a n j j = false := by unfold nw; simp
        simp only [this]
      · rw [if_neg (by rw [nI_le (by omega) (by omega)]; omega), nI_s]
        by_cases hc : fit a k = true ∧ seenB a n k j = false
        · rw [if_pos hc, if_neg (by decide), m_isOf, Option.bind_some, h44]
          dsimp only
          by_cases hb : hasB (fits a) j
          · have hfj : fit a j = true := (has_fits hO (by omega)).mp hb
            rw [if_pos hb, if_neg (by decide), show (20 : Int32) = nI 20 from rfl, nI_mul, nI_mul, nI_add, nI_add, if_neg (gdn (by omega) (by omega)), if_neg (gdn (by omega) (by omega)), nI_cl (show 20 * j + n < 2147483648 by omega), nI_cl (show 20 * k + n < 2147483648 by omega)]
            have e1 := hv j (by omega) hfj n hn
            have e2 := hv k hk' hc.1 n hn
            by_cases he : NN a j n = NN a k n
            · rw [if_pos (show τ 28 (20 * j + n) = τ 28 (20 * k + n) by rw [e1, e2]; exact he), ev_bd, ev_s]
              refine Or.inl ⟨rfl, by omega, ?_⟩
              rw [if_neg]
              rintro ⟨-, h2⟩
              rw [seenB_s, hfj, decide_eq_true he] at h2
              simp at h2
            · rw [if_neg (show ¬ τ 28 (20 * j + n) = τ 28 (20 * k + n) by rw [e1, e2]; exact he), ev_bd, ev_s]
              refine Or.inl ⟨rfl, by omega, ?_⟩
              rw [if_pos]
              refine ⟨hc.1, ?_⟩
              rw [seenB_s, hc.2, hfj, decide_eq_false he]; rfl
          · have hfj : fit a j = false := by
              cases h : fit a j with
              | false => rfl
              | true => exact absurd ((has_fits hO (by omega)).mpr h) hb
            rw [if_neg hb, if_pos rfl, ev_bd, ev_s]
            refine Or.inl ⟨rfl, by omega, ?_⟩
            rw [if_pos]
            refine ⟨hc.1, ?_⟩
            rw [seenB_s, hc.2, hfj]; rfl
        · rw [if_neg hc, if_pos rfl, ev_s]
          refine Or.inr ⟨Nat.one_ne_zero, ?_⟩
          dsimp only
          rw [if_neg]
          intro hw
          unfold nw at hw
          rw [Bool.and_eq_true] at hw
          refine hc ⟨hw.1, ?_⟩
          cases hs : seenB a n k j with
          | false => rfl
          | true =>
            have := seenB_mo hs (k - j)
            rw [show j + (k - j) = k by omega] at this
            rw [this] at hw; exact absurd hw.2 (by decide)
    · rintro ⟨_, _, _, _⟩ e
      cases e
      dsimp only
      by_cases hw : nw a n k = true
      · rw [if_pos hw, if_neg (by decide), ev_bd, ev_bd, ev_s]
        exact Or.inl ⟨rfl, by omega, by rw [cn_s, if_pos hw]⟩
      · rw [if_neg hw, if_pos rfl, ev_bd, ev_bd, ev_s]
        exact Or.inl ⟨rfl, by omega, by rw [cn_s, if_neg hw]⟩
theorem PP.ok_look {N : Nat} (hN : 5000 < N) : Ok_look N Rl := by
  rintro w σ τ ⟨a, hO, hC, hM⟩
  have hF := hO.1.1
  have hM0 := hM.code 0
  by_cases hw : 0 ≤ w ∧ w ≤ 1
  · have hw1 : ¬ w < 0 := by have := hw.1; grind
    obtain ⟨z, hz⟩ : ∃ z, lks (fun n => cn a n a.1) 20 = z := ⟨_, rfl⟩
    refine okS (a := a) (r := if w = 0 then z.2 else z.1) (D := D1) hO (Or.inl ⟨rfl, rfl⟩) ?_ ?_
    · unfold f_X11_look_0
      rw [c_what, Option.bind_some, if_pos hw]
      dsimp only
      rw [if_pos rfl]
      refine (c_who hN hO hC).bind ?_
      rintro ⟨r, σ1⟩ ⟨e, hR, hv⟩
      dsimp only at e hR hv ⊢
      subst e
      rw [ev_bd, ev_b]
      refine ev_lp (fun k q => q = ((lks (fun n => cn a n a.1) k).1, (lks (fun n => cn a n a.1) k).2, nI (k + 1), σ1)) 20 N _ (by omega) rfl ?_
      rintro k _ hk rfl
      unfold s_X11_look_0_h18 f_X11_look_0_b47
      dsimp only
      by_cases hk2 : k = 20
      · subst hk2
        rw [if_pos (by decide), ev_s]
        refine Or.inr ⟨Nat.one_ne_zero, ?_⟩
        dsimp only
        by_cases h0 : w = 0
        · rw [if_pos h0, ev_s, if_pos h0, hz]; exact ⟨rfl, rfl, hR⟩
        · rw [if_neg h0, ev_s, if_neg h0, hz]; exact ⟨rfl, rfl, hR⟩
      · rw [if_neg (by rw [show (20 : Int32) = nI 20 from rfl, nI_lt (by omega) (by omega)]; omega), c_unlike (by omega) hO hR (by omega) hv, Option.bind_some, ev_bd]
        dsimp only
        rw [ev_i]
        refine ⟨fun h => ?_, fun h => ?_⟩
        · rw [ev_bd, ev_s]
          exact Or.inl ⟨rfl, by omega, by rw [lks_s, if_pos h, nI_s]⟩
        · rw [ev_bd, ev_s]
          exact Or.inl ⟨rfl, by omega, by rw [lks_s, if_neg h, nI_s]⟩
    · unfold f_X12_look
      rw [ev_bd, if_neg hw1, if_pos hw.2]
      refine (m_fits hN hO hM0).bind ?_
      rintro τ1 ⟨h44, hR1, hc1⟩
      refine (m_openf (by omega) hO hR1).bind ?_
      rintro τ2 ⟨hX2, hp2, hf2⟩
      have hc2 : τ2 0 2 = 0 := by rw [hf2.2 2 (by decide), hc1]; rfl
      refine Ev.bind (P := fun z => RlM a z.2.2 ∧ z.2.2 0 44 = fits a ∧ (∀ f, f < a.1 → fit a f = true → ∀ n, n < 20 → z.2.2 28 (20 * f + n) = NN a f n) ∧ z.2.2 0 2 = 0) ?_ ?_
      · refine ev_lp (fun k q => q.1 = nI k ∧ MX a.1 a.2.1 a.2.2.1.1 0 q.2 ∧ PkM a τ1 q.2 ∧ q.2 0 44 = fits a ∧ (∀ f, f < k → fit a f = true → ∀ n, n < 20 → q.2 28 (20 * f + n) = NN a f n) ∧ q.2 0 2 = 0) a.1 N _ (by omega) ⟨rfl, hX2, hp2, by dsimp only; rw [hf2.2 44 (by decide)]; exact h44, fun f hf => absurd hf (by omega), hc2⟩ ?_
        rintro k ⟨_, τ3⟩ hk ⟨e, hX3, hp3, h443, hi3, hc3⟩
        dsimp only at e hX3 hp3 h443 hi3 hc3
        subst e
        have l3 := hX3.1.2.1
        unfold s_X12_look_h35 f_X12_look_b108
        dsimp only
        by_cases hkF : k = a.1
        · subst hkF
          rw [if_pos (by rw [l3]; exact Int32.le_refl _), ev_s]
          exact Or.inr ⟨Nat.one_ne_zero, hR1.q hp3.2 hX3.2.2 hX3.2.1, h443, hi3, hc3⟩
        · have hk' : k < a.1 := by omega
          rw [if_neg (by rw [l3, nI_le (by omega) (by omega)]; omega), m_isOf, Option.bind_some, h443, nI_s]
          dsimp only
          by_cases hb : hasB (fits a) k
          · have hfk : fit a k = true := (has_fits hO hk').mp hb
            have hsl := (fit_iff.mp hfk).1
            rw [if_pos hb, if_neg (by decide), if_neg (gdn (by omega) (by omega)), nI_cl (show k < 2147483648 by omega), ev_bd]
            have f4 : FM [13] [] τ3 (wr τ3 13 k 1) := (FM.refl _ _ _).w (by decide) (by decide)
            have hX4 : MX a.1 a.2.1 (sW a.2.2.1.1 k 1) 0 (wr τ3 13 k 1) := ⟨hX3.1.fr f4 (by decide), hX3.2.1, hX3.2.2.w hk'⟩
            refine Ev.bind (P := fun z => FM [13, 14, 15, 18, 19, 28] [28, 35] τ3 z.2.2 ∧ LM a.1 a.2.1 z.2.2 ∧ z.2.2 0 32 = -1 ∧ (∀ n, n < 20 → z.2.2 28 (20 * k + n) = NN a k n) ∧ ∀ j, j < 20 * k → z.2.2 28 j = τ3 28 j) ?_ ?_
            · refine ev_lp (fun m q => q.1 = nI m ∧ MX a.1 a.2.1 (sW a.2.2.1.1 k 1) m q.2 ∧ FM [13, 14, 15, 18, 19, 28] [28, 35] τ3 q.2 ∧ (∀ n, n < m → q.2 28 (20 * k + n) = NN a k n) ∧ ∀ j, j < 20 * k → q.2 28 j = τ3 28 j) 20 N _ (by omega) ⟨rfl, hX4, f4.mo (by decide) (by decide), fun n hn => absurd hn (by omega), fun j hj => rfl⟩ ?_
              rintro m ⟨_, τ5⟩ hm ⟨e, hX5, hf5, hi5, ho5⟩
              dsimp only at e hX5 hf5 hi5 ho5
              subst e
              unfold s_X12_look_h68
              dsimp only
              by_cases hm2 : m = 20
              · subst hm2
                rw [if_pos (by decide), ev_s]
                exact Or.inr ⟨Nat.one_ne_zero, hf5, hX5.1, hX5.2.1, hi5, ho5⟩
              · rw [if_neg (by rw [show (20 : Int32) = nI 20 from rfl, nI_le (by omega) (by omega)]; omega)]
                refine (m_go (by omega) hO.1 (sW1_ok hO hsl) hO.2.1.1.2 (by omega) hX5).bind ?_
                rintro τ6 ⟨e35, hX6, hf6⟩
                rw [show (20 : Int32) = nI 20 from rfl, nI_mul, nI_add, if_neg (gdn (by omega) (by omega)), nI_cl (by omega), ev_bd, ev_bd, ev_s]
                have f7 : FM [28] [] τ6 (wr τ6 28 (20 * k + m) (τ6 0 35)) := (FM.refl _ _ _).w (by decide) (by decide)
                refine Or.inl ⟨rfl, by omega, nI_s _, ⟨hX6.1.fr f7 (by decide), hX6.2.1, hX6.2.2.fr f7 (by decide) (by decide)⟩, (hf5.tr (hf6.mo (by decide) (by decide))).tr (f7.mo (by decide) (by decide)), ?_, ?_⟩
                · intro n hn
                  dsimp only
                  rw [wr_e]
                  by_cases h : n = m
                  · subst h; rw [upd_e]; exact e35
                  · rw [upd_n (by omega), hf6.1 28 (by decide) (by decide)]; exact hi5 n (by omega)
                · intro j hj
                  dsimp only
                  rw [wr_e, upd_n (by omega), hf6.1 28 (by decide) (by decide)]; exact ho5 j hj
            · rintro ⟨_, _, τ5⟩ ⟨hf5, hL5, h325, hi5, ho5⟩
              dsimp only at hf5 hL5 h325 hi5 ho5 ⊢
              refine Ev.bind (m_unpack_21 (b := 0) (by omega) (by omega)) ?_
              rintro τ6 ⟨hu, hf6⟩
              rw [ev_bd, ev_s]
              have hr5 : rowM a.1 a.2.2.1.1 (τ5 21) 0 := by rw [hf5.1 21 (by decide) (by decide)]; exact hp3.1
              have hp6 : PkM a τ1 τ6 := ⟨by rw [hf6.1 21 (by decide) (by decide)]; exact hr5, (hp3.2.tr (hf5.mo (by decide) (by decide))).tr (hf6.mo (by decide) (by decide))⟩
              refine Or.inl ⟨rfl, hk', rfl, ⟨hL5.fr hf6 (by decide), ?_, hu _ _ hF hr5⟩, hp6, ?_, ?_, ?_⟩
              · dsimp only; rw [hf6.2 32 (by decide)]; exact h325
              · dsimp only; rw [hf6.2 44 (by decide), hf5.2 44 (by decide)]; exact h443
              · intro f hf hft n hn
                dsimp only
                rw [hf6.1 28 (by decide) (by decide)]
                by_cases e : f = k
                · subst e; exact hi5 n hn
                · rw [ho5 _ (by omega)]; exact hi3 f (by omega) hft n hn
              · dsimp only; rw [hf6.2 2 (by decide), hf5.2 2 (by decide)]; exact hc3
          · rw [if_neg hb, if_pos rfl, ev_bd, ev_s]
            refine Or.inl ⟨rfl, hk', rfl, hX3, hp3, h443, ?_, hc3⟩
            intro f hf hft n hn
            by_cases e : f = k
            · subst e; exact absurd ((has_fits hO hk').mpr hft) hb
            · exact hi3 f (by omega) hft n hn
      · rintro ⟨_, _, τ3⟩ ⟨hR3, h443, hv, hc3⟩
        dsimp only at hR3 h443 hv hc3 ⊢
        rw [ev_b]
        refine ev_lp (fun k q => q = ((lks (fun n => cn a n a.1) k).2, (lks (fun n => cn a n a.1) k).1, nI k, τ3)) 20 N _ (by omega) rfl ?_
        rintro k _ hk rfl
        unfold s_X12_look_h121 f_X12_look_b153
        dsimp only
        by_cases hk2 : k = 20
        · subst hk2
          rw [if_pos (by decide), ev_s]
          refine Or.inr ⟨Nat.one_ne_zero, ?_⟩
          dsimp only
          by_cases h0 : w = 0
          · rw [if_pos h0, ev_s, if_pos h0, hz]; exact ⟨hc3, rfl, hR3⟩
          · rw [if_neg h0, ev_s, if_neg h0, hz]; exact ⟨hc3, rfl, hR3⟩
        · rw [if_neg (by rw [show (20 : Int32) = nI 20 from rfl, nI_le (by omega) (by omega)]; omega), m_unlike (by omega) hO hR3 h443 (by omega) hv, Option.bind_some, ev_bd]
          dsimp only
          rw [ev_i]
          refine ⟨fun h => ?_, fun h => ?_⟩
          · have h' : ¬ cn a k a.1 ≤ (lks (fun n => cn a n a.1) k).1 := by grind
            rw [ev_bd, ev_bd, ev_s]
            exact Or.inl ⟨rfl, by omega, by rw [lks_s, if_neg h', nI_s]⟩
          · have h' : cn a k a.1 ≤ (lks (fun n => cn a n a.1) k).1 := by grind
            rw [ev_bd, ev_s]
            exact Or.inl ⟨rfl, by omega, by rw [lks_s, if_pos h', nI_s]⟩
  · refine okF (a := a) (cC := 1) (cM := 1) (D := D1) hO (by decide) (Or.inr ⟨rfl, rfl⟩) ?_ ?_
    · unfold f_X11_look_0
      rw [c_what, Option.bind_some, if_neg hw]
      dsimp only
      rw [if_neg (by decide), ev_s]
      exact ⟨rfl, hC⟩
    · unfold f_X12_look f_X12_look_b14 f_X12_fail
      simp only [bd, Option.bind_some]
      have fin : Ev (some ((0 : Int32), wr (wr τ 0 2 0) 0 2 1)) (fun q => q.2 0 2 = 1 ∧ RlM a q.2) := ev_s.mpr ⟨rfl, hM0.code 1⟩
      by_cases h0 : w < 0
      · rw [if_pos h0]; exact fin
      · rw [if_neg h0, if_neg (fun h => hw ⟨by grind, h⟩)]; exact fin
