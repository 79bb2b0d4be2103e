/-! ===== by mist ===== -/
abbrev PP.mst (w k : Nat) : Nat := if hasB (nI w) k then 9 else 0
def PP.bm (a : Ab) (w : Nat) : Nat → Sg
  | 0 => a.2.2.1.1
  | k + 1 => tick a.1 a.2.1 (nI (mst w k)) (bm a w k)
theorem PP.bm_s (a : Ab) (w k : Nat) : bm a w (k + 1) = tick a.1 a.2.1 (nI (mst w k)) (bm a w k) := rfl
def PP.bw (t : Int32) (w : Nat) : Nat → Int32
  | 0 => 1
  | k + 1 => bw t w k * (if hasB (nI w) k then t else 10 - t)
theorem PP.bw_s (t : Int32) (w k : Nat) : bw t w (k + 1) = bw t w k * (if hasB (nI w) k then t else 10 - t) := rfl
def PP.bcm (a : Ab) (w : Nat) : Nat → Int32
  | 0 => 0
  | k + 1 => bcm a w k ||| nds a.1 (bm a w k)
theorem PP.bcm_s (a : Ab) (w k : Nat) : bcm a w (k + 1) = bcm a w k ||| nds a.1 (bm a w k) := rfl
theorem PP.bm_t (a : Ab) (w : Nat) : ∀ k, bm a w k 0 0 = a.2.2.1.1 0 0 + nI k
  | 0 => (Int32.add_zero _).symm
  | k + 1 => by rw [bm_s, tick_t, bm_t a w k, ← nI_s]; exact Int32.add_assoc _ _ _
theorem PP.bm_h (a : Ab) (w : Nat) : ∀ k, bm a w k 4 = a.2.2.1.1 4
  | 0 => rfl
  | k + 1 => by rw [bm_s, tick_h, bm_h a w k]
theorem PP.bm_tp (a : Ab) (w k : Nat) : tp a.2.1 (bm a w k) = tp a.2.1 a.2.2.1.1 := by
  funext i; unfold tp; rw [bm_h]
theorem PP.bm_ok {a : Ab} (hO : OKa a) (w : Nat) : ∀ k, k ≤ 100 → StOK a.1 (bm a w k)
  | 0, _ => hO.2.1.1.1
  | k + 1, hk => by
    rw [bm_s]
    refine tick_ok hO.1 (bm_ok hO w k (by omega)) ?_
    rw [bm_t]
    have h1 := hO.2.1.1.2
    have h0 := hO.2.1.1.1.1.1
    have h2 : nI k ≤ nI 100 := (nI_le (by omega) (by omega)).mpr (by omega)
    have h3 := nI_n0 (show k < 2147483648 by omega)
    rw [show nI 100 = 100 from rfl] at h2
    grind
theorem PP.bm_n {a : Ab} (hO : OKa a) (w : Nat) {f : Nat} (hf : f < a.1) : ∀ k, k ≤ 100 → (a.2.2.1.1 3 f ≤ bm a w k 3 f ∧ bm a w k 3 f ≤ 999) ∧ (bm a w k 3 f ≤ a.2.2.1.1 3 f ↔ ¬ (hasB (bcm a w k) f ∧ a.2.2.1.1 3 f < 999))
  | 0, _ => by
    have h := (hO.2.1.1.1.2.2 f hf).2.2.1
    refine ⟨⟨Int32.le_refl _, h.2⟩, fun _ hh => hasB_0 (by have := hO.1.1; omega) hh.1, fun _ => Int32.le_refl _⟩
  | k + 1, hk => by
    have hF := hO.1.1
    obtain ⟨⟨h1, h2⟩, h3⟩ := bm_n hO w hf k (by omega)
    have h0 := (hO.2.1.1.1.2.2 f hf).2.2.1
    have e : bm a w (k + 1) 3 f = if bm a w k 1 f = 1 then (if 999 < bm a w k 3 f + 1 then 999 else bm a w k 3 f + 1) else bm a w k 3 f := by
      rw [bm_s]
      show (if f < a.1 then nN (bm a w k) f else bm a w k 3 f) = _
      rw [if_pos hf]; rfl
    have hb : hasB (bcm a w (k + 1)) f ↔ hasB (bcm a w k) f ∨ bm a w k 1 f = 1 := by
      rw [bcm_s, hasB_or (by omega), has_nds hF (by omega)]
      exact ⟨fun h => h.elim Or.inl (fun h => Or.inr h.2), fun h => h.elim Or.inl (fun h => Or.inr ⟨hf, h⟩)⟩
    rw [e, hb]
    generalize bm a w k 3 f = v at *
    generalize a.2.2.1.1 3 f = u at *
    by_cases hw : bm a w k 1 f = 1
    · rw [if_pos hw]
      by_cases h9 : 999 < v + 1
      · rw [if_pos h9]
        refine ⟨⟨by grind, by grind⟩, ?_⟩
        constructor
        · rintro hh ⟨-, hlt⟩; grind
        · intro hh
          have : ¬ u < 999 := fun hlt => hh ⟨Or.inr hw, hlt⟩
          grind
      · rw [if_neg h9]
        refine ⟨⟨by grind, by grind⟩, ?_⟩
        constructor
        · rintro hh ⟨-, hlt⟩; grind
        · intro hh
          have : ¬ u < 999 := fun hlt => hh ⟨Or.inr hw, hlt⟩
          grind
    · rw [if_neg hw]
      refine ⟨⟨h1, h2⟩, ?_⟩
      rw [h3]
      constructor
      · intro hh hx; exact hh ⟨hx.1.resolve_right hw, hx.2⟩
      · intro hh hx; exact hh ⟨Or.inl hx.1, hx.2⟩
def PP.bsm (a : Ab) (f n : Nat) (t : Int32) : Nat → Int32
  | 0 => 0
  | w + 1 => if bm a w n 3 f ≤ a.2.2.1.1 3 f then bsm a f n t w else bsm a f n t w + bw t w n
theorem PP.bsm_s (a : Ab) (f n : Nat) (t : Int32) (w : Nat) : bsm a f n t (w + 1) = if bm a w n 3 f ≤ a.2.2.1.1 3 f then bsm a f n t w else bsm a f n t w + bw t w n := rfl
theorem PP.bit_p : ∀ n : Nat, n < 6 → bit n = nI (2 ^ n) := by decide
theorem PP.pow_6 : ∀ n : Nat, n < 6 → 2 ^ n ≤ 32 := by decide
theorem PP.ok_byMist {N : Nat} (hN : 5000 < N) : Ok_byMist N Rl := by
  rintro x y t σ τ ⟨a, hO, hC, hM⟩
  have hF := hO.1.1
  have lC := hC.1.2.1
  have hM0 := hM.code 0
  have lM : (wr τ 0 2 0) 3 0 = nI a.1 := hM.1.2.1
  have e5 : (5 : Int64) = (5 : Int32).toInt64 := rfl
  have e10 : (10 : Int64) = (10 : Int32).toInt64 := rfl
  by_cases h : 0 ≤ x ∧ x < nI a.1
  · obtain ⟨f, hf, rfl⟩ := farm_n hF h
    by_cases h2 : (1 ≤ y ∧ y ≤ 5) ∧ 0 ≤ t ∧ t ≤ 10
    · obtain ⟨n, hn1, hn2, rfl⟩ := in_n (lo := 1) (hi := 5) (by omega) h2.1 (by omega)
      have hb := bit_p n (by omega)
      have hp := pow_6 n (by omega)
      refine okS (a := a) (r := bsm a f n t (2 ^ n)) (D := D3) hO (Or.inl ⟨rfl, rfl⟩) ?_ ?_
      · unfold f_X11_byMist_0
        rw [c_farm hF lC, Option.bind_some, if_pos h]
        dsimp only
        rw [if_pos rfl, c_within, Option.bind_some, if_pos h2.1]
        dsimp only
        rw [if_pos rfl, c_within, Option.bind_some, if_pos h2.2]
        dsimp only
        rw [if_pos rfl, ev_b]
        refine ev_lp (fun w q => q.1 = bsm a f n t w ∧ q.2.1 = nI w ∧ RlC a q.2.2) (2 ^ n) N _ (by omega) ⟨rfl, rfl, hC⟩ ?_
        rintro w ⟨_, _, σ1⟩ hw ⟨e1, e2, hR⟩
        dsimp only at e1 e2 hR
        subst e1 e2
        unfold s_X11_byMist_0_h24 f_X11_byMist_0_b157
        dsimp only
        by_cases hwn : w = 2 ^ n
        · subst hwn
          rw [if_pos (by rw [show (1 : Int32) <<< (nI n &&& 31) = nI (2 ^ n) from hb]; exact Int32.le_refl _), ev_s]
          exact Or.inr ⟨Nat.one_ne_zero, ev_s.mpr ⟨rfl, rfl, hR⟩⟩
        · rw [if_neg (by rw [show (1 : Int32) <<< (nI n &&& 31) = nI (2 ^ n) from hb, nI_le (by omega) (by omega)]; omega), nI_s]
          refine (c_open (by omega) hO hR).bind ?_
          rintro σ2 ⟨hX2, hf2⟩
          refine Ev.bind (P := fun z => z.2.1 = bw t w n ∧ SC 56 a.1 (bm a w n) z.2.2.2 ∧ Fr qC σ1 z.2.2.2) ?_ ?_
          · refine ev_lp (fun (k : Nat) (q : Int32 × Int32 × Sg) => q.1 = bw t w k ∧ q.2.1 = nI k ∧ SC 56 a.1 (bm a w k) q.2.2 ∧ Fr qC σ1 q.2.2) n N _ (by omega) ⟨rfl, rfl, hX2.2.2.1, hf2⟩ ?_
            rintro k ⟨_, _, σ3⟩ hk ⟨e1, e2, hs3, hf3⟩
            dsimp only at e1 e2 hs3 hf3
            subst e1 e2
            unfold s_X11_byMist_0_h52 f_X11_byMist_0_b74 f_X11_byMist_0_b91 f_X11_byMist_0_b113
            dsimp only
            by_cases hkn : k = n
            · subst hkn
              rw [if_pos (Int32.le_refl _), ev_s]
              exact Or.inr ⟨Nat.one_ne_zero, rfl, hs3, hf3⟩
            · rw [if_neg (by rw [nI_le (by omega) (by omega)]; omega), nI_s]
              have hR3 : RlC a σ3 := hR.q hf3
              have hr3 : RC 47 a.1 a.2.1 (tp a.2.1 (bm a w k)) σ3 := by rw [bm_tp]; exact hR3.2.2.1
              have fin : ∀ m : Nat, m < 10 → mst w k = m → ∀ v : Int32, v = bw t w (k + 1) → Ev ((f_X2_step_55_47 N (nI m) σ3).bind fun q1 => bd (nI (k + 1)) fun v2 => some (0, v, v2, q1.2)) (fun r => (r.1 = 0 ∧ k < n ∧ r.2.1 = bw t w (k + 1) ∧ r.2.2.1 = nI (k + 1) ∧ SC 56 a.1 (bm a w (k + 1)) r.2.2.2 ∧ Fr qC σ1 r.2.2.2) ∨ (r.1 ≠ 0 ∧ r.2.1 = bw t w n ∧ SC 56 a.1 (bm a w n) r.2.2.2 ∧ Fr qC σ1 r.2.2.2)) := by
                intro m hm em v ev
                refine (c_step_47 (by omega) hO.1 hR3.1 hs3 hr3 hm).bind ?_
                rintro ⟨r, σ4⟩ ⟨-, hs4, -, hf4⟩
                rw [ev_bd, ev_s]
                refine Or.inl ⟨rfl, by omega, ev, rfl, ?_, hf3.tr (hf4.mo (by decide))⟩
                rw [bm_s, em]; exact hs4
              by_cases hbk : hasB (nI w) k
              · rw [if_pos hbk, if_neg (by decide), ev_bd, if_neg (by decide)]
                exact fin 9 (by omega) (if_pos hbk) _ (by rw [bw_s, if_pos hbk])
              · rw [if_neg hbk, if_pos rfl, ev_bd, if_pos rfl]
                exact fin 0 (by omega) (if_neg hbk) _ (by rw [bw_s, if_neg hbk])
          · rintro ⟨_, v, _, σ3⟩ ⟨e, hs3, hf3⟩
            dsimp only at e hs3 hf3 ⊢
            have hR3 : RlC a σ3 := hR.q hf3
            have v59 : σ3 59 f = bm a w n 3 f := (hs3.2.2.1 f hf).2.2.1
            have v25 : σ3 25 f = a.2.2.1.1 3 f := (hR3.2.1.1.2.2.1 f hf).2.2.1
            rw [if_neg (gdn (by omega) (by omega)), if_neg (gdn (by omega) (by omega)), nI_cl (show f < 2147483648 by omega)]
            by_cases hle : bm a w n 3 f ≤ a.2.2.1.1 3 f
            · rw [if_pos (show σ3 59 f ≤ σ3 25 f by rw [v59, v25]; exact hle), ev_bd, ev_s]
              exact Or.inl ⟨rfl, by omega, by dsimp only; rw [bsm_s, if_pos hle], rfl, hR3⟩
            · rw [if_neg (show ¬ σ3 59 f ≤ σ3 25 f by rw [v59, v25]; exact hle), ev_bd, ev_bd, ev_s]
              exact Or.inl ⟨rfl, by omega, by dsimp only; rw [bsm_s, if_neg hle, e], rfl, hR3⟩
      · unfold f_X12_byMist
        rw [ev_bd, m_isFarm hF lM, Option.bind_some, if_pos h]
        dsimp only
        rw [if_neg (by decide), e1i, e5, m_isIn, Option.bind_some, if_pos h2.1]
        dsimp only
        rw [if_neg (by decide), e0i, e10, m_isIn, Option.bind_some, if_pos h2.2]
        dsimp only
        rw [if_neg (by decide)]
        refine (m_openf (by omega) hO hM0).bind ?_
        rintro τ1 ⟨hX1, hp1, hf1⟩
        rw [ev_b]
        refine ev_lp (fun (w : Nat) (q : Int32 × Int32 × Sg) => q.1 = bsm a f n t w ∧ q.2.1 = nI w ∧ LM a.1 a.2.1 q.2.2 ∧ SM a.1 a.2.2.1.1 q.2.2 ∧ PkM a (wr τ 0 2 0) q.2.2 ∧ q.2.2 0 2 = 0) (2 ^ n) N _ (by omega) ⟨rfl, rfl, hX1.1, hX1.2.2, hp1, by dsimp only; rw [hf1.2 2 (by decide)]; rfl⟩ ?_
        rintro w ⟨_, _, τ2⟩ hw ⟨e1, e2, hL2, hs2, hp2, hc2⟩
        dsimp only at e1 e2 hL2 hs2 hp2 hc2
        subst e1 e2
        unfold s_X12_byMist_h64 f_X12_byMist_b176
        dsimp only
        by_cases hwn : w = 2 ^ n
        · subst hwn
          rw [if_pos (by rw [show (1 : Int32) <<< (nI n &&& 31) = nI (2 ^ n) from hb]; exact Int32.le_refl _), ev_s]
          refine Or.inr ⟨Nat.one_ne_zero, ?_⟩
          dsimp only
          rw [ev_bd, ev_s]
          have f3 : FM [] [32] τ2 (wr τ2 0 32 (-1)) := (FM.refl _ _ _).w0 (by decide)
          refine ⟨?_, rfl, hM0.q (hp2.2.tr (f3.mo (by decide) (by decide))) (hs2.fr f3 (by decide) (by decide)) ?_⟩
          · exact (f3.2 2 (by decide)).trans hc2
          · show wr τ2 0 32 (-1) 0 32 = -1
            rw [wr_e, upd_e]
        · rw [if_neg (by rw [show (1 : Int32) <<< (nI n &&& 31) = nI (2 ^ n) from hb, nI_le (by omega) (by omega)]; omega), nI_s]
          refine Ev.bind (P := fun z => z.2.1 = bw t w n ∧ z.2.2.1 = bcm a w n ∧ LM a.1 a.2.1 z.2.2.2.2 ∧ PkM a (wr τ 0 2 0) z.2.2.2.2 ∧ z.2.2.2.2 0 2 = 0) ?_ ?_
          · refine ev_lp (fun (k : Nat) (q : Int32 × Int32 × Int32 × Sg) => q.1 = bw t w k ∧ q.2.1 = bcm a w k ∧ q.2.2.1 = nI k ∧ LM a.1 a.2.1 q.2.2.2 ∧ SM a.1 (bm a w k) q.2.2.2 ∧ PkM a (wr τ 0 2 0) q.2.2.2 ∧ q.2.2.2 0 2 = 0) n N _ (by omega) ⟨rfl, rfl, rfl, hL2, hs2, hp2, hc2⟩ ?_
            rintro k ⟨_, _, _, τ3⟩ hk ⟨e1, e2, e3, hL3, hs3, hp3, hc3⟩
            dsimp only at e1 e2 e3 hL3 hs3 hp3 hc3
            subst e1 e2 e3
            unfold s_X12_byMist_h81 f_X12_byMist_b104 f_X12_byMist_b127
            dsimp only
            by_cases hkn : k = n
            · subst hkn
              rw [if_pos (Int32.le_refl _), ev_s]
              exact Or.inr ⟨Nat.one_ne_zero, rfl, rfl, hL3, hp3, hc3⟩
            · rw [if_neg (by rw [nI_le (by omega) (by omega)]; omega), nI_s, m_isOf, Option.bind_some]
              dsimp only
              have fin : ∀ m : Nat, m < 10 → mst w k = m → ∀ v : Int32, v = bw t w (k + 1) → Ev ((f_X12_aTick N (wr τ3 0 32 (nI m))).bind fun q2 => bd (bcm a w k ||| q2 0 35) fun v3 => bd (nI (k + 1)) fun v4 => some (0, v, v3, v4, q2)) (fun r => (r.1 = 0 ∧ k < n ∧ r.2.1 = bw t w (k + 1) ∧ r.2.2.1 = bcm a w (k + 1) ∧ r.2.2.2.1 = nI (k + 1) ∧ LM a.1 a.2.1 r.2.2.2.2 ∧ SM a.1 (bm a w (k + 1)) r.2.2.2.2 ∧ PkM a (wr τ 0 2 0) r.2.2.2.2 ∧ r.2.2.2.2 0 2 = 0) ∨ (r.1 ≠ 0 ∧ r.2.1 = bw t w n ∧ r.2.2.1 = bcm a w n ∧ LM a.1 a.2.1 r.2.2.2.2 ∧ PkM a (wr τ 0 2 0) r.2.2.2.2 ∧ r.2.2.2.2 0 2 = 0)) := by
                intro m hm em v ev
                have f4 : FM [] [32] τ3 (wr τ3 0 32 (nI m)) := (FM.refl _ _ _).w0 (by decide)
                have hmi : Mi a.2.1 (wr τ3 0 32 (nI m) 0 32) (bm a w k 0 0) = nI m := by
                  unfold Mi
                  rw [wr_e, upd_e, if_neg (nI_m1 (by omega))]
                refine (m_tick (by omega) hO.1 (hL3.fr f4 (by decide)) (hs3.fr f4 (by decide) (by decide)) (bm_ok hO w k (by omega)) hmi).bind ?_
                rintro τ5 ⟨e35, hs5, hf5⟩
                rw [ev_bd, ev_bd, ev_s]
                refine Or.inl ⟨rfl, by omega, ev, by dsimp only; rw [bcm_s, e35], rfl, (hL3.fr f4 (by decide)).fr hf5 (by decide), ?_, (hp3.st f4 (by decide) (by decide)).st hf5 (by decide) (by decide), ?_⟩
                · rw [bm_s, em]; exact hs5
                · dsimp only; rw [hf5.2 2 (by decide), f4.2 2 (by decide)]; exact hc3
              by_cases hbk : hasB (nI w) k
              · rw [if_pos hbk, if_neg (by decide), ev_bd, m_isOf, Option.bind_some]
                dsimp only
                rw [if_pos hbk, if_neg (by decide), ev_bd]
                exact fin 9 (by omega) (if_pos hbk) _ (by rw [bw_s, if_pos hbk])
              · rw [if_neg hbk, if_pos rfl, ev_bd, m_isOf, Option.bind_some]
                dsimp only
                rw [if_neg hbk, if_pos rfl, ev_bd]
                exact fin 0 (by omega) (if_neg hbk) _ (by rw [bw_s, if_neg hbk])
          · rintro ⟨_, v, c, _, τ3⟩ ⟨e1, e2, hL3, hp3, hc3⟩
            dsimp only at e1 e2 hL3 hp3 hc3 ⊢
            subst e1 e2
            refine Ev.bind (m_unpack_21 (b := 0) (by omega) (by omega)) ?_
            rintro τ4 ⟨hu, hf4⟩
            have hs4 := hu _ _ hF hp3.1
            have hL4 := hL3.fr hf4 (by decide)
            have hp4 : PkM a (wr τ 0 2 0) τ4 := ⟨by rw [hf4.1 21 (by decide) (by decide)]; exact hp3.1, hp3.2.tr (hf4.mo (by decide) (by decide))⟩
            have hc4 : τ4 0 2 = 0 := by rw [hf4.2 2 (by decide)]; exact hc3
            have hbn := (bm_n hO w hf n (by omega)).2
            have v15 : τ4 15 f = a.2.2.1.1 3 f := (hs4.2.2 f hf).2.2.1
            have hnm : f_X12_nodsMore N (nI f) (bcm a w n) τ4 = some ((if bm a w n 3 f ≤ a.2.2.1.1 3 f then 0 else 1), τ4) := by
              unfold f_X12_nodsMore f_X12_nodsMore_b24
              rw [m_isOf, Option.bind_some]
              dsimp only
              by_cases hbf : hasB (bcm a w n) f
              · rw [if_pos hbf, if_neg (by decide), if_neg (gdn (by omega) (by omega)), nI_cl (by omega)]
                by_cases h9 : a.2.2.1.1 3 f < 999
                · rw [if_neg (show ¬ 999 ≤ τ4 15 f by rw [v15]; grind), if_neg (fun hh => hbn.mp hh ⟨hbf, h9⟩)]
                · rw [if_pos (show 999 ≤ τ4 15 f by rw [v15]; grind), if_pos (hbn.mpr fun hh => h9 hh.2)]
              · rw [if_neg hbf, if_pos rfl, if_pos (hbn.mpr fun hh => hbf hh.1)]
            rw [hnm, Option.bind_some]
            dsimp only
            by_cases hle : bm a w n 3 f ≤ a.2.2.1.1 3 f
            · rw [if_pos hle, if_pos rfl, ev_bd, ev_bd, ev_s]
              exact Or.inl ⟨rfl, by omega, by dsimp only; rw [bsm_s, if_pos hle]; exact Int32.add_zero _, rfl, hL4, hs4, hp4, hc4⟩
            · rw [if_neg hle, if_neg (by decide), ev_bd, ev_bd, ev_s]
              exact Or.inl ⟨rfl, by omega, by dsimp only; rw [bsm_s, if_neg hle], rfl, hL4, hs4, hp4, hc4⟩
    · refine okF (a := a) (cC := 2) (cM := 2) (D := D3) hO (by decide) (Or.inr (Or.inr ⟨rfl, rfl⟩)) ?_ ?_
      · unfold f_X11_byMist_0
        rw [c_farm hF lC, Option.bind_some, if_pos h]
        dsimp only
        rw [if_pos rfl, c_within, Option.bind_some]
        by_cases h3 : 1 ≤ y ∧ y ≤ 5
        · rw [if_pos h3]
          dsimp only
          rw [if_pos rfl, c_within, Option.bind_some, if_neg (fun h4 => h2 ⟨h3, h4⟩)]
          dsimp only
          rw [if_neg (by decide), ev_s]
          exact ⟨rfl, hC⟩
        · rw [if_neg h3]
          dsimp only
          rw [if_neg (by decide), ev_s]
          exact ⟨rfl, hC⟩
      · unfold f_X12_byMist f_X12_byMist_b43 f_X12_fail
        rw [ev_bd, m_isFarm hF lM, Option.bind_some, if_pos h]
        dsimp only
        rw [if_neg (by decide), e1i, e5, m_isIn, Option.bind_some]
        by_cases h3 : 1 ≤ y ∧ y ≤ 5
        · rw [if_pos h3]
          dsimp only
          rw [if_neg (by decide), e0i, e10, m_isIn, Option.bind_some, if_neg (fun h4 => h2 ⟨h3, h4⟩)]
          simp only [if_true, bd, Option.bind_some]
          rw [ev_s]
          exact ⟨rfl, hM0.code 2⟩
        · rw [if_neg h3]
          simp only [if_true, bd, Option.bind_some]
          rw [ev_s]
          exact ⟨rfl, hM0.code 2⟩
  · refine okF (a := a) (cC := 1) (cM := 1) (D := D3) hO (by decide) (Or.inr (Or.inl ⟨rfl, rfl⟩)) ?_ ?_
    · unfold f_X11_byMist_0
      rw [c_farm hF lC, Option.bind_some, if_neg h]
      dsimp only
      rw [if_neg (by decide), ev_s]
      exact ⟨rfl, hC⟩
    · unfold f_X12_byMist f_X12_fail
      rw [ev_bd, m_isFarm hF lM, Option.bind_some, if_neg h]
      simp only [if_true, bd, Option.bind_some]
      rw [ev_s]
      exact ⟨rfl, hM0.code 1⟩
