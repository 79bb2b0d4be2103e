/-! ===== the fewest from which all are seen ===== -/
def PP.gdW (a : Ab) (w : Nat) : Prop := nxa a (nI w) = alF a.1
theorem PP.al_v {F : Nat} (hF : F ≤ 9) : ∃ M, M < 512 ∧ alF F = nI M ∧ sub F (nI M) := by
  have hs : sub F (alF F) := fun k hk hFk hb => by have := (has_al hF hk).mp hb; omega
  obtain ⟨M, h1, h2⟩ := sub_v (sub_mo hs hF)
  exact ⟨M, h1, h2, h2 ▸ hs⟩
theorem PP.gdW_all {a : Ab} {M : Nat} (hO : OKa a) (hM : alF a.1 = nI M) : gdW a M := by
  have hF := hO.1.1
  unfold gdW
  rw [← hM]
  refine ext_B fun i hi => ⟨fun h => ?_, fun h => (has_nx hi _).mpr (Or.inl h)⟩
  rw [has_al hF hi]
  rcases (has_nx hi _).mp h with h | ⟨k, h1, h2, h3⟩
  · exact (has_al hF hi).mp h
  · exact Classical.byContradiction fun hn => se_sub hO i hi (by omega) h3
theorem PP.c_watch {N : Nat} {a : Ab} {σ : Sg} (hN : 5000 < N) (hO : OKa a) (hC : RlC a σ) (hv : ∀ i, i < a.1 → σ 54 i = se a i) : Ev (f_X10_watch_53 N σ) (fun z => ∃ M, alF a.1 = nI M ∧ M < 512 ∧ LstB (gdW a) (M + 1) z.1 ∧ z.2 = σ) := by
  have hF := hO.1.1
  have l1 := hC.1.2.1
  obtain ⟨M, hM5, eM, sM⟩ := al_v hF
  unfold f_X10_watch_53 f_X9_all_12
  rw [Option.bind_some, ev_bd]
  dsimp only
  rw [l1, show ((1 : Int32) <<< (nI a.1 &&& 31) - 1) = nI M from eM]
  refine Ev.bind (P := fun z => z.2.2.2 = σ ∧ z.1 = 1 ∧ LstB (gdW a) (M + 1) z.2.2.1) ?_ ?_
  · refine ev_lp (fun k q => q.1 = nI k ∧ q.2.2 = σ ∧ ∀ w, w < M + 1 → gdW a w → k ≤ cnt (nI w) 9) (a.1 + 1) N _ (by omega) ⟨rfl, rfl, fun w _ _ => Nat.zero_le _⟩ ?_
    rintro k ⟨_, z, σ1⟩ hk ⟨e1, e2, hg1⟩
    dsimp only at e1 e2 hg1
    subst e1 e2
    unfold s_X10_watch_53_h10
    dsimp only
    by_cases hkF : k = a.1 + 1
    · have h1 := hg1 M (by omega) (gdW_all hO eM)
      have h2 := cnt_sub hF sM
      omega
    · rw [if_neg (by rw [l1, nI_lt (by omega) (by omega)]; omega)]
      refine Ev.bind (P := fun r => r.2.2 = σ1 ∧ ((r.1 = 1 ∧ ∃ b, b < M + 1 ∧ r.2.1 = nI b ∧ gdW a b ∧ cnt (nI b) 9 = k ∧ ∀ w, w < b → gdW a w → cnt (nI w) 9 ≠ k) ∨ (r.1 = 2 ∧ ∀ w, w < M + 1 → gdW a w → cnt (nI w) 9 ≠ k))) ?_ ?_
      · refine ev_lp (fun j q => q = (nI j, σ1) ∧ ∀ w, w < j → gdW a w → cnt (nI w) 9 ≠ k) (M + 1) N _ (by omega) ⟨rfl, fun w hw => absurd hw (by omega)⟩ ?_
        rintro j _ hj ⟨rfl, hg2⟩
        unfold s_X10_watch_53_h23 f_X10_watch_53_b47
        dsimp only
        by_cases hjM : j = M + 1
        · rw [if_pos (by rw [hjM, nI_lt (by omega) (by omega)]; omega), ev_s]
          exact Or.inr ⟨by simp, rfl, Or.inr ⟨rfl, fun w hw => hg2 w (by omega)⟩⟩
        · rw [if_neg (by rw [nI_lt (by omega) (by omega)]; omega), nI_s]
          have skip : (gdW a j → cnt (nI j) 9 ≠ k) → Ev (bd (nI (j + 1)) fun v1 => some (0, v1, σ1)) (fun r => (r.1 = 0 ∧ j < M + 1 ∧ r.2 = (nI (j + 1), σ1) ∧ ∀ w, w < j + 1 → gdW a w → cnt (nI w) 9 ≠ k) ∨ (r.1 ≠ 0 ∧ r.2.2 = σ1 ∧ ((r.1 = 1 ∧ ∃ b, b < M + 1 ∧ r.2.1 = nI b ∧ gdW a b ∧ cnt (nI b) 9 = k ∧ ∀ w, w < b → gdW a w → cnt (nI w) 9 ≠ k) ∨ (r.1 = 2 ∧ ∀ w, w < M + 1 → gdW a w → cnt (nI w) 9 ≠ k)))) := by
            intro hng
            rw [ev_bd, ev_s]
            refine Or.inl ⟨rfl, by omega, rfl, fun w hw gw => ?_⟩
            by_cases e : w = j
            · subst e; exact hng gw
            · exact hg2 w (by omega) gw
          have sj : sub a.1 (nI j) := sub_le hF (by omega) sM (by omega)
          rw [c_bc N _ (sub_mo sj hF), Option.bind_some]
          dsimp only
          have h9 := cnt_le (nI j) 9
          by_cases hcn : cnt (nI j) 9 = k
          · rw [if_pos (by unfold pc; rw [hcn]), c_next (by omega) hO hC hv, Option.bind_some]
            dsimp only
            rw [ev_i, ← eM]
            refine ⟨fun h => ?_, fun h => skip (fun g => absurd g h)⟩
            rw [ev_s]
            exact Or.inr ⟨by simp, rfl, Or.inl ⟨rfl, j, by omega, rfl, h, hcn, hg2⟩⟩
          · rw [if_neg (by unfold pc; rw [nI_eq (by omega) (by omega)]; exact hcn)]
            exact skip (fun _ => hcn)
      · rintro ⟨c, y, σ2⟩ ⟨e2, h⟩
        dsimp only at e2 h ⊢
        rcases h with ⟨rfl, b, hb, rfl, gb, hcb, hw⟩ | ⟨rfl, hw⟩
        · rw [if_pos rfl, ev_s]
          exact Or.inr ⟨by simp, e2, rfl, lst_first hb gb hcb hg1 hw⟩
        · rw [if_neg (by decide), ev_bd, ev_s]
          refine Or.inl ⟨rfl, by omega, nI_s _, e2, fun w hwM gw => ?_⟩
          have h1 := hg1 w hwM gw
          have h2 := hw w hwM gw
          omega
  · rintro ⟨c, y1, y2, σ2⟩ ⟨e2, e1, hl⟩
    dsimp only at e1 e2 hl ⊢
    rw [if_pos e1, ev_s]; exact ⟨M, eM, hM5, hl, e2⟩
def PP.un (g : Nat → Int32) (w : Int32) : Nat → Int32
  | 0 => 0
  | k + 1 => if hasB w k then un g w k ||| (g k ||| bit k) else un g w k
theorem PP.un_s (g : Nat → Int32) (w : Int32) (k : Nat) : un g w (k + 1) = if hasB w k then un g w k ||| (g k ||| bit k) else un g w k := rfl
theorem PP.has_un {g : Nat → Int32} {w : Int32} {i : Nat} (hi : i < 32) : ∀ n, n ≤ 32 → (hasB (un g w n) i ↔ ∃ k, k < n ∧ hasB w k ∧ (hasB (g k) i ∨ k = i))
  | 0, _ => ⟨fun h => absurd h (hasB_0 hi), fun ⟨k, hk, _⟩ => absurd hk (by omega)⟩
  | n + 1, hn => by
    rw [un_s]
    by_cases hb : hasB w n
    · rw [if_pos hb, hasB_or hi, hasB_or hi, hasB_bit (by omega) hi, has_un hi n (by omega)]
      constructor
      · rintro (⟨k, h1, h2⟩ | h)
        · exact ⟨k, by omega, h2⟩
        · exact ⟨n, by omega, hb, h⟩
      · rintro ⟨k, h1, h2, h3⟩
        by_cases e : k = n
        · subst e; exact Or.inr h3
        · exact Or.inl ⟨k, by omega, h2, h3⟩
    · rw [if_neg hb, has_un hi n (by omega)]
      constructor
      · rintro ⟨k, h1, h2⟩; exact ⟨k, by omega, h2⟩
      · rintro ⟨k, h1, h2, h3⟩
        exact ⟨k, by have : k ≠ n := fun e => hb (e ▸ h2); omega, h2, h3⟩
theorem PP.un_nx {F : Nat} {g : Nat → Int32} {w : Int32} (hF : F ≤ 9) (hs : sub F w) : un g w F = nx g w F := by
  refine ext_B fun i hi => ?_
  rw [has_un hi F (by omega), has_nx hi]
  constructor
  · rintro ⟨k, h1, h2, h3 | rfl⟩
    · exact Or.inr ⟨k, h1, h2, h3⟩
    · exact Or.inl h2
  · rintro (h | ⟨k, h1, h2, h3⟩)
    · exact ⟨i, Classical.byContradiction fun hn => hs i hi (by omega) h, h, Or.inr rfl⟩
    · exact ⟨k, h1, h2, Or.inl h3⟩
theorem PP.m_watch {N : Nat} {a : Ab} {τ : Sg} (hN : 5000 < N) (hO : OKa a) (hM : RlM a τ) : Ev (f_X12_watchNow N τ) (fun q => ∃ M, alF a.1 = nI M ∧ M < 512 ∧ LstB (gdW a) (M + 1) q.1 ∧ RlM a q.2 ∧ q.2 0 2 = τ 0 2) := by
  have hF := hO.1.1
  obtain ⟨M, hM5, eM, sM⟩ := al_v hF
  unfold f_X12_watchNow
  refine Ev.bind (P := fun z => RlM a z.2.2 ∧ z.2.2 0 2 = τ 0 2 ∧ ∀ i, i < a.1 → z.2.2 20 i = se a i ||| bit i) ?_ ?_
  · refine ev_lp (fun k q => q.1 = nI k ∧ RlM a q.2 ∧ q.2 0 2 = τ 0 2 ∧ ∀ i, i < k → q.2 20 i = se a i ||| bit i) a.1 N _ (by omega) ⟨rfl, hM, rfl, fun i hi => absurd hi (by omega)⟩ ?_
    rintro k ⟨_, τ1⟩ hk ⟨e, hR, hc, hi⟩
    dsimp only at e hR hc hi
    subst e
    have l1 := hR.1.2.1
    unfold s_X12_watchNow_h2
    dsimp only
    by_cases hkF : k = a.1
    · subst hkF
      rw [if_pos (by rw [l1]; exact Int32.le_refl _), ev_s]
      exact Or.inr ⟨Nat.one_ne_zero, hR, hc, hi⟩
    · rw [if_neg (by rw [l1, nI_le (by omega) (by omega)]; omega), m_seesa (by omega) hO hR (by omega), Option.bind_some]
      simp (disch := omega) only [nI_g, if_false]
      simp (disch := omega) only [nI_cl]
      rw [ev_bd, ev_bd, ev_s]
      have f2 : FM [20] [] τ1 (wr τ1 20 k (se a k ||| bit k)) := (FM.refl _ _ _).w (by decide) (by decide)
      refine Or.inl ⟨rfl, by omega, nI_s _, hR.q0 (f2.mo (by decide) (by decide)), ?_, fun i hik => ?_⟩
      · exact (f2.2 2 (by decide)).trans hc
      · dsimp only
        rw [wr_e]
        by_cases h : i = k
        · subst h; rw [upd_e]
        · rw [upd_n h]; exact hi i (by omega)
  rintro ⟨_, _, τ1⟩ ⟨hR, hc, hv⟩
  dsimp only at hR hc hv ⊢
  have l1 := hR.1.2.1
  have hall : f_X12_all N τ1 = some (nI M, τ1) := by
    unfold f_X12_all
    rw [l1, show ((1 : Int32) <<< (nI a.1 &&& 31) - 1) = nI M from eM]
  rw [ev_b]
  refine ev_lp (fun k q => q.2 = (nI k, τ1) ∧ LstB (gdW a) k q.1) (M + 1) N _ (by omega) ⟨rfl, lst_0⟩ ?_
  rintro k ⟨r, _⟩ hk ⟨e1, hl⟩
  dsimp only at e1 hl
  subst e1
  unfold s_X12_watchNow_h37 f_X12_watchNow_b64 f_X12_watchNow_b119
  dsimp only
  rw [hall, Option.bind_some]
  dsimp only
  by_cases hkM : k = M + 1
  · subst hkM
    rw [if_pos (by rw [nI_lt (by omega) (by omega)]; omega), ev_s]
    exact Or.inr ⟨Nat.one_ne_zero, ev_s.mpr ⟨M, eM, hM5, hl, hR, hc⟩⟩
  · rw [if_neg (by rw [nI_lt (by omega) (by omega)]; omega), nI_s]
    have hkM' : k < M + 1 := by omega
    have sk : sub a.1 (nI k) := sub_le hF (by omega) sM (by omega)
    have skip : LstB (gdW a) (k + 1) r → Ev (bd (nI (k + 1)) fun v1 => some (0, r, v1, τ1)) (fun z => (z.1 = 0 ∧ k < M + 1 ∧ z.2.2 = (nI (k + 1), τ1) ∧ LstB (gdW a) (k + 1) z.2.1) ∨ (z.1 ≠ 0 ∧ Ev (some (z.2.1, z.2.2.2)) (fun q : Int32 × Sg => ∃ M, alF a.1 = nI M ∧ M < 512 ∧ LstB (gdW a) (M + 1) q.1 ∧ RlM a q.2 ∧ q.2 0 2 = τ 0 2))) := by
      intro hl2
      rw [ev_bd, ev_s]
      exact Or.inl ⟨rfl, hkM', rfl, hl2⟩
    have tryk : (r = -1 ∨ ∃ b, b < 2147483648 ∧ r = nI b ∧ cnt (nI k) 9 < cnt (nI b) 9) → Ev ((it (fun q => s_X12_watchNow_h69 N r (nI k) q.1 q.2.1 q.2.2) N ((0 : Int32), (0 : Int32), τ1)).bind fun z6 => (f_X12_all N z6.2.2.2).bind fun q7 => if z6.2.1 = q7.1 then bd (nI (k + 1)) fun v5 => some (0, nI k, v5, q7.2) else bd (nI (k + 1)) fun v5 => some (0, r, v5, q7.2)) (fun z => (z.1 = 0 ∧ k < M + 1 ∧ z.2.2 = (nI (k + 1), τ1) ∧ LstB (gdW a) (k + 1) z.2.1) ∨ (z.1 ≠ 0 ∧ Ev (some (z.2.1, z.2.2.2)) (fun q : Int32 × Sg => ∃ M, alF a.1 = nI M ∧ M < 512 ∧ LstB (gdW a) (M + 1) q.1 ∧ RlM a q.2 ∧ q.2 0 2 = τ 0 2))) := by
      intro hcmp
      refine Ev.bind (P := fun z => z.2 = (nxa a (nI k), 0, τ1)) ?_ ?_
      · refine ev_lp (fun j q => q = (un (se a) (nI k) j, nI j, τ1)) a.1 N _ (by omega) rfl ?_
        rintro j _ hj rfl
        unfold s_X12_watchNow_h69 f_X12_watchNow_b101
        dsimp only
        by_cases hjF : j = a.1
        · subst hjF
          rw [if_pos (by rw [l1]; exact Int32.le_refl _), ev_s]
          exact Or.inr ⟨Nat.one_ne_zero, by dsimp only; rw [un_nx hF sk]⟩
        · rw [if_neg (by rw [l1, nI_le (by omega) (by omega)]; omega), m_isOf, Option.bind_some]
          dsimp only
          by_cases hb2 : hasB (nI k) j
          · rw [if_pos hb2, if_neg (by decide), if_neg (gdn (by omega) (by omega)), nI_cl (show j < 2147483648 by omega), hv j (by omega), ev_bd, ev_bd, ev_s]
            exact Or.inl ⟨rfl, by omega, by rw [un_s, if_pos hb2, nI_s]⟩
          · rw [if_neg hb2, if_pos rfl, ev_bd, ev_bd, ev_s]
            exact Or.inl ⟨rfl, by omega, by rw [un_s, if_neg hb2, nI_s, Int32.or_zero]⟩
      · rintro ⟨z1, z2, z3, τ2⟩ e
        cases e
        dsimp only
        rw [hall, Option.bind_some]
        dsimp only
        rw [ev_i, ← eM]
        refine ⟨fun h => ?_, fun h => skip (lst_no hl h)⟩
        rw [ev_bd, ev_s]
        exact Or.inl ⟨rfl, hkM', rfl, lst_new (by omega) hl h hcmp⟩
    by_cases hr1 : r = -1
    · rw [if_pos hr1]
      exact tryk (Or.inl hr1)
    · obtain ⟨b, hb, er, gb⟩ : ∃ b, b < k ∧ r = nI b ∧ gdW a b := by
        rcases hl with ⟨h0, _⟩ | ⟨b, hb, er, gb, _⟩
        · exact absurd h0 hr1
        · exact ⟨b, hb, er, gb⟩
      have sb : sub 9 r := by rw [er]; exact sub_mo (sub_le hF (by omega) sM (by omega)) hF
      rw [if_neg hr1, m_bc (by omega) _ (sub_mo sk hF), Option.bind_some]
      dsimp only
      rw [m_bc (by omega) _ sb, Option.bind_some]
      dsimp only
      have h9 := cnt_le (nI k) 9
      have h9' := cnt_le (nI b) 9
      by_cases hlt : cnt (nI k) 9 < cnt (nI b) 9
      · rw [if_pos (by rw [er]; unfold pc; rw [nI_lt (by omega) (by omega)]; exact hlt)]
        exact tryk (Or.inr ⟨b, by omega, er, hlt⟩)
      · rw [if_neg (by rw [er]; unfold pc; rw [nI_lt (by omega) (by omega)]; exact hlt)]
        exact skip (lst_more er (by omega) (by omega) hl (by omega))
/-! ===== the longest stare ===== -/
def PP.stI (a : Ab) (f : Nat) (z : Int32 × Int32) : Nat → Int32 × Int32
  | 0 => z
  | j + 1 => if hasB (se a f) (f + 1 + j) ∧ ¬ aw a.2.1 f (f + 1 + j) ≤ (stI a f z j).1 then (aw a.2.1 f (f + 1 + j), 10 * nI f + nI (f + 1 + j)) else stI a f z j
theorem PP.stI_s (a : Ab) (f : Nat) (z : Int32 × Int32) (j : Nat) : stI a f z (j + 1) = if hasB (se a f) (f + 1 + j) ∧ ¬ aw a.2.1 f (f + 1 + j) ≤ (stI a f z j).1 then (aw a.2.1 f (f + 1 + j), 10 * nI f + nI (f + 1 + j)) else stI a f z j := rfl
def PP.stO (a : Ab) : Nat → Int32 × Int32
  | 0 => (0, -1)
  | k + 1 => stI a k (stO a k) (a.1 - (k + 1))
theorem PP.stO_s (a : Ab) (k : Nat) : stO a (k + 1) = stI a k (stO a k) (a.1 - (k + 1)) := rfl
theorem PP.c_stare {N : Nat} {a : Ab} {σ : Sg} (hN : 20 < N) (hO : OKa a) (hC : RlC a σ) (hv : ∀ i, i < a.1 → σ 54 i = se a i) : f_X10_stare_53 N σ = some ((stO a a.1).2, σ) := by
  have hF := hO.1.1
  have l1 := hC.1.2.1
  unfold f_X10_stare_53
  rw [← ev_eq, ev_b]
  refine ev_lp (fun k q => q = ((stO a k).1, (stO a k).2, nI k, σ)) a.1 N _ (by omega) rfl ?_
  rintro k _ hk rfl
  unfold s_X10_stare_53_h6
  dsimp only
  by_cases hkF : k = a.1
  · subst hkF
    rw [if_pos (by rw [l1]; exact Int32.le_refl _), ev_s]
    exact Or.inr ⟨Nat.one_ne_zero, ev_s.mpr rfl⟩
  · rw [if_neg (by rw [l1, nI_le (by omega) (by omega)]; omega), ev_bd, nI_s]
    refine Ev.bind (P := fun z => z.2 = ((stO a (k + 1)).1, (stO a (k + 1)).2, 0, σ)) ?_ ?_
    · refine ev_lp (fun j q => q = ((stI a k (stO a k) j).1, (stI a k (stO a k) j).2, nI (k + 1 + j), σ)) (a.1 - (k + 1)) N _ (by omega) rfl ?_
      rintro j _ hj rfl
      unfold s_X10_stare_53_h22 f_X10_stare_53_b82
      dsimp only
      by_cases hjF : j = a.1 - (k + 1)
      · rw [if_pos (by rw [l1, nI_le (by omega) (by omega)]; omega), ev_s]
        exact Or.inr ⟨Nat.one_ne_zero, by dsimp only; rw [stO_s, hjF]⟩
      · rw [if_neg (by rw [l1, nI_le (by omega) (by omega)]; omega), if_neg (gdn (by omega) (by omega)), nI_cl (show k < 2147483648 by omega), nI_s]
        have ev := hv k (by omega)
        by_cases hb : hasB (se a k) (k + 1 + j)
        · rw [if_pos (show ((σ 54 k) >>> (nI (k + 1 + j) &&& 31)) &&& 1 = 1 by rw [ev]; exact hb), c_away hC.1 (by omega) (by omega), Option.bind_some]
          dsimp only
          by_cases hle : aw a.2.1 k (k + 1 + j) ≤ (stI a k (stO a k) j).1
          · rw [if_pos hle, ev_bd, ev_s]
            exact Or.inl ⟨rfl, by omega, by rw [stI_s, if_neg (fun h => h.2 hle)]; rfl⟩
          · rw [if_neg hle, c_away hC.1 (by omega) (by omega), Option.bind_some, ev_bd, ev_bd, ev_bd, ev_s]
            exact Or.inl ⟨rfl, by omega, by rw [stI_s, if_pos ⟨hb, hle⟩]; rfl⟩
        · rw [if_neg (show ¬ ((σ 54 k) >>> (nI (k + 1 + j) &&& 31)) &&& 1 = 1 by rw [ev]; exact hb), ev_bd, ev_s]
          exact Or.inl ⟨rfl, by omega, by rw [stI_s, if_neg (fun h => hb h.1)]; rfl⟩
    · rintro ⟨z1, z2, z3, z4, σ1⟩ e
      cases e
      rw [ev_bd, ev_s]
      exact Or.inl ⟨rfl, by omega, rfl⟩
theorem PP.m_stare {N : Nat} {a : Ab} {τ : Sg} (hN : 20 < N) (hO : OKa a) (hM : RlM a τ) : f_X12_stareNow N τ = some ((stO a a.1).2, τ) := by
  have hF := hO.1.1
  have l1 := hM.1.2.1
  unfold f_X12_stareNow
  rw [← ev_eq, ev_b]
  refine ev_lp (fun k q => q = ((stO a k).2, (stO a k).1, nI k, τ)) a.1 N _ (by omega) rfl ?_
  rintro k _ hk rfl
  unfold s_X12_stareNow_h6
  dsimp only
  by_cases hkF : k = a.1
  · subst hkF
    rw [if_pos (by rw [l1]; exact Int32.le_refl _), ev_s]
    exact Or.inr ⟨Nat.one_ne_zero, ev_s.mpr rfl⟩
  · rw [if_neg (by rw [l1, nI_le (by omega) (by omega)]; omega), ev_bd, nI_s]
    refine Ev.bind (P := fun z => z.2 = ((stO a (k + 1)).2, (stO a (k + 1)).1, 0, τ)) ?_ ?_
    · refine ev_lp (fun j q => q = ((stI a k (stO a k) j).2, (stI a k (stO a k) j).1, nI (k + 1 + j), τ)) (a.1 - (k + 1)) N _ (by omega) rfl ?_
      rintro j _ hj rfl
      unfold s_X12_stareNow_h21 f_X12_stareNow_b81
      dsimp only
      by_cases hjF : j = a.1 - (k + 1)
      · rw [if_pos (by rw [l1, nI_le (by omega) (by omega)]; omega), ev_s]
        exact Or.inr ⟨Nat.one_ne_zero, by dsimp only; rw [stO_s, hjF]⟩
      · rw [if_neg (by rw [l1, nI_le (by omega) (by omega)]; omega), if_neg (gdn (by omega) (by omega)), if_neg (gdn (by omega) (by omega)), nI_cl (show k < 2147483648 by omega), nI_cl (show k + 1 + j < 2147483648 by omega), nI_s]
        have x1 := (hM.1.2.2.2.2.2.2.1 k (by omega)).1
        have x2 := (hM.1.2.2.2.2.2.2.1 (k + 1 + j) (by omega)).1
        have ea : (if 0 ≤ τ 5 k - τ 5 (k + 1 + j) then τ 5 k - τ 5 (k + 1 + j) else 0 - (τ 5 k - τ 5 (k + 1 + j))) = aw a.2.1 k (k + 1 + j) := by
          simp only [x1, x2]; rfl
        rw [ea, ev_bd]
        by_cases hle : aw a.2.1 k (k + 1 + j) ≤ (stI a k (stO a k) j).1
        · rw [if_pos hle, ev_bd, ev_s]
          exact Or.inl ⟨rfl, by omega, by rw [stI_s, if_neg (fun h => h.2 hle)]; rfl⟩
        · rw [if_neg hle, m_sighta hN hO hM (by omega) (by omega), Option.bind_some]
          dsimp only
          by_cases hb : hasB (se a k) (k + 1 + j)
          · rw [if_pos hb, if_neg (by decide), ev_bd, ev_bd, ev_s]
            exact Or.inl ⟨rfl, by omega, by rw [stI_s, if_pos ⟨hb, hle⟩]; rfl⟩
          · rw [if_neg hb, if_pos rfl, ev_bd, ev_s]
            exact Or.inl ⟨rfl, by omega, by rw [stI_s, if_neg (fun h => hb h.1)]; rfl⟩
    · rintro ⟨z1, z2, z3, z4, σ1⟩ e
      cases e
      rw [ev_bd, ev_s]
      exact Or.inl ⟨rfl, by omega, rfl⟩
/-! ===== count ===== -/
theorem PP.ok_count {N : Nat} (hN : 5000 < N) : Ok_count N Rl := by
  rintro w σ τ ⟨a, hO, hC, hM⟩
  have hF := hO.1.1
  have hM0 := hM.code 0
  have lM : (wr τ 0 2 0) 3 0 = nI a.1 := hM.1.2.1
  have e15 : ∀ w : Int32, (w.toInt < 0 ∨ (15 : Int) < w.toInt) ↔ ¬ (0 ≤ w ∧ w ≤ nI 15) := fun w => sw_no (n := 15) (by omega)
  by_cases hw : 0 ≤ w ∧ w ≤ nI 15
  · obtain ⟨n, hn1, hn2, rfl⟩ := in_n (lo := 0) (hi := 15) (by omega) hw (by omega)
    have hc : n = 0 ∨ n = 1 ∨ n = 2 ∨ n = 3 ∨ n = 4 ∨ n = 5 ∨ n = 6 ∨ n = 7 ∨ n = 8 ∨ n = 9 ∨ n = 10 ∨ n = 11 ∨ n = 12 ∨ n = 13 ∨ n = 14 ∨ n = 15 := by omega
    unfold f_X11_count_0 f_X12_count
    rw [if_neg (fun hh => (e15 _).mp hh hw)]
    rcases hc with rfl | rfl | rfl | rfl | rfl | rfl | rfl | rfl | rfl | rfl | rfl | rfl | rfl | rfl | rfl | rfl
    · refine okS (a := a) (r := nI a.1) (D := D1) hO (Or.inl ⟨rfl, rfl⟩) ?_ ?_
      · rw [if_pos (by decide), ev_s]; exact ⟨rfl, hC.1.2.1, hC⟩
      · rw [ev_bd, if_neg (fun hh => (e15 _).mp hh hw), if_pos (by decide), ev_s]; exact ⟨rfl, lM, hM0⟩
    · refine okS (a := a) (r := a.2.2.1.1 0 0) (D := D1) hO (Or.inl ⟨rfl, rfl⟩) ?_ ?_
      · rw [if_neg (by decide), if_pos (by decide), ev_s]; exact ⟨rfl, hC.2.1.1.1, hC⟩
      · rw [ev_bd, if_neg (fun hh => (e15 _).mp hh hw), if_neg (by decide), if_pos (by decide), ev_s]; exact ⟨rfl, hM0.2.1.1.1, hM0⟩
    · refine okS (a := a) (r := mn a) (D := D1) hO (Or.inl ⟨rfl, rfl⟩) ?_ ?_
      · rw [if_neg (by decide), if_neg (by decide), if_pos (by decide), c_mistNow hO hC, Option.bind_some, ev_s]; exact ⟨rfl, rfl, hC⟩
      · rw [ev_bd, if_neg (fun hh => (e15 _).mp hh hw), if_neg (by decide), if_neg (by decide), if_pos (by decide), m_mist hO.1 hM0.1 (m_t0 hO hM0), Option.bind_some, ev_s]; exact ⟨rfl, m_mi hM0, hM0⟩
    · refine okS (a := a) (r := a.2.1 0 1) (D := D1) hO (Or.inl ⟨rfl, rfl⟩) ?_ ?_
      · rw [if_neg (by decide), if_neg (by decide), if_neg (by decide), if_pos (by decide), ev_s]; exact ⟨rfl, hC.1.2.2.1, hC⟩
      · rw [ev_bd, if_neg (fun hh => (e15 _).mp hh hw), if_neg (by decide), if_neg (by decide), if_neg (by decide), if_pos (by decide), ev_s]; exact ⟨rfl, hM0.1.2.2.1, hM0⟩
    · refine okS (a := a) (r := a.2.1 0 2) (D := D1) hO (Or.inl ⟨rfl, rfl⟩) ?_ ?_
      · rw [if_neg (by decide), if_neg (by decide), if_neg (by decide), if_neg (by decide), if_pos (by decide), ev_s]; exact ⟨rfl, hC.1.2.2.2.1, hC⟩
      · rw [ev_bd, if_neg (fun hh => (e15 _).mp hh hw), if_neg (by decide), if_neg (by decide), if_neg (by decide), if_neg (by decide), if_pos (by decide), ev_s]; exact ⟨rfl, hM0.1.2.2.2.1, hM0⟩
    · refine okS (a := a) (r := a.2.2.1.1 0 1) (D := D1) hO (Or.inl ⟨rfl, rfl⟩) ?_ ?_
      · rw [if_neg (by decide), if_neg (by decide), if_neg (by decide), if_neg (by decide), if_neg (by decide), if_pos (by decide), ev_s]; exact ⟨rfl, hC.2.1.1.2.1, hC⟩
      · rw [ev_bd, if_neg (fun hh => (e15 _).mp hh hw), if_neg (by decide), if_neg (by decide), if_neg (by decide), if_neg (by decide), if_neg (by decide), if_pos (by decide), ev_s]; exact ⟨rfl, hM0.2.1.1.2.1, hM0⟩
    · refine okS (a := a) (r := wts a.1 a.2.2.1.1) (D := D1) hO (Or.inl ⟨rfl, rfl⟩) ?_ ?_
      · rw [if_neg (by decide), if_neg (by decide), if_neg (by decide), if_neg (by decide), if_neg (by decide), if_neg (by decide), if_pos (by decide), c_waits_22 (by omega) hF hC.2.1.1, Option.bind_some, ev_s]; exact ⟨rfl, rfl, hC⟩
      · rw [ev_bd, if_neg (fun hh => (e15 _).mp hh hw), if_neg (by decide), if_neg (by decide), if_neg (by decide), if_neg (by decide), if_neg (by decide), if_neg (by decide), if_pos (by decide), m_waits (s := a.2.2.1.1) (by omega) hF lM (fun i hi => (hM0.2.1.1.2.2 i hi).1), Option.bind_some, ev_s]; exact ⟨rfl, rfl, hM0⟩
    · refine okS (a := a) (r := (prt (fun f => itn (nxa a) (bit f) 9) a.1).1) (D := D1) hO (Or.inl ⟨rfl, rfl⟩) ?_ ?_
      · rw [if_neg (by decide), if_neg (by decide), if_neg (by decide), if_neg (by decide), if_neg (by decide), if_neg (by decide), if_neg (by decide), if_pos (by decide)]
        refine (c_views (by omega) hO hC).bind ?_
        rintro σ1 ⟨hR, hv⟩
        rw [c_parts (by omega) hO hR hv, Option.bind_some, ev_s]; exact ⟨rfl, rfl, hR⟩
      · rw [ev_bd, if_neg (fun hh => (e15 _).mp hh hw), if_neg (by decide), if_neg (by decide), if_neg (by decide), if_neg (by decide), if_neg (by decide), if_neg (by decide), if_neg (by decide), if_pos (by decide), m_parts (by omega) hO hM0, Option.bind_some, ev_s]; exact ⟨rfl, rfl, hM0⟩
    · refine okSP (a := a) (R := fun x => ∃ M, alF a.1 = nI M ∧ M < 512 ∧ LstB (gdW a) (M + 1) x) (D := D1) hO (Or.inl ⟨rfl, rfl⟩) ?_ ?_ ?_
      · rintro x y ⟨M, e1, h1, l1⟩ ⟨M', e2, h2, l2⟩
        have : M = M' := (nI_eq (by omega) (by omega)).mp (e1.symm.trans e2)
        subst this
        exact lst_u l1 l2
      · rw [if_neg (by decide), if_neg (by decide), if_neg (by decide), if_neg (by decide), if_neg (by decide), if_neg (by decide), if_neg (by decide), if_neg (by decide), if_pos (by decide)]
        refine (c_views (by omega) hO hC).bind ?_
        rintro σ1 ⟨hR, hv⟩
        refine (c_watch hN hO hR hv).bind ?_
        rintro ⟨r, σ2⟩ ⟨M, eM, h5, hl, e⟩
        dsimp only at e hl ⊢
        subst e
        rw [ev_s]; exact ⟨rfl, ⟨M, eM, h5, hl⟩, hR⟩
      · rw [ev_bd, if_neg (fun hh => (e15 _).mp hh hw), if_neg (by decide), if_neg (by decide), if_neg (by decide), if_neg (by decide), if_neg (by decide), if_neg (by decide), if_neg (by decide), if_neg (by decide), if_pos (by decide)]
        refine (m_watch hN hO hM0).bind ?_
        rintro ⟨r, τ2⟩ ⟨M, eM, h5, hl, hR, hc⟩
        rw [ev_s]; exact ⟨hc.trans rfl, ⟨M, eM, h5, hl⟩, hR⟩
    · refine okS (a := a) (r := (stO a a.1).2) (D := D1) hO (Or.inl ⟨rfl, rfl⟩) ?_ ?_
      · rw [if_neg (by decide), if_neg (by decide), if_neg (by decide), if_neg (by decide), if_neg (by decide), if_neg (by decide), if_neg (by decide), if_neg (by decide), if_neg (by decide), if_pos (by decide)]
        refine (c_views (by omega) hO hC).bind ?_
        rintro σ1 ⟨hR, hv⟩
        rw [c_stare (by omega) hO hR hv, Option.bind_some, ev_s]; exact ⟨rfl, rfl, hR⟩
      · rw [ev_bd, if_neg (fun hh => (e15 _).mp hh hw), if_neg (by decide), if_neg (by decide), if_neg (by decide), if_neg (by decide), if_neg (by decide), if_neg (by decide), if_neg (by decide), if_neg (by decide), if_neg (by decide), if_pos (by decide), m_stare (by omega) hO hM0, Option.bind_some, ev_s]; exact ⟨rfl, rfl, hM0⟩
    · refine okS (a := a) (r := nI a.2.2.1.2.1) (D := D1) hO (Or.inl ⟨rfl, rfl⟩) ?_ ?_
      · rw [if_neg (by decide), if_neg (by decide), if_neg (by decide), if_neg (by decide), if_neg (by decide), if_neg (by decide), if_neg (by decide), if_neg (by decide), if_neg (by decide), if_neg (by decide), if_pos (by decide), ev_s]; exact ⟨rfl, hC.2.1.2.1.1, hC⟩
      · rw [ev_bd, if_neg (fun hh => (e15 _).mp hh hw), if_neg (by decide), if_neg (by decide), if_neg (by decide), if_neg (by decide), if_neg (by decide), if_neg (by decide), if_neg (by decide), if_neg (by decide), if_neg (by decide), if_neg (by decide), if_pos (by decide), ev_s]; exact ⟨rfl, hM0.2.1.2.1, hM0⟩
    · refine okS (a := a) (r := nI a.2.2.1.2.2.2.1) (D := D1) hO (Or.inl ⟨rfl, rfl⟩) ?_ ?_
      · rw [if_neg (by decide), if_neg (by decide), if_neg (by decide), if_neg (by decide), if_neg (by decide), if_neg (by decide), if_neg (by decide), if_neg (by decide), if_neg (by decide), if_neg (by decide), if_neg (by decide), if_pos (by decide), ev_s]; exact ⟨rfl, hC.2.1.2.2.1.1, hC⟩
      · rw [ev_bd, if_neg (fun hh => (e15 _).mp hh hw), if_neg (by decide), if_neg (by decide), if_neg (by decide), if_neg (by decide), if_neg (by decide), if_neg (by decide), if_neg (by decide), if_neg (by decide), if_neg (by decide), if_neg (by decide), if_neg (by decide), if_pos (by decide), ev_s]; exact ⟨rfl, hM0.2.1.2.2.2.1, hM0⟩
    · refine okS (a := a) (r := nI a.2.2.2.2.1) (D := D1) hO (Or.inl ⟨rfl, rfl⟩) ?_ ?_
      · rw [if_neg (by decide), if_neg (by decide), if_neg (by decide), if_neg (by decide), if_neg (by decide), if_neg (by decide), if_neg (by decide), if_neg (by decide), if_neg (by decide), if_neg (by decide), if_neg (by decide), if_neg (by decide), if_pos (by decide), ev_s]; exact ⟨rfl, hC.2.2.2.2.1, hC⟩
      · rw [ev_bd, if_neg (fun hh => (e15 _).mp hh hw), if_neg (by decide), if_neg (by decide), if_neg (by decide), if_neg (by decide), if_neg (by decide), if_neg (by decide), if_neg (by decide), if_neg (by decide), if_neg (by decide), if_neg (by decide), if_neg (by decide), if_neg (by decide), if_pos (by decide), ev_s]; exact ⟨rfl, hM0.2.2.2.2.1, hM0⟩
    · refine okS (a := a) (r := a.2.2.1.2.2.2.2.2 0) (D := D1) hO (Or.inl ⟨rfl, rfl⟩) ?_ ?_
      · rw [if_neg (by decide), if_neg (by decide), if_neg (by decide), if_neg (by decide), if_neg (by decide), if_neg (by decide), if_neg (by decide), if_neg (by decide), if_neg (by decide), if_neg (by decide), if_neg (by decide), if_neg (by decide), if_neg (by decide), if_pos (by decide), ev_s]; exact ⟨rfl, hC.2.1.2.2.2 0 (by decide), hC⟩
      · rw [ev_bd, if_neg (fun hh => (e15 _).mp hh hw), if_neg (by decide), if_neg (by decide), if_neg (by decide), if_neg (by decide), if_neg (by decide), if_neg (by decide), if_neg (by decide), if_neg (by decide), if_neg (by decide), if_neg (by decide), if_neg (by decide), if_neg (by decide), if_neg (by decide), if_pos (by decide), if_neg (by decide), ev_s]; exact ⟨rfl, hM0.2.1.2.2.2.2.2 0 (by decide), hM0⟩
    · refine okS (a := a) (r := a.2.2.1.2.2.2.2.2 1) (D := D1) hO (Or.inl ⟨rfl, rfl⟩) ?_ ?_
      · rw [if_neg (by decide), if_neg (by decide), if_neg (by decide), if_neg (by decide), if_neg (by decide), if_neg (by decide), if_neg (by decide), if_neg (by decide), if_neg (by decide), if_neg (by decide), if_neg (by decide), if_neg (by decide), if_neg (by decide), if_neg (by decide), if_pos (by decide), ev_s]; exact ⟨rfl, hC.2.1.2.2.2 1 (by decide), hC⟩
      · rw [ev_bd, if_neg (fun hh => (e15 _).mp hh hw), if_neg (by decide), if_neg (by decide), if_neg (by decide), if_neg (by decide), if_neg (by decide), if_neg (by decide), if_neg (by decide), if_neg (by decide), if_neg (by decide), if_neg (by decide), if_neg (by decide), if_neg (by decide), if_neg (by decide), if_neg (by decide), if_pos (by decide), if_neg (by decide), ev_s]; exact ⟨rfl, hM0.2.1.2.2.2.2.2 1 (by decide), hM0⟩
    · refine okS (a := a) (r := a.2.2.1.2.2.2.2.2 2) (D := D1) hO (Or.inl ⟨rfl, rfl⟩) ?_ ?_
      · rw [if_neg (by decide), if_neg (by decide), if_neg (by decide), if_neg (by decide), if_neg (by decide), if_neg (by decide), if_neg (by decide), if_neg (by decide), if_neg (by decide), if_neg (by decide), if_neg (by decide), if_neg (by decide), if_neg (by decide), if_neg (by decide), if_neg (by decide), if_pos (by decide), ev_s]; exact ⟨rfl, hC.2.1.2.2.2 2 (by decide), hC⟩
      · rw [ev_bd, if_neg (fun hh => (e15 _).mp hh hw), if_neg (by decide), if_neg (by decide), if_neg (by decide), if_neg (by decide), if_neg (by decide), if_neg (by decide), if_neg (by decide), if_neg (by decide), if_neg (by decide), if_neg (by decide), if_neg (by decide), if_neg (by decide), if_neg (by decide), if_neg (by decide), if_neg (by decide), if_pos (by decide), if_neg (by decide), ev_s]; exact ⟨rfl, hM0.2.1.2.2.2.2.2 2 (by decide), hM0⟩
  · refine okF (a := a) (cC := 1) (cM := 1) (D := D1) hO (by decide) (Or.inr ⟨rfl, rfl⟩) ?_ ?_
    · unfold f_X11_count_0
      rw [if_pos ((e15 _).mpr hw), ev_s]
      exact ⟨rfl, hC⟩
    · unfold f_X12_count f_X12_fail
      rw [ev_bd, if_pos ((e15 _).mpr hw)]
      simp only [bd, Option.bind_some]
      rw [ev_s]
      exact ⟨rfl, hM0.code 1⟩
