/-! ===== how tall a hat ===== -/
def PP.thh (a : Ab) (f h : Nat) : Nat → Int32 := fun i => if i = f then a.2.1 2 f + nI h else tp a.2.1 a.2.2.1.1 i
def PP.dsc (p : Nat → Bool) : Nat → Int32
  | 0 => -1
  | k + 1 => if p (20 - k) = true then nI (20 - k) else dsc p k
theorem PP.dsc_s (p : Nat → Bool) (k : Nat) : dsc p (k + 1) = if p (20 - k) = true then nI (20 - k) else dsc p k := rfl
theorem PP.dsc_c (p : Nat → Bool) : ∀ k, k ≤ 21 → (∃ j, 21 ≤ j + k ∧ j ≤ 20 ∧ p j = true ∧ (∀ i, 21 ≤ i + k → i < j → p i = false) ∧ dsc p k = nI j) ∨ ((∀ j, 21 ≤ j + k → j ≤ 20 → p j = false) ∧ dsc p k = -1)
  | 0, _ => Or.inr ⟨fun j h1 h2 => absurd h1 (by omega), rfl⟩
  | k + 1, hk => by
    rw [dsc_s]
    cases hp : p (20 - k) with
    | true =>
      refine Or.inl ⟨20 - k, by omega, by omega, hp, fun i h1 h2 => absurd h1 (by omega), ?_⟩
      rw [if_pos rfl]
    | false =>
      rw [if_neg (by decide)]
      rcases dsc_c p k (by omega) with ⟨j, h1, h2, h3, h4, h5⟩ | ⟨h1, h2⟩
      · refine Or.inl ⟨j, by omega, h2, h3, fun i hi hij => ?_, h5⟩
        by_cases e : i = 20 - k
        · rw [e]; exact hp
        · exact h4 i (by omega) hij
      · refine Or.inr ⟨fun j hj hj2 => ?_, h2⟩
        by_cases e : j = 20 - k
        · rw [e]; exact hp
        · exact h1 j (by omega) hj2
theorem PP.dsc_fsp (p : Nat → Bool) : dsc p 21 = fsp p 0 21 := by
  rcases dsc_c p 21 (by omega) with ⟨j, h1, h2, h3, h4, h5⟩ | ⟨h1, h2⟩
  · rw [h5, fsp_hit (d := 0) (k := j) (n := 21) (by omega) (fsp_none j fun i hi => h4 i (by omega) hi) h3 (by omega)]; rfl
  · rw [h2, fsp_none 21 fun i hi => h1 i (by omega) (by omega)]
theorem PP.ok_toHat {N : Nat} (hN : 5000 < N) : Ok_toHat N Rl := by
  rintro x y σ τ ⟨a, hO, hC, hM⟩
  have hF := hO.1.1
  have lC := hC.1.2.1
  have hM0 := hM.code 0
  have lM : (wr τ 0 2 0) 3 0 = nI a.1 := hM.1.2.1
  by_cases h : (0 ≤ x ∧ x < nI a.1) ∧ 0 ≤ y ∧ y < nI a.1
  · obtain ⟨f, hf, rfl⟩ := farm_n hF h.1
    obtain ⟨o, ho, rfl⟩ := farm_n hF h.2
    refine okS (a := a) (r := fsp (fun k => sgt a.1 a.2.1 (thh a f k) (mn a) f o) 0 21) (D := D1) hO (Or.inl ⟨rfl, rfl⟩) ?_ ?_
    · unfold f_X11_toHat_0 f_X11_toHat_0_b27
      rw [c_farms hF lC, Option.bind_some, if_pos h]
      dsimp only
      rw [if_pos rfl, ev_i]
      refine ⟨fun e => ?_, fun e => ?_⟩
      · rw [nI_eq (by omega) (by omega)] at e
        rw [ev_s]
        refine ⟨rfl, (fsp_none 21 fun k hk => ?_).symm, hC⟩
        unfold sgt
        exact decide_eq_false fun hh => hh.1 e
      · rw [nI_eq (by omega) (by omega)] at e
        rw [c_mistNow hO hC, Option.bind_some]
        dsimp only
        rw [c_near_50 hC.1 hf ho, Option.bind_some]
        dsimp only
        by_cases hn : aw a.2.1 f o ≤ a.2.1 0 1 - 9 * mn a
        · rw [if_pos hn, if_neg (by decide)]
          refine (c_tops_50_26 (by omega)).bind ?_
          rintro σ1 ⟨hf1, hv1⟩
          have hR1 : RlC a σ1 := hC.q (hf1.mo (by decide))
          have hsg : ∀ k, sgt a.1 a.2.1 (thh a f k) (mn a) f o = true ↔ way a.1 a.2.1 (thh a f k) f o = 0 := by
            intro k
            unfold sgt
            rw [decide_eq_true_eq]
            exact ⟨fun hh => hh.2.2, fun hh => ⟨e, hn, hh⟩⟩
          rw [ev_b]
          refine ev_lp (fun k q => q.1 = nI k ∧ Fr [51] σ1 q.2 ∧ (∀ i, i < a.1 → i ≠ f → q.2 51 i = tp a.2.1 a.2.2.1.1 i) ∧ fsp (fun k => sgt a.1 a.2.1 (thh a f k) (mn a) f o) 0 k = -1) 21 N _ (by omega) ⟨rfl, Fr.refl _ _, ?_, rfl⟩ ?_
          · intro i hi hif
            dsimp only
            rw [hv1 i (by omega), (hC.1.2.2.2.2.2.2.1 i hi).2.1]
            have := (hC.2.1.1.2.2.1 i hi).2.2.2
            dsimp only [Nat.reduceAdd] at this
            rw [this]; rfl
          rintro k ⟨_, σ2⟩ hk ⟨e2, hf2, hi2, hfs⟩
          dsimp only at e2 hf2 hi2 hfs
          subst e2
          unfold s_X11_toHat_0_h48
          dsimp only
          by_cases hk2 : k = 21
          · subst hk2
            rw [if_pos (by decide), ev_s]
            refine Or.inr ⟨by simp, ?_⟩
            dsimp only
            rw [if_neg (by decide), ev_s]
            exact ⟨rfl, hfs.symm, hR1.q (hf2.mo (by decide))⟩
          · rw [if_neg (by rw [show (20 : Int32) = nI 20 from rfl, nI_lt (by omega) (by omega)]; omega)]
            simp (disch := omega) only [nI_g, if_false]
            simp (disch := omega) only [nI_cl]
            rw [ev_bd]
            have hf3 : Fr [51] σ1 (wr σ2 51 f (σ2 14 f + nI k)) := hf2.wr (by decide)
            have hR3 : RlC a (wr σ2 51 f (σ2 14 f + nI k)) := hR1.q (hf3.mo (by decide))
            rw [c_way_50 (t := thh a f k) (by omega) hO.1 hR3.1 ?_ hf ho, Option.bind_some]
            · dsimp only
              rw [ev_i]
              refine ⟨fun hw => ?_, fun hw => ?_⟩
              · rw [ev_s]
                refine Or.inr ⟨by simp, ?_⟩
                dsimp only
                rw [if_pos rfl, ev_s]
                exact ⟨rfl, (fsp_hit (d := 0) (by omega) hfs ((hsg k).mpr hw) (by omega)).symm, hR3⟩
              · rw [ev_bd, ev_s]
                refine Or.inl ⟨rfl, by omega, nI_s _, hf3, ?_, ?_⟩
                · intro i hi hif
                  dsimp only
                  rw [wr_e, upd_n hif]; exact hi2 i hi hif
                · rw [fsp_s, if_pos hfs, if_neg (fun hh => hw ((hsg k).mp hh))]
            · intro i hi
              unfold thh
              by_cases hif : i = f
              · subst hif
                rw [wr_e, upd_e, if_pos rfl, hf2 14 (by decide), hf1 14 (by decide), (hC.1.2.2.2.2.2.2.1 i hi).2.1]
              · rw [wr_e, upd_n hif, if_neg hif]; exact hi2 i hi hif
        · rw [if_neg hn, if_pos rfl, ev_s]
          refine ⟨rfl, (fsp_none 21 fun k hk => ?_).symm, hC⟩
          unfold sgt
          exact decide_eq_false fun hh => hn hh.2.1
    · unfold f_X12_toHat
      rw [ev_bd, m_isFarm hF lM, Option.bind_some, if_pos h.1]
      dsimp only
      rw [if_neg (by decide), m_isFarm hF lM, Option.bind_some, if_pos h.2]
      dsimp only
      rw [if_neg (by decide)]
      simp (disch := omega) only [nI_g, if_false]
      simp (disch := omega) only [nI_cl]
      generalize hτ0 : wr τ 0 2 0 = τ0 at *
      have hc0 : τ0 0 2 = 0 := by rw [← hτ0]; rfl
      rw [ev_bd, ev_b]
      refine ev_lp (fun k q => q.1 = dsc (fun k => sgt a.1 a.2.1 (thh a f k) (mn a) f o) k ∧ (k ≤ 20 → q.2.1 = nI (20 - k)) ∧ (k = 21 → q.2.1 = -1) ∧ FM [16] [] τ0 q.2.2 ∧ ∀ i, i ≠ f → q.2.2 16 i = τ0 16 i) 21 N _ (by omega) ⟨rfl, fun _ => rfl, fun h => absurd h (by omega), FM.refl _ _ _, fun _ _ => rfl⟩ ?_
      rintro k ⟨_, z, τ1⟩ hk ⟨e1, e2, e3, hf1, hi1⟩
      dsimp only at e1 e2 e3 hf1 hi1
      subst e1
      unfold s_X12_toHat_h41 f_X12_toHat_b67
      dsimp only
      by_cases hk2 : k = 21
      · rw [e3 hk2, if_pos (by decide), ev_s]
        refine Or.inr ⟨Nat.one_ne_zero, ?_⟩
        dsimp only
        rw [ev_bd, ev_s]
        have hf2 : FM [16] [] τ0 (wr τ1 16 f (τ0 16 f)) := hf1.w (by decide) (by decide)
        refine ⟨?_, ?_, ?_⟩
        · show wr τ1 16 f (τ0 16 f) 0 2 = 0
          rw [hf2.2 2 (by decide)]; exact hc0
        · dsimp only; rw [hk2]; exact dsc_fsp _
        · refine hM0.q (hf2.mo (by decide) (by decide)) ?_ ?_
          · obtain ⟨s0, s1, sx⟩ := hM0.2.1.1
            refine ⟨?_, ?_, ?_⟩
            · dsimp only; rw [hf2.2 28 (by decide)]; exact s0
            · dsimp only; rw [hf2.2 29 (by decide)]; exact s1
            · intro i hi
              dsimp only
              rw [hf2.1 13 (by decide) (by decide), hf2.1 14 (by decide) (by decide), hf2.1 15 (by decide) (by decide)]
              have e16 : wr τ1 16 f (τ0 16 f) 16 i = τ0 16 i := by
                rw [wr_e]
                by_cases e : i = f
                · subst e; rw [upd_e]
                · rw [upd_n e]; exact hi1 i e
              rw [e16]; exact sx i hi
          · dsimp only; rw [hf2.2 32 (by decide)]; exact hM0.2.2.1
      · rw [e2 (by omega), if_neg (nI_nn (by omega)), if_neg (gdn (by omega) (by omega)), nI_cl (show f < 2147483648 by omega), ev_bd]
        have hf2 : FM [16] [] τ0 (wr τ1 16 f (nI (20 - k))) := hf1.w (by decide) (by decide)
        have hi2 : ∀ i, i ≠ f → wr τ1 16 f (nI (20 - k)) 16 i = τ0 16 i := by
          intro i hif
          rw [wr_e, upd_n hif]; exact hi1 i hif
        have hst : f_X12_inSight N (nI f) (nI o) (wr τ1 16 f (nI (20 - k))) = some ((if sgt a.1 a.2.1 (thh a f (20 - k)) (mn a) f o = true then 1 else 0), wr τ1 16 f (nI (20 - k))) := by
          refine m_sight (by omega) hO.1 (hM0.1.fr hf2 (by decide)) ?_ ?_ ?_ hf ho
          · intro i hi
            unfold thh
            rw [hf2.1 6 (by decide) (by decide), (hM0.1.2.2.2.2.2.2.1 i hi).2.1]
            by_cases e : i = f
            · subst e; rw [wr_e, upd_e, if_pos rfl]
            · rw [hi2 i e, if_neg e, (hM0.2.1.1.2.2 i hi).2.2.2]; rfl
          · rw [hf2.2 28 (by decide)]; exact m_t0 hO hM0
          · rw [hf2.2 28 (by decide), hf2.2 32 (by decide)]; exact m_mi hM0
        have nxt : (k + 1 ≤ 20 → nI (20 - k) + (-1) = nI (20 - (k + 1))) ∧ (k + 1 = 21 → nI (20 - k) + (-1) = -1) := by
          constructor
          · intro hh; rw [nI_p' (by omega), show 20 - k - 1 = 20 - (k + 1) by omega]
          · intro hh; rw [show 20 - k = 0 by omega]; rfl
        rw [hst, Option.bind_some]
        dsimp only
        cases hp : sgt a.1 a.2.1 (thh a f (20 - k)) (mn a) f o with
        | true =>
          rw [if_pos rfl, if_neg (by decide), ev_bd, ev_s]
          exact Or.inl ⟨rfl, by omega, by dsimp only; rw [dsc_s, hp, if_pos rfl], nxt.1, nxt.2, hf2, hi2⟩
        | false =>
          rw [if_pos (by decide), ev_bd, ev_s]
          exact Or.inl ⟨rfl, by omega, by dsimp only; rw [dsc_s, hp, if_neg (by decide)], nxt.1, nxt.2, hf2, hi2⟩
  · refine okF (a := a) (cC := 1) (cM := 1) (D := D1) hO (by decide) (Or.inr ⟨rfl, rfl⟩) ?_ ?_
    · unfold f_X11_toHat_0
      rw [c_farms hF lC, Option.bind_some, if_neg h]
      dsimp only
      rw [if_neg (by decide), ev_s]
      exact ⟨rfl, hC⟩
    · unfold f_X12_toHat f_X12_toHat_b21 f_X12_fail
      rw [ev_bd]
      refine m_farms2 hO hM0 _ _ h _ ?_
      simp only [bd, Option.bind_some]
      rw [ev_s]
      exact ⟨rfl, hM0.code 1⟩
/-! ===== parts ===== -/
def PP.Cl (F : Nat) (g : Nat → Int32) (S : Int32) : Prop := ∀ k, k < F → hasB S k → ∀ i, i < 32 → hasB (g k) i → hasB S i
def PP.ssB (A B : Int32) : Prop := ∀ i, i < 32 → hasB A i → hasB B i
theorem PP.has_nx {g : Nat → Int32} {w : Int32} {i : Nat} (hi : i < 32) : ∀ n, hasB (nx g w n) i ↔ hasB w i ∨ ∃ k, k < n ∧ hasB w k ∧ hasB (g k) i
  | 0 => ⟨fun h => Or.inl h, fun h => h.elim id (fun ⟨k, hk, _⟩ => absurd hk (by omega))⟩
  | n + 1 => by
    rw [nx_s]
    by_cases hb : hasB w n
    · rw [if_pos hb, hasB_or hi, has_nx hi n]
      constructor
      · rintro ((h | ⟨k, h1, h2, h3⟩) | h)
        · exact Or.inl h
        · exact Or.inr ⟨k, by omega, h2, h3⟩
        · exact Or.inr ⟨n, by omega, hb, h⟩
      · rintro (h | ⟨k, h1, h2, h3⟩)
        · exact Or.inl (Or.inl h)
        · by_cases e : k = n
          · subst e; exact Or.inr h3
          · exact Or.inl (Or.inr ⟨k, by omega, h2, h3⟩)
    · rw [if_neg hb, has_nx hi n]
      constructor
      · rintro (h | ⟨k, h1, h2, h3⟩)
        · exact Or.inl h
        · exact Or.inr ⟨k, by omega, h2, h3⟩
      · rintro (h | ⟨k, h1, h2, h3⟩)
        · exact Or.inl h
        · exact Or.inr ⟨k, by have : k ≠ n := fun e => hb (e ▸ h2); omega, h2, h3⟩
def PP.ni (g : Nat → Int32) (w : Int32) : Nat → Int32
  | 0 => w
  | k + 1 => if hasB (ni g w k) k then ni g w k ||| g k else ni g w k
theorem PP.ni_s (g : Nat → Int32) (w : Int32) (k : Nat) : ni g w (k + 1) = if hasB (ni g w k) k then ni g w k ||| g k else ni g w k := rfl
theorem PP.ni_mo {g : Nat → Int32} {w : Int32} {m : Nat} : ∀ j, ssB (ni g w m) (ni g w (m + j))
  | 0 => fun i hi h => h
  | j + 1 => fun i hi h => by
    have := ni_mo j i hi h
    rw [← Nat.add_assoc, ni_s]
    split
    · rw [hasB_or hi]; exact Or.inl this
    · exact this
theorem PP.ni_in {F : Nat} {g : Nat → Int32} {w C : Int32} (hF : F ≤ 9) (hC : Cl F g C) (h : ssB w C) : ∀ n, n ≤ F → ssB (ni g w n) C
  | 0, _ => h
  | n + 1, hn => fun i hi hb => by
    have ih := ni_in hF hC h n (by omega)
    rw [ni_s] at hb
    by_cases hx : hasB (ni g w n) n
    · rw [if_pos hx, hasB_or hi] at hb
      rcases hb with hb | hb
      · exact ih i hi hb
      · exact hC n (by omega) (ih n (by omega) hx) i hi hb
    · rw [if_neg hx] at hb; exact ih i hi hb
theorem PP.ni_cl {F : Nat} {g : Nat → Int32} {w : Int32} (hF : F ≤ 9) (h : ni g w F = w) : Cl F g w := by
  intro k hk hb i hi hg
  have h1 : hasB (ni g w k) k := by
    have := ni_mo (g := g) (w := w) (m := 0) k k (by omega) hb
    rw [Nat.zero_add] at this; exact this
  have h2 : hasB (ni g w (k + 1)) i := by rw [ni_s, if_pos h1, hasB_or hi]; exact Or.inr hg
  have h3 := ni_mo (g := g) (w := w) (m := k + 1) (F - (k + 1)) i hi h2
  rw [show k + 1 + (F - (k + 1)) = F by omega, h] at h3
  exact h3
theorem PP.ni_sub {F : Nat} {g : Nat → Int32} {w : Int32} (hg : ∀ k, sub F (g k)) (h : sub F w) : ∀ n, sub F (ni g w n)
  | 0 => h
  | n + 1 => by
    rw [ni_s]
    split
    · exact sub_or (ni_sub hg h n) (hg n)
    · exact ni_sub hg h n
theorem PP.nx_sub {F : Nat} {g : Nat → Int32} {w : Int32} (hg : ∀ k, sub F (g k)) (h : sub F w) : ∀ n, sub F (nx g w n)
  | 0 => h
  | n + 1 => by
    rw [nx_s]
    split
    · exact sub_or (nx_sub hg h n) (hg n)
    · exact nx_sub hg h n
theorem PP.cnt_mo {A B : Int32} : ∀ n, (∀ k, k < n → hasB A k → hasB B k) → cnt A n ≤ cnt B n
  | 0, _ => Nat.le_refl _
  | n + 1, h => by
    have ih := cnt_mo n (fun k hk => h k (by omega))
    unfold cnt
    by_cases ha : hasB A n
    · rw [if_pos ha, if_pos (h n (by omega) ha)]; omega
    · rw [if_neg ha]; split <;> omega
theorem PP.cnt_lt {A B : Int32} : ∀ n, (∀ k, k < n → hasB A k → hasB B k) → (∃ k, k < n ∧ hasB B k ∧ ¬ hasB A k) → cnt A n < cnt B n
  | 0, _, ⟨k, hk, _⟩ => absurd hk (by omega)
  | n + 1, h, ⟨k, hk, hb, hn⟩ => by
    have mo := cnt_mo n (fun k hk => h k (by omega))
    unfold cnt
    by_cases e : k = n
    · subst e; rw [if_neg hn, if_pos hb]; omega
    · have ih := cnt_lt n (fun k hk => h k (by omega)) ⟨k, by omega, hb, hn⟩
      by_cases ha : hasB A n
      · rw [if_pos ha, if_pos (h n (by omega) ha)]; omega
      · rw [if_neg ha]; split <;> omega
theorem PP.clo {F f n : Nat} {g : Nat → Int32} {φ : Int32 → Int32} (hF : F ≤ 9) (hf : f < F) (h1 : ∀ W, ssB W (φ W)) (h2 : ∀ W, sub F W → sub F (φ W)) (h3 : ∀ W, φ W = W → Cl F g W) (h4 : ∀ W C, Cl F g C → ssB W C → ssB (φ W) C) (hn : F ≤ n) : sub F (itn φ (bit f) n) ∧ hasB (itn φ (bit f) n) f ∧ Cl F g (itn φ (bit f) n) ∧ ∀ C, Cl F g C → hasB C f → ssB (itn φ (bit f) n) C := by
  have hs : ∀ m, sub F (itn φ (bit f) m) := by
    intro m
    induction m with
    | zero =>
      intro k hk hFk hb
      have hb : hasB (bit f) k := hb
      rw [hasB_bit (by omega) hk] at hb; omega
    | succ m ih => rw [itn_s]; exact h2 _ ih
  have hff : ∀ m, hasB (itn φ (bit f) m) f := by
    intro m
    induction m with
    | zero => exact (hasB_bit (by omega) (by omega)).mpr rfl
    | succ m ih => rw [itn_s]; exact h1 _ f (by omega) ih
  have hc : ∀ m, Cl F g (itn φ (bit f) m) ∨ m + 1 ≤ cnt (itn φ (bit f) m) 9 := by
    intro m
    induction m with
    | zero =>
      right
      have := cnt_lt (A := 0) (B := bit f) 9 (fun k hk h => absurd h (hasB_0 (by omega))) ⟨f, by omega, (hasB_bit (by omega) (by omega)).mpr rfl, hasB_0 (by omega)⟩
      show 0 + 1 ≤ cnt (bit f) 9
      omega
    | succ m ih =>
      rw [itn_s]
      rcases ih with ih | ih
      · left
        have : φ (itn φ (bit f) m) = itn φ (bit f) m := ext_B fun i hi => ⟨h4 _ _ ih (fun i hi h => h) i hi, h1 _ i hi⟩
        rw [this]; exact ih
      · by_cases e : φ (itn φ (bit f) m) = itn φ (bit f) m
        · left; rw [e]; exact h3 _ e
        · right
          have : ∃ k, k < 9 ∧ hasB (φ (itn φ (bit f) m)) k ∧ ¬ hasB (itn φ (bit f) m) k := by
            refine Classical.byContradiction fun hno => e (ext_B fun i hi => ⟨fun hb => ?_, h1 _ i hi⟩)
            by_cases h9 : i < 9
            · exact Classical.byContradiction fun hn2 => hno ⟨i, h9, hb, hn2⟩
            · exact absurd hb (h2 _ (hs m) i hi (by omega))
          have := cnt_lt 9 (fun k hk => h1 _ k (by omega)) this
          omega
  refine ⟨hs n, hff n, ?_, ?_⟩
  · rcases hc n with h | h
    · exact h
    · have := cnt_sub hF (hs n); omega
  · intro C hC hCf
    have : ∀ m, ssB (itn φ (bit f) m) C := by
      intro m
      induction m with
      | zero =>
        intro i hi hb
        have hb : hasB (bit f) i := hb
        rw [hasB_bit (by omega) hi] at hb
        subst hb; exact hCf
      | succ m ih => rw [itn_s]; exact h4 _ _ hC ih
    exact this n
theorem PP.clo_eq {a : Ab} {f : Nat} (hO : OKa a) (hf : f < a.1) : itn (nxa a) (bit f) 9 = itn (fun w => ni (se a) w a.1) (bit f) a.1 := by
  have hF := hO.1.1
  have A := clo (n := 9) (g := se a) (φ := nxa a) hF hf (fun W i hi h => (has_nx hi _).mpr (Or.inl h)) (fun W h => nx_sub (fun k => se_sub hO) h _) (fun W h k hk hb i hi hg => by rw [← h]; exact (has_nx hi _).mpr (Or.inr ⟨k, hk, hb, hg⟩)) (fun W C hC h i hi hb => by
    rcases (has_nx hi _).mp hb with hb | ⟨k, hk, hk2, hk3⟩
    · exact h i hi hb
    · exact hC k hk (h k (by omega) hk2) i hi hk3) hF
  have B := clo (n := a.1) (g := se a) (φ := fun w => ni (se a) w a.1) hF hf (fun W i hi h => by
    have := ni_mo (g := se a) (w := W) (m := 0) a.1 i hi h
    rw [Nat.zero_add] at this; exact this) (fun W h => ni_sub (fun k => se_sub hO) h _) (fun W h => ni_cl hF h) (fun W C hC h => ni_in hF hC h a.1 (Nat.le_refl _)) (Nat.le_refl _)
  exact ext_B fun i hi => ⟨A.2.2.2 _ B.2.2.1 B.2.1 i hi, B.2.2.2 _ A.2.2.1 A.2.1 i hi⟩
def PP.prt (c : Nat → Int32) : Nat → Int32 × Int32
  | 0 => (0, 0)
  | k + 1 => if hasB (prt c k).2 k then prt c k else ((prt c k).1 + 1, (prt c k).2 ||| c k)
theorem PP.prt_s (c : Nat → Int32) (k : Nat) : prt c (k + 1) = if hasB (prt c k).2 k then prt c k else ((prt c k).1 + 1, (prt c k).2 ||| c k) := rfl
theorem PP.c_parts {N : Nat} {a : Ab} {σ : Sg} (hN : 20 < N) (hO : OKa a) (hC : RlC a σ) (hv : ∀ i, i < a.1 → σ 54 i = se a i) : f_X10_parts_53 N σ = some ((prt (fun f => itn (nxa a) (bit f) 9) a.1).1, σ) := by
  have hF := hO.1.1
  have l1 := hC.1.2.1
  have hp : ∀ f, f_X10_partOf_53 N (nI f) σ = some (itn (nxa a) (bit f) 9, σ) := by
    intro f
    unfold f_X10_partOf_53
    rw [← ev_eq, ev_bd, ev_b]
    refine ev_lp (fun k q => q = (itn (nxa a) (bit f) k, nI k, σ)) 9 N _ (by omega) rfl ?_
    rintro k _ hk rfl
    unfold s_X10_partOf_53_h6
    dsimp only
    by_cases hk9 : k = 9
    · subst hk9
      rw [if_pos (by decide), ev_s]
      exact Or.inr ⟨Nat.one_ne_zero, ev_s.mpr rfl⟩
    · rw [if_neg (by rw [show (9 : Int32) = nI 9 from rfl, nI_le (by omega) (by omega)]; omega), c_next hN hO hC hv, Option.bind_some, ev_bd, ev_bd, ev_s]
      exact Or.inl ⟨rfl, by omega, by rw [itn_s, nI_s]⟩
  unfold f_X10_parts_53
  rw [← ev_eq, ev_b]
  refine ev_lp (fun k q => q = ((prt (fun f => itn (nxa a) (bit f) 9) k).1, (prt (fun f => itn (nxa a) (bit f) 9) k).2, nI k, σ)) a.1 N _ (by omega) rfl ?_
  rintro k _ hk rfl
  unfold s_X10_parts_53_h6 f_X10_parts_53_b36
  dsimp only
  by_cases hkF : k = a.1
  · subst hkF
    rw [if_pos (by rw [l1]; exact Int32.le_refl _), ev_s]
    exact Or.inr ⟨Nat.one_ne_zero, ev_s.mpr rfl⟩
  · rw [if_neg (by rw [l1, nI_le (by omega) (by omega)]; omega)]
    by_cases hb : hasB (prt (fun f => itn (nxa a) (bit f) 9) k).2 k
    · rw [if_neg (fun h => nhasB.mp h hb), ev_bd, ev_s]
      exact Or.inl ⟨rfl, by omega, by rw [prt_s, if_pos hb, nI_s]⟩
    · rw [if_pos (nhasB.mpr hb), ev_bd, hp, Option.bind_some, ev_bd, ev_bd, ev_s]
      exact Or.inl ⟨rfl, by omega, by rw [prt_s, if_neg hb, nI_s]⟩
theorem PP.m_parts {N : Nat} {a : Ab} {τ : Sg} (hN : 20 < N) (hO : OKa a) (hM : RlM a τ) : f_X12_partsNow N τ = some ((prt (fun f => itn (nxa a) (bit f) 9) a.1).1, τ) := by
  have hF := hO.1.1
  have l1 := hM.1.2.1
  have hp : ∀ f, f < a.1 → f_X12_heldWith N (nI f) τ = some (itn (nxa a) (bit f) 9, τ) := by
    intro f hf
    rw [clo_eq hO hf]
    unfold f_X12_heldWith
    rw [← ev_eq, ev_bd, ev_b]
    refine ev_lp (fun k q => q = (itn (fun w => ni (se a) w a.1) (bit f) k, nI k, τ)) a.1 N _ (by omega) rfl ?_
    rintro k _ hk rfl
    unfold s_X12_heldWith_h6
    dsimp only
    by_cases hkF : k = a.1
    · subst hkF
      rw [if_pos (by rw [l1]; exact Int32.le_refl _), ev_s]
      exact Or.inr ⟨Nat.one_ne_zero, ev_s.mpr rfl⟩
    · rw [if_neg (by rw [l1, nI_le (by omega) (by omega)]; omega)]
      refine Ev.bind (P := fun z => z.2 = (itn (fun w => ni (se a) w a.1) (bit f) (k + 1), 0, τ)) ?_ ?_
      · refine ev_lp (fun j q => q = (ni (se a) (itn (fun w => ni (se a) w a.1) (bit f) k) j, nI j, τ)) a.1 N _ (by omega) rfl ?_
        rintro j _ hj rfl
        unfold s_X12_heldWith_h19 f_X12_heldWith_b50
        dsimp only
        by_cases hjF : j = a.1
        · subst hjF
          rw [if_pos (by rw [l1]; exact Int32.le_refl _), ev_s]
          exact Or.inr ⟨Nat.one_ne_zero, by dsimp only; rw [itn_s]⟩
        · rw [if_neg (by rw [l1, nI_le (by omega) (by omega)]; omega), m_isOf, Option.bind_some]
          dsimp only
          by_cases hb2 : hasB (ni (se a) (itn (fun w => ni (se a) w a.1) (bit f) k) j) j
          · rw [if_pos hb2, if_neg (by decide), m_seesa hN hO hM (by omega), Option.bind_some, ev_bd, ev_bd, ev_s]
            exact Or.inl ⟨rfl, by omega, by rw [ni_s, if_pos hb2, nI_s]⟩
          · rw [if_neg hb2, if_pos rfl, ev_bd, ev_bd, ev_s]
            exact Or.inl ⟨rfl, by omega, by rw [ni_s, if_neg hb2, nI_s, Int32.or_zero]⟩
      · rintro ⟨z1, z2, z3, τ1⟩ e
        cases e
        rw [ev_bd, ev_s]
        exact Or.inl ⟨rfl, by omega, by rw [nI_s]⟩
  unfold f_X12_partsNow
  rw [← ev_eq, ev_b]
  refine ev_lp (fun k q => q = ((prt (fun f => itn (nxa a) (bit f) 9) k).1, (prt (fun f => itn (nxa a) (bit f) 9) k).2, nI k, τ)) a.1 N _ (by omega) rfl ?_
  rintro k _ hk rfl
  unfold s_X12_partsNow_h6 f_X12_partsNow_b38
  dsimp only
  by_cases hkF : k = a.1
  · subst hkF
    rw [if_pos (by rw [l1]; exact Int32.le_refl _), ev_s]
    exact Or.inr ⟨Nat.one_ne_zero, ev_s.mpr rfl⟩
  · rw [if_neg (by rw [l1, nI_le (by omega) (by omega)]; omega), m_isOf, Option.bind_some]
    dsimp only
    by_cases hb : hasB (prt (fun f => itn (nxa a) (bit f) 9) k).2 k
    · rw [if_pos hb, if_neg (by decide), ev_bd, ev_s]
      exact Or.inl ⟨rfl, by omega, by rw [prt_s, if_pos hb, nI_s]⟩
    · rw [if_neg hb, if_pos rfl, hp k (by omega), Option.bind_some, ev_bd, ev_bd, ev_bd, ev_s]
      exact Or.inl ⟨rfl, by omega, by rw [prt_s, if_neg hb, nI_s]⟩
