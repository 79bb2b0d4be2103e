theorem PP.c_nodAll {N F : Nat} {L s σ : Sg} (hN : 20 < N) (hL : LC F L σ) (hs : SC 56 F s σ) : Ev (f_X2_nodAll_55 N σ) (fun z => z.1 = nds F s ∧ SC 56 F (sN F L s) z.2 ∧ (∀ i, i < F → z.2 61 i = σ 61 i + (if s 1 i = 1 then 1 else 0)) ∧ Fr [57, 58, 59, 61] σ z.2) := by
  obtain ⟨hF, l0, l6, l7, l8, l9, lx, lm, lc⟩ := hL
  obtain ⟨s0, s1, sx, sz⟩ := hs
  unfold f_X2_nodAll_55
  rw [ev_b]
  refine ev_for (fun k q => q.1 = mk (fun k => decide (s 1 k = 1)) k ∧ q.2.1 = nI k ∧ Fr [57, 58, 59, 61] σ q.2.2 ∧ ∀ i, i < 9 → q.2.2 57 i = (if i < k then wN s i else σ 57 i) ∧ q.2.2 58 i = (if i < k then rN L s i else σ 58 i) ∧ q.2.2 59 i = (if i < k then nN s i else σ 59 i) ∧ q.2.2 61 i = (if i < k ∧ s 1 i = 1 then σ 61 i + 1 else σ 61 i)) F N _ (by omega) ⟨rfl, rfl, Fr.refl _ _, by intro i hi; simp⟩ ?_ ?_
  · rintro k ⟨a, b, σ'⟩ hk ⟨e1, e2, hf, hi⟩
    dsimp only at e1 e2 hf hi
    subst e1 e2
    have e12 := hf 12 (by decide)
    obtain ⟨i57, i58, i59, i61⟩ := hi k (by omega)
    obtain ⟨w, r, n, h⟩ := sx k hk
    simp only [Nat.lt_irrefl, if_false, false_and, Nat.reduceAdd] at i57 i58 i59 i61 w r n h
    refine Ev.imp (P := fun r => r.1 = 0 ∧ _) ?_ (fun r h => Or.inl h)
    generalize hP : (fun r : Nat × Int32 × Int32 × Sg => _ ∧ _) = P
    unfold s_X2_nodAll_55_h4 f_X2_nodAll_55_b88 f_X2_nodAll_55_b132
    simp only [e12, l0, nI_le (show F < 2147483648 by omega) (show k < 2147483648 by omega), nI_cl (show k < 2147483648 by omega), nI_nn (show k < 2147483648 by omega), show ¬ F ≤ k by omega, show ¬ 9 ≤ k by omega, or_self, if_false, ev_bd, ev_i, ev_s, nI_s, wr_eq, reduceIte, Nat.reduceEqDiff, i57, i58, i59, i61, w, r, n, h, l7]
    clear lx lm lc sx sz l0 l6 l7 l8 l9 s0 s1 e12
    (repeat' (first | apply And.intro | intro _)) <;> subst hP <;> refine ⟨rfl, ?_, rfl, ?_, ?_⟩
    all_goals first
      | (rw [mk_s]; simp [*])
      | exact hf
      | exact hf.wr (by decide)
      | exact (((hf.wr (by decide)).wr (by decide)).wr (by decide)).wr (by decide)
      | exact ((hf.wr (by decide)).wr (by decide)).wr (by decide)
      | (intro i hi'
         by_cases hik : i = k
         · subst hik
           clear hi
           simp only [wr_eq, wN, rN, nN]
           grind
         · have h' := hi i hi'
           have e : (i < k + 1) = (i < k) := by apply propext; omega
           simp only [wr_eq, hik, e, reduceIte, Nat.reduceEqDiff]
           exact h')
  · rintro ⟨a, b, σ'⟩ ⟨e1, e2, hf, hi⟩
    dsimp only at e1 e2 hf hi
    subst e1 e2
    have e12 := hf 12 (by decide)
    unfold s_X2_nodAll_55_h4
    simp only [e12, l0, nI_le (show F < 2147483648 by omega) (show F < 2147483648 by omega), Nat.le_refl, if_true, ev_s]
    refine ⟨by decide, rfl, ⟨?_, ?_, ?_, ?_⟩, ?_, hf⟩
    · rw [hf 56 (by decide)]; exact s0
    · rw [hf 56 (by decide)]; exact s1
    · intro i hi'
      have h60 := hf 60 (by decide)
      have := hi i (by omega)
      have := sx i hi'
      simp only [sN, stt, Nat.reduceAdd] at *
      simp_all
    · intro i hi' h9
      have := hi i h9
      have := sz i hi' h9
      simp only [Nat.reduceAdd] at *
      grind
    · intro i hi'
      have := hi i (by omega)
      grind
theorem PP.c_isFree {N F f : Nat} {σ : Sg} {x : Int32} (hf : f < 9) : f_X2_isFree_55 N (nI f) x σ = some ((if σ 57 f = 0 ∧ σ 58 f = 0 ∧ ¬ hasB (σ 56 1 ||| x) f then 1 else 0), σ) := by
  unfold f_X2_isFree_55 f_X2_isFree_55_b44
  simp (disch := omega) only [nI_cl, nI_nn, show ¬ 9 ≤ f by omega, or_self, if_false, nhasB]
  by_cases h1 : σ 57 f = 0 <;> by_cases h2 : σ 58 f = 0 <;> by_cases h3 : hasB (σ 56 1 ||| x) f <;> simp [h1, h2, h3]
theorem PP.c_away {N F a b : Nat} {L σ : Sg} (hL : LC F L σ) (ha : a < F) (hb : b < F) : f_X9_away_12 N (nI a) (nI b) σ = some (aw L a b, σ) := by
  obtain ⟨hF, l0, l6, l7, l8, l9, lx, lm, lc⟩ := hL
  unfold f_X9_away_12 aw
  simp (disch := omega) only [nI_cl, nI_nn, show ¬ 9 ≤ a by omega, show ¬ 9 ≤ b by omega, or_self, if_false, (lx a ha).1, (lx b hb).1]
theorem PP.ab_sym {x y : Int32} (h1 : 0 ≤ x ∧ x ≤ 99) (h2 : 0 ≤ y ∧ y ≤ 99) : (if 0 ≤ x - y then x - y else 0 - (x - y)) = (if 0 ≤ y - x then y - x else 0 - (y - x)) := by split <;> split <;> grind
theorem PP.aw_sym {a b : Nat} {L : Sg} (h1 : 0 ≤ L 1 a ∧ L 1 a ≤ 99) (h2 : 0 ≤ L 1 b ∧ L 1 b ≤ 99) : aw L a b = aw L b a := ab_sym h1 h2
theorem PP.nst_s (F : Nat) (L : Sg) (f : Nat) (set : Int32) (k : Nat) : nst F L f set (k + 1) = if hasB set k then (match nst F L f set k with | none => Option.some k | Option.some j => if aw L k f < aw L j f then Option.some k else Option.some j) else nst F L f set k := rfl
theorem PP.aw_c {F a b : Nat} {L : Sg} (h : LandOK F L) (ha : a < F) (hb : b < F) : aw L a b = aw L b a := by
  exact aw_sym (h.2.2.2.2.2.2.1 a ha).1 (h.2.2.2.2.2.2.1 b hb).1
theorem PP.nst_p {F : Nat} {L : Sg} {f : Nat} {set : Int32} : ∀ {k j : Nat}, nst F L f set k = some j → j < k ∧ hasB set j
  | 0, j, h => by cases h
  | k + 1, j, h => by
    unfold nst at h
    by_cases hb : hasB set k
    · rw [if_pos hb] at h
      cases hn : nst F L f set k with
      | none => rw [hn] at h; cases h; exact ⟨by omega, hb⟩
      | some i =>
        rw [hn] at h
        dsimp only at h
        have := nst_p hn
        split at h <;> cases h
        · exact ⟨by omega, hb⟩
        · exact ⟨by omega, this.2⟩
    · rw [if_neg hb] at h
      have := nst_p h
      exact ⟨by omega, this.2⟩
theorem PP.c_nearest {N F f : Nat} {L σ : Sg} {set : Int32} (hN : 20 < N) (hO : LandOK F L) (hL : LC F L σ) (hf : f < F) (hb : ¬ hasB set f) : f_X2_nearestOf_55 N (nI f) set σ = some (nI ((nst F L f set F).getD f), σ) := by
  have hF : F ≤ 9 := hO.1
  unfold f_X2_nearestOf_55
  rw [← ev_eq, ev_b]
  refine ev_for (fun k q => q = (nI ((nst F L f set k).getD f), nI k, σ)) F N _ (by omega) rfl ?_ ?_
  · rintro k _ hk rfl
    refine Ev.imp (P := fun r => r.1 = 0 ∧ _) ?_ (fun r h => Or.inl h)
    have l0 := hL.2.1
    unfold s_X2_nearestOf_55_h5 f_X2_nearestOf_55_b32 f_X2_nearestOf_55_b66 f_X2_nearestOf_55_b69
    dsimp only
    simp (disch := omega) only [l0, nI_le, show ¬ F ≤ k by omega, if_false, nI_s]
    rw [nst_s]
    by_cases hk1 : hasB set k
    · rw [if_pos hk1, if_pos hk1]
      cases hn : nst F L f set k with
      | none =>
        simp only [Option.getD_none, reduceIte, ev_bd, ev_s, show ¬ (1 : Int32) = 0 by decide]
        exact ⟨by trivial, by trivial⟩
      | some j =>
        have hj := nst_p hn
        have hjf : j ≠ f := fun e => hb (e ▸ hj.2)
        simp (disch := omega) only [Option.getD_some, show ¬ (1 : Int32) = 0 by decide, reduceIte, nI_eq, hjf, c_away hL hf hk, c_away hL hf (show j < F by omega), Option.bind_some, ev_i, ev_bd, ev_s]
        rw [aw_c hO hf hk, aw_c hO hf (show j < F by omega)]
        refine ⟨fun h => ⟨by trivial, ?_⟩, fun h => ⟨by trivial, ?_⟩⟩
        · rw [if_neg (by grind)]; rfl
        · rw [if_pos (by grind)]; rfl
    · rw [if_neg hk1, if_neg hk1]
      simp only [reduceIte, ev_bd, ev_s]
      exact ⟨by trivial, by trivial⟩
  · rintro _ rfl
    have l0 := hL.2.1
    unfold s_X2_nearestOf_55_h5
    dsimp only
    simp (disch := omega) only [l0, nI_le, Nat.le_refl, if_true, ev_s]
    exact ⟨by decide, by trivial⟩
theorem PP.c_joined {N : Nat} {o a b : Int32} {σ : Sg} (h1 : -15 ≤ o) (h2 : o < -7) : f_X4_joined N o a b σ = some (jnd o a b, σ) := by
  unfold f_X4_joined f_X4_joined_b70 f_X4_joined_b52
  have hc : o = -15 ∨ o = -14 ∨ o = -13 ∨ o = -12 ∨ o = -11 ∨ o = -10 ∨ o = -9 ∨ o = -8 := by grind
  rcases hc with rfl | rfl | rfl | rfl | rfl | rfl | rfl | rfl <;> unfold jnd <;> simp
  · split <;> simp_all
  · split <;> simp_all
  · split
    · rw [if_neg (by grind)]
    · rw [if_pos (by grind)]
  · by_cases ha : a = 0 <;> by_cases hb : b = 0 <;> simp [ha, hb]
  · by_cases ha : a = 0 <;> by_cases hb : b = 0 <;> simp [ha, hb]
theorem PP.dp_s (c : Nat → Int32) (k : Nat) : dp c (k + 1) = if -6 ≤ c k then dp c k + 1 else if c k = -7 then dp c k else dp c k - 1 := rfl
theorem PP.evS_s (c v : Nat → Int32) (k : Nat) : (evS c v (k + 1)).2 = if -6 ≤ c k then upd (evS c v k).2 (dp c k) (if 0 ≤ c k then c k else v (-1 - c k).toNatClampNeg) else if c k = -7 then upd (evS c v k).2 (dp c k - 1) (if (evS c v k).2 (dp c k - 1) = 0 then 1 else 0) else upd (evS c v k).2 (dp c k - 2) (jnd (c k) ((evS c v k).2 (dp c k - 2)) ((evS c v k).2 (dp c k - 1))) := by
  rw [← evS_dp c v k]
  conv => lhs; unfold evS
  dsimp only
  split
  · rfl
  · split <;> rfl
theorem PP.neg_cl {x : Int32} (h1 : -6 ≤ x) (h2 : ¬ 0 ≤ x) : ∃ j : Nat, j < 6 ∧ -1 - x = nI j := by
  have hc : x = -6 ∨ x = -5 ∨ x = -4 ∨ x = -3 ∨ x = -2 ∨ x = -1 := by grind
  rcases hc with rfl | rfl | rfl | rfl | rfl | rfl
  · exact ⟨5, by omega, rfl⟩
  · exact ⟨4, by omega, rfl⟩
  · exact ⟨3, by omega, rfl⟩
  · exact ⟨2, by omega, rfl⟩
  · exact ⟨1, by omega, rfl⟩
  · exact ⟨0, by omega, rfl⟩
theorem PP.nI_p {k : Nat} (h : 1 ≤ k) : nI k - 1 = nI (k - 1) := by
  obtain ⟨j, rfl⟩ : ∃ j, k = j + 1 := ⟨k - 1, by omega⟩
  rw [← nI_s, Nat.add_sub_cancel]
  grind
theorem PP.nI_p' {k : Nat} (h : 1 ≤ k) : nI k + (-1) = nI (k - 1) := by
  rw [← nI_p h]; grind
theorem PP.c_answer {N F len : Nat} {L σ : Sg} {v : Nat → Int32} (hN : 1000 < N) (hR : RuleOK len (L 6)) (h4 : L 0 4 = nI len) (hL : LC F L σ) (hv : ∀ i, i < 6 → σ 62 i = v i) (h0 : 0 < len) : Ev (f_X4_answer_18_62 N σ) (fun z => z.1 = (evS (L 6) v len).2 0 ∧ Fr [20] σ z.2) := by
  obtain ⟨hF, l0, l6, l7, l8, l9, lx, lm, lc⟩ := hL
  obtain ⟨hlen, hR⟩ := hR
  rw [h4] at l9 lc
  rw [nI_cl (by omega)] at lc
  unfold f_X4_answer_18_62
  rw [ev_b]
  refine ev_for (fun k q => k ≤ len ∧ q.1 = nI (dp (L 6) k) ∧ q.2.1 = nI k ∧ Fr [20] σ q.2.2 ∧ (∀ j, j < dp (L 6) k → q.2.2 20 j = (evS (L 6) v k).2 j) ∧ dp (L 6) k ≤ 31 ∧ (0 < k → 0 < dp (L 6) k)) len N _ (by omega) ⟨by omega, rfl, rfl, Fr.refl _ _, by intro j hj; exact absurd hj (by simp [dp]), by simp [dp], by intro h; exact absurd h (by omega)⟩ ?_ ?_
  · rintro k ⟨a, b, σ'⟩ hk ⟨_, e1, e2, hf, hi, hd, hp⟩
    dsimp only at e1 e2 hf hi
    subst e1 e2
    obtain ⟨r1, r2, r3, r4⟩ := hR k hk
    have e18 := hf 18 (by decide)
    have e19 := hf 19 (by decide)
    have e62 := hf 62 (by decide)
    refine Ev.imp (P := fun r => r.1 = 0 ∧ _) ?_ (fun r h => Or.inl h)
    generalize hP : (fun r : Nat × Int32 × Int32 × Sg => _ ∧ _) = P
    unfold s_X4_answer_18_62_h4 f_X4_answer_18_62_b54 f_X4_answer_18_62_b95 f_X4_answer_18_62_b134
    simp (disch := omega) only [e18, e19, e62, l9, nI_le, nI_cl, nI_nn, show ¬ len ≤ k by omega, show ¬ 700 ≤ k by omega, or_self, if_false, ev_bd, lc k hk, nI_s]
    clear lx lm lc l0 l6 l7 l8 hR
    by_cases c6 : -6 ≤ L 6 k
    · have r2 := r2 c6
      have hlt : ¬ L 6 k < -6 := by grind
      have h31 : ¬ (31 : Int32) ≤ nI (dp (L 6) k) := by
        rw [show (31 : Int32) = nI 31 from rfl, nI_le (by omega) (by omega)]; omega
      have key : ∀ x : Int32, x = (if 0 ≤ L 6 k then L 6 k else v (-1 - L 6 k).toNatClampNeg) → P (0, nI (dp (L 6) k + 1), nI (k + 1), wr σ' 20 (dp (L 6) k) x) := by
        intro x hx
        subst hP
        refine ⟨rfl, by omega, ?_, rfl, hf.wr (by decide), ?_, ?_, ?_⟩
        · rw [dp_s, if_pos c6]
        · intro j hj
          rw [dp_s, if_pos c6] at hj
          dsimp only
          rw [evS_s, if_pos c6, wr_e]
          by_cases hjd : j = dp (L 6) k
          · subst hjd; simp only [upd_e]; exact hx
          · simp only [upd_n hjd]; exact hi j (by omega)
        · rw [dp_s, if_pos c6]; omega
        · intro _; rw [dp_s, if_pos c6]; omega
      rw [if_neg hlt, if_neg h31]
      by_cases cp : 0 ≤ L 6 k
      · have : ¬ L 6 k < 0 := by grind
        rw [if_neg this]
        simp (disch := omega) only [nI_cl, nI_nn, show ¬ 31 ≤ dp (L 6) k by omega, or_self, if_false, ev_bd, ev_s, nI_s]
        exact key _ (by rw [if_pos cp])
      · have : L 6 k < 0 := by grind
        obtain ⟨j, hj, ej⟩ := neg_cl c6 cp
        rw [if_pos this, ej]
        simp (disch := omega) only [nI_cl, nI_nn, show ¬ 31 ≤ dp (L 6) k by omega, show ¬ 6 ≤ j by omega, or_self, if_false, ev_bd, ev_s, nI_s, hv j hj]
        exact key _ (by rw [if_neg cp, ej, nI_cl (by omega)])
    · have hlt : L 6 k < -6 := by grind
      rw [if_pos hlt]
      by_cases c7 : L 6 k = -7
      · have r3 := r3 c7
        rw [if_pos c7]
        have hn0 : ¬ nI (dp (L 6) k) ≤ 0 := by rw [← nI_0, nI_le (by omega) (by omega)]; omega
        rw [if_neg hn0, nI_p r3]
        have key : ∀ x : Int32, x = (if (evS (L 6) v k).2 (dp (L 6) k - 1) = 0 then 1 else 0) → P (0, nI (dp (L 6) k), nI (k + 1), wr σ' 20 (dp (L 6) k - 1) x) := by
          intro x hx
          subst hP
          refine ⟨rfl, by omega, ?_, rfl, hf.wr (by decide), ?_, ?_, ?_⟩
          · rw [dp_s, if_neg c6, if_pos c7]
          · intro j hj
            rw [dp_s, if_neg c6, if_pos c7] at hj
            dsimp only
            rw [evS_s, if_neg c6, if_pos c7, wr_e]
            by_cases hjd : j = dp (L 6) k - 1
            · subst hjd; simp only [upd_e]; exact hx
            · simp only [upd_n hjd]; exact hi j (by omega)
          · rw [dp_s, if_neg c6, if_pos c7]; omega
          · intro _; rw [dp_s, if_neg c6, if_pos c7]; omega
        simp (disch := omega) only [nI_cl, nI_nn, show ¬ 31 ≤ dp (L 6) k - 1 by omega, or_self, if_false, ev_i, ev_bd, ev_s, hi (dp (L 6) k - 1) (by omega)]
        exact ⟨fun h => key _ (by rw [if_pos h]), fun h => key _ (by rw [if_neg h])⟩
      · have hlt7 : L 6 k < -7 := by grind
        have r4 := r4 hlt7
        rw [if_neg c7]
        have hn0 : ¬ nI (dp (L 6) k) ≤ 1 := by rw [show (1 : Int32) = nI 1 from rfl, nI_le (by omega) (by omega)]; omega
        rw [if_neg hn0, nI_p' (by omega), ev_bd, nI_p (by omega)]
        simp (disch := omega) only [nI_cl, nI_nn, show ¬ 31 ≤ dp (L 6) k - 1 by omega, show ¬ 31 ≤ dp (L 6) k - 1 - 1 by omega, or_self, if_false, c_joined r1 hlt7, Option.bind_some, ev_bd, ev_s]
        subst hP
        refine ⟨rfl, by omega, ?_, rfl, hf.wr (by decide), ?_, ?_, ?_⟩
        · rw [dp_s, if_neg c6, if_neg c7]
        · intro j hj
          rw [dp_s, if_neg c6, if_neg c7] at hj
          dsimp only
          rw [evS_s, if_neg c6, if_neg c7, wr_e]
          by_cases hjd : j = dp (L 6) k - 2
          · subst hjd
            rw [show dp (L 6) k - 1 - 1 = dp (L 6) k - 2 by omega]
            simp only [upd_e]
            rw [hi _ (by omega), hi _ (by omega)]
          · rw [show dp (L 6) k - 1 - 1 = dp (L 6) k - 2 by omega]
            simp only [upd_n hjd]; exact hi j (by omega)
        · rw [dp_s, if_neg c6, if_neg c7]; omega
        · intro _; rw [dp_s, if_neg c6, if_neg c7]; omega
  · rintro ⟨a, b, σ'⟩ ⟨_, e1, e2, hf, hi, hd, hp⟩
    dsimp only at e1 e2 hf hi
    subst e1 e2
    have e18 := hf 18 (by decide)
    unfold s_X4_answer_18_62_h4
    simp (disch := omega) only [e18, l9, nI_le, Nat.le_refl, if_true, ev_s]
    exact ⟨by decide, hi 0 (hp h0), hf⟩
theorem PP.sub_mo {m n : Nat} {a : Int32} (h : sub m a) (hmn : m ≤ n) : sub n a := fun k hk hn => h k hk (by omega)
theorem PP.sub_and {n : Nat} {a b : Int32} (h : sub n a) : sub n (a &&& b) := fun k hk hn hb => h k hk hn ((hasB_and hk).mp hb).1
theorem PP.sub_or {n : Nat} {a b : Int32} (h : sub n a) (h' : sub n b) : sub n (a ||| b) := fun k hk hn hb => ((hasB_or hk).mp hb).elim (h k hk hn) (h' k hk hn)
theorem PP.sub_0 (n : Nat) : sub n 0 := fun k hk _ => hasB_0 hk
theorem PP.sub_ex {n : Nat} {a : Int32} (h : sub n a) (h0 : a ≠ 0) : ∃ k, k < n ∧ k < 32 ∧ hasB a k := by
  by_cases hx : ∃ k, k < n ∧ k < 32 ∧ hasB a k
  · exact hx
  · refine absurd (eq0_iff.mpr fun k hk hb => ?_) h0
    by_cases hn : k < n
    · exact hx ⟨k, hn, hk, hb⟩
    · exact h k hk (by omega) hb
theorem PP.sub_sees {F : Nat} {L : Sg} {t : Nat → Int32} {m : Int32} {a : Nat} (hF : F ≤ 9) : sub F (sees F L t m a) := sub_mk (by omega)
theorem PP.sees_self {F : Nat} {L : Sg} {t : Nat → Int32} {m : Int32} {a : Nat} (hF : F ≤ 9) (ha : a < F) : ¬ hasB (sees F L t m a) a := fun h => by
  have := ((hasB_mk (by omega) (by omega)).mp h).2
  unfold sgt at this
  simp at this
theorem PP.nst_ex {F : Nat} {L : Sg} {f : Nat} {set : Int32} : ∀ {n k : Nat}, k < n → hasB set k → ∃ j, nst F L f set n = some j
  | 0, k, h, _ => absurd h (by omega)
  | n + 1, k, h, hb => by
    rw [nst_s]
    by_cases hn : hasB set n
    · rw [if_pos hn]
      cases nst F L f set n with
      | none => exact ⟨n, rfl⟩
      | some j =>
        dsimp only
        split
        · exact ⟨n, rfl⟩
        · exact ⟨j, rfl⟩
    · rw [if_neg hn]
      have : k ≠ n := fun e => hn (e ▸ hb)
      exact nst_ex (by omega) hb
theorem PP.c_minds {N F f : Nat} {L s σ : Sg} {set m : Int32} (hN : 1000 < N) (hO : LandOK F L) (hL : LC F L σ) (hf : f < F) (hS : sub F set) (h0 : set ≠ 0) (hb : ¬ hasB set f) (h3 : σ 59 f = s 3 f) (ht : σ 56 0 = s 0 0) : Ev (f_X2_minds_55 N (nI f) set m σ) (fun z => z.1 = (if mnd F L s m f set = true then 1 else 0) ∧ Fr [20, 62] σ z.2) := by
  have hF : F ≤ 9 := hO.1
  have hR := hO.2.2.2.2.2.1
  obtain ⟨len, hlen, e4⟩ := nI_of hR.1
  have hR := hR.2
  rw [e4, nI_cl hlen] at hR
  have l9 := hL.2.2.2.2.2.1
  have lx := hL.2.2.2.2.2.2.1
  obtain ⟨w, hw, hw32, hbw⟩ := sub_ex hS h0
  obtain ⟨g, hg⟩ := nst_ex (F := F) (L := L) (f := f) hw hbw
  have hgF := nst_p hg
  unfold f_X2_minds_55 f_X2_minds_55_b28
  generalize hP : (fun z : Int32 × Sg => _ ∧ _) = P
  have m1 : L 0 4 = 0 ∨ L 5 f = 1 → P (1, σ) := by
    intro h
    subst hP
    refine ⟨?_, Fr.refl _ _⟩
    have : mnd F L s m f set = true := by
      unfold mnd
      rw [decide_eq_true_eq]
      rcases h with h | h
      · exact Or.inl h
      · exact Or.inr (Or.inl h)
    rw [if_pos this]
  have lxf := lx f hf
  rw [l9, ev_i]
  refine ⟨fun h => ev_s.mpr (m1 (Or.inl h)), fun hl => ?_⟩
  rw [ev_i]
  refine ⟨fun h => ev_s.mpr (m1 (Or.inr (lxf.2.2.2.mp h))), fun hd => ?_⟩
  have hd' : ¬ L 5 f = 1 := fun h => hd (lxf.2.2.2.mpr h)
  rw [c_nearest (by omega) hO hL hf hb, hg]
  simp (disch := omega) only [Option.getD_some, Option.bind_some, ev_bd, c_bc N _ (sub_mo hS hF), nI_cl, nI_nn, show ¬ 9 ≤ g by omega, show ¬ 9 ≤ f by omega, or_self, if_false]
  have hL' : LC F L (wr σ 62 0 (pc set)) := hL.fr ((Fr.refl [62] σ).wr (by decide)) (by decide)
  rw [c_away hL' hf hgF.1]
  simp only [Option.bind_some, ev_bd]
  have e4' : len ≠ 0 := fun h => hl (by rw [e4, h]; rfl)
  refine Ev.bind (c_answer (F := F) (len := len) (L := L) (v := vals L s m f g set) hN hR e4 ?_ ?_ (by omega)) ?_
  · exact hL.fr (((((((Fr.refl [62] σ).wr (by decide)).wr (by decide)).wr (by decide)).wr (by decide)).wr (by decide)).wr (by decide)) (by decide)
  · intro i hi
    have e2 := (lx g hgF.1).2.1
    have e2f := lxf.2.1
    have hc : i = 0 ∨ i = 1 ∨ i = 2 ∨ i = 3 ∨ i = 4 ∨ i = 5 := by omega
    rcases hc with rfl | rfl | rfl | rfl | rfl | rfl <;> simp [wr_eq, vals, e2, e2f, h3, ht, aw_c hO hf hgF.1]
  · rintro ⟨r, σ'⟩ ⟨e, hfr⟩
    dsimp only at e hfr
    subst e
    have hfr' : Fr [20, 62] σ σ' := Fr.tr (((((((Fr.refl [20, 62] σ).wr (by decide)).wr (by decide)).wr (by decide)).wr (by decide)).wr (by decide)).wr (by decide)) (hfr.mo (by decide))
    have hm : mnd F L s m f set = true ↔ 0 < (evS (L 6) (vals L s m f g set) len).2 0 := by
      unfold mnd
      rw [decide_eq_true_eq, hg, e4, nI_cl hlen]
      rw [e4] at hl
      simp [hd', hl]
    dsimp only
    rw [ev_i]
    subst hP
    refine ⟨fun h => ev_s.mpr ⟨?_, hfr'⟩, fun h => ev_s.mpr ⟨?_, hfr'⟩⟩
    · rw [if_neg (by rw [hm]; grind)]
    · rw [if_pos (by rw [hm]; grind)]
theorem PP.c_of_47 {N f m : Nat} {σ : Sg} (hf : f < 9) (hm : m < 10) : f_X6_of_47 N (nI f) (nI m) σ = some (σ 49 (m * 9 + f), σ) := by
  unfold f_X6_of_47 f_X6_of_47_b29
  rw [show (9 : Int32) = nI 9 from rfl, nI_mul, nI_add]
  simp (disch := omega) only [bd, nI_cl, nI_nn, show (90 : Int32) = nI 90 from rfl, nI_le, show ¬ 90 ≤ m * 9 + f by omega, or_self, if_false]
theorem PP.c_step_47 {N F m : Nat} {L s σ : Sg} (hN : 1000 < N) (hO : LandOK F L) (hL : LC F L σ) (hs : SC 56 F s σ) (hr : RC 47 F L (tp L s) σ) (hm : m < 10) : Ev (f_X2_step_55_47 N (nI m) σ) (fun z => z.1 = nds F s ∧ SC 56 F (tick F L (nI m) s) z.2 ∧ (∀ i, i < F → z.2 61 i = σ 61 i + (if s 1 i = 1 then 1 else 0)) ∧ Fr [20, 56, 57, 58, 59, 61, 62] σ z.2) := by
  have hF : F ≤ 9 := hO.1
  unfold f_X2_step_55_47
  refine (c_nodAll (by omega) hL hs).bind ?_
  rintro ⟨nd, σ1⟩ ⟨e, hs1, htm, hf1⟩
  dsimp only at e hs1 htm hf1 ⊢
  subst e
  rw [ev_bd, ev_b]
  have hL1 : LC F L σ1 := hL.fr hf1 (by decide)
  have hr1 : RC 47 F L (tp L s) σ1 := hr.fr hf1 (by decide)
  obtain ⟨a0, a1, ax, az⟩ := hs1
  refine ev_for (Q := fun r => Fr [20, 57, 62] σ1 r.2.2 ∧ ∀ i, i < 9 → r.2.2 57 i = (if i < F ∧ starts F L s (nI m) i = true then L 3 i else σ1 57 i)) (fun k q => q.1 = nI k ∧ Fr [20, 57, 62] σ1 q.2 ∧ ∀ i, i < 9 → q.2 57 i = (if i < k ∧ starts F L s (nI m) i = true then L 3 i else σ1 57 i)) F N _ (by omega) ⟨rfl, Fr.refl _ _, by intro i hi; simp⟩ ?_ ?_ |>.imp ?_
  · rintro k ⟨a, σ'⟩ hk ⟨e1, hf, hi⟩
    dsimp only at e1 hf hi
    subst e1
    have hL' : LC F L σ' := hL1.fr hf (by decide)
    have hr' : RC 47 F L (tp L s) σ' := hr1.fr hf (by decide)
    unfold s_X2_step_55_47_h8 f_X2_step_55_47_b82
    dsimp only
    simp (disch := omega) only [hL'.2.1, nI_le, show ¬ F ≤ k by omega, if_false, nI_s]
    by_cases hn0 : nds F s = 0
    · rw [if_pos hn0, ev_s]
      refine Or.inr ⟨Nat.one_ne_zero, hf, ?_⟩
      intro i hi9
      dsimp only
      have hns : ∀ j, ¬ starts F L s (nI m) j = true := by
        intro j hj
        unfold starts at hj
        rw [decide_eq_true_eq] at hj
        refine hj.2.2.2.1 ?_
        rw [hn0]; exact Int32.and_zero
      rw [hi i hi9]
      simp [hns]
    · rw [if_neg hn0]
      refine Ev.imp (P := fun r => r.1 = 0 ∧ _) ?_ (fun r h => Or.inl h)
      rw [c_of_47 (by omega) hm]
      have hrow : σ' 49 (m * 9 + k) = sees F L (tp L s) (nI m) k := hr'.2 m k hm hk
      simp only [Option.bind_some, ev_bd, hrow]
      generalize hP : (fun r : Nat × Int32 × Sg => _ ∧ _) = P
      have no : ∀ σ'' : Sg, Fr [20, 62] σ' σ'' → ¬ starts F L s (nI m) k = true → P (0, nI (k + 1), σ'') := by
        intro σ'' hf'' hst
        subst hP
        refine ⟨rfl, rfl, hf.tr (hf''.mo (by decide)), ?_⟩
        intro i hi9
        dsimp only
        rw [hf'' 57 (by decide), hi i hi9]
        by_cases hik : i = k
        · subst hik; simp [hst]
        · have e : (i < k + 1) = (i < k) := by apply propext; omega
          simp only [e]
      have w1 : σ' 57 k = wN s k := by
        rw [hi k (by omega)]
        simp only [Nat.lt_irrefl, false_and, if_false]
        rw [(ax k hk).1]; simp [sN, stt, hk]
      have r1 : σ' 58 k = rN L s k := by
        rw [hf 58 (by decide)]
        rw [(ax k hk).2.1]; simp [sN, stt, hk]
      have n1 : σ' 59 k = sN F L s 3 k := by
        rw [hf 59 (by decide)]
        exact (ax k hk).2.2.1
      have t1 : σ' 56 0 = sN F L s 0 0 := by rw [hf 56 (by decide)]; exact a0
      have as1 : σ' 56 1 = s 0 1 := by rw [hf 56 (by decide), a1]; rfl
      by_cases c1 : sees F L (tp L s) (nI m) k &&& nds F s = 0
      · rw [if_pos c1, ev_bd, ev_s]
        refine no σ' (Fr.refl _ _) ?_
        unfold starts
        rw [decide_eq_true_eq]
        exact fun h => h.2.2.2.1 c1
      · rw [if_neg c1, c_isFree (F := F) (show k < 9 by omega)]
        simp only [Option.bind_some, w1, r1, as1]
        by_cases c2 : wN s k = 0 ∧ rN L s k = 0 ∧ ¬ hasB (s 0 1 ||| nds F s) k
        · rw [if_pos c2, if_neg (by decide)]
          refine (c_minds (s := sN F L s) (m := nI m) hN hO hL' hk (sub_and (sub_sees hF)) c1 ?_ n1 t1).bind ?_
          · intro h
            exact sees_self hF hk ((hasB_and (by omega)).mp h).1
          · rintro ⟨r, σ''⟩ ⟨e, hfr⟩
            dsimp only at e hfr ⊢
            subst e
            have hst : starts F L s (nI m) k = true ↔ mnd F L (sN F L s) (nI m) k (sees F L (tp L s) (nI m) k &&& nds F s) = true := by
              unfold starts
              rw [decide_eq_true_eq]
              exact ⟨fun h => h.2.2.2.2, fun h => ⟨c2.1, c2.2.1, c2.2.2, c1, h⟩⟩
            by_cases c3 : mnd F L (sN F L s) (nI m) k (sees F L (tp L s) (nI m) k &&& nds F s) = true
            · rw [if_pos c3, if_neg (by decide)]
              simp (disch := omega) only [nI_cl, nI_nn, show ¬ 9 ≤ k by omega, or_self, if_false, ev_bd, ev_s]
              subst hP
              refine ⟨rfl, rfl, (hf.tr (hfr.mo (by decide))).wr (by decide), ?_⟩
              intro i hi9
              dsimp only
              rw [wr_e]
              by_cases hik : i = k
              · subst hik
                rw [upd_e, hfr 16 (by decide)]
                rw [if_pos ⟨by omega, hst.mpr c3⟩]
                exact (hL'.2.2.2.2.2.2.1 i hk).2.2.1
              · rw [upd_n hik, hfr 57 (by decide), hi i hi9]
                have e : (i < k + 1) = (i < k) := by apply propext; omega
                simp only [e]
            · rw [if_neg c3, if_pos rfl, ev_bd, ev_s]
              exact no σ'' hfr (fun h => c3 (hst.mp h))
        · rw [if_neg c2, if_pos rfl, ev_bd, ev_s]
          refine no σ' (Fr.refl _ _) ?_
          unfold starts
          rw [decide_eq_true_eq]
          exact fun h => c2 ⟨h.1, h.2.1, h.2.2.1⟩
  · rintro ⟨a, σ'⟩ ⟨e1, hf, hi⟩
    dsimp only at e1 hf hi
    subst e1
    have hL' : LC F L σ' := hL1.fr hf (by decide)
    unfold s_X2_step_55_47_h8
    dsimp only
    simp (disch := omega) only [hL'.2.1, nI_le, Nat.le_refl, if_true, ev_s]
    exact ⟨by decide, hf, hi⟩
  · rintro ⟨a, b, σ'⟩ ⟨hf, hi⟩
    dsimp only at hf hi ⊢
    rw [ev_bd, ev_s]
    refine ⟨rfl, ⟨?_, ?_, ?_, ?_⟩, ?_, ?_⟩
    · dsimp only
      rw [wr_e, upd_e, hf 56 (by decide), a0]; rfl
    · dsimp only
      rw [wr_e, upd_n (by decide), hf 56 (by decide), a1]; rfl
    · intro i hi'
      have h1 := hi i (by omega)
      obtain ⟨x1, x2, x3, x4⟩ := ax i hi'
      simp only [Nat.reduceAdd] at x1 x2 x3 x4 ⊢
      rw [wr_n (by decide), wr_n (by decide), wr_n (by decide), wr_n (by decide), hf 58 (by decide), hf 59 (by decide), hf 60 (by decide)]
      refine ⟨?_, x2, x3, x4⟩
      rw [h1, x1]; rfl
    · intro i hi' h9
      have h1 := hi i (by omega)
      have h2 := az i hi' h9
      simp only [Nat.reduceAdd] at h2 ⊢
      rw [wr_n (by decide), h1, if_neg (by omega), h2]
    · intro i hi'
      dsimp only
      rw [wr_n (by decide), hf 61 (by decide)]
      exact htm i hi'
    · exact ((hf1.mo (by decide)).tr (hf.mo (by decide))).wr (by decide)
theorem PP.c_of_50 {N f m : Nat} {σ : Sg} (hf : f < 9) (hm : m < 10) : f_X6_of_50 N (nI f) (nI m) σ = some (σ 52 (m * 9 + f), σ) := by
  unfold f_X6_of_50 f_X6_of_50_b29
  rw [show (9 : Int32) = nI 9 from rfl, nI_mul, nI_add]
  simp (disch := omega) only [bd, nI_cl, nI_nn, show (90 : Int32) = nI 90 from rfl, nI_le, show ¬ 90 ≤ m * 9 + f by omega, or_self, if_false]
theorem PP.c_step_50 {N F m : Nat} {L s σ : Sg} (hN : 1000 < N) (hO : LandOK F L) (hL : LC F L σ) (hs : SC 56 F s σ) (hr : RC 50 F L (tp L s) σ) (hm : m < 10) : Ev (f_X2_step_55_50 N (nI m) σ) (fun z => z.1 = nds F s ∧ SC 56 F (tick F L (nI m) s) z.2 ∧ (∀ i, i < F → z.2 61 i = σ 61 i + (if s 1 i = 1 then 1 else 0)) ∧ Fr [20, 56, 57, 58, 59, 61, 62] σ z.2) := by
  have hF : F ≤ 9 := hO.1
  unfold f_X2_step_55_50
  refine (c_nodAll (by omega) hL hs).bind ?_
  rintro ⟨nd, σ1⟩ ⟨e, hs1, htm, hf1⟩
  dsimp only at e hs1 htm hf1 ⊢
  subst e
  rw [ev_bd, ev_b]
  have hL1 : LC F L σ1 := hL.fr hf1 (by decide)
  have hr1 : RC 50 F L (tp L s) σ1 := hr.fr hf1 (by decide)
  obtain ⟨a0, a1, ax, az⟩ := hs1
  refine ev_for (Q := fun r => Fr [20, 57, 62] σ1 r.2.2 ∧ ∀ i, i < 9 → r.2.2 57 i = (if i < F ∧ starts F L s (nI m) i = true then L 3 i else σ1 57 i)) (fun k q => q.1 = nI k ∧ Fr [20, 57, 62] σ1 q.2 ∧ ∀ i, i < 9 → q.2 57 i = (if i < k ∧ starts F L s (nI m) i = true then L 3 i else σ1 57 i)) F N _ (by omega) ⟨rfl, Fr.refl _ _, by intro i hi; simp⟩ ?_ ?_ |>.imp ?_
  · rintro k ⟨a, σ'⟩ hk ⟨e1, hf, hi⟩
    dsimp only at e1 hf hi
    subst e1
    have hL' : LC F L σ' := hL1.fr hf (by decide)
    have hr' : RC 50 F L (tp L s) σ' := hr1.fr hf (by decide)
    unfold s_X2_step_55_50_h8 f_X2_step_55_50_b82
    dsimp only
    simp (disch := omega) only [hL'.2.1, nI_le, show ¬ F ≤ k by omega, if_false, nI_s]
    by_cases hn0 : nds F s = 0
    · rw [if_pos hn0, ev_s]
      refine Or.inr ⟨Nat.one_ne_zero, hf, ?_⟩
      intro i hi9
      dsimp only
      have hns : ∀ j, ¬ starts F L s (nI m) j = true := by
        intro j hj
        unfold starts at hj
        rw [decide_eq_true_eq] at hj
        refine hj.2.2.2.1 ?_
        rw [hn0]; exact Int32.and_zero
      rw [hi i hi9]
      simp [hns]
    · rw [if_neg hn0]
      refine Ev.imp (P := fun r => r.1 = 0 ∧ _) ?_ (fun r h => Or.inl h)
      rw [c_of_50 (by omega) hm]
      have hrow : σ' 52 (m * 9 + k) = sees F L (tp L s) (nI m) k := hr'.2 m k hm hk
      simp only [Option.bind_some, ev_bd, hrow]
      generalize hP : (fun r : Nat × Int32 × Sg => _ ∧ _) = P
      have no : ∀ σ'' : Sg, Fr [20, 62] σ' σ'' → ¬ starts F L s (nI m) k = true → P (0, nI (k + 1), σ'') := by
        intro σ'' hf'' hst
        subst hP
        refine ⟨rfl, rfl, hf.tr (hf''.mo (by decide)), ?_⟩
        intro i hi9
        dsimp only
        rw [hf'' 57 (by decide), hi i hi9]
        by_cases hik : i = k
        · subst hik; simp [hst]
        · have e : (i < k + 1) = (i < k) := by apply propext; omega
          simp only [e]
      have w1 : σ' 57 k = wN s k := by
        rw [hi k (by omega)]
        simp only [Nat.lt_irrefl, false_and, if_false]
        rw [(ax k hk).1]; simp [sN, stt, hk]
      have r1 : σ' 58 k = rN L s k := by
        rw [hf 58 (by decide)]
        rw [(ax k hk).2.1]; simp [sN, stt, hk]
      have n1 : σ' 59 k = sN F L s 3 k := by
        rw [hf 59 (by decide)]
        exact (ax k hk).2.2.1
      have t1 : σ' 56 0 = sN F L s 0 0 := by rw [hf 56 (by decide)]; exact a0
      have as1 : σ' 56 1 = s 0 1 := by rw [hf 56 (by decide), a1]; rfl
      by_cases c1 : sees F L (tp L s) (nI m) k &&& nds F s = 0
      · rw [if_pos c1, ev_bd, ev_s]
        refine no σ' (Fr.refl _ _) ?_
        unfold starts
        rw [decide_eq_true_eq]
        exact fun h => h.2.2.2.1 c1
      · rw [if_neg c1, c_isFree (F := F) (show k < 9 by omega)]
        simp only [Option.bind_some, w1, r1, as1]
        by_cases c2 : wN s k = 0 ∧ rN L s k = 0 ∧ ¬ hasB (s 0 1 ||| nds F s) k
        · rw [if_pos c2, if_neg (by decide)]
          refine (c_minds (s := sN F L s) (m := nI m) hN hO hL' hk (sub_and (sub_sees hF)) c1 ?_ n1 t1).bind ?_
          · intro h
            exact sees_self hF hk ((hasB_and (by omega)).mp h).1
          · rintro ⟨r, σ''⟩ ⟨e, hfr⟩
            dsimp only at e hfr ⊢
            subst e
            have hst : starts F L s (nI m) k = true ↔ mnd F L (sN F L s) (nI m) k (sees F L (tp L s) (nI m) k &&& nds F s) = true := by
              unfold starts
              rw [decide_eq_true_eq]
              exact ⟨fun h => h.2.2.2.2, fun h => ⟨c2.1, c2.2.1, c2.2.2, c1, h⟩⟩
            by_cases c3 : mnd F L (sN F L s) (nI m) k (sees F L (tp L s) (nI m) k &&& nds F s) = true
            · rw [if_pos c3, if_neg (by decide)]
              simp (disch := omega) only [nI_cl, nI_nn, show ¬ 9 ≤ k by omega, or_self, if_false, ev_bd, ev_s]
              subst hP
              refine ⟨rfl, rfl, (hf.tr (hfr.mo (by decide))).wr (by decide), ?_⟩
              intro i hi9
              dsimp only
              rw [wr_e]
              by_cases hik : i = k
              · subst hik
                rw [upd_e, hfr 16 (by decide)]
                rw [if_pos ⟨by omega, hst.mpr c3⟩]
                exact (hL'.2.2.2.2.2.2.1 i hk).2.2.1
              · rw [upd_n hik, hfr 57 (by decide), hi i hi9]
                have e : (i < k + 1) = (i < k) := by apply propext; omega
                simp only [e]
            · rw [if_neg c3, if_pos rfl, ev_bd, ev_s]
              exact no σ'' hfr (fun h => c3 (hst.mp h))
        · rw [if_neg c2, if_pos rfl, ev_bd, ev_s]
          refine no σ' (Fr.refl _ _) ?_
          unfold starts
          rw [decide_eq_true_eq]
          exact fun h => c2 ⟨h.1, h.2.1, h.2.2.1⟩
  · rintro ⟨a, σ'⟩ ⟨e1, hf, hi⟩
    dsimp only at e1 hf hi
    subst e1
    have hL' : LC F L σ' := hL1.fr hf (by decide)
    unfold s_X2_step_55_50_h8
    dsimp only
    simp (disch := omega) only [hL'.2.1, nI_le, Nat.le_refl, if_true, ev_s]
    exact ⟨by decide, hf, hi⟩
  · rintro ⟨a, b, σ'⟩ ⟨hf, hi⟩
    dsimp only at hf hi ⊢
    rw [ev_bd, ev_s]
    refine ⟨rfl, ⟨?_, ?_, ?_, ?_⟩, ?_, ?_⟩
    · dsimp only
      rw [wr_e, upd_e, hf 56 (by decide), a0]; rfl
    · dsimp only
      rw [wr_e, upd_n (by decide), hf 56 (by decide), a1]; rfl
    · intro i hi'
      have h1 := hi i (by omega)
      obtain ⟨x1, x2, x3, x4⟩ := ax i hi'
      simp only [Nat.reduceAdd] at x1 x2 x3 x4 ⊢
      rw [wr_n (by decide), wr_n (by decide), wr_n (by decide), wr_n (by decide), hf 58 (by decide), hf 59 (by decide), hf 60 (by decide)]
      refine ⟨?_, x2, x3, x4⟩
      rw [h1, x1]; rfl
    · intro i hi' h9
      have h1 := hi i (by omega)
      have h2 := az i hi' h9
      simp only [Nat.reduceAdd] at h2 ⊢
      rw [wr_n (by decide), h1, if_neg (by omega), h2]
    · intro i hi'
      dsimp only
      rw [wr_n (by decide), hf 61 (by decide)]
      exact htm i hi'
    · exact ((hf1.mo (by decide)).tr (hf.mo (by decide))).wr (by decide)
