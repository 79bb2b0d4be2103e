/-! ===== the tape ===== -/
abbrev PP.bt (w : Int32) (k : Nat) : Int32 := (w >>> (((24 : Int32) - 8 * nI k) &&& 31)) &&& 255
theorem PP.i8_and (u : Int32) : u.toInt8.toInt32 &&& 255 = u &&& 255 := by
  rw [← Int32.toBitVec_inj, Int32.toBitVec_and, Int32.toBitVec_and, Int8.toBitVec_toInt32, Int32.toBitVec_toInt8]
  apply BitVec.eq_of_getLsbD_eq
  intro i hi
  rw [BitVec.getLsbD_and, BitVec.getLsbD_and]
  by_cases h8 : i < 8
  · rw [BitVec.getLsbD_signExtend, BitVec.getLsbD_signExtend]
    simp [hi, h8]
  · rw [show (255 : Int32).toBitVec = BitVec.ofNat 32 255 from rfl, lsb_lt (n := 8) (by decide) (by omega), Bool.and_false, Bool.and_false]
theorem PP.i8_rg (u : Int32) : -128 ≤ u.toInt8.toInt32 ∧ u.toInt8.toInt32 ≤ 127 := by
  have h1 := Int8.le_toInt u.toInt8
  have h2 := Int8.toInt_lt u.toInt8
  rw [Int32.le_iff_toInt_le, Int32.le_iff_toInt_le, Int8.toInt_toInt32, show (-128 : Int32).toInt = -128 from rfl, show (127 : Int32).toInt = 127 from rfl]
  constructor <;> omega
theorem PP.sh_and {x : BitVec 32} {s : Nat} (hs : s ≤ 24) : (x >>> s) &&& BitVec.ofNat 32 255 = (x.sshiftRight s) &&& BitVec.ofNat 32 255 := by
  apply BitVec.eq_of_getLsbD_eq
  intro i hi
  rw [BitVec.getLsbD_and, BitVec.getLsbD_and, BitVec.getLsbD_ushiftRight, BitVec.getLsbD_sshiftRight]
  by_cases h8 : i < 8
  · rw [if_pos (by omega)]
    simp [show ¬ 32 ≤ i by omega]
  · rw [lsb_lt (n := 8) (by decide) (by omega), Bool.and_false, Bool.and_false]
theorem PP.by_c {w : Int32} {k : Nat} (hk : k < 4) : byC (vp_nar .byte (((w).toUInt32 >>> ((nI (24 - 8 * k)).toUInt32 &&& Int32.toUInt32 31)).toInt32).toInt8.toInt32) (bt w k) := by
  have e : ((w).toUInt32 >>> ((nI (24 - 8 * k)).toUInt32 &&& Int32.toUInt32 31)).toInt32 &&& 255 = bt w k := by
    rw [← Int32.toBitVec_inj]
    have hc : k = 0 ∨ k = 1 ∨ k = 2 ∨ k = 3 := by omega
    rcases hc with rfl | rfl | rfl | rfl
    · exact sh_and (x := w.toBitVec) (s := 24) (by omega)
    · exact sh_and (x := w.toBitVec) (s := 16) (by omega)
    · exact sh_and (x := w.toBitVec) (s := 8) (by omega)
    · exact sh_and (x := w.toBitVec) (s := 0) (by omega)
  rw [vp_nar_byte]
  refine ⟨?_, i8_rg _⟩
  rw [i8_and, i8_and, e]
theorem PP.c_feedN {N n : Nat} {w : Int32} {σ : Sg} (hN : 20 < N) (hn : n + 4 ≤ 700) (h1 : σ 0 1 = nI n) : Ev (f_X11_feedNumber_0 N w σ) (fun σ' => σ' 0 1 = nI (n + 4) ∧ (∀ i, i < n → σ' 1 i = σ 1 i) ∧ (∀ k, k < 4 → byC (σ' 1 (n + k)) (bt w k)) ∧ Fr [0, 1] σ σ' ∧ ∀ j, j ≠ 1 → σ' 0 j = σ 0 j) := by
  unfold f_X11_feedNumber_0
  rw [ev_b]
  refine ev_lp (fun (k : Nat) (q : Int32 × Sg) => (k < 4 → q.1 = nI (24 - 8 * k)) ∧ (k = 4 → q.1 = -8) ∧ q.2 0 1 = nI (n + k) ∧ (∀ i, i < n → q.2 1 i = σ 1 i) ∧ (∀ j, j < k → byC (q.2 1 (n + j)) (bt w j)) ∧ Fr [0, 1] σ q.2 ∧ ∀ j, j ≠ 1 → q.2 0 j = σ 0 j) 4 N _ (by omega) ⟨fun _ => rfl, fun h => absurd h (by omega), h1, fun _ _ => rfl, fun j hj => absurd hj (by omega), Fr.refl _ _, fun _ _ => rfl⟩ ?_
  rintro k ⟨x, σ1⟩ hk ⟨e1, e2, e3, hi, hb, hf, ho⟩
  dsimp only at e1 e2 e3 hi hb hf ho
  unfold s_X11_feedNumber_0_h3
  dsimp only
  by_cases hk4 : k = 4
  · subst hk4
    rw [e2 rfl, if_pos (by decide), ev_s]
    exact Or.inr ⟨Nat.one_ne_zero, ev_s.mpr ⟨e3, hi, hb, hf, ho⟩⟩
  · rw [e1 (by omega), if_neg (nI_nn (by omega)), if_neg (show ¬ 700 ≤ σ1 0 1 by rw [e3, show (700 : Int32) = nI 700 from rfl, nI_le (by omega) (by omega)]; omega), if_neg (by rw [e3]; exact gdn (by omega) (by omega)), e3, nI_cl (by omega), ev_bd, ev_bd, ev_bd, ev_s]
    generalize hv : vp_nar .byte (((w).toUInt32 >>> ((nI (24 - 8 * k)).toUInt32 &&& Int32.toUInt32 31)).toInt32).toInt8.toInt32 = v
    have hbv : byC v (bt w k) := hv ▸ by_c (by omega)
    refine Or.inl ⟨rfl, by omega, ?_, ?_, ?_, ?_, ?_, (hf.wr (by decide)).wr (by decide), ?_⟩
    · intro hk3
      dsimp only
      rw [show (-8 : Int32) = 0 - nI 8 from rfl]
      have : nI (24 - 8 * k) = nI (24 - 8 * (k + 1)) + nI 8 := by rw [nI_add, show 24 - 8 * (k + 1) + 8 = 24 - 8 * k by omega]
      rw [this]; grind
    · intro hk3
      dsimp only
      rw [show k = 3 by omega]; rfl
    · show wr (wr σ1 1 (n + k) v) 0 1 (wr σ1 1 (n + k) v 0 1 + 1) 0 1 = nI (n + (k + 1))
      rw [wr_e, upd_e, wr_n (by decide), e3, nI_s]; rfl
    · intro i hin
      show wr (wr σ1 1 (n + k) v) 0 1 (wr σ1 1 (n + k) v 0 1 + 1) 1 i = σ 1 i
      rw [wr_n (by decide), wr_e, upd_n (by omega)]; exact hi i hin
    · intro j hj
      show byC (wr (wr σ1 1 (n + k) v) 0 1 (wr σ1 1 (n + k) v 0 1 + 1) 1 (n + j)) (bt w j)
      rw [wr_n (by decide), wr_e]
      by_cases h : j = k
      · subst h; rw [upd_e]; exact hbv
      · rw [upd_n (by omega)]; exact hb j (by omega)
    · intro j hj
      show wr (wr σ1 1 (n + k) v) 0 1 (wr σ1 1 (n + k) v 0 1 + 1) 0 j = σ 0 j
      rw [wr_e, upd_n hj, wr_n (by decide)]; exact ho j hj
abbrev PP.wd (a b c d e : Int32) (j : Nat) : Int32 := if j < 4 then a else if j < 8 then b else if j < 12 then c else if j < 16 then d else e
theorem PP.IC.of {F : Nat} {o : Option Bo} {σ σ' : Sg} {P : List Nat} (h : IC F o σ) (h6 : σ' 0 6 = σ 0 6) (f : Fr P σ σ') (d : ∀ c, c ∈ [34 + 1, 34 + 2, 34 + 3, 34 + 4, 34 + 5, 34 + 6, 34 + 7, 34 + 8, 34 + 9, 34 + 10, 34 + 11, 34 + 12] → c ∉ P) : IC F o σ' := by
  cases o with
  | none => unfold IC at h ⊢; rw [h6]; exact h
  | some B => unfold IC at h ⊢; rw [h6]; exact ⟨h.1, h.2.fr f d⟩
theorem PP.bt_n (w : Int32) (k : Nat) : ∃ v, v < 256 ∧ bt w k = nI v := by
  obtain ⟨v, hv, e⟩ := and_v (w >>> (((24 : Int32) - 8 * nI k) &&& 31)) (m := 255) (by omega)
  exact ⟨v, by omega, e⟩
theorem PP.ok_feed {N : Nat} (hN : 5000 < N) : Ok_feed N Rl := by
  rintro a1 a2 a3 a4 a5 σ τ ⟨a, hO, hC, hM⟩
  have hM0 := hM.code 0
  obtain ⟨tC0, tC1, tC2⟩ := hC.2.2.2.2
  obtain ⟨tM0, tM1, tM2⟩ := hM0.2.2.2.2
  have hn7 := hO.2.2.2.1
  have hn20 := hO.2.2.2.2.1
  have hb := hO.2.2.2.2.2
  by_cases hn : a.2.2.2.2.1 + 20 ≤ 700
  · have e20 : nI a.2.2.2.2.1 + 20 ≤ 700 := by
      rw [show (20 : Int32) = nI 20 from rfl, nI_add, show (700 : Int32) = nI 700 from rfl, nI_le (by omega) (by omega)]; exact hn
    refine okI (a := (a.1, a.2.1, a.2.2.1, a.2.2.2.1, a.2.2.2.2.1 + 20, fun i => if a.2.2.2.2.1 ≤ i ∧ i < a.2.2.2.2.1 + 20 then bt (wd a1 a2 a3 a4 a5 (i - a.2.2.2.2.1)) ((i - a.2.2.2.2.1) % 4) else a.2.2.2.2.2.1 i, a.2.2.2.2.2.2)) (r := nI (a.2.2.2.2.1 + 20)) ⟨hO.1, hO.2.1, hO.2.2.1, hn, by show (a.2.2.2.2.1 + 20) % 20 = 0; omega, ?_⟩ ?_ ?_
    · intro i hi
      have hi : i < a.2.2.2.2.1 + 20 := hi
      dsimp only
      by_cases h : a.2.2.2.2.1 ≤ i ∧ i < a.2.2.2.2.1 + 20
      · rw [if_pos h]; exact bt_n _ _
      · rw [if_neg h]; exact hb i (by omega)
    · unfold f_X11_feed_0
      rw [if_pos (show σ 0 1 + 20 ≤ 700 by rw [tC0]; exact e20)]
      refine (c_feedN (n := a.2.2.2.2.1) (by omega) (by omega) tC0).bind ?_
      rintro σ1 ⟨p1, q1, r1, f1, o1⟩
      refine (c_feedN (n := a.2.2.2.2.1 + 4) (by omega) (by omega) p1).bind ?_
      rintro σ2 ⟨p2, q2, r2, f2, o2⟩
      refine (c_feedN (n := a.2.2.2.2.1 + 4 + 4) (by omega) (by omega) p2).bind ?_
      rintro σ3 ⟨p3, q3, r3, f3, o3⟩
      refine (c_feedN (n := a.2.2.2.2.1 + 4 + 4 + 4) (by omega) (by omega) p3).bind ?_
      rintro σ4 ⟨p4, q4, r4, f4, o4⟩
      refine (c_feedN (n := a.2.2.2.2.1 + 4 + 4 + 4 + 4) (by omega) (by omega) p4).bind ?_
      rintro σ5 ⟨p5, q5, r5, f5, o5⟩
      rw [ev_s]
      have ff : Fr [0, 1] σ σ5 := (((f1.tr f2).tr f3).tr f4).tr f5
      have p5' : σ5 0 1 = nI (a.2.2.2.2.1 + 20) := p5
      refine ⟨p5', hC.1.fr ff (by decide), hC.2.1.fr ff (by decide), hC.2.2.1.fr ff (by decide), hC.2.2.2.1.of ?_ ff (by decide), p5', ?_, ?_⟩
      · dsimp only
        rw [o5 6 (by decide), o4 6 (by decide), o3 6 (by decide), o2 6 (by decide), o1 6 (by decide)]
      · intro i hi
        have hi : i < a.2.2.2.2.1 + 20 := hi
        dsimp only
        generalize a.2.2.2.2.1 = n at *
        by_cases h : n ≤ i ∧ i < n + 20
        · rw [if_pos h]
          obtain ⟨j, rfl⟩ : ∃ j, i = n + j := ⟨i - n, by omega⟩
          rw [show n + j - n = j by omega]
          unfold wd
          by_cases h1 : j < 4
          · rw [if_pos h1, q5 _ (by omega), q4 _ (by omega), q3 _ (by omega), q2 _ (by omega), Nat.mod_eq_of_lt h1]
            exact r1 j h1
          · rw [if_neg h1]
            by_cases h2 : j < 8
            · rw [if_pos h2, q5 _ (by omega), q4 _ (by omega), q3 _ (by omega), show n + j = n + 4 + (j % 4) by omega]
              exact r2 (j % 4) (by omega)
            · rw [if_neg h2]
              by_cases h3 : j < 12
              · rw [if_pos h3, q5 _ (by omega), q4 _ (by omega), show n + j = n + 4 + 4 + (j % 4) by omega]
                exact r3 (j % 4) (by omega)
              · rw [if_neg h3]
                by_cases h4 : j < 16
                · rw [if_pos h4, q5 _ (by omega), show n + j = n + 4 + 4 + 4 + (j % 4) by omega]
                  exact r4 (j % 4) (by omega)
                · rw [if_neg h4, show n + j = n + 4 + 4 + 4 + 4 + (j % 4) by omega]
                  exact r5 (j % 4) (by omega)
        · rw [if_neg h, q5 _ (by omega), q4 _ (by omega), q3 _ (by omega), q2 _ (by omega), q1 _ (by omega)]
          exact tC1 i (by omega)
      · dsimp only
        rw [ff 2 (by decide)]; exact tC2
    · unfold f_X12_feed
      rw [ev_bd, if_pos (show (wr τ 0 2 0) 0 13 + 20 ≤ 700 by rw [tM0]; exact e20), ev_b]
      generalize wr τ 0 2 0 = τ0 at *
      refine ev_lp (fun (k : Nat) (q : Int32 × Sg) => q.1 = nI k ∧ q.2 0 13 = nI (a.2.2.2.2.1 + k) ∧ (∀ i, i < a.2.2.2.2.1 → q.2 12 i = τ0 12 i) ∧ (∀ j, j < k → q.2 12 (a.2.2.2.2.1 + j) = bt (wd a1 a2 a3 a4 a5 j) (j % 4)) ∧ FM [12] [13] τ0 q.2) 20 N _ (by omega) ⟨rfl, tM0, fun _ _ => rfl, fun j hj => absurd hj (by omega), FM.refl _ _ _⟩ ?_
      rintro k ⟨_, τ1⟩ hk ⟨e1, e2, hi, hj, hf⟩
      dsimp only at e1 e2 hi hj hf
      subst e1
      unfold s_X12_feed_h23 f_X12_feed_b76
      dsimp only
      by_cases hk2 : k = 20
      · subst hk2
        rw [if_pos (by decide), ev_s]
        refine Or.inr ⟨Nat.one_ne_zero, ev_s.mpr ⟨e2, hM0.1.fr hf (by decide), ?_, ?_, hM0.2.2.2.1.fr hf (by decide) (by decide), e2, ?_, ?_⟩⟩
        · obtain ⟨b1, b2, b3, b4, b5, b6⟩ := hM0.2.1
          refine ⟨b1.fr hf (by decide) (by decide), ?_, ?_, ?_, ?_, ?_⟩
          · dsimp only; rw [hf.2 30 (by decide)]; exact b2
          · dsimp only; rw [hf.1 17 (by decide) (by decide)]; exact b3
          · dsimp only; rw [hf.2 31 (by decide)]; exact b4
          · dsimp only; rw [hf.1 24 (by decide) (by decide), hf.1 25 (by decide) (by decide), hf.1 27 (by decide) (by decide)]; exact b5
          · dsimp only; rw [hf.1 11 (by decide) (by decide)]; exact b6
        · dsimp only; rw [hf.2 32 (by decide)]; exact hM0.2.2.1
        · intro i hi2
          have hi2 : i < a.2.2.2.2.1 + 20 := hi2
          dsimp only
          by_cases h : a.2.2.2.2.1 ≤ i ∧ i < a.2.2.2.2.1 + 20
          · rw [if_pos h]
            have := hj (i - a.2.2.2.2.1) (by omega)
            rw [show a.2.2.2.2.1 + (i - a.2.2.2.2.1) = i by omega] at this
            exact this
          · rw [if_neg h, hi i (by omega)]; exact tM1 i (by omega)
        · dsimp only; rw [hf.2 22 (by decide)]; exact tM2
      · have hm : nI k - nI k / 4 * 4 = nI (k % 4) := by rw [show (4 : Int32) = nI 4 from rfl, nI_mod (by omega) (by omega)]
        have key : ∀ w : Int32, wd a1 a2 a3 a4 a5 k = w → Ev (if (τ1 0 13 < 0 ∨ 700 ≤ (τ1 0 13).toNatClampNeg) then none else bd (wr τ1 12 ((τ1 0 13).toNatClampNeg) ((w >>> (((24 : Int32) - ((8 : Int32) * (nI k - nI k / (4 : Int32) * (4 : Int32)))) &&& 31)) &&& (255 : Int32))) fun σ2 => bd (wr σ2 0 13 ((σ2 0 13) + (1 : Int32))) fun σ3 => bd (nI k + (1 : Int32)) fun v4 => some (0, v4, σ3)) (fun r => (r.1 = 0 ∧ k < 20 ∧ r.2.1 = nI (k + 1) ∧ r.2.2 0 13 = nI (a.2.2.2.2.1 + (k + 1)) ∧ (∀ i, i < a.2.2.2.2.1 → r.2.2 12 i = τ0 12 i) ∧ (∀ j, j < k + 1 → r.2.2 12 (a.2.2.2.2.1 + j) = bt (wd a1 a2 a3 a4 a5 j) (j % 4)) ∧ FM [12] [13] τ0 r.2.2) ∨ (r.1 ≠ 0 ∧ Ev (some (r.2.2 0 13, r.2.2)) (fun q => q.1 = nI (a.2.2.2.2.1 + 20) ∧ RlM (a.1, a.2.1, a.2.2.1, a.2.2.2.1, a.2.2.2.2.1 + 20, fun i => if a.2.2.2.2.1 ≤ i ∧ i < a.2.2.2.2.1 + 20 then bt (wd a1 a2 a3 a4 a5 (i - a.2.2.2.2.1)) ((i - a.2.2.2.2.1) % 4) else a.2.2.2.2.2.1 i, a.2.2.2.2.2.2) q.2))) := by
          intro w ew
          rw [if_neg (by rw [e2]; exact gdn (by omega) (by omega)), e2, nI_cl (by omega), hm, ev_bd, ev_bd, ev_bd, ev_s]
          refine Or.inl ⟨rfl, by omega, nI_s _, ?_, ?_, ?_, (hf.w (by decide) (by decide)).w0 (by decide)⟩
          · dsimp only
            rw [wr_e, upd_e, wr_n (by decide), e2, nI_s]; rfl
          · intro i hin
            dsimp only
            rw [wr_n (by decide), wr_e, upd_n (by omega)]; exact hi i hin
          · intro j hjk
            dsimp only
            rw [wr_n (by decide), wr_e]
            by_cases h : j = k
            · subst h; rw [upd_e, ew]
            · rw [upd_n (by omega)]; exact hj j (by omega)
        have c4 : ∀ m : Nat, m < 100 → ((nI m : Int32) ≤ nI k ↔ m ≤ k) := fun m hm => nI_le (by omega) (by omega)
        rw [if_neg (by rw [show (20 : Int32) = nI 20 from rfl, c4 20 (by omega)]; omega)]
        by_cases h1 : k < 4
        · rw [if_neg (by rw [show (4 : Int32) = nI 4 from rfl, c4 4 (by omega)]; omega)]
          exact key a1 (if_pos h1)
        · rw [if_pos (show (4 : Int32) ≤ nI k by rw [show (4 : Int32) = nI 4 from rfl, c4 4 (by omega)]; omega)]
          by_cases h2 : k < 8
          · rw [if_neg (by rw [show (8 : Int32) = nI 8 from rfl, c4 8 (by omega)]; omega)]
            exact key a2 (by unfold wd; rw [if_neg h1, if_pos h2])
          · rw [if_pos (show (8 : Int32) ≤ nI k by rw [show (8 : Int32) = nI 8 from rfl, c4 8 (by omega)]; omega)]
            by_cases h3 : k < 12
            · rw [if_neg (by rw [show (12 : Int32) = nI 12 from rfl, c4 12 (by omega)]; omega)]
              exact key a3 (by unfold wd; rw [if_neg h1, if_neg h2, if_pos h3])
            · rw [if_pos (show (12 : Int32) ≤ nI k by rw [show (12 : Int32) = nI 12 from rfl, c4 12 (by omega)]; omega)]
              by_cases h4 : k < 16
              · rw [if_neg (by rw [show (16 : Int32) = nI 16 from rfl, c4 16 (by omega)]; omega)]
                exact key a4 (by unfold wd; rw [if_neg h1, if_neg h2, if_neg h3, if_pos h4])
              · rw [if_pos (show (16 : Int32) ≤ nI k by rw [show (16 : Int32) = nI 16 from rfl, c4 16 (by omega)]; omega)]
                exact key a5 (by unfold wd; rw [if_neg h1, if_neg h2, if_neg h3, if_neg h4])
  · have e20 : ¬ nI a.2.2.2.2.1 + 20 ≤ 700 := by
      rw [show (20 : Int32) = nI 20 from rfl, nI_add, show (700 : Int32) = nI 700 from rfl, nI_le (by omega) (by omega)]; exact hn
    refine okI (a := a) (r := -1) hO ?_ ?_
    · unfold f_X11_feed_0
      rw [if_neg (show ¬ σ 0 1 + 20 ≤ 700 by rw [tC0]; exact e20), ev_s]
      exact ⟨rfl, hC⟩
    · unfold f_X12_feed
      rw [ev_bd, if_neg (show ¬ (wr τ 0 2 0) 0 13 + 20 ≤ 700 by rw [tM0]; exact e20), ev_s]
      exact ⟨rfl, hM0⟩
