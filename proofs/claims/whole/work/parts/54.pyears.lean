/-! ===== draws ===== -/
theorem PP.and_v (y : Int32) {m : Nat} (hm : m < 2147483648) : ∃ v, v ≤ m ∧ y &&& nI m = nI v := by
  refine ⟨(y &&& nI m).toBitVec.toNat, ?_, ?_⟩
  · rw [Int32.toBitVec_and, BitVec.toNat_and]
    have e : (nI m).toBitVec.toNat = m := by
      unfold nI
      rw [Int32.toBitVec_ofNat', BitVec.toNat_ofNat]
      exact Nat.mod_eq_of_lt (by omega)
    rw [e]; exact Nat.and_le_right
  · unfold nI
    rw [← Int32.toBitVec_inj]
    apply BitVec.eq_of_toNat_eq
    simp
theorem PP.lsb_lt {m n i : Nat} (h : m < 2 ^ n) (hi : n ≤ i) : (BitVec.ofNat 32 m).getLsbD i = false := by
  rw [BitVec.getLsbD_ofNat, Nat.testBit_lt_two_pow (Nat.lt_of_lt_of_le h (Nat.pow_le_pow_right (by omega) hi)), Bool.and_false]
abbrev PP.rd (x : Int32) : Int32 := (x >>> ((16 : Int32) &&& 31)) &&& 32767
theorem PP.ush16 (x : Int32) : (x.toUInt32 >>> (((16 : Int32)).toUInt32 &&& Int32.toUInt32 31)).toInt32 &&& 32767 = rd x := by
  have e1 : ((x.toUInt32 >>> (((16 : Int32)).toUInt32 &&& Int32.toUInt32 31)).toInt32 &&& 32767).toBitVec = (x.toBitVec >>> 16) &&& BitVec.ofNat 32 32767 := rfl
  have e2 : (rd x).toBitVec = (x.toBitVec.sshiftRight 16) &&& BitVec.ofNat 32 32767 := rfl
  rw [← Int32.toBitVec_inj, e1, e2]
  apply BitVec.eq_of_getLsbD_eq
  intro i hi
  rw [BitVec.getLsbD_and, BitVec.getLsbD_and, BitVec.getLsbD_ushiftRight, BitVec.getLsbD_sshiftRight]
  by_cases h15 : i < 15
  · rw [if_pos (by omega)]
    simp [show ¬ 32 ≤ i by omega]
  · rw [lsb_lt (n := 15) (by decide) (by omega), Bool.and_false, Bool.and_false]
def PP.rdv (x : Int32) : Nat := (rd x).toNatClampNeg
theorem PP.rd_n (x : Int32) : rd x = nI (rdv x) ∧ rdv x < 32768 := by
  obtain ⟨v, hv, e⟩ := and_v (x >>> ((16 : Int32) &&& 31)) (m := 32767) (by omega)
  have e : rd x = nI v := e
  unfold rdv
  rw [e, nI_cl (by omega)]
  exact ⟨rfl, by omega⟩
def PP.nxs (x : Int32) : Int32 := x * 1103515245 + 12345
def PP.dv (n : Nat) (x : Int32) : Nat := rdv x % n
theorem PP.dv_lt {n : Nat} {x : Int32} (h : 0 < n) : dv n x < n := Nat.mod_lt _ h
theorem PP.rd_dv {n : Nat} (x : Int32) (h0 : 0 < n) (hn : n < 1000) : rd x - rd x / nI n * nI n = nI (dv n x) := by
  obtain ⟨e1, h1⟩ := rd_n x
  unfold dv
  rw [e1, nI_mod (by omega) (by omega)]
theorem PP.c_draw {N n : Nat} {σ : Sg} (h0 : 0 < n) (hn : n < 1000) : f_X2_draw_55 N (nI n) σ = some (nI (dv n (nxs (σ 55 2))), wr σ 55 2 (nxs (σ 55 2))) := by
  unfold f_X2_draw_55
  show (if (1 : Int32) ≤ nI n then (if nI n = 0 then none else some _) else _) = _
  rw [if_pos (by rw [show (1 : Int32) = nI 1 from rfl, nI_le (by omega) (by omega)]; omega), if_neg (by rw [← nI_0, nI_eq (by omega) (by omega)]; omega)]
  have e : (wr σ 55 2 (σ 55 2 * 1103515245 + 12345)) 55 2 = nxs (σ 55 2) := by rw [wr_e, upd_e]; rfl
  rw [e, ush16, rd_dv _ h0 hn]; rfl
theorem PP.m_draw {N n : Nat} {τ : Sg} (h0 : 0 < n) (hn : n < 1000) : f_X12_drawOf N (nI n) τ = some (nI (dv n (nxs (τ 0 47))), wr τ 0 47 (nxs (τ 0 47))) := by
  unfold f_X12_drawOf
  show (if nI n = 0 then none else some _) = _
  rw [if_neg (by rw [← nI_0, nI_eq (by omega) (by omega)]; omega)]
  have e : (wr τ 0 47 (τ 0 47 * 1103515245 + 12345)) 0 47 = nxs (τ 0 47) := by rw [wr_e, upd_e]; rfl
  rw [e, rd_dv _ h0 hn]; rfl
/-! ===== what happens in a year ===== -/
def PP.hapS (F : Nat) (s : Sg) (v f : Nat) (h : Int32) : Sg := if 2 < v ∨ F = 0 then s else if v = 0 then (if hasB (s 0 1) f then s else sW s f 1) else if v = 1 then sT s f else sHt s f h
def PP.hapD (F v : Nat) (d1 d2 d3 : Int32) : Int32 := if 2 < v ∨ F = 0 then d1 else if v = 0 then d2 else if v = 1 then d2 else d3
def PP.hp1 (F : Nat) (s : Sg) (sd : Int32) : Sg := hapS F s (dv 6 (nxs sd)) (dv F (nxs (nxs sd))) (nI (dv 21 (nxs (nxs (nxs sd)))))
def PP.hp2 (F : Nat) (sd : Int32) : Int32 := hapD F (dv 6 (nxs sd)) (nxs sd) (nxs (nxs sd)) (nxs (nxs (nxs sd)))
theorem PP.hapS_ok {F v f : Nat} {s : Sg} {h : Int32} (hF : F ≤ 9) (hS : StOK F s) (hf : F ≠ 0 → f < F) (hh : 0 ≤ h ∧ h ≤ 20) : StOK F (hapS F s v f h) ∧ hapS F s v f h 0 0 = s 0 0 := by
  unfold hapS
  by_cases h1 : 2 < v ∨ F = 0
  · rw [if_pos h1]; exact ⟨hS, rfl⟩
  · rw [if_neg h1]
    by_cases h2 : v = 0
    · rw [if_pos h2]
      by_cases hb : hasB (s 0 1) f
      · rw [if_pos hb]; exact ⟨hS, rfl⟩
      · rw [if_neg hb]; exact ⟨sW_ok hS (by decide) (Or.inr hb), rfl⟩
    · rw [if_neg h2]
      by_cases h3 : v = 1
      · rw [if_pos h3]; exact ⟨sT_ok hF hS (hf (by omega)), rfl⟩
      · rw [if_neg h3]; exact ⟨sHt_ok hS hh, rfl⟩
theorem PP.dv_h (x : Int32) : 0 ≤ nI (dv 21 x) ∧ nI (dv 21 x) ≤ 20 := by
  have h := dv_lt (n := 21) (x := x) (by omega)
  generalize dv 21 x = y at *
  refine ⟨nI_n0 (by omega), ?_⟩
  rw [show (20 : Int32) = nI 20 from rfl, nI_le (by omega) (by omega)]; omega
theorem PP.hap_ok {F : Nat} {s : Sg} {sd : Int32} (hF : F ≤ 9) (hS : StOK F s) : StOK F (hp1 F s sd) ∧ hp1 F s sd 0 0 = s 0 0 := hapS_ok hF hS (fun h => dv_lt (by omega)) (dv_h _)
theorem PP.c_happen {N F : Nat} {L s σ : Sg} (hN : 5000 < N) (hO : LandOK F L) (hS : StOK F s) (hL : LC F L σ) (hs : SC 56 F s σ) (hr : RC 50 F L (tp L s) σ) : Ev (f_X11_happen_0 N σ) (fun σ' => SC 56 F (hp1 F s (σ 55 2)) σ' ∧ RC 50 F L (tp L (hp1 F s (σ 55 2))) σ' ∧ σ' 55 2 = hp2 F (σ 55 2) ∧ Fr [51, 52, 55, 56, 57, 58, 59, 60] σ σ') := by
  have hF := hO.1
  unfold f_X11_happen_0 hp1 hp2 hapS hapD
  rw [show (6 : Int32) = nI 6 from rfl, c_draw (by omega) (by omega), Option.bind_some, ev_bd]
  dsimp only
  generalize hsd : σ 55 2 = sd
  generalize hv : dv 6 (nxs sd) = v
  have hv6 : v < 6 := by rw [← hv]; exact dv_lt (by omega)
  generalize hσ1 : wr σ 55 2 (nxs sd) = σ1
  have f1 : Fr [55] σ σ1 := by rw [← hσ1]; exact (Fr.refl _ _).wr (by decide)
  have s1 : σ1 55 2 = nxs sd := by rw [← hσ1, wr_e, upd_e]
  have l1 : σ1 12 0 = nI F := by rw [f1 12 (by decide)]; exact hL.2.1
  have hs1 := hs.fr f1 (by decide)
  have hr1 := hr.fr f1 (by decide)
  have hL1 := hL.fr f1 (by decide)
  by_cases h2 : 2 < v
  · rw [if_pos (by rw [show (2 : Int32) = nI 2 from rfl, nI_lt (by omega) (by omega)]; exact h2), ev_s, if_pos (Or.inl h2), if_pos (Or.inl h2)]
    exact ⟨hs1, hr1, s1, f1.mo (by decide)⟩
  · rw [if_neg (by rw [show (2 : Int32) = nI 2 from rfl, nI_lt (by omega) (by omega)]; exact h2)]
    by_cases h0 : F = 0
    · rw [if_pos (show σ1 12 0 = 0 by rw [l1, h0]; rfl), ev_s, if_pos (Or.inr h0), if_pos (Or.inr h0)]
      exact ⟨hs1, hr1, s1, f1.mo (by decide)⟩
    · rw [if_neg (show ¬ σ1 12 0 = 0 by rw [l1, ← nI_0, nI_eq (by omega) (by omega)]; exact h0), if_neg (show ¬ (2 < v ∨ F = 0) by omega), if_neg (show ¬ (2 < v ∨ F = 0) by omega), l1, c_draw (by omega) (by omega), Option.bind_some, ev_bd, s1]
      dsimp only
      have hf : dv F (nxs (nxs sd)) < F := dv_lt (by omega)
      generalize dv F (nxs (nxs sd)) = f at *
      generalize hσ2 : wr σ1 55 2 (nxs (nxs sd)) = σ2
      have f2 : Fr [55] σ1 σ2 := by rw [← hσ2]; exact (Fr.refl _ _).wr (by decide)
      have s2 : σ2 55 2 = nxs (nxs sd) := by rw [← hσ2, wr_e, upd_e]
      have hs2 := hs1.fr f2 (by decide)
      have hr2 := hr1.fr f2 (by decide)
      have hL2 := hL1.fr f2 (by decide)
      have a2 : σ2 56 1 = s 0 1 := hs2.2.1
      rw [if_pos (by rw [show (9 : Int32) = nI 9 from rfl, nI_lt (by omega) (by omega)]; omega)]
      by_cases c0 : v = 0
      · rw [if_pos (show nI v = 0 by rw [c0]; rfl), if_pos c0, if_pos c0, c_nod_56 (by omega), Option.bind_some, ev_s, a2]
        by_cases hb : hasB (s 0 1) f
        · rw [if_pos hb, if_pos hb]
          exact ⟨hs2, hr2, s2, (f1.mo (by decide)).tr (f2.mo (by decide))⟩
        · rw [if_neg hb, if_neg hb]
          have f3 : Fr [57] σ2 (wr σ2 57 f 1) := (Fr.refl _ _).wr (by decide)
          refine ⟨SC.w (b := 56) hs2 hf, ?_, ?_, ((f1.mo (by decide)).tr (f2.mo (by decide))).tr (f3.mo (by decide))⟩
          · rw [tp_w]; exact hr2.fr f3 (by decide)
          · rw [f3 55 (by decide)]; exact s2
      · rw [if_neg (show ¬ nI v = 0 by rw [← nI_0, nI_eq (by omega) (by omega)]; exact c0), if_neg c0, if_neg c0]
        by_cases c1 : v = 1
        · rw [if_pos (show nI v = 1 by rw [c1]; rfl), if_pos c1, if_pos c1, c_turn_56 (by omega), Option.bind_some, ev_s]
          have f3 : Fr [56, 57] σ2 (wr (wr σ2 56 1 (σ2 56 1 ^^^ bit f)) 57 f 0) := ((Fr.refl _ _).wr (by decide)).wr (by decide)
          refine ⟨SC.t (b := 56) hs2 hf, ?_, ?_, ((f1.mo (by decide)).tr (f2.mo (by decide))).tr (f3.mo (by decide))⟩
          · rw [tp_t]; exact hr2.fr f3 (by decide)
          · rw [f3 55 (by decide)]; exact s2
        · rw [if_neg (show ¬ nI v = 1 by rw [nI_1 (by omega)]; exact c1), if_neg c1, if_neg c1, show (21 : Int32) = nI 21 from rfl, c_draw (by omega) (by omega), Option.bind_some, s2]
          dsimp only
          rw [if_neg (gdn (by omega) (by omega)), nI_cl (show f < 2147483648 by omega), ev_bd]
          generalize nI (dv 21 (nxs (nxs (nxs sd)))) = hv3
          generalize hσ3 : wr σ2 55 2 (nxs (nxs (nxs sd))) = σ3
          have f3 : Fr [55] σ2 σ3 := by rw [← hσ3]; exact (Fr.refl _ _).wr (by decide)
          have s3 : σ3 55 2 = nxs (nxs (nxs sd)) := by rw [← hσ3, wr_e, upd_e]
          have f4 : Fr [60] σ3 (wr σ3 60 f hv3) := (Fr.refl _ _).wr (by decide)
          have hs4 : SC 56 F (sHt s f hv3) (wr σ3 60 f hv3) := SC.h (b := 56) (hs2.fr f3 (by decide)) hf
          refine (c_build_50_60 (t := tp L (sHt s f hv3)) (by omega) hO ((hL2.fr f3 (by decide)).fr f4 (by decide)) ?_).bind ?_
          · intro i hi
            have := (hs4.2.2.1 i hi).2.2.2
            dsimp only [Nat.reduceAdd] at this
            rw [this]; rfl
          · rintro σ5 ⟨hr5, f5⟩
            rw [ev_s]
            refine ⟨hs4.fr f5 (by decide), hr5, ?_, ((((f1.mo (by decide)).tr (f2.mo (by decide))).tr (f3.mo (by decide))).tr (f4.mo (by decide))).tr (f5.mo (by decide))⟩
            rw [f5 55 (by decide), f4 55 (by decide)]; exact s3
theorem PP.b51_0 {N : Nat} {x : Int32} {τ : Sg} : f_X12_something_b51 N 0 x τ = f_X12_something_b78 N τ := by
  unfold f_X12_something_b51 f_X12_something_b61
  rw [if_neg (by decide), if_neg (by decide)]
theorem PP.m_some {N F : Nat} {L s τ : Sg} (hN : 5000 < N) (hO : LandOK F L) (hS : StOK F s) (hL : LM F L τ) (hs : SM F s τ) : Ev (f_X12_something N τ) (fun τ' => SM F (hp1 F s (τ 0 47)) τ' ∧ τ' 0 47 = nxs (hp2 F (τ 0 47)) ∧ τ' 0 32 = nI (dv 10 (nxs (hp2 F (τ 0 47)))) ∧ FM [13, 16] [29, 32, 47] τ τ') := by
  have hF := hO.1
  have fin : ∀ (τ2 s2 : Sg) (sd2 : Int32), SM F s2 τ2 → τ2 0 47 = sd2 → FM [13, 16] [29, 32, 47] τ τ2 → Ev (f_X12_something_b78 N τ2) (fun τ' => SM F s2 τ' ∧ τ' 0 47 = nxs sd2 ∧ τ' 0 32 = nI (dv 10 (nxs sd2)) ∧ FM [13, 16] [29, 32, 47] τ τ') := by
    intro τ2 s2 sd2 h1 h2 h3
    unfold f_X12_something_b78
    rw [show (10 : Int32) = nI 10 from rfl, m_draw (by omega) (by omega), Option.bind_some, ev_bd, ev_s, h2]
    dsimp only
    have f4 : FM [] [32, 47] τ2 (wr (wr τ2 0 47 (nxs sd2)) 0 32 (nI (dv 10 (nxs sd2)))) := ((FM.refl _ _ _).w0 (by decide)).w0 (by decide)
    refine ⟨h1.fr f4 (by decide) (by decide), ?_, ?_, h3.tr (f4.mo (by decide) (by decide))⟩
    · rw [wr_e, upd_n (by decide), wr_e, upd_e]
    · rw [wr_e, upd_e]
  unfold f_X12_something hp1 hp2 hapS hapD
  rw [show (6 : Int32) = nI 6 from rfl, m_draw (by omega) (by omega), Option.bind_some, ev_bd]
  dsimp only
  generalize hsd : τ 0 47 = sd
  generalize hv : dv 6 (nxs sd) = v
  have hv6 : v < 6 := by rw [← hv]; exact dv_lt (by omega)
  generalize hτ1 : wr τ 0 47 (nxs sd) = τ1
  have f1 : FM [13, 16] [29, 32, 47] τ τ1 := by rw [← hτ1]; exact (FM.refl _ _ _).w0 (by decide)
  have g1 : FM [] [47] τ τ1 := by rw [← hτ1]; exact (FM.refl _ _ _).w0 (by decide)
  have s1 : τ1 0 47 = nxs sd := by rw [← hτ1, wr_e, upd_e]
  have l1 : τ1 3 0 = nI F := by rw [f1.1 3 (by decide) (by decide)]; exact hL.2.1
  have hs1 := hs.fr g1 (by decide) (by decide)
  by_cases h2 : 2 < v
  · rw [if_pos (by rw [show (3 : Int32) = nI 3 from rfl, nI_le (by omega) (by omega)]; omega), if_pos (Or.inl h2), if_pos (Or.inl h2)]
    exact fin τ1 s (nxs sd) hs1 s1 f1
  · rw [if_neg (by rw [show (3 : Int32) = nI 3 from rfl, nI_le (by omega) (by omega)]; omega)]
    by_cases h0 : F = 0
    · rw [if_pos (show τ1 3 0 ≤ 0 by rw [l1, h0]; decide), if_pos (Or.inr h0), if_pos (Or.inr h0)]
      exact fin τ1 s (nxs sd) hs1 s1 f1
    · rw [if_neg (show ¬ τ1 3 0 ≤ 0 by rw [l1, ← nI_0, nI_le (by omega) (by omega)]; omega), if_neg (show ¬ (2 < v ∨ F = 0) by omega), if_neg (show ¬ (2 < v ∨ F = 0) by omega), l1, m_draw (by omega) (by omega), Option.bind_some, ev_bd, s1]
      dsimp only
      have hf : dv F (nxs (nxs sd)) < F := dv_lt (by omega)
      generalize dv F (nxs (nxs sd)) = f at *
      generalize hτ2 : wr τ1 0 47 (nxs (nxs sd)) = τ2
      have g2 : FM [] [47] τ1 τ2 := by rw [← hτ2]; exact (FM.refl _ _ _).w0 (by decide)
      have f2 : FM [13, 16] [29, 32, 47] τ τ2 := f1.tr (g2.mo (by decide) (by decide))
      have s2 : τ2 0 47 = nxs (nxs sd) := by rw [← hτ2, wr_e, upd_e]
      have hs2 := hs1.fr g2 (by decide) (by decide)
      have a2 : τ2 0 29 = s 0 1 := hs2.2.1
      by_cases c0 : v = 0
      · have e0 : nI v = 0 := by rw [c0]; rfl
        rw [if_pos e0, if_pos c0, if_pos c0, m_asleep, Option.bind_some, a2, e0]
        dsimp only
        by_cases hb : hasB (s 0 1) f
        · rw [if_pos hb, if_pos hb, if_neg (by decide), b51_0]
          exact fin τ2 s _ hs2 s2 f2
        · rw [if_neg hb, if_neg hb, if_pos rfl, if_neg (gdn (by omega) (by omega)), nI_cl (show f < 2147483648 by omega), ev_bd, b51_0]
          have f3 : FM [13] [] τ2 (wr τ2 13 f 1) := (FM.refl _ _ _).w (by decide) (by decide)
          exact fin _ _ _ (hs2.w hf) ((f3.2 47 (by decide)).trans s2) (f2.tr (f3.mo (by decide) (by decide)))
      · rw [if_neg (show ¬ nI v = 0 by rw [← nI_0, nI_eq (by omega) (by omega)]; exact c0), if_neg c0, if_neg c0]
        unfold f_X12_something_b51
        by_cases c1 : v = 1
        · have e1 : nI v = 1 := by rw [c1]; rfl
          rw [if_pos e1, if_pos c1, if_pos c1]
          refine (m_turn hF hf hS hs2).bind ?_
          rintro τ3 ⟨hs3, f3⟩
          unfold f_X12_something_b61
          rw [if_neg (show ¬ nI v = 2 by rw [e1]; decide)]
          exact fin τ3 _ _ hs3 (by rw [f3.2 47 (by decide)]; exact s2) (f2.tr (f3.mo (by decide) (by decide)))
        · have e2 : nI v = 2 := by rw [show v = 2 by omega]; rfl
          rw [if_neg (show ¬ nI v = 1 by rw [nI_1 (by omega)]; exact c1), if_neg c1, if_neg c1]
          unfold f_X12_something_b61
          rw [if_pos e2, show (21 : Int32) = nI 21 from rfl, m_draw (by omega) (by omega), Option.bind_some, s2]
          dsimp only
          rw [if_neg (gdn (by omega) (by omega)), nI_cl (show f < 2147483648 by omega), ev_bd]
          generalize nI (dv 21 (nxs (nxs (nxs sd)))) = hv3
          have f3 : FM [] [47] τ2 (wr τ2 0 47 (nxs (nxs (nxs sd)))) := (FM.refl _ _ _).w0 (by decide)
          have f4 : FM [16] [] (wr τ2 0 47 (nxs (nxs (nxs sd)))) (wr (wr τ2 0 47 (nxs (nxs (nxs sd)))) 16 f hv3) := (FM.refl _ _ _).w (by decide) (by decide)
          refine fin _ _ _ ((hs2.fr f3 (by decide) (by decide)).h hf) ?_ ((f2.tr (f3.mo (by decide) (by decide))).tr (f4.mo (by decide) (by decide)))
          rw [f4.2 47 (by decide), wr_e, upd_e]
/-! ===== years ===== -/
def PP.yD (a : Ab) (sd : Int32) : Nat → Int32
  | 0 => sd
  | k + 1 => nxs (hp2 a.1 (yD a sd k))
def PP.yS (a : Ab) (sd : Int32) : Nat → Sg
  | 0 => a.2.2.1.1
  | k + 1 => tick a.1 a.2.1 (nI (dv 10 (nxs (hp2 a.1 (yD a sd k))))) (hp1 a.1 (yS a sd k) (yD a sd k))
def PP.yW (a : Ab) (sd : Int32) : Nat → Int32
  | 0 => 0
  | k + 1 => yW a sd k ||| nds a.1 (hp1 a.1 (yS a sd k) (yD a sd k))
def PP.yM (a : Ab) (sd : Int32) : Nat → Int32
  | 0 => 0
  | k + 1 => yM a sd k + pc (nds a.1 (hp1 a.1 (yS a sd k) (yD a sd k)))
theorem PP.yD_s (a : Ab) (sd : Int32) (k : Nat) : yD a sd (k + 1) = nxs (hp2 a.1 (yD a sd k)) := rfl
theorem PP.yS_s (a : Ab) (sd : Int32) (k : Nat) : yS a sd (k + 1) = tick a.1 a.2.1 (nI (dv 10 (nxs (hp2 a.1 (yD a sd k))))) (hp1 a.1 (yS a sd k) (yD a sd k)) := rfl
theorem PP.yW_s (a : Ab) (sd : Int32) (k : Nat) : yW a sd (k + 1) = yW a sd k ||| nds a.1 (hp1 a.1 (yS a sd k) (yD a sd k)) := rfl
theorem PP.yM_s (a : Ab) (sd : Int32) (k : Nat) : yM a sd (k + 1) = yM a sd k + pc (nds a.1 (hp1 a.1 (yS a sd k) (yD a sd k))) := rfl
theorem PP.yr_ok {a : Ab} (hO : OKa a) (sd : Int32) : ∀ k, k ≤ 100 → (StOK a.1 (yS a sd k) ∧ (yS a sd k) 0 0 = a.2.2.1.1 0 0 + nI k) ∧ sub a.1 (yW a sd k)
  | 0, _ => ⟨⟨hO.2.1.1.1, (Int32.add_zero _).symm⟩, sub_0 _⟩
  | k + 1, hk => by
    obtain ⟨⟨h1, h2⟩, h3⟩ := yr_ok hO sd k (by omega)
    obtain ⟨h4, h5⟩ := hap_ok (sd := (yD a sd k)) hO.1.1 h1
    rw [yS_s, yW_s]
    refine ⟨⟨tick_ok hO.1 h4 ?_, ?_⟩, sub_or h3 (nds_sub hO.1.1 _)⟩
    · rw [h5, h2]
      have h1 := hO.2.1.1.2
      have h0 := hO.2.1.1.1.1.1
      have h2 : nI k ≤ nI 100 := (nI_le (by omega) (by omega)).mpr (by omega)
      have h3 := nI_n0 (show k < 2147483648 by omega)
      rw [show nI 100 = 100 from rfl] at h2
      grind
    · rw [tick_t, h5, h2, ← nI_s]; exact Int32.add_assoc _ _ _
theorem PP.ok_years {N : Nat} (hN : 5000 < N) : Ok_years N Rl := by
  rintro sd x w σ τ ⟨a, hO, hC, hM⟩
  have hF := hO.1.1
  have hM0 := hM.code 0
  have e2 : (2 : Int64) = (2 : Int32).toInt64 := rfl
  by_cases hw : 0 ≤ w ∧ w ≤ 2
  · by_cases hx : 0 ≤ x ∧ x ≤ 60
    · obtain ⟨n, hn1, hn2, rfl⟩ := in_n (lo := 0) (hi := 60) (by omega) hx (by omega)
      obtain ⟨⟨hSn, -⟩, hWn⟩ := yr_ok hO sd n (by omega)
      refine okS (a := a) (r := if w = 0 then (yM a sd n) else if w = 1 then (yS a sd n) 0 1 else nI a.1 - pc (yW a sd n)) (D := D3) hO (Or.inl ⟨rfl, rfl⟩) ?_ ?_
      · unfold f_X11_years_0
        rw [c_what, Option.bind_some, if_pos hw]
        dsimp only
        rw [if_pos rfl, c_within, Option.bind_some, if_pos hx]
        dsimp only
        rw [if_pos rfl]
        refine (c_start (by omega) hF hC.1 hC.2.2.1 hC.2.1.1).bind ?_
        rintro σ1 ⟨hX1, hf1⟩
        rw [ev_bd]
        have f2 : Fr [55] σ1 (wr σ1 55 2 sd) := (Fr.refl _ _).wr (by decide)
        have hs2 : SC 56 a.1 a.2.2.1.1 (wr σ1 55 2 sd) := hX1.2.2.1.fr f2 (by decide)
        refine (c_build_50_26 (t := tp a.2.1 a.2.2.1.1) (by omega) hO.1 (hX1.1.fr f2 (by decide)) ?_).bind ?_
        · intro i hi
          rw [f2 26 (by decide), hf1 26 (by decide)]
          have := (hC.2.1.1.2.2.1 i hi).2.2.2
          dsimp only [Nat.reduceAdd] at this
          rw [this]; rfl
        rintro σ3 ⟨hr3, f3⟩
        have hff : Fr qC σ σ3 := ((hf1.mo (by decide)).tr (f2.mo (by decide))).tr (f3.mo (by decide))
        have d3 : σ3 55 2 = sd := by rw [f3 55 (by decide), wr_e, upd_e]
        rw [ev_b]
        refine ev_lp (fun (k : Nat) (q : Int32 × Int32 × Int32 × Sg) => q.1 = (yW a sd k) ∧ q.2.1 = (yM a sd k) ∧ q.2.2.1 = nI k ∧ SC 56 a.1 (yS a sd k) q.2.2.2 ∧ RC 50 a.1 a.2.1 (tp a.2.1 (yS a sd k)) q.2.2.2 ∧ q.2.2.2 55 2 = (yD a sd k) ∧ Fr qC σ q.2.2.2) n N _ (by omega) ⟨rfl, rfl, rfl, hs2.fr f3 (by decide), hr3, d3, hff⟩ ?_
        rintro k ⟨_, _, _, σ4⟩ hk ⟨e1, e2, e3, hs4, hr4, d4, hf4⟩
        dsimp only at e1 e2 e3 hs4 hr4 d4 hf4
        subst e1 e2 e3
        have hR4 : RlC a σ4 := hC.q hf4
        unfold s_X11_years_0_h60
        dsimp only
        by_cases hkn : k = n
        · subst hkn
          rw [if_pos (Int32.le_refl _), ev_s]
          refine Or.inr ⟨Nat.one_ne_zero, ?_⟩
          dsimp only
          by_cases h0 : w = 0
          · rw [if_pos h0, ev_s, if_pos h0]; exact ⟨rfl, rfl, hR4⟩
          · rw [if_neg h0, if_neg h0]
            by_cases h1 : w = 1
            · rw [if_pos h1, ev_s, if_pos h1]; exact ⟨rfl, hs4.2.1, hR4⟩
            · rw [if_neg h1, if_neg h1, c_bc N _ (sub_mo hWn hF), Option.bind_some, ev_s, hR4.1.2.1]
              exact ⟨rfl, rfl, hR4⟩
        · rw [if_neg (by rw [nI_le (by omega) (by omega)]; omega)]
          obtain ⟨⟨hS4, hT4⟩, hW4⟩ := yr_ok hO sd k (by omega)
          refine (c_happen hN hO.1 hS4 hR4.1 hs4 hr4).bind ?_
          rintro σ5 ⟨hs5, hr5, d5, hf5⟩
          rw [d4] at hs5 hr5 d5
          have hL5 := hR4.1.fr hf5 (by decide)
          rw [show (10 : Int32) = nI 10 from rfl, c_draw (by omega) (by omega), Option.bind_some, d5]
          dsimp only
          have f6 : Fr [55] σ5 (wr σ5 55 2 (nxs ((hp2 a.1 (yD a sd k))))) := (Fr.refl _ _).wr (by decide)
          refine (c_step_50 (by omega) hO.1 (hL5.fr f6 (by decide)) (hs5.fr f6 (by decide)) (hr5.fr f6 (by decide)) (dv_lt (by omega))).bind ?_
          rintro ⟨r, σ7⟩ ⟨e7, hs7, -, hf7⟩
          dsimp only at e7 hs7 hf7 ⊢
          subst e7
          rw [ev_bd, ev_bd, c_bc N _ (sub_mo (nds_sub hF _) hF), Option.bind_some, ev_bd, ev_bd, ev_s]
          refine Or.inl ⟨rfl, by omega, by dsimp only; rw [yW_s], by dsimp only; rw [yM_s], nI_s _, ?_, ?_, ?_, ((hf4.tr (hf5.mo (by decide))).tr (f6.mo (by decide))).tr (hf7.mo (by decide))⟩
          · rw [yS_s]; exact hs7
          · rw [yS_s, tick_tp]
            exact (hr5.fr f6 (by decide)).fr hf7 (by decide)
          · dsimp only
            rw [yD_s, hf7 55 (by decide), wr_e, upd_e]
      · unfold f_X12_years
        rw [ev_bd, e0i, e2, m_isIn, Option.bind_some, if_pos hw]
        dsimp only
        rw [if_neg (by decide), e60i, m_isIn, Option.bind_some, if_pos hx]
        dsimp only
        rw [if_neg (by decide)]
        refine (m_openf (by omega) hO hM0).bind ?_
        rintro τ1 ⟨hX1, hpk1, hf1⟩
        rw [ev_bd, ev_b]
        have f2 : FM [] [47] τ1 (wr τ1 0 47 sd) := (FM.refl _ _ _).w0 (by decide)
        refine ev_lp (fun (k : Nat) (q : Int32 × Int32 × Int32 × Sg) => q.1 = (yW a sd k) ∧ q.2.1 = (yM a sd k) ∧ q.2.2.1 = nI k ∧ LM a.1 a.2.1 q.2.2.2 ∧ SM a.1 (yS a sd k) q.2.2.2 ∧ q.2.2.2 0 47 = (yD a sd k) ∧ PkM a (wr τ 0 2 0) q.2.2.2 ∧ q.2.2.2 0 2 = 0) n N _ (by omega) ⟨rfl, rfl, rfl, hX1.1.fr f2 (by decide), hX1.2.2.fr f2 (by decide) (by decide), by dsimp only; rw [wr_e, upd_e]; rfl, hpk1.st f2 (by decide) (by decide), by dsimp only; rw [f2.2 2 (by decide), hf1.2 2 (by decide)]; rfl⟩ ?_
        rintro k ⟨_, _, _, τ4⟩ hk ⟨e1, e2, e3, hL4, hs4, d4, hp4, hc4⟩
        dsimp only at e1 e2 e3 hL4 hs4 d4 hp4 hc4
        subst e1 e2 e3
        unfold s_X12_years_h64 
        dsimp only
        by_cases hkn : k = n
        · subst hkn
          rw [if_pos (Int32.le_refl _), ev_s]
          refine Or.inr ⟨Nat.one_ne_zero, ?_⟩
          dsimp only
          rw [ev_bd]
          have f5 : FM [] [32] τ4 (wr τ4 0 32 (-1)) := (FM.refl _ _ _).w0 (by decide)
          have hp5 := hp4.st f5 (by decide) (by decide)
          have a5 : wr τ4 0 32 (-1) 0 29 = (yS a sd k) 0 1 := hs4.2.1
          have l5 : wr τ4 0 32 (-1) 3 0 = nI a.1 := hL4.2.1
          have fin : ∀ v : Int32, v = (if w = 0 then (yM a sd k) else if w = 1 then (yS a sd k) 0 1 else nI a.1 - pc (yW a sd k)) → Ev (f_X12_years_b143 N v (wr τ4 0 32 (-1))) (fun q => q.2 0 2 = 0 ∧ q.1 = (if w = 0 then (yM a sd k) else if w = 1 then (yS a sd k) 0 1 else nI a.1 - pc (yW a sd k)) ∧ RlM a q.2) := by
            intro v ev
            unfold f_X12_years_b143
            refine (m_closef (by omega) hO hM0 hp5 (by rw [wr_e, upd_e])).bind ?_
            rintro τ6 ⟨hR6, hf6⟩
            rw [ev_s]
            exact ⟨by dsimp only; rw [hf6.2 2 (by decide), f5.2 2 (by decide)]; exact hc4, ev, hR6⟩
          by_cases h0 : w = 0
          · rw [if_pos h0]; exact fin _ (by rw [if_pos h0])
          · rw [if_neg h0]
            by_cases h1 : w = 1
            · rw [if_pos h1, a5]; exact fin _ (by rw [if_neg h0, if_pos h1])
            · rw [if_neg h1, m_bc (by omega) _ (sub_mo hWn hF), Option.bind_some]
              dsimp only
              rw [l5]
              exact fin _ (by rw [if_neg h0, if_neg h1])
        · rw [if_neg (by rw [nI_le (by omega) (by omega)]; omega)]
          obtain ⟨⟨hS4, hT4⟩, hW4⟩ := yr_ok hO sd k (by omega)
          refine (m_some hN hO.1 hS4 hL4 hs4).bind ?_
          rintro τ5 ⟨hs5, d5, m5, hf5⟩
          rw [d4] at hs5 d5 m5
          have hS5 := hap_ok (sd := (yD a sd k)) hF hS4
          have hmi : Mi a.2.1 (τ5 0 32) ((hp1 a.1 (yS a sd k) (yD a sd k)) 0 0) = nI (dv 10 (nxs ((hp2 a.1 (yD a sd k))))) := by
            unfold Mi
            have h10 := dv_lt (n := 10) (x := nxs ((hp2 a.1 (yD a sd k)))) (by omega)
            rw [m5, if_neg (nI_m1 (Nat.lt_trans h10 (by decide)))]
          refine (m_tick (by omega) hO.1 (hL4.fr hf5 (by decide)) hs5 hS5.1 hmi).bind ?_
          rintro τ6 ⟨e35, hs6, hf6⟩
          rw [ev_bd, e35, m_bc (by omega) _ (sub_mo (nds_sub hF _) hF), Option.bind_some, ev_bd, ev_bd, ev_s]
          refine Or.inl ⟨rfl, by omega, by dsimp only; rw [yW_s], by dsimp only; rw [yM_s], nI_s _, (hL4.fr hf5 (by decide)).fr hf6 (by decide), ?_, ?_, (hp4.st hf5 (by decide) (by decide)).st hf6 (by decide) (by decide), ?_⟩
          · rw [yS_s]; exact hs6
          · dsimp only
            rw [yD_s, hf6.2 47 (by decide)]; exact d5
          · dsimp only; rw [hf6.2 2 (by decide), hf5.2 2 (by decide)]; exact hc4
    · refine okF (a := a) (cC := 2) (cM := 2) (D := D3) hO (by decide) (Or.inr (Or.inr ⟨rfl, rfl⟩)) ?_ ?_
      · unfold f_X11_years_0
        rw [c_what, Option.bind_some, if_pos hw]
        dsimp only
        rw [if_pos rfl, c_within, Option.bind_some, if_neg hx]
        dsimp only
        rw [if_neg (by decide), ev_s]
        exact ⟨rfl, hC⟩
      · unfold f_X12_years f_X12_fail
        rw [ev_bd, e0i, e2, m_isIn, Option.bind_some, if_pos hw]
        dsimp only
        rw [if_neg (by decide), e60i, m_isIn, Option.bind_some, if_neg hx]
        simp only [if_true, bd, Option.bind_some]
        rw [ev_s]
        exact ⟨rfl, hM0.code 2⟩
  · refine okF (a := a) (cC := 1) (cM := 1) (D := D3) hO (by decide) (Or.inr (Or.inl ⟨rfl, rfl⟩)) ?_ ?_
    · unfold f_X11_years_0
      rw [c_what, Option.bind_some, if_neg hw]
      dsimp only
      rw [if_neg (by decide), ev_s]
      exact ⟨rfl, hC⟩
    · unfold f_X12_years f_X12_fail
      rw [ev_bd, e0i, e2, m_isIn, Option.bind_some, if_neg hw]
      simp only [if_true, bd, Option.bind_some]
      rw [ev_s]
      exact ⟨rfl, hM0.code 1⟩
