theorem PP.QC.tr {a b c : Sg} (h : QC a b) (k : QC b c) : QC a c := Fr.tr h k
theorem PP.QC.w {a b : Sg} {k j : Nat} {v : Int32} (h : QC a b) (d : k ∈ [2, 3, 4, 5, 6, 7, 8, 9, 10]) : QC a (wr b k j v) := Fr.wr h d
theorem PP.DF.push {m : Nat} {σ σ' τ τ' : Sg} {x v1 v2 v3 v4 : Int32} (hD : DF m σ τ) (hm : m < 9) (hx : x = 0 ∨ x = 1) (r1 : 0 ≤ v1 ∧ v1 ≤ 99) (r2 : 0 ≤ v2 ∧ v2 ≤ 99) (r3 : 0 ≤ v3 ∧ v3 ≤ 20) (r4 : 1 ≤ v4 ∧ v4 ≤ 5) (S4 : σ' 4 = upd (σ 4) m v1) (S5 : σ' 5 = upd (σ 5) m v2) (S6 : σ' 6 = upd (σ 6) m v3) (S7 : σ' 7 = upd (σ 7) m v4) (s0 : σ' 3 0 = nI (m + 1)) (s5 : σ' 3 5 = σ 3 5 ||| x <<< (nI m &&& 31)) (T4 : τ' 4 = upd (τ 4) (9 + m) x) (T5 : τ' 5 = upd (τ 5) (9 + m) v1) (T6 : τ' 6 = upd (τ 6) (9 + m) v2) (T7 : τ' 7 = upd (τ 7) (9 + m) v3) (T8 : τ' 8 = upd (τ 8) (9 + m) v4) (t5 : τ' 3 5 = nI (m + 1)) (hfree : ∀ i, i < m → σ 4 i ≠ v1) : DF (m + 1) σ' τ' := by
  obtain ⟨d1, d2, d3, d4, d5, d6⟩ := hD
  refine ⟨s0, t5, by omega, fun i hi => ?_, fun i j hi hj he => ?_, fun i hi hi9 => ?_⟩
  · unfold FA
    rw [S4, S5, S6, S7, T4, T5, T6, T7, T8, s5]
    have hB := hasB_st (s := σ 3 5) hm (show i < 9 by omega) hx
    by_cases e : i = m
    · subst e
      rw [upd_e, upd_e, upd_e, upd_e, upd_e, upd_e, upd_e, upd_e, upd_e]
      refine ⟨⟨rfl, r1⟩, ⟨rfl, r2⟩, ⟨rfl, r3⟩, ⟨rfl, r4⟩, ?_, hx⟩
      rw [hB]
      constructor
      · rintro (h | h)
        · exact absurd h (d6 i (by omega) hm)
        · exact h.1
      · intro h; exact Or.inr ⟨h, rfl⟩
    · rw [upd_n e, upd_n e, upd_n e, upd_n e, upd_n (by omega), upd_n (by omega), upd_n (by omega), upd_n (by omega), upd_n (by omega)]
      obtain ⟨q1, q2, q3, q4, q5, q6⟩ := d4 i (by omega)
      refine ⟨q1, q2, q3, q4, ?_, q6⟩
      rw [hB, ← q5]
      constructor
      · rintro (h | h)
        · exact h
        · exact absurd h.2 e
      · intro h; exact Or.inl h
  · rw [S4] at he
    by_cases e1 : i = m
    · by_cases e2 : j = m
      · omega
      · rw [e1, upd_e, upd_n e2] at he
        exact absurd he.symm (hfree j (by omega))
    · by_cases e2 : j = m
      · rw [e2, upd_e, upd_n e1] at he
        exact absurd he (hfree i (by omega))
      · rw [upd_n e1, upd_n e2] at he
        exact d5 i j (by omega) (by omega) he
  · rw [s5, hasB_st hm hi9 hx]
    rintro (h | h)
    · exact d6 i (by omega) hi9 h
    · omega
/-- the rest of the draft, which a farm's line leaves -/
def PP.KO (σ σ' τ τ' : Sg) : Prop := (∀ j, j ≠ 0 → j ≠ 5 → σ' 3 j = σ 3 j) ∧ σ' 8 = σ 8 ∧ σ' 9 = σ 9 ∧ σ' 10 = σ 10 ∧ σ' 2 11 = σ 2 11 ∧ σ' 2 12 = σ 2 12 ∧ (∀ j, j ≠ 5 → τ' 3 j = τ 3 j) ∧ τ' 9 = τ 9 ∧ τ' 10 = τ 10
theorem PP.j_farm {N n p c m : Nat} {t : Nat → Int32} {x : Int32} {σ τ : Sg} (hN : 1000 < N) (hx : x = 0 ∨ x = 1) (h1 : PSC t n p σ) (h2 : PSM t n p τ) (hb : τ 0 20 = 0) (hk : tk t n p ≠ 0) (hc : c ≤ 700) (h9 : σ 9 0 = nI c) (hD : DF m σ τ) : E2 (f_X3_readsFarm_2 N x σ) ((f_X12_sayFarm N x τ).bind fun q => f_X12_mark N 59 q) (fun r q => FL σ τ r q ∨ (r.1 = 1 ∧ ∃ p', tb t n p < tb t n p' ∧ PSC t n p' r.2 ∧ PSM t n p' q ∧ q 0 20 = 0 ∧ DF (m + 1) r.2 q ∧ QC σ r.2 ∧ QM τ q ∧ KO σ r.2 τ q)) := by
  obtain ⟨d1, d2, d3, d4, d5, d6⟩ := hD
  have kn := tk_ne h1.1 hk
  unfold f_X3_readsFarm_2 f_X12_sayFarm f_X12_sayFarm_b16 f_X3_readsFarm_2_b166
  rw [e2_bl, d1, d2]
  by_cases hm : m = 9
  · subst hm
    rw [if_neg (show ¬ nI 9 < 9 by decide), if_pos (show nI 9 = 9 from rfl)]
    obtain ⟨σ', τ', a1, a2, hF, hg, hg'⟩ := j_fail (N := N) (x := 2) (by decide) h1 h2 hb hc h9
    rw [a1, a2, Option.bind_some, Option.bind_some, if_neg hF.1, Option.bind_some, m_markB hF.1]
    dsimp only
    rw [if_neg (by decide), e2_s]
    exact Or.inl ⟨rfl, hF, hg.qc, hg'.qm⟩
  have hm9 : m < 9 := by omega
  rw [if_pos (show nI m < 9 by rw [show (9 : Int32) = nI 9 from rfl, nI_lt (by omega) (by omega)]; exact hm9), if_neg (show ¬ nI m = 9 by rw [nI_lit (m := 9) (x := 9) (by omega) (by omega) rfl]; exact hm), if_pos hb]
  obtain ⟨τ1, e3, hP', hf'⟩ := m_stepOn (N := N) (e := te t n p) hN h2.2.1 kn.2.2.1 h2.2.2.2.1
  obtain ⟨σ1, e6, hP, hf⟩ := c_advance (N := N) (e := te t n p) hN h1.2.1 kn.2.2.1 h1.2.2.2.1
  have t35 : τ1 3 5 = nI m := by rw [hf'.1 3 (by decide) (by decide)]; exact d2
  rw [e3, e6, Option.bind_some, Option.bind_some]
  show E2 _ ((if ((9 + τ1 3 5) < 0 ∨ 18 ≤ (9 + τ1 3 5).toNatClampNeg) then none else bd (wr τ1 4 ((9 + τ1 3 5).toNatClampNeg) x) fun σ19 => (f_X12_numberNow N (0 : Int32) (99 : Int32) σ19).bind fun q20 => bd q20.1 fun v21 => (it (fun q => s_X12_sayFarm_h57 N (9 + τ1 3 5) v21 q.1 q.2) N ((9 : Int32), (q20.2))).bind fun z22 => if ((z22.2.2) 0 20) = 0 then ((f_X12_stepOn N (z22.2.2)).bind fun q23 => f_X12_sayFarm_b96 N (9 + τ1 3 5) v21 q23) else (f_X12_sayFarm_b96 N (9 + τ1 3 5) v21 (z22.2.2))).bind fun q => f_X12_mark N 59 q) _
  have e17 : (9 : Int32) + τ1 3 5 = nI (9 + m) := by rw [t35, show (9 : Int32) = nI 9 from rfl, nI_add]
  rw [e17, if_neg (gdn (by omega) (by omega)), nI_cl (by omega)]
  show E2 _ (((f_X12_numberNow N (0 : Int32) (99 : Int32) (wr τ1 4 (9 + m) x)).bind fun q20 => bd q20.1 fun v21 => (it (fun q => s_X12_sayFarm_h57 N (nI (9 + m)) v21 q.1 q.2) N ((9 : Int32), (q20.2))).bind fun z22 => if ((z22.2.2) 0 20) = 0 then ((f_X12_stepOn N (z22.2.2)).bind fun q23 => f_X12_sayFarm_b96 N (nI (9 + m)) v21 q23) else (f_X12_sayFarm_b96 N (nI (9 + m)) v21 (z22.2.2))).bind fun q => f_X12_mark N 59 q) _
  generalize hτ2 : wr τ1 4 (9 + m) x = τ2
  have q20 : τ2 0 = τ1 0 := by rw [← hτ2]; exact wr_n (by decide)
  have q212 : τ2 12 = τ1 12 := by rw [← hτ2]; exact wr_n (by decide)
  have hP2 : PSM t n (te t n p) τ2 := hP'.fr q20 q212
  have b2 : τ2 0 20 = 0 := by rw [q20, hf'.2 20 (by decide)]; exact hb
  have qm2 : QM τ τ2 := by rw [← hτ2]; exact (hf'.qm (by decide)).w (by omega)
  have qc1 : QC σ σ1 := hf.qc
  have s30 : σ1 3 = σ 3 := hf.1 3 (by decide)
  have s9 : σ1 9 0 = nI c := by rw [hf.1 9 (by decide)]; exact h9
  have m5 : ∀ i, i < m → τ2 5 (9 + i) = σ1 4 i := fun i hi => by rw [← hτ2, wr_n (by decide), hf'.1 5 (by decide) (by decide), hf.1 4 (by decide)]; exact (d4 i hi).1.1.symm
  obtain ⟨r, q, e1, e2, hj⟩ := j_num (N := N) (x := 0) (y := 99) hP hP2 b2 hc s9
  rw [e1, e2, Option.bind_some, Option.bind_some]
  rcases hj with ⟨r1, r2, hF, hg, hg'⟩ | ⟨rfl, rfl, k2, e10, v1, v2⟩
  · obtain ⟨z, ez, hz⟩ := m_takenB (N := N) (m := m) (v := q.1) hN hm9 hF.1
    rw [if_pos r1]
    show E2 _ (((it (fun u => s_X12_sayFarm_h57 N (nI (9 + m)) q.1 u.1 u.2) N ((9 : Int32), (q.2))).bind fun z22 => if ((z22.2.2) 0 20) = 0 then ((f_X12_stepOn N (z22.2.2)).bind fun q23 => f_X12_sayFarm_b96 N (nI (9 + m)) q.1 q23) else (f_X12_sayFarm_b96 N (nI (9 + m)) q.1 (z22.2.2))).bind fun q => f_X12_mark N 59 q) _
    rw [ez, Option.bind_some, hz, if_neg hF.1]
    refine e2_r (b96B hm9 hF.1) ?_
    rintro τ3 ⟨w1, w2⟩
    rw [m_markB (by rw [w1]; exact hF.1), e2_s]
    exact Or.inl ⟨rfl, hF.m w1, qc1.tr hg.qc, (qm2.tr hg'.qm).tr w2⟩
  rw [if_neg (show ¬ (1 : Int32) = 0 by decide)]
  show E2 _ (((it (fun u => s_X12_sayFarm_h57 N (nI (9 + m)) (τ2 0 17) u.1 u.2) N ((9 : Int32), τ2)).bind fun z22 => if ((z22.2.2) 0 20) = 0 then ((f_X12_stepOn N (z22.2.2)).bind fun q23 => f_X12_sayFarm_b96 N (nI (9 + m)) (τ2 0 17) q23) else (f_X12_sayFarm_b96 N (nI (9 + m)) (τ2 0 17) (z22.2.2))).bind fun q => f_X12_mark N 59 q) _
  dsimp only
  generalize hv : τ2 0 17 = v at *
  rw [e10]
  by_cases htk : ∃ i, i < m ∧ σ1 4 i = v
  · obtain ⟨i, hi, hiv⟩ := htk
    obtain ⟨σ', τ', a1, a2, hF, hg, hg'⟩ := j_fail (N := N) (x := 4) (by decide) hP hP2 b2 hc s9
    rw [c_taken1 hN (by rw [s30]; exact d1) d3 hi hiv, Option.bind_some]
    obtain ⟨z, ez, hz⟩ := m_taken1 (N := N) (m := m) (v := v) hN hm9 b2 hi ((m5 i hi).trans hiv) a2 hF.1 (hg'.1.1 5 (by decide) (by decide))
    rw [ez, Option.bind_some, hz, if_neg hF.1]
    dsimp only
    rw [if_neg (by decide), a1, Option.bind_some]
    dsimp only
    rw [if_neg (by decide)]
    refine e2_r (b96B hm9 hF.1) ?_
    rintro τ3 ⟨w1, w2⟩
    rw [m_markB (by rw [w1]; exact hF.1), e2_s]
    exact Or.inl ⟨rfl, hF.m w1, qc1.tr hg.qc, (qm2.tr hg'.qm).tr w2⟩
  have hfree : ∀ i, i < m → σ1 4 i ≠ v := fun i hi e => htk ⟨i, hi, e⟩
  rw [c_taken0 hN (by rw [s30]; exact d1) d3 hfree, Option.bind_some]
  obtain ⟨z, ez, hz⟩ := m_taken0 (N := N) (m := m) (v := v) (τ := τ2) hN hm9 (fun i hi => by rw [m5 i hi]; exact hfree i hi)
  rw [ez, Option.bind_some, hz, if_pos b2]
  dsimp only
  rw [if_pos rfl, e2_bl, e2_bl]
  have kn2 := tk_ne hP.1 (show tk t n (te t n p) ≠ 0 by omega)
  obtain ⟨τ3, e3', hP3', hf3'⟩ := m_stepOn (N := N) (e := te t n (te t n p)) hN hP2.2.1 kn2.2.2.1 hP2.2.2.2.1
  rw [e3', Option.bind_some, ms_b96, if_neg (gdn (by omega) (by omega)), nI_cl (by omega)]
  show E2 _ ((ms1 N (nI (9 + m)) (wr τ3 5 (9 + m) v)).bind fun q => f_X12_mark N 59 q) _
  have s35 : σ1 3 5 = σ 3 5 := by rw [s30]
  generalize hs2 : wr (wr σ1 3 5 (σ1 3 5 ||| x <<< (nI m &&& 31))) 3 0 (wr σ1 3 5 (σ1 3 5 ||| x <<< (nI m &&& 31)) 3 0 + 1) = σ2
  have a12 : ∀ k, k ≠ 3 → σ2 k = σ1 k := fun k hk => by rw [← hs2, wr_n hk, wr_n hk]
  have a30 : σ2 3 0 = nI (m + 1) := by rw [← hs2, wr_e, upd_e, wr_e, upd_n (by decide), s30, d1, nI_s]
  have a35 : σ2 3 5 = σ 3 5 ||| x <<< (nI m &&& 31) := by rw [← hs2, wr_e, upd_n (by decide), wr_e, upd_e, s35]
  have a3j : ∀ j, j ≠ 0 → j ≠ 5 → σ2 3 j = σ 3 j := fun j j0 j5 => by rw [← hs2, wr_e, upd_n j0, wr_e, upd_n j5, s30]
  have qc2 : QC σ σ2 := by rw [← hs2]; exact (qc1.w (by decide)).w (by decide)
  have hP2c : PSC t n (te t n p) σ2 := hP.fr (a12 1 (by decide)) (a12 2 (by decide))
  have s92 : σ2 9 0 = nI c := by rw [a12 9 (by decide)]; exact s9
  rw [tk4]
  unfold tkN
  obtain ⟨r, q, f1, f2, hj⟩ := j_num (N := N) (x := 0) (y := 99) hP2c hP2 b2 hc s92
  rw [e2] at f2
  cases f2
  rcases hj with ⟨-, -, hF, -⟩ | ⟨rfl, -, -, e10', -, -⟩
  · exact absurd b2 hF.1
  rw [f1, Option.bind_some]
  dsimp only
  rw [if_neg (by decide), if_neg (nI_nn (by omega)), if_neg (show ¬ 9 ≤ nI m by rw [show (9 : Int32) = nI 9 from rfl, nI_le (by omega) (by omega)]; omega), if_neg (gdn hm9 (by omega)), nI_cl (by omega), e10', hv]
  have hP3 : PSC t n (te t n p) (wr σ2 4 m v) := hP2c.fr (wr_n (by decide)) (wr_n (by decide))
  obtain ⟨σ3, e6', hP3c, hf3⟩ := c_advance (N := N) (e := te t n (te t n p)) hN hP3.2.1 kn2.2.2.1 hP3.2.2.2.1
  show E2 (((f_X3_advance_2 N (wr σ2 4 m v)).bind fun q1 => some ((1 : Int32), q1)).bind _) _ _
  rw [e6', Option.bind_some, Option.bind_some]
  dsimp only
  rw [if_neg (by decide)]
  have S9 : σ3 9 0 = nI c := by rw [hf3.1 9 (by decide), wr_n (by decide)]; exact s92
  have bm3 : wr τ3 5 (9 + m) v 0 20 = 0 := by rw [wr_n (by decide), hf3'.2 20 (by decide)]; exact b2
  have PM3 : PSM t n (te t n (te t n p)) (wr τ3 5 (9 + m) v) := hP3'.fr (wr_n (by decide)) (wr_n (by decide))
  have qm3 : QM τ (wr τ3 5 (9 + m) v) := (qm2.tr (hf3'.qm (by decide))).w (by omega)
  have qc3 : QC σ σ3 := (qc2.w (by decide)).tr hf3.qc
  generalize hτ3 : wr τ3 5 (9 + m) v = υ3 at *
  generalize hp2 : te t n (te t n p) = p2 at *
  unfold ms1
  obtain ⟨r, q, f5, g5, hj⟩ := j_take (N := N) (k := 5) (B := 9) (b := 9) (i := m) (x := 0) (y := 99) hN (by omega) rfl hm9 (by omega) hP3c PM3 bm3 hc S9
  rw [tk5, f5, g5, Option.bind_some, Option.bind_some, if_neg (gdn (by omega) (by omega)), nI_cl (by omega)]
  rcases hj with ⟨r1, hF, hg, hg'⟩ | ⟨r1, w2, ev, lo2, hi2, k5, P5, M5, b5, F5, G5⟩
  · rw [if_pos r1]
    have e0 : wr q.2 6 (9 + m) q.1 0 = q.2 0 := wr_n (by decide)
    show E2 _ ((ms2 N (nI (9 + m)) (wr q.2 6 (9 + m) q.1)).bind fun q => f_X12_mark N 59 q) _
    refine e2_r (ms2B hm9 (by rw [e0]; exact hF.1)) ?_
    rintro τ9 ⟨w1, w2⟩
    rw [m_markB (by rw [w1, e0]; exact hF.1), e2_s]
    exact Or.inl ⟨rfl, hF.m (w1.trans e0), qc3.tr hg, ((qm3.tr hg').w (by omega)).tr w2⟩
  rw [if_neg (by rw [r1]; decide), ev]
  show E2 _ ((ms2 N (nI (9 + m)) (wr q.2 6 (9 + m) w2)).bind fun q => f_X12_mark N 59 q) _
  obtain ⟨rr, σ4⟩ := r
  obtain ⟨qq, τ4⟩ := q
  dsimp only at r1 ev P5 M5 b5 F5 G5 ⊢
  have S94 : σ4 9 0 = nI c := by rw [F5.1 9 (by decide), wr_n (by decide)]; exact S9
  have bm4 : wr τ4 6 (9 + m) w2 0 20 = 0 := by rw [wr_n (by decide)]; exact b5
  have PM4 : PSM t n (te t n p2) (wr τ4 6 (9 + m) w2) := M5.fr (wr_n (by decide)) (wr_n (by decide))
  have qm4 : QM τ (wr τ4 6 (9 + m) w2) := (qm3.tr (G5.qm (by decide))).w (by omega)
  have qc4 : QC σ σ4 := (qc3.w (by decide)).tr F5.qc
  generalize hτ4 : wr τ4 6 (9 + m) w2 = υ4 at *
  have kn5 := tk_ne hP3c.1 (show tk t n p2 ≠ 0 by omega)
  unfold ms2
  obtain ⟨r, q, f6, g6, hj⟩ := j_take (N := N) (k := 6) (B := 9) (b := 9) (i := m) (x := 0) (y := 20) hN (by omega) rfl hm9 (by omega) P5 PM4 bm4 hc S94
  rw [tk6, f6, g6, Option.bind_some, Option.bind_some, if_neg (gdn (by omega) (by omega)), nI_cl (by omega)]
  rcases hj with ⟨r1, hF, hg, hg'⟩ | ⟨r1, w3, ev, lo3, hi3, k6, P6, M6, b6, F6, G6⟩
  · rw [if_pos r1]
    have e0 : wr q.2 7 (9 + m) q.1 0 = q.2 0 := wr_n (by decide)
    show E2 _ ((ms3 N (nI (9 + m)) (wr q.2 7 (9 + m) q.1)).bind fun q => f_X12_mark N 59 q) _
    refine e2_r (ms3B hm9 (by rw [e0]; exact hF.1)) ?_
    rintro τ9 ⟨w1, w2⟩
    rw [m_markB (by rw [w1, e0]; exact hF.1), e2_s]
    exact Or.inl ⟨rfl, hF.m (w1.trans e0), qc4.tr hg, ((qm4.tr hg').w (by omega)).tr w2⟩
  rw [if_neg (by rw [r1]; decide), ev]
  show E2 _ ((ms3 N (nI (9 + m)) (wr q.2 7 (9 + m) w3)).bind fun q => f_X12_mark N 59 q) _
  obtain ⟨rr6, σ5⟩ := r
  obtain ⟨qq6, τ5⟩ := q
  dsimp only at r1 ev P6 M6 b6 F6 G6 ⊢
  have S95 : σ5 9 0 = nI c := by rw [F6.1 9 (by decide), wr_n (by decide)]; exact S94
  have bm5 : wr τ5 7 (9 + m) w3 0 20 = 0 := by rw [wr_n (by decide)]; exact b6
  have PM5 : PSM t n (te t n (te t n p2)) (wr τ5 7 (9 + m) w3) := M6.fr (wr_n (by decide)) (wr_n (by decide))
  have qm5 : QM τ (wr τ5 7 (9 + m) w3) := (qm4.tr (G6.qm (by decide))).w (by omega)
  have qc5 : QC σ σ5 := (qc4.w (by decide)).tr F6.qc
  generalize hτ5 : wr τ5 7 (9 + m) w3 = υ5 at *
  have kn6 := tk_ne P5.1 (show tk t n (te t n p2) ≠ 0 by omega)
  unfold ms3
  obtain ⟨r, q, f7, g7, hj⟩ := j_take (N := N) (k := 7) (B := 9) (b := 9) (i := m) (x := 1) (y := 5) hN (by omega) rfl hm9 (by omega) P6 PM5 bm5 hc S95
  rw [tk7, f7, g7, Option.bind_some, Option.bind_some, if_neg (gdn (by omega) (by omega)), nI_cl (by omega)]
  show E2 _ (f_X12_mark N 59 (wr (wr q.2 8 (9 + m) q.1) 3 5 (wr q.2 8 (9 + m) q.1 3 5 + 1))) _
  rcases hj with ⟨r1, hF, hg, hg'⟩ | ⟨r1, w4, ev, lo4, hi4, k7, P7, M7, b7, F7, G7⟩
  · rw [if_pos r1]
    have e0 : wr (wr q.2 8 (9 + m) q.1) 3 5 (wr q.2 8 (9 + m) q.1 3 5 + 1) 0 = q.2 0 := by rw [wr_n (by decide), wr_n (by decide)]
    rw [m_markB (by rw [e0]; exact hF.1), e2_s]
    exact Or.inl ⟨rfl, hF.m e0, qc5.tr hg, ((qm5.tr hg').w (by omega)).w (by omega)⟩
  rw [if_neg (by rw [r1]; decide), ev]
  obtain ⟨rr7, σ6⟩ := r
  obtain ⟨qq7, τ6⟩ := q
  dsimp only at r1 ev P7 M7 b7 F7 G7 ⊢
  have S96 : σ6 9 0 = nI c := by rw [F7.1 9 (by decide), wr_n (by decide)]; exact S95
  generalize hτ6 : wr (wr τ6 8 (9 + m) w4) 3 5 (wr τ6 8 (9 + m) w4 3 5 + 1) = υ6 at *
  have c6 : ∀ k, k ≠ 3 → k ≠ 8 → υ6 k = τ6 k := fun k k3 k8 => by rw [← hτ6, wr_n k3, wr_n k8]
  have bm6 : υ6 0 20 = 0 := by rw [c6 0 (by decide) (by decide)]; exact b7
  have PM6 : PSM t n (te t n (te t n (te t n p2))) υ6 := M7.fr (c6 0 (by decide) (by decide)) (c6 12 (by decide) (by decide))
  have qm6 : QM τ υ6 := by rw [← hτ6]; exact ((qm5.tr (G7.qm (by decide))).w (by omega)).w (by omega)
  have qc6 : QC σ σ6 := (qc5.w (by decide)).tr F7.qc
  have kn7 := tk_ne P6.1 (show tk t n (te t n (te t n p2)) ≠ 0 by omega)
  obtain ⟨r, q, f8, g8, hj⟩ := j_end (N := N) hN P7 PM6 bm6 hc S96
  rw [f8, g8, Option.bind_some]
  rcases hj with ⟨r1, hF, hg, hg'⟩ | ⟨r1, k8, P8, M8, b8, F8, G8⟩
  · rw [if_pos r1, e2_s]
    exact Or.inl ⟨rfl, hF, qc6.tr hg, qm6.tr hg'⟩
  rw [if_neg (by rw [r1]; decide), e2_s]
  obtain ⟨rr8, σ7⟩ := r
  dsimp only at r1 P8 F8 ⊢
  have kn8 := tk_ne P7.1 (show tk t n (te t n (te t n (te t n p2))) ≠ 0 by omega)
  have cS : ∀ k, k ≠ 2 → k ≠ 4 → k ≠ 5 → k ≠ 6 → k ≠ 7 → σ7 k = σ2 k := fun k k2 k4 k5 k6 k7 => by rw [F8.1 k k2, F7.1 k k2, wr_n k7, F6.1 k k2, wr_n k6, F5.1 k k2, wr_n k5, hf3.1 k k2, wr_n k4]
  have c2 : ∀ j, j ∉ [5, 6, 7, 8, 9, 10] → σ7 2 j = σ 2 j := fun j hj => by rw [F8.2 j hj, F7.2 j hj, wr_n (by decide), F6.2 j hj, wr_n (by decide), F5.2 j hj, wr_n (by decide), hf3.2 j hj, wr_n (by decide), a12 2 (by decide), hf.2 j hj]
  have cT : ∀ k, k ≠ 0 → k ≠ 3 → k ≠ 4 → k ≠ 5 → k ≠ 6 → k ≠ 7 → k ≠ 8 → q k = τ k := fun k k0 k3 k4 k5 k6 k7 k8 => by rw [G8.1 k k0 (by simp), c6 k k3 k8, G7.1 k k0 (by simp), ← hτ5, wr_n k7, G6.1 k k0 (by simp), ← hτ4, wr_n k6, G5.1 k k0 (by simp), ← hτ3, wr_n k5, hf3'.1 k k0 (by simp), ← hτ2, wr_n k4, hf'.1 k k0 (by simp)]
  have t3 : τ6 3 = τ 3 := by rw [G7.1 3 (by decide) (by decide), ← hτ5, wr_n (by decide), G6.1 3 (by decide) (by decide), ← hτ4, wr_n (by decide), G5.1 3 (by decide) (by decide), ← hτ3, wr_n (by decide), hf3'.1 3 (by decide) (by decide), ← hτ2, wr_n (by decide), hf'.1 3 (by decide) (by decide)]
  have q3 : q 3 = υ6 3 := G8.1 3 (by decide) (by decide)
  refine Or.inr ⟨rfl, _, by omega, P8, M8, b8, DF.push (x := x) (v1 := v) (v2 := w2) (v3 := w3) (v4 := w4) ⟨d1, d2, d3, d4, d5, d6⟩ hm9 hx ⟨v1, v2⟩ ⟨lo2, hi2⟩ ⟨lo3, hi3⟩ ⟨lo4, hi4⟩ ?_ ?_ ?_ ?_ ?_ ?_ ?_ ?_ ?_ ?_ ?_ ?_ ?_, qc6.tr F8.qc, qm6.tr (G8.qm (by decide)), ?_⟩
  · rw [F8.1 4 (by decide), F7.1 4 (by decide), wr_n (by decide), F6.1 4 (by decide), wr_n (by decide), F5.1 4 (by decide), wr_n (by decide), hf3.1 4 (by decide), wr_e, a12 4 (by decide), hf.1 4 (by decide)]
  · rw [F8.1 5 (by decide), F7.1 5 (by decide), wr_n (by decide), F6.1 5 (by decide), wr_n (by decide), F5.1 5 (by decide), wr_e, hf3.1 5 (by decide), wr_n (by decide), a12 5 (by decide), hf.1 5 (by decide)]
  · rw [F8.1 6 (by decide), F7.1 6 (by decide), wr_n (by decide), F6.1 6 (by decide), wr_e, F5.1 6 (by decide), wr_n (by decide), hf3.1 6 (by decide), wr_n (by decide), a12 6 (by decide), hf.1 6 (by decide)]
  · rw [F8.1 7 (by decide), F7.1 7 (by decide), wr_e, F6.1 7 (by decide), wr_n (by decide), F5.1 7 (by decide), wr_n (by decide), hf3.1 7 (by decide), wr_n (by decide), a12 7 (by decide), hf.1 7 (by decide)]
  · rw [cS 3 (by decide) (by decide) (by decide) (by decide) (by decide)]; exact a30
  · rw [cS 3 (by decide) (by decide) (by decide) (by decide) (by decide)]; exact a35
  · rw [G8.1 4 (by decide) (by decide), c6 4 (by decide) (by decide), G7.1 4 (by decide) (by decide), ← hτ5, wr_n (by decide), G6.1 4 (by decide) (by decide), ← hτ4, wr_n (by decide), G5.1 4 (by decide) (by decide), ← hτ3, wr_n (by decide), hf3'.1 4 (by decide) (by decide), ← hτ2, wr_e, hf'.1 4 (by decide) (by decide)]
  · rw [G8.1 5 (by decide) (by decide), c6 5 (by decide) (by decide), G7.1 5 (by decide) (by decide), ← hτ5, wr_n (by decide), G6.1 5 (by decide) (by decide), ← hτ4, wr_n (by decide), G5.1 5 (by decide) (by decide), ← hτ3, wr_e, hf3'.1 5 (by decide) (by decide), ← hτ2, wr_n (by decide), hf'.1 5 (by decide) (by decide)]
  · rw [G8.1 6 (by decide) (by decide), c6 6 (by decide) (by decide), G7.1 6 (by decide) (by decide), ← hτ5, wr_n (by decide), G6.1 6 (by decide) (by decide), ← hτ4, wr_e, G5.1 6 (by decide) (by decide), ← hτ3, wr_n (by decide), hf3'.1 6 (by decide) (by decide), ← hτ2, wr_n (by decide), hf'.1 6 (by decide) (by decide)]
  · rw [G8.1 7 (by decide) (by decide), c6 7 (by decide) (by decide), G7.1 7 (by decide) (by decide), ← hτ5, wr_e, G6.1 7 (by decide) (by decide), ← hτ4, wr_n (by decide), G5.1 7 (by decide) (by decide), ← hτ3, wr_n (by decide), hf3'.1 7 (by decide) (by decide), ← hτ2, wr_n (by decide), hf'.1 7 (by decide) (by decide)]
  · rw [G8.1 8 (by decide) (by decide), ← hτ6, wr_n (by decide), wr_e, G7.1 8 (by decide) (by decide), ← hτ5, wr_n (by decide), G6.1 8 (by decide) (by decide), ← hτ4, wr_n (by decide), G5.1 8 (by decide) (by decide), ← hτ3, wr_n (by decide), hf3'.1 8 (by decide) (by decide), ← hτ2, wr_n (by decide), hf'.1 8 (by decide) (by decide)]
  · rw [q3, ← hτ6, wr_e, upd_e, wr_n (by decide), t3, d2, nI_s]
  · intro i hi
    rw [← hf.1 4 (by decide)]; exact hfree i hi
  · refine ⟨fun j j0 j5 => ?_, ?_, ?_, ?_, ?_, ?_, fun j j5 => ?_, ?_, ?_⟩
    · rw [cS 3 (by decide) (by decide) (by decide) (by decide) (by decide)]; exact a3j j j0 j5
    · rw [cS 8 (by decide) (by decide) (by decide) (by decide) (by decide), a12 8 (by decide), hf.1 8 (by decide)]
    · rw [cS 9 (by decide) (by decide) (by decide) (by decide) (by decide), a12 9 (by decide), hf.1 9 (by decide)]
    · rw [cS 10 (by decide) (by decide) (by decide) (by decide) (by decide), a12 10 (by decide), hf.1 10 (by decide)]
    · exact c2 11 (by decide)
    · exact c2 12 (by decide)
    · rw [q3, ← hτ6, wr_e, upd_n j5, wr_n (by decide), t3]
    · exact cT 9 (by decide) (by decide) (by decide) (by decide) (by decide) (by decide) (by decide)
    · exact cT 10 (by decide) (by decide) (by decide) (by decide) (by decide) (by decide) (by decide)
