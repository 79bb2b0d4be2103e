/-! ===== upland: a fault ===== -/
def PP.ftA (a : Ab) (p : Int32) : Ab := (a.1, a.2.1, (a.2.2.1.1, a.2.2.1.2.1, a.2.2.1.2.2.1, a.2.2.1.2.2.2.1, a.2.2.1.2.2.2.2.1, upd a.2.2.1.2.2.2.2.2 0 (a.2.2.1.2.2.2.2.2 0 + 1)), a.2.2.2.1, 0, a.2.2.2.2.2.1, p)
theorem PP.ft_ok {a : Ab} {p : Int32} (h : OKa a) : OKa (ftA a p) := ⟨h.1, h.2.1, h.2.2.1, Nat.zero_le _, rfl, fun i hi => absurd hi (Nat.not_lt_zero i)⟩
theorem PP.upd_a1 {f g : Nat → Int32} {j : Nat} (h : ∀ j, j < 3 → f j = g j) (hj : j < 3) : upd f 0 (f 0 + 1) j = upd g 0 (g 0 + 1) j := by
  unfold upd
  rw [h 0 (by omega), h j hj]
theorem PP.ft_c {a : Ab} {σ σ' : Sg} (h : RlC a σ) (f : QC (wr σ 0 1 0) σ') : RlC (ftA a (σ' 2 2)) (wr σ' 33 0 (σ' 33 0 + 1)) := by
  have g : Fr [0, 2, 3, 4, 5, 6, 7, 8, 9, 10, 33] σ (wr σ' 33 0 (σ' 33 0 + 1)) := by
    refine Fr.wr ?_ (by decide)
    intro c hc
    simp only [List.mem_cons, List.not_mem_nil, or_false] at hc
    rw [f c (by simp only [List.mem_cons, List.not_mem_nil, or_false]; omega), wr_n (by omega)]
  have e0 : wr σ' 33 0 (σ' 33 0 + 1) 0 = upd (σ 0) 1 0 := by rw [wr_n (by decide), f 0 (by decide), wr_e]
  have e33 : σ' 33 = σ 33 := by rw [f 33 (by decide), wr_n (by decide)]
  obtain ⟨h1, ⟨b1, b2, b3, b4⟩, h3, h4, h5⟩ := h
  refine ⟨h1.fr g (by decide), ⟨b1.fr g (by decide), b2.fr g (by decide) (by decide), b3.fr g (by decide), fun j hj => ?_⟩, h3.fr g (by decide), h4.of ?_ g (by decide), ?_, fun i hi => absurd hi (Nat.not_lt_zero i), ?_⟩
  · show wr σ' 33 0 (σ' 33 0 + 1) 33 j = upd a.2.2.1.2.2.2.2.2 0 (a.2.2.1.2.2.2.2.2 0 + 1) j
    rw [wr_e, e33]
    exact upd_a1 b4 hj
  · rw [e0, upd_n (by decide)]
  · rw [e0, upd_e]; rfl
  · rw [wr_n (by decide)]; rfl
theorem PP.LM.qm {F : Nat} {L τ τ' : Sg} (hO : LandOK F L) (h : LM F L τ) (f : QM τ τ') : LM F L τ' := by
  obtain ⟨f0, f3, f4, f9, f10⟩ := f
  obtain ⟨l1, l2, l3, l4, l5, l6, l7, l8, l9⟩ := h
  have h38 : (L 0 3).toNatClampNeg ≤ 8 := by
    obtain ⟨x0, x1⟩ := hO.2.2.2.2.1
    obtain ⟨k, hk, e⟩ := nI_of x0
    rw [e, show (8 : Int32) = nI 8 from rfl, nI_le hk (by omega)] at x1
    rw [e, nI_cl hk]; exact x1
  have h47 : (L 0 4).toNatClampNeg ≤ 700 := hO.2.2.2.2.2.1.2.1
  refine ⟨l1, ?_, ?_, ?_, ?_, ?_, fun i hi => ?_, fun i hi => ?_, fun i hi => ?_⟩
  · rw [f3 0 (by omega)]; exact l2
  · rw [f3 1 (by omega)]; exact l3
  · rw [f3 2 (by omega)]; exact l4
  · rw [f3 3 (by omega)]; exact l5
  · rw [f3 4 (by omega)]; exact l6
  · rw [f4 5 (by omega) (by omega) i (by omega), f4 6 (by omega) (by omega) i (by omega), f4 8 (by omega) (by omega) i (by omega), f4 4 (by omega) (by omega) i (by omega)]; exact l7 i hi
  · rw [f9 i (by omega)]; exact l8 i hi
  · rw [f10 i (by omega)]; exact l9 i hi
def PP.upT (τ : Sg) (x : Int32) : Sg := wr (wr (wr (wr (wr (wr τ 0 2 0) 0 13 0) 0 15 x) 0 14 0) 0 20 0) 0 22 (-1)
theorem PP.upT_f {τ : Sg} {x : Int32} : FM [] [2, 13, 14, 15, 20, 22] τ (upT τ x) := ((((((FM.refl _ _ _).w0 (by decide)).w0 (by decide)).w0 (by decide)).w0 (by decide)).w0 (by decide)).w0 (by decide)
theorem PP.ft_m {a : Ab} {τ τ' : Sg} {x : Int32} (hO : OKa a) (h : RlM a τ) (f : QM (upT τ x) τ') : RlM (ftA a (τ' 0 21)) (wr (wr τ' 0 22 (τ' 0 21)) 11 0 (wr τ' 0 22 (τ' 0 21) 11 0 + 1)) := by
  obtain ⟨h1, ⟨b1, b2, b3, b4, b5, b6⟩, h3, h4, h5⟩ := h
  have hL : LM a.1 a.2.1 τ' := (h1.fr upT_f (by decide)).qm hO.1 f
  have g0 : FM [3, 4, 5, 6, 7, 8, 9, 10] [2, 13, 14, 15, 16, 17, 18, 19, 20, 21, 22] τ τ' := (upT_f.mo (by decide) (by decide)).tr (f.1.mo (by decide) (by decide))
  have e11 : wr τ' 0 22 (τ' 0 21) 11 = τ 11 := by rw [wr_n (by decide), g0.1 11 (by decide) (by decide)]
  have e13 : τ' 0 13 = 0 := by
    rw [f.1.2 13 (by decide)]
    unfold upT
    rw [wr_e, upd_n (by decide), wr_e, upd_n (by decide), wr_e, upd_n (by decide), wr_e, upd_n (by decide), wr_e, upd_e]
  have g1 : FM [11] [22] τ' (wr (wr τ' 0 22 (τ' 0 21)) 11 0 (wr τ' 0 22 (τ' 0 21) 11 0 + 1)) := ((FM.refl _ _ _).w0 (by decide)).w (by decide) (by decide)
  have g : FM [3, 4, 5, 6, 7, 8, 9, 10, 11] [2, 13, 14, 15, 16, 17, 18, 19, 20, 21, 22] τ (wr (wr τ' 0 22 (τ' 0 21)) 11 0 (wr τ' 0 22 (τ' 0 21) 11 0 + 1)) := (g0.mo (by decide) (by decide)).tr (g1.mo (by decide) (by decide))
  refine ⟨hL.fr g1 (by decide), ⟨b1.fr g (by decide) (by decide), ?_, ?_, ?_, ?_, fun j hj => ?_⟩, ?_, h4.fr g (by decide) (by decide), ?_, fun i hi => absurd hi (Nat.not_lt_zero i), ?_⟩
  · rw [g.2 30 (by decide)]; exact b2
  · rw [g.1 17 (by decide) (by decide)]; exact b3
  · rw [g.2 31 (by decide)]; exact b4
  · rw [g.1 24 (by decide) (by decide), g.1 25 (by decide) (by decide), g.1 27 (by decide) (by decide)]; exact b5
  · show _ = upd a.2.2.1.2.2.2.2.2 0 (a.2.2.1.2.2.2.2.2 0 + 1) j
    rw [wr_e, e11]
    exact upd_a1 b6 hj
  · rw [g.2 32 (by decide)]; exact h3
  · rw [g1.2 13 (by decide), e13]; rfl
  · rw [wr_n (by decide), wr_e, upd_e]; rfl
/-! ===== upland: none ===== -/
def PP.s0 (h : Nat → Int32) : Sg := stt 0 0 (fun _ => 0) (fun _ => 0) (fun _ => 0) h
theorem PP.s0_ok {m : Nat} {h : Nat → Int32} (hh : ∀ i, i < m → 0 ≤ h i ∧ h i ≤ 20) : StOK m (s0 h) := ⟨⟨by show (0 : Int32) ≤ 0; decide, by show (0 : Int32) ≤ 2000; decide⟩, sub_0 m, fun i hi => ⟨⟨by show (0 : Int32) ≤ 0; decide, by show (0 : Int32) ≤ 5; decide⟩, ⟨by show (0 : Int32) ≤ 0; decide, by show (0 : Int32) ≤ 9; decide⟩, ⟨by show (0 : Int32) ≤ 0; decide, by show (0 : Int32) ≤ 999; decide⟩, hh i hi, fun _ => rfl⟩⟩
def PP.nwA (a : Ab) (m : Nat) (σ τ : Sg) : Ab := (m, newL m σ τ, (s0 (σ 6), 0, a.2.2.1.2.2.1, 0, a.2.2.1.2.2.2.2.1, a.2.2.1.2.2.2.2.2), none, 0, a.2.2.2.2.2.1, -1)
theorem PP.nw_ok {a : Ab} {m k c d : Nat} {σ τ : Sg} (hD : DF m σ τ) (h6 : 1 ≤ σ 3 6 ∧ σ 3 6 ≤ 99) (h7 : 0 ≤ σ 3 7 ∧ σ 3 7 ≤ 9) (h8 : σ 3 8 = nI k) (hM : DM k σ τ) (hC : CR c d σ τ) : OKa (nwA a m σ τ) :=
  ⟨newL_ok hD h6 h7 h8 hM hC, ⟨⟨s0_ok (fun i hi => ⟨(hD.2.2.2.1 i hi).2.2.1.2.1, (hD.2.2.2.1 i hi).2.2.1.2.2⟩), by show (0 : Int32) ≤ 999; decide⟩, ⟨Nat.zero_le _, fun j hj => absurd hj (Nat.not_lt_zero j)⟩, Nat.zero_le _, fun j hj => absurd hj (Nat.not_lt_zero j)⟩, fun B e => (nomatch e), Nat.zero_le _, rfl, fun i hi => absurd hi (Nat.not_lt_zero i)⟩
theorem PP.nw_c {N : Nat} {a : Ab} {m k c d : Nat} {σ0 σ τ : Sg} (hN : 1000 < N) (hD : DF m σ τ) (h6 : 1 ≤ σ 3 6 ∧ σ 3 6 ≤ 99) (h7 : 0 ≤ σ 3 7 ∧ σ 3 7 ≤ 9) (h8 : σ 3 8 = nI k) (hM : DM k σ τ) (hC : CR c d σ τ) (hp : σ 2 2 = -1) (h : RlC a σ0) (f : QC (wr σ0 0 1 0) σ) : Ev ((f_X9_copy_12_3 N σ).bind fun q3 =>
(f_X7_settle_22_12 N q3).bind fun q4 =>
(f_X0_clear_27 N q4).bind fun q5 =>
(f_X5_clear_29 N q5).bind fun q6 =>
bd (wr q6 0 6 (0 : Int32)) fun σ7 =>
(f_X6_build_47_26 N σ7).bind fun q8 =>
some ((0 : Nat), (0 : Int32), q8)) (fun z => z.1 = 0 ∧ z.2.1 = 0 ∧ RlC (nwA a m σ τ) z.2.2) := by
  refine c_copy.bind ?_
  rintro σ1 ⟨a0, a5, a6, a7, a8, af, am, ac, ar, g1⟩
  have l1 : LC m (newL m σ τ) σ1 := newL_lc hD h8 hM hC a0 a5 a6 a7 a8 af am ac ar
  refine (c_settle hN).bind ?_
  rintro σ2 ⟨s0', s1', s2, g2⟩
  unfold f_X0_clear_27 f_X5_clear_29
  simp only [bd, Option.bind_some]
  have g3 : Fr [0, 27, 29] σ2 (wr (wr (wr (wr σ2 27 0 0) 27 1 0) 29 0 0) 0 6 0) := ((((Fr.refl _ _).wr (by decide)).wr (by decide)).wr (by decide)).wr (by decide)
  have c0 : wr (wr (wr (wr σ2 27 0 0) 27 1 0) 29 0 0) 0 6 0 0 = upd (σ2 0) 6 0 := by rw [wr_e, wr_n (by decide), wr_n (by decide), wr_n (by decide)]
  have c27 : wr (wr (wr (wr σ2 27 0 0) 27 1 0) 29 0 0) 0 6 0 27 = upd (upd (σ2 27) 0 0) 1 0 := by rw [wr_n (by decide), wr_n (by decide), wr_e, wr_e]
  have c29 : wr (wr (wr (wr σ2 27 0 0) 27 1 0) 29 0 0) 0 6 0 29 0 = 0 := by rw [wr_n (by decide), wr_e, upd_e]
  generalize wr (wr (wr (wr σ2 27 0 0) 27 1 0) 29 0 0) 0 6 0 = σ3 at *
  have hm := hD.2.2.1
  have l3 : LC m (newL m σ τ) σ3 := (l1.fr g2 (by decide)).fr g3 (by decide)
  have e26 : ∀ i, i < 9 → σ3 26 i = σ 6 i := fun i hi => by rw [g3 26 (by decide), (s2 i hi).2.2.2]; exact (af i hi).2.2.1
  refine (c_build_47_26 (t := tp (newL m σ τ) (s0 (σ 6))) (by omega) (newL_ok hD h6 h7 h8 hM hC) l3 (fun i hi => ?_)).bind ?_
  · rw [e26 i (by omega)]; rfl
  rintro σ4 ⟨r4, g4⟩
  rw [ev_s]
  have s3 : SC 22 m (s0 (σ 6)) σ3 := by
    refine ⟨?_, ?_, fun i hi => ⟨?_, ?_, ?_, ?_⟩, fun i hi h9 => ?_⟩
    · rw [g3 22 (by decide)]; exact s0'
    · rw [g3 22 (by decide)]; exact s1'
    · rw [g3 (22 + 1) (by decide)]; exact (s2 i (by omega)).1
    · rw [g3 (22 + 2) (by decide)]; exact (s2 i (by omega)).2.1
    · rw [g3 (22 + 3) (by decide)]; exact (s2 i (by omega)).2.2.1
    · exact e26 i (by omega)
    · rw [g3 (22 + 1) (by decide)]; exact (s2 i h9).1
  have g5 : Fr [0, 2, 3, 4, 5, 6, 7, 8, 9, 10, 12, 13, 14, 15, 16, 17, 18, 19, 22, 23, 24, 25, 26, 27, 29, 48, 49] σ0 σ4 := by
    have gf : Fr [0, 2, 3, 4, 5, 6, 7, 8, 9, 10, 12, 13, 14, 15, 16, 17, 18, 19, 22, 23, 24, 25, 26, 27, 29, 48, 49] (wr σ0 0 1 0) σ4 := ((((Fr.mo f (by decide)).tr (g1.mo (by decide))).tr (g2.mo (by decide))).tr (g3.mo (by decide))).tr (g4.mo (by decide))
    exact ((Fr.refl _ _).wr (by decide)).tr gf
  have e01 : σ4 0 1 = 0 := by rw [g4 0 (by decide), c0, upd_n (by decide), g2 0 (by decide), g1 0 (by decide), f 0 (by decide), wr_e, upd_e]
  have e06 : σ4 0 6 = 0 := by rw [g4 0 (by decide), c0, upd_e]
  have e22 : σ4 2 2 = -1 := by rw [g4 2 (by decide), g3 2 (by decide), g2 2 (by decide), g1 2 (by decide)]; exact hp
  refine ⟨rfl, rfl, l3.fr g4 (by decide), ⟨s3.fr g4 (by decide), ⟨?_, 0, by decide, ?_, fun j hj => absurd hj (Nat.not_lt_zero j)⟩, ⟨?_, fun j hj => absurd hj (Nat.not_lt_zero j)⟩, fun j hj => ?_⟩, r4, e06, e01, fun i hi => absurd hi (Nat.not_lt_zero i), e22⟩
  · show σ4 27 0 = nI 0
    rw [g4 27 (by decide), c27, upd_n (by decide), upd_e]; rfl
  · show σ4 27 1 = nI 0
    rw [g4 27 (by decide), c27, upd_e]; rfl
  · show σ4 29 0 = nI 0
    rw [g4 29 (by decide), c29]; rfl
  · show σ4 33 j = a.2.2.1.2.2.2.2.2 j
    rw [g5 33 (by decide)]; exact h.2.1.2.2.2 j hj
theorem PP.nw_m {N : Nat} {a : Ab} {m k c d : Nat} {x : Int32} {τ0 σ τ : Sg} (hN : 1000 < N) (hD : DF m σ τ) (h6 : σ 3 6 = τ 3 6) (h7 : σ 3 7 = τ 3 7) (h8 : σ 3 8 = nI k) (h8' : τ 3 8 = nI k) (hM : DM k σ τ) (hC : CR c d σ τ) (h : RlM a τ0) (f : QM (upT τ0 x) τ) : Ev ((f_X12_takeOver N τ).bind fun q16 => some ((0 : Int32), q16)) (fun q => q.2 0 2 = 0 ∧ q.1 = 0 ∧ RlM (nwA a m σ τ) q.2) := by
  have hk := hM.1
  have hc := hC.2.2.1.1
  obtain ⟨d1, d2, d3, d4, d5, d6⟩ := hD
  refine (m_over hN d3 d2).bind ?_
  rintro τ' ⟨o3, o4, o9, o10, o13, o16, o28, o29, o30, o31, o48, g⟩
  rw [ev_s]
  have u2 : (upT τ0 x) 0 2 = 0 := by
    unfold upT
    rw [wr_e, upd_n (by decide), wr_e, upd_n (by decide), wr_e, upd_n (by decide), wr_e, upd_n (by decide), wr_e, upd_n (by decide), wr_e, upd_e]
  have u13 : (upT τ0 x) 0 13 = 0 := by
    unfold upT
    rw [wr_e, upd_n (by decide), wr_e, upd_n (by decide), wr_e, upd_n (by decide), wr_e, upd_n (by decide), wr_e, upd_e]
  have u22 : (upT τ0 x) 0 22 = -1 := by
    unfold upT
    rw [wr_e, upd_e]
  have e3 : newL m σ τ 0 3 = nI k := h8
  have e4 : newL m σ τ 0 4 = nI c := hC.1
  have g0 : FM [3, 4, 5, 6, 7, 8, 9, 10, 13, 14, 15, 16] [2, 13, 14, 15, 16, 17, 18, 19, 20, 21, 22, 28, 29, 30, 31, 48] τ0 τ' := ((upT_f (x := x)).mo (by decide) (by decide)).tr ((f.1.mo (by decide) (by decide)).tr (g.mo (by decide) (by decide)))
  refine ⟨?_, rfl, ⟨d3, ?_, ?_, ?_, ?_, ?_, fun i hi => ⟨?_, ?_, ?_, ?_⟩, fun i hi => ?_, fun i hi => ?_⟩, ⟨⟨?_, ?_, fun i hi => ⟨?_, ?_, ?_, ?_⟩⟩, ?_, fun j hj => absurd hj (Nat.not_lt_zero j), ?_, fun j hj => absurd hj (Nat.not_lt_zero j), fun j hj => ?_⟩, ?_, ?_, ?_, fun i hi => absurd hi (Nat.not_lt_zero i), ?_⟩
  · dsimp only; rw [g.2 2 (by decide), f.1.2 2 (by decide)]; exact u2
  · dsimp only; rw [o3 0 (by omega)]; exact d2
  · dsimp only; rw [o3 1 (by omega)]; exact h6.symm
  · dsimp only; rw [o3 2 (by omega)]; exact h7.symm
  · dsimp only; rw [o3 3 (by omega)]; exact h8'.trans e3.symm
  · dsimp only; rw [o3 4 (by omega)]; exact hC.2.1.trans e4.symm
  · dsimp only; rw [o4 5 (by omega) (by omega) i (by have hi : i < m := hi; omega)]; exact (d4 i hi).1.1.symm
  · dsimp only; rw [o4 6 (by omega) (by omega) i (by have hi : i < m := hi; omega)]; exact (d4 i hi).2.1.1.symm
  · dsimp only; rw [o4 8 (by omega) (by omega) i (by have hi : i < m := hi; omega)]; exact (d4 i hi).2.2.2.1.1.symm
  · dsimp only; rw [o4 4 (by omega) (by omega) i (by have hi : i < m := hi; omega)]; rfl
  · have hi : i < (newL m σ τ 0 3).toNatClampNeg := hi
    rw [e3, nI_cl (by omega)] at hi
    dsimp only; rw [o9 i (by omega)]; exact (hM.2 i hi).1.symm
  · have hi : i < (newL m σ τ 0 4).toNatClampNeg := hi
    rw [e4, nI_cl (by omega)] at hi
    dsimp only; rw [o10 i (by omega)]; exact hC.2.2.2.2 i hi
  · exact o28
  · exact o29
  · exact (o13 i (by have hi : i < m := hi; omega)).1
  · exact (o13 i (by have hi : i < m := hi; omega)).2.1
  · exact (o13 i (by have hi : i < m := hi; omega)).2.2
  · exact (o16 i hi).trans (d4 i hi).2.2.1.1.symm
  · exact o30
  · exact o31
  · dsimp only; rw [g0.1 11 (by decide) (by decide)]; exact h.2.1.2.2.2.2.2 j hj
  · dsimp only; rw [g0.2 32 (by decide)]; exact h.2.2.1
  · exact o48
  · dsimp only; rw [g.2 13 (by decide), f.1.2 13 (by decide)]; exact u13
  · dsimp only; rw [g.2 22 (by decide), f.1.2 22 (by decide)]; exact u22
theorem PP.ok_upland {N : Nat} (hN : 5000 < N) : Ok_upland N Rl := by
  rintro x σ τ ⟨a, hO, hC, hM⟩
  have hM0 := hM.code 0
  obtain ⟨tC0, tC1, tC2⟩ := hC.2.2.2.2
  obtain ⟨tM0, tM1, tM2⟩ := hM0.2.2.2.2
  have hn7 := hO.2.2.2.1
  have hb := hO.2.2.2.2.2
  by_cases hx : 0 ≤ x ∧ x ≤ nI a.2.2.2.2.1
  · obtain ⟨n, _, hn, rfl⟩ := in_n (lo := 0) (by omega) hx (by omega)
    unfold f_X11_upland_0 f_X12_upland
    rw [if_neg (nI_nn (by omega)), if_pos (show nI n ≤ σ 0 1 by rw [tC0]; exact hx.2)]
    simp only [bd]
    rw [if_neg (nI_nn (by omega)), if_pos (show nI n ≤ wr τ 0 2 0 0 13 by rw [tM0]; exact hx.2)]
    show ∃ (z : Zt) (r : Int32) (τ' : Sg), _ ∧ ((it (fun q => s_X12_upland_h50 N q.1 q.2) N ((0 : Int32), upT τ (nI n))).bind _) = some (r, τ') ∧ _
    obtain ⟨r, y, er, ey, qc, qm, hh⟩ := j_reads (N := N) (n := n) (t := a.2.2.2.2.2.1) (σ := wr σ 0 1 0) (τ := upT τ (nI n)) (by omega) (by omega) (fun i hi => by rw [wr_n (by decide)]; exact tC1 i (by omega)) (fun i hi => by rw [upT_f.1 12 (by decide) (by decide)]; exact hM.2.2.2.2.2.1 i (by omega)) (fun i hi => hb i (by omega)) (by unfold upT; simp [wr, upd]) (by unfold upT; simp [wr, upd]) (by unfold upT; simp [wr, upd])
    rw [er, Option.bind_some]
    have ey' : ((it (fun q => s_X12_upland_h50 N q.1 q.2) N ((0 : Int32), upT τ (nI n))).bind fun z13 => (f_X12_stepOn N (z13.2.2)).bind fun q14 => (it (fun q => s_X12_upland_h95 N q.1 q.2) N ((0 : Int32), q14)).bind fun z15 =>
if ((z15.2.2) 0 20) = 0 then ((f_X12_takeOver N (z15.2.2)).bind fun q16 =>
some ((0 : Int32), q16))
else some ((wr (wr (z15.2.2) 0 22 ((z15.2.2) 0 21)) 11 0 (wr (z15.2.2) 0 22 ((z15.2.2) 0 21) 11 0 + 1)) 0 20, wr (wr (z15.2.2) 0 22 ((z15.2.2) 0 21)) 11 0 (wr (z15.2.2) 0 22 ((z15.2.2) 0 21) 11 0 + 1))) = (if (y.2.2 0 20) = 0 then ((f_X12_takeOver N (y.2.2)).bind fun q16 =>
some ((0 : Int32), q16))
else some ((wr (wr (y.2.2) 0 22 ((y.2.2) 0 21)) 11 0 (wr (y.2.2) 0 22 ((y.2.2) 0 21) 11 0 + 1)) 0 20, wr (wr (y.2.2) 0 22 ((y.2.2) 0 21)) 11 0 (wr (y.2.2) 0 22 ((y.2.2) 0 21) 11 0 + 1))) := by
      cases e1 : it (fun q => s_X12_upland_h50 N q.1 q.2) N ((0 : Int32), upT τ (nI n)) with
      | none => rw [e1] at ey; exact nomatch ey
      | some z13 =>
        rw [e1, Option.bind_some] at ey
        rw [Option.bind_some]
        cases e2 : f_X12_stepOn N (z13.2.2) with
        | none => rw [e2] at ey; exact nomatch ey
        | some q14 =>
          rw [e2, Option.bind_some] at ey
          rw [Option.bind_some, ey, Option.bind_some]
    rw [ey']
    rcases hh with ⟨r0, hF⟩ | ⟨r1, p, c, b1, b2, b4, b8, pc, pm, y20, ⟨m, hD⟩, ⟨x6, x6a, x6b, _⟩, ⟨x7, x7a, x7b, _⟩, ⟨k, x8, x8', _, hDM⟩, ⟨hCR, _⟩, _⟩
    · rw [if_pos r0, if_neg hF.1]
      refine okS (a := ftA a (r.2 2 2)) (r := y.2.2 0 20) (D := D2) (ft_ok hO) (Or.inl ⟨rfl, rfl⟩) (ev_s.mpr ⟨rfl, ?_, ft_c hC qc⟩) (ev_s.mpr ⟨?_, ?_, ?_⟩)
      · dsimp only; rw [wr_n (by decide)]; exact hF.2.1
      · dsimp only
        rw [wr_n (by decide), wr_e, upd_n (by decide), qm.1.2 2 (by decide)]
        unfold upT; simp [wr, upd]
      · dsimp only; rw [wr_n (by decide), wr_e, upd_n (by decide)]
      · dsimp only; rw [hF.2.2.1]; exact ft_m hO hM qm
    · rw [if_neg (show ¬ r.1 = 0 by rw [r1]; decide), if_pos y20]
      exact okS (a := nwA a m r.2 y.2.2) (r := 0) (D := D2) (nw_ok hD ⟨x6a, x6b⟩ ⟨x7a, x7b⟩ x8 hDM hCR) (Or.inl ⟨rfl, rfl⟩) (nw_c (by omega) hD ⟨x6a, x6b⟩ ⟨x7a, x7b⟩ x8 hDM hCR pc.2.1.1.2 hC qc) (nw_m (by omega) hD x6 x7 x8 x8' hDM hCR hM qm)
  · refine okF (a := a) (cC := 2) (cM := 1) (D := D2) hO (by decide) (Or.inr ⟨rfl, rfl⟩) ?_ ?_
    · unfold f_X11_upland_0 f_X11_upland_0_b12
      by_cases h0 : x < 0
      · rw [if_pos h0, ev_s]; exact ⟨rfl, hC⟩
      · rw [if_neg h0, if_neg (show ¬ x ≤ σ 0 1 by rw [tC0]; grind), ev_s]; exact ⟨rfl, hC⟩
    · unfold f_X12_upland f_X12_upland_b17 f_X12_fail
      rw [ev_bd]
      have e : Ev ((bd (wr (wr τ 0 2 0) 0 2 1) fun σ1 => some ((0 : Int32), σ1)).bind fun q6 => some (q6.1, q6.2)) (fun q => q.2 0 2 = 1 ∧ RlM a q.2) := by
        simp only [bd, Option.bind_some]
        rw [ev_s]
        exact ⟨by dsimp only; rw [wr_e, upd_e], hM0.code 1⟩
      by_cases h0 : x < 0
      · rw [if_pos h0]; exact e
      · rw [if_neg h0, if_neg (show ¬ x ≤ wr τ 0 2 0 0 13 by rw [tM0]; grind)]; exact e
