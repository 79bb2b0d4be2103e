/-- what a step of a chain leaves -/
def PP.ST (t : Nat → Int32) (n p c d : Nat) (k3 : Int32) (σ τ : Sg) (r : Nat × Int32 × Int32 × Sg) (q : Nat × Sg) : Prop := tb t n p < n ∧ r.1 = 0 ∧ q.1 = 0 ∧ r.2.2.1 = k3 + 1 ∧ GC σ r.2.2.2 ∧ GM τ q.2 ∧ ((r.2.1 = 0 ∧ FE r.2.2.2 q.2) ∨ (r.2.1 = 1 ∧ ∃ p' c', tb t n p < tb t n p' ∧ c' + tb t n p ≤ c + tb t n p' ∧ ER t n p' c' (d + 1) r.2.2.2 q.2))
theorem PP.j_bin {N n p c d : Nat} {t : Nat → Int32} {sc : Sg → Option (Int32 × Sg)} {sm : Sg → Option Sg} {x y : Int32} {σ τ : Sg} (hN : 1000 < N) (h : ER t n p c (d + 1) σ τ) (hk : tk t n p ≠ 0) (hS : ∀ p c σ τ, ER t n p c (d + 1) σ τ → E2 (sc σ) (sm τ) (PO t n p c (d + 1) σ τ)) (hx : cvt y = x) (hy : okc y) (h1 : -15 ≤ x) (h7 : x < -7) : E2 ((f_X3_advance_2 N σ).bind fun q3 => (sc q3).bind fun q4 => (f_X4_add_9 N x q4.2).bind fun q6 => some (q4.1, q6)) ((f_X12_stepOn N τ).bind fun q1 => (sm q1).bind fun q2 => f_X12_lay N y q2) (fun r q => GC σ r.2 ∧ GM τ q ∧ ((r.1 = 0 ∧ FE r.2 q) ∨ (r.1 = 1 ∧ ∃ p' c', tb t n p < tb t n p' ∧ c' + tb t n p ≤ c + tb t n p' ∧ ER t n p' c' (d + 1) r.2 q))) := by
  have kn := tk_ne h.1.1 hk
  have hn := h.1.2.1.1.1
  have hc := h.2.2.2.2
  refine E2.bind (j_next hN h hk) ?_
  rintro σ1 τ1 ⟨hE, g1, g1'⟩
  refine E2.bind (hS _ _ _ _ hE) ?_
  rintro ⟨v, σ2⟩ τ2 ⟨g2, g2', hp2⟩
  dsimp only at g2 g2' hp2 ⊢
  rcases hp2 with ⟨rfl, hF⟩ | ⟨rfl, p', c', q1, q2, hE2⟩
  · obtain ⟨f1, f2, f3, c9, hc9, e9⟩ := hF
    rw [m_layB f1]
    refine e2_l (c_addF e9 hc9) ?_
    rintro σ3 ⟨k1, k2⟩
    rw [e2_s]
    refine ⟨(g1.tr g2).tr ⟨fun k a1 a2 a3 => k1 k a2 a3, fun j _ => congrFun (k1 2 (by decide) (by decide)) j⟩, g1'.tr g2', Or.inl ⟨rfl, f1, ?_, ?_, k2⟩⟩
    · dsimp only; rw [k1 2 (by decide) (by decide)]; exact f2
    · dsimp only; rw [k1 2 (by decide) (by decide)]; exact f3
  · have htb' := tb_le (t := t) hE2.1.1
    obtain ⟨a1, a2, a3, a4, a5⟩ := hE2
    obtain ⟨σ', τ', e4, e5, hC', f1, f2, hg, hg'⟩ := j_lay (N := N) (x := x) (y := y) a4 (by omega) a3 hx hy h1 (fun hh => absurd (Int32.lt_of_le_of_lt hh h7) (by decide)) (fun _ => by omega) (fun _ => by omega)
    rw [e4, e5, Option.bind_some, e2_s]
    rw [dn_b h7] at hC'
    refine ⟨(g1.tr g2).tr hg, (g1'.tr g2').tr hg', Or.inr ⟨rfl, p', c' + 1, by omega, by omega, a1.fr (f1 1 (by decide) (by decide)) (f1 2 (by decide) (by decide)), a2.fr (f2 0 (by decide) (by decide)) (f2 12 (by decide) (by decide)), ?_, hC', by omega⟩⟩
    rw [f2 0 (by decide) (by decide)]; exact a3
theorem PP.j_op {N n p c d : Nat} {t : Nat → Int32} {sc : Sg → Option (Int32 × Sg)} {sm : Sg → Option Sg} {x y k3 : Int32} {σ τ : Sg} (hN : 1000 < N) (h : ER t n p c (d + 1) σ τ) (hk : tk t n p ≠ 0) (hS : ∀ p c σ τ, ER t n p c (d + 1) σ τ → E2 (sc σ) (sm τ) (PO t n p c (d + 1) σ τ)) (hx : cvt y = x) (hy : okc y) (h1 : -15 ≤ x) (h7 : x < -7) : E2 ((f_X3_advance_2 N σ).bind fun q3 => (sc q3).bind fun q4 => bd q4.1 fun v5 => (f_X4_add_9 N x q4.2).bind fun q6 => bd (k3 + 1) fun v7 => some ((0 : Nat), v5, v7, q6)) ((f_X12_stepOn N τ).bind fun q1 => (sm q1).bind fun q2 => (f_X12_lay N y q2).bind fun q3 => some ((0 : Nat), q3)) (ST t n p c d k3 σ τ) := by
  obtain ⟨r, q, e1, e2, hP⟩ := j_bin hN h hk hS hx hy h1 h7
  have kn := tk_ne h.1.1 hk
  refine ⟨(0, r.1, k3 + 1, r.2), (0, q), ?_, ?_, kn.1, rfl, rfl, rfl, hP⟩
  · cases ha : f_X3_advance_2 N σ with
    | none => rw [ha] at e1; cases e1
    | some q3 =>
      rw [ha, Option.bind_some] at e1
      rw [Option.bind_some]
      cases hs : sc q3 with
      | none => rw [hs] at e1; cases e1
      | some q4 =>
        rw [hs, Option.bind_some] at e1
        rw [Option.bind_some]
        show ((f_X4_add_9 N x q4.2).bind fun q6 => some ((0 : Nat), q4.1, k3 + 1, q6)) = _
        cases hl : f_X4_add_9 N x q4.2 with
        | none => rw [hl] at e1; cases e1
        | some q6 =>
          rw [hl, Option.bind_some] at e1
          cases e1
          rfl
  · cases ha : f_X12_stepOn N τ with
    | none => rw [ha] at e2; cases e2
    | some q3 =>
      rw [ha, Option.bind_some] at e2
      rw [Option.bind_some]
      cases hs : sm q3 with
      | none => rw [hs] at e2; cases e2
      | some q4 =>
        rw [hs, Option.bind_some] at e2
        rw [Option.bind_some, e2]
        rfl
theorem PP.j_loop {N n p c d : Nat} {t : Nat → Int32} {f : Int32 × Int32 × Sg → Option (Nat × Int32 × Int32 × Sg)} {g : Sg → Option (Nat × Sg)} {v : Int32} {σ τ σ1 τ1 : Sg} (hN : 1000 < N) (hn : n ≤ 700) (h : PO t n p c d σ τ (v, σ1) τ1) (hF : ∀ k3 σ τ, FE σ τ → f (0, k3, σ) = some (1, 0, 0, σ) ∧ g τ = some (1, τ)) (hS : ∀ k p c σ τ, ER t n p c (d + 1) σ τ → k ≤ tb t n p → E2 (f (1, nI k, σ)) (g τ) (fun r q => (r = (1, 1, 0, σ) ∧ q = (1, τ)) ∨ ST t n p c d (nI k) σ τ r q)) : E2 ((it f N (v, 0, σ1)).bind fun z => if ¬ (z.2.1 = 0 ∨ z.2.1 = 1) then none else some (z.2.1, z.2.2.2)) ((it g N τ1).bind fun z => some z.2) (PO t n p c d σ τ) := by
  refine E2.bind (P := fun z y => PO t n p c d σ τ (z.2.1, z.2.2.2) y.2) ?_ ?_
  · refine e2_it (fun (k : Nat) (s : Int32 × Int32 × Sg) (u : Sg) => GC σ s.2.2 ∧ GM τ u ∧ s.2.1 = nI k ∧ ((s.1 = 0 ∧ FE s.2.2 u) ∨ (s.1 = 1 ∧ ∃ p' c', k ≤ tb t n p' ∧ tb t n p ≤ tb t n p' ∧ c' + tb t n p ≤ c + tb t n p' ∧ ER t n p' c' (d + 1) s.2.2 u))) (n + 1) ?_ N _ _ 0 (by omega) (by omega) ?_
    · rintro k ⟨v2, k3, σ2⟩ τ2 hk ⟨g1, g2, e3, hh⟩
      dsimp only at g1 g2 e3 hh
      subst e3
      rcases hh with ⟨rfl, hFE⟩ | ⟨rfl, p', c', q0, q1, q2, hE⟩
      · obtain ⟨a1, a2⟩ := hF (nI k) σ2 τ2 hFE
        rw [a1, a2, e2_s]
        exact Or.inr (Or.inl ⟨Nat.one_ne_zero, Nat.one_ne_zero, g1, g2, Or.inl ⟨rfl, hFE⟩⟩)
      · refine (hS k p' c' σ2 τ2 hE q0).imp ?_
        rintro ⟨r1, r2, r3, r4⟩ ⟨u1, u2⟩ hh
        rcases hh with ⟨e1, e2⟩ | ⟨b1, b2, b3, b4, b5, b6, b7⟩
        · cases e1; cases e2
          exact Or.inr (Or.inl ⟨Nat.one_ne_zero, Nat.one_ne_zero, g1, g2, Or.inr ⟨rfl, p', c', q1, q2, hE⟩⟩)
        · dsimp only at b2 b3 b4 b5 b6 b7
          refine Or.inl ⟨b2, b3, by omega, g1.tr b5, g2.tr b6, by dsimp only; rw [b4, nI_s], ?_⟩
          rcases b7 with b7 | ⟨b7, p2, c2, b8, b9, b10⟩
          · exact Or.inl b7
          · exact Or.inr ⟨b7, p2, c2, by omega, by omega, by omega, b10⟩
    · obtain ⟨a1, a2, a3⟩ := h
      refine ⟨a1, a2, rfl, ?_⟩
      rcases a3 with a3 | ⟨a3, p', c', q1, q2, q3⟩
      · exact Or.inl a3
      · exact Or.inr ⟨a3, p', c', by omega, q1, q2, q3⟩
  · rintro ⟨z1, z2, z3, z4⟩ ⟨y1, y2⟩ hP
    dsimp only at hP ⊢
    rw [if_neg, e2_s]
    · exact hP
    · rcases hP.2.2 with ⟨h, -⟩ | ⟨h, -⟩
      · exact fun x => x (Or.inl h)
      · exact fun x => x (Or.inr h)
theorem PP.tk_end {t : Nat → Int32} {n p : Nat} (h : tb t n p = n) : tk t n p = 0 := by unfold tk; rw [if_neg (by omega)]
/-! the four chains -/
theorem PP.m_prodS {N n p : Nat} {t : Nat → Int32} {τ : Sg} {rm : Int32 → Sg → Option Sg} {x : Int32} (h : PSM t n p τ) (hb : τ 0 20 = 0) : s_X12_readProduct_h5 N rm x τ = if tk t n p = 9 then f_X12_readProduct_b39 N rm x (-22) τ else if tk t n p = 10 then f_X12_readProduct_b39 N rm x (-23) τ else some (1, τ) := by
  unfold s_X12_readProduct_h5 f_X12_readProduct_b23
  by_cases k9 : tk t n p = 9
  · have e1 : f_X12_isMarked N 42 τ = some (1, τ) := by rw [m_mkd (i := 9) (x := 42) h hb (by omega) (by omega) rfl, if_pos k9]
    rw [e1, Option.bind_some]
    dsimp only
    rw [if_neg (by decide), e1, Option.bind_some, if_pos k9]
    dsimp only
    rw [if_neg (by decide)]
  · have e1 : f_X12_isMarked N 42 τ = some (0, τ) := by rw [m_mkd (i := 9) (x := 42) h hb (by omega) (by omega) rfl, if_neg k9]
    rw [e1, Option.bind_some, if_neg k9]
    dsimp only
    rw [if_pos rfl]
    by_cases k10 : tk t n p = 10
    · have e2 : f_X12_isMarked N 47 τ = some (1, τ) := by rw [m_mkd (i := 10) (x := 47) h hb (by omega) (by omega) rfl, if_pos k10]
      rw [e2, Option.bind_some, if_pos k10]
      dsimp only
      rw [if_neg (by decide), e1, Option.bind_some]
      dsimp only
      rw [if_pos rfl]
    · have e2 : f_X12_isMarked N 47 τ = some (0, τ) := by rw [m_mkd (i := 10) (x := 47) h hb (by omega) (by omega) rfl, if_neg k10]
      rw [e2, Option.bind_some, if_neg k10]
      dsimp only
      rw [if_pos rfl]
theorem PP.m_prodSB {N : Nat} {τ : Sg} {rm : Int32 → Sg → Option Sg} {x : Int32} (hb : τ 0 20 ≠ 0) : s_X12_readProduct_h5 N rm x τ = some (1, τ) := by
  unfold s_X12_readProduct_h5
  rw [m_mkdB hb, Option.bind_some]
  dsimp only
  rw [if_pos rfl, m_mkdB hb, Option.bind_some]
  dsimp only
  rw [if_pos rfl]
theorem PP.m_sumS {N n p : Nat} {t : Nat → Int32} {τ : Sg} {rm : Int32 → Sg → Option Sg} {x : Int32} (h : PSM t n p τ) (hb : τ 0 20 = 0) : s_X12_readSum_h5 N rm x τ = if tk t n p = 7 then f_X12_readSum_b39 N rm x (-20) τ else if tk t n p = 8 then f_X12_readSum_b39 N rm x (-21) τ else some (1, τ) := by
  unfold s_X12_readSum_h5 f_X12_readSum_b23
  by_cases k9 : tk t n p = 7
  · have e1 : f_X12_isMarked N 43 τ = some (1, τ) := by rw [m_mkd (i := 7) (x := 43) h hb (by omega) (by omega) rfl, if_pos k9]
    rw [e1, Option.bind_some]
    dsimp only
    rw [if_neg (by decide), e1, Option.bind_some, if_pos k9]
    dsimp only
    rw [if_neg (by decide)]
  · have e1 : f_X12_isMarked N 43 τ = some (0, τ) := by rw [m_mkd (i := 7) (x := 43) h hb (by omega) (by omega) rfl, if_neg k9]
    rw [e1, Option.bind_some, if_neg k9]
    dsimp only
    rw [if_pos rfl]
    by_cases k10 : tk t n p = 8
    · have e2 : f_X12_isMarked N 45 τ = some (1, τ) := by rw [m_mkd (i := 8) (x := 45) h hb (by omega) (by omega) rfl, if_pos k10]
      rw [e2, Option.bind_some, if_pos k10]
      dsimp only
      rw [if_neg (by decide), e1, Option.bind_some]
      dsimp only
      rw [if_pos rfl]
    · have e2 : f_X12_isMarked N 45 τ = some (0, τ) := by rw [m_mkd (i := 8) (x := 45) h hb (by omega) (by omega) rfl, if_neg k10]
      rw [e2, Option.bind_some, if_neg k10]
      dsimp only
      rw [if_pos rfl]
theorem PP.m_sumSB {N : Nat} {τ : Sg} {rm : Int32 → Sg → Option Sg} {x : Int32} (hb : τ 0 20 ≠ 0) : s_X12_readSum_h5 N rm x τ = some (1, τ) := by
  unfold s_X12_readSum_h5
  rw [m_mkdB hb, Option.bind_some]
  dsimp only
  rw [if_pos rfl, m_mkdB hb, Option.bind_some]
  dsimp only
  rw [if_pos rfl]
theorem PP.j_product {N n p c d w : Nat} {t : Nat → Int32} {rc : Int32 → Sg → Option (Int32 × Sg)} {rm : Int32 → Sg → Option Sg} {σ τ : Sg} (hN : 1000 < N) (hw : w ≤ 5) (hR : RK N n t (w + 1) rc rm) (h : ER t n p c d σ τ) (hd : d ≤ 5 * w + 4) : E2 (f_X3_readsProduct_2 N rc (nI w) σ) (f_X12_readProduct N rm (nI w) τ) (PO t n p c d σ τ) := by
  have hn := h.1.2.1.1.1
  unfold f_X3_readsProduct_2 f_X12_readProduct
  refine E2.bind (j_part hN hw hR h (by omega)) ?_
  rintro ⟨v, σ1⟩ τ1 hP
  rw [e2_bl]
  refine j_loop hN hn hP ?_ ?_
  · intro k3 σ2 τ2 hF
    dsimp only
    rw [m_prodSB hF.1]
    unfold s_X3_readsProduct_2_h8
    refine ⟨?_, rfl⟩
    by_cases c1 : σ2 2 4 ≤ k3
    · rw [if_pos c1]
    · rw [if_neg c1, if_pos rfl]
  · intro k p2 c2 σ2 τ2 hE hk
    dsimp only
    have hlt := tk_lt t n p2 hE.1.1
    have htb := tb_le (t := t) hE.1.1
    have s5 := hE.1.2.2.2.2.1
    have g : ¬ (σ2 2 5 < 0 ∨ 27 ≤ (σ2 2 5).toNatClampNeg) := by rw [s5]; exact gdn hlt (by omega)
    rw [m_prodS hE.2.1 hE.2.2.1]
    unfold s_X3_readsProduct_2_h8 f_X3_readsProduct_2_b40 f_X12_readProduct_b39
    by_cases hkn : n ≤ k
    · have k0 := tk_end (t := t) (n := n) (p := p2) (by omega)
      rw [if_pos (show σ2 2 4 ≤ nI k by rw [hE.1.2.1.2.1, nI_le (by omega) (by omega)]; exact hkn), if_neg (by omega), if_neg (by omega), e2_s]
      exact Or.inl ⟨rfl, rfl⟩
    · rw [if_neg (show ¬ σ2 2 4 ≤ nI k by rw [hE.1.2.1.2.1, nI_le (by omega) (by omega)]; exact hkn), if_neg (by decide), if_neg g]
      by_cases k9 : tk t n p2 = 9
      · rw [if_pos (show σ2 2 5 = 9 by rw [s5, k9]; rfl), if_pos k9, if_neg g, e2_bl]
        exact (j_op hN hE (by omega) (fun p c σ τ hh => j_part hN hw hR hh (by omega)) (by rw [s5, nI_cl (by omega), k9]; decide) ⟨by decide, by decide⟩ (by rw [s5, nI_cl (by omega), k9]; decide) (by rw [s5, nI_cl (by omega), k9]; decide)).imp (fun _ _ hh => Or.inr hh)
      · rw [if_neg (show ¬ σ2 2 5 = 9 by rw [s5, nI_lit (m := 9) (x := 9) (by omega) (by omega) rfl]; exact k9), if_neg k9, if_neg g]
        by_cases k10 : tk t n p2 = 10
        · rw [if_pos (show σ2 2 5 = 10 by rw [s5, k10]; rfl), if_pos k10, if_neg g, e2_bl]
          exact (j_op hN hE (by omega) (fun p c σ τ hh => j_part hN hw hR hh (by omega)) (by rw [s5, nI_cl (by omega), k10]; decide) ⟨by decide, by decide⟩ (by rw [s5, nI_cl (by omega), k10]; decide) (by rw [s5, nI_cl (by omega), k10]; decide)).imp (fun _ _ hh => Or.inr hh)
        · rw [if_neg (show ¬ σ2 2 5 = 10 by rw [s5, nI_lit (m := 10) (x := 10) (by omega) (by omega) rfl]; exact k10), if_neg k10, e2_s]
          exact Or.inl ⟨rfl, rfl⟩
theorem PP.j_sum {N n p c d w : Nat} {t : Nat → Int32} {rc : Int32 → Sg → Option (Int32 × Sg)} {rm : Int32 → Sg → Option Sg} {σ τ : Sg} (hN : 1000 < N) (hw : w ≤ 5) (hR : RK N n t (w + 1) rc rm) (h : ER t n p c d σ τ) (hd : d ≤ 5 * w + 3) : E2 (f_X3_readsSum_2 N rc (nI w) σ) (f_X12_readSum N rm (nI w) τ) (PO t n p c d σ τ) := by
  have hn := h.1.2.1.1.1
  unfold f_X3_readsSum_2 f_X12_readSum
  refine E2.bind (j_product hN hw hR h (by omega)) ?_
  rintro ⟨v, σ1⟩ τ1 hP
  rw [e2_bl]
  refine j_loop hN hn hP ?_ ?_
  · intro k3 σ2 τ2 hF
    dsimp only
    rw [m_sumSB hF.1]
    unfold s_X3_readsSum_2_h8
    refine ⟨?_, rfl⟩
    by_cases c1 : σ2 2 4 ≤ k3
    · rw [if_pos c1]
    · rw [if_neg c1, if_pos rfl]
  · intro k p2 c2 σ2 τ2 hE hk
    dsimp only
    have hlt := tk_lt t n p2 hE.1.1
    have htb := tb_le (t := t) hE.1.1
    have s5 := hE.1.2.2.2.2.1
    have g : ¬ (σ2 2 5 < 0 ∨ 27 ≤ (σ2 2 5).toNatClampNeg) := by rw [s5]; exact gdn hlt (by omega)
    rw [m_sumS hE.2.1 hE.2.2.1]
    unfold s_X3_readsSum_2_h8 f_X3_readsSum_2_b40 f_X12_readSum_b39
    by_cases hkn : n ≤ k
    · have k0 := tk_end (t := t) (n := n) (p := p2) (by omega)
      rw [if_pos (show σ2 2 4 ≤ nI k by rw [hE.1.2.1.2.1, nI_le (by omega) (by omega)]; exact hkn), if_neg (by omega), if_neg (by omega), e2_s]
      exact Or.inl ⟨rfl, rfl⟩
    · rw [if_neg (show ¬ σ2 2 4 ≤ nI k by rw [hE.1.2.1.2.1, nI_le (by omega) (by omega)]; exact hkn), if_neg (by decide), if_neg g]
      by_cases k9 : tk t n p2 = 7
      · rw [if_pos (show σ2 2 5 = 7 by rw [s5, k9]; rfl), if_pos k9, if_neg g, e2_bl]
        exact (j_op hN hE (by omega) (fun p c σ τ hh => j_product hN hw hR hh (by omega)) (by rw [s5, nI_cl (by omega), k9]; decide) ⟨by decide, by decide⟩ (by rw [s5, nI_cl (by omega), k9]; decide) (by rw [s5, nI_cl (by omega), k9]; decide)).imp (fun _ _ hh => Or.inr hh)
      · rw [if_neg (show ¬ σ2 2 5 = 7 by rw [s5, nI_lit (m := 7) (x := 7) (by omega) (by omega) rfl]; exact k9), if_neg k9, if_neg g]
        by_cases k10 : tk t n p2 = 8
        · rw [if_pos (show σ2 2 5 = 8 by rw [s5, k10]; rfl), if_pos k10, if_neg g, e2_bl]
          exact (j_op hN hE (by omega) (fun p c σ τ hh => j_product hN hw hR hh (by omega)) (by rw [s5, nI_cl (by omega), k10]; decide) ⟨by decide, by decide⟩ (by rw [s5, nI_cl (by omega), k10]; decide) (by rw [s5, nI_cl (by omega), k10]; decide)).imp (fun _ _ hh => Or.inr hh)
        · rw [if_neg (show ¬ σ2 2 5 = 8 by rw [s5, nI_lit (m := 8) (x := 8) (by omega) (by omega) rfl]; exact k10), if_neg k10, e2_s]
          exact Or.inl ⟨rfl, rfl⟩
