def PP.RK (N n : Nat) (t : Nat → Int32) (w : Nat) (rc : Int32 → Sg → Option (Int32 × Sg)) (rm : Int32 → Sg → Option Sg) : Prop := (∀ x τ, τ 0 20 ≠ 0 → rm x τ = some τ) ∧ ∀ p c d σ τ, ER t n p c d σ τ → d ≤ 5 * w → E2 (rc (nI w) σ) (rm (nI w) τ) (PO t n p c d σ τ)
theorem PP.m_mark1 {N n p i : Nat} {t : Nat → Int32} {τ : Sg} {x : Int32} (h : PSM t n p τ) (hb : τ 0 20 = 0) (h4 : 4 ≤ i) (h13 : i < 13) (hx : x = mkc i) (hk : tk t n p = i) : f_X12_mark N x τ = f_X12_stepOn N τ := by
  unfold f_X12_mark f_X12_mark_b20
  rw [if_pos hb, m_mkd h hb h4 h13 hx, Option.bind_some]
  dsimp only
  rw [if_neg (by rw [if_pos hk]; decide), if_pos hb]
  cases f_X12_stepOn N τ <;> rfl
theorem PP.m_mark0 {N n p i : Nat} {t : Nat → Int32} {τ : Sg} {x : Int32} (h : PSM t n p τ) (hb : τ 0 20 = 0) (h4 : 4 ≤ i) (h13 : i < 13) (hx : x = mkc i) (hk : tk t n p ≠ i) : f_X12_mark N x τ = f_X12_wrong N 1 τ := by
  unfold f_X12_mark f_X12_mark_b20
  rw [if_pos hb, m_mkd h hb h4 h13 hx, Option.bind_some]
  dsimp only
  rw [if_pos (by rw [if_neg hk]), m_wrong hb, Option.bind_some, if_neg]
  rw [wr_e, upd_n (by decide), wr_e, upd_e]; decide
theorem PP.e2_chk {n p c d : Nat} {t : Nat → Int32} {σ τ : Sg} {o : Option (Int32 × Sg)} {u : Option Sg} (h : E2 o u (PO t n p c d σ τ)) : E2 (o.bind fun q => if ¬ (q.1 = 0 ∨ q.1 = 1) then none else some (q.1, q.2)) u (PO t n p c d σ τ) := by
  obtain ⟨a, b, rfl, rfl, hP⟩ := h
  rw [Option.bind_some, if_neg, e2_s]
  · exact hP
  · rcases hP.2.2 with ⟨h, -⟩ | ⟨h, -⟩
    · exact fun x => x (Or.inl h)
    · exact fun x => x (Or.inr h)
theorem PP.j_nx {N n p c d : Nat} {t : Nat → Int32} {σ τ : Sg} (hN : 1000 < N) (h1 : PSC t n p σ) (h2 : PSM t n p τ) (hb : τ 0 20 = 0) (h4 : CR c d σ τ) (hk : tk t n p ≠ 0) : E2 (f_X3_advance_2 N σ) (f_X12_stepOn N τ) (fun σ' τ' => PSC t n (te t n p) σ' ∧ PSM t n (te t n p) τ' ∧ τ' 0 20 = 0 ∧ CR c d σ' τ' ∧ GC σ σ' ∧ GM τ τ') := by
  obtain ⟨k1, k2, k3, k4, k5⟩ := tk_ne h1.1 hk
  obtain ⟨σ', e1, hP, hf⟩ := c_advance (N := N) (e := te t n p) hN h1.2.1 k3 h1.2.2.2.1
  obtain ⟨τ', e2, hP', hf'⟩ := m_stepOn (N := N) (e := te t n p) hN h2.2.1 k3 h2.2.2.2.1
  refine ⟨σ', τ', e1, e2, hP, hP', ?_, h4.f (hf.1 9 (by decide)) (hf.1 10 (by decide)) (hf'.1 3 (by decide) (by decide)) (hf'.1 10 (by decide) (by decide)), hf.gc (by decide), hf'.gm (by decide)⟩
  rw [hf'.2 20 (by decide)]; exact hb
theorem PP.c_isv {N k : Nat} {σ : Sg} (hk : k < 27) : f_X8_isValue N (nI k) σ = some ((if tkI k < 0 ∧ -6 ≤ tkI k then 1 else 0), σ) := by
  unfold f_X8_isValue f_X8_isValue_b20
  rw [if_neg (gdn hk (by omega)), nI_cl (by omega), if_neg (gdc hk (by omega))]
  by_cases c1 : 0 ≤ tkI k
  · rw [if_pos c1, if_neg (fun h => by have := h.1; grind)]
  · rw [if_neg c1]
    by_cases c2 : tkI k < -6
    · rw [if_pos c2, if_neg (fun h => by have := h.2; grind)]
    · rw [if_neg c2, if_pos ⟨by grind, by grind⟩]
set_option maxRecDepth 20000 in
theorem PP.tab_v : ∀ k : Nat, k < 27 → isw k = true → (wh2 k = -1 ∧ ¬ (tkI k < 0 ∧ -6 ≤ tkI k)) ∨ (wh2 k ≠ -1 ∧ tkI k < 0 ∧ -6 ≤ tkI k ∧ cvt (-1 - wh2 k) = tkI k ∧ -28 ≤ -1 - wh2 k ∧ -6 ≤ -1 - wh2 k) := by decide +kernel
theorem PP.nI_lit {k : Nat} {m : Nat} (hk : k < 2147483648) (hm : m < 2147483648) {x : Int32} (hx : x = nI m) : nI k = x ↔ k = m := by rw [hx, nI_eq hk hm]
theorem PP.dn_v {x : Int32} {d : Nat} (h : -6 ≤ x) : dn x d = d + 1 := by unfold dn; rw [if_pos h]
theorem PP.dn_b {x : Int32} {d : Nat} (h : x < -7) : dn x (d + 2) = d + 1 := by
  unfold dn
  rw [if_neg (fun hh => absurd (Int32.lt_of_le_of_lt hh h) (by decide)), if_neg (fun hh => by subst hh; exact absurd h (by decide))]
  rfl
theorem PP.j_part {N n p c d w : Nat} {t : Nat → Int32} {rc : Int32 → Sg → Option (Int32 × Sg)} {rm : Int32 → Sg → Option Sg} {σ τ : Sg} (hN : 1000 < N) (hw : w ≤ 5) (hR : RK N n t (w + 1) rc rm) (h : ER t n p c d σ τ) (hd : d ≤ 5 * w + 5) : E2 (f_X3_readsPart_2 N rc (nI w) σ) (f_X12_readPart N rm (nI w) τ) (PO t n p c d σ τ) := by
  obtain ⟨h1, h2, hb, hC, hc⟩ := id h
  have hlt := tk_lt t n p h1.1
  have hn := h1.2.1.1.1
  have htb := tb_le (t := t) h1.1
  have s5 := h1.2.2.2.2.1
  have g := gdn hlt (show 27 ≤ 2147483648 by omega)
  unfold f_X3_readsPart_2 f_X12_readPart
  rw [s5, if_neg g, if_pos hb, h2.2.2.2.2.2.1]
  by_cases k5 : tk t n p = 5
  · have kn := tk_ne h1.1 (show tk t n p ≠ 0 by omega)
    rw [if_pos (show nI (tk t n p) = 5 by rw [k5]; rfl), if_neg (show ¬ mt (tk t n p) = 2 by rw [mt_2]; omega), if_neg (show ¬ mt (tk t n p) = 1 by rw [k5]; decide), m_mark1 (i := 5) (x := 40) h2 hb (by omega) (by omega) rfl k5]
    refine e2_chk ?_
    unfold f_X3_readsParenthesis_2
    refine E2.bind (j_next hN h (by omega)) ?_
    rintro σ1 τ1 ⟨hE, g1, g1'⟩
    rw [nI_s]
    refine E2.bind (hR.2 _ _ _ _ _ hE (by omega)) ?_
    rintro ⟨v, σ2⟩ τ2 ⟨g2, g2', hp2⟩
    dsimp only at g2 g2' hp2 ⊢
    rcases hp2 with ⟨rfl, hF⟩ | ⟨rfl, p', c', q1, q2, hE2⟩
    · rw [if_pos rfl, m_markB hF.1, Option.bind_some, e2_s]
      exact ⟨g1.tr g2, g1'.tr g2', Or.inl ⟨rfl, hF⟩⟩
    · have hlt' := tk_lt t n p' hE2.1.1
      have htb' := tb_le (t := t) hE2.1.1
      have s5' := hE2.1.2.2.2.2.1
      rw [if_neg (by decide), if_neg (by rw [s5']; exact gdn hlt' (by omega))]
      by_cases k6 : tk t n p' = 6
      · have kn' := tk_ne hE2.1.1 (show tk t n p' ≠ 0 by omega)
        rw [if_pos (show σ2 2 5 = 6 by rw [s5', k6]; rfl), m_mark1 (i := 6) (x := 41) hE2.2.1 hE2.2.2.1 (by omega) (by omega) rfl k6]
        refine E2.bind (j_next hN hE2 (by omega)) ?_
        rintro σ3 τ3 ⟨hE3, g3, g3'⟩
        rw [e2_s]
        exact ⟨(g1.tr g2).tr g3, (g1'.tr g2').tr g3', Or.inr ⟨rfl, te t n p', c', by omega, by omega, hE3⟩⟩
      · rw [if_neg (show ¬ σ2 2 5 = 6 by rw [s5', nI_lit (m := 6) (x := 6) (by omega) (by omega) rfl]; exact k6), m_mark0 (i := 6) (x := 41) hE2.2.1 hE2.2.2.1 (by omega) (by omega) rfl k6]
        obtain ⟨σ', τ', e1, e2, hF, hg, hg'⟩ := j_fail (N := N) (x := 1) (by decide) hE2.1 hE2.2.1 hE2.2.2.1 (show c' ≤ 700 by have := hE2.2.2.2.2; omega) hE2.2.2.2.1.1
        rw [e1, e2, Option.bind_some, Option.bind_some]
        dsimp only
        rw [if_neg (by decide), e2_s]
        exact ⟨(g1.tr g2).tr hg, (g1'.tr g2').tr hg', Or.inl ⟨rfl, hF⟩⟩
  rw [if_neg (show ¬ nI (tk t n p) = 5 by rw [nI_lit (m := 5) (x := 5) (by omega) (by omega) rfl]; exact k5)]
  by_cases hwd : isw (tk t n p) = true
  · have hi := hwd
    unfold isw at hi
    rw [decide_eq_true_eq] at hi
    have kn := tk_ne h1.1 (show tk t n p ≠ 0 by omega)
    have s8 : ¬ σ 2 8 = 0 := by rw [h1.2.2.2.2.2.1, if_pos hwd]; decide
    rw [if_neg s8, if_neg g, if_neg (show ¬ mt (tk t n p) = 2 by rw [mt_2]; omega), if_pos (mt_1.mpr hwd), m_which2 hN h2 hb, c_isv hlt, Option.bind_some, Option.bind_some]
    dsimp only
    rw [e2_br]
    unfold f_X3_readsPart_2_b39 f_X3_readsPart_2_b59 f_X3_readsPart_2_b87 f_X12_readPart_b56
    rcases tab_v _ hlt hwd with ⟨v1, v2⟩ | ⟨v1, v2, v3, v4, v5, v6⟩
    · rw [if_pos (show (if tkI (tk t n p) < 0 ∧ -6 ≤ tkI (tk t n p) then (1 : Int32) else 0) = 0 by rw [if_neg v2]), if_pos v1]
      obtain ⟨σ', τ', e1, e2, hF, hg, hg'⟩ := j_fail (N := N) (x := 3) (by decide) h1 h2 hb (show c ≤ 700 by omega) hC.1
      rw [e1, e2, Option.bind_some, Option.bind_some, m_layB hF.1, Option.bind_some, if_neg hF.1]
      dsimp only
      rw [if_neg (by decide), e2_s]
      exact ⟨hg, hg', Or.inl ⟨rfl, hF⟩⟩
    · rw [if_neg (show ¬ (if tkI (tk t n p) < 0 ∧ -6 ≤ tkI (tk t n p) then (1 : Int32) else 0) = 0 by rw [if_pos ⟨v2, v3⟩]; decide), if_neg v1, if_neg s8, if_neg s8, s5, if_neg g, nI_cl (by omega)]
      obtain ⟨σ', τ', e1, e2, hC', f1, f2, hg, hg'⟩ := j_lay (N := N) hC (by omega) hb v4 ⟨v5, Or.inr v6⟩ (Int32.le_trans (by decide) v3) (fun _ => by omega) (fun hh => by rw [hh] at v3; exact absurd v3 (by decide)) (fun hh => absurd (Int32.lt_of_le_of_lt v3 hh) (by decide))
      have b' : τ' 0 20 = 0 := by rw [f2 0 (by decide) (by decide)]; exact hb
      rw [e1, e2, Option.bind_some, Option.bind_some, if_pos b']
      refine E2.bind (j_nx hN (h1.fr (f1 1 (by decide) (by decide)) (f1 2 (by decide) (by decide))) (h2.fr (f2 0 (by decide) (by decide)) (f2 12 (by decide) (by decide))) b' hC' (by omega)) ?_
      rintro σ3 τ3 ⟨a1, a2, a3, a4, a5, a6⟩
      rw [e2_s]
      rw [dn_v v3] at a4
      exact ⟨hg.tr a5, hg'.tr a6, Or.inr ⟨rfl, te t n p, c + 1, by omega, by omega, a1, a2, a3, a4, by omega⟩⟩
  · have s8 : σ 2 8 = 0 := by rw [h1.2.2.2.2.2.1, if_neg hwd]
    unfold f_X3_readsPart_2_b39 f_X3_readsPart_2_b59 f_X3_readsPart_2_b87
    rw [if_pos s8, if_pos s8]
    by_cases k2 : tk t n p = 2
    · have kn := tk_ne h1.1 (show tk t n p ≠ 0 by omega)
      rw [if_pos (mt_2.mpr k2)]
      unfold f_X12_readNumber f_X12_readNumber_b18
      obtain ⟨r, q, e1, e2, hj⟩ := j_num (N := N) (x := 0) (y := 9999) h1 h2 hb (show c ≤ 700 by omega) hC.1
      rw [e1, e2, Option.bind_some, Option.bind_some]
      rcases hj with ⟨r1, r2, hF, hg, hg'⟩ | ⟨rfl, rfl, -, e10, v1, v2⟩
      · rw [if_pos r1]
        show E2 _ (((if (q.2 0 20) = 0 then _ else _ : Option (Int32 × Sg))).bind _) _
        rw [if_neg hF.1, Option.bind_some]
        dsimp only
        rw [m_layB hF.1, Option.bind_some, e2_s]
        exact ⟨hg, hg', Or.inl ⟨rfl, hF⟩⟩
      · dsimp only
        rw [if_neg (by decide), if_pos s8]
        show E2 _ (((if (τ 0 20) = 0 then _ else _ : Option (Int32 × Sg))).bind _) _
        rw [if_pos hb]
        obtain ⟨τ1, e3, hP', hf'⟩ := m_stepOn (N := N) (e := te t n p) hN h2.2.1 kn.2.2.1 h2.2.2.2.1
        rw [e3, Option.bind_some, Option.bind_some]
        dsimp only
        have b' : τ1 0 20 = 0 := by rw [hf'.2 20 (by decide)]; exact hb
        have v3 : (-6 : Int32) ≤ τ 0 17 := Int32.le_trans (by decide) v1
        obtain ⟨σ', τ', e4, e5, hC', f1, f2, hg, hg'⟩ := j_lay (N := N) (x := σ 2 10) (y := τ 0 17) (hC.f rfl rfl (hf'.1 3 (by decide) (by decide)) (hf'.1 10 (by decide) (by decide))) (by omega) b' (by rw [e10, cvt_n v3]) ⟨Int32.le_trans (by decide) v3, Or.inr v3⟩ (by rw [e10]; exact Int32.le_trans (by decide) v3) (fun _ => by omega) (fun hh => by rw [e10] at hh; rw [hh] at v3; exact absurd v3 (by decide)) (fun hh => by rw [e10] at hh; exact absurd (Int32.lt_of_le_of_lt v3 hh) (by decide))
        rw [e4, e5, Option.bind_some, Option.bind_some]
        have h1' := h1.fr (f1 1 (by decide) (by decide)) (f1 2 (by decide) (by decide))
        obtain ⟨σ3, e6, hP, hf⟩ := c_advance (N := N) (e := te t n p) hN h1'.2.1 kn.2.2.1 h1'.2.2.2.1
        rw [e6, Option.bind_some, e2_s]
        rw [e10, dn_v v3] at hC'
        refine ⟨hg.tr (hf.gc (by decide)), (hf'.gm (by decide)).tr hg', Or.inr ⟨rfl, te t n p, c + 1, by omega, by omega, hP, hP'.fr (f2 0 (by decide) (by decide)) (f2 12 (by decide) (by decide)), ?_, hC'.f (hf.1 9 (by decide)) (hf.1 10 (by decide)) rfl rfl, by omega⟩⟩
        rw [f2 0 (by decide) (by decide)]; exact b'
    · rw [if_neg (fun hh => k2 (mt_2.mp hh)), if_neg (fun hh => hwd (mt_1.mp hh)), m_mark0 (i := 5) (x := 40) h2 hb (by omega) (by omega) rfl k5]
      unfold f_X3_isNumber_2
      rw [s5, if_neg g, if_neg (show ¬ nI (tk t n p) = 2 by rw [nI_lit (m := 2) (x := 2) (by omega) (by omega) rfl]; exact k2)]
      obtain ⟨σ', τ', e1, e2, hF, hg, hg'⟩ := j_fail (N := N) (x := 1) (by decide) h1 h2 hb (show c ≤ 700 by omega) hC.1
      rw [e1, e2, Option.bind_some, Option.bind_some, hR.1 _ _ hF.1, Option.bind_some, m_markB hF.1, Option.bind_some]
      dsimp only
      rw [if_neg (by decide), Option.bind_some]
      dsimp only
      rw [if_pos rfl, e2_s]
      exact ⟨hg, hg', Or.inl ⟨rfl, hF⟩⟩
