/-! ===== the reference's tick ===== -/
/-- cells of P may change, of the object (cell 0) the places of Q -/
def PP.FM (P Q : List Nat) (τ τ' : Sg) : Prop := (∀ c, c ≠ 0 → c ∉ P → τ' c = τ c) ∧ ∀ j, j ∉ Q → τ' 0 j = τ 0 j
theorem PP.FM.refl (P Q : List Nat) (τ : Sg) : FM P Q τ τ := ⟨fun _ _ _ => rfl, fun _ _ => rfl⟩
theorem PP.FM.tr {P Q : List Nat} {a b c : Sg} (h : FM P Q a b) (k : FM P Q b c) : FM P Q a c := ⟨fun x h0 hx => (k.1 x h0 hx).trans (h.1 x h0 hx), fun x hx => (k.2 x hx).trans (h.2 x hx)⟩
theorem PP.FM.mo {P Q P' Q' : List Nat} {a b : Sg} (h : FM P Q a b) (d : ∀ c, c ∈ P → c ∈ P') (d' : ∀ c, c ∈ Q → c ∈ Q') : FM P' Q' a b := ⟨fun x h0 hx => h.1 x h0 (fun y => hx (d x y)), fun x hx => h.2 x (fun y => hx (d' x y))⟩
theorem PP.FM.w {P Q : List Nat} {a b : Sg} {k j : Nat} {v : Int32} (h : FM P Q a b) (d : k ∈ P) (d0 : k ≠ 0) : FM P Q a (wr b k j v) := ⟨fun x h0 hx => (wr_n (fun e : x = k => hx (by rw [e]; exact d))).trans (h.1 x h0 hx), fun x hx => by rw [wr_n (fun e => d0 e.symm)]; exact h.2 x hx⟩
theorem PP.FM.w0 {P Q : List Nat} {a b : Sg} {j : Nat} {v : Int32} (h : FM P Q a b) (d : j ∈ Q) : FM P Q a (wr b 0 j v) := ⟨fun x h0 hx => (wr_n h0).trans (h.1 x h0 hx), fun x hx => by rw [wr_e, upd_n (fun e => hx (by rw [e]; exact d))]; exact h.2 x hx⟩
theorem PP.FM.wR {P Q : List Nat} {a b : Sg} {k : Nat} {f : Nat → Int32} (h : FM P Q a b) (d : k ∈ P) (d0 : k ≠ 0) : FM P Q a (wrR b k f) := ⟨fun x h0 hx => (wrR_n (fun e : x = k => hx (by rw [e]; exact d))).trans (h.1 x h0 hx), fun x hx => by rw [wrR_n (fun e => d0 e.symm)]; exact h.2 x hx⟩
def PP.cvt (c : Int32) : Int32 := if c = -28 then -7 else if c = -27 then -8 else if c = -26 then -9 else if c = -24 then -10 else if c = -25 then -11 else if c = -20 then -12 else if c = -21 then -13 else if c = -22 then -14 else if c = -23 then -15 else c
def PP.LM (F : Nat) (L τ : Sg) : Prop := F ≤ 9 ∧ τ 3 0 = nI F ∧ τ 3 1 = L 0 1 ∧ τ 3 2 = L 0 2 ∧ τ 3 3 = L 0 3 ∧ τ 3 4 = L 0 4 ∧ (∀ i, i < F → τ 5 i = L 1 i ∧ τ 6 i = L 2 i ∧ τ 8 i = L 3 i ∧ τ 4 i = L 5 i) ∧ (∀ i, i < (L 0 3).toNatClampNeg → τ 9 i = L 4 i) ∧ (∀ i, i < (L 0 4).toNatClampNeg → cvt (τ 10 i) = L 6 i ∧ -28 ≤ τ 10 i ∧ (τ 10 i ≤ -20 ∨ -6 ≤ τ 10 i))
theorem PP.LM.fr {F : Nat} {L τ τ' : Sg} {P Q : List Nat} (h : LM F L τ) (f : FM P Q τ τ') (d : ∀ c, c ∈ [3, 4, 5, 6, 8, 9, 10] → c ∉ P) : LM F L τ' := by
  unfold LM at h ⊢
  rw [f.1 3 (by decide) (d 3 (by simp)), f.1 4 (by decide) (d 4 (by simp)), f.1 5 (by decide) (d 5 (by simp)), f.1 6 (by decide) (d 6 (by simp)), f.1 8 (by decide) (d 8 (by simp)), f.1 9 (by decide) (d 9 (by simp)), f.1 10 (by decide) (d 10 (by simp))]
  exact h
def PP.SM (F : Nat) (s τ : Sg) : Prop := τ 0 28 = s 0 0 ∧ τ 0 29 = s 0 1 ∧ ∀ i, i < F → τ 13 i = s 1 i ∧ τ 14 i = s 2 i ∧ τ 15 i = s 3 i ∧ τ 16 i = s 4 i
theorem PP.SM.fr {F : Nat} {s τ τ' : Sg} {P Q : List Nat} (h : SM F s τ) (f : FM P Q τ τ') (d : ∀ c, c ∈ [13, 14, 15, 16] → c ∉ P) (d' : ∀ c, c ∈ [28, 29] → c ∉ Q) : SM F s τ' := by
  unfold SM at h ⊢
  rw [f.1 13 (by decide) (d 13 (by simp)), f.1 14 (by decide) (d 14 (by simp)), f.1 15 (by decide) (d 15 (by simp)), f.1 16 (by decide) (d 16 (by simp)), f.2 28 (d' 28 (by simp)), f.2 29 (d' 29 (by simp))]
  exact h
theorem PP.nI_div {a b : Nat} (ha : a < 2147483648) (hb : b < 2147483648) : nI a / nI b = nI (a / b) := by
  rw [← Int32.toInt_inj, Int32.toInt_div, nI_toInt ha, nI_toInt hb, nI_toInt (Nat.lt_of_le_of_lt (Nat.div_le_self a b) ha)]
  rw [Int.tdiv_eq_ediv_of_nonneg (by omega)]
  have h1 : (0 : Int) ≤ (a : Int) / (b : Int) := Int.ediv_nonneg (by omega) (by omega)
  have h2 : (a : Int) / (b : Int) ≤ a := Int.ediv_le_self _ (by omega)
  rw [Int.bmod_eq_of_le (by omega) (by omega)]
  exact (Int.natCast_ediv a b).symm
theorem PP.nI_mod {a b : Nat} (ha : a < 2147483648) (hb : b < 2147483648) : nI a - nI a / nI b * nI b = nI (a % b) := by
  rw [nI_div ha hb, nI_mul]
  have h : a = a / b * b + a % b := by rw [Nat.mul_comm]; exact (Nat.div_add_mod a b).symm
  have e : nI a = nI (a / b * b) + nI (a % b) := by rw [nI_add, ← h]
  rw [e]; grind
/-- the mist that is: one that is set, or the tick's -/
def PP.Mi (L : Sg) (mn t : Int32) : Int32 := if mn = -1 then mis L t else mn
theorem PP.mis_ok {F : Nat} {L : Sg} {t : Int32} (hO : LandOK F L) (h0 : 0 ≤ t) : ∃ m, m < 10 ∧ mis L t = nI m := by
  obtain ⟨h3, h4⟩ := hO.2.2.2.2.1
  have h8 := hO.2.2.2.2.2.2.2.1
  obtain ⟨b, hb, e⟩ := nI_of h3
  obtain ⟨a, ha, rfl⟩ := nI_of h0
  unfold mis
  by_cases hz : L 0 3 = 0
  · rw [if_pos hz]; exact ⟨0, by omega, rfl⟩
  · rw [if_neg hz, e, nI_mod ha hb]
    rw [e] at hz h8
    have hb0 : b ≠ 0 := fun h => hz (by rw [h]; rfl)
    have hlt : a % b < b := Nat.mod_lt _ (by omega)
    rw [nI_cl (by omega)] at h8
    rw [nI_cl (by omega)]
    obtain ⟨h5, h6⟩ := h8 _ hlt
    rw [show (9 : Int32) = nI 9 from rfl] at h6
    obtain ⟨m, hm, em⟩ := nI_of h5
    rw [em] at h6 ⊢
    exact ⟨m, by rw [nI_le hm (by omega)] at h6; omega, rfl⟩
theorem PP.m_mist {N F : Nat} {L τ : Sg} (hO : LandOK F L) (hL : LM F L τ) (h0 : 0 ≤ τ 0 28) : f_X12_mistOf N τ = some (Mi L (τ 0 32) (τ 0 28), τ) := by
  obtain ⟨h3, h4⟩ := hO.2.2.2.2.1
  have l3 := hL.2.2.2.2.1
  have lm := hL.2.2.2.2.2.2.2.1
  obtain ⟨b, hb, e⟩ := nI_of h3
  obtain ⟨a, ha, e28⟩ := nI_of h0
  unfold f_X12_mistOf Mi mis
  by_cases hm : τ 0 32 = -1
  · rw [if_pos hm, if_pos hm, l3, e28]
    by_cases hz : L 0 3 = 0
    · rw [if_pos hz, if_pos hz]
    · rw [if_neg hz, if_neg hz, if_neg hz, e, nI_mod ha hb]
      rw [e] at hz lm h4
      have hb0 : b ≠ 0 := fun h => hz (by rw [h]; rfl)
      have hlt : a % b < b := Nat.mod_lt _ (by omega)
      rw [show (8 : Int32) = nI 8 from rfl, nI_le hb (by omega)] at h4
      rw [nI_cl (by omega)] at lm
      simp (disch := omega) only [nI_cl, nI_nn, show ¬ 16 ≤ a % b by omega, or_self, if_false, lm _ hlt]
  · rw [if_neg hm, if_neg hm]
theorem PP.m_top {N F k : Nat} {L τ : Sg} {t : Nat → Int32} (hF : F ≤ 9) (ht : ∀ k, k < F → τ 6 k + τ 16 k = t k) (hk : k < F) : f_X12_topOf N (nI k) τ = some (t k, τ) := by
  unfold f_X12_topOf
  simp (disch := omega) only [nI_cl, nI_nn, show ¬ 9 ≤ k by omega, show ¬ 18 ≤ k by omega, or_self, if_false, ht k hk]
theorem PP.m_btw {N F a b k : Nat} {L τ : Sg} (hL : LM F L τ) (ha : a < F) (hb : b < F) (hk : k < F) : f_X12_isBetween N (nI k) (nI a) (nI b) τ = some ((if L 1 (lo L a b) < L 1 k ∧ L 1 k < L 1 (hi L a b) then 1 else 0), τ) := by
  obtain ⟨hF, l0, l1, l2, l3, l4, lx, lm, lc⟩ := hL
  unfold f_X12_isBetween f_X12_isBetween_b52 lo hi
  simp (disch := omega) only [nI_cl, nI_nn, show ¬ 18 ≤ k by omega, show ¬ 18 ≤ a by omega, show ¬ 18 ≤ b by omega, or_self, if_false, (lx k hk).1, (lx a ha).1, (lx b hb).1]
  by_cases hab : L 1 a < L 1 b
  · have e1 : ¬ L 1 b < L 1 a := by grind
    simp only [hab, e1, if_true, if_false]
    by_cases c1 : L 1 k ≤ L 1 a
    · have : ¬ L 1 a < L 1 k := by grind
      simp [c1, this]
    · have h1 : L 1 a < L 1 k := by grind
      by_cases c2 : L 1 b ≤ L 1 k
      · have : ¬ L 1 k < L 1 b := by grind
        simp [c1, c2, this]
      · have h2 : L 1 k < L 1 b := by grind
        simp [c1, c2, h1, h2]
  · have e3 : (if L 1 b < L 1 a then L 1 b else L 1 a) = L 1 b := by split <;> grind
    simp only [hab, e3, if_true, if_false]
    by_cases c1 : L 1 k ≤ L 1 b
    · have : ¬ L 1 b < L 1 k := by grind
      simp [c1, this]
    · have h1 : L 1 b < L 1 k := by grind
      by_cases c2 : L 1 a ≤ L 1 k
      · have : ¬ L 1 k < L 1 a := by grind
        simp [c1, c2, this]
      · have h2 : L 1 k < L 1 a := by grind
        simp [c1, c2, h1, h2]
theorem PP.m_blw {N F a b k : Nat} {L τ : Sg} {t : Nat → Int32} (hL : LM F L τ) (ht : ∀ k, k < F → τ 6 k + τ 16 k = t k) (ha : a < F) (hb : b < F) (hk : k < F) : f_X12_isBelow N (nI k) (nI a) (nI b) τ = some ((if t k * (L 1 (hi L a b) - L 1 (lo L a b)) < t (lo L a b) * (L 1 (hi L a b) - L 1 k) + t (hi L a b) * (L 1 k - L 1 (lo L a b)) then 1 else 0), τ) := by
  obtain ⟨hF, l0, l1, l2, l3, l4, lx, lm, lc⟩ := hL
  unfold f_X12_isBelow f_X12_isBelow_b20 f_X12_isBelow_b42 lo hi
  simp (disch := omega) only [nI_cl, nI_nn, show ¬ 18 ≤ k by omega, show ¬ 18 ≤ a by omega, show ¬ 18 ≤ b by omega, or_self, if_false, (lx a ha).1, (lx b hb).1]
  by_cases hab : L 1 a < L 1 b
  · have e2 : ¬ L 1 b ≤ L 1 a := by grind
    simp only [hab, e2, if_true, if_false, m_top (L := L) hF ht hk, m_top (L := L) hF ht ha, m_top (L := L) hF ht hb, Option.bind_some, (lx k hk).1, (lx a ha).1, (lx b hb).1]
    by_cases c3 : t a * (L 1 b - L 1 k) + t b * (L 1 k - L 1 a) ≤ t k * (L 1 b - L 1 a)
    · rw [if_pos c3, if_neg (by grind)]
    · rw [if_neg c3, if_pos (by grind)]
  · have e2 : L 1 b ≤ L 1 a := by grind
    simp only [hab, e2, if_true, if_false, m_top (L := L) hF ht hk, m_top (L := L) hF ht ha, m_top (L := L) hF ht hb, Option.bind_some, (lx k hk).1, (lx a ha).1, (lx b hb).1]
    by_cases c3 : t b * (L 1 a - L 1 k) + t a * (L 1 k - L 1 b) ≤ t k * (L 1 a - L 1 b)
    · rw [if_pos c3, if_neg (by grind)]
    · rw [if_neg c3, if_pos (by grind)]
theorem PP.m_way {N F a b : Nat} {L τ : Sg} {t : Nat → Int32} (hN : 20 < N) (hL : LM F L τ) (ht : ∀ k, k < F → τ 6 k + τ 16 k = t k) (ha : a < F) (hb : b < F) : f_X12_inTheWay N (nI a) (nI b) τ = some (way F L t a b, τ) := by
  have hF := hL.1
  have l0 := hL.2.1
  unfold f_X12_inTheWay
  rw [← ev_eq, ev_b]
  refine ev_for (fun k q => q = (mk (inW L t a b) k, nI k, τ)) F N _ (by omega) rfl ?_ ?_
  · rintro k _ hk rfl
    refine Ev.imp (P := fun r => r.1 = 0 ∧ _) ?_ (fun r h => Or.inl h)
    unfold s_X12_inTheWay_h5 f_X12_inTheWay_b46 f_X12_inTheWay_b47
    dsimp only
    simp (disch := omega) only [l0, nI_le, show ¬ F ≤ k by omega, if_false, nI_s, m_btw hL ha hb hk, Option.bind_some]
    rw [mk_s]
    have hw : inW L t a b k = true ↔ (L 1 (lo L a b) < L 1 k ∧ L 1 k < L 1 (hi L a b)) ∧ ¬ t k * (L 1 (hi L a b) - L 1 (lo L a b)) < t (lo L a b) * (L 1 (hi L a b) - L 1 k) + t (hi L a b) * (L 1 k - L 1 (lo L a b)) := by
      unfold inW
      rw [decide_eq_true_eq, and_assoc]
    by_cases c1 : L 1 (lo L a b) < L 1 k ∧ L 1 k < L 1 (hi L a b)
    · rw [if_pos c1, if_neg (by decide), m_blw hL ht ha hb hk, Option.bind_some]
      dsimp only
      by_cases c2 : t k * (L 1 (hi L a b) - L 1 (lo L a b)) < t (lo L a b) * (L 1 (hi L a b) - L 1 k) + t (hi L a b) * (L 1 k - L 1 (lo L a b))
      · have : ¬ inW L t a b k = true := fun h => (hw.mp h).2 c2
        rw [if_pos c2, if_neg (by decide), if_neg this]
        simp [bd, ev_s]
      · rw [if_neg c2, if_pos rfl, if_pos (hw.mpr ⟨c1, c2⟩)]
        simp [bd, ev_s]
    · have : ¬ inW L t a b k = true := fun h => c1 (hw.mp h).1
      rw [if_neg c1, if_pos rfl, if_neg this]
      simp [bd, ev_s]
  · rintro _ rfl
    unfold s_X12_inTheWay_h5
    dsimp only
    simp (disch := omega) only [l0, nI_le, Nat.le_refl, if_true, ev_s]
    exact ⟨by decide, by trivial⟩
theorem PP.aw_d (L : Sg) (a b : Nat) : aw L a b = (if 0 ≤ L 1 a - L 1 b then L 1 a - L 1 b else 0 - (L 1 a - L 1 b)) := rfl
theorem PP.m_sight {N F a b : Nat} {L τ : Sg} {t : Nat → Int32} {m : Int32} (hN : 20 < N) (hO : LandOK F L) (hL : LM F L τ) (ht : ∀ k, k < F → τ 6 k + τ 16 k = t k) (h0 : 0 ≤ τ 0 28) (hm : Mi L (τ 0 32) (τ 0 28) = m) (ha : a < F) (hb : b < F) : f_X12_inSight N (nI a) (nI b) τ = some ((if sgt F L t m a b = true then 1 else 0), τ) := by
  have hF := hO.1
  have lx := hL.2.2.2.2.2.2.1
  unfold f_X12_inSight f_X12_inSight_b51 sgt
  simp (disch := omega) only [nI_eq, nI_cl, nI_nn, show ¬ 18 ≤ a by omega, show ¬ 18 ≤ b by omega, or_self, if_false, m_mist hO hL h0, hm, Option.bind_some, m_way hN hL ht ha hb, (lx a ha).1, (lx b hb).1, hL.2.2.1, decide_eq_true_eq]
  rw [← aw_d]
  by_cases c1 : a = b
  · simp [c1]
  · by_cases c2 : L 0 1 - 9 * m < aw L a b
    · have : ¬ aw L a b ≤ L 0 1 - 9 * m := by grind
      simp [c1, c2, this]
    · have : aw L a b ≤ L 0 1 - 9 * m := by grind
      by_cases c3 : way F L t a b = 0 <;> simp [c1, c2, c3, this]
theorem PP.m_sees {N F a : Nat} {L τ : Sg} {t : Nat → Int32} {m : Int32} (hN : 20 < N) (hO : LandOK F L) (hL : LM F L τ) (ht : ∀ k, k < F → τ 6 k + τ 16 k = t k) (h0 : 0 ≤ τ 0 28) (hm : Mi L (τ 0 32) (τ 0 28) = m) (ha : a < F) : f_X12_seesOf N (nI a) τ = some (sees F L t m a, τ) := by
  have hF := hO.1
  have l0 := hL.2.1
  unfold f_X12_seesOf
  rw [← ev_eq, ev_b]
  refine ev_for (fun k q => q = (mk (sgt F L t m a) k, nI k, τ)) F N _ (by omega) rfl ?_ ?_
  · rintro k _ hk rfl
    refine Ev.imp (P := fun r => r.1 = 0 ∧ _) ?_ (fun r h => Or.inl h)
    unfold s_X12_seesOf_h4 f_X12_seesOf_b31
    dsimp only
    simp (disch := omega) only [l0, nI_le, show ¬ F ≤ k by omega, if_false, nI_s, m_sight hN hO hL ht h0 hm ha hk, Option.bind_some]
    rw [mk_s]
    by_cases c : sgt F L t m a k = true <;> simp [c, bd, ev_s]
  · rintro _ rfl
    unfold s_X12_seesOf_h4
    dsimp only
    simp (disch := omega) only [l0, nI_le, Nat.le_refl, if_true, ev_s]
    exact ⟨by decide, by trivial⟩
theorem PP.m_reckon {N : Nat} {o a b : Int32} {τ : Sg} (h1 : -27 ≤ o) (h2 : o ≤ -20) : f_X12_reckon N o a b τ = some (jnd (cvt o) a b, τ) := by
  unfold f_X12_reckon f_X12_reckon_b112 f_X12_reckon_b102
  have hc : o = -27 ∨ o = -26 ∨ o = -25 ∨ o = -24 ∨ o = -23 ∨ o = -22 ∨ o = -21 ∨ o = -20 := by grind
  rcases hc with rfl | rfl | rfl | rfl | rfl | rfl | rfl | rfl <;> unfold cvt jnd <;> simp
  · by_cases ha : a = 0 <;> by_cases hb : b = 0 <;> simp [ha, hb]
  · by_cases ha : a = 0 <;> by_cases hb : b = 0 <;> simp [ha, hb]
  · split <;> simp_all
  · split
    · rw [if_neg (by grind)]
    · rw [if_pos (by grind)]
  · split <;> simp_all
theorem PP.cvt_hi {c : Int32} (h : -6 ≤ c) : cvt c = c := by unfold cvt; grind
theorem PP.cvt_lo {c : Int32} (h : c ≤ -20) (h' : -28 ≤ c) (hn : c ≠ -28) : cvt c < -7 := by
  have hc : c = -27 ∨ c = -26 ∨ c = -25 ∨ c = -24 ∨ c = -23 ∨ c = -22 ∨ c = -21 ∨ c = -20 := by grind
  rcases hc with rfl | rfl | rfl | rfl | rfl | rfl | rfl | rfl <;> decide
theorem PP.m_value {N F len : Nat} {L τ : Sg} {v : Nat → Int32} (hN : 1000 < N) (hR : RuleOK len (L 6)) (h4 : L 0 4 = nI len) (hL : LM F L τ) (hv : ∀ i, i < 6 → τ 18 i = v i) (h0 : 0 < len) : Ev (f_X12_valueNow N τ) (fun z => z.1 = (evS (L 6) v len).2 0 ∧ FM [19] [] τ z.2) := by
  obtain ⟨hF, l0, l1, l2, l3, l9, lx, lm, lc⟩ := hL
  obtain ⟨hlen, hR⟩ := hR
  rw [h4] at l9 lc
  rw [nI_cl (by omega)] at lc
  unfold f_X12_valueNow
  rw [ev_b]
  refine ev_for (fun k q => k ≤ len ∧ q.1 = nI (dp (L 6) k) ∧ q.2.1 = nI k ∧ FM [19] [] τ q.2.2 ∧ (∀ j, j < dp (L 6) k → q.2.2 19 j = (evS (L 6) v k).2 j) ∧ dp (L 6) k ≤ 31 ∧ (0 < k → 0 < dp (L 6) k)) len N _ (by omega) ⟨by omega, rfl, rfl, FM.refl _ _ _, by intro j hj; exact absurd hj (by simp [dp]), by simp [dp], by intro h; exact absurd h (by omega)⟩ ?_ ?_
  · rintro k ⟨a, b, σ'⟩ hk ⟨_, e1, e2, hf, hi, hd, hp⟩
    dsimp only at e1 e2 hf hi
    subst e1 e2
    obtain ⟨r1, r2, r3, r4⟩ := hR k hk
    obtain ⟨q1, q2, q3⟩ := lc k hk
    have e18 := hf.1 18 (by decide) (by decide)
    have e3 := hf.1 3 (by decide) (by decide)
    have e10 := hf.1 10 (by decide) (by decide)
    refine Ev.imp (P := fun r => r.1 = 0 ∧ _) ?_ (fun r h => Or.inl h)
    generalize hP : (fun r : Nat × Int32 × Int32 × Sg => _ ∧ _) = P
    unfold s_X12_valueNow_h4 f_X12_valueNow_b48 f_X12_valueNow_b84 f_X12_valueNow_b117
    simp (disch := omega) only [e18, e3, e10, l9, nI_le, nI_cl, nI_nn, show ¬ len ≤ k by omega, show ¬ 1400 ≤ k by omega, or_self, if_false, ev_bd, nI_s]
    clear lx lm lc l0 l1 l2 l3 hR
    by_cases c6 : -6 ≤ τ 10 k
    · rw [cvt_hi c6] at q1
      have c6' : -6 ≤ L 6 k := q1 ▸ c6
      have r2 := r2 c6'
      have hlt : ¬ τ 10 k ≤ -20 := by grind
      have key : ∀ x : Int32, x = (if 0 ≤ L 6 k then L 6 k else v (-1 - L 6 k).toNatClampNeg) → P (0, nI (dp (L 6) k + 1), nI (k + 1), wr σ' 19 (dp (L 6) k) x) := by
        intro x hx
        subst hP
        refine ⟨rfl, by omega, ?_, rfl, hf.w (by decide) (by decide), ?_, ?_, ?_⟩
        · rw [dp_s, if_pos c6']
        · intro j hj
          rw [dp_s, if_pos c6'] at hj
          dsimp only
          rw [evS_s, if_pos c6', wr_e]
          by_cases hjd : j = dp (L 6) k
          · subst hjd; simp only [upd_e]; exact hx
          · simp only [upd_n hjd]; exact hi j (by omega)
        · rw [dp_s, if_pos c6']; omega
        · intro _; rw [dp_s, if_pos c6']; omega
      rw [if_neg hlt, q1]
      by_cases cp : 0 ≤ L 6 k
      · have : ¬ L 6 k < 0 := by grind
        rw [if_neg this]
        simp (disch := omega) only [nI_cl, nI_nn, show ¬ 64 ≤ dp (L 6) k by omega, or_self, if_false, ev_bd, ev_s, nI_s]
        exact key _ (by rw [if_pos cp])
      · have : L 6 k < 0 := by grind
        obtain ⟨j, hj, ej⟩ := neg_cl c6' cp
        rw [if_pos this, ej]
        simp (disch := omega) only [nI_cl, nI_nn, show ¬ 64 ≤ dp (L 6) k by omega, show ¬ 6 ≤ j by omega, or_self, if_false, ev_bd, ev_s, nI_s, hv j hj]
        exact key _ (by rw [if_neg cp, ej, nI_cl (by omega)])
    · have hlt : τ 10 k ≤ -20 := by grind
      rw [if_pos hlt]
      by_cases c7 : τ 10 k = -28
      · have c7' : L 6 k = -7 := by rw [← q1, c7]; decide
        have c6' : ¬ -6 ≤ L 6 k := by rw [c7']; decide
        have r3 := r3 c7'
        rw [if_pos c7, nI_p r3]
        have key : ∀ x : Int32, x = (if (evS (L 6) v k).2 (dp (L 6) k - 1) = 0 then 1 else 0) → P (0, nI (dp (L 6) k), nI (k + 1), wr σ' 19 (dp (L 6) k - 1) x) := by
          intro x hx
          subst hP
          refine ⟨rfl, by omega, ?_, rfl, hf.w (by decide) (by decide), ?_, ?_, ?_⟩
          · rw [dp_s, if_neg c6', if_pos c7']
          · intro j hj
            rw [dp_s, if_neg c6', if_pos c7'] at hj
            dsimp only
            rw [evS_s, if_neg c6', if_pos c7', wr_e]
            by_cases hjd : j = dp (L 6) k - 1
            · subst hjd; simp only [upd_e]; exact hx
            · simp only [upd_n hjd]; exact hi j (by omega)
          · rw [dp_s, if_neg c6', if_pos c7']; omega
          · intro _; rw [dp_s, if_neg c6', if_pos c7']; omega
        simp (disch := omega) only [nI_cl, nI_nn, show ¬ 64 ≤ dp (L 6) k - 1 by omega, or_self, if_false, ev_i, ev_bd, ev_s, hi (dp (L 6) k - 1) (by omega)]
        exact ⟨fun h => key _ (by rw [if_pos h]), fun h => key _ (by rw [if_neg h])⟩
      · have hlt7 : L 6 k < -7 := by rw [← q1]; exact cvt_lo hlt q2 c7
        have c6' : ¬ -6 ≤ L 6 k := by grind
        have c7' : ¬ L 6 k = -7 := by grind
        have r4 := r4 hlt7
        rw [if_neg c7]
        rw [nI_p' (by omega), ev_bd, nI_p (by omega)]
        simp (disch := omega) only [nI_cl, nI_nn, show ¬ 64 ≤ dp (L 6) k - 1 by omega, show ¬ 64 ≤ dp (L 6) k - 1 - 1 by omega, or_self, if_false, m_reckon (show -27 ≤ τ 10 k by grind) hlt, q1, Option.bind_some, ev_bd, ev_s]
        subst hP
        refine ⟨rfl, by omega, ?_, rfl, hf.w (by decide) (by decide), ?_, ?_, ?_⟩
        · rw [dp_s, if_neg c6', if_neg c7']
        · intro j hj
          rw [dp_s, if_neg c6', if_neg c7'] at hj
          dsimp only
          rw [evS_s, if_neg c6', if_neg c7', wr_e]
          by_cases hjd : j = dp (L 6) k - 2
          · subst hjd
            rw [show dp (L 6) k - 1 - 1 = dp (L 6) k - 2 by omega]
            simp only [upd_e]
            rw [hi _ (by omega), hi _ (by omega)]
          · rw [show dp (L 6) k - 1 - 1 = dp (L 6) k - 2 by omega]
            simp only [upd_n hjd]; exact hi j (by omega)
        · rw [dp_s, if_neg c6', if_neg c7']; omega
        · intro _; rw [dp_s, if_neg c6', if_neg c7']; omega
  · rintro ⟨a, b, σ'⟩ ⟨_, e1, e2, hf, hi, hd, hp⟩
    dsimp only at e1 e2 hf hi
    subst e1 e2
    have e3 := hf.1 3 (by decide) (by decide)
    unfold s_X12_valueNow_h4
    simp (disch := omega) only [e3, l9, nI_le, Nat.le_refl, if_true, ev_s]
    exact ⟨by decide, hi 0 (hp h0), hf⟩
theorem PP.m_isOf {N k : Nat} {set : Int32} {τ : Sg} : f_X12_isOf N set (nI k) τ = some ((if hasB set k then 1 else 0), τ) := by
  unfold f_X12_isOf
  split <;> rfl
def PP.nsi (o : Option Nat) : Int32 := match o with | none => -1 | some j => nI j
theorem PP.nsi_n : nsi none = -1 := rfl
theorem PP.nsi_s (j : Nat) : nsi (some j) = nI j := rfl
theorem PP.m_minds {N F f : Nat} {L s τ : Sg} {set m : Int32} (hN : 1000 < N) (hO : LandOK F L) (hL : LM F L τ) (hf : f < F) (hS : sub F set) (h0 : set ≠ 0) (h3 : τ 15 f = s 3 f) (ht : τ 0 28 = s 0 0) (ht0 : 0 ≤ s 0 0) (hm : Mi L (τ 0 32) (τ 0 28) = m) : Ev (f_X12_minds N (nI f) set τ) (fun z => z.1 = (if mnd F L s m f set = true then 1 else 0) ∧ FM [18, 19] [] τ z.2) := by
  have hF : F ≤ 9 := hO.1
  have hR := hO.2.2.2.2.2.1
  obtain ⟨len, hlen, e4⟩ := nI_of hR.1
  have hR := hR.2
  rw [e4, nI_cl hlen] at hR
  have l0 := hL.2.1
  have l9 := hL.2.2.2.2.2.1
  have lx := hL.2.2.2.2.2.2.1
  obtain ⟨w, hw, hw32, hbw⟩ := sub_ex hS h0
  obtain ⟨g, hg⟩ := nst_ex (F := F) (L := L) (f := f) hw hbw
  have hgF := nst_p hg
  unfold f_X12_minds f_X12_minds_b19
  generalize hP : (fun z : Int32 × Sg => _ ∧ _) = P
  have m1 : L 0 4 = 0 ∨ L 5 f = 1 → P (1, τ) := by
    intro h
    subst hP
    refine ⟨?_, FM.refl _ _ _⟩
    have : mnd F L s m f set = true := by
      unfold mnd
      rw [decide_eq_true_eq]
      rcases h with h | h
      · exact Or.inl h
      · exact Or.inr (Or.inl h)
    rw [if_pos this]
  have lxf := lx f hf
  rw [l9, ev_i]
  refine ⟨fun h => ev_s.mpr (m1 (Or.inl h)), fun hl => ?_⟩
  simp (disch := omega) only [nI_cl, nI_nn, show ¬ 18 ≤ f by omega, show ¬ 9 ≤ f by omega, or_self, if_false, lxf.2.2.2]
  rw [ev_i]
  refine ⟨fun h => ev_s.mpr (m1 (Or.inr h)), fun hd' => ?_⟩
  have hnear : it (fun q => s_X12_minds_h26 N (nI f) set q.1 q.2.1 q.2.2) N ((-1 : Int32), (0 : Int32), τ) = some (1, nI g, 0, τ) := by
    rw [← ev_eq]
    refine ev_for (fun k q => q = (nsi (nst F L f set k), nI k, τ)) F N _ (by omega) rfl ?_ ?_
    · rintro k _ hk rfl
      refine Ev.imp (P := fun r => r.1 = 0 ∧ _) ?_ (fun r h => Or.inl h)
      unfold s_X12_minds_h26 f_X12_minds_b87 f_X12_minds_b90
      rw [m_isOf, Option.bind_some, if_neg (show ¬ τ 3 0 ≤ nI k by rw [l0, nI_le (by omega) (by omega)]; omega), nst_s]
      by_cases hk1 : hasB set k
      · rw [if_pos hk1, if_pos hk1]
        dsimp only
        rw [if_neg (by decide)]
        cases hn : nst F L f set k with
        | none =>
          simp only [nsi_n, if_true, ev_bd, ev_s, nI_s]
          exact ⟨by trivial, by trivial⟩
        | some j =>
          have hj := nst_p hn
          have hj1 : ¬ nI j = -1 := by
            intro e
            have := nI_n0 (show j < 2147483648 by omega)
            rw [e] at this
            exact absurd this (by decide)
          rw [nsi_s]
          dsimp only
          rw [if_neg hj1]
          simp (disch := omega) only [nI_cl, nI_nn, show ¬ 18 ≤ k by omega, show ¬ 18 ≤ f by omega, show ¬ 18 ≤ j by omega, or_self, if_false, (lx k hk).1, (lx j (show j < F by omega)).1, lxf.1, ev_i, ev_bd, ev_s, nI_s]
          rw [← aw_d, ← aw_d]
          refine ⟨fun h => ⟨by trivial, ?_⟩, fun h => ⟨by trivial, ?_⟩⟩
          · rw [if_neg (by grind)]; rfl
          · rw [if_pos (by grind)]; rfl
      · rw [if_neg hk1, if_neg hk1, if_pos rfl]
        simp only [ev_bd, ev_s, nI_s]
        exact ⟨by trivial, by trivial⟩
    · rintro _ rfl
      unfold s_X12_minds_h26
      dsimp only
      simp (disch := omega) only [l0, nI_le, Nat.le_refl, if_true, ev_s, hg, nsi_s]
      exact ⟨by decide, by trivial⟩
  rw [hnear]
  simp (disch := omega) only [Option.bind_some, m_bc (show 20 < N by omega) _ (sub_mo hS hF), ev_bd, nI_cl, nI_nn, show ¬ 18 ≤ g by omega, or_self, if_false]
  have fr4 : FM [18] [] τ (wr (wr (wr (wr τ 18 0 (pc set)) 18 1 (aw L g f)) 18 2 (L 2 g - L 2 f)) 18 3 (s 3 f)) := ((((FM.refl [18] [] τ).w (by decide) (by decide)).w (by decide) (by decide)).w (by decide) (by decide)).w (by decide) (by decide)
  have st : ∀ σ : Sg, σ = (wr (wr (wr (wr τ 18 0 (pc set)) 18 1 (aw L g f)) 18 2 (L 2 g - L 2 f)) 18 3 (s 3 f)) → Ev ((f_X12_mistOf N σ).bind fun q19 => bd (wr (q19.2) 18 4 q19.1) fun σ20 => bd (wr σ20 18 5 (σ20 0 28)) fun σ21 => (f_X12_valueNow N σ21).bind fun q22 => if q22.1 ≤ 0 then (some ((0 : Int32), (q22.2))) else (some ((1 : Int32), (q22.2)))) P := by
    rintro σ rfl
    rw [m_mist hO (hL.fr fr4 (by decide)) (by rw [fr4.2 28 (by decide), ht]; exact ht0), fr4.2 28 (by decide), fr4.2 32 (by decide), hm, Option.bind_some]
    simp only [ev_bd]
    have e4' : len ≠ 0 := fun h => hl (by rw [e4, h]; rfl)
    have fr6 : ∀ x y : Int32, FM [18] [] τ (wr (wr (wr (wr (wr (wr τ 18 0 (pc set)) 18 1 (aw L g f)) 18 2 (L 2 g - L 2 f)) 18 3 (s 3 f)) 18 4 x) 18 5 y) := fun x y => (fr4.w (by decide) (by decide)).w (by decide) (by decide)
    refine Ev.bind (m_value (F := F) (len := len) (L := L) (v := vals L s m f g set) hN hR e4 (hL.fr (fr6 _ _) (by decide)) ?_ (by omega)) ?_
    · intro i hi
      have hc : i = 0 ∨ i = 1 ∨ i = 2 ∨ i = 3 ∨ i = 4 ∨ i = 5 := by omega
      rcases hc with rfl | rfl | rfl | rfl | rfl | rfl <;> simp [wr_eq, vals, ht]
    · rintro ⟨r, σ'⟩ ⟨e, hfr⟩
      dsimp only at e hfr
      subst e
      have hfr' : FM [18, 19] [] τ σ' := FM.tr ((fr6 _ _).mo (by decide) (by decide)) (hfr.mo (by decide) (by decide))
      have hmm : mnd F L s m f set = true ↔ 0 < (evS (L 6) (vals L s m f g set) len).2 0 := by
        unfold mnd
        rw [decide_eq_true_eq, hg, e4, nI_cl hlen]
        rw [e4] at hl
        simp [hd', hl]
      dsimp only
      rw [ev_i]
      subst hP
      refine ⟨fun h => ev_s.mpr ⟨?_, hfr'⟩, fun h => ev_s.mpr ⟨?_, hfr'⟩⟩
      · rw [if_neg (by rw [hmm]; grind)]
      · rw [if_pos (by rw [hmm]; grind)]
  refine st _ ?_
  simp only [wr_n (show (5 : Nat) ≠ 18 by decide), wr_n (show (6 : Nat) ≠ 18 by decide), wr_n (show (15 : Nat) ≠ 18 by decide), (lx g hgF.1).1, (lx g hgF.1).2.1, lxf.1, lxf.2.1, h3, ← aw_d]
theorem PP.m_nodAll {N F : Nat} {L s τ : Sg} (hN : 20 < N) (hL : LM F L τ) (hs : SM F s τ) : Ev (it (fun q => s_X12_aTick_h7 N q.1 q.2) N ((0 : Int32), wr τ 0 35 0)) (fun z => z.2.2 0 35 = nds F s ∧ SM F (sN F L s) z.2.2 ∧ FM [13, 14, 15] [35] τ z.2.2) := by
  obtain ⟨hF, l0, l1, l2, l3, l4, lx, lm, lc⟩ := hL
  obtain ⟨s0, s1, sx⟩ := hs
  refine ev_for (fun k q => q.1 = nI k ∧ q.2 0 35 = mk (fun k => decide (s 1 k = 1)) k ∧ FM [13, 14, 15] [35] τ q.2 ∧ ∀ i, i < 9 → q.2 13 i = (if i < k then wN s i else τ 13 i) ∧ q.2 14 i = (if i < k then rN L s i else τ 14 i) ∧ q.2 15 i = (if i < k then nN s i else τ 15 i)) F N _ (by omega) ⟨rfl, by dsimp only; rw [wr_e, upd_e]; rfl, (FM.refl _ _ _).w0 (by decide), by intro i hi; simp [wr_eq]⟩ ?_ ?_
  · rintro k ⟨a, σ'⟩ hk ⟨e1, en, hf, hi⟩
    dsimp only at e1 en hf hi
    subst e1
    have e3 := hf.1 3 (by decide) (by decide)
    obtain ⟨i13, i14, i15⟩ := hi k (by omega)
    obtain ⟨w, r, n, h⟩ := sx k hk
    simp only [Nat.lt_irrefl, if_false] at i13 i14 i15
    refine Ev.imp (P := fun r => r.1 = 0 ∧ _) ?_ (fun r h => Or.inl h)
    generalize hP : (fun r : Nat × Int32 × Sg => _ ∧ _) = P
    unfold s_X12_aTick_h7 f_X12_aTick_b123
    simp (disch := omega) only [e3, l0, l2, nI_le, nI_cl, nI_nn, show ¬ F ≤ k by omega, show ¬ 9 ≤ k by omega, or_self, if_false, ev_bd, ev_i, ev_s, nI_s, wr_eq, reduceIte, Nat.reduceEqDiff, i13, i14, i15, w, r, n, en]
    clear lx lm lc sx l0 l1 l2 l3 l4 s0 s1 e3
    (repeat' (first | apply And.intro | intro _)) <;> subst hP <;> refine ⟨rfl, rfl, ?_, ?_, ?_⟩
    all_goals first
      | (rw [mk_s]; simp [wr_eq, *]; done)
      | exact hf
      | exact hf.w (by decide) (by decide)
      | exact (((hf.w0 (by decide)).w (by decide) (by decide)).w (by decide) (by decide)).w (by decide) (by decide)
      | (intro i hi'
         by_cases hik : i = k
         · subst hik
           clear hi
           simp only [wr_eq, wN, rN, nN]
           grind
         · have h' := hi i hi'
           have e : (i < k + 1) = (i < k) := by apply propext; omega
           simp only [wr_eq, hik, e, reduceIte, Nat.reduceEqDiff]
           exact h')
  · rintro ⟨a, σ'⟩ ⟨e1, en, hf, hi⟩
    dsimp only at e1 en hf hi
    subst e1
    have e3 := hf.1 3 (by decide) (by decide)
    unfold s_X12_aTick_h7
    simp (disch := omega) only [e3, l0, nI_le, Nat.le_refl, if_true, ev_s]
    refine ⟨by decide, en, ⟨?_, ?_, ?_⟩, hf⟩
    · rw [hf.2 28 (by decide)]; exact s0
    · rw [hf.2 29 (by decide)]; exact s1
    · intro i hi'
      have h60 := hf.1 16 (by decide) (by decide)
      have h1 := hi i (by omega)
      have h2 := sx i hi'
      simp only [sN, stt]
      simp [h1, hi', h60, h2]
theorem PP.m_tick {N F : Nat} {L s τ : Sg} {m : Int32} (hN : 1000 < N) (hO : LandOK F L) (hL : LM F L τ) (hs : SM F s τ) (hS : StOK F s) (hm : Mi L (τ 0 32) (s 0 0) = m) : Ev (f_X12_aTick N τ) (fun τ' => τ' 0 35 = nds F s ∧ SM F (tick F L m s) τ' ∧ FM [13, 14, 15, 18, 19] [28, 35] τ τ') := by
  have hF : F ≤ 9 := hO.1
  unfold f_X12_aTick
  rw [ev_bd]
  refine (m_nodAll (by omega) hL hs).bind ?_
  rintro ⟨na, nb, τ1⟩ ⟨en, hs1, hf1⟩
  dsimp only at en hs1 hf1 ⊢
  have hL1 : LM F L τ1 := hL.fr hf1 (by decide)
  obtain ⟨a0, a1, ax⟩ := hs1
  rw [ev_b]
  refine ev_for (Q := fun r => FM [13, 18, 19] [] τ1 r.2.2 ∧ ∀ i, i < F → r.2.2 13 i = (if i < F ∧ starts F L s m i = true then L 3 i else τ1 13 i)) (fun k q => q.1 = nI k ∧ FM [13, 18, 19] [] τ1 q.2 ∧ ∀ i, i < F → q.2 13 i = (if i < k ∧ starts F L s m i = true then L 3 i else τ1 13 i)) F N _ (by omega) ⟨rfl, FM.refl _ _ _, by intro i hi; simp⟩ ?_ ?_ |>.imp ?_
  · rintro k ⟨a, τ2⟩ hk ⟨e1, hf, hi⟩
    dsimp only at e1 hf hi
    subst e1
    have hL' : LM F L τ2 := hL1.fr hf (by decide)
    unfold s_X12_aTick_h131 f_X12_aTick_b221
    have en2 : τ2 0 35 = nds F s := by rw [hf.2 35 (by decide)]; exact en
    have w1 : τ2 13 k = wN s k := by
      rw [hi k hk]
      simp only [Nat.lt_irrefl, false_and, if_false]
      rw [(ax k hk).1]; simp [sN, stt, hk]
    have r1 : τ2 14 k = rN L s k := by
      rw [hf.1 14 (by decide) (by decide)]
      rw [(ax k hk).2.1]; simp [sN, stt, hk]
    have n1 : τ2 15 k = sN F L s 3 k := by
      rw [hf.1 15 (by decide) (by decide)]
      exact (ax k hk).2.2.1
    have t1 : τ2 0 28 = sN F L s 0 0 := by rw [hf.2 28 (by decide)]; exact a0
    have t1' : τ2 0 28 = s 0 0 := t1
    have as1 : τ2 0 29 = s 0 1 := by rw [hf.2 29 (by decide), a1]; rfl
    have hm' : Mi L (τ2 0 32) (τ2 0 28) = m := by rw [t1', hf.2 32 (by decide), hf1.2 32 (by decide)]; exact hm
    have ht0 : 0 ≤ τ2 0 28 := by rw [t1']; exact hS.1.1
    have htp : ∀ j, j < F → τ2 6 j + τ2 16 j = tp L s j := by
      intro j hj
      rw [(hL'.2.2.2.2.2.2.1 j hj).2.1, hf.1 16 (by decide) (by decide), (ax j hj).2.2.2]
      rfl
    dsimp only
    simp (disch := omega) only [hL'.2.1, nI_le, nI_cl, nI_nn, show ¬ F ≤ k by omega, show ¬ 9 ≤ k by omega, show ¬ 18 ≤ k by omega, or_self, if_false, nI_s, en2, w1, r1, as1, m_isOf, Option.bind_some]
    by_cases hn0 : nds F s = 0
    · rw [if_pos hn0, ev_s]
      refine Or.inr ⟨Nat.one_ne_zero, hf, ?_⟩
      intro i hi9
      dsimp only
      have hns : ∀ j, ¬ starts F L s m j = true := by
        intro j hj
        unfold starts at hj
        rw [decide_eq_true_eq] at hj
        refine hj.2.2.2.1 ?_
        rw [hn0]; exact Int32.and_zero
      rw [hi i hi9]
      simp [hns]
    · rw [if_neg hn0]
      refine Ev.imp (P := fun r => r.1 = 0 ∧ _) ?_ (fun r h => Or.inl h)
      generalize hP : (fun r : Nat × Int32 × Sg => _ ∧ _) = P
      have no : ∀ τ3 : Sg, FM [18, 19] [] τ2 τ3 → ¬ starts F L s m k = true → P (0, nI (k + 1), τ3) := by
        intro τ3 hf3 hst
        subst hP
        refine ⟨rfl, rfl, hf.tr (hf3.mo (by decide) (by decide)), ?_⟩
        intro i hi9
        dsimp only
        rw [hf3.1 13 (by decide) (by decide), hi i hi9]
        by_cases hik : i = k
        · subst hik; simp [hst]
        · have e : (i < k + 1) = (i < k) := by apply propext; omega
          simp only [e]
      have nst0 : ¬ (wN s k = 0 ∧ rN L s k = 0 ∧ ¬ hasB (s 0 1 ||| nds F s) k) → ¬ starts F L s m k = true := by
        intro h h'
        unfold starts at h'
        rw [decide_eq_true_eq] at h'
        exact h ⟨h'.1, h'.2.1, h'.2.2.1⟩
      by_cases c1 : 0 < wN s k
      · rw [if_pos c1, ev_bd, ev_s]
        exact no τ2 (FM.refl _ _ _) (nst0 fun h => by rw [h.1] at c1; exact absurd c1 (by decide))
      · rw [if_neg c1]
        by_cases c2 : 0 < rN L s k
        · rw [if_pos c2, ev_bd, ev_s]
          exact no τ2 (FM.refl _ _ _) (nst0 fun h => by rw [h.2.1] at c2; exact absurd c2 (by decide))
        · rw [if_neg c2]
          have sk := hS.2.2 k hk
          have hw0 : wN s k = 0 := by
            have := sk.1
            unfold wN at c1 ⊢
            split at c1 <;> split <;> grind
          have hr0 : rN L s k = 0 := by
            have h1 := sk.2.1
            have h2 := hO.2.2.2.1
            unfold rN at c2 ⊢
            split at c2
            · rename_i h; rw [if_pos h]; grind
            · rename_i h; rw [if_neg h]
              split at c2
              · rename_i h; rw [if_pos h]; grind
              · rename_i h; rw [if_neg h]
                split at c2
                · rename_i h; rw [if_pos h]; grind
                · rename_i h; rw [if_neg h]; grind
          by_cases c3 : hasB (s 0 1 ||| nds F s) k
          · rw [if_pos c3, if_neg (by decide), ev_bd, ev_s]
            exact no τ2 (FM.refl _ _ _) (nst0 fun h => h.2.2 c3)
          · rw [if_neg c3, if_pos rfl, m_sees (show 20 < N by omega) hO hL' htp ht0 hm' hk]
            simp only [Option.bind_some, ev_bd, en2]
            by_cases c4 : sees F L (tp L s) m k &&& nds F s = 0
            · rw [if_pos c4, ev_bd, ev_s]
              refine no τ2 (FM.refl _ _ _) ?_
              unfold starts
              rw [decide_eq_true_eq]
              exact fun h => h.2.2.2.1 c4
            · rw [if_neg c4]
              refine (m_minds (s := sN F L s) (m := m) hN hO hL' hk (sub_and (sub_sees hF)) c4 n1 t1 hS.1.1 hm').bind ?_
              rintro ⟨r, τ3⟩ ⟨e, hfr⟩
              dsimp only at e hfr ⊢
              subst e
              have hst : starts F L s m k = true ↔ mnd F L (sN F L s) m k (sees F L (tp L s) m k &&& nds F s) = true := by
                unfold starts
                rw [decide_eq_true_eq]
                exact ⟨fun h => h.2.2.2.2, fun h => ⟨hw0, hr0, c3, c4, h⟩⟩
              by_cases c5 : mnd F L (sN F L s) m k (sees F L (tp L s) m k &&& nds F s) = true
              · rw [if_pos c5, if_neg (by decide), ev_bd, ev_bd, ev_s]
                subst hP
                refine ⟨rfl, rfl, (hf.tr (hfr.mo (by decide) (by decide))).w (by decide) (by decide), ?_⟩
                intro i hi9
                dsimp only
                rw [wr_e]
                by_cases hik : i = k
                · subst hik
                  rw [upd_e, hfr.1 8 (by decide) (by decide)]
                  rw [if_pos ⟨by omega, hst.mpr c5⟩]
                  exact (hL'.2.2.2.2.2.2.1 i hk).2.2.1
                · rw [upd_n hik, hfr.1 13 (by decide) (by decide), hi i hi9]
                  have e : (i < k + 1) = (i < k) := by apply propext; omega
                  simp only [e]
              · rw [if_neg c5, if_pos rfl, ev_bd, ev_s]
                exact no τ3 hfr (fun h => c5 (hst.mp h))
  · rintro ⟨a, τ2⟩ ⟨e1, hf, hi⟩
    dsimp only at e1 hf hi
    subst e1
    have hL' : LM F L τ2 := hL1.fr hf (by decide)
    unfold s_X12_aTick_h131
    dsimp only
    simp (disch := omega) only [hL'.2.1, nI_le, Nat.le_refl, if_true, ev_s]
    exact ⟨by decide, hf, hi⟩
  · rintro ⟨a, b, τ2⟩ ⟨hf, hi⟩
    dsimp only at hf hi ⊢
    rw [ev_bd, ev_s]
    refine ⟨?_, ⟨?_, ?_, ?_⟩, ?_⟩
    · rw [wr_e, upd_n (by decide), hf.2 35 (by decide)]; exact en
    · rw [wr_e, upd_e, hf.2 28 (by decide), a0]; rfl
    · rw [wr_e, upd_n (by decide), hf.2 29 (by decide), a1]; rfl
    · intro i hi'
      have h1 := hi i hi'
      obtain ⟨x1, x2, x3, x4⟩ := ax i hi'
      rw [wr_n (by decide), wr_n (by decide), wr_n (by decide), wr_n (by decide), hf.1 14 (by decide) (by decide), hf.1 15 (by decide) (by decide), hf.1 16 (by decide) (by decide)]
      refine ⟨?_, x2, x3, x4⟩
      rw [h1, x1]; rfl
    · exact ((hf1.mo (by decide) (by decide)).tr (hf.mo (by decide) (by decide))).w0 (by decide)
