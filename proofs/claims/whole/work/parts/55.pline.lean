/-! ===== the longest line ===== -/
/-- among the first n: the least one above v -/
def PP.NRt (a : Ab) (n : Nat) (v r : Int32) : Prop := (r = -1 ∧ ∀ k, k < n → a.2.1 1 k ≤ v) ∨ ∃ j, j < n ∧ r = nI j ∧ v < a.2.1 1 j ∧ ∀ k, k < n → v < a.2.1 1 k → a.2.1 1 j ≤ a.2.1 1 k
theorem PP.NRt_u {a : Ab} {v r r' : Int32} (hO : OKa a) (h : NRt a a.1 v r) (h' : NRt a a.1 v r') : r = r' := by
  have hd := hO.1.2.2.2.2.2.2.2.2
  rcases h with ⟨rfl, h⟩ | ⟨j, hj, rfl, h1, h2⟩
  · rcases h' with ⟨rfl, h'⟩ | ⟨i, hi, rfl, h1, h2⟩
    · rfl
    · have := h i hi; exact absurd h1 (by grind)
  · rcases h' with ⟨rfl, h'⟩ | ⟨i, hi, rfl, h3, h4⟩
    · have := h' j hj; exact absurd h1 (by grind)
    · have a1 := h2 i hi h3
      have a2 := h4 j hj h1
      rw [hd j i hj hi (by grind)]
theorem PP.NRt_skip {a : Ab} {n : Nat} {v r : Int32} (h : NRt a n v r) (hs : a.2.1 1 n ≤ v ∨ ∃ j, j < n ∧ r = nI j ∧ a.2.1 1 j ≤ a.2.1 1 n) (hn : n < 100) : NRt a (n + 1) v r := by
  rcases h with ⟨rfl, h⟩ | ⟨j, hj, rfl, h1, h2⟩
  · refine Or.inl ⟨rfl, fun k hk => ?_⟩
    by_cases e : k = n
    · subst e
      rcases hs with hs | ⟨i, hi, e, _⟩
      · exact hs
      · exact absurd e.symm (nI_m1 (by omega))
    · exact h k (by omega)
  · refine Or.inr ⟨j, by omega, rfl, h1, fun k hk hv => ?_⟩
    by_cases e : k = n
    · subst e
      rcases hs with hs | ⟨i, hi, e, hle⟩
      · exact absurd hv (by grind)
      · have : j = i := (nI_eq (by omega) (by omega)).mp e
        subst this; exact hle
    · exact h2 k (by omega) hv
theorem PP.NRt_take {a : Ab} {n : Nat} {v r : Int32} (h : NRt a n v r) (hv : v < a.2.1 1 n) (hs : r = -1 ∨ ∃ j, j < n ∧ r = nI j ∧ ¬ a.2.1 1 j ≤ a.2.1 1 n) (hn : n < 100) : NRt a (n + 1) v (nI n) := by
  refine Or.inr ⟨n, by omega, rfl, hv, fun k hk hvk => ?_⟩
  by_cases e : k = n
  · subst e; exact Int32.le_refl _
  · rcases h with ⟨rfl, h⟩ | ⟨j, hj, rfl, h1, h2⟩
    · have := h k (by omega); exact absurd hvk (by grind)
    · have h3 := h2 k (by omega) hvk
      rcases hs with hs | ⟨i, hi, e, hle⟩
      · exact absurd hs (nI_m1 (by omega))
      · have : j = i := (nI_eq (by omega) (by omega)).mp e
        subst this
        grind
theorem PP.c_right {N : Nat} {a : Ab} {σ : Sg} {v : Int32} (hN : 20 < N) (hO : OKa a) (hC : RlC a σ) : Ev (f_X10_rightOf_53_b18 N v σ) (fun z => NRt a a.1 v z.1 ∧ z.2 = σ) := by
  have hF := hO.1.1
  have l1 := hC.1.2.1
  have lx := hC.1.2.2.2.2.2.2.1
  unfold f_X10_rightOf_53_b18
  rw [ev_b]
  refine ev_lp (fun (k : Nat) (q : Int32 × Int32 × Sg) => NRt a k v q.1 ∧ q.2 = (nI k, σ)) a.1 N _ (by omega) ⟨Or.inl ⟨rfl, fun k hk => absurd hk (by omega)⟩, rfl⟩ ?_
  rintro k ⟨r, _⟩ hk ⟨hr, e⟩
  dsimp only at hr e
  subst e
  unfold s_X10_rightOf_53_h24 f_X10_rightOf_53_b77 f_X10_rightOf_53_b80
  dsimp only
  by_cases hkF : k = a.1
  · subst hkF
    rw [if_pos (by rw [l1]; exact Int32.le_refl _), ev_s]
    exact Or.inr ⟨Nat.one_ne_zero, ev_s.mpr ⟨hr, rfl⟩⟩
  · have hk' : k < a.1 := by omega
    have xk := (lx k hk').1
    rw [if_neg (by rw [l1, nI_le (by omega) (by omega)]; omega), if_neg (gdn (by omega) (by omega)), nI_cl (show k < 2147483648 by omega), nI_s]
    by_cases hv : a.2.1 1 k ≤ v
    · rw [if_pos (show σ 13 k ≤ v by rw [xk]; exact hv), ev_bd, ev_s]
      exact Or.inl ⟨rfl, hk', NRt_skip hr (Or.inl hv) (by omega), rfl⟩
    · rw [if_neg (show ¬ σ 13 k ≤ v by rw [xk]; exact hv)]
      by_cases h1 : r = -1
      · rw [if_pos h1, ev_bd, ev_s]
        exact Or.inl ⟨rfl, hk', NRt_take hr (by grind) (Or.inl h1) (by omega), rfl⟩
      · obtain ⟨j, hj, ej⟩ : ∃ j, j < k ∧ r = nI j := by
          rcases hr with ⟨h, _⟩ | ⟨j, hj, ej, _⟩
          · exact absurd h h1
          · exact ⟨j, hj, ej⟩
        subst ej
        have xj := (lx j (by omega)).1
        rw [if_neg h1, if_neg (gdc (by omega) (by omega)), if_neg (gdn (by omega) (by omega)), nI_cl (show j < 2147483648 by omega)]
        by_cases hle : a.2.1 1 j ≤ a.2.1 1 k
        · rw [if_pos (show σ 13 j ≤ σ 13 k by rw [xj, xk]; exact hle), ev_bd, ev_s]
          exact Or.inl ⟨rfl, hk', NRt_skip hr (Or.inr ⟨j, hj, rfl, hle⟩) (by omega), rfl⟩
        · rw [if_neg (show ¬ σ 13 j ≤ σ 13 k by rw [xj, xk]; exact hle), ev_bd, ev_s]
          exact Or.inl ⟨rfl, hk', NRt_take hr (by grind) (Or.inr ⟨j, hj, rfl, hle⟩) (by omega), rfl⟩
theorem PP.m_next {N i : Nat} {a : Ab} {τ : Sg} (hN : 20 < N) (hO : OKa a) (hM : RlM a τ) (hi : i < a.1) : Ev (f_X12_nextTo N (nI i) τ) (fun z => NRt a a.1 (a.2.1 1 i) z.1 ∧ z.2 = τ) := by
  have hF := hO.1.1
  have l1 := hM.1.2.1
  have lx := hM.1.2.2.2.2.2.2.1
  have xi := (lx i hi).1
  unfold f_X12_nextTo
  rw [ev_b]
  refine ev_lp (fun (k : Nat) (q : Int32 × Int32 × Sg) => NRt a k (a.2.1 1 i) q.1 ∧ q.2 = (nI k, τ)) a.1 N _ (by omega) ⟨Or.inl ⟨rfl, fun k hk => absurd hk (by omega)⟩, rfl⟩ ?_
  rintro k ⟨r, _⟩ hk ⟨hr, e⟩
  dsimp only at hr e
  subst e
  unfold s_X12_nextTo_h4 f_X12_nextTo_b49 f_X12_nextTo_b51
  dsimp only
  by_cases hkF : k = a.1
  · subst hkF
    rw [if_pos (by rw [l1]; exact Int32.le_refl _), ev_s]
    exact Or.inr ⟨Nat.one_ne_zero, ev_s.mpr ⟨hr, rfl⟩⟩
  · have hk' : k < a.1 := by omega
    have xk := (lx k hk').1
    rw [if_neg (by rw [l1, nI_le (by omega) (by omega)]; omega), if_neg (gdn (by omega) (by omega)), if_neg (gdn (by omega) (by omega)), nI_cl (show k < 2147483648 by omega), nI_cl (show i < 2147483648 by omega), nI_s]
    by_cases hv : a.2.1 1 k ≤ a.2.1 1 i
    · rw [if_pos (show τ 5 k ≤ τ 5 i by rw [xk, xi]; exact hv), ev_bd, ev_s]
      exact Or.inl ⟨rfl, hk', NRt_skip hr (Or.inl hv) (by omega), rfl⟩
    · rw [if_neg (show ¬ τ 5 k ≤ τ 5 i by rw [xk, xi]; exact hv)]
      by_cases h1 : r = -1
      · rw [if_pos h1, ev_bd, ev_s]
        exact Or.inl ⟨rfl, hk', NRt_take hr (by grind) (Or.inl h1) (by omega), rfl⟩
      · obtain ⟨j, hj, ej⟩ : ∃ j, j < k ∧ r = nI j := by
          rcases hr with ⟨h, _⟩ | ⟨j, hj, ej, _⟩
          · exact absurd h h1
          · exact ⟨j, hj, ej⟩
        subst ej
        have xj := (lx j (by omega)).1
        rw [if_neg h1, if_neg (gdc (by omega) (by omega)), if_neg (gdn (by omega) (by omega)), nI_cl (show j < 2147483648 by omega)]
        by_cases hle : a.2.1 1 j ≤ a.2.1 1 k
        · rw [if_pos (show τ 5 j ≤ τ 5 k by rw [xj, xk]; exact hle), ev_bd, ev_s]
          exact Or.inl ⟨rfl, hk', NRt_skip hr (Or.inr ⟨j, hj, rfl, hle⟩) (by omega), rfl⟩
        · rw [if_neg (show ¬ τ 5 j ≤ τ 5 k by rw [xj, xk]; exact hle), ev_bd, ev_s]
          exact Or.inl ⟨rfl, hk', NRt_take hr (by grind) (Or.inr ⟨j, hj, rfl, hle⟩) (by omega), rfl⟩
/-! m steps of sight from the one to the next -/
def PP.nxP (a : Ab) (r q : Nat) : Prop := a.2.1 1 r < a.2.1 1 q ∧ ∀ j, j < a.1 → a.2.1 1 r < a.2.1 1 j → a.2.1 1 q ≤ a.2.1 1 j
def PP.Rr (a : Ab) (k : Nat) : Nat → Nat → Prop
  | 0, q => q = k
  | m + 1, q => q < a.1 ∧ ∃ r, r < a.1 ∧ Rr a k m r ∧ nxP a r q ∧ hasB (se a r) q
theorem PP.Rr_s (a : Ab) (k m q : Nat) : Rr a k (m + 1) q ↔ q < a.1 ∧ ∃ r, r < a.1 ∧ Rr a k m r ∧ nxP a r q ∧ hasB (se a r) q := Iff.rfl
theorem PP.nxP_pre {a : Ab} {r r' q : Nat} (hO : OKa a) (hr : r < a.1) (hr' : r' < a.1) (h : nxP a r q) (h' : nxP a r' q) : r = r' := by
  have hd := hO.1.2.2.2.2.2.2.2.2
  refine hd r r' hr hr' ?_
  by_cases h1 : a.2.1 1 r < a.2.1 1 r'
  · have := h.2 r' hr' h1
    have := h'.1
    grind
  · by_cases h2 : a.2.1 1 r' < a.2.1 1 r
    · have := h'.2 r hr h2
      have := h.1
      grind
    · grind
theorem PP.nxP_suc {a : Ab} {r q q' : Nat} (hO : OKa a) (hq : q < a.1) (hq' : q' < a.1) (h : nxP a r q) (h' : nxP a r q') : q = q' := by
  have hd := hO.1.2.2.2.2.2.2.2.2
  refine hd q q' hq hq' ?_
  have h1 := h.2 q' hq' h'.1
  have h2 := h'.2 q hq h.1
  grind
theorem PP.Rr_u {a : Ab} {k : Nat} (hO : OKa a) : ∀ m q q', Rr a k m q → Rr a k m q' → q = q'
  | 0, q, q', h, h' => h.trans h'.symm
  | m + 1, q, q', ⟨hq, r, hr, h1, h2, _⟩, ⟨hq', r', hr', h1', h2', _⟩ => by
    have := Rr_u hO m r r' h1 h1'
    subst this
    exact nxP_suc hO hq hq' h2 h2'
theorem PP.Rr_pre {a : Ab} {k : Nat} : ∀ j m q, Rr a k (m + j) q → ∃ r, Rr a k m r
  | 0, m, q, h => ⟨q, h⟩
  | j + 1, m, q, h => by
    rw [← Nat.add_assoc] at h
    obtain ⟨_, r, _, h1, _⟩ := h
    exact Rr_pre j m r h1
theorem PP.Rr_x {a : Ab} {k : Nat} (hO : OKa a) (hk : k < a.1) : ∀ m q, Rr a k m q → q < a.1 ∧ nI m ≤ a.2.1 1 q
  | 0, q, h => by
    have h : q = k := h
    subst h
    exact ⟨hk, (hO.1.2.2.2.2.2.2.1 q hk).1.1⟩
  | m + 1, q, ⟨hq, r, hr, h1, h2, _⟩ => by
    have h3 := (Rr_x hO hk m r h1).2
    have h4 := h2.1
    have h5 := (hO.1.2.2.2.2.2.2.1 q hq).1
    refine ⟨hq, ?_⟩
    rw [← nI_s]
    grind
theorem PP.Rr_m {a : Ab} {k m q : Nat} (hO : OKa a) (hk : k < a.1) (hm : m < 1000) (h : Rr a k m q) : m ≤ 99 := by
  obtain ⟨hq, h1⟩ := Rr_x hO hk m q h
  have h5 := (hO.1.2.2.2.2.2.2.1 q hq).1.2
  have h6 : nI m ≤ nI 99 := Int32.le_trans h1 h5
  exact (nI_le (by omega) (by omega)).mp h6
def PP.Res (a : Ab) (r : Int32) : Prop := (a.1 = 0 ∧ r = 0) ∨ (0 < a.1 ∧ ∃ M, M < 1000 ∧ r = nI (M + 1) ∧ (∃ k q, k < a.1 ∧ Rr a k M q) ∧ ∀ k m q, k < a.1 → Rr a k m q → m ≤ M)
theorem PP.Res_u {a : Ab} {x y : Int32} (hx : Res a x) (hy : Res a y) : x = y := by
  rcases hx with ⟨h0, rfl⟩ | ⟨h0, M, hM, rfl, ⟨k, q, hk, h1⟩, h2⟩
  · rcases hy with ⟨_, rfl⟩ | ⟨h1, _⟩
    · rfl
    · omega
  · rcases hy with ⟨h1, _⟩ | ⟨_, M', hM', rfl, ⟨k', q', hk', h1'⟩, h2'⟩
    · omega
    · have a1 := h2 k' M' q' hk' h1'
      have a2 := h2' k M q hk h1
      rw [show M = M' by omega]
theorem PP.NRt_nx {a : Ab} {r q : Nat} (h : ∃ j, j < a.1 ∧ nI q = nI j ∧ a.2.1 1 r < a.2.1 1 j ∧ ∀ k, k < a.1 → a.2.1 1 r < a.2.1 1 k → a.2.1 1 j ≤ a.2.1 1 k) (hF : a.1 ≤ 9) (hq : q < 1000) : q < a.1 ∧ nxP a r q := by
  obtain ⟨j, hj, e, h1, h2⟩ := h
  have : q = j := (nI_eq (by omega) (by omega)).mp e
  subst this
  exact ⟨hj, h1, h2⟩
theorem PP.mx_n {M c : Nat} (hM : M < 1000) (hc : c < 1000) : (if nI (M + 1) < nI (c + 1) then nI (c + 1) else nI (M + 1)) = nI ((if M < c then c else M) + 1) := by
  by_cases h : M < c
  · rw [if_pos (by rw [nI_lt (by omega) (by omega)]; omega), if_pos h]
  · rw [if_neg (by rw [nI_lt (by omega) (by omega)]; omega), if_neg h]
theorem PP.c_line {N : Nat} {a : Ab} {σ : Sg} (hN : 20 < N) (hO : OKa a) (hC : RlC a σ) (hv : ∀ i, i < a.1 → σ 54 i = se a i) : Ev (f_X10_longestLine_53 N σ) (fun z => Res a z.1 ∧ z.2 = σ) := by
  have hF := hO.1.1
  have l1 := hC.1.2.1
  have lx := hC.1.2.2.2.2.2.2.1
  have ox := hO.1.2.2.2.2.2.2.1
  unfold f_X10_longestLine_53
  refine Ev.bind (P := fun z => Res a z.2.1 ∧ z.2.2.2.2.2 = σ) ?_ ?_
  · refine ev_lp (fun (k : Nat) (q : Int32 × Int32 × Int32 × Int32 × Sg) => q.2.2.2 = (nI k, σ) ∧ ((k = 0 ∧ q.1 = 0 ∧ q.2.1 = 0 ∧ q.2.2.1 = -1) ∨ ∃ l c M, l < a.1 ∧ c < 100 ∧ M < 100 ∧ q.2.2.1 = nI l ∧ q.2.1 = nI (c + 1) ∧ q.1 = nI (M + 1) ∧ (∃ j, j < a.1 ∧ Rr a j c l) ∧ (∀ j m, j < a.1 → Rr a j m l → m ≤ c) ∧ (∃ j p, j < a.1 ∧ Rr a j M p) ∧ (∀ j m p, j < a.1 → p < a.1 → a.2.1 1 p ≤ a.2.1 1 l → Rr a j m p → m ≤ M) ∧ k ≤ cnt (mk (fun i => decide (a.2.1 1 i ≤ a.2.1 1 l)) a.1) 9)) a.1 N _ (by omega) ⟨rfl, Or.inl ⟨rfl, rfl, rfl, rfl⟩⟩ ?_
    rintro k ⟨x1, x2, x3, _⟩ hk ⟨e, hq⟩
    dsimp only at e hq
    subst e
    unfold s_X10_longestLine_53_h9 f_X10_longestLine_53_b62 f_X10_longestLine_53_b63
    dsimp only
    by_cases hkF : k = a.1
    · rw [if_pos (by rw [l1, hkF]; exact Int32.le_refl _), ev_s]
      refine Or.inr ⟨by simp, ?_, rfl⟩
      dsimp only
      rcases hq with ⟨h0, rfl, _, _⟩ | ⟨l, c, M, hl, hc, hM, rfl, rfl, rfl, h1, h2, h3, h4, h5⟩
      · exact Or.inl ⟨by omega, rfl⟩
      · refine Or.inr ⟨by omega, M, by omega, rfl, ?_, ?_⟩
        · obtain ⟨j, p, hj, hR⟩ := h3; exact ⟨j, p, hj, hR⟩
        · intro j m p hj hR
          have hp := (Rr_x hO hj m p hR).1
          refine h4 j m p hj hp (Classical.byContradiction fun hn => ?_) hR
          have hlt : cnt (mk (fun i => decide (a.2.1 1 i ≤ a.2.1 1 l)) a.1) 9 < cnt (alF a.1) 9 := by
            refine cnt_lt 9 (fun i hi hb => ?_) ⟨p, by omega, (has_al hF (by omega)).mpr hp, fun hb => ?_⟩
            · rw [hasB_mk (by omega) (by omega)] at hb
              exact (has_al hF (by omega)).mpr hb.1
            · rw [hasB_mk (by omega) (by omega), decide_eq_true_eq] at hb
              exact hn hb.2
          have hle := cnt_sub (F := a.1) (x := alF a.1) hF (fun i hi hFi hb => by have := (has_al hF hi).mp hb; omega)
          omega
    · have hk' : k < a.1 := by omega
      rw [if_neg (by rw [l1, nI_le (by omega) (by omega)]; omega)]
      rcases hq with ⟨h0, rfl, rfl, rfl⟩ | ⟨l, c, M, hl, hc, hM, rfl, rfl, rfl, h1, h2, h3, h4, h5⟩
      · unfold f_X10_rightOf_53
        rw [if_pos rfl]
        refine (c_right hN hO hC).bind ?_
        rintro ⟨r, σ1⟩ ⟨hr, e⟩
        dsimp only at hr e ⊢
        subst e
        rw [ev_bd]
        rcases hr with ⟨rfl, hr⟩ | ⟨j, hj, rfl, hr1, hr2⟩
        · have := hr 0 (by omega)
          have h2 := (ox 0 (by omega)).1.1
          exact absurd (Int32.le_trans h2 this) (by decide)
        · rw [if_neg (nI_m1 (by omega)), if_pos rfl, ev_bd, ev_bd, ev_s]
          have hm0 : ∀ i m, i < a.1 → Rr a i m j → m ≤ 0 := by
            intro i m hi hR
            cases m with
            | zero => exact Nat.le_refl _
            | succ m =>
              obtain ⟨_, r, hr, _, hx, _⟩ := hR
              have h1 := hr2 r hr (by have := (ox r hr).1.1; grind)
              have h2 := hx.1
              exact absurd h2 (by grind)
          refine Or.inl ⟨rfl, hk', ?_, Or.inr ⟨j, 0, 0, hj, by omega, by omega, rfl, rfl, ?_, ⟨j, hj, rfl⟩, hm0, ⟨j, j, hj, rfl⟩, ?_, ?_⟩⟩
          · dsimp only; rw [nI_s]
          · rfl
          · intro i m p hi hp hle hR
            have : p = j := hO.1.2.2.2.2.2.2.2.2 p j hp hj (by have := hr2 p hp (by have := (ox p hp).1.1; grind); grind)
            subst this
            exact hm0 i m hi hR
          · have : cnt 0 9 < cnt (mk (fun i => decide (a.2.1 1 i ≤ a.2.1 1 j)) a.1) 9 := by
              refine cnt_lt 9 (fun i hi hb => absurd hb (hasB_0 (by omega))) ⟨j, by omega, ?_, hasB_0 (by omega)⟩
              rw [hasB_mk (by omega) (by omega), decide_eq_true_eq]
              exact ⟨hj, Int32.le_refl _⟩
            omega
      · unfold f_X10_rightOf_53
        rw [if_neg (nI_m1 (by omega)), if_neg (gdn (by omega) (by omega)), nI_cl (show l < 2147483648 by omega), (lx l hl).1]
        refine (c_right hN hO hC).bind ?_
        rintro ⟨r, σ1⟩ ⟨hr, e⟩
        dsimp only at hr e ⊢
        subst e
        rw [ev_bd]
        rcases hr with ⟨rfl, hr⟩ | ⟨p, hp, rfl, hr1, hr2⟩
        · rw [if_pos rfl, ev_s]
          refine Or.inr ⟨by simp, Or.inr ⟨by omega, M, by omega, rfl, ?_, ?_⟩, rfl⟩
          · obtain ⟨j, p, hj, hR⟩ := h3; exact ⟨j, p, hj, hR⟩
          · intro j m p hj hR
            have hp := (Rr_x hO hj m p hR).1
            exact h4 j m p hj hp (hr p hp) hR
        · have hnx : nxP a l p := ⟨hr1, hr2⟩
          rw [if_neg (nI_m1 (by omega)), if_neg (nI_m1 (by omega)), if_neg (gdc (by omega) (by omega))]
          have fin : ∀ c' : Nat, c' < 100 → (∃ j, j < a.1 ∧ Rr a j c' p) → (∀ j m, j < a.1 → Rr a j m p → m ≤ c') → Ev (bd (if nI (M + 1) < nI (c' + 1) then nI (c' + 1) else nI (M + 1)) fun v1 => bd (nI k + 1) fun v2 => some (0, v1, nI (c' + 1), nI p, v2, σ1)) (fun r => (r.1 = 0 ∧ k < a.1 ∧ r.2.2.2.2 = (nI (k + 1), σ1) ∧ ((k + 1 = 0 ∧ r.2.1 = 0 ∧ r.2.2.1 = 0 ∧ r.2.2.2.1 = -1) ∨ ∃ l c M, l < a.1 ∧ c < 100 ∧ M < 100 ∧ r.2.2.2.1 = nI l ∧ r.2.2.1 = nI (c + 1) ∧ r.2.1 = nI (M + 1) ∧ (∃ j, j < a.1 ∧ Rr a j c l) ∧ (∀ j m, j < a.1 → Rr a j m l → m ≤ c) ∧ (∃ j p, j < a.1 ∧ Rr a j M p) ∧ (∀ j m p, j < a.1 → p < a.1 → a.2.1 1 p ≤ a.2.1 1 l → Rr a j m p → m ≤ M) ∧ k + 1 ≤ cnt (mk (fun i => decide (a.2.1 1 i ≤ a.2.1 1 l)) a.1) 9)) ∨ (r.1 ≠ 0 ∧ Res a r.2.1 ∧ r.2.2.2.2.2 = σ1)) := by
            intro c' hc' g1 g2
            rw [ev_bd, ev_bd, ev_s, mx_n (by omega) (by omega)]
            refine Or.inl ⟨rfl, hk', by dsimp only; rw [nI_s], Or.inr ⟨p, c', if M < c' then c' else M, hp, hc', by split <;> omega, rfl, rfl, rfl, g1, g2, ?_, ?_, ?_⟩⟩
            · by_cases hMc : M < c'
              · rw [if_pos hMc]
                obtain ⟨j, hj, hR⟩ := g1; exact ⟨j, p, hj, hR⟩
              · rw [if_neg hMc]; exact h3
            · intro j m q hj hqF hle hR
              have hM1 : M ≤ (if M < c' then c' else M) ∧ c' ≤ (if M < c' then c' else M) := by split <;> omega
              by_cases hql : a.2.1 1 q ≤ a.2.1 1 l
              · have := h4 j m q hj hqF hql hR; omega
              · have : q = p := hO.1.2.2.2.2.2.2.2.2 q p hqF hp (by have := hr2 q hqF (by grind); grind)
                subst this
                have := g2 j m hj hR; omega
            · have : cnt (mk (fun i => decide (a.2.1 1 i ≤ a.2.1 1 l)) a.1) 9 < cnt (mk (fun i => decide (a.2.1 1 i ≤ a.2.1 1 p)) a.1) 9 := by
                refine cnt_lt 9 (fun i hi hb => ?_) ⟨p, by omega, ?_, ?_⟩
                · rw [hasB_mk (by omega) (by omega), decide_eq_true_eq] at hb ⊢
                  exact ⟨hb.1, by have := hb.2; grind⟩
                · rw [hasB_mk (by omega) (by omega), decide_eq_true_eq]; exact ⟨hp, Int32.le_refl _⟩
                · rw [hasB_mk (by omega) (by omega), decide_eq_true_eq]
                  rintro ⟨_, h⟩; grind
              omega
          by_cases hb : hasB (se a l) p
          · rw [if_pos (show hasB (σ1 54 l) p by rw [hv l hl]; exact hb), nI_s]
            obtain ⟨j, hj, hR⟩ := h1
            have hR' : Rr a j (c + 1) p := ⟨hp, l, hl, hR, hnx, hb⟩
            have := Rr_m hO hj (by omega) hR'
            refine fin (c + 1) (by omega) ⟨j, hj, hR'⟩ ?_
            intro i m hi hRm
            cases m with
            | zero => omega
            | succ m =>
              obtain ⟨_, r, hr, hRr, hx, _⟩ := hRm
              have := nxP_pre hO hr hl hx hnx
              subst this
              have := h2 i m hi hRr
              omega
          · rw [if_neg (show ¬ hasB (σ1 54 l) p by rw [hv l hl]; exact hb)]
            refine fin 0 (by omega) ⟨p, hp, rfl⟩ ?_
            intro i m hi hRm
            cases m with
            | zero => omega
            | succ m =>
              obtain ⟨_, r, hr, hRr, hx, hsr⟩ := hRm
              have := nxP_pre hO hr hl hx hnx
              subst this
              exact absurd hsr hb
  · rintro ⟨c, r, _, _, _, σ1⟩ ⟨hr, e⟩
    dsimp only at hr e ⊢
    rw [ite_self, ev_s]
    exact ⟨hr, e⟩
theorem PP.ok_line {N : Nat} (hN : 5000 < N) : Ok_line N Rl := by
  rintro σ τ ⟨a, hO, hC, hM⟩
  have hF := hO.1.1
  have hM0 := hM.code 0
  have h1 : Ev (f_X11_line_0 N σ) (fun z => Res a z.1 ∧ RlC a z.2) := by
    unfold f_X11_line_0
    refine (c_views (by omega) hO hC).bind ?_
    rintro σ1 ⟨hR, hv⟩
    refine (c_line (by omega) hO hR hv).bind ?_
    rintro ⟨r, σ2⟩ ⟨hr, e⟩
    dsimp only at hr e ⊢
    subst e
    rw [ev_s]; exact ⟨hr, hR⟩
  have h2 : Ev (f_X12_line N τ) (fun q => Res a q.1 ∧ RlM a q.2) := by
    unfold f_X12_line
    rw [ev_bd, ev_b]
    generalize wr τ 0 2 0 = τ0 at *
    have l1 := hM0.1.2.1
    refine ev_lp (fun (k : Nat) (q : Int32 × Int32 × Sg) => q.2 = (nI k, τ0) ∧ ((k = 0 ∧ q.1 = 0) ∨ ∃ M, M < 100 ∧ q.1 = nI (M + 1) ∧ (∃ j p, j < a.1 ∧ Rr a j M p) ∧ ∀ j m p, j < k → Rr a j m p → m ≤ M)) a.1 N _ (by omega) ⟨rfl, Or.inl ⟨rfl, rfl⟩⟩ ?_
    rintro k ⟨x1, _⟩ hk ⟨e, hq⟩
    dsimp only at e hq
    subst e
    unfold s_X12_line_h9
    dsimp only
    by_cases hkF : k = a.1
    · rw [if_pos (by rw [l1, hkF]; exact Int32.le_refl _), ev_s]
      refine Or.inr ⟨Nat.one_ne_zero, ev_s.mpr ⟨?_, hM0⟩⟩
      dsimp only
      rcases hq with ⟨h0, rfl⟩ | ⟨M, hM, rfl, hx, hy⟩
      · exact Or.inl ⟨by omega, rfl⟩
      · obtain ⟨j, p, hj, hR⟩ := hx
        refine Or.inr ⟨by omega, M, by omega, rfl, ⟨j, p, hj, hR⟩, fun j m p hj hR => hy j m p (by omega) hR⟩
    · have hk' : k < a.1 := by omega
      rw [if_neg (by rw [l1, nI_le (by omega) (by omega)]; omega)]
      refine Ev.bind (P := fun z => z.2.2.2 = τ0 ∧ ∃ m q, m < 100 ∧ z.2.1 = nI (m + 1) ∧ Rr a k m q ∧ ∀ m' q', Rr a k m' q' → m' ≤ m) ?_ ?_
      · refine ev_lp (fun (m : Nat) (q : Int32 × Int32 × Sg) => ∃ p, q = (nI (m + 1), nI p, τ0) ∧ Rr a k m p) 100 N _ (by omega) ⟨k, rfl, rfl⟩ ?_
        rintro m _ hm ⟨p, rfl, hR⟩
        have hp := (Rr_x hO hk' m p hR).1
        have hm9 := Rr_m hO hk' (by omega) hR
        have stop : ¬ (∃ q, Rr a k (m + 1) q) → ∀ m' q', Rr a k m' q' → m' ≤ m := by
          intro hn m' q' hR'
          refine Classical.byContradiction fun hlt => hn ?_
          have := Rr_pre (m' - (m + 1)) (m + 1) q' (by rw [show m + 1 + (m' - (m + 1)) = m' by omega]; exact hR')
          exact this
        unfold s_X12_line_h24
        dsimp only
        refine (m_next (by omega) hO hM0 hp).bind ?_
        rintro ⟨r, τ1⟩ ⟨hr, e⟩
        dsimp only at hr e ⊢
        subst e
        by_cases hr1 : r = -1
        · rw [if_pos hr1, ev_s]
          refine Or.inr ⟨Nat.one_ne_zero, rfl, m, p, by omega, rfl, hR, stop ?_⟩
          rintro ⟨q, hq, r', hr', hR', hx, _⟩
          have := Rr_u hO m r' p hR' hR
          subst this
          rcases hr with ⟨_, hr⟩ | ⟨j, hj, ej, _⟩
          · have := hr q hq
            have h2 := hx.1
            exact absurd h2 (by grind)
          · rw [hr1] at ej; exact absurd ej.symm (nI_m1 (by omega))
        · obtain ⟨j, hj, ej, hj1, hj2⟩ : ∃ j, j < a.1 ∧ r = nI j ∧ a.2.1 1 p < a.2.1 1 j ∧ ∀ i, i < a.1 → a.2.1 1 p < a.2.1 1 i → a.2.1 1 j ≤ a.2.1 1 i := by
            rcases hr with ⟨h, _⟩ | h
            · exact absurd h hr1
            · exact h
          have hnx : nxP a p j := ⟨hj1, hj2⟩
          rw [if_neg hr1]
          refine (m_next (by omega) hO hM0 hp).bind ?_
          rintro ⟨r2, τ2⟩ ⟨hr2, e⟩
          dsimp only at hr2 e ⊢
          have e2 := NRt_u hO hr2 hr
          subst e
          rw [e2, ej, m_sighta (by omega) hO hM0 hp hj, Option.bind_some]
          dsimp only
          by_cases hb : hasB (se a p) j
          · rw [if_pos hb, if_neg (by decide)]
            refine (m_next (by omega) hO hM0 hp).bind ?_
            rintro ⟨r3, τ3⟩ ⟨hr3, e⟩
            dsimp only at hr3 e ⊢
            have e3 := NRt_u hO hr3 hr
            subst e
            rw [ev_bd, ev_bd, ev_s, e3, ej]
            exact Or.inl ⟨rfl, by omega, j, by rw [nI_s], hj, p, hp, hR, hnx, hb⟩
          · rw [if_neg hb, if_pos rfl, ev_s]
            refine Or.inr ⟨Nat.one_ne_zero, rfl, m, p, by omega, rfl, hR, stop ?_⟩
            rintro ⟨q, hq, r', hr', hR', hx, hs⟩
            have := Rr_u hO m r' p hR' hR
            subst this
            have := nxP_suc hO hq hj hx hnx
            subst this
            exact hb hs
      · rintro ⟨_, v, _, τ1⟩ ⟨e, m, q, hm, ev, hR, hmx⟩
        dsimp only at e ev ⊢
        subst e ev
        rw [ev_bd, ev_bd, ev_s]
        refine Or.inl ⟨rfl, hk', by dsimp only; rw [nI_s], Or.inr ?_⟩
        dsimp only
        rcases hq with ⟨h0, rfl⟩ | ⟨M, hM, rfl, hx, hy⟩
        · refine ⟨m, hm, ?_, ⟨k, q, hk', hR⟩, fun j m' p hj hR' => ?_⟩
          · rw [if_pos (by rw [← nI_0, nI_lt (by omega) (by omega)]; omega)]
          · have : j = k := by omega
            subst this
            exact hmx m' p hR'
        · refine ⟨if M < m then m else M, by split <;> omega, mx_n (by omega) (by omega), ?_, ?_⟩
          · by_cases hMm : M < m
            · rw [if_pos hMm]; exact ⟨k, q, hk', hR⟩
            · rw [if_neg hMm]; exact hx
          · intro j m' p hj hR'
            have hM1 : M ≤ (if M < m then m else M) ∧ m ≤ (if M < m then m else M) := by split <;> omega
            by_cases ejk : j = k
            · subst ejk
              have := hmx m' p hR'; omega
            · have := hy j m' p (by omega) hR'; omega
  obtain ⟨⟨x, σ'⟩, e1, a1, a2⟩ := h1
  obtain ⟨⟨y, τ'⟩, e2, b1, b2⟩ := h2
  dsimp only at a1 a2 b1 b2
  have := Res_u a1 b1
  subst this
  exact ⟨x, σ', τ', e1, e2, ⟨a, hO, a2, b2⟩⟩
