/-! ===== the reference's tokens ===== -/
def PP.TMl (t : Nat → Int32) (n : Nat) (τ : Sg) : Prop := n ≤ 700 ∧ τ 0 15 = nI n ∧ (∀ i, i < n → τ 12 i = t i) ∧ ∀ i, i < n → ∃ k, k < 256 ∧ t i = nI k
theorem PP.TMl.f {t : Nat → Int32} {n : Nat} {τ τ' : Sg} {P Q : List Nat} (h : TMl t n τ) (f : FM P Q τ τ') (d : 12 ∉ P) (d' : 15 ∉ Q) : TMl t n τ' := by
  unfold TMl at h ⊢
  rw [f.1 12 (by decide) d, f.2 15 d']; exact h
def PP.btx (t : Nat → Int32) (n i : Nat) : Int32 := if i < n then t i else -1
theorem PP.m_byte {N n i : Nat} {t : Nat → Int32} {τ : Sg} (h : TMl t n τ) (hi : i ≤ n) : f_X12_byteAt N (nI i) τ = some (btx t n i, τ) := by
  obtain ⟨h1, h2, h3, -⟩ := h
  unfold f_X12_byteAt btx
  rw [h2]
  by_cases c : i < n
  · rw [if_neg (by rw [nI_le (by omega) (by omega)]; omega), if_neg (gdn (by omega) (by omega)), nI_cl (by omega), h3 i c, if_pos c]
  · rw [if_pos (by rw [nI_le (by omega) (by omega)]; omega), if_neg c]
theorem PP.m_let {N : Nat} {x : Int32} {τ : Sg} : f_X12_isLetter N x τ = some ((if le x = true then 1 else 0), τ) := by
  unfold f_X12_isLetter f_X12_isLetter_b16 le
  simp only [decide_eq_true_eq]
  by_cases c1 : x < 97
  · rw [if_pos c1, if_neg (fun h => by have := h.1; grind)]
  · rw [if_neg c1]
    by_cases c2 : 122 < x
    · rw [if_pos c2, if_neg (fun h => by have := h.2; grind)]
    · rw [if_neg c2, if_pos ⟨by grind, by grind⟩]
theorem PP.m_dig {N : Nat} {x : Int32} {τ : Sg} : f_X12_isDigit N x τ = some ((if di x = true then 1 else 0), τ) := by
  unfold f_X12_isDigit f_X12_isDigit_b16 di
  simp only [decide_eq_true_eq]
  by_cases c1 : x < 48
  · rw [if_pos c1, if_neg (fun h => by have := h.1; grind)]
  · rw [if_neg c1]
    by_cases c2 : 57 < x
    · rw [if_pos c2, if_neg (fun h => by have := h.2; grind)]
    · rw [if_neg c2, if_pos ⟨by grind, by grind⟩]
def PP.mkc (i : Nat) : Int32 := ([0, 0, 0, 0, 59, 40, 41, 43, 45, 42, 47, 60, 61] : List Int32).getD i 0
def PP.mkb (x : Int32) : Bool := decide (x = 59 ∨ x = 40 ∨ x = 41 ∨ x = 43 ∨ x = 45 ∨ x = 42 ∨ x = 47 ∨ x = 60 ∨ x = 61)
set_option maxRecDepth 20000 in
theorem PP.tab_m : ∀ i : Nat, i < 13 → 4 ≤ i → tlen (14 + i) = 1 ∧ tch (14 + i) 0 = mkc i ∧ mkb (mkc i) = true := by decide +kernel
theorem PP.mkb_i {x : Int32} (h : mkb x = true) : ∃ i, 4 ≤ i ∧ i < 13 ∧ x = mkc i := by
  unfold mkb at h
  rw [decide_eq_true_eq] at h
  rcases h with h | h | h | h | h | h | h | h | h
  · exact ⟨4, by omega, by omega, h⟩
  · exact ⟨5, by omega, by omega, h⟩
  · exact ⟨6, by omega, by omega, h⟩
  · exact ⟨7, by omega, by omega, h⟩
  · exact ⟨8, by omega, by omega, h⟩
  · exact ⟨9, by omega, by omega, h⟩
  · exact ⟨10, by omega, by omega, h⟩
  · exact ⟨11, by omega, by omega, h⟩
  · exact ⟨12, by omega, by omega, h⟩
theorem PP.m_mk {N : Nat} {x : Int32} {τ : Sg} : f_X12_isMark N x τ = some ((if mkb x = true then 1 else 0), τ) := by
  unfold f_X12_isMark f_X12_isMark_b54 mkb
  simp only [decide_eq_true_eq]
  by_cases c1 : x = 59
  · simp only [c1, if_true, true_or]
  by_cases c2 : x = 40
  · subst c2; rfl
  by_cases c3 : x = 41
  · subst c3; rfl
  by_cases c4 : x = 43
  · subst c4; rfl
  by_cases c5 : x = 45
  · subst c5; rfl
  by_cases c6 : x = 42
  · subst c6; rfl
  by_cases c7 : x = 47
  · subst c7; rfl
  by_cases c8 : x = 60
  · subst c8; rfl
  by_cases c9 : x = 61
  · subst c9; rfl
  simp only [c1, c2, c3, c4, c5, c6, c7, c8, c9, if_false, or_self]
theorem PP.sd_m {t : Nat → Int32} {b i : Nat} (h4 : 4 ≤ i) (h13 : i < 13) : sd t b (b + 1) i = true ↔ t b = mkc i := by
  obtain ⟨h1, h2, -⟩ := tab_m i h13 h4
  rw [sd_iff, h1]
  constructor
  · rintro ⟨-, -, h⟩; rw [← h2]; exact h 0 (by omega)
  · intro h
    refine ⟨by omega, by omega, fun j hj => ?_⟩
    have : j = 0 := by omega
    subst this
    rw [h2]; exact h
/-- a mark's token -/
theorem PP.tk_m {t : Nat → Int32} {n p : Nat} (hp : p ≤ n) (hb : tb t n p < n) (h1 : di (t (tb t n p)) = false) (h2 : le (t (tb t n p)) = false) : (mkb (t (tb t n p)) = true ↔ 4 ≤ tk t n p ∧ tk t n p ≤ 12) ∧ ∀ i, 4 ≤ i → i < 13 → (tk t n p = i ↔ t (tb t n p) = mkc i) := by
  obtain ⟨-, ⟨h, -⟩ | ⟨-, -, -, ⟨h, -⟩ | ⟨-, h, -⟩ | ⟨-, -, q1, q2, q3⟩⟩⟩ := tk_c t n p hp
  · omega
  · rw [h1] at h; cases h
  · rw [h2] at h; cases h
  have key : ∀ i, 4 ≤ i → i < 13 → (tk t n p = i ↔ t (tb t n p) = mkc i) := by
    intro i hi hi2
    rw [q3, q1, nk_i (by omega) (Or.inr (by omega))]
    exact sd_m hi hi2
  refine ⟨⟨fun h => ?_, fun h => ?_⟩, key⟩
  · obtain ⟨i, i1, i2, e⟩ := mkb_i h
    have := (key i i1 i2).mpr e
    omega
  · rw [(key (tk t n p) h.1 (by omega)).mp rfl]
    exact (tab_m (tk t n p) (by omega) h.1).2.2
theorem PP.m_skip {N n e : Nat} {t : Nat → Int32} {τ : Sg} (hN : 1000 < N) (h : TMl t n τ) (he : e ≤ n) (h14 : τ 0 14 = nI e) : Ev (it (fun q => s_X12_stepOn_h0 N q) N τ) (fun z => z.2 0 14 = nI (eo bl t n e) ∧ FM [] [14] τ z.2) := by
  have hn := h.1
  refine ev_lp (fun (k : Nat) (q : Sg) => q 0 14 = nI (e + k) ∧ e + k ≤ n ∧ eo bl t n e = eo bl t n (e + k) ∧ FM [] [14] τ q) (n - e) N _ (by omega) ⟨h14, he, rfl, FM.refl _ _ _⟩ ?_
  rintro k τ1 hk ⟨e1, e2, e3, hf⟩
  have h1 := h.f hf (by decide) (by decide)
  unfold s_X12_stepOn_h0 f_X12_stepOn_b26
  rw [e1, m_byte h1 e2, Option.bind_some]
  dsimp only
  rw [e1, m_byte h1 e2]
  have go : e + k < n → bl (t (e + k)) = true → Ev (bd (wr τ1 0 14 (nI (e + k) + 1)) fun σ1 => some (0, σ1)) (fun r => (r.1 = 0 ∧ k < n - e ∧ r.2 0 14 = nI (e + (k + 1)) ∧ e + (k + 1) ≤ n ∧ eo bl t n e = eo bl t n (e + (k + 1)) ∧ FM [] [14] τ r.2) ∨ (r.1 ≠ 0 ∧ r.2 0 14 = nI (eo bl t n e) ∧ FM [] [14] τ r.2)) := by
    intro hlt hb
    rw [ev_bd, ev_s]
    refine Or.inl ⟨rfl, by omega, ?_, by omega, ?_, hf.w0 (by decide)⟩
    · dsimp only; rw [wr_e, upd_e, nI_s]; rfl
    · rw [e3, eo_go hlt hb]; rfl
  have lt_of : ∀ c : Int32, c ≠ -1 → btx t n (e + k) = c → e + k < n ∧ t (e + k) = c := by
    intro c hc hh
    unfold btx at hh
    by_cases hl : e + k < n
    · rw [if_pos hl] at hh; exact ⟨hl, hh⟩
    · rw [if_neg hl] at hh; exact absurd hh.symm hc
  by_cases c1 : btx t n (e + k) = 32
  · rw [if_pos c1]
    obtain ⟨q1, q2⟩ := lt_of 32 (by decide) c1
    exact go q1 (by unfold bl; exact decide_eq_true (Or.inl q2))
  · rw [if_neg c1, Option.bind_some]
    dsimp only
    by_cases c2 : btx t n (e + k) = 10
    · rw [if_pos c2, e1]
      obtain ⟨q1, q2⟩ := lt_of 10 (by decide) c2
      exact go q1 (by unfold bl; exact decide_eq_true (Or.inr q2))
    · rw [if_neg c2, ev_s]
      refine Or.inr ⟨Nat.one_ne_zero, ?_, hf⟩
      dsimp only
      rw [e1, e3, eo_no]
      rintro ⟨hl, hb⟩
      unfold bl at hb
      rw [decide_eq_true_eq] at hb
      unfold btx at c1 c2
      rw [if_pos hl] at c1 c2
      exact hb.elim c1 c2
theorem PP.m_letters {N n e : Nat} {t : Nat → Int32} {τ : Sg} (hN : 1000 < N) (h : TMl t n τ) (he : e ≤ n) (h14 : τ 0 14 = nI e) : Ev (it (fun q => s_X12_stepOn_h76 N q) N τ) (fun z => z.2 0 14 = nI (eo le t n e) ∧ FM [] [14] τ z.2) := by
  have hn := h.1
  refine ev_lp (fun (k : Nat) (q : Sg) => q 0 14 = nI (e + k) ∧ e + k ≤ n ∧ eo le t n e = eo le t n (e + k) ∧ FM [] [14] τ q) (n - e) N _ (by omega) ⟨h14, he, rfl, FM.refl _ _ _⟩ ?_
  rintro k τ1 hk ⟨e1, e2, e3, hf⟩
  have h1 := h.f hf (by decide) (by decide)
  unfold s_X12_stepOn_h76
  rw [e1, m_byte h1 e2, Option.bind_some]
  dsimp only
  rw [m_let, Option.bind_some]
  dsimp only
  by_cases c : le (btx t n (e + k)) = true
  · have hl : e + k < n := by
      by_cases hl : e + k < n
      · exact hl
      · unfold btx at c; rw [if_neg hl] at c; exact absurd c (by decide)
    unfold btx at c
    rw [if_pos hl] at c
    rw [if_neg (by rw [if_pos (by unfold btx; rw [if_pos hl]; exact c)]; decide), ev_bd, ev_s]
    refine Or.inl ⟨rfl, by omega, ?_, by omega, ?_, hf.w0 (by decide)⟩
    · dsimp only; rw [wr_e, upd_e, e1, nI_s]; rfl
    · rw [e3, eo_go hl c]; rfl
  · rw [if_pos (by rw [if_neg c]), ev_s]
    refine Or.inr ⟨Nat.one_ne_zero, ?_, hf⟩
    dsimp only
    rw [e1, e3, eo_no]
    rintro ⟨hl, hb⟩
    unfold btx at c
    rw [if_pos hl] at c
    exact c hb
theorem PP.vl_b {t : Nat → Int32} {b : Nat} : ∀ k, k ≤ 5 → (∀ j, j < k → di (t (b + j)) = true) → ∃ m, m < 10 ^ k ∧ vl t b k = nI m
  | 0, _, _ => ⟨0, by decide, rfl⟩
  | k + 1, hk, hd => by
    obtain ⟨m, h1, h2⟩ := vl_b k (by omega) (fun j hj => hd j (by omega))
    have hc := hd k (by omega)
    unfold di at hc
    rw [decide_eq_true_eq] at hc
    obtain ⟨x, hx, e⟩ := nI_of (show (0 : Int32) ≤ t (b + k) - 48 by grind)
    have hx9 : x < 10 := by
      have : nI x < nI 10 := by rw [← e, show nI 10 = 10 from rfl]; grind
      exact (nI_lt (by omega) (by omega)).mp this
    refine ⟨10 * m + x, by rw [Nat.pow_succ]; omega, ?_⟩
    rw [vl_s, h2, show (10 : Int32) = nI 10 from rfl, nI_mul, ← nI_add, ← e]
    grind
theorem PP.m_digits {N n e : Nat} {t : Nat → Int32} {τ : Sg} (hN : 1000 < N) (h : TMl t n τ) (he : e ≤ n) (h14 : τ 0 14 = nI e) (h17 : τ 0 17 = 0) : Ev (it (fun q => s_X12_stepOn_h123 N q) N τ) (fun z => z.2 0 14 = nI (eo di t n e) ∧ (eo di t n e - e ≤ 4 → z.2 0 17 = vl t e (eo di t n e - e)) ∧ FM [] [14, 17] τ z.2) := by
  have hn := h.1
  refine ev_lp (fun (k : Nat) (q : Sg) => q 0 14 = nI (e + k) ∧ e + k ≤ n ∧ eo di t n e = eo di t n (e + k) ∧ (k ≤ 4 → q 0 17 = vl t e k) ∧ (∀ j, j < k → di (t (e + j)) = true) ∧ FM [] [14, 17] τ q) (n - e) N _ (by omega) ⟨h14, he, rfl, fun _ => h17, fun j hj => absurd hj (by omega), FM.refl _ _ _⟩ ?_
  rintro k τ1 hk ⟨e1, e2, e3, e4, e5, hf⟩
  have h1 := h.f hf (by decide) (by decide)
  unfold s_X12_stepOn_h123
  rw [e1, m_byte h1 e2, Option.bind_some]
  dsimp only
  rw [m_dig, Option.bind_some]
  dsimp only
  by_cases c : di (btx t n (e + k)) = true
  · have hl : e + k < n := by
      by_cases hl : e + k < n
      · exact hl
      · unfold btx at c; rw [if_neg hl] at c; exact absurd c (by decide)
    have hbt : btx t n (e + k) = t (e + k) := by unfold btx; rw [if_pos hl]
    rw [hbt] at c
    rw [if_neg (by rw [hbt, if_pos c]; decide), e1, m_byte h1 e2, Option.bind_some]
    dsimp only
    rw [ev_bd, ev_bd, ev_s, hbt]
    have e5' : ∀ j, j < k + 1 → di (t (e + j)) = true := by
      intro j hj
      by_cases ejk : j = k
      · subst ejk; exact c
      · exact e5 j (by omega)
    refine Or.inl ⟨rfl, by omega, ?_, by omega, ?_, ?_, e5', (hf.w0 (by decide)).w0 (by decide)⟩
    · dsimp only; rw [wr_e, upd_e, wr_e, upd_n (by decide), e1, nI_s]; rfl
    · rw [e3, eo_go hl c]; rfl
    · intro hk4
      dsimp only
      rw [wr_e, upd_n (by decide), wr_e, upd_e]
      have ee := e4 (by omega)
      obtain ⟨m, hm, hv⟩ := vl_b (t := t) (b := e) (k + 1) (by omega) e5'
      have hm2 : m < 100000 := by
        have : 10 ^ (k + 1) ≤ 10 ^ 4 := Nat.pow_le_pow_right (by omega) hk4
        omega
      rw [vl_s, ← ee] at hv
      rw [vl_s, ← ee]
      exact if_pos (by rw [hv, show (100000 : Int32) = nI 100000 from rfl, nI_lt (by omega) (by omega)]; exact hm2)
  · rw [if_pos (by rw [if_neg c]), ev_s]
    have hE : eo di t n e = e + k := by
      rw [e3, eo_no]
      rintro ⟨hl, hb⟩
      unfold btx at c
      rw [if_pos hl] at c
      exact c hb
    refine Or.inr ⟨Nat.one_ne_zero, ?_, ?_, hf⟩
    · dsimp only; rw [e1, hE]
    · dsimp only; rw [hE, show e + k - e = k by omega]; exact e4
def PP.mt (k : Nat) : Int32 := if k = 0 then 0 else if k = 1 then 4 else if k = 2 then 2 else if 4 ≤ k ∧ k ≤ 12 then 3 else 1
def PP.PSM (t : Nat → Int32) (n p : Nat) (τ : Sg) : Prop := p ≤ n ∧ TMl t n τ ∧ τ 0 18 = nI (tb t n p) ∧ τ 0 14 = nI (te t n p) ∧ τ 0 19 = nI (te t n p) ∧ τ 0 16 = mt (tk t n p) ∧ (tk t n p = 2 → te t n p - tb t n p ≤ 4 → τ 0 17 = vl t (tb t n p) (te t n p - tb t n p))
theorem PP.m_stepOn {N n e : Nat} {t : Nat → Int32} {τ : Sg} (hN : 1000 < N) (h : TMl t n τ) (he : e ≤ n) (h14 : τ 0 14 = nI e) : Ev (f_X12_stepOn N τ) (fun τ' => PSM t n e τ' ∧ FM [] [14, 16, 17, 18, 19] τ τ') := by
  have hn := h.1
  unfold f_X12_stepOn
  refine (m_skip hN h he h14).bind ?_
  rintro ⟨_, τ1⟩ ⟨e1, hf1⟩
  dsimp only at e1 hf1 ⊢
  rw [ev_bd]
  have f2 : FM [] [14, 16, 17, 18, 19] τ (wr τ1 0 18 (τ1 0 14)) := (hf1.mo (by decide) (by decide)).w0 (by decide)
  have h2 := h.f f2 (by decide) (by decide)
  have g18 : wr τ1 0 18 (τ1 0 14) 0 18 = nI (tb t n e) := by rw [wr_e, upd_e]; exact e1
  have g14 : wr τ1 0 18 (τ1 0 14) 0 14 = nI (tb t n e) := by rw [wr_e, upd_n (by decide)]; exact e1
  generalize wr τ1 0 18 (τ1 0 14) = τ2 at *
  obtain ⟨⟨r1, r2, r3⟩, hc⟩ := tk_c t n e he
  rw [g14, m_byte h2 (by omega), Option.bind_some]
  dsimp only
  rw [ev_bd]
  unfold f_X12_stepOn_b209 f_X12_stepOn_b212
  have fin : ∀ (τ3 : Sg) (s : Int32), FM [] [14, 16, 17] τ2 τ3 → τ3 0 14 = nI (te t n e) → s = mt (tk t n e) → (tk t n e = 2 → te t n e - tb t n e ≤ 4 → τ3 0 17 = vl t (tb t n e) (te t n e - tb t n e)) → Ev (bd (wr τ3 0 16 s) fun σ13 => bd (wr σ13 0 19 (σ13 0 14)) fun σ12 => some σ12) (fun τ' => PSM t n e τ' ∧ FM [] [14, 16, 17, 18, 19] τ τ') := by
    intro τ3 s hf3 a1 a2 a3
    rw [ev_bd, ev_bd, ev_s]
    have f4 : FM [] [14, 16, 17, 18, 19] τ (wr (wr τ3 0 16 s) 0 19 (wr τ3 0 16 s 0 14)) := (((f2.tr (hf3.mo (by decide) (by decide))).w0 (by decide))).w0 (by decide)
    refine ⟨⟨he, h.f f4 (by decide) (by decide), ?_, ?_, ?_, ?_, ?_⟩, f4⟩
    · rw [wr_e, upd_n (by decide), wr_e, upd_n (by decide), hf3.2 18 (by decide)]; exact g18
    · rw [wr_e, upd_n (by decide), wr_e, upd_n (by decide)]; exact a1
    · rw [wr_e, upd_e, wr_e, upd_n (by decide)]; exact a1
    · rw [wr_e, upd_n (by decide), wr_e, upd_e]; exact a2
    · intro x1 x2
      rw [wr_e, upd_n (by decide), wr_e, upd_n (by decide)]; exact a3 x1 x2
  rcases hc with ⟨q1, q2, q3⟩ | ⟨q1, q2, q3, hc⟩
  · rw [if_pos (by unfold btx; rw [if_neg (by omega)])]
    exact fin τ2 0 (FM.refl _ _ _) (by rw [g14, q1, q2]) (by rw [q3]; rfl) (by rw [q3]; intro hh; omega)
  · have hbt : btx t n (tb t n e) = t (tb t n e) := by unfold btx; rw [if_pos q1]
    obtain ⟨k0, hk0, ek0⟩ := h.2.2.2 _ q1
    rw [hbt, if_neg (by rw [ek0]; exact nI_m1 (by omega)), m_let, Option.bind_some]
    dsimp only
    rcases hc with ⟨d1, d2, d3, d4⟩ | ⟨d1, d2, d3, d4, d5, d6⟩ | ⟨d1, d2, d3, d4, d5⟩
    · rw [d2, if_pos (by decide), m_dig, Option.bind_some]
      dsimp only
      rw [d1, if_neg (by decide), ev_bd]
      have f3 : FM [] [17] τ2 (wr τ2 0 17 0) := (FM.refl _ _ _).w0 (by decide)
      refine (m_digits (e := tb t n e) hN (h2.f f3 (by decide) (by decide)) (by omega) (by rw [f3.2 14 (by decide)]; exact g14) (by rw [wr_e, upd_e])).bind ?_
      rintro ⟨_, τ4⟩ ⟨k1, k2, hf4⟩
      dsimp only at k1 k2 hf4 ⊢
      rw [← d3] at k1 k2
      exact fin τ4 2 ((f3.mo (by decide) (by decide)).tr (hf4.mo (by decide) (by decide))) k1 (by rw [d4]; rfl) (fun _ => k2)
    · rw [d2, if_neg (by decide)]
      refine (m_letters hN h2 (by omega) g14).bind ?_
      rintro ⟨_, τ4⟩ ⟨k1, hf4⟩
      dsimp only at k1 hf4 ⊢
      rw [← d3] at k1
      exact fin τ4 1 (hf4.mo (by decide) (by decide)) k1 (by unfold mt; rw [if_neg (by omega), if_neg (by omega), if_neg (by omega), if_neg (by omega)]) (fun hh => by omega)
    · rw [d2, if_pos (by decide), m_dig, Option.bind_some]
      dsimp only
      rw [d1, if_pos (by decide), ev_bd, m_mk, Option.bind_some]
      dsimp only
      have tm := (tk_m he q1 d1 d2).1
      have f3 : FM [] [14, 16, 17] τ2 (wr τ2 0 14 (τ2 0 14 + 1)) := (FM.refl _ _ _).w0 (by decide)
      have k1 : wr τ2 0 14 (τ2 0 14 + 1) 0 14 = nI (te t n e) := by rw [wr_e, upd_e, g14, nI_s, d3]
      by_cases c : mkb (t (tb t n e)) = true
      · rw [if_pos c, if_neg (by decide)]
        have := tm.mp c
        exact fin _ 3 f3 k1 (by unfold mt; rw [if_neg (by omega), if_neg (by omega), if_neg (by omega), if_pos (by omega)]) (fun hh => by omega)
      · rw [if_neg c, if_pos rfl]
        have : tk t n e = 1 := by
          rcases d4 with d4 | d4
          · exact d4
          · exact absurd (tm.mpr d4) c
        exact fin _ 4 f3 k1 (by rw [this]; rfl) (fun hh => by omega)
