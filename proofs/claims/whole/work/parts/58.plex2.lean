/-! ===== the class's tokens ===== -/
def PP.F2 (J : List Nat) (σ σ' : Sg) : Prop := (∀ c, c ≠ 2 → σ' c = σ c) ∧ ∀ j, j ∉ J → σ' 2 j = σ 2 j
theorem PP.F2.refl (J : List Nat) (σ : Sg) : F2 J σ σ := ⟨fun _ _ => rfl, fun _ _ => rfl⟩
theorem PP.F2.tr {J : List Nat} {a b c : Sg} (h : F2 J a b) (k : F2 J b c) : F2 J a c := ⟨fun x h0 => (k.1 x h0).trans (h.1 x h0), fun x hx => (k.2 x hx).trans (h.2 x hx)⟩
theorem PP.F2.mo {J K : List Nat} {a b : Sg} (h : F2 J a b) (d : ∀ c, c ∈ J → c ∈ K) : F2 K a b := ⟨h.1, fun x hx => h.2 x (fun y => hx (d x y))⟩
theorem PP.F2.w {J : List Nat} {a b : Sg} {j : Nat} {v : Int32} (h : F2 J a b) (d : j ∈ J) : F2 J a (wr b 2 j v) := ⟨fun x h0 => (wr_n h0).trans (h.1 x h0), fun x hx => by rw [wr_e, upd_n (fun e => hx (by rw [e]; exact d))]; exact h.2 x hx⟩
def PP.TCl (t : Nat → Int32) (n : Nat) (σ : Sg) : Prop := (n ≤ 700 ∧ σ 2 2 = -1) ∧ σ 2 4 = nI n ∧ ∀ i, i < n → byC (σ 1 i) (t i)
theorem PP.TCl.f {t : Nat → Int32} {n : Nat} {σ σ' : Sg} {J : List Nat} (h : TCl t n σ) (f : F2 J σ σ') (d : 4 ∉ J) (d2 : 2 ∉ J := by decide) : TCl t n σ' := by
  unfold TCl at h ⊢
  rw [f.1 1 (by decide), f.2 4 d, f.2 2 d2]; exact h
theorem PP.c_let {N n i : Nat} {t : Nat → Int32} {σ : Sg} (h : TCl t n σ) (hi : i < n) : f_X3_isLetter_2 N (nI i) σ = some ((if le (t i) = true then 1 else 0), σ) := by
  obtain ⟨⟨h1, -⟩, h2, h3⟩ := h
  have hb := by_in (c := 97) (d := 122) (h3 i hi) (by decide)
  unfold f_X3_isLetter_2 f_X3_isLetter_2_b26 le
  rw [if_neg (gdn (by omega) (by omega)), nI_cl (by omega), if_neg (gdc (by omega) (by omega))]
  simp only [decide_eq_true_eq, ← hb]
  by_cases c1 : σ 1 i < 97
  · rw [if_pos c1, if_neg (fun h => by have := h.1; grind)]
  · rw [if_neg c1]
    by_cases c2 : 122 < σ 1 i
    · rw [if_pos c2, if_neg (fun h => by have := h.2; grind)]
    · rw [if_neg c2, if_pos ⟨by grind, by grind⟩]
theorem PP.c_dig {N n i : Nat} {t : Nat → Int32} {σ : Sg} (h : TCl t n σ) (hi : i < n) : f_X3_isDigit_2 N (nI i) σ = some ((if di (t i) = true then 1 else 0), σ) := by
  obtain ⟨⟨h1, -⟩, h2, h3⟩ := h
  have hb := by_in (c := 48) (d := 57) (h3 i hi) (by decide)
  unfold f_X3_isDigit_2 f_X3_isDigit_2_b26 di
  rw [if_neg (gdn (by omega) (by omega)), nI_cl (by omega), if_neg (gdc (by omega) (by omega))]
  simp only [decide_eq_true_eq, ← hb]
  by_cases c1 : σ 1 i < 48
  · rw [if_pos c1, if_neg (fun h => by have := h.1; grind)]
  · rw [if_neg c1]
    by_cases c2 : 57 < σ 1 i
    · rw [if_pos c2, if_neg (fun h => by have := h.2; grind)]
    · rw [if_neg c2, if_pos ⟨by grind, by grind⟩]
theorem PP.c_skip {N n e : Nat} {t : Nat → Int32} {σ : Sg} (hN : 1000 < N) (h : TCl t n σ) (he : e ≤ n) (h6 : σ 2 6 = nI e) : Ev (it (fun q => s_X3_advance_2_h8 N q) N σ) (fun z => z.2 2 6 = nI (eo bl t n e) ∧ F2 [6] σ z.2) := by
  have hn := h.1.1
  refine ev_lp (fun (k : Nat) (q : Sg) => q 2 6 = nI (e + k) ∧ e + k ≤ n ∧ eo bl t n e = eo bl t n (e + k) ∧ F2 [6] σ q) (n - e) N _ (by omega) ⟨h6, he, rfl, F2.refl _ _⟩ ?_
  rintro k σ1 hk ⟨e1, e2, e3, hf⟩
  have h1 := h.f hf (by decide)
  unfold s_X3_advance_2_h8 f_X3_advance_2_b47
  rw [h1.2.1, e1]
  by_cases hkn : e + k = n
  · rw [if_pos (by rw [hkn]; exact Int32.le_refl _), ev_s]
    refine Or.inr ⟨Nat.one_ne_zero, ?_, hf⟩
    dsimp only
    rw [e1, e3, eo_no (fun x => by omega)]
  · have hlt : e + k < n := by omega
    rw [if_neg (by rw [nI_le (by omega) (by omega)]; omega), if_neg (gdn (by omega) (by omega)), nI_cl (by omega), if_neg (gdc (by omega) (by omega))]
    have b1 := by_eq (c := 32) (h1.2.2 (e + k) hlt) (by decide)
    have b2 := by_eq (c := 10) (h1.2.2 (e + k) hlt) (by decide)
    have go : bl (t (e + k)) = true → Ev (bd (wr σ1 2 6 (nI (e + k) + 1)) fun σ1 => some (0, σ1)) (fun r => (r.1 = 0 ∧ k < n - e ∧ r.2 2 6 = nI (e + (k + 1)) ∧ e + (k + 1) ≤ n ∧ eo bl t n e = eo bl t n (e + (k + 1)) ∧ F2 [6] σ r.2) ∨ (r.1 ≠ 0 ∧ r.2 2 6 = nI (eo bl t n e) ∧ F2 [6] σ r.2)) := by
      intro hb
      rw [ev_bd, ev_s]
      refine Or.inl ⟨rfl, by omega, ?_, by omega, ?_, hf.w (by decide)⟩
      · dsimp only; rw [wr_e, upd_e, nI_s]; rfl
      · rw [e3, eo_go hlt hb]; rfl
    by_cases c1 : t (e + k) = 32
    · rw [if_pos (b1.mpr c1)]
      exact go (by unfold bl; exact decide_eq_true (Or.inl c1))
    · rw [if_neg (fun x => c1 (b1.mp x))]
      by_cases c2 : t (e + k) = 10
      · rw [if_pos (b2.mpr c2)]
        exact go (by unfold bl; exact decide_eq_true (Or.inr c2))
      · rw [if_neg (fun x => c2 (b2.mp x)), ev_s]
        refine Or.inr ⟨Nat.one_ne_zero, ?_, hf⟩
        dsimp only
        rw [e1, e3, eo_no]
        rintro ⟨-, hb⟩
        unfold bl at hb
        rw [decide_eq_true_eq] at hb
        exact hb.elim c1 c2
theorem PP.c_stands {N n b e i : Nat} {t : Nat → Int32} {σ : Sg} (hN : 1000 < N) (h : TCl t n σ) (hb : b < e) (he : e ≤ n) (hi : i < 27) : f_X8_stands_1 N (nI i) (nI b) (nI e) σ = some ((if sd t b e i = true then 1 else 0), σ) := by
  obtain ⟨⟨h1, -⟩, h2, h3⟩ := h
  have tl := tab_l (14 + i) (by omega)
  have esub : nI e - nI b = nI (e - b) := by
    rw [show nI e = nI (e - b) + nI b by rw [nI_add, show e - b + b = e by omega]]; grind
  unfold f_X8_stands_1 f_X8_stands_1_b23
  rw [if_neg (gdn (by omega) (by omega)), nI_cl (show i < 2147483648 by omega), if_neg (show ¬ ¬ 14 + i < 41 by omega), if_neg (gdc (by omega) (by omega)), if_neg (show ¬ ¬ 14 + i < 41 by omega), esub]
  by_cases hl0 : tlen (14 + i) = 0
  · rw [if_neg (by rw [hl0]; decide), if_neg (fun hh => (sd_iff.mp hh).1 hl0)]
  · rw [if_pos (by rw [if_neg (by rw [← nI_0, nI_eq (by omega) (by omega)]; exact hl0)])]
    by_cases hle : tlen (14 + i) = e - b
    · rw [if_pos (by rw [hle]), ← ev_eq, ev_b]
      refine ev_lp (fun (k : Nat) (q : Int32 × Sg) => q = (nI (b + k), σ) ∧ ∀ j, j < k → t (b + j) = tch (14 + i) j) (e - b) N _ (by omega) ⟨rfl, fun j hj => absurd hj (by omega)⟩ ?_
      rintro k _ hk ⟨rfl, hq⟩
      unfold s_X8_stands_1_h28
      dsimp only
      by_cases hke : k = e - b
      · rw [if_pos (by rw [hke, nI_le (by omega) (by omega)]; omega), ev_s]
        refine Or.inr ⟨by simp, ?_⟩
        dsimp only
        rw [if_neg (by decide), ev_s, if_pos (sd_iff.mpr ⟨hl0, hle, fun j hj => hq j (by omega)⟩)]
      · have hsub : nI (b + k) - nI b = nI k := by rw [← nI_add]; grind
        rw [if_neg (by rw [nI_le (by omega) (by omega)]; omega), if_neg (by rw [show (700 : Int32) = nI 700 from rfl, nI_le (by omega) (by omega)]; omega), if_neg (gdn (by omega) (by omega)), if_neg (gdn (by omega) (by omega)), nI_cl (show i < 2147483648 by omega), if_neg (show ¬ ¬ 14 + i < 41 by omega), hsub, if_neg (gdn (by omega) (by omega)), nI_cl (show b + k < 2147483648 by omega), nI_cl (show k < 2147483648 by omega), nI_s]
        have hby := (h3 (b + k) (by omega)).1
        by_cases hc : t (b + k) = tch (14 + i) k
        · rw [if_pos (show σ 1 (b + k) &&& 255 = tch (14 + i) k by rw [hby]; exact hc), ev_bd, ev_s]
          refine Or.inl ⟨rfl, by omega, rfl, fun j hj => ?_⟩
          by_cases ejk : j = k
          · subst ejk; exact hc
          · exact hq j (by omega)
        · rw [if_neg (show ¬ σ 1 (b + k) &&& 255 = tch (14 + i) k by rw [hby]; exact hc), ev_s]
          refine Or.inr ⟨by simp, ?_⟩
          dsimp only
          rw [if_pos rfl, ev_s, if_neg (fun hh => hc ((sd_iff.mp hh).2.2 k (by omega)))]
    · rw [if_neg (by rw [nI_eq (by omega) (by omega)]; exact hle), if_neg (fun hh => hle (sd_iff.mp hh).2.1)]
theorem PP.c_name {N n b : Nat} {t : Nat → Int32} {σ : Sg} (hN : 1000 < N) (h : TCl t n σ) (hb : b < n) (h6 : σ 2 6 = nI b) (h8 : σ 2 8 = if le (t b) = true then 1 else 0) : Ev (f_X3_takeName_2 N σ) (fun σ' => σ' 2 7 = nI (if le (t b) = true then eo le t n b else b + 1) ∧ σ' 2 5 = nI (nk t b (if le (t b) = true then eo le t n b else b + 1) (if le (t b) = true then 3 else 1) 27) ∧ F2 [5, 7] σ σ') := by
  have hn := h.1.1
  unfold f_X3_takeName_2
  rw [ev_bd]
  have f1 : F2 [7] σ (wr σ 2 7 (σ 2 6 + 1)) := (F2.refl _ _).w (by decide)
  refine Ev.bind (P := fun z => z.2 2 7 = nI (if le (t b) = true then eo le t n b else b + 1) ∧ F2 [7] σ z.2) ?_ ?_
  · refine ev_lp (fun (k : Nat) (q : Sg) => q 2 7 = nI (b + 1 + k) ∧ b + 1 + k ≤ n ∧ (le (t b) = true → eo le t n b = eo le t n (b + 1 + k)) ∧ (le (t b) = false → k = 0) ∧ F2 [7] σ q) (n - b) N _ (by omega) ⟨by rw [wr_e, upd_e, h6, nI_s], by omega, fun hl => eo_go hb hl, fun _ => rfl, f1⟩ ?_
    rintro k σ1 hk ⟨e1, e2, e3, e4, hf⟩
    have h1 := h.f hf (by decide)
    unfold s_X3_takeName_2_h10
    have e8 : σ1 2 8 = if le (t b) = true then 1 else 0 := by rw [hf.2 8 (by decide)]; exact h8
    cases hl : le (t b) with
    | false =>
      rw [hl, if_neg (by decide)] at e8
      rw [if_pos e8, ev_s]
      refine Or.inr ⟨Nat.one_ne_zero, ?_, hf⟩
      dsimp only
      rw [e1, e4 hl, if_neg (by decide)]
    | true =>
      rw [hl, if_pos rfl] at e8
      rw [if_neg (show ¬ σ1 2 8 = 0 by rw [e8]; decide), h1.2.1, e1]
      have e3 := e3 hl
      by_cases hkn : b + 1 + k = n
      · rw [if_pos (by rw [hkn]; exact Int32.le_refl _), ev_s]
        refine Or.inr ⟨Nat.one_ne_zero, ?_, hf⟩
        dsimp only
        rw [e1, if_pos rfl, e3, eo_no (fun x => by omega)]
      · have hlt : b + 1 + k < n := by omega
        rw [if_neg (by rw [nI_le (by omega) (by omega)]; omega), c_let h1 hlt, Option.bind_some]
        dsimp only
        by_cases c1 : le (t (b + 1 + k)) = true
        · rw [if_pos c1, if_neg (by decide), ev_bd, ev_s]
          refine Or.inl ⟨rfl, by omega, ?_, by omega, fun _ => ?_, fun x => absurd x (by decide), hf.w (by decide)⟩
          · dsimp only; rw [wr_e, upd_e, e1, nI_s]; rfl
          · rw [e3, eo_go hlt c1]; rfl
        · rw [if_neg c1, if_pos rfl, ev_s]
          refine Or.inr ⟨Nat.one_ne_zero, ?_, hf⟩
          dsimp only
          rw [e1, if_pos rfl, e3, eo_no (fun x => c1 x.2)]
  rintro ⟨_, σ1⟩ ⟨e7, hf⟩
  dsimp only at e7 hf ⊢
  have h1 := h.f hf (by decide)
  generalize hE : (if le (t b) = true then eo le t n b else b + 1) = e at e7 ⊢
  have hbe : b < e ∧ e ≤ n := by
    rw [← hE]
    by_cases hl : le (t b) = true
    · rw [if_pos hl, eo_go hb hl]
      have := eo_rg (P := le) (t := t) (n := n) _ (b + 1) rfl (by omega)
      omega
    · rw [if_neg hl]; omega
  have e8 : σ1 2 8 = if le (t b) = true then 1 else 0 := by rw [hf.2 8 (by decide)]; exact h8
  have key : ∀ d : Nat, d < 27 → Ev (f_X3_takeName_2_b69 N (nI d) σ1) (fun σ' => σ' 2 7 = nI e ∧ σ' 2 5 = nI (nk t b e d 27) ∧ F2 [5, 7] σ σ') := by
    intro d hd
    unfold f_X3_takeName_2_b69
    rw [ev_bd, ev_b]
    refine ev_lp (fun (k : Nat) (q : Int32 × Sg) => q.1 = nI k ∧ q.2 2 5 = nI (nk t b e d k) ∧ F2 [5] σ1 q.2) 27 N _ (by omega) ⟨rfl, by dsimp only; rw [wr_e, upd_e]; rfl, (F2.refl _ _).w (by decide)⟩ ?_
    rintro k ⟨_, σ2⟩ hk ⟨e1, e5, hf2⟩
    dsimp only at e1 e5 hf2
    subst e1
    have h2 := h1.f hf2 (by decide)
    unfold s_X3_takeName_2_h74 f_X3_takeName_2_b114
    dsimp only
    by_cases hk2 : k = 27
    · subst hk2
      rw [if_pos (by decide), ev_s]
      refine Or.inr ⟨Nat.one_ne_zero, ev_s.mpr ⟨?_, e5, (hf.mo (by decide)).tr (hf2.mo (by decide))⟩⟩
      dsimp only; rw [hf2.2 7 (by decide)]; exact e7
    · rw [if_neg (by rw [show (27 : Int32) = nI 27 from rfl, nI_le (by omega) (by omega)]; omega), if_neg (gdn (by omega) (by omega)), if_neg (gdn (by omega) (by omega)), show σ2 2 6 = nI b by rw [hf2.2 6 (by decide), hf.2 6 (by decide)]; exact h6, show σ2 2 7 = nI e by rw [hf2.2 7 (by decide)]; exact e7, c_stands hN h2 hbe.1 hbe.2 (by omega), Option.bind_some, nI_s]
      dsimp only
      by_cases hs : sd t b e k = true
      · rw [if_pos hs, if_neg (by decide), if_neg (gdn (by omega) (by omega)), ev_bd, ev_bd, ev_s]
        refine Or.inl ⟨rfl, by omega, rfl, ?_, hf2.w (by decide)⟩
        dsimp only; rw [wr_e, upd_e, nk_s, if_pos hs]
      · rw [if_neg hs, if_pos rfl, ev_bd, ev_s]
        refine Or.inl ⟨rfl, by omega, rfl, ?_, hf2⟩
        dsimp only; rw [e5, nk_s, if_neg hs]
  cases hl : le (t b) with
  | true =>
    rw [hl, if_pos rfl] at e8
    rw [if_neg (show ¬ σ1 2 8 = 0 by rw [e8]; decide)]
    exact key 3 (by omega)
  | false =>
    rw [hl, if_neg (by decide)] at e8
    rw [if_pos e8]
    exact key 1 (by omega)
theorem PP.c_number {N n b : Nat} {t : Nat → Int32} {σ : Sg} (hN : 1000 < N) (h : TCl t n σ) (hb : b < n) (h7 : σ 2 7 = nI b) : Ev (f_X3_takeNumber_2 N σ) (fun σ' => σ' 2 7 = nI (eo di t n b) ∧ σ' 2 5 = 2 ∧ σ' 2 9 = nI (eo di t n b - b) ∧ (eo di t n b - b ≤ 4 → σ' 2 10 = vl t b (eo di t n b - b)) ∧ F2 [5, 7, 9, 10] σ σ') := by
  have hn := h.1.1
  unfold f_X3_takeNumber_2
  rw [ev_bd, ev_bd, ev_b]
  have f1 : F2 [5, 7, 9, 10] σ (wr (wr σ 2 9 0) 2 10 0) := ((F2.refl _ _).w (by decide)).w (by decide)
  refine ev_lp (fun (k : Nat) (q : Sg) => q 2 7 = nI (b + k) ∧ b + k ≤ n ∧ eo di t n b = eo di t n (b + k) ∧ q 2 9 = nI k ∧ (k ≤ 4 → q 2 10 = vl t b k) ∧ F2 [5, 7, 9, 10] σ q) (n - b) N _ (by omega) ⟨by rw [wr_e, upd_n (by decide), wr_e, upd_n (by decide)]; exact h7, by omega, rfl, by rw [wr_e, upd_n (by decide), wr_e, upd_e]; rfl, fun _ => by rw [wr_e, upd_e]; rfl, f1⟩ ?_
  rintro k σ1 hk ⟨e1, e2, e3, e4, e5, hf⟩
  have h1 := h.f hf (by decide)
  have fin : eo di t n b = b + k → Ev (bd (wr σ1 2 5 2) fun σ9 => some σ9) (fun σ' => σ' 2 7 = nI (eo di t n b) ∧ σ' 2 5 = 2 ∧ σ' 2 9 = nI (eo di t n b - b) ∧ (eo di t n b - b ≤ 4 → σ' 2 10 = vl t b (eo di t n b - b)) ∧ F2 [5, 7, 9, 10] σ σ') := by
    intro hE
    rw [ev_bd, ev_s, hE, show b + k - b = k by omega]
    refine ⟨?_, ?_, ?_, ?_, hf.w (by decide)⟩
    · rw [wr_e, upd_n (by decide)]; exact e1
    · rw [wr_e, upd_e]
    · rw [wr_e, upd_n (by decide)]; exact e4
    · intro hk4; rw [wr_e, upd_n (by decide)]; exact e5 hk4
  unfold s_X3_takeNumber_2_h10 f_X3_takeNumber_2_b74
  rw [h1.2.1, e1]
  by_cases hkn : b + k = n
  · rw [if_pos (by rw [hkn]; exact Int32.le_refl _), ev_s]
    exact Or.inr ⟨Nat.one_ne_zero, fin (by rw [e3, eo_no (fun x => by omega)])⟩
  · have hlt : b + k < n := by omega
    rw [if_neg (by rw [nI_le (by omega) (by omega)]; omega), c_dig h1 hlt, Option.bind_some]
    dsimp only
    by_cases c1 : di (t (b + k)) = true
    · have hv : σ1 1 (b + k) = t (b + k) := by
        rcases by_cmp (h1.2.2 (b + k) hlt) with ⟨-, h⟩ | ⟨-, h⟩
        · exact h
        · unfold di at c1
          rw [decide_eq_true_eq] at c1
          have := c1.2
          exact absurd (Int32.le_trans h this) (by decide)
      rw [if_pos c1, if_neg (by decide), ev_bd]
      have g9 : wr σ1 2 9 (σ1 2 9 + 1) 2 9 = nI (k + 1) := by rw [wr_e, upd_e, e4, nI_s]
      have g7 : wr σ1 2 9 (σ1 2 9 + 1) 2 7 = nI (b + k) := by rw [wr_e, upd_n (by decide)]; exact e1
      have g10 : wr σ1 2 9 (σ1 2 9 + 1) 2 10 = σ1 2 10 := by rw [wr_e, upd_n (by decide)]
      have g1 : wr σ1 2 9 (σ1 2 9 + 1) 1 = σ1 1 := wr_n (by decide)
      have hf2 : F2 [5, 7, 9, 10] σ (wr σ1 2 9 (σ1 2 9 + 1)) := hf.w (by decide)
      rw [g9]
      by_cases hk4 : k < 4
      · rw [if_neg (by rw [show (4 : Int32) = nI 4 from rfl, nI_lt (by omega) (by omega)]; omega), g7, if_neg (gdn (by omega) (by omega)), nI_cl (by omega), ev_bd, ev_bd, ev_s, g10, g1, hv, e5 (by omega)]
        refine Or.inl ⟨rfl, by omega, ?_, by omega, ?_, ?_, ?_, (hf2.w (by decide)).w (by decide)⟩
        · dsimp only; rw [wr_e, upd_e, wr_e, upd_n (by decide), g7, nI_s]; rfl
        · rw [e3, eo_go hlt c1]; rfl
        · dsimp only; rw [wr_e, upd_n (by decide), wr_e, upd_n (by decide)]; exact g9
        · intro _; dsimp only; rw [wr_e, upd_n (by decide), wr_e, upd_e, vl_s]
      · rw [if_pos (by rw [show (4 : Int32) = nI 4 from rfl, nI_lt (by omega) (by omega)]; omega), ev_bd, ev_s]
        refine Or.inl ⟨rfl, by omega, ?_, by omega, ?_, ?_, ?_, hf2.w (by decide)⟩
        · dsimp only; rw [wr_e, upd_e, g7, nI_s]; rfl
        · rw [e3, eo_go hlt c1]; rfl
        · dsimp only; rw [wr_e, upd_n (by decide)]; exact g9
        · intro h; omega
    · rw [if_neg c1, if_pos rfl, ev_s]
      exact Or.inr ⟨Nat.one_ne_zero, fin (by rw [e3, eo_no (fun x => c1 x.2)])⟩
def PP.isw (k : Nat) : Bool := decide (k = 3 ∨ 13 ≤ k)
def PP.PSC (t : Nat → Int32) (n p : Nat) (σ : Sg) : Prop := p ≤ n ∧ TCl t n σ ∧ σ 2 6 = nI (tb t n p) ∧ σ 2 7 = nI (te t n p) ∧ σ 2 5 = nI (tk t n p) ∧ σ 2 8 = (if isw (tk t n p) = true then 1 else 0) ∧ (tk t n p = 2 → σ 2 9 = nI (te t n p - tb t n p) ∧ (te t n p - tb t n p ≤ 4 → σ 2 10 = vl t (tb t n p) (te t n p - tb t n p)))
theorem PP.c_advance {N n e : Nat} {t : Nat → Int32} {σ : Sg} (hN : 1000 < N) (h : TCl t n σ) (he : e ≤ n) (h7 : σ 2 7 = nI e) : Ev (f_X3_advance_2 N σ) (fun σ' => PSC t n e σ' ∧ F2 [5, 6, 7, 8, 9, 10] σ σ') := by
  have hn := h.1.1
  unfold f_X3_advance_2
  rw [ev_bd]
  have f1 : F2 [5, 6, 7, 8, 9, 10] σ (wr σ 2 6 (σ 2 7)) := (F2.refl _ _).w (by decide)
  refine (c_skip hN (h.f f1 (by decide)) he (by rw [wr_e, upd_e]; exact h7)).bind ?_
  rintro ⟨_, σ1⟩ ⟨e6, hf1⟩
  dsimp only at e6 hf1 ⊢
  rw [ev_bd]
  have f2 : F2 [5, 6, 7, 8, 9, 10] σ (wr σ1 2 7 (σ1 2 6)) := (f1.tr (hf1.mo (by decide))).w (by decide)
  have h2 := h.f f2 (by decide)
  have g6 : wr σ1 2 7 (σ1 2 6) 2 6 = nI (tb t n e) := by rw [wr_e, upd_n (by decide)]; exact e6
  have g7 : wr σ1 2 7 (σ1 2 6) 2 7 = nI (tb t n e) := by rw [wr_e, upd_e]; exact e6
  generalize wr σ1 2 7 (σ1 2 6) = σ2 at *
  obtain ⟨⟨r1, r2, r3⟩, hc⟩ := tk_c t n e he
  rw [h2.2.1, g6]
  unfold f_X3_advance_2_b95 f_X3_advance_2_b96
  have c4 : ∀ (σ3 : Sg) (v : Int32), F2 [8] σ2 σ3 → σ3 2 4 = nI n ∧ σ3 2 6 = nI (tb t n e) := fun σ3 v hf => ⟨by rw [hf.2 4 (by decide)]; exact h2.2.1, by rw [hf.2 6 (by decide)]; exact g6⟩
  rcases hc with ⟨q1, q2, q3⟩ | ⟨q1, q2, q3, hc⟩
  · rw [if_pos (by rw [q1]; exact Int32.le_refl _), if_neg (by decide), ev_bd]
    have f3 : F2 [8] σ2 (wr σ2 2 8 0) := (F2.refl _ _).w (by decide)
    obtain ⟨s4, s6⟩ := c4 _ 0 f3
    rw [s4, s6, if_neg (by rw [q1, nI_lt (by omega) (by omega)]; omega), ev_bd, ev_s]
    have f4 : F2 [5, 6, 7, 8, 9, 10] σ (wr (wr σ2 2 8 0) 2 5 0) := (f2.w (by decide)).w (by decide)
    refine ⟨⟨he, h.f f4 (by decide), ?_, ?_, ?_, ?_, ?_⟩, f4⟩
    · rw [wr_e, upd_n (by decide), wr_e, upd_n (by decide)]; exact g6
    · rw [wr_e, upd_n (by decide), wr_e, upd_n (by decide), q2]; rw [g7, q1]
    · rw [wr_e, upd_e, q3]; rfl
    · rw [wr_e, upd_n (by decide), wr_e, upd_e, q3]; rfl
    · rw [q3]; intro hh; omega
  · rw [if_neg (by rw [nI_le (by omega) (by omega)]; omega), c_let h2 q1, Option.bind_some]
    dsimp only
    rcases hc with ⟨d1, d2, d3, d4⟩ | ⟨d1, d2, d3, d4, d5, d6⟩ | ⟨d1, d2, d3, d4, d5⟩
    · rw [d2, if_pos (by decide), if_neg (by decide), ev_bd]
      have f3 : F2 [8] σ2 (wr σ2 2 8 0) := (F2.refl _ _).w (by decide)
      obtain ⟨s4, s6⟩ := c4 _ 0 f3
      have h3 := h2.f f3 (by decide)
      rw [s4, s6, if_pos (by rw [nI_lt (by omega) (by omega)]; omega), c_dig h3 q1, Option.bind_some, d1]
      dsimp only
      rw [if_neg (by decide)]
      refine (c_number hN h3 q1 (by rw [f3.2 7 (by decide)]; exact g7)).bind ?_
      rintro σ4 ⟨k7, k5, k9, k10, hf4⟩
      rw [ev_s]
      have f5 : F2 [5, 6, 7, 8, 9, 10] σ σ4 := (f2.tr (f3.mo (by decide))).tr (hf4.mo (by decide))
      refine ⟨⟨he, h.f f5 (by decide), ?_, ?_, ?_, ?_, ?_⟩, f5⟩
      · rw [hf4.2 6 (by decide)]; exact s6
      · rw [k7, d3]
      · rw [k5, d4]; rfl
      · rw [hf4.2 8 (by decide), wr_e, upd_e, d4]; rfl
      · intro _; rw [d3]; exact ⟨k9, k10⟩
    · rw [d2, if_neg (by decide), if_neg (by decide), ev_bd]
      have f3 : F2 [8] σ2 (wr σ2 2 8 1) := (F2.refl _ _).w (by decide)
      obtain ⟨s4, s6⟩ := c4 _ 0 f3
      have h3 := h2.f f3 (by decide)
      rw [s4, s6, if_pos (by rw [nI_lt (by omega) (by omega)]; omega), c_dig h3 q1, Option.bind_some, d1]
      dsimp only
      rw [if_pos (by decide)]
      refine (c_name hN h3 q1 s6 (by rw [wr_e, upd_e, d2]; rfl)).bind ?_
      rintro σ4 ⟨k7, k5, hf4⟩
      rw [ev_s]
      rw [d2, if_pos rfl, ← d3] at k7
      rw [d2, if_pos rfl, if_pos rfl, ← d3, ← d6] at k5
      have f5 : F2 [5, 6, 7, 8, 9, 10] σ σ4 := (f2.tr (f3.mo (by decide))).tr (hf4.mo (by decide))
      refine ⟨⟨he, h.f f5 (by decide), ?_, k7, k5, ?_, fun hh => by omega⟩, f5⟩
      · rw [hf4.2 6 (by decide)]; exact s6
      · rw [hf4.2 8 (by decide), wr_e, upd_e, if_pos (by unfold isw; exact decide_eq_true d4)]
    · rw [d2, if_pos (by decide), if_neg (by decide), ev_bd]
      have f3 : F2 [8] σ2 (wr σ2 2 8 0) := (F2.refl _ _).w (by decide)
      obtain ⟨s4, s6⟩ := c4 _ 0 f3
      have h3 := h2.f f3 (by decide)
      rw [s4, s6, if_pos (by rw [nI_lt (by omega) (by omega)]; omega), c_dig h3 q1, Option.bind_some, d1]
      dsimp only
      rw [if_pos (by decide)]
      refine (c_name hN h3 q1 s6 (by rw [wr_e, upd_e, d2]; rfl)).bind ?_
      rintro σ4 ⟨k7, k5, hf4⟩
      rw [ev_s]
      rw [d2, if_neg (by decide), ← d3] at k7
      rw [d2, if_neg (by decide), if_neg (by decide), ← d3, ← d5] at k5
      have f5 : F2 [5, 6, 7, 8, 9, 10] σ σ4 := (f2.tr (f3.mo (by decide))).tr (hf4.mo (by decide))
      refine ⟨⟨he, h.f f5 (by decide), ?_, k7, k5, ?_, fun hh => by omega⟩, f5⟩
      · rw [hf4.2 6 (by decide)]; exact s6
      · rw [hf4.2 8 (by decide), wr_e, upd_e, if_neg (by unfold isw; rw [decide_eq_true_eq]; omega)]
