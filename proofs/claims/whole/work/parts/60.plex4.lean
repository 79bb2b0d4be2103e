/-! ===== what the reference asks of a token ===== -/
theorem PP.mt_1 {k : Nat} : mt k = 1 ↔ isw k = true := by
  unfold mt isw
  rw [decide_eq_true_eq]
  repeat' split
  all_goals constructor <;> intro h <;> first | omega | exact absurd h (by decide) | rfl
theorem PP.mt_2 {k : Nat} : mt k = 2 ↔ k = 2 := by
  unfold mt
  repeat' split
  all_goals constructor <;> intro h <;> first | omega | exact absurd h (by decide) | rfl
theorem PP.mt_3 {k : Nat} : mt k = 3 ↔ (4 ≤ k ∧ k ≤ 12) := by
  unfold mt
  repeat' split
  all_goals constructor <;> intro h <;> first | omega | exact absurd h (by decide) | rfl
theorem PP.m_is0 {N x : Nat} {τ : Sg} (hN : 1000 < N) : f_X12_is_b36 N x 0 τ = some (0, τ) := by
  unfold f_X12_is_b36
  rw [← ev_eq, ev_b]
  refine ev_lp (fun (k : Nat) (q : Int32 × Int32 × Sg) => q = (0, 0, τ)) 0 N _ (by omega) rfl ?_
  rintro k _ hk rfl
  unfold s_X12_is_h39
  dsimp only
  rw [if_pos rfl, ev_s]
  refine Or.inr ⟨Nat.one_ne_zero, ?_⟩
  dsimp only
  rw [if_neg (by decide), ev_s]
theorem PP.m_is {N n p x : Nat} {t : Nat → Int32} {τ : Sg} (hN : 1000 < N) (h : PSM t n p τ) (hb : τ 0 20 = 0) (hx : x < 14) : f_X12_is N x τ = some ((if tk t n p = ox x then 1 else 0), τ) := by
  obtain ⟨hp, hT, h18, h14, h19, h16, h17⟩ := h
  obtain ⟨x1, x2, x3, x4, x5, x6⟩ := tab_x x hx
  have hn := hT.1
  unfold f_X12_is f_X12_is_b35
  rw [if_pos hb, h16]
  by_cases hw : mt (tk t n p) = 1
  · rw [if_pos hw, if_neg (show ¬ ¬ x < 41 by omega), h19, h18]
    have hi := mt_1.mp hw
    unfold isw at hi
    rw [decide_eq_true_eq] at hi
    obtain ⟨⟨r1, r2, r3⟩, ⟨-, -, c⟩ | ⟨q1, q2, -, ⟨-, -, -, c⟩ | ⟨d1, d2, d3, d4, d5, d6⟩ | ⟨-, -, -, c, -⟩⟩⟩ := tk_c t n p hp
    · omega
    · omega
    · generalize hbb : tb t n p = b at *
      generalize hee : te t n p = e at *
      have hiff : tk t n p = ox x ↔ (tlen x = e - b ∧ ∀ j, j < tlen x → t (b + j) = tch x j) := by
        rw [d6, nk_i x2 (Or.inr (by omega)), sd_iff, ← x3]
        have e1 := difT_f _ x4
        constructor
        · rintro ⟨-, a2, a3⟩
          exact ⟨a2, fun j hj => (a3 j hj).trans (e1 j hj).symm⟩
        · rintro ⟨a2, a3⟩
          exact ⟨by omega, a2, fun j hj => (a3 j hj).trans (e1 j hj)⟩
      have esub : nI e - nI b = nI (e - b) := by
        rw [show nI e = nI (e - b) + nI b by rw [nI_add, show e - b + b = e by omega]]; grind
      rw [esub]
      by_cases hl : tlen x = e - b
      · rw [if_pos (by rw [hl])]
        unfold f_X12_is_b36
        rw [← ev_eq, ev_b]
        refine ev_lp (fun (k : Nat) (q : Int32 × Int32 × Sg) => k ≤ tlen x ∧ q.2.1 = nI k ∧ q.2.2 = τ ∧ ((q.1 = 1 ∧ ∀ j, j < k → t (b + j) = tch x j) ∨ (q.1 = 0 ∧ ∃ j, j < tlen x ∧ t (b + j) ≠ tch x j))) (tlen x) N _ (by omega) ⟨by omega, rfl, rfl, Or.inl ⟨rfl, fun j hj => absurd hj (by omega)⟩⟩ ?_
        rintro k ⟨v, y, τ'⟩ hk ⟨k1, e1, e2, e3⟩
        dsimp only at e1 e2 e3
        subst e1 e2
        unfold s_X12_is_h39 f_X12_is_b75
        dsimp only
        rcases e3 with ⟨rfl, e3⟩ | ⟨rfl, j, hj, hne⟩
        · rw [if_neg (by decide), if_neg (show ¬ ¬ x < 41 by omega)]
          by_cases hkl : k = tlen x
          · rw [if_pos (by rw [hkl]; exact Int32.le_refl _), ev_s]
            refine Or.inr ⟨Nat.one_ne_zero, ?_⟩
            dsimp only
            rw [if_neg (by decide), ev_s, if_pos (hiff.mpr ⟨hl, fun j hj => e3 j (by omega)⟩)]
          · rw [if_neg (by rw [nI_le (by omega) (by omega)]; omega), if_neg (show ¬ ¬ x < 41 by omega), if_neg (gdn (by omega) (by omega))]
            simp only [h18, nI_add]
            rw [if_neg (gdn (by omega) (by omega)), nI_cl (by omega), nI_cl (by omega), hT.2.2.1 (b + k) (by omega)]
            by_cases hc : tch x k = t (b + k)
            · rw [if_pos hc, ev_bd, ev_s]
              refine Or.inl ⟨rfl, by omega, by omega, nI_s k, rfl, Or.inl ⟨rfl, fun j hj => ?_⟩⟩
              by_cases ejk : j = k
              · subst ejk; exact hc.symm
              · exact e3 j (by omega)
            · rw [if_neg hc, ev_bd, ev_s]
              exact Or.inl ⟨rfl, by omega, by omega, nI_s k, rfl, Or.inr ⟨rfl, k, by omega, fun hh => hc hh.symm⟩⟩
        · rw [if_pos rfl, ev_s]
          refine Or.inr ⟨Nat.one_ne_zero, ?_⟩
          dsimp only
          rw [if_neg (by decide), ev_s, if_neg (fun hh => hne ((hiff.mp hh).2 j hj))]
      · rw [if_neg (by rw [nI_eq (by omega) (by omega)]; exact hl), m_is0 hN, if_neg (fun hh => hl (hiff.mp hh).1)]
    · omega
  · rw [if_neg hw, m_is0 hN, if_neg]
    intro hh
    apply hw
    rw [mt_1]
    unfold isw
    exact decide_eq_true (Or.inr (by omega))
theorem PP.m_isB {N x : Nat} {τ : Sg} (hN : 1000 < N) (hb : τ 0 20 ≠ 0) : f_X12_is N x τ = some (0, τ) := by
  unfold f_X12_is f_X12_is_b35
  rw [if_neg hb, m_is0 hN]
theorem PP.m_mkd {N n p i : Nat} {t : Nat → Int32} {τ : Sg} (h : PSM t n p τ) (hb : τ 0 20 = 0) (h4 : 4 ≤ i) (h13 : i < 13) {x : Int32} (hx : x = mkc i) : f_X12_isMarked N x τ = some ((if tk t n p = i then 1 else 0), τ) := by
  obtain ⟨hp, hT, h18, h14, h19, h16, h17⟩ := h
  have hn := hT.1
  subst hx
  unfold f_X12_isMarked f_X12_isMarked_b32
  rw [if_pos hb, h16, h18]
  by_cases hw : mt (tk t n p) = 3
  · have hw2 := mt_3.mp hw
    rw [if_pos hw]
    obtain ⟨⟨r1, r2, r3⟩, ⟨-, -, c⟩ | ⟨q1, q2, -, ⟨-, -, -, c⟩ | ⟨-, -, -, c, -⟩ | ⟨d1, d2, d3, -⟩⟩⟩ := tk_c t n p hp
    · omega
    · omega
    · omega
    · rw [if_neg (gdn (by omega) (by omega)), nI_cl (by omega), hT.2.2.1 _ q1]
      have := (tk_m hp q1 d1 d2).2 i h4 h13
      by_cases hc : tk t n p = i
      · rw [if_pos (this.mp hc), if_pos hc]
      · rw [if_neg (fun hh => hc (this.mpr hh)), if_neg hc]
  · rw [if_neg hw, if_neg (fun hh => hw (mt_3.mpr (by omega)))]
theorem PP.m_mkdB {N : Nat} {x : Int32} {τ : Sg} (hb : τ 0 20 ≠ 0) : f_X12_isMarked N x τ = some (0, τ) := by
  unfold f_X12_isMarked f_X12_isMarked_b32
  rw [if_neg hb]
theorem PP.m_layB {N : Nat} {x : Int32} {τ : Sg} (hb : τ 0 20 ≠ 0) : f_X12_lay N x τ = some τ := by
  unfold f_X12_lay; rw [if_neg hb]
theorem PP.m_wrongB {N : Nat} {x : Int32} {τ : Sg} (hb : τ 0 20 ≠ 0) : f_X12_wrong N x τ = some τ := by
  unfold f_X12_wrong; rw [if_neg hb]
theorem PP.m_markB {N : Nat} {x : Int32} {τ : Sg} (hb : τ 0 20 ≠ 0) : f_X12_mark N x τ = some τ := by
  unfold f_X12_mark f_X12_mark_b20; rw [if_neg hb, if_neg hb]
def PP.wh2 (k : Nat) : Int32 := if k = 22 then 0 else if k = 23 then 1 else if k = 24 then 2 else if k = 25 then 3 else if k = 21 then 4 else if k = 26 then 5 else -1
def PP.wh1 (k : Nat) : Int32 := if k = 13 then 0 else if k = 14 then 1 else -1
theorem PP.m_which2 {N n p : Nat} {t : Nat → Int32} {τ : Sg} (hN : 1000 < N) (h : PSM t n p τ) (hb : τ 0 20 = 0) : f_X12_which_2 N τ = some (wh2 (tk t n p), τ) := by
  unfold f_X12_which_2
  rw [← ev_eq, ev_b]
  refine ev_lp (fun (k : Nat) (q : Int32 × Sg) => q = (nI k, τ) ∧ ∀ j, j < k → tk t n p ≠ ox (2 + j)) 6 N _ (by omega) ⟨rfl, fun j hj => absurd hj (by omega)⟩ ?_
  rintro k _ hk ⟨rfl, hq⟩
  unfold s_X12_which_2_h2
  dsimp only
  by_cases hk6 : k = 6
  · subst hk6
    rw [if_pos (by decide), ev_s]
    refine Or.inr ⟨by simp, ?_⟩
    dsimp only
    rw [if_neg (by decide), ev_s]
    have a0 : tk t n p ≠ 22 := hq 0 (by omega)
    have a1 : tk t n p ≠ 23 := hq 1 (by omega)
    have a2 : tk t n p ≠ 24 := hq 2 (by omega)
    have a3 : tk t n p ≠ 25 := hq 3 (by omega)
    have a4 : tk t n p ≠ 21 := hq 4 (by omega)
    have a5 : tk t n p ≠ 26 := hq 5 (by omega)
    unfold wh2
    rw [if_neg a0, if_neg a1, if_neg a2, if_neg a3, if_neg a4, if_neg a5]
  · rw [if_neg (by rw [show (6 : Int32) = nI 6 from rfl, nI_le (by omega) (by omega)]; omega), if_neg (gdn (by omega) (by omega)), nI_cl (by omega), m_is hN h hb (by omega), Option.bind_some]
    dsimp only
    by_cases c : tk t n p = ox (2 + k)
    · rw [if_neg (by rw [if_pos c]; decide), ev_s]
      refine Or.inr ⟨Nat.one_ne_zero, ?_⟩
      dsimp only
      rw [if_pos rfl, ev_s, c]
      have : k = 0 ∨ k = 1 ∨ k = 2 ∨ k = 3 ∨ k = 4 ∨ k = 5 := by omega
      rcases this with rfl | rfl | rfl | rfl | rfl | rfl <;> rfl
    · rw [if_pos (by rw [if_neg c]), ev_bd, ev_s]
      refine Or.inl ⟨rfl, by omega, by dsimp only; rw [nI_s], fun j hj => ?_⟩
      by_cases ejk : j = k
      · subst ejk; exact c
      · exact hq j (by omega)
theorem PP.m_which1 {N n p : Nat} {t : Nat → Int32} {τ : Sg} (hN : 1000 < N) (h : PSM t n p τ) (hb : τ 0 20 = 0) : f_X12_which_1 N τ = some (wh1 (tk t n p), τ) := by
  unfold f_X12_which_1
  rw [← ev_eq, ev_b]
  refine ev_lp (fun (k : Nat) (q : Int32 × Sg) => q = (nI k, τ) ∧ ∀ j, j < k → tk t n p ≠ ox (0 + j)) 2 N _ (by omega) ⟨rfl, fun j hj => absurd hj (by omega)⟩ ?_
  rintro k _ hk ⟨rfl, hq⟩
  unfold s_X12_which_1_h2
  dsimp only
  by_cases hk6 : k = 2
  · subst hk6
    rw [if_pos (by decide), ev_s]
    refine Or.inr ⟨by simp, ?_⟩
    dsimp only
    rw [if_neg (by decide), ev_s]
    have a0 : tk t n p ≠ 13 := hq 0 (by omega)
    have a1 : tk t n p ≠ 14 := hq 1 (by omega)
    unfold wh1
    rw [if_neg a0, if_neg a1]
  · rw [if_neg (by rw [show (2 : Int32) = nI 2 from rfl, nI_le (by omega) (by omega)]; omega), if_neg (gdn (by omega) (by omega)), nI_cl (by omega), m_is hN h hb (by omega), Option.bind_some]
    dsimp only
    by_cases c : tk t n p = ox (0 + k)
    · rw [if_neg (by rw [if_pos c]; decide), ev_s]
      refine Or.inr ⟨Nat.one_ne_zero, ?_⟩
      dsimp only
      rw [if_pos rfl, ev_s, c]
      have : k = 0 ∨ k = 1 := by omega
      rcases this with rfl | rfl <;> rfl
    · rw [if_pos (by rw [if_neg c]), ev_bd, ev_s]
      refine Or.inl ⟨rfl, by omega, by dsimp only; rw [nI_s], fun j hj => ?_⟩
      by_cases ejk : j = k
      · subst ejk; exact c
      · exact hq j (by omega)
/-! ===== two at once ===== -/
def PP.E2 {α β : Type} (o : Option α) (u : Option β) (P : α → β → Prop) : Prop := ∃ a b, o = some a ∧ u = some b ∧ P a b
theorem PP.e2_s {α β : Type} {a : α} {b : β} {P : α → β → Prop} : E2 (some a) (some b) P ↔ P a b := ⟨fun ⟨_, _, h1, h2, h⟩ => by cases h1; cases h2; exact h, fun h => ⟨a, b, rfl, rfl, h⟩⟩
theorem PP.E2.bind {α β γ δ : Type} {o : Option α} {u : Option β} {P : α → β → Prop} {k : α → Option γ} {l : β → Option δ} {Q : γ → δ → Prop} (h : E2 o u P) (hk : ∀ a b, P a b → E2 (k a) (l b) Q) : E2 (o.bind k) (u.bind l) Q := by
  obtain ⟨a, b, rfl, rfl, hP⟩ := h
  exact hk a b hP
theorem PP.E2.imp {α β : Type} {o : Option α} {u : Option β} {P Q : α → β → Prop} (h : E2 o u P) (k : ∀ a b, P a b → Q a b) : E2 o u Q := by
  obtain ⟨a, b, h1, h2, h3⟩ := h
  exact ⟨a, b, h1, h2, k a b h3⟩
theorem PP.e2_l {α β γ : Type} {o : Option α} {u : Option β} {P : α → Prop} {k : α → Option γ} {Q : γ → β → Prop} (h : Ev o P) (hk : ∀ a, P a → E2 (k a) u Q) : E2 (o.bind k) u Q := by
  obtain ⟨a, rfl, hP⟩ := h
  exact hk a hP
theorem PP.e2_r {α β γ : Type} {o : Option α} {u : Option β} {P : β → Prop} {k : β → Option γ} {Q : α → γ → Prop} (h : Ev u P) (hk : ∀ a, P a → E2 o (k a) Q) : E2 o (u.bind k) Q := by
  obtain ⟨a, rfl, hP⟩ := h
  exact hk a hP
theorem PP.e2_bl {α β γ : Type} {a : α} {u : Option β} {k : α → Option γ} {Q : γ → β → Prop} : E2 (bd a k) u Q ↔ E2 (k a) u Q := Iff.rfl
theorem PP.e2_br {α β γ : Type} {a : α} {u : Option β} {k : α → Option γ} {Q : β → γ → Prop} : E2 u (bd a k) Q ↔ E2 u (k a) Q := Iff.rfl
theorem PP.e2_it {S T : Type} {f : S → Option (Nat × S)} {g : T → Option (Nat × T)} {Q : Nat × S → Nat × T → Prop} (I : Nat → S → T → Prop) (n : Nat) (hs : ∀ k s t, k ≤ n → I k s t → E2 (f s) (g t) (fun r q => (r.1 = 0 ∧ q.1 = 0 ∧ k < n ∧ I (k + 1) r.2 q.2) ∨ (r.1 ≠ 0 ∧ q.1 ≠ 0 ∧ Q r q) ∨ (r.1 ≠ 0 ∧ q.1 = 0 ∧ Ev (g q.2) (fun q' => q'.1 ≠ 0 ∧ Q r q')))) : ∀ (N : Nat) (s : S) (t : T) (k : Nat), k ≤ n → n + 1 < N + k → I k s t → E2 (it f N s) (it g N t) Q
  | 0, s, t, k, hk, hN, h => absurd hN (by omega)
  | N + 1, s, t, k, hk, hN, h => by
    obtain ⟨r, q, e1, e2, h1⟩ := hs k s t hk h
    have l1 : it f (N + 1) s = if r.1 = 0 then it f N r.2 else some r := by
      show ((f s).bind fun r => if r.1 = 0 then it f N r.2 else some r) = _
      rw [e1, Option.bind_some]
    have l2 : it g (N + 1) t = if q.1 = 0 then it g N q.2 else some q := by
      show ((g t).bind fun r => if r.1 = 0 then it g N r.2 else some r) = _
      rw [e2, Option.bind_some]
    rw [l1, l2]
    rcases h1 with ⟨h1, h2, h3, h4⟩ | ⟨h1, h2, h3⟩ | ⟨h1, h2, q', e3, h3, h4⟩
    · rw [if_pos h1, if_pos h2]
      exact e2_it I n hs N r.2 q.2 (k + 1) (by omega) (by omega) h4
    · rw [if_neg h1, if_neg h2]; exact e2_s.mpr h3
    · rw [if_neg h1, if_pos h2]
      obtain ⟨M, rfl⟩ : ∃ M, N = M + 1 := ⟨N - 1, by omega⟩
      have l3 : it g (M + 1) q.2 = some q' := by
        show ((g q.2).bind fun r => if r.1 = 0 then it g M r.2 else some r) = _
        rw [e3, Option.bind_some, if_neg h3]
      rw [l3]; exact e2_s.mpr h4
