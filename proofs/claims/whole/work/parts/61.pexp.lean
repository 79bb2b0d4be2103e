/-! ===== expressions: class and reference side by side ===== -/
def PP.okc (y : Int32) : Prop := -28 ≤ y ∧ (y ≤ -20 ∨ -6 ≤ y)
def PP.CR (c d : Nat) (σ τ : Sg) : Prop := σ 9 0 = nI c ∧ τ 3 9 = nI c ∧ RuleOK c (σ 10) ∧ dp (σ 10) c = d ∧ ∀ i, i < c → cvt (τ 10 (700 + i)) = σ 10 i ∧ okc (τ 10 (700 + i))
theorem PP.CR.f {c d : Nat} {σ τ σ' τ' : Sg} (h : CR c d σ τ) (h9 : σ' 9 = σ 9) (h10 : σ' 10 = σ 10) (m3 : τ' 3 = τ 3) (m10 : τ' 10 = τ 10) : CR c d σ' τ' := by
  unfold CR at h ⊢; rw [h9, h10, m3, m10]; exact h
theorem PP.dp_c {f g : Nat → Int32} : ∀ k, (∀ i, i < k → f i = g i) → dp f k = dp g k
  | 0, _ => rfl
  | k + 1, h => by unfold dp; rw [h k (by omega), dp_c k (fun i hi => h i (by omega))]
def PP.dn (x : Int32) (d : Nat) : Nat := if -6 ≤ x then d + 1 else if x = -7 then d else d - 1
def PP.GC (σ σ' : Sg) : Prop := (∀ c, c ≠ 2 → c ≠ 9 → c ≠ 10 → σ' c = σ c) ∧ ∀ j, j ∉ [1, 2, 5, 6, 7, 8, 9, 10] → σ' 2 j = σ 2 j
theorem PP.GC.refl (σ : Sg) : GC σ σ := ⟨fun _ _ _ _ => rfl, fun _ _ => rfl⟩
theorem PP.GC.tr {a b c : Sg} (h : GC a b) (k : GC b c) : GC a c := ⟨fun x h1 h2 h3 => (k.1 x h1 h2 h3).trans (h.1 x h1 h2 h3), fun j hj => (k.2 j hj).trans (h.2 j hj)⟩
theorem PP.F2.gc {J : List Nat} {a b : Sg} (h : F2 J a b) (d : ∀ c, c ∈ J → c ∈ [1, 2, 5, 6, 7, 8, 9, 10]) : GC a b := ⟨fun x h1 _ _ => h.1 x h1, fun j hj => h.2 j (fun y => hj (d j y))⟩
def PP.GM (τ τ' : Sg) : Prop := FM [3, 10] [14, 16, 17, 18, 19, 20, 21] τ τ' ∧ (∀ j, j ≠ 9 → τ' 3 j = τ 3 j) ∧ ∀ i, i < 700 → τ' 10 i = τ 10 i
theorem PP.GM.refl (τ : Sg) : GM τ τ := ⟨FM.refl _ _ _, fun _ _ => rfl, fun _ _ => rfl⟩
theorem PP.GM.tr {a b c : Sg} (h : GM a b) (k : GM b c) : GM a c := ⟨h.1.tr k.1, fun x h1 => (k.2.1 x h1).trans (h.2.1 x h1), fun j hj => (k.2.2 j hj).trans (h.2.2 j hj)⟩
theorem PP.FM.gm {Q : List Nat} {a b : Sg} (h : FM [] Q a b) (d : ∀ c, c ∈ Q → c ∈ [14, 16, 17, 18, 19, 20, 21]) : GM a b := ⟨h.mo (by decide) d, fun j _ => by rw [h.1 3 (by decide) (by decide)], fun j _ => by rw [h.1 10 (by decide) (by decide)]⟩
theorem PP.c_add {N c : Nat} {x : Int32} {σ : Sg} (h : σ 9 0 = nI c) (hc : c < 700) : f_X4_add_9 N x σ = some (wr (wr σ 10 c x) 9 0 (nI (c + 1))) := by
  unfold f_X4_add_9
  rw [h, if_neg (by rw [show (700 : Int32) = nI 700 from rfl, nI_le (by omega) (by omega)]; omega), if_neg (gdn (by omega) (by omega)), nI_cl (by omega)]
  show some (wr (wr σ 10 c x) 9 0 (wr σ 10 c x 9 0 + 1)) = _
  rw [wr_n (by decide), h, nI_s]
theorem PP.c_addF {N c : Nat} {x : Int32} {σ : Sg} (h : σ 9 0 = nI c) (hc : c ≤ 700) : Ev (f_X4_add_9 N x σ) (fun σ' => (∀ k, k ≠ 9 → k ≠ 10 → σ' k = σ k) ∧ ∃ c', c' ≤ 700 ∧ σ' 9 0 = nI c') := by
  by_cases hlt : c < 700
  · rw [c_add h hlt, ev_s]
    exact ⟨fun k h1 h2 => by rw [wr_n h1, wr_n h2], c + 1, by omega, by rw [wr_e, upd_e]⟩
  · unfold f_X4_add_9
    rw [h, if_pos (by rw [show (700 : Int32) = nI 700 from rfl, nI_le (by omega) (by omega)]; omega), ev_s]
    exact ⟨fun _ _ _ => rfl, c, hc, h⟩
theorem PP.m_lay {N c : Nat} {x : Int32} {τ : Sg} (hb : τ 0 20 = 0) (h : τ 3 9 = nI c) (hc : c < 700) : f_X12_lay N x τ = some (wr (wr τ 10 (700 + c) x) 3 9 (nI (c + 1))) := by
  unfold f_X12_lay
  rw [if_pos hb, h, show (700 : Int32) = nI 700 from rfl, nI_add, if_neg (gdn (by omega) (by omega)), nI_cl (by omega)]
  show some (wr (wr τ 10 (700 + c) x) 3 9 (wr τ 10 (700 + c) x 3 9 + 1)) = _
  rw [wr_n (by decide), h, nI_s]
theorem PP.j_lay {N c d : Nat} {x y : Int32} {σ τ : Sg} (h : CR c d σ τ) (hc : c < 700) (hb : τ 0 20 = 0) (hx : cvt y = x) (hy : okc y) (h1 : -15 ≤ x) (h2 : -6 ≤ x → d < 31) (h3 : x = -7 → 1 ≤ d) (h4 : x < -7 → 2 ≤ d) : ∃ σ' τ', f_X4_add_9 N x σ = some σ' ∧ f_X12_lay N y τ = some τ' ∧ CR (c + 1) (dn x d) σ' τ' ∧ (∀ k, k ≠ 9 → k ≠ 10 → σ' k = σ k) ∧ (∀ k, k ≠ 3 → k ≠ 10 → τ' k = τ k) ∧ GC σ σ' ∧ GM τ τ' := by
  obtain ⟨a1, a2, ⟨a3, a3'⟩, a4, a5⟩ := h
  have g1 : ∀ k, k ≠ 9 → k ≠ 10 → wr (wr σ 10 c x) 9 0 (nI (c + 1)) k = σ k := fun k q1 q2 => by rw [wr_n q1, wr_n q2]
  have g2 : ∀ k, k ≠ 3 → k ≠ 10 → wr (wr τ 10 (700 + c) y) 3 9 (nI (c + 1)) k = τ k := fun k q1 q2 => by rw [wr_n q1, wr_n q2]
  have s10 : wr (wr σ 10 c x) 9 0 (nI (c + 1)) 10 = upd (σ 10) c x := by rw [wr_n (by decide), wr_e]
  have t10 : wr (wr τ 10 (700 + c) y) 3 9 (nI (c + 1)) 10 = upd (τ 10) (700 + c) y := by rw [wr_n (by decide), wr_e]
  have hd : ∀ k, k ≤ c → dp (upd (σ 10) c x) k = dp (σ 10) k := fun k hk => dp_c k (fun i hi => upd_n (by omega))
  refine ⟨_, _, c_add a1 hc, m_lay hb a2 hc, ⟨?_, ?_, ?_, ?_, ?_⟩, g1, g2, ⟨fun k q1 q2 q3 => g1 k q2 q3, fun j _ => by rw [g1 2 (by decide) (by decide)]⟩, ⟨⟨fun k q0 q1 => g2 k (fun e => q1 (by rw [e]; decide)) (fun e => q1 (by rw [e]; decide)), fun j _ => by rw [g2 0 (by decide) (by decide)]⟩, fun j hj => ?_, fun i hi => ?_⟩⟩
  · rw [wr_e, upd_e]
  · rw [wr_e, upd_e]
  · rw [s10]
    refine ⟨by omega, fun k hk => ?_⟩
    rw [hd k (by omega)]
    by_cases e : k = c
    · subst e
      rw [upd_e, a4]; exact ⟨h1, h2, h3, h4⟩
    · rw [upd_n e]; exact a3' k (by omega)
  · rw [s10]
    show (if -6 ≤ upd (σ 10) c x c then dp (upd (σ 10) c x) c + 1 else if upd (σ 10) c x c = -7 then dp (upd (σ 10) c x) c else dp (upd (σ 10) c x) c - 1) = _
    rw [upd_e, hd c (by omega), a4]; rfl
  · intro i hi
    rw [s10, t10]
    by_cases e : i = c
    · subst e
      rw [upd_e, upd_e]; exact ⟨hx, hy⟩
    · rw [upd_n e, upd_n (by omega)]; exact a5 i (by omega)
  · rw [wr_e, upd_n hj, wr_n (by decide)]
  · rw [t10, upd_n (by omega)]
def PP.FE (σ τ : Sg) : Prop := τ 0 20 ≠ 0 ∧ σ 2 1 = τ 0 20 ∧ σ 2 2 = τ 0 21 ∧ ∃ c, c ≤ 700 ∧ σ 9 0 = nI c
def PP.ER (t : Nat → Int32) (n p c d : Nat) (σ τ : Sg) : Prop := PSC t n p σ ∧ PSM t n p τ ∧ τ 0 20 = 0 ∧ CR c d σ τ ∧ c ≤ tb t n p
def PP.PO (t : Nat → Int32) (n p c d : Nat) (σ τ : Sg) (r : Int32 × Sg) (τ' : Sg) : Prop := GC σ r.2 ∧ GM τ τ' ∧ ((r.1 = 0 ∧ FE r.2 τ') ∨ (r.1 = 1 ∧ ∃ p' c', tb t n p ≤ tb t n p' ∧ c' + tb t n p ≤ c + tb t n p' ∧ ER t n p' c' (d + 1) r.2 τ'))
theorem PP.PSC.fr {t : Nat → Int32} {n p : Nat} {σ σ' : Sg} (h : PSC t n p σ) (h1 : σ' 1 = σ 1) (h2 : σ' 2 = σ 2) : PSC t n p σ' := by
  unfold PSC TCl at h ⊢; rw [h1, h2]; exact h
theorem PP.PSM.fr {t : Nat → Int32} {n p : Nat} {τ τ' : Sg} (h : PSM t n p τ) (h1 : τ' 0 = τ 0) (h2 : τ' 12 = τ 12) : PSM t n p τ' := by
  unfold PSM TMl at h ⊢; rw [h1, h2]; exact h
theorem PP.tk_ne {t : Nat → Int32} {n p : Nat} (hp : p ≤ n) (h : tk t n p ≠ 0) : tb t n p < n ∧ tb t n p < te t n p ∧ te t n p ≤ n ∧ te t n p ≤ tb t n (te t n p) ∧ tb t n (te t n p) ≤ n := by
  obtain ⟨⟨r1, r2, r3⟩, ⟨-, -, c⟩ | ⟨q1, q2, -⟩⟩ := tk_c t n p hp
  · exact absurd c h
  · obtain ⟨⟨s1, s2, s3⟩, -⟩ := tk_c t n (te t n p) r3
    exact ⟨q1, q2, r3, s1, by omega⟩
theorem PP.tb_le {t : Nat → Int32} {n p : Nat} (hp : p ≤ n) : tb t n p ≤ n := by
  obtain ⟨⟨r1, r2, r3⟩, -⟩ := tk_c t n p hp
  omega
/-- on to the next token -/
theorem PP.j_next {N n p c d : Nat} {t : Nat → Int32} {σ τ : Sg} (hN : 1000 < N) (h : ER t n p c d σ τ) (hk : tk t n p ≠ 0) : E2 (f_X3_advance_2 N σ) (f_X12_stepOn N τ) (fun σ' τ' => ER t n (te t n p) c d σ' τ' ∧ GC σ σ' ∧ GM τ τ') := by
  obtain ⟨h1, h2, h3, h4, h5⟩ := h
  obtain ⟨k1, k2, k3, k4, k5⟩ := tk_ne h1.1 hk
  obtain ⟨σ', e1, hP, hf⟩ := c_advance (N := N) (e := te t n p) hN h1.2.1 k3 h1.2.2.2.1
  obtain ⟨τ', e2, hP', hf'⟩ := m_stepOn (N := N) (e := te t n p) hN h2.2.1 k3 h2.2.2.2.1
  refine ⟨σ', τ', e1, e2, ⟨hP, hP', ?_, h4.f (hf.1 9 (by decide)) (hf.1 10 (by decide)) (hf'.1 3 (by decide) (by decide)) (hf'.1 10 (by decide) (by decide)), by omega⟩, hf.gc (by decide), hf'.gm (by decide)⟩
  rw [hf'.2 20 (by decide)]; exact h3
theorem PP.c_fails {N : Nat} {x : Int32} {σ : Sg} : f_X3_fails_2 N x σ = some (0, wr (wr σ 2 1 x) 2 2 (σ 2 6)) := by
  unfold f_X3_fails_2
  show some ((0 : Int32), wr (wr σ 2 1 x) 2 2 (wr σ 2 1 x 2 6)) = _
  rw [show wr σ 2 1 x 2 6 = σ 2 6 by rw [wr_e, upd_n (by decide)]]
theorem PP.m_wrong {N : Nat} {x : Int32} {τ : Sg} (hb : τ 0 20 = 0) : f_X12_wrong N x τ = some (wr (wr τ 0 20 x) 0 21 (τ 0 18)) := by
  unfold f_X12_wrong
  rw [if_pos hb]
  show some (wr (wr τ 0 20 x) 0 21 (wr τ 0 20 x 0 18)) = _
  rw [show wr τ 0 20 x 0 18 = τ 0 18 by rw [wr_e, upd_n (by decide)]]
/-- the same fault, at the same place -/
theorem PP.j_fail {N n p c : Nat} {t : Nat → Int32} {x : Int32} {σ τ : Sg} (hx : x ≠ 0) (h1 : PSC t n p σ) (h2 : PSM t n p τ) (hb : τ 0 20 = 0) (hc : c ≤ 700) (h9 : σ 9 0 = nI c) : ∃ σ' τ', f_X3_fails_2 N x σ = some (0, σ') ∧ f_X12_wrong N x τ = some τ' ∧ FE σ' τ' ∧ GC σ σ' ∧ GM τ τ' := by
  refine ⟨_, _, c_fails, m_wrong hb, ⟨?_, ?_, ?_, c, hc, ?_⟩, (((F2.refl [1, 2] _).w (by decide)).w (by decide)).gc (by decide), (((FM.refl [] [20, 21] _).w0 (by decide)).w0 (by decide)).gm (by decide)⟩
  · rw [wr_e, upd_n (by decide), wr_e, upd_e]; exact hx
  · rw [wr_e, upd_n (by decide), wr_e, upd_e, wr_e, upd_n (by decide), wr_e, upd_e]
  · rw [wr_e, upd_e, wr_e, upd_e, h1.2.2.1, h2.2.2.1]
  · rw [wr_n (by decide), wr_n (by decide)]; exact h9
/-- the number that stands there -/
theorem PP.j_num {N n p c : Nat} {t : Nat → Int32} {x y : Int32} {σ τ : Sg} (h1 : PSC t n p σ) (h2 : PSM t n p τ) (hb : τ 0 20 = 0) (hc : c ≤ 700) (h9 : σ 9 0 = nI c) : E2 (f_X3_isNumber_2 N x y σ) (f_X12_numberNow N x y τ) (fun r q => (r.1 = 0 ∧ q.1 = 0 ∧ FE r.2 q.2 ∧ GC σ r.2 ∧ GM τ q.2) ∨ (r = (1, σ) ∧ q = (τ 0 17, τ) ∧ tk t n p = 2 ∧ σ 2 10 = τ 0 17 ∧ x ≤ τ 0 17 ∧ τ 0 17 ≤ y)) := by
  have hlt := tk_lt t n p h1.1
  have hn := h1.2.1.1.1
  obtain ⟨⟨r1, r2, r3⟩, -⟩ := tk_c t n p h1.1
  unfold f_X3_isNumber_2 f_X12_numberNow f_X3_isNumber_2_b40 f_X12_numberNow_b54 f_X12_numberNow_b59
  have bad : ∀ z : Int32, z ≠ 0 → E2 ((f_X3_fails_2 N z σ).bind fun q1 => if ¬ (q1.1 = 0 ∨ q1.1 = 1) then none else some (q1.1, (q1.2))) ((f_X12_wrong N z τ).bind fun q1 => if (q1 0 20) = 0 then (some ((q1 0 17), q1)) else (some ((0 : Int32), q1))) (fun r q => (r.1 = 0 ∧ q.1 = 0 ∧ FE r.2 q.2 ∧ GC σ r.2 ∧ GM τ q.2) ∨ (r = (1, σ) ∧ q = (τ 0 17, τ) ∧ tk t n p = 2 ∧ σ 2 10 = τ 0 17 ∧ x ≤ τ 0 17 ∧ τ 0 17 ≤ y)) := by
    intro z hz
    obtain ⟨σ', τ', e1, e2, hF, hg, hg'⟩ := j_fail (N := N) hz h1 h2 hb hc h9
    rw [e1, e2, Option.bind_some, Option.bind_some, if_neg hF.1]
    dsimp only
    rw [if_neg (by decide), e2_s]
    exact Or.inl ⟨rfl, rfl, hF, hg, hg'⟩
  rw [h1.2.2.2.2.1, if_neg (gdn (by omega) (by omega)), if_pos hb, h2.2.2.2.2.2.1]
  by_cases hk : tk t n p = 2
  · rw [if_pos (show nI (tk t n p) = 2 by rw [hk]; rfl), if_pos (mt_2.mpr hk), (h1.2.2.2.2.2.2 hk).1, h2.2.2.2.2.1, h2.2.2.1]
    have esub : nI (te t n p) - nI (tb t n p) = nI (te t n p - tb t n p) := by
      rw [show nI (te t n p) = nI (te t n p - tb t n p) + nI (tb t n p) by rw [nI_add, show te t n p - tb t n p + tb t n p = te t n p by omega]]; grind
    rw [esub]
    by_cases h4 : te t n p - tb t n p ≤ 4
    · have e10 : σ 2 10 = τ 0 17 := by rw [(h1.2.2.2.2.2.2 hk).2 h4, h2.2.2.2.2.2.2 hk h4]
      have c4 : ¬ (4 : Int32) < nI (te t n p - tb t n p) := by rw [show (4 : Int32) = nI 4 from rfl, nI_lt (by omega) (by omega)]; omega
      rw [if_neg c4, if_neg c4]
      by_cases c1 : τ 0 17 < x
      · have c1' : σ 2 10 < x := by rw [e10]; exact c1
        rw [if_pos c1, if_pos c1']; exact bad 2 (by decide)
      · have c1' : ¬ σ 2 10 < x := by rw [e10]; exact c1
        rw [if_neg c1, if_neg c1']
        by_cases c2 : τ 0 17 ≤ y
        · have c2' : σ 2 10 ≤ y := by rw [e10]; exact c2
          rw [if_pos c2, if_pos c2', if_pos hb, e2_s]
          exact Or.inr ⟨rfl, rfl, hk, e10, by grind, c2⟩
        · have c2' : ¬ σ 2 10 ≤ y := by rw [e10]; exact c2
          rw [if_neg c2, if_neg c2']; exact bad 2 (by decide)
    · have c4 : (4 : Int32) < nI (te t n p - tb t n p) := by rw [show (4 : Int32) = nI 4 from rfl, nI_lt (by omega) (by omega)]; omega
      rw [if_pos c4, if_pos c4]
      exact bad 2 (by decide)
  · rw [if_neg (show ¬ nI (tk t n p) = 2 by rw [show (2 : Int32) = nI 2 from rfl, nI_eq (by omega) (by omega)]; exact hk), if_neg (fun hh => hk (mt_2.mp hh))]
    exact bad 1 (by decide)
theorem PP.cvt_n {y : Int32} (h : -6 ≤ y) : cvt y = y := by
  unfold cvt
  rw [if_neg (fun e => by subst e; exact absurd h (by decide)), if_neg (fun e => by subst e; exact absurd h (by decide)), if_neg (fun e => by subst e; exact absurd h (by decide)), if_neg (fun e => by subst e; exact absurd h (by decide)), if_neg (fun e => by subst e; exact absurd h (by decide)), if_neg (fun e => by subst e; exact absurd h (by decide)), if_neg (fun e => by subst e; exact absurd h (by decide)), if_neg (fun e => by subst e; exact absurd h (by decide)), if_neg (fun e => by subst e; exact absurd h (by decide))]
