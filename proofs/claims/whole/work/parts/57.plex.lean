/-! ===== tokens: where one begins and ends, and which it is ===== -/
def PP.runE (P : Int32 → Bool) (t : Nat → Int32) (n : Nat) : Nat → Nat → Nat
  | 0, p => p
  | f + 1, p => if p < n ∧ P (t p) = true then runE P t n f (p + 1) else p
def PP.eo (P : Int32 → Bool) (t : Nat → Int32) (n p : Nat) : Nat := runE P t n (n - p) p
theorem PP.eo_go {P : Int32 → Bool} {t : Nat → Int32} {n p : Nat} (h : p < n) (hP : P (t p) = true) : eo P t n p = eo P t n (p + 1) := by
  unfold eo
  obtain ⟨f, hf⟩ : ∃ f, n - p = f + 1 := ⟨n - p - 1, by omega⟩
  rw [hf, show n - (p + 1) = f by omega]
  show (if p < n ∧ P (t p) = true then runE P t n f (p + 1) else p) = _
  rw [if_pos ⟨h, hP⟩]
theorem PP.eo_no {P : Int32 → Bool} {t : Nat → Int32} {n p : Nat} (h : ¬ (p < n ∧ P (t p) = true)) : eo P t n p = p := by
  unfold eo
  cases hf : n - p with
  | zero => rfl
  | succ f =>
    show (if p < n ∧ P (t p) = true then runE P t n f (p + 1) else p) = _
    rw [if_neg h]
theorem PP.eo_rg {P : Int32 → Bool} {t : Nat → Int32} {n : Nat} : ∀ k p, n - p = k → p ≤ n → p ≤ eo P t n p ∧ eo P t n p ≤ n
  | 0, p, hk, hp => by rw [eo_no (fun h => by omega)]; exact ⟨Nat.le_refl _, hp⟩
  | k + 1, p, hk, hp => by
    by_cases h : p < n ∧ P (t p) = true
    · rw [eo_go h.1 h.2]
      have := eo_rg (P := P) (t := t) (n := n) k (p + 1) (by omega) (by omega)
      exact ⟨by omega, this.2⟩
    · rw [eo_no h]; exact ⟨Nat.le_refl _, hp⟩
def PP.bl (c : Int32) : Bool := decide (c = 32 ∨ c = 10)
def PP.le (c : Int32) : Bool := decide (97 ≤ c ∧ c ≤ 122)
def PP.di (c : Int32) : Bool := decide (48 ≤ c ∧ c ≤ 57)
def PP.eqT (t : Nat → Int32) (b x : Nat) : Nat → Bool
  | 0 => true
  | j + 1 => eqT t b x j && decide (t (b + j) = tch x j)
theorem PP.eqT_s (t : Nat → Int32) (b x j : Nat) : eqT t b x (j + 1) = (eqT t b x j && decide (t (b + j) = tch x j)) := rfl
theorem PP.eqT_iff {t : Nat → Int32} {b x : Nat} : ∀ m, eqT t b x m = true ↔ ∀ j, j < m → t (b + j) = tch x j
  | 0 => ⟨fun _ j h => absurd h (by omega), fun _ => rfl⟩
  | m + 1 => by
    rw [eqT_s, Bool.and_eq_true, eqT_iff m, decide_eq_true_eq]
    constructor
    · rintro ⟨h1, h2⟩ j hj
      by_cases e : j = m
      · subst e; exact h2
      · exact h1 j (by omega)
    · intro h; exact ⟨fun j hj => h j (by omega), h m (by omega)⟩
def PP.mtc (t : Nat → Int32) (b e x : Nat) : Bool := decide (tlen x = e - b) && eqT t b x (tlen x)
def PP.sd (t : Nat → Int32) (b e i : Nat) : Bool := decide (tlen (14 + i) ≠ 0) && mtc t b e (14 + i)
def PP.nk (t : Nat → Int32) (b e d : Nat) : Nat → Nat
  | 0 => d
  | i + 1 => if sd t b e i = true then i else nk t b e d i
theorem PP.nk_s (t : Nat → Int32) (b e d i : Nat) : nk t b e d (i + 1) = if sd t b e i = true then i else nk t b e d i := rfl
def PP.tb (t : Nat → Int32) (n p : Nat) : Nat := eo bl t n p
def PP.te (t : Nat → Int32) (n p : Nat) : Nat := if tb t n p < n then (if le (t (tb t n p)) = true then eo le t n (tb t n p) else if di (t (tb t n p)) = true then eo di t n (tb t n p) else tb t n p + 1) else tb t n p
def PP.tk (t : Nat → Int32) (n p : Nat) : Nat := if tb t n p < n then (if di (t (tb t n p)) = true then 2 else nk t (tb t n p) (te t n p) (if le (t (tb t n p)) = true then 3 else 1) 27) else 0
def PP.vl (t : Nat → Int32) (b : Nat) : Nat → Int32
  | 0 => 0
  | j + 1 => 10 * vl t b j + t (b + j) - 48
theorem PP.vl_s (t : Nat → Int32) (b j : Nat) : vl t b (j + 1) = 10 * vl t b j + t (b + j) - 48 := rfl
/-! the tables -/
def PP.difT (x y : Nat) : Nat → Bool
  | 0 => false
  | j + 1 => difT x y j || decide (tch x j ≠ tch y j)
theorem PP.difT_iff {x y : Nat} : ∀ m, difT x y m = true → ∃ j, j < m ∧ tch x j ≠ tch y j
  | 0, h => by cases h
  | m + 1, h => by
    have h : (difT x y m || decide (tch x m ≠ tch y m)) = true := h
    rw [Bool.or_eq_true, decide_eq_true_eq] at h
    rcases h with h | h
    · obtain ⟨j, hj, e⟩ := difT_iff m h
      exact ⟨j, by omega, e⟩
    · exact ⟨m, by omega, h⟩
set_option maxRecDepth 20000 in
theorem PP.tab_d : ∀ i : Nat, i < 27 → ∀ i' : Nat, i' < 27 → i = i' ∨ tlen (14 + i) = 0 ∨ tlen (14 + i) ≠ tlen (14 + i') ∨ difT (14 + i) (14 + i') (tlen (14 + i)) = true := by decide +kernel
set_option maxRecDepth 20000 in
theorem PP.tab_c : ∀ i : Nat, i < 27 → tlen (14 + i) = 0 ∨ (4 ≤ i ∧ i ≤ 12 ∧ tlen (14 + i) = 1 ∧ le (tch (14 + i) 0) = false ∧ di (tch (14 + i) 0) = false) ∨ (13 ≤ i ∧ 1 < tlen (14 + i) ∧ le (tch (14 + i) 0) = true) := by decide +kernel
def PP.ox (x : Nat) : Nat := ([13, 14, 22, 23, 24, 25, 21, 26, 20, 19, 18, 15, 16, 17] : List Nat).getD x 0
set_option maxRecDepth 20000 in
theorem PP.tab_x : ∀ x : Nat, x < 14 → 13 ≤ ox x ∧ ox x < 27 ∧ tlen x = tlen (14 + ox x) ∧ difT x (14 + ox x) (tlen x) = false ∧ tlen (14 + ox x) ≠ 0 ∧ tlen x < 100 := by decide +kernel
set_option maxRecDepth 20000 in
theorem PP.tab_l : ∀ i : Nat, i < 41 → tlen i < 100 := by decide +kernel
theorem PP.difT_f {x y : Nat} : ∀ m, difT x y m = false → ∀ j, j < m → tch x j = tch y j
  | 0, _, j, hj => absurd hj (by omega)
  | m + 1, h, j, hj => by
    have h : (difT x y m || decide (tch x m ≠ tch y m)) = false := h
    rw [Bool.or_eq_false_iff, decide_eq_false_iff_not] at h
    by_cases e : j = m
    · subst e; exact Classical.byContradiction fun hn => h.2 hn
    · exact difT_f m h.1 j (by omega)
theorem PP.mtc_iff {t : Nat → Int32} {b e x : Nat} : mtc t b e x = true ↔ tlen x = e - b ∧ ∀ j, j < tlen x → t (b + j) = tch x j := by
  unfold mtc; rw [Bool.and_eq_true, decide_eq_true_eq, eqT_iff]
theorem PP.sd_iff {t : Nat → Int32} {b e i : Nat} : sd t b e i = true ↔ tlen (14 + i) ≠ 0 ∧ tlen (14 + i) = e - b ∧ ∀ j, j < tlen (14 + i) → t (b + j) = tch (14 + i) j := by
  unfold sd; rw [Bool.and_eq_true, decide_eq_true_eq, mtc_iff]
theorem PP.sd_u {t : Nat → Int32} {b e i i' : Nat} (hi : i < 27) (hi' : i' < 27) (h : sd t b e i = true) (h' : sd t b e i' = true) : i = i' := by
  rw [sd_iff] at h h'
  rcases tab_d i hi i' hi' with r | r | r | r
  · exact r
  · exact absurd r h.1
  · omega
  · obtain ⟨j, hj, hne⟩ := difT_iff _ r
    exact absurd ((h.2.2 j hj).symm.trans (h'.2.2 j (by omega))) hne
theorem PP.nk_c {t : Nat → Int32} {b e d : Nat} : ∀ m, m ≤ 27 → (nk t b e d m = d ∧ ∀ i, i < m → sd t b e i = false) ∨ (nk t b e d m < m ∧ sd t b e (nk t b e d m) = true)
  | 0, _ => Or.inl ⟨rfl, fun i h => absurd h (by omega)⟩
  | m + 1, hm => by
    rw [nk_s]
    by_cases h : sd t b e m = true
    · rw [if_pos h]; exact Or.inr ⟨by omega, h⟩
    · rw [if_neg h]
      rcases nk_c m (by omega) with ⟨h1, h2⟩ | ⟨h1, h2⟩
      · refine Or.inl ⟨h1, fun i hi => ?_⟩
        by_cases e : i = m
        · subst e; simpa using h
        · exact h2 i (by omega)
      · exact Or.inr ⟨by omega, h2⟩
theorem PP.nk_i {t : Nat → Int32} {b e d i : Nat} (hi : i < 27) (hd : sd t b e d = true ∨ d ≠ i) : nk t b e d 27 = i ↔ sd t b e i = true := by
  rcases nk_c (t := t) (b := b) (e := e) (d := d) 27 (by omega) with ⟨h1, h2⟩ | ⟨h1, h2⟩
  · constructor
    · intro h
      rcases hd with hd | hd
      · rw [h1] at h; rw [← h]; exact hd
      · exact absurd (h1.symm.trans h) hd
    · intro h; rw [h2 i hi] at h; cases h
  · constructor
    · intro h; rw [← h]; exact h2
    · intro h; exact sd_u h1 hi h2 h
/-- the sort of a token, and what it tells -/
theorem PP.tk_c (t : Nat → Int32) (n p : Nat) (hp : p ≤ n) : (p ≤ tb t n p ∧ tb t n p ≤ te t n p ∧ te t n p ≤ n) ∧ ((tb t n p = n ∧ te t n p = n ∧ tk t n p = 0) ∨ (tb t n p < n ∧ tb t n p < te t n p ∧ bl (t (tb t n p)) = false ∧ ((di (t (tb t n p)) = true ∧ le (t (tb t n p)) = false ∧ te t n p = eo di t n (tb t n p) ∧ tk t n p = 2) ∨ (di (t (tb t n p)) = false ∧ le (t (tb t n p)) = true ∧ te t n p = eo le t n (tb t n p) ∧ (tk t n p = 3 ∨ 13 ≤ tk t n p) ∧ tk t n p < 27 ∧ tk t n p = nk t (tb t n p) (te t n p) 3 27) ∨ (di (t (tb t n p)) = false ∧ le (t (tb t n p)) = false ∧ te t n p = tb t n p + 1 ∧ (tk t n p = 1 ∨ (4 ≤ tk t n p ∧ tk t n p ≤ 12)) ∧ tk t n p = nk t (tb t n p) (te t n p) 1 27)))) := by
  have r := eo_rg (P := bl) (t := t) (n := n) _ p rfl hp
  have hb : tb t n p = eo bl t n p := rfl
  by_cases hbn : tb t n p < n
  · have hnb : bl (t (tb t n p)) = false := by
      cases h : bl (t (tb t n p)) with
      | false => rfl
      | true =>
        have key : ∀ k q, n - q = k → q ≤ n → eo bl t n q < n → bl (t (eo bl t n q)) = false := by
          intro k
          induction k with
          | zero => intro q hq hqn h; have := eo_rg (P := bl) (t := t) (n := n) _ q rfl hqn; omega
          | succ k ih =>
            intro q hq hqn hlt
            by_cases hh : q < n ∧ bl (t q) = true
            · rw [eo_go hh.1 hh.2] at hlt ⊢
              exact ih (q + 1) (by omega) (by omega) hlt
            · rw [eo_no hh] at hlt ⊢
              cases h3 : bl (t q) with
              | false => rfl
              | true => exact absurd ⟨hlt, h3⟩ hh
        exact absurd h (by rw [hb, key _ p rfl hp (by rw [← hb]; exact hbn)]; decide)
    generalize hbb : tb t n p = b at *
    have t1 : te t n p = if le (t b) = true then eo le t n b else if di (t b) = true then eo di t n b else b + 1 := by unfold te; rw [hbb, if_pos hbn]
    have t2 : tk t n p = if di (t b) = true then 2 else nk t b (te t n p) (if le (t b) = true then 3 else 1) 27 := by unfold tk; rw [hbb, if_pos hbn]
    cases hl : le (t b) with
    | true =>
      have hd : di (t b) = false := by
        unfold le at hl; unfold di
        rw [decide_eq_true_eq] at hl
        rw [decide_eq_false_iff_not]
        intro h
        have h1 := hl.1
        have h2 := h.2
        exact absurd (Int32.le_trans h1 h2) (by decide)
      rw [hl, if_pos rfl] at t1
      rw [hd, if_neg (by decide), hl, if_pos rfl] at t2
      have r2 := eo_rg (P := le) (t := t) (n := n) _ (b + 1) rfl (by omega)
      rw [t1, eo_go hbn hl] at *
      refine ⟨⟨by omega, by omega, by omega⟩, Or.inr ⟨hbn, by omega, hnb, Or.inr (Or.inl ⟨hd, rfl, rfl, ?_, ?_, t2⟩)⟩⟩
      · rcases nk_c (t := t) (b := b) (e := eo le t n (b + 1)) (d := 3) 27 (by omega) with ⟨h1, -⟩ | ⟨h1, h2⟩
        · exact Or.inl (t2.trans h1)
        · rw [← t2] at h1 h2
          rw [sd_iff] at h2
          rcases tab_c (tk t n p) h1 with h3 | ⟨h3, h4, h5, h6, -⟩ | ⟨h3, -⟩
          · exact absurd h3 h2.1
          · have := h2.2.2 0 (by omega)
            rw [Nat.add_zero] at this
            rw [← this, hl] at h6; cases h6
          · exact Or.inr h3
      · rcases nk_c (t := t) (b := b) (e := eo le t n (b + 1)) (d := 3) 27 (by omega) with ⟨h1, -⟩ | ⟨h1, -⟩ <;> omega
    | false =>
      rw [hl, if_neg (by decide)] at t1
      cases hd : di (t b) with
      | true =>
        rw [hd, if_pos rfl] at t1 t2
        have r2 := eo_rg (P := di) (t := t) (n := n) _ (b + 1) rfl (by omega)
        rw [t1, eo_go hbn hd]
        exact ⟨⟨by omega, by omega, by omega⟩, Or.inr ⟨hbn, by omega, hnb, Or.inl ⟨rfl, rfl, rfl, t2⟩⟩⟩
      | false =>
        rw [hd, if_neg (by decide)] at t1 t2
        rw [hl, if_neg (by decide)] at t2
        refine ⟨⟨by omega, by omega, by omega⟩, Or.inr ⟨hbn, by omega, hnb, Or.inr (Or.inr ⟨rfl, rfl, t1, ?_, t2⟩)⟩⟩
        rcases nk_c (t := t) (b := b) (e := te t n p) (d := 1) 27 (by omega) with ⟨h1, -⟩ | ⟨h1, h2⟩
        · exact Or.inl (t2.trans h1)
        · rw [← t2] at h1 h2
          rw [sd_iff] at h2
          rcases tab_c (tk t n p) h1 with h3 | ⟨h3, h4, -⟩ | ⟨h3, h4, h5⟩
          · exact absurd h3 h2.1
          · exact Or.inr ⟨h3, h4⟩
          · have := h2.2.2 0 (by omega)
            rw [Nat.add_zero] at this
            rw [← this, hl] at h5; cases h5
  · have hbn' : tb t n p = n := by omega
    have t1 : te t n p = tb t n p := by unfold te; rw [if_neg hbn]
    have t2 : tk t n p = 0 := by unfold tk; rw [if_neg hbn]
    exact ⟨⟨by omega, by omega, by omega⟩, Or.inl ⟨hbn', by omega, t2⟩⟩
theorem PP.tk_lt (t : Nat → Int32) (n p : Nat) (hp : p ≤ n) : tk t n p < 27 := by
  obtain ⟨-, ⟨-, -, h⟩ | ⟨-, -, -, ⟨-, -, -, h⟩ | ⟨-, -, -, -, h, -⟩ | ⟨-, -, -, h, -⟩⟩⟩ := tk_c t n p hp <;> omega
/-! bytes -/
set_option maxRecDepth 20000 in
theorem PP.by_d : ∀ k : Nat, k < 256 → (0 ≤ nI k - 128 ∧ (nI k - 128) &&& 255 = nI k - 128) ∨ (nI k - 128 < 0 ∧ 128 ≤ (nI k - 128) &&& 255) := by decide +kernel
theorem PP.by_cmp {x y : Int32} (h : byC x y) : (0 ≤ x ∧ x = y) ∨ (x < 0 ∧ 128 ≤ y) := by
  obtain ⟨h1, h2, h3⟩ := h
  obtain ⟨k, hk, e⟩ := nI_of (show 0 ≤ x + 128 by grind)
  have hk2 : k < 256 := by
    have : nI k < nI 256 := by rw [← e, show nI 256 = 256 from rfl]; grind
    exact (nI_lt (by omega) (by omega)).mp this
  have ex : x = nI k - 128 := by rw [← e]; grind
  rcases by_d k hk2 with ⟨a1, a2⟩ | ⟨a1, a2⟩
  · rw [← ex] at a1 a2
    exact Or.inl ⟨a1, a2.symm.trans h1⟩
  · rw [← ex] at a1 a2
    exact Or.inr ⟨a1, by rw [← h1]; exact a2⟩
theorem PP.by_eq {x y c : Int32} (h : byC x y) (hc : 0 ≤ c ∧ c ≤ 127) : x = c ↔ y = c := by
  rcases by_cmp h with ⟨h1, rfl⟩ | ⟨h1, h2⟩
  · exact Iff.rfl
  · constructor
    · intro e; subst e; grind
    · intro e; subst e; grind
theorem PP.by_in {x y c d : Int32} (h : byC x y) (hc : 0 ≤ c ∧ d ≤ 127) : (c ≤ x ∧ x ≤ d) ↔ (c ≤ y ∧ y ≤ d) := by
  rcases by_cmp h with ⟨h1, rfl⟩ | ⟨h1, h2⟩
  · exact Iff.rfl
  · constructor
    · intro e; grind
    · intro e; grind
