/-! ===== if only ticks go by ===== -/
theorem PP.c_open {N : Nat} {a : Ab} {σ : Sg} (hN : 20 < N) (hO : OKa a) (h : RlC a σ) : Ev (f_X2_start_55_22 N σ) (fun σ1 => CX a.1 a.2.1 a.2.2.1.1 0 σ1 ∧ Fr qC σ σ1) :=
  (c_start hN hO.1.1 h.1 h.2.2.1 h.2.1.1).imp fun σ1 h1 => ⟨h1.1, h1.2.mo (by decide)⟩
def PP.PkM (a : Ab) (τ τ1 : Sg) : Prop := rowM a.1 a.2.2.1.1 (τ1 21) 0 ∧ FM qM qF τ τ1
theorem PP.PkM.st {a : Ab} {τ τ1 τ2 : Sg} {P Q : List Nat} (h : PkM a τ τ1) (f : FM P Q τ1 τ2) (d : ∀ c, c ∈ P → c ∈ qM ∧ c ≠ 21) (d' : ∀ c, c ∈ Q → c ∈ qF) : PkM a τ τ2 := by
  refine ⟨?_, h.2.tr (f.mo (fun c hc => (d c hc).1) d')⟩
  rw [f.1 21 (by decide) (fun hc => (d 21 hc).2 rfl)]; exact h.1
theorem PP.m_open {N : Nat} {a : Ab} {τ : Sg} (hN : 20 < N) (hO : OKa a) (h : RlM a τ) : Ev (f_X12_pack_21 N 0 τ) (fun τ1 => MX a.1 a.2.1 a.2.2.1.1 0 τ1 ∧ PkM a τ τ1 ∧ τ1 0 2 = τ 0 2) := by
  rw [show (0 : Int32) = nI 0 from rfl]
  refine (m_pack_21 hN (by omega)).imp ?_
  rintro τ1 ⟨h1, _, hf⟩
  refine ⟨⟨h.1.fr hf (by decide), ?_, h.2.1.1.fr hf (by decide) (by decide)⟩, ⟨h1 _ _ hO.1.1 h.2.1.1, hf.mo (by decide) (by decide)⟩, hf.2 2 (by decide)⟩
  rw [hf.2 32 (by decide)]; exact h.2.2.1
theorem PP.m_close {N : Nat} {a : Ab} {τ τ2 : Sg} (hN : 20 < N) (hO : OKa a) (h : RlM a τ) (hp : PkM a τ τ2) (h32 : τ2 0 32 = -1) : Ev (f_X12_unpack_21 N 0 τ2) (fun τ3 => RlM a τ3 ∧ τ3 0 2 = τ2 0 2 ∧ τ3 0 35 = τ2 0 35) := by
  rw [show (0 : Int32) = nI 0 from rfl]
  refine (m_unpack_21 hN (by omega)).imp ?_
  rintro τ3 ⟨h1, hf⟩
  refine ⟨h.q (hp.2.tr (hf.mo (by decide) (by decide))) (h1 _ _ hO.1.1 hp.1) ?_, hf.2 2 (by decide), hf.2 35 (by decide)⟩
  rw [hf.2 32 (by decide)]; exact h32
theorem PP.Fr.qc {σ σ1 σ2 : Sg} {P : List Nat} (h : Fr qC σ σ1) (f : Fr P σ1 σ2) (d : ∀ c, c ∈ P → c ∈ qC) : Fr qC σ σ2 := h.tr (f.mo d)
theorem PP.in_n {x : Int32} {lo hi : Nat} (hh : hi < 2147483648) (h : nI lo ≤ x ∧ x ≤ nI hi) (hlo : lo < 2147483648) : ∃ n, lo ≤ n ∧ n ≤ hi ∧ x = nI n := by
  have h0 : 0 ≤ x := by
    have := nI_n0 hlo
    obtain ⟨h1, h2⟩ := h
    exact Int32.le_trans this h1
  obtain ⟨n, hn, rfl⟩ := nI_of h0
  exact ⟨n, (nI_le hlo hn).mp h.1, (nI_le hn hh).mp h.2, rfl⟩
theorem PP.ok_nodding {N : Nat} (hN : 5000 < N) : Ok_nodding N Rl := by
  rintro x σ τ ⟨a, hO, hC, hM⟩
  have hOL := hO.1
  have hOS := hO.2.1.1
  by_cases hx : 1 ≤ x ∧ x ≤ 60
  · obtain ⟨n, hn1, hn2, rfl⟩ := in_n (lo := 1) (hi := 60) (by omega) hx (by omega)
    obtain ⟨n, rfl⟩ : ∃ m, n = m + 1 := ⟨n - 1, by omega⟩
    refine okZ (a := a) (cC := 0) (cM := 0) (r := nds a.1 (run a.1 a.2.1 a.2.2.1.1 n)) (D := fun c d => (c = 0 ∧ d = 0) ∨ (c = 2 ∧ d = 1)) hO (Or.inl ⟨rfl, rfl⟩) ?_ ?_
    · unfold f_X11_nodding_0
      rw [c_within, Option.bind_some, if_pos hx]
      dsimp only
      rw [if_pos rfl]
      refine (c_open (by omega) hO hC).bind ?_
      rintro σ1 ⟨hX, hf⟩
      rw [ev_b]
      refine ev_for (fun k q => q.2.1 = nI (k + 1) ∧ (∀ j, k = j + 1 → q.1 = nds a.1 (run a.1 a.2.1 a.2.2.1.1 j)) ∧ CX a.1 a.2.1 a.2.2.1.1 k q.2.2 ∧ Fr qC σ q.2.2) (n + 1) N _ (by omega) ⟨rfl, (fun j h => absurd h (by omega)), hX, hf⟩ ?_ ?_
      · rintro k ⟨v, i, σ2⟩ hk ⟨e, hv, hX2, hf2⟩
        dsimp only at e hv hX2 hf2
        subst e
        unfold s_X11_nodding_0_h25
        dsimp only
        rw [if_neg (by rw [nI_lt (by omega) (by omega)]; omega)]
        refine (c_go (by omega) hOL hOS.1 hOS.2 (by omega) hX2).bind ?_
        rintro ⟨r, σ3⟩ ⟨e, hX3, hf3⟩
        rw [ev_bd, ev_bd, ev_s]
        refine Or.inl ⟨rfl, nI_s _, ?_, hX3, hf2.qc hf3 (by decide)⟩
        intro j hj
        have : k = j := by omega
        subst this
        exact e
      · rintro ⟨v, i, σ2⟩ ⟨e, hv, hX2, hf2⟩
        dsimp only at e hv hX2 hf2
        subst e
        unfold s_X11_nodding_0_h25
        dsimp only
        rw [if_pos (by rw [nI_lt (by omega) (by omega)]; omega), ev_s]
        exact ⟨by simp, ev_s.mpr ⟨rfl, fun _ => hv n rfl, hC.q hf2⟩⟩
    · unfold f_X12_nodding
      rw [ev_bd, show (1 : Int64) = (1 : Int32).toInt64 from rfl, show (60 : Int64) = (60 : Int32).toInt64 from rfl, m_isIn, Option.bind_some, if_pos hx]
      dsimp only
      rw [if_neg (by decide)]
      have hM0 := hM.code 0
      refine (m_open (by omega) hO hM0).bind ?_
      rintro τ1 ⟨hX, hp, h2⟩
      refine (m_goOn (by omega) hOL hOS.1 hOS.2 (by omega) hX).bind ?_
      rintro τ2 ⟨hv, hX2, hf2⟩
      refine (m_close (by omega) hO hM0 (hp.st hf2 (by decide) (by decide)) hX2.2.1).bind ?_
      rintro τ3 ⟨hR, h3, h35⟩
      rw [ev_s]
      refine ⟨?_, fun _ => ?_, hR⟩
      · dsimp only; rw [h3, hf2.2 2 (by decide), h2]; rfl
      · dsimp only; rw [h35]; exact hv n rfl
  · refine okZ (a := a) (cC := 2) (cM := 1) (r := 0) (D := fun c d => (c = 0 ∧ d = 0) ∨ (c = 2 ∧ d = 1)) hO (Or.inr ⟨rfl, rfl⟩) ?_ ?_
    · unfold f_X11_nodding_0
      rw [c_within, Option.bind_some, if_neg hx]
      dsimp only
      rw [if_neg (by decide), ev_s]
      exact ⟨rfl, fun h => absurd h (by decide), hC⟩
    · unfold f_X12_nodding f_X12_fail
      rw [ev_bd, show (1 : Int64) = (1 : Int32).toInt64 from rfl, show (60 : Int64) = (60 : Int32).toInt64 from rfl, m_isIn, Option.bind_some, if_neg hx]
      simp only [if_true, bd, Option.bind_some, ev_s]
      exact ⟨rfl, fun h => absurd h (by decide), (hM.code 0).code 1⟩
abbrev PP.rn (a : Ab) (k : Nat) : Sg := run a.1 a.2.1 a.2.2.1.1 k
abbrev PP.nd (a : Ab) (k : Nat) : Int32 := nds a.1 (rn a k)
theorem PP.c_goa {N k : Nat} {a : Ab} {σ : Sg} (hN : 1000 < N) (hO : OKa a) (hk : k < 1000) (hC : CX a.1 a.2.1 a.2.2.1.1 k σ) : Ev (f_X2_go_55 N σ) (fun z => z.1 = nd a k ∧ CX a.1 a.2.1 a.2.2.1.1 (k + 1) z.2 ∧ Fr [20, 56, 57, 58, 59, 61, 62] σ z.2) := c_go hN hO.1 hO.2.1.1.1 hO.2.1.1.2 hk hC
theorem PP.m_goa {N k : Nat} {a : Ab} {τ : Sg} (hN : 1000 < N) (hO : OKa a) (hk : k < 1000) (hM : MX a.1 a.2.1 a.2.2.1.1 k τ) : Ev (f_X12_aTick N τ) (fun τ' => τ' 0 35 = nd a k ∧ MX a.1 a.2.1 a.2.2.1.1 (k + 1) τ' ∧ FM [13, 14, 15, 18, 19] [28, 35] τ τ') := m_go hN hO.1 hO.2.1.1.1 hO.2.1.1.2 hk hM
theorem PP.nd_sub (a : Ab) (hO : OKa a) (k : Nat) : sub a.1 (nd a k) := sub_mk (by have := hO.1.1; omega)
theorem PP.nd_sub9 (a : Ab) (hO : OKa a) (k : Nat) : sub 9 (nd a k) := sub_mo (nd_sub a hO k) hO.1.1
theorem PP.ok_then {N : Nat} (hN : 5000 < N) : Ok_then N Rl := by
  rintro x n w σ τ ⟨a, hO, hC, hM⟩
  have hF := hO.1.1
  have lC := hC.1.2.1
  have lM : (wr τ 0 2 0) 3 0 = nI a.1 := hM.1.2.1
  have e60 : (60 : Int64) = (60 : Int32).toInt64 := rfl
  have e0 : (0 : Int64) = (0 : Int32).toInt64 := rfl
  by_cases h1 : (0 ≤ x ∧ x < nI a.1) ∧ 0 ≤ w ∧ w ≤ 1
  · obtain ⟨f, hf, rfl⟩ := farm_n hF h1.1
    have hw1 : ¬ w < 0 := by have := h1.2.1; grind
    by_cases h2 : 0 ≤ n ∧ n ≤ 60
    · obtain ⟨n, hn1, hn2, rfl⟩ := in_n (lo := 0) (hi := 60) (by omega) h2 (by omega)
      refine okZ (a := a) (cC := 0) (cM := 0) (r := if w = 0 then rn a n 1 f else rn a n 3 f) (D := fun c d => (c = 0 ∧ d = 0) ∨ (c = 1 ∧ d = 1) ∨ (c = 2 ∧ d = 2)) hO (Or.inl ⟨rfl, rfl⟩) ?_ ?_
      · unfold f_X11_then_0
        rw [c_farm hF lC, Option.bind_some, if_pos h1.1]
        dsimp only
        rw [if_pos rfl, c_what, Option.bind_some, if_pos h1.2]
        dsimp only
        rw [if_pos rfl, c_within, Option.bind_some, if_pos h2]
        dsimp only
        rw [if_pos rfl]
        refine (c_open (by omega) hO hC).bind ?_
        rintro σ1 ⟨hX, hf1⟩
        rw [ev_b]
        refine ev_for (fun k q => q.1 = nI (k + 1) ∧ CX a.1 a.2.1 a.2.2.1.1 k q.2 ∧ Fr qC σ q.2) n N _ (by omega) ⟨rfl, hX, hf1⟩ ?_ ?_
        · rintro k ⟨i, σ2⟩ hk ⟨e, hX2, hf2⟩
          dsimp only at e hX2 hf2
          subst e
          unfold s_X11_then_0_h34
          dsimp only
          rw [if_neg (by rw [nI_lt (by omega) (by omega)]; omega)]
          refine (c_goa (by omega) hO (by omega) hX2).bind ?_
          rintro ⟨r, σ3⟩ ⟨e, hX3, hf3⟩
          rw [ev_bd, ev_s]
          exact Or.inl ⟨rfl, nI_s _, hX3, hf2.qc hf3 (by decide)⟩
        · rintro ⟨i, σ2⟩ ⟨e, hX2, hf2⟩
          dsimp only at e hX2 hf2
          subst e
          unfold s_X11_then_0_h34
          dsimp only
          rw [if_pos (by rw [nI_lt (by omega) (by omega)]; omega), ev_s]
          refine ⟨by simp, ?_⟩
          have hx := hX2.2.2.1.2.2.1 f hf
          simp only [Nat.reduceAdd] at hx
          simp (disch := omega) only [nI_cl, nI_nn, show ¬ 9 ≤ f by omega, or_self, if_false, ev_i, ev_s, hx]
          exact ⟨fun hw => ⟨by trivial, fun _ => by rw [if_pos hw], hC.q hf2⟩, fun hw => ⟨by trivial, fun _ => by rw [if_neg hw], hC.q hf2⟩⟩
      · unfold f_X12_then f_X12_then_b79
        rw [ev_bd, m_isFarm hF lM, Option.bind_some, if_pos h1.1]
        dsimp only
        rw [if_neg (by decide), if_neg hw1, if_pos h1.2.2, e60, e0, m_isIn, Option.bind_some, if_pos h2]
        dsimp only
        rw [if_neg (by decide)]
        have hM0 := hM.code 0
        refine (m_open (by omega) hO hM0).bind ?_
        rintro τ1 ⟨hX, hp, hc2⟩
        refine (m_goOn (by omega) hO.1 hO.2.1.1.1 hO.2.1.1.2 (by omega) hX).bind ?_
        rintro τ2 ⟨hv, hX2, hf2⟩
        have hx := hX2.2.2.2.2 f hf
        simp (disch := omega) only [nI_cl, nI_nn, show ¬ 9 ≤ f by omega, or_self, if_false, hx]
        have fin : ∀ t : Int32, t = (if w = 0 then rn a n 1 f else rn a n 3 f) → Ev ((f_X12_unpack_21 N 0 τ2).bind fun q1 => some (t, q1)) (fun q => q.2 0 2 = 0 ∧ (True → q.1 = (if w = 0 then rn a n 1 f else rn a n 3 f)) ∧ RlM a q.2) := by
          intro t ht
          refine (m_close (by omega) hO hM0 (hp.st hf2 (by decide) (by decide)) hX2.2.1).bind ?_
          rintro τ3 ⟨hR, h3, h35⟩
          rw [ev_s]
          refine ⟨?_, fun _ => ht, hR⟩
          dsimp only; rw [h3, hf2.2 2 (by decide), hc2]; rfl
        rw [ev_i]
        exact ⟨fun hw => fin _ (by rw [if_pos hw]), fun hw => fin _ (by rw [if_neg hw])⟩
    · refine okZ (a := a) (cC := 2) (cM := 2) (r := 0) (D := fun c d => (c = 0 ∧ d = 0) ∨ (c = 1 ∧ d = 1) ∨ (c = 2 ∧ d = 2)) hO (Or.inr (Or.inr ⟨rfl, rfl⟩)) ?_ ?_
      · unfold f_X11_then_0
        rw [c_farm hF lC, Option.bind_some, if_pos h1.1]
        dsimp only
        rw [if_pos rfl, c_what, Option.bind_some, if_pos h1.2]
        dsimp only
        rw [if_pos rfl, c_within, Option.bind_some, if_neg h2]
        dsimp only
        rw [if_neg (by decide), ev_s]
        exact ⟨rfl, fun h => absurd h (by decide), hC⟩
      · unfold f_X12_then f_X12_fail
        rw [ev_bd, m_isFarm hF lM, Option.bind_some, if_pos h1.1]
        dsimp only
        rw [if_neg (by decide), if_neg hw1, if_pos h1.2.2, e60, e0, m_isIn, Option.bind_some, if_neg h2]
        simp only [if_true, bd, Option.bind_some, ev_s]
        exact ⟨rfl, fun h => absurd h (by decide), (hM.code 0).code 2⟩
  · refine okZ (a := a) (cC := 1) (cM := 1) (r := 0) (D := fun c d => (c = 0 ∧ d = 0) ∨ (c = 1 ∧ d = 1) ∨ (c = 2 ∧ d = 2)) hO (Or.inr (Or.inl ⟨rfl, rfl⟩)) ?_ ?_
    · unfold f_X11_then_0
      rw [c_farm hF lC, Option.bind_some]
      by_cases hx : 0 ≤ x ∧ x < nI a.1
      · have hw : ¬ (0 ≤ w ∧ w ≤ 1) := fun h => h1 ⟨hx, h⟩
        rw [if_pos hx]
        dsimp only
        rw [if_pos rfl, c_what, Option.bind_some, if_neg hw]
        dsimp only
        rw [if_neg (by decide), ev_s]
        exact ⟨rfl, fun h => absurd h (by decide), hC⟩
      · rw [if_neg hx]
        dsimp only
        rw [if_neg (by decide), ev_s]
        exact ⟨rfl, fun h => absurd h (by decide), hC⟩
    · unfold f_X12_then f_X12_then_b22 f_X12_fail
      rw [ev_bd, m_isFarm hF lM, Option.bind_some]
      have fin : wr (wr τ 0 2 0) 0 2 1 0 2 = 1 ∧ ((1 : Nat) = 0 → True) ∧ RlM a (wr (wr τ 0 2 0) 0 2 1) := ⟨rfl, fun h => absurd h (by decide), (hM.code 0).code 1⟩
      by_cases hx : 0 ≤ x ∧ x < nI a.1
      · have hw : ¬ (0 ≤ w ∧ w ≤ 1) := fun h => h1 ⟨hx, h⟩
        rw [if_pos hx]
        dsimp only
        rw [if_neg (by decide)]
        by_cases hw0 : w < 0
        · rw [if_pos hw0]
          simp only [bd, Option.bind_some, ev_s]
          exact fin
        · rw [if_neg hw0, if_neg (by intro h; exact hw ⟨by grind, h⟩)]
          simp only [bd, Option.bind_some, ev_s]
          exact fin
      · rw [if_neg hx]
        simp only [if_true, bd, Option.bind_some, ev_s]
        exact fin
/-! the first of n turns at which something holds, counted from d -/
def PP.fsp (p : Nat → Bool) (d : Nat) : Nat → Int32
  | 0 => -1
  | n + 1 => if fsp p d n = -1 then (if p n = true then nI (n + d) else -1) else fsp p d n
theorem PP.nI_m1 {k : Nat} (h : k < 2147483648) : nI k ≠ -1 := by
  intro e
  have := nI_n0 h
  rw [e] at this
  exact absurd this (by decide)
theorem PP.fsp_s (p : Nat → Bool) (d n : Nat) : fsp p d (n + 1) = if fsp p d n = -1 then (if p n = true then nI (n + d) else -1) else fsp p d n := rfl
theorem PP.fsp_st {p : Nat → Bool} {d k : Nat} (h : fsp p d k ≠ -1) : ∀ j, fsp p d (k + j) = fsp p d k
  | 0 => rfl
  | j + 1 => by
    have := fsp_st h j
    rw [← Nat.add_assoc, fsp_s, this, if_neg h]
theorem PP.fsp_hit {p : Nat → Bool} {d k n : Nat} (hd : n + d < 2147483648) (h : fsp p d k = -1) (hp : p k = true) (hk : k < n) : fsp p d n = nI (k + d) := by
  have h1 : fsp p d (k + 1) = nI (k + d) := by rw [fsp_s, if_pos h, if_pos hp]
  obtain ⟨j, rfl⟩ : ∃ j, n = k + 1 + j := ⟨n - (k + 1), by omega⟩
  rw [fsp_st (by rw [h1]; exact nI_m1 (by omega)), h1]
theorem PP.c_first {N f : Nat} {a : Ab} {σ : Sg} {p : Nat → Bool} (hN : 5000 < N) (hf : f < 9) (hp : ∀ k, k < 60 → (p k = true ↔ hasB (nd a k) f)) (hO : OKa a) (hX : CX a.1 a.2.1 a.2.2.1.1 0 σ) : Ev (f_X2_firstNod_55 N (nI f) σ) (fun z => z.1 = fsp p 1 60 ∧ Fr qC σ z.2) := by
  unfold f_X2_firstNod_55
  rw [ev_b]
  refine ev_for (fun k q => q.1 = nI (k + 1) ∧ fsp p 1 k = -1 ∧ CX a.1 a.2.1 a.2.2.1.1 k q.2 ∧ Fr qC σ q.2) 60 N _ (by omega) ⟨rfl, rfl, hX, Fr.refl _ _⟩ ?_ ?_
  · rintro k ⟨i, σ2⟩ hk ⟨e, hfs, hX2, hf2⟩
    dsimp only at e hfs hX2 hf2
    subst e
    unfold s_X2_firstNod_55_h2
    dsimp only
    rw [if_neg (by rw [show (60 : Int32) = nI 60 from rfl, nI_lt (by omega) (by omega)]; omega)]
    refine (c_goa (by omega) hO (by omega) hX2).bind ?_
    rintro ⟨r, σ3⟩ ⟨e, hX3, hf3⟩
    dsimp only at e hX3 hf3 ⊢
    subst e
    rw [ev_i]
    refine ⟨fun hb => ?_, fun hb => ?_⟩
    · rw [ev_s]
      refine Or.inr ⟨by simp, ?_⟩
      dsimp only
      rw [if_pos rfl, ev_s]
      exact ⟨(fsp_hit (by omega) hfs ((hp k hk).mpr hb) hk).symm, hf2.qc hf3 (by decide)⟩
    · rw [ev_bd, ev_s]
      refine Or.inl ⟨rfl, nI_s _, ?_, hX3, hf2.qc hf3 (by decide)⟩
      rw [fsp_s, if_pos hfs, if_neg (fun h => hb ((hp k hk).mp h))]
  · rintro ⟨i, σ2⟩ ⟨e, hfs, hX2, hf2⟩
    dsimp only at e hfs hX2 hf2
    subst e
    unfold s_X2_firstNod_55_h2
    dsimp only
    rw [if_pos (by rw [show (60 : Int32) = nI 60 from rfl, nI_lt (by omega) (by omega)]; omega), ev_s]
    refine ⟨by simp, ?_⟩
    dsimp only
    rw [if_neg (by decide), ev_s]
    exact ⟨hfs.symm, hf2⟩
theorem PP.ok_first {N : Nat} (hN : 5000 < N) : Ok_first N Rl := by
  rintro x σ τ ⟨a, hO, hC, hM⟩
  have hF := hO.1.1
  have lC := hC.1.2.1
  have lM : (wr τ 0 2 0) 3 0 = nI a.1 := hM.1.2.1
  by_cases hx : 0 ≤ x ∧ x < nI a.1
  · obtain ⟨f, hf, rfl⟩ := farm_n hF hx
    have hp : ∀ k, k < 60 → ((fun k => decide (hasB (nd a k) f)) k = true ↔ hasB (nd a k) f) := fun k _ => by simp
    refine okZ (a := a) (cC := 0) (cM := 0) (r := fsp (fun k => decide (hasB (nd a k) f)) 1 60) (D := fun c d => (c = 0 ∧ d = 0) ∨ (c = 1 ∧ d = 1)) hO (Or.inl ⟨rfl, rfl⟩) ?_ ?_
    · unfold f_X11_first_0
      rw [c_farm hF lC, Option.bind_some, if_pos hx]
      dsimp only
      rw [if_pos rfl]
      refine (c_open (by omega) hO hC).bind ?_
      rintro σ1 ⟨hX, hf1⟩
      refine (c_first hN (by omega) hp hO hX).bind ?_
      rintro ⟨r, σ2⟩ ⟨e, hf2⟩
      rw [ev_s]
      exact ⟨rfl, fun _ => e, hC.q (hf1.tr hf2)⟩
    · unfold f_X12_first
      rw [ev_bd, m_isFarm hF lM, Option.bind_some, if_pos hx]
      dsimp only
      rw [if_neg (by decide)]
      have hM0 := hM.code 0
      refine (m_open (by omega) hO hM0).bind ?_
      rintro τ1 ⟨hX, hpk, hc2⟩
      rw [ev_b]
      refine Ev.imp (P := fun z => z.2.1 = fsp (fun k => decide (hasB (nd a k) f)) 1 60 ∧ PkM a (wr τ 0 2 0) z.2.2.2 ∧ z.2.2.2 0 32 = -1 ∧ z.2.2.2 0 2 = 0) ?_ ?_
      · refine ev_for (fun k q => q.1 = fsp (fun k => decide (hasB (nd a k) f)) 1 k ∧ q.2.1 = nI (k + 1) ∧ MX a.1 a.2.1 a.2.2.1.1 k q.2.2 ∧ PkM a (wr τ 0 2 0) q.2.2 ∧ q.2.2 0 2 = 0) 60 N _ (by omega) ⟨rfl, rfl, hX, hpk, by dsimp only; rw [hc2]; rfl⟩ ?_ ?_
        · rintro k ⟨v, i, τ2⟩ hk ⟨e, e2, hX2, hp2, hc⟩
          dsimp only at e e2 hX2 hp2 hc
          subst e e2
          unfold s_X12_first_h32 f_X12_first_b60
          dsimp only
          rw [if_neg (by rw [show (60 : Int32) = nI 60 from rfl, nI_lt (by omega) (by omega)]; omega), ev_i]
          refine ⟨fun hm => ?_, fun hm => ?_⟩
          · refine (m_goa (by omega) hO (by omega) hX2).bind ?_
            rintro τ3 ⟨e, hX3, hf3⟩
            rw [m_isOf, Option.bind_some, e]
            dsimp only
            have hc3 : τ3 0 2 = 0 := by rw [hf3.2 2 (by decide)]; exact hc
            by_cases hb : hasB (nd a k) f
            · rw [if_pos hb, if_neg (by decide), ev_bd, ev_s]
              exact Or.inl ⟨rfl, by rw [fsp_s, if_pos hm, if_pos ((hp k hk).mpr hb)], nI_s _, hX3, hp2.st hf3 (by decide) (by decide), hc3⟩
            · rw [if_neg hb, if_pos rfl, ev_bd, ev_s]
              exact Or.inl ⟨rfl, by rw [fsp_s, if_pos hm, if_neg (fun h => hb ((hp k hk).mp h))]; exact hm, nI_s _, hX3, hp2.st hf3 (by decide) (by decide), hc3⟩
          · rw [ev_s]
            refine Or.inr ⟨by simp, ?_, hp2, hX2.2.1, hc⟩
            have := fsp_st hm (60 - k)
            rw [show k + (60 - k) = 60 by omega] at this
            exact this.symm
        · rintro ⟨v, i, τ2⟩ ⟨e, e2, hX2, hp2, hc⟩
          dsimp only at e e2 hX2 hp2 hc
          subst e2
          unfold s_X12_first_h32
          dsimp only
          rw [if_pos (by rw [show (60 : Int32) = nI 60 from rfl, nI_lt (by omega) (by omega)]; omega), ev_s]
          exact ⟨by simp, e, hp2, hX2.2.1, hc⟩
      · rintro ⟨e0, v, i, τ2⟩ ⟨e, hp2, h32, hc⟩
        dsimp only at e hp2 h32 hc ⊢
        refine (m_close (by omega) hO hM0 hp2 h32).bind ?_
        rintro τ3 ⟨hR, h3, h35⟩
        rw [ev_s]
        exact ⟨by dsimp only; rw [h3]; exact hc, fun _ => e, hR⟩
  · refine okZ (a := a) (cC := 1) (cM := 1) (r := 0) (D := fun c d => (c = 0 ∧ d = 0) ∨ (c = 1 ∧ d = 1)) hO (Or.inr ⟨rfl, rfl⟩) ?_ ?_
    · unfold f_X11_first_0
      rw [c_farm hF lC, Option.bind_some, if_neg hx]
      dsimp only
      rw [if_neg (by decide), ev_s]
      exact ⟨rfl, fun h => absurd h (by decide), hC⟩
    · unfold f_X12_first f_X12_fail
      rw [ev_bd, m_isFarm hF lM, Option.bind_some, if_neg hx]
      simp only [if_true, bd, Option.bind_some, ev_s]
      exact ⟨rfl, fun h => absurd h (by decide), (hM.code 0).code 1⟩
/-! who waits -/
def PP.wts (F : Nat) (s : Sg) : Int32 := mk (fun k => decide (0 < s 1 k)) F
theorem PP.m_waits {N F : Nat} {s τ : Sg} (hN : 20 < N) (hF : F ≤ 9) (h0 : τ 3 0 = nI F) (hs : ∀ i, i < F → τ 13 i = s 1 i) : f_X12_waitingNow N τ = some (wts F s, τ) := by
  unfold f_X12_waitingNow
  rw [← ev_eq, ev_b]
  refine ev_for (fun k q => q = (mk (fun k => decide (0 < s 1 k)) k, nI k, τ)) F N _ (by omega) rfl ?_ ?_
  · rintro k _ hk rfl
    refine Ev.imp (P := fun r => r.1 = 0 ∧ _) ?_ (fun r h => Or.inl h)
    unfold s_X12_waitingNow_h4 f_X12_waitingNow_b31
    dsimp only
    simp (disch := omega) only [h0, nI_le, nI_cl, nI_nn, show ¬ F ≤ k by omega, show ¬ 9 ≤ k by omega, or_self, if_false, nI_s, hs k hk]
    rw [mk_s]
    by_cases c : s 1 k ≤ 0
    · have : ¬ 0 < s 1 k := by grind
      simp [c, this, bd, ev_s]
    · have : 0 < s 1 k := by grind
      simp [c, this, bd, ev_s]
  · rintro _ rfl
    unfold s_X12_waitingNow_h4
    dsimp only
    simp (disch := omega) only [h0, nI_le, Nat.le_refl, if_true, ev_s]
    exact ⟨by decide, by trivial⟩
theorem PP.mk_ext {p : Nat → Bool} {F : Nat} (n : Nat) (h : ∀ k, F ≤ k → k < F + n → p k = false) : mk p (F + n) = mk p F := by
  induction n with
  | zero => rfl
  | succ n ih =>
    rw [← Nat.add_assoc, mk_s, h (F + n) (by omega) (by omega), if_neg (by decide)]
    exact ih fun k h1 h2 => h k h1 (by omega)
theorem PP.c_waits_22 {N F : Nat} {s σ : Sg} (hN : 20 < N) (hF : F ≤ 9) (hs : SC 22 F s σ) : f_X7_whoWaits_22 N σ = some (wts F s, σ) := by
  obtain ⟨s0, s1, sx, sz⟩ := hs
  have e : wts F s = mk (fun k => decide (0 < σ 23 k)) 9 := by
    obtain ⟨n, hn⟩ : ∃ n, 9 = F + n := ⟨9 - F, by omega⟩
    rw [hn, mk_ext n]
    · exact mk_cg fun k hk => by
        have := (sx k hk).1
        simp only [Nat.reduceAdd] at this
        rw [this]
    · intro k h1 h2
      have := sz k h1 (by omega)
      simp only [Nat.reduceAdd] at this
      rw [this]; decide
  rw [e]
  unfold f_X7_whoWaits_22
  rw [← ev_eq, ev_b]
  refine ev_for (fun k q => q = (mk (fun k => decide (0 < σ 23 k)) k, nI k, σ)) 9 N _ (by omega) rfl ?_ ?_
  · rintro k _ hk rfl
    refine Ev.imp (P := fun r => r.1 = 0 ∧ _) ?_ (fun r h => Or.inl h)
    unfold s_X7_whoWaits_22_h4 f_X7_whoWaits_22_b25
    dsimp only
    simp (disch := omega) only [show (9 : Int32) = nI 9 from rfl, nI_le, nI_cl, nI_nn, show ¬ 9 ≤ k by omega, or_self, if_false, nI_s]
    rw [mk_s]
    by_cases c : σ 23 k ≤ 0
    · have : ¬ 0 < σ 23 k := by grind
      simp [c, this, bd, ev_s]
    · have : 0 < σ 23 k := by grind
      simp [c, this, bd, ev_s]
  · rintro _ rfl
    unfold s_X7_whoWaits_22_h4
    dsimp only
    simp (disch := omega) only [show (9 : Int32) = nI 9 from rfl, nI_le, Nat.le_refl, if_true, ev_s]
    exact ⟨by decide, by trivial⟩
theorem PP.c_waits_56 {N F : Nat} {s σ : Sg} (hN : 20 < N) (hF : F ≤ 9) (hs : SC 56 F s σ) : f_X7_whoWaits_56 N σ = some (wts F s, σ) := by
  obtain ⟨s0, s1, sx, sz⟩ := hs
  have e : wts F s = mk (fun k => decide (0 < σ 57 k)) 9 := by
    obtain ⟨n, hn⟩ : ∃ n, 9 = F + n := ⟨9 - F, by omega⟩
    rw [hn, mk_ext n]
    · exact mk_cg fun k hk => by
        have := (sx k hk).1
        simp only [Nat.reduceAdd] at this
        rw [this]
    · intro k h1 h2
      have := sz k h1 (by omega)
      simp only [Nat.reduceAdd] at this
      rw [this]; decide
  rw [e]
  unfold f_X7_whoWaits_56
  rw [← ev_eq, ev_b]
  refine ev_for (fun k q => q = (mk (fun k => decide (0 < σ 57 k)) k, nI k, σ)) 9 N _ (by omega) rfl ?_ ?_
  · rintro k _ hk rfl
    refine Ev.imp (P := fun r => r.1 = 0 ∧ _) ?_ (fun r h => Or.inl h)
    unfold s_X7_whoWaits_56_h4 f_X7_whoWaits_56_b25
    dsimp only
    simp (disch := omega) only [show (9 : Int32) = nI 9 from rfl, nI_le, nI_cl, nI_nn, show ¬ 9 ≤ k by omega, or_self, if_false, nI_s]
    rw [mk_s]
    by_cases c : σ 57 k ≤ 0
    · have : ¬ 0 < σ 57 k := by grind
      simp [c, this, bd, ev_s]
    · have : 0 < σ 57 k := by grind
      simp [c, this, bd, ev_s]
  · rintro _ rfl
    unfold s_X7_whoWaits_56_h4
    dsimp only
    simp (disch := omega) only [show (9 : Int32) = nI 9 from rfl, nI_le, Nat.le_refl, if_true, ev_s]
    exact ⟨by decide, by trivial⟩
theorem PP.ok_still {N : Nat} (hN : 5000 < N) : Ok_still N Rl := by
  rintro σ τ ⟨a, hO, hC, hM⟩
  have hF := hO.1.1
  refine okI (a := a) (r := fsp (fun k => decide (wts a.1 (rn a k) = 0)) 0 61) hO ?_ ?_
  · unfold f_X11_still_0
    refine (c_open (by omega) hO hC).bind ?_
    rintro σ1 ⟨hX, hf1⟩
    rw [ev_b]
    refine ev_for (fun k q => q.1 = nI k ∧ fsp (fun k => decide (wts a.1 (rn a k) = 0)) 0 k = -1 ∧ CX a.1 a.2.1 a.2.2.1.1 k q.2 ∧ Fr qC σ q.2) 61 N _ (by omega) ⟨rfl, rfl, hX, hf1⟩ ?_ ?_
    · rintro k ⟨i, σ2⟩ hk ⟨e, hfs, hX2, hf2⟩
      dsimp only at e hfs hX2 hf2
      subst e
      unfold s_X11_still_0_h16
      dsimp only
      rw [if_neg (by rw [show (60 : Int32) = nI 60 from rfl, nI_lt (by omega) (by omega)]; omega), c_waits_56 (by omega) hF hX2.2.2.1, Option.bind_some, ev_i]
      refine ⟨fun hb => ?_, fun hb => ?_⟩
      · rw [ev_s]
        refine Or.inr ⟨by simp, ?_⟩
        dsimp only
        rw [if_pos rfl, ev_s]
        exact ⟨(fsp_hit (d := 0) (by omega) hfs (decide_eq_true hb) hk).symm, hC.q hf2⟩
      · refine (c_goa (by omega) hO (by omega) hX2).bind ?_
        rintro ⟨r, σ3⟩ ⟨e, hX3, hf3⟩
        rw [ev_bd, ev_s]
        refine Or.inl ⟨rfl, nI_s _, ?_, hX3, hf2.qc hf3 (by decide)⟩
        rw [fsp_s, if_pos hfs, if_neg (fun h => hb (of_decide_eq_true h))]
    · rintro ⟨i, σ2⟩ ⟨e, hfs, hX2, hf2⟩
      dsimp only at e hfs hX2 hf2
      subst e
      unfold s_X11_still_0_h16
      dsimp only
      rw [if_pos (by rw [show (60 : Int32) = nI 60 from rfl, nI_lt (by omega) (by omega)]; omega), ev_s]
      refine ⟨by simp, ?_⟩
      dsimp only
      rw [if_neg (by decide), ev_s]
      exact ⟨hfs.symm, hC.q hf2⟩
  · unfold f_X12_still
    rw [ev_bd]
    have hM0 := hM.code 0
    refine (m_open (by omega) hO hM0).bind ?_
    rintro τ1 ⟨hX, hpk, hc2⟩
    rw [ev_b]
    refine Ev.imp (P := fun z => z.2.1 = fsp (fun k => decide (wts a.1 (rn a k) = 0)) 0 61 ∧ PkM a (wr τ 0 2 0) z.2.2.2 ∧ z.2.2.2 0 32 = -1) ?_ ?_
    · refine ev_for (fun k q => q.1 = fsp (fun k => decide (wts a.1 (rn a k) = 0)) 0 k ∧ q.2.1 = nI k ∧ MX a.1 a.2.1 a.2.2.1.1 k q.2.2 ∧ PkM a (wr τ 0 2 0) q.2.2) 61 N _ (by omega) ⟨rfl, rfl, hX, hpk⟩ ?_ ?_
      · rintro k ⟨v, i, τ2⟩ hk ⟨e, e2, hX2, hp2⟩
        dsimp only at e e2 hX2 hp2
        subst e2
        unfold s_X12_still_h18 f_X12_still_b38
        dsimp only
        rw [if_neg (by rw [show (60 : Int32) = nI 60 from rfl, nI_lt (by omega) (by omega)]; omega), ev_i, e]
        refine ⟨fun hm => ?_, fun hm => ?_⟩
        · rw [m_waits (s := rn a k) (by omega) hF hX2.1.2.1 (fun i hi => (hX2.2.2.2.2 i hi).1), Option.bind_some, ev_i]
          have nx : ∀ w : Int32, w = fsp (fun k => decide (wts a.1 (rn a k) = 0)) 0 (k + 1) → Ev ((f_X12_aTick N τ2).bind fun q1 => bd (nI k + 1) fun v2 => some (0, w, v2, q1)) (fun r => (r.1 = 0 ∧ (r.2.1 = fsp (fun k => decide (wts a.1 (rn a k) = 0)) 0 (k + 1) ∧ r.2.2.1 = nI (k + 1) ∧ MX a.1 a.2.1 a.2.2.1.1 (k + 1) r.2.2.2 ∧ PkM a (wr τ 0 2 0) r.2.2.2)) ∨ (r.1 ≠ 0 ∧ (r.2.1 = fsp (fun k => decide (wts a.1 (rn a k) = 0)) 0 61 ∧ PkM a (wr τ 0 2 0) r.2.2.2 ∧ r.2.2.2 0 32 = -1))) := by
            intro w hw
            refine (m_goa (by omega) hO (by omega) hX2).bind ?_
            rintro τ3 ⟨e, hX3, hf3⟩
            rw [ev_bd, ev_s]
            exact Or.inl ⟨rfl, hw, nI_s _, hX3, hp2.st hf3 (by decide) (by decide)⟩
          refine ⟨fun hb => nx _ ?_, fun hb => nx _ ?_⟩
          · rw [fsp_s, if_pos hm, if_pos (decide_eq_true hb)]; rfl
          · rw [fsp_s, if_pos hm, if_neg (fun h => hb (of_decide_eq_true h))]; exact hm
        · rw [ev_s]
          refine Or.inr ⟨by simp, ?_, hp2, hX2.2.1⟩
          have := fsp_st hm (61 - k)
          rw [show k + (61 - k) = 61 by omega] at this
          exact this.symm
      · rintro ⟨v, i, τ2⟩ ⟨e, e2, hX2, hp2⟩
        dsimp only at e e2 hX2 hp2
        subst e2
        unfold s_X12_still_h18
        dsimp only
        rw [if_pos (by rw [show (60 : Int32) = nI 60 from rfl, nI_lt (by omega) (by omega)]; omega), ev_s]
        exact ⟨by simp, e, hp2, hX2.2.1⟩
    · rintro ⟨e0, v, i, τ2⟩ ⟨e, hp2, h32⟩
      dsimp only at e hp2 h32 ⊢
      refine (m_close (by omega) hO hM0 hp2 h32).bind ?_
      rintro τ3 ⟨hR, h3, h35⟩
      rw [ev_s]
      exact ⟨e, hR⟩
