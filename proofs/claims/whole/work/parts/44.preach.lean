/-! ===== were all hushed, and only some began ===== -/
def PP.sA (F : Nat) (s : Sg) (who : Int32) : Sg := stt (s 0 0) (s 0 1) (fun k => if k < F ∧ hasB who k ∧ ¬ hasB (s 0 1) k then 1 else 0) (fun k => if k < F then 0 else s 2 k) (s 3) (s 4)
theorem PP.sA_ok {F : Nat} {s : Sg} {who : Int32} (h : StOK F s) : StOK F (sA F s who) := by
  obtain ⟨h1, h2, h3⟩ := h
  refine ⟨h1, h2, ?_⟩
  intro i hi
  obtain ⟨a1, a2, a3, a4, a5⟩ := h3 i hi
  refine ⟨?_, ?_, a3, a4, ?_⟩
  · show (0 : Int32) ≤ (if i < F ∧ hasB who i ∧ ¬ hasB (s 0 1) i then 1 else 0) ∧ (if i < F ∧ hasB who i ∧ ¬ hasB (s 0 1) i then (1 : Int32) else 0) ≤ 5
    split <;> decide
  · show (0 : Int32) ≤ (if i < F then 0 else s 2 i) ∧ (if i < F then 0 else s 2 i) ≤ 9
    rw [if_pos hi]; decide
  · show hasB (s 0 1) i → (if i < F ∧ hasB who i ∧ ¬ hasB (s 0 1) i then (1 : Int32) else 0) = 0
    intro hb
    rw [if_neg (fun h => h.2.2 hb)]
def PP.rch (F : Nat) (L s : Sg) : Nat → Int32
  | 0 => 0
  | k + 1 => rch F L s k ||| nds F (run F L s k)
theorem PP.rch_s (F : Nat) (L s : Sg) (k : Nat) : rch F L s (k + 1) = rch F L s k ||| nds F (run F L s k) := rfl
theorem PP.has_rch {F : Nat} {L s : Sg} {i : Nat} (hi : i < 32) : ∀ n, hasB (rch F L s n) i ↔ ∃ k, k < n ∧ hasB (nds F (run F L s k)) i
  | 0 => ⟨fun h => absurd h (hasB_0 hi), fun ⟨k, h, _⟩ => absurd h (by omega)⟩
  | n + 1 => by
    rw [rch_s, hasB_or hi, has_rch hi n]
    constructor
    · rintro (⟨k, h1, h2⟩ | h)
      · exact ⟨k, by omega, h2⟩
      · exact ⟨n, by omega, h⟩
    · rintro ⟨k, h1, h2⟩
      by_cases e : k = n
      · subst e; exact Or.inr h2
      · exact Or.inl ⟨k, by omega, h2⟩
theorem PP.nds_sub {F : Nat} (hF : F ≤ 9) (s : Sg) : sub F (nds F s) := sub_mk (by omega)
theorem PP.rch_sub {F : Nat} {L s : Sg} (hF : F ≤ 9) : ∀ n, sub F (rch F L s n)
  | 0 => sub_0 F
  | n + 1 => sub_or (rch_sub hF n) (nds_sub hF _)
theorem PP.has_nds {F i : Nat} {s : Sg} (hF : F ≤ 9) (hi : i < 32) : hasB (nds F s) i ↔ i < F ∧ s 1 i = 1 := by
  unfold nds
  rw [hasB_mk (by omega) hi, decide_eq_true_eq]
theorem PP.nds_awake {F i : Nat} {s : Sg} (hF : F ≤ 9) (hS : StOK F s) (hi : i < 32) (h : hasB (nds F s) i) : ¬ hasB (s 0 1) i := by
  intro hb
  rw [has_nds hF hi] at h
  have := (hS.2.2 i h.1).2.2.2.2 hb
  rw [this] at h
  exact absurd h.2 (by decide)
theorem PP.rch_awake {F i n : Nat} {L s : Sg} (hO : LandOK F L) (hS : StOK F s) (ht : s 0 0 ≤ 999) (hn : n ≤ 1000) (hi : i < 32) (h : hasB (rch F L s n) i) : i < F ∧ ¬ hasB (s 0 1) i := by
  obtain ⟨k, hk, hb⟩ := (has_rch hi n).mp h
  have h1 := nds_awake hO.1 (run_ok hO hS ht k (by omega)) hi hb
  rw [run_a] at h1
  exact ⟨((has_nds hO.1 hi).mp hb).1, h1⟩
/-! who waits for nothing: nothing comes -/
theorem PP.wts_0 {F : Nat} {s : Sg} (hF : F ≤ 9) (hS : StOK F s) : wts F s = 0 ↔ ∀ i, i < F → s 1 i = 0 := by
  unfold wts
  rw [eq0_iff]
  constructor
  · intro h i hi
    have h1 := h i (by omega)
    rw [hasB_mk (by omega) (by omega), decide_eq_true_eq] at h1
    have h2 := (hS.2.2 i hi).1.1
    have : ¬ 0 < s 1 i := fun h3 => h1 ⟨hi, h3⟩
    grind
  · intro h k hk hb
    rw [hasB_mk (by omega) hk, decide_eq_true_eq] at hb
    rw [h k hb.1] at hb
    exact absurd hb.2 (by decide)
theorem PP.quiet_nds {F : Nat} {s : Sg} (hF : F ≤ 9) (h : ∀ i, i < F → s 1 i = 0) : nds F s = 0 := by
  rw [eq0_iff]
  intro k hk hb
  rw [has_nds hF hk] at hb
  rw [h k hb.1] at hb
  exact absurd hb.2 (by decide)
theorem PP.quiet_tick {F : Nat} {L s : Sg} {m : Int32} (hF : F ≤ 9) (h : ∀ i, i < F → s 1 i = 0) : ∀ i, i < F → tick F L m s 1 i = 0 := by
  intro i hi
  have hn := quiet_nds hF h
  have h1 : tick F L m s 1 i = if i < F ∧ starts F L s m i = true then L 3 i else sN F L s 1 i := rfl
  rw [h1, if_neg]
  · have h2 : sN F L s 1 i = if i < F then wN s i else s 1 i := rfl
    rw [h2, if_pos hi]
    unfold wN
    rw [h i hi]; rfl
  · rintro ⟨-, hs⟩
    unfold starts at hs
    rw [decide_eq_true_eq] at hs
    refine hs.2.2.2.1 ?_
    rw [hn]; exact Int32.and_zero
theorem PP.quiet_run {F : Nat} {L s : Sg} {k : Nat} (hF : F ≤ 9) (h : ∀ i, i < F → run F L s k 1 i = 0) : ∀ j i, i < F → run F L s (k + j) 1 i = 0
  | 0, i, hi => h i hi
  | j + 1, i, hi => by
    rw [← Nat.add_assoc, run_s]
    exact quiet_tick hF (quiet_run hF h j) i hi
theorem PP.quiet_rch {F : Nat} {L s : Sg} {k : Nat} (hF : F ≤ 9) (h : ∀ i, i < F → run F L s k 1 i = 0) : ∀ j, rch F L s (k + j) = rch F L s k
  | 0 => rfl
  | j + 1 => by
    rw [← Nat.add_assoc, rch_s, quiet_rch hF h j, quiet_nds hF (quiet_run hF h j)]
    exact Int32.or_zero
/-! all farms, who is awake -/
abbrev PP.alF (F : Nat) : Int32 := ((1 : Int32) <<< (nI F &&& 31)) - 1
set_option maxRecDepth 20000 in
theorem PP.al_d : ∀ F : Nat, F < 10 → ∀ k : Nat, k < 32 → (hasB (alF F) k ↔ k < F) := by decide +kernel
theorem PP.has_al {F k : Nat} (hF : F ≤ 9) (hk : k < 32) : hasB (alF F) k ↔ k < F := al_d F (by omega) k hk
def PP.awk (F : Nat) (s : Sg) : Int32 := alF F &&& (s 0 1 ^^^ (-1))
theorem PP.hasB_neg {x : Int32} {k : Nat} (hk : k < 32) : hasB (x ^^^ (-1)) k ↔ ¬ hasB x k := by
  rw [hasB_xor hk]
  constructor
  · intro h hx; exact h ⟨fun _ => hasB_m1 hk, fun _ => hx⟩
  · intro h e; exact h (e.mpr (hasB_m1 hk))
theorem PP.has_awk {F k : Nat} {s : Sg} (hF : F ≤ 9) (hk : k < 32) : hasB (awk F s) k ↔ k < F ∧ ¬ hasB (s 0 1) k := by
  unfold awk
  rw [hasB_and hk, has_al hF hk, hasB_neg hk]
theorem PP.awk_sub {F : Nat} {s : Sg} (hF : F ≤ 9) : sub F (awk F s) := fun k hk hFk h => by
  have := ((has_awk hF hk).mp h).1; omega
theorem PP.rch_full {F k j : Nat} {L s : Sg} (hO : LandOK F L) (hS : StOK F s) (ht : s 0 0 ≤ 999) (hn : k + j ≤ 1000) (h : rch F L s k = awk F s) : rch F L s (k + j) = rch F L s k := by
  refine ext_B fun i hi => ?_
  constructor
  · intro hb
    rw [h, has_awk hO.1 hi]
    exact rch_awake hO hS ht hn hi hb
  · intro hb
    rw [has_rch hi] at hb ⊢
    obtain ⟨m, h1, h2⟩ := hb
    exact ⟨m, by omega, h2⟩
/-! the class's side -/
theorem PP.c_anew {N F : Nat} {L s σ : Sg} {who : Int32} (hN : 20 < N) (hF : F ≤ 9) (hL : LC F L σ) (hr : RC 47 F L (tp L s) σ) (hs : SC 22 F s σ) : Ev (f_X2_startAnew_55_22 N who σ) (fun σ' => CX F L (sA F s who) 0 σ' ∧ Fr [56, 57, 58, 59, 60, 61] σ σ') := by
  unfold f_X2_startAnew_55_22
  refine (c_start hN hF hL hr hs).bind ?_
  rintro σ1 ⟨hX1, hf1⟩
  refine (c_quiet_56 hN hF hX1.2.2.1).bind ?_
  rintro σ2 ⟨hs2, hf2⟩
  have hL2 : LC F L σ2 := hX1.1.fr hf2 (by decide)
  have hw2 : ∀ i, i < 9 → σ2 57 i = 0 := by
    intro i hi
    by_cases hiF : i < F
    · exact (hs2.2.2.1 i hiF).1
    · exact hs2.2.2.2 i (by omega) hi
  rw [ev_b]
  refine ev_lp (fun k q => q.1 = nI k ∧ Fr [57, 58] σ2 q.2 ∧ ∀ i, i < 9 → q.2 57 i = (if i < k ∧ hasB who i ∧ ¬ hasB (s 0 1) i then 1 else 0) ∧ q.2 58 i = if i < k then 0 else σ2 58 i) F N _ (by omega) ⟨rfl, Fr.refl _ _, fun i hi => ⟨by dsimp only; rw [hw2 i hi, if_neg (by omega)], by rw [if_neg (by omega)]⟩⟩ ?_
  rintro k ⟨_, σ3⟩ hk ⟨e, hf3, hi3⟩
  dsimp only at e hf3 hi3
  subst e
  have l3 : σ3 12 0 = nI F := by rw [hf3 12 (by decide)]; exact hL2.2.1
  have a3 : σ3 56 1 = s 0 1 := by rw [hf3 56 (by decide)]; exact hs2.2.1
  unfold s_X2_startAnew_55_22_h14 f_X2_startAnew_55_22_b52
  dsimp only
  by_cases hkF : k = F
  · subst hkF
    rw [if_pos (by rw [l3]; exact Int32.le_refl _), ev_s]
    refine Or.inr ⟨Nat.one_ne_zero, ev_s.mpr ⟨⟨hL2.fr hf3 (by decide), ?_, ⟨?_, ?_, ?_, ?_⟩, ?_⟩, ?_⟩⟩
    · show RC 47 k L (tp L s) σ3
      exact (hX1.2.1.fr hf2 (by decide)).fr hf3 (by decide)
    · dsimp only; rw [hf3 56 (by decide)]; exact hs2.1
    · exact a3
    · intro i hi
      have h := hi3 i (by omega)
      have h2 := hs2.2.2.1 i hi
      dsimp only [Nat.reduceAdd] at h2 ⊢
      rw [h.1, h.2, hf3 59 (by decide), hf3 60 (by decide), if_pos hi]
      refine ⟨rfl, ?_, h2.2.2⟩
      show 0 = if i < k then 0 else s 2 i
      rw [if_pos hi]
    · intro i hi h9
      have h := hi3 i h9
      dsimp only [Nat.reduceAdd]
      rw [h.1, if_neg (by omega)]
    · intro i hi
      dsimp only
      rw [hf3 61 (by decide), hf2 61 (by decide)]
      exact hX1.2.2.2 i hi
    · exact (hf1.tr (hf2.mo (by decide))).tr (hf3.mo (by decide))
  · have hk' : k < F := by omega
    rw [if_neg (by rw [l3, nI_le (by omega) (by omega)]; omega)]
    simp (disch := omega) only [nI_g, if_false]
    simp (disch := omega) only [nI_cl]
    rw [ev_bd, ev_i]
    refine ⟨fun hb => ?_, fun hb => ?_⟩
    · rw [c_nod_56 (by omega), Option.bind_some, ev_bd, ev_s]
      rw [wr_n (show (56 : Nat) ≠ 58 by decide), a3]
      by_cases hsl : hasB (s 0 1) k
      · rw [if_pos hsl]
        refine Or.inl ⟨rfl, hk', nI_s _, hf3.wr (by decide), ?_⟩
        intro i hi
        have h := hi3 i hi
        dsimp only
        rw [wr_n (show (57 : Nat) ≠ 58 by decide), wr_e, h.1]
        by_cases e : i = k
        · subst e
          rw [upd_e, if_neg (by omega), if_neg (fun h => h.2.2 hsl), if_pos (by omega)]
          exact ⟨rfl, rfl⟩
        · rw [upd_n e, h.2]
          simp only [show (i < k + 1) = (i < k) by apply propext; omega]
          exact ⟨trivial, trivial⟩
      · rw [if_neg hsl]
        refine Or.inl ⟨rfl, hk', nI_s _, (hf3.wr (by decide)).wr (by decide), ?_⟩
        intro i hi
        have h := hi3 i hi
        dsimp only
        rw [wr_e, wr_n (show (58 : Nat) ≠ 57 by decide), wr_e, wr_n (show (57 : Nat) ≠ 58 by decide)]
        by_cases e : i = k
        · subst e
          rw [upd_e, upd_e, if_pos ⟨by omega, hb, hsl⟩, if_pos (by omega)]
          exact ⟨rfl, rfl⟩
        · rw [upd_n e, upd_n e, h.1, h.2]
          simp only [show (i < k + 1) = (i < k) by apply propext; omega]
          exact ⟨trivial, trivial⟩
    · rw [ev_bd, ev_s]
      refine Or.inl ⟨rfl, hk', nI_s _, hf3.wr (by decide), ?_⟩
      intro i hi
      have h := hi3 i hi
      dsimp only
      rw [wr_n (show (57 : Nat) ≠ 58 by decide), wr_e, h.1]
      by_cases e : i = k
      · subst e
        rw [upd_e, if_neg (by omega), if_neg (fun h => hb h.2.1), if_pos (by omega)]
        exact ⟨rfl, rfl⟩
      · rw [upd_n e, h.2]
        simp only [show (i < k + 1) = (i < k) by apply propext; omega]
        exact ⟨trivial, trivial⟩
abbrev PP.pn (F : Nat) (L s : Sg) (f : Nat) : Nat → Bool := fun k => decide (hasB (nds F (run F L s k)) f)
theorem PP.c_firstg {N F f : Nat} {L s σ : Sg} (hN : 5000 < N) (hO : LandOK F L) (hS : StOK F s) (ht : s 0 0 ≤ 999) (hf : f < 9) (hX : CX F L s 0 σ) : Ev (f_X2_firstNod_55 N (nI f) σ) (fun z => z.1 = fsp (pn F L s f) 1 60 ∧ Fr [20, 56, 57, 58, 59, 61, 62] σ z.2) := by
  unfold f_X2_firstNod_55
  rw [ev_b]
  refine ev_lp (fun k q => q.1 = nI (k + 1) ∧ fsp (pn F L s f) 1 k = -1 ∧ CX F L s k q.2 ∧ Fr [20, 56, 57, 58, 59, 61, 62] σ q.2) 60 N _ (by omega) ⟨rfl, rfl, hX, Fr.refl _ _⟩ ?_
  rintro k ⟨_, σ2⟩ hk ⟨e, hfs, hX2, hf2⟩
  dsimp only at e hfs hX2 hf2
  subst e
  unfold s_X2_firstNod_55_h2
  dsimp only
  by_cases hk6 : k = 60
  · subst hk6
    rw [if_pos (by decide), ev_s]
    refine Or.inr ⟨by simp, ?_⟩
    dsimp only
    rw [if_neg (by decide), ev_s]
    exact ⟨hfs.symm, hf2⟩
  · rw [if_neg (by rw [show (60 : Int32) = nI 60 from rfl, nI_lt (by omega) (by omega)]; omega)]
    refine (c_go (by omega) hO hS ht (by omega) hX2).bind ?_
    rintro ⟨r, σ3⟩ ⟨e, hX3, hf3⟩
    dsimp only at e hX3 hf3 ⊢
    subst e
    rw [ev_i]
    refine ⟨fun hb => ?_, fun hb => ?_⟩
    · rw [ev_s]
      refine Or.inr ⟨by simp, ?_⟩
      dsimp only
      rw [if_pos rfl, ev_s]
      exact ⟨(fsp_hit (by omega) hfs (decide_eq_true hb) (by omega)).symm, hf2.tr hf3⟩
    · rw [ev_bd, ev_s]
      refine Or.inl ⟨rfl, by omega, nI_s _, ?_, hX3, hf2.tr hf3⟩
      rw [fsp_s, if_pos hfs, if_neg (fun h => hb (of_decide_eq_true h))]
theorem PP.c_gather {N F n : Nat} {L s σ : Sg} (hN : 5000 < N) (hO : LandOK F L) (hS : StOK F s) (ht : s 0 0 ≤ 999) (hn : n ≤ 60) (hX : CX F L s 0 σ) : Ev (f_X2_gather_55 N (nI n) σ) (fun z => z.1 = rch F L s n ∧ Fr [20, 56, 57, 58, 59, 61, 62] σ z.2) := by
  have hF := hO.1
  unfold f_X2_gather_55 f_X9_all_12
  rw [Option.bind_some, ev_bd, ev_b]
  dsimp only
  have a0 : σ 56 1 = s 0 1 := hX.2.2.1.2.1
  rw [hX.1.2.1, a0]
  refine ev_lp (fun k q => q.1 = rch F L s k ∧ q.2.1 = nI k ∧ CX F L s k q.2.2 ∧ Fr [20, 56, 57, 58, 59, 61, 62] σ q.2.2) n N _ (by omega) ⟨rfl, rfl, hX, Fr.refl _ _⟩ ?_
  rintro k ⟨_, _, σ2⟩ hk ⟨e1, e2, hX2, hf2⟩
  dsimp only at e1 e2 hX2 hf2
  subst e1 e2
  unfold s_X2_gather_55_h23
  dsimp only
  obtain ⟨j, rfl⟩ : ∃ j, n = k + j := ⟨n - k, by omega⟩
  by_cases hkn : j = 0
  · subst hkn
    rw [if_pos (show nI (k + 0) ≤ nI k from Int32.le_refl _), ev_s]
    exact Or.inr ⟨Nat.one_ne_zero, ev_s.mpr ⟨rfl, hf2⟩⟩
  · rw [if_neg (by rw [nI_le (by omega) (by omega)]; omega), ev_i]
    refine ⟨fun h => ?_, fun h => ?_⟩
    · rw [ev_s]
      exact Or.inr ⟨Nat.one_ne_zero, ev_s.mpr ⟨(rch_full hO hS ht (by omega) h).symm, hf2⟩⟩
    · rw [c_waits_56 (by omega) hF hX2.2.2.1, Option.bind_some]
      dsimp only
      rw [ev_i]
      refine ⟨fun h0 => ?_, fun h0 => ?_⟩
      · rw [ev_s]
        exact Or.inr ⟨Nat.one_ne_zero, ev_s.mpr ⟨(quiet_rch hF ((wts_0 hF (run_ok hO hS ht k (by omega))).mp h0) j).symm, hf2⟩⟩
      · refine (c_go (by omega) hO hS ht (by omega) hX2).bind ?_
        rintro ⟨r, σ3⟩ ⟨e, hX3, hf3⟩
        dsimp only at e hX3 hf3 ⊢
        rw [ev_bd, ev_bd, ev_s]
        exact Or.inl ⟨rfl, by omega, by dsimp only; rw [rch_s, e], nI_s _, hX3, hf2.tr hf3⟩
theorem PP.c_reachedBy {N n : Nat} {a : Ab} {σ : Sg} {who : Int32} (hN : 5000 < N) (hO : OKa a) (hC : RlC a σ) (hn : n ≤ 60) : Ev (f_X11_reachedBy_0 N who (nI n) σ) (fun z => z.1 = rch a.1 a.2.1 (sA a.1 a.2.2.1.1 who) n ∧ RlC a z.2) := by
  unfold f_X11_reachedBy_0
  refine (c_anew (by omega) hO.1.1 hC.1 hC.2.2.1 hC.2.1.1).bind ?_
  rintro σ1 ⟨hX, hf⟩
  refine (c_gather hN hO.1 (sA_ok hO.2.1.1.1) hO.2.1.1.2 hn hX).bind ?_
  rintro ⟨r, σ2⟩ ⟨e, hf2⟩
  rw [ev_s]
  exact ⟨e, hC.q ((hf.mo (by decide)).tr (hf2.mo (by decide)))⟩
/-! the reference's side -/
theorem PP.m_reachedBy {N F n : Nat} {L s τ : Sg} {who : Int32} (hN : 5000 < N) (hO : LandOK F L) (hS : StOK F (sA F s who)) (ht : s 0 0 ≤ 999) (hn : n ≤ 60) (hL : LM F L τ) (h32 : τ 0 32 = -1) (hs : SM F s τ) : Ev (f_X12_reachedBy N who (nI n) τ) (fun q => q.1 = rch F L (sA F s who) n ∧ SM F s q.2 ∧ FM [13, 14, 15, 16, 18, 19, 23] [28, 29, 35] τ q.2) := by
  have hF := hO.1
  unfold f_X12_reachedBy
  rw [show (0 : Int32) = nI 0 from rfl]
  refine (m_pack_23 (by omega) (by omega)).bind ?_
  rintro τ1 ⟨hp, -, hf1⟩
  refine (m_hushAll (by omega) hF (hs.fr hf1 (by decide) (by decide))).bind ?_
  rintro τ2 ⟨hs2, hw2, hf2⟩
  refine Ev.bind (P := fun z => SM F (sA F s who) z.2.2 ∧ FM [13, 14] [] τ2 z.2.2) ?_ ?_
  · refine ev_lp (fun k q => q.1 = nI k ∧ FM [13, 14] [] τ2 q.2 ∧ ∀ i, i < 9 → q.2 13 i = (if i < k ∧ hasB who i ∧ ¬ hasB (s 0 1) i then 1 else 0) ∧ q.2 14 i = if i < k then 0 else τ2 14 i) F N _ (by omega) ⟨rfl, FM.refl _ _ _, fun i hi => ⟨by dsimp only; rw [hw2 i hi, if_neg (by omega)], by rw [if_neg (by omega)]⟩⟩ ?_
    rintro k ⟨_, τ3⟩ hk ⟨e, hf3, hi3⟩
    dsimp only at e hf3 hi3
    subst e
    have l3 : τ3 3 0 = nI F := by rw [hf3.1 3 (by decide) (by decide), hf2.1 3 (by decide) (by decide), hf1.1 3 (by decide) (by decide)]; exact hL.2.1
    have a3 : τ3 0 29 = s 0 1 := by rw [hf3.2 29 (by decide)]; exact hs2.2.1
    unfold s_X12_reachedBy_h15 f_X12_reachedBy_b54
    dsimp only
    by_cases hkF : k = F
    · subst hkF
      rw [if_pos (by rw [l3]; exact Int32.le_refl _), ev_s]
      refine Or.inr ⟨Nat.one_ne_zero, ⟨?_, ?_, ?_⟩, hf3⟩
      · dsimp only; rw [hf3.2 28 (by decide)]; exact hs2.1
      · exact a3
      · intro i hi
        have h := hi3 i (by omega)
        have h2 := hs2.2.2 i hi
        dsimp only
        rw [h.1, h.2, hf3.1 15 (by decide) (by decide), hf3.1 16 (by decide) (by decide), if_pos hi]
        refine ⟨rfl, ?_, h2.2.2⟩
        show 0 = if i < k then 0 else s 2 i
        rw [if_pos hi]
    · have hk' : k < F := by omega
      rw [if_neg (by rw [l3, nI_le (by omega) (by omega)]; omega)]
      simp (disch := omega) only [nI_g, if_false]
      simp (disch := omega) only [nI_cl]
      rw [ev_bd, m_isOf, Option.bind_some]
      dsimp only
      rw [wr_n (show (0 : Nat) ≠ 14 by decide), a3]
      have hb : hasB (who &&& (s 0 1 ^^^ (-1))) k ↔ hasB who k ∧ ¬ hasB (s 0 1) k := by rw [hasB_and (by omega), hasB_neg (by omega)]
      by_cases hw : hasB who k ∧ ¬ hasB (s 0 1) k
      · rw [if_pos (hb.mpr hw), if_neg (by decide), ev_bd, ev_bd, ev_s]
        refine Or.inl ⟨rfl, hk', nI_s _, (hf3.w (by decide) (by decide)).w (by decide) (by decide), ?_⟩
        intro i hi
        have h := hi3 i hi
        dsimp only
        rw [wr_e, wr_n (show (14 : Nat) ≠ 13 by decide), wr_e, wr_n (show (13 : Nat) ≠ 14 by decide)]
        by_cases e : i = k
        · subst e
          rw [upd_e, upd_e, if_pos ⟨by omega, hw⟩, if_pos (by omega)]
          exact ⟨rfl, rfl⟩
        · rw [upd_n e, upd_n e, h.1, h.2]
          simp only [show (i < k + 1) = (i < k) by apply propext; omega]
          exact ⟨trivial, trivial⟩
      · rw [if_neg (fun h => hw (hb.mp h)), if_pos rfl, ev_bd, ev_s]
        refine Or.inl ⟨rfl, hk', nI_s _, hf3.w (by decide) (by decide), ?_⟩
        intro i hi
        have h := hi3 i hi
        dsimp only
        rw [wr_n (show (13 : Nat) ≠ 14 by decide), wr_e, h.1]
        by_cases e : i = k
        · subst e
          rw [upd_e, if_neg (by omega), if_neg (fun h => hw h.2), if_pos (by omega)]
          exact ⟨rfl, rfl⟩
        · rw [upd_n e, h.2]
          simp only [show (i < k + 1) = (i < k) by apply propext; omega]
          exact ⟨trivial, trivial⟩
  rintro ⟨_, _, τ3⟩ ⟨hs3, hf3⟩
  dsimp only at hs3 hf3 ⊢
  have hX : MX F L (sA F s who) 0 τ3 := ⟨((hL.fr hf1 (by decide)).fr hf2 (by decide)).fr hf3 (by decide), by rw [hf3.2 32 (by decide), hf2.2 32 (by decide), hf1.2 32 (by decide)]; exact h32, hs3⟩
  have hff : FM [13, 14, 15, 16, 18, 19, 23] [28, 29, 35] τ τ3 := ((hf1.mo (by decide) (by decide)).tr (hf2.mo (by decide) (by decide))).tr (hf3.mo (by decide) (by decide))
  have hr3 : rowM F s (τ3 23) 0 := by
    rw [hf3.1 23 (by decide) (by decide), hf2.1 23 (by decide) (by decide)]
    exact hp F s hF hs
  rw [ev_b]
  refine ev_lp (fun k q => q.1 = rch F L (sA F s who) k ∧ q.2.1 = nI k ∧ MX F L (sA F s who) k q.2.2 ∧ rowM F s (q.2.2 23) 0 ∧ FM [13, 14, 15, 16, 18, 19, 23] [28, 29, 35] τ q.2.2) n N _ (by omega) ⟨rfl, rfl, hX, hr3, hff⟩ ?_
  rintro k ⟨_, _, τ4⟩ hk ⟨e1, e2, hX4, hr4, hf4⟩
  dsimp only at e1 e2 hX4 hr4 hf4
  subst e1 e2
  unfold s_X12_reachedBy_h65
  dsimp only
  by_cases hkn : k = n
  · subst hkn
    rw [if_pos (Int32.le_refl _), ev_s]
    refine Or.inr ⟨Nat.one_ne_zero, ?_⟩
    dsimp only
    refine (m_unpack_23 (by omega) (by omega)).bind ?_
    rintro τ5 ⟨hu, hf5⟩
    rw [ev_s]
    exact ⟨rfl, hu F s hF hr4, hf4.tr (hf5.mo (by decide) (by decide))⟩
  · rw [if_neg (by rw [nI_le (by omega) (by omega)]; omega)]
    refine (m_go (by omega) hO hS ht (by omega) hX4).bind ?_
    rintro τ5 ⟨e, hX5, hf5⟩
    rw [ev_bd, ev_bd, ev_s]
    refine Or.inl ⟨rfl, by omega, by dsimp only; rw [rch_s, e], nI_s _, hX5, ?_, hf4.tr (hf5.mo (by decide) (by decide))⟩
    dsimp only
    rw [hf5.1 23 (by decide) (by decide)]; exact hr4
theorem PP.m_reacha {N n : Nat} {a : Ab} {τ : Sg} {who : Int32} (hN : 5000 < N) (hO : OKa a) (hM : RlM a τ) (hn : n ≤ 60) : Ev (f_X12_reachedBy N who (nI n) τ) (fun q => q.1 = rch a.1 a.2.1 (sA a.1 a.2.2.1.1 who) n ∧ RlM a q.2 ∧ q.2 0 2 = τ 0 2) := by
  refine (m_reachedBy hN hO.1 (sA_ok hO.2.1.1.1) hO.2.1.1.2 hn hM.1 hM.2.2.1 hM.2.1.1).imp ?_
  rintro ⟨r, τ'⟩ ⟨e, hs, hf⟩
  refine ⟨e, hM.q (hf.mo (by decide) (by decide)) hs ?_, hf.2 2 (by decide)⟩
  exact (hf.2 32 (by decide)).trans hM.2.2.1
theorem PP.m_reachIn {N n f o : Nat} {a : Ab} {τ : Sg} (hN : 5000 < N) (hO : OKa a) (hM : RlM a τ) (hn : n ≤ 60) : Ev (f_X12_reachesIn N (nI f) (nI o) (nI n) τ) (fun q => q.1 = (if hasB (rch a.1 a.2.1 (sA a.1 a.2.2.1.1 (bit f)) n) o then 1 else 0) ∧ RlM a q.2 ∧ q.2 0 2 = τ 0 2) := by
  unfold f_X12_reachesIn
  refine (m_reacha hN hO hM hn).bind ?_
  rintro ⟨r, τ'⟩ ⟨e, hR, h2⟩
  dsimp only at e hR h2 ⊢
  subst e
  rw [m_isOf, Option.bind_some]
  dsimp only
  by_cases h : hasB (rch a.1 a.2.1 (sA a.1 a.2.2.1.1 (bit f)) n) o
  · rw [if_pos h, if_neg (by decide), ev_s]; exact ⟨rfl, hR, h2⟩
  · rw [if_neg h, if_neg (by decide), ev_s]; exact ⟨rfl, hR, h2⟩
/-! the first, and whether there is one -/
theorem PP.fsp_none {p : Nat → Bool} {d : Nat} : ∀ n, (∀ k, k < n → p k = false) → fsp p d n = -1
  | 0, _ => rfl
  | n + 1, h => by rw [fsp_s, fsp_none n (fun k hk => h k (by omega)), if_pos rfl, h n (by omega)]; rfl
theorem PP.fsp_m1 {p : Nat → Bool} {d : Nat} : ∀ n, n + d < 2147483648 → fsp p d n = -1 → ∀ k, k < n → p k = false
  | 0, _, _, k, hk => absurd hk (by omega)
  | n + 1, hd, h, k, hk => by
    rw [fsp_s] at h
    by_cases h1 : fsp p d n = -1
    · rw [if_pos h1] at h
      by_cases e : k = n
      · subst e
        cases hp : p k with
        | false => rfl
        | true => rw [if_pos hp] at h; exact absurd h (nI_m1 (by omega))
      · exact fsp_m1 n (by omega) h1 k (by omega)
    · rw [if_neg h1] at h; exact absurd h h1
theorem PP.fsp_rch {F o : Nat} {L s : Sg} (ho : o < 32) : fsp (pn F L s o) 1 60 = -1 ↔ ¬ hasB (rch F L s 60) o := by
  rw [has_rch ho]
  constructor
  · intro h ⟨k, hk, hb⟩
    have := fsp_m1 60 (by omega) h k hk
    exact absurd hb (of_decide_eq_false this)
  · intro h
    exact fsp_none 60 fun k hk => decide_eq_false fun hb => h ⟨k, hk, hb⟩
