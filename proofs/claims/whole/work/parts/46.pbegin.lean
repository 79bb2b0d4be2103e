/-! ===== the least of the fewest ===== -/
def PP.LstB (good : Nat → Prop) (M : Nat) (r : Int32) : Prop := (r = -1 ∧ ∀ w, w < M → ¬ good w) ∨ ∃ b, b < M ∧ r = nI b ∧ good b ∧ ∀ w, w < M → good w → cnt (nI b) 9 ≤ cnt (nI w) 9 ∧ (cnt (nI w) 9 = cnt (nI b) 9 → b ≤ w)
theorem PP.lst_u {good : Nat → Prop} {M : Nat} {x y : Int32} (hx : LstB good M x) (hy : LstB good M y) : x = y := by
  rcases hx with ⟨rfl, hx⟩ | ⟨b, hb, rfl, gb, hx⟩
  · rcases hy with ⟨rfl, hy⟩ | ⟨c, hc, rfl, gc, hy⟩
    · rfl
    · exact absurd gc (hx c hc)
  · rcases hy with ⟨rfl, hy⟩ | ⟨c, hc, rfl, gc, hy⟩
    · exact absurd gb (hy b hb)
    · have h1 := hx c hc gc
      have h2 := hy b hb gb
      have e : cnt (nI b) 9 = cnt (nI c) 9 := by omega
      have : b = c := by
        have := h1.2 e.symm
        have := h2.2 e
        omega
      rw [this]
theorem PP.lst_0 {good : Nat → Prop} : LstB good 0 (-1) := Or.inl ⟨rfl, fun w h => absurd h (by omega)⟩
theorem PP.lst_no {good : Nat → Prop} {k : Nat} {r : Int32} (h : LstB good k r) (hg : ¬ good k) : LstB good (k + 1) r := by
  rcases h with ⟨rfl, h⟩ | ⟨b, hb, rfl, gb, h⟩
  · refine Or.inl ⟨rfl, fun w hw => ?_⟩
    by_cases e : w = k
    · subst e; exact hg
    · exact h w (by omega)
  · refine Or.inr ⟨b, by omega, rfl, gb, fun w hw gw => ?_⟩
    by_cases e : w = k
    · subst e; exact absurd gw hg
    · exact h w (by omega) gw
theorem PP.lst_more {good : Nat → Prop} {k b : Nat} {r : Int32} (hr : r = nI b) (hb : b < 2147483648) (hk : k < 2147483648) (h : LstB good k r) (hc : cnt (nI b) 9 ≤ cnt (nI k) 9) : LstB good (k + 1) r := by
  rcases h with ⟨h0, h⟩ | ⟨c, hcb, e, gb, h⟩
  · rw [h0] at hr; exact absurd hr.symm (nI_m1 hb)
  · have : b = c := (nI_eq hb (by omega)).mp (hr.symm.trans e)
    subst this
    refine Or.inr ⟨b, by omega, e, gb, fun w hw gw => ?_⟩
    by_cases ew : w = k
    · subst ew; exact ⟨hc, fun _ => by omega⟩
    · exact h w (by omega) gw
theorem PP.lst_new {good : Nat → Prop} {k : Nat} {r : Int32} (hk : k < 2147483648) (h : LstB good k r) (hg : good k) (hc : r = -1 ∨ ∃ b, b < 2147483648 ∧ r = nI b ∧ cnt (nI k) 9 < cnt (nI b) 9) : LstB good (k + 1) (nI k) := by
  refine Or.inr ⟨k, by omega, rfl, hg, fun w hw gw => ?_⟩
  by_cases ew : w = k
  · subst ew; exact ⟨Nat.le_refl _, fun _ => Nat.le_refl _⟩
  · rcases h with ⟨h0, h⟩ | ⟨b, hb, e, gb, h⟩
    · exact absurd gw (h w (by omega))
    · rcases hc with hc | ⟨c, hc1, hc2, hc3⟩
      · rw [hc] at e; exact absurd e.symm (nI_m1 (by omega))
      · have : b = c := (nI_eq (by omega) hc1).mp (e.symm.trans hc2)
        subst this
        have := h w (by omega) gw
        exact ⟨by omega, fun e => by omega⟩
/-- found at the least number of bits, and the least there -/
theorem PP.lst_first {good : Nat → Prop} {M b n : Nat} (hb : b < M) (gb : good b) (hn : cnt (nI b) 9 = n) (h1 : ∀ w, w < M → good w → n ≤ cnt (nI w) 9) (h2 : ∀ w, w < b → good w → cnt (nI w) 9 ≠ n) : LstB good M (nI b) := by
  refine Or.inr ⟨b, hb, rfl, gb, fun w hw gw => ⟨by rw [hn]; exact h1 w hw gw, fun e => ?_⟩⟩
  by_cases hwb : w < b
  · exact absurd (e.trans hn) (h2 w hwb gw)
  · omega
theorem PP.bit_n {w k : Nat} (hw : w < 2147483648) (hk : k < 32) : hasB (nI w) k ↔ w.testBit k = true := by
  rw [hasB_l hk]
  unfold nI
  rw [Int32.toBitVec_ofNat', BitVec.getLsbD_ofNat]
  simp only [hk, decide_true, Bool.true_and]
theorem PP.sub_le {F M w : Nat} (hF : F ≤ 9) (hM : M < 2147483648) (h : sub F (nI M)) (hw : w ≤ M) : sub F (nI w) := by
  have h1 : M < 2 ^ F := by
    apply Nat.lt_pow_two_of_testBit
    intro i hi
    by_cases h32 : i < 32
    · have := h i h32 hi
      rw [bit_n hM h32] at this
      simpa using this
    · exact Nat.testBit_lt_two_pow (Nat.lt_of_lt_of_le hM (Nat.le_trans (by decide : 2147483648 ≤ 2 ^ 31) (Nat.pow_le_pow_right (by omega) (by omega))))
  intro k hk hFk hb
  rw [bit_n (by omega) hk] at hb
  rw [Nat.testBit_lt_two_pow (Nat.lt_of_lt_of_le (Nat.lt_of_le_of_lt hw h1) (Nat.pow_le_pow_right (by omega) hFk))] at hb
  exact absurd hb (by decide)
theorem PP.cnt_ext {F : Nat} {x : Int32} (h : sub F x) : ∀ j, F + j ≤ 32 → cnt x (F + j) = cnt x F
  | 0, _ => rfl
  | j + 1, hj => by
    rw [← Nat.add_assoc]
    unfold cnt
    rw [if_neg (h (F + j) (by omega) (by omega)), cnt_ext h j (by omega)]
    cases F with
    | zero => rfl
    | succ n => rfl
theorem PP.cnt_sub {F : Nat} {x : Int32} (hF : F ≤ 9) (h : sub F x) : cnt x 9 ≤ F := by
  have := cnt_ext h (9 - F) (by omega)
  rw [show F + (9 - F) = 9 by omega] at this
  rw [this]; exact cnt_le x F
/-! ===== the fewest who must begin ===== -/
def PP.inA (a : Ab) (w : Nat) : Prop := ∀ k, k < 32 → hasB (nI w) k → hasB (awk a.1 a.2.2.1.1) k
def PP.gdB (a : Ab) (n w : Nat) : Prop := inA a w ∧ rch a.1 a.2.1 (sA a.1 a.2.2.1.1 (nI w)) n = awk a.1 a.2.2.1.1
theorem PP.inA_c {a : Ab} {w : Nat} : nI w &&& (awk a.1 a.2.2.1.1 ^^^ (-1)) = 0 ↔ inA a w := by
  rw [eq0_iff]
  constructor
  · intro h k hk hb
    have := h k hk
    rw [hasB_and hk, hasB_neg hk] at this
    exact Classical.byContradiction fun hn => this ⟨hb, hn⟩
  · intro h k hk hb
    rw [hasB_and hk, hasB_neg hk] at hb
    exact hb.2 (h k hk hb.1)
theorem PP.inA_m {a : Ab} {w : Nat} (hF : a.1 ≤ 9) (hs : sub a.1 (nI w)) : nI w &&& (a.2.2.1.1 0 1) = 0 ↔ inA a w := by
  rw [eq0_iff]
  constructor
  · intro h k hk hb
    have := h k hk
    rw [hasB_and hk] at this
    rw [has_awk hF hk]
    refine ⟨Classical.byContradiction fun hn => hs k hk (by omega) hb, fun hx => this ⟨hb, hx⟩⟩
  · intro h k hk hb
    rw [hasB_and hk] at hb
    have := h k hk hb.1
    rw [has_awk hF hk] at this
    exact this.2 hb.2
theorem PP.inA_sub {a : Ab} {w : Nat} (hF : a.1 ≤ 9) (h : inA a w) : sub a.1 (nI w) := fun k hk hFk hb => awk_sub hF k hk hFk (h k hk hb)
theorem PP.awk_eq {a : Ab} {n : Nat} {who : Int32} (hO : OKa a) (hn : n ≤ 60) : awk a.1 a.2.2.1.1 &&& (rch a.1 a.2.1 (sA a.1 a.2.2.1.1 who) n ^^^ (-1)) = 0 ↔ rch a.1 a.2.1 (sA a.1 a.2.2.1.1 who) n = awk a.1 a.2.2.1.1 := by
  have hF := hO.1.1
  have hr : ∀ i, i < 32 → hasB (rch a.1 a.2.1 (sA a.1 a.2.2.1.1 who) n) i → hasB (awk a.1 a.2.2.1.1) i := by
    intro i hi hb
    rw [has_awk hF hi]
    have h := rch_awake (s := sA a.1 a.2.2.1.1 who) (L := a.2.1) (n := n) hO.1 (sA_ok hO.2.1.1.1) hO.2.1.1.2 (by omega) hi hb
    exact ⟨h.1, h.2⟩
  generalize rch a.1 a.2.1 (sA a.1 a.2.2.1.1 who) n = Y at hr ⊢
  rw [eq0_iff]
  constructor
  · intro h
    refine ext_B fun i hi => ⟨hr i hi, fun hb => ?_⟩
    have := h i hi
    rw [hasB_and hi, hasB_neg hi] at this
    exact Classical.byContradiction fun hn => this ⟨hb, hn⟩
  · rintro rfl k hk hb
    rw [hasB_and hk, hasB_neg hk] at hb
    exact hb.2 hb.1
theorem PP.ok_toBegin {N : Nat} (hN : 5000 < N) : Ok_toBegin N Rl := by
  rintro x σ τ ⟨a, hO, hC, hM⟩
  have hF := hO.1.1
  have hM0 := hM.code 0
  by_cases hx : 1 ≤ x ∧ x ≤ 60
  · obtain ⟨n, hn1, hn2, rfl⟩ := in_n (lo := 1) (hi := 60) (by omega) hx (by omega)
    obtain ⟨M, hM5, eM⟩ := sub_v (sub_mo (awk_sub (s := a.2.2.1.1) hF) hF)
    have sM : sub a.1 (nI M) := eM ▸ awk_sub hF
    refine okSP (a := a) (R := LstB (gdB a n) (M + 1)) (D := D2) hO (Or.inl ⟨rfl, rfl⟩) (fun x y => lst_u) ?_ ?_
    · unfold f_X11_toBegin_0 f_X9_all_12
      rw [c_within, Option.bind_some, if_pos hx]
      dsimp only
      rw [if_pos rfl, Option.bind_some]
      dsimp only
      have s1 : σ 22 1 = a.2.2.1.1 0 1 := hC.2.1.1.2.1
      have s0 : σ 12 0 = nI a.1 := hC.1.2.1
      rw [ev_bd, s1, s0]
      rw [show ((1 : Int32) <<< (nI a.1 &&& 31) - 1) &&& (a.2.2.1.1 0 1 ^^^ (-1)) = nI M from eM]
      refine Ev.bind (P := fun z => RlC a z.2.2.2 ∧ ((z.1 = 1 ∧ LstB (gdB a n) (M + 1) z.2.2.1) ∨ (z.1 ≠ 1 ∧ LstB (gdB a n) (M + 1) (-1)))) ?_ ?_
      · refine ev_lp (fun k q => q.1 = nI k ∧ RlC a q.2.2 ∧ ∀ w, w < M + 1 → gdB a n w → k ≤ cnt (nI w) 9) (a.1 + 1) N _ (by omega) ⟨rfl, hC, fun w _ _ => Nat.zero_le _⟩ ?_
        rintro k ⟨_, z, σ1⟩ hk ⟨e1, hR1, hg1⟩
        dsimp only at e1 hR1 hg1
        subst e1
        have l1 := hR1.1.2.1
        unfold s_X11_toBegin_0_h30
        dsimp only
        by_cases hkF : k = a.1 + 1
        · rw [if_pos (by rw [l1, hkF, nI_lt (by omega) (by omega)]; omega), ev_s]
          refine Or.inr ⟨by simp, hR1, Or.inr ⟨by simp, Or.inl ⟨rfl, fun w hw gw => ?_⟩⟩⟩
          have h1 := hg1 w hw gw
          have h2 := cnt_sub hF (inA_sub hF gw.1)
          omega
        · rw [if_neg (by rw [l1, nI_lt (by omega) (by omega)]; omega)]
          refine Ev.bind (P := fun r => RlC a r.2.2 ∧ ((r.1 = 1 ∧ ∃ b, b < M + 1 ∧ r.2.1 = nI b ∧ gdB a n b ∧ cnt (nI b) 9 = k ∧ ∀ w, w < b → gdB a n w → cnt (nI w) 9 ≠ k) ∨ (r.1 = 2 ∧ ∀ w, w < M + 1 → gdB a n w → cnt (nI w) 9 ≠ k))) ?_ ?_
          · refine ev_lp (fun j q => q.1 = nI j ∧ RlC a q.2 ∧ ∀ w, w < j → gdB a n w → cnt (nI w) 9 ≠ k) (M + 1) N _ (by omega) ⟨rfl, hR1, fun w hw => absurd hw (by omega)⟩ ?_
            rintro j ⟨_, σ2⟩ hj ⟨e2, hR2, hg2⟩
            dsimp only at e2 hR2 hg2
            subst e2
            unfold s_X11_toBegin_0_h44 f_X11_toBegin_0_b82
            dsimp only
            by_cases hjM : j = M + 1
            · rw [if_pos (by rw [hjM, nI_lt (by omega) (by omega)]; omega), ev_s]
              exact Or.inr ⟨by simp, hR2, Or.inr ⟨rfl, fun w hw => hg2 w (by omega)⟩⟩
            · rw [if_neg (by rw [nI_lt (by omega) (by omega)]; omega), nI_s]
              have skip : ∀ σ3 : Sg, RlC a σ3 → (gdB a n j → cnt (nI j) 9 ≠ k) → Ev (bd (nI (j + 1)) fun v1 => some (0, v1, σ3)) (fun r => (r.1 = 0 ∧ j < M + 1 ∧ r.2.1 = nI (j + 1) ∧ RlC a r.2.2 ∧ ∀ w, w < j + 1 → gdB a n w → cnt (nI w) 9 ≠ k) ∨ (r.1 ≠ 0 ∧ RlC a r.2.2 ∧ ((r.1 = 1 ∧ ∃ b, b < M + 1 ∧ r.2.1 = nI b ∧ gdB a n b ∧ cnt (nI b) 9 = k ∧ ∀ w, w < b → gdB a n w → cnt (nI w) 9 ≠ k) ∨ (r.1 = 2 ∧ ∀ w, w < M + 1 → gdB a n w → cnt (nI w) 9 ≠ k)))) := by
                intro σ3 hR3 hng
                rw [ev_bd, ev_s]
                refine Or.inl ⟨rfl, by omega, rfl, hR3, fun w hw gw => ?_⟩
                by_cases e : w = j
                · subst e; exact hng gw
                · exact hg2 w (by omega) gw
              rw [← eM]
              by_cases hin : inA a j
              · rw [if_pos (inA_c.mpr hin), c_bc N _ (sub_mo (inA_sub hF hin) hF), Option.bind_some]
                dsimp only
                by_cases hcn : cnt (nI j) 9 = k
                · rw [if_pos (by unfold pc; rw [hcn])]
                  refine (c_reachedBy hN hO hR2 hn2).bind ?_
                  rintro ⟨r, σ3⟩ ⟨e, hR3⟩
                  dsimp only at e hR3 ⊢
                  rw [ev_i]
                  refine ⟨fun h => ?_, fun h => ?_⟩
                  · rw [ev_s]
                    exact Or.inr ⟨by simp, hR3, Or.inl ⟨rfl, j, by omega, rfl, ⟨hin, e.symm.trans h⟩, hcn, hg2⟩⟩
                  · exact skip σ3 hR3 (fun g => absurd (e.trans g.2) h)
                · have h9 := cnt_le (nI j) 9
                  rw [if_neg (by unfold pc; rw [nI_eq (by omega) (by omega)]; exact hcn)]
                  exact skip σ2 hR2 (fun _ => hcn)
              · rw [if_neg (fun h => hin (inA_c.mp h))]
                exact skip σ2 hR2 (fun g => absurd g.1 hin)
          · rintro ⟨c, y, σ2⟩ ⟨hR2, h⟩
            dsimp only at hR2 h ⊢
            rcases h with ⟨rfl, b, hb, rfl, gb, hcb, hw⟩ | ⟨rfl, hw⟩
            · rw [if_pos rfl, ev_s]
              exact Or.inr ⟨by simp, hR2, Or.inl ⟨rfl, lst_first hb gb hcb hg1 hw⟩⟩
            · rw [if_neg (by decide), ev_bd, ev_s]
              refine Or.inl ⟨rfl, by omega, nI_s _, hR2, fun w hwM gw => ?_⟩
              have h1 := hg1 w hwM gw
              have h2 := hw w hwM gw
              omega
      · rintro ⟨c, y1, y2, σ2⟩ ⟨hR2, h⟩
        dsimp only at hR2 h ⊢
        rcases h with ⟨rfl, hl⟩ | ⟨hc, hl⟩
        · rw [if_pos rfl, ev_s]; exact ⟨rfl, hl, hR2⟩
        · rw [if_neg hc, ev_s]; exact ⟨rfl, hl, hR2⟩
    · unfold f_X12_toBegin f_X12_all
      rw [ev_bd, e1i, e60i, m_isIn, Option.bind_some, if_pos hx]
      dsimp only
      rw [if_neg (by decide), Option.bind_some]
      dsimp only
      have s1 : (wr τ 0 2 0) 0 29 = a.2.2.1.1 0 1 := hM0.2.1.1.2.1
      have s0 : (wr τ 0 2 0) 3 0 = nI a.1 := hM0.1.2.1
      rw [ev_bd, s1, s0]
      rw [show ((1 : Int32) <<< (nI a.1 &&& 31) - 1) &&& (a.2.2.1.1 0 1 ^^^ (-1)) = nI M from eM]
      rw [ev_b]
      refine ev_lp (fun k q => q.2.1 = nI k ∧ LstB (gdB a n) k q.1 ∧ RlM a q.2.2 ∧ q.2.2 0 2 = 0) (M + 1) N _ (by omega) ⟨rfl, lst_0, hM0, rfl⟩ ?_
      rintro k ⟨r, _, τ1⟩ hk ⟨e1, hl, hR, hc⟩
      dsimp only at e1 hl hR hc
      subst e1
      have a1 : τ1 0 29 = a.2.2.1.1 0 1 := hR.2.1.1.2.1
      unfold s_X12_toBegin_h40 f_X12_toBegin_b76 f_X12_toBegin_b93
      dsimp only
      by_cases hkM : k = M + 1
      · subst hkM
        rw [if_pos (by rw [nI_lt (by omega) (by omega)]; omega), ev_s]
        exact Or.inr ⟨Nat.one_ne_zero, ev_s.mpr ⟨hc, hl, hR⟩⟩
      · rw [if_neg (by rw [nI_lt (by omega) (by omega)]; omega), nI_s]
        have hkM' : k < M + 1 := by omega
        have sk : sub a.1 (nI k) := sub_le hF (by omega) sM (by omega)
        have skip : ∀ τ2 : Sg, RlM a τ2 → τ2 0 2 = 0 → LstB (gdB a n) (k + 1) r → Ev (bd (nI (k + 1)) fun v1 => some (0, r, v1, τ2)) (fun z => (z.1 = 0 ∧ k < M + 1 ∧ z.2.2.1 = nI (k + 1) ∧ LstB (gdB a n) (k + 1) z.2.1 ∧ RlM a z.2.2.2 ∧ z.2.2.2 0 2 = 0) ∨ (z.1 ≠ 0 ∧ Ev (some (z.2.1, z.2.2.2)) (fun q : Int32 × Sg => q.2 0 2 = 0 ∧ LstB (gdB a n) (M + 1) q.1 ∧ RlM a q.2))) := by
          intro τ2 hR2 hc2 hl2
          rw [ev_bd, ev_s]
          exact Or.inl ⟨rfl, hkM', rfl, hl2, hR2, hc2⟩
        have tryk : inA a k → (r = -1 ∨ ∃ b, b < 2147483648 ∧ r = nI b ∧ cnt (nI k) 9 < cnt (nI b) 9) → Ev ((f_X12_reachedBy N (nI k) (nI n) τ1).bind fun q2 => if (nI M &&& (q2.1 ^^^ (-1))) = 0 then bd (nI (k + 1)) fun v1 => some (0, nI k, v1, q2.2) else bd (nI (k + 1)) fun v1 => some (0, r, v1, q2.2)) (fun z => (z.1 = 0 ∧ k < M + 1 ∧ z.2.2.1 = nI (k + 1) ∧ LstB (gdB a n) (k + 1) z.2.1 ∧ RlM a z.2.2.2 ∧ z.2.2.2 0 2 = 0) ∨ (z.1 ≠ 0 ∧ Ev (some (z.2.1, z.2.2.2)) (fun q : Int32 × Sg => q.2 0 2 = 0 ∧ LstB (gdB a n) (M + 1) q.1 ∧ RlM a q.2))) := by
          intro hin hcmp
          refine (m_reacha hN hO hR hn2).bind ?_
          rintro ⟨y, τ2⟩ ⟨e, hR2, hc2⟩
          dsimp only at e hR2 hc2 ⊢
          rw [e, ← eM, ev_i, awk_eq hO hn2]
          refine ⟨fun h => ?_, fun h => ?_⟩
          · rw [ev_bd, ev_s]
            exact Or.inl ⟨rfl, hkM', rfl, lst_new (by omega) hl ⟨hin, h⟩ hcmp, hR2, hc2.trans hc⟩
          · exact skip τ2 hR2 (hc2.trans hc) (lst_no hl (fun g => h g.2))
        by_cases hin : inA a k
        · rw [if_pos (by rw [a1]; exact (inA_m hF sk).mpr hin)]
          by_cases hr1 : r = -1
          · rw [if_pos hr1]
            exact tryk hin (Or.inl hr1)
          · obtain ⟨b, hb, er, gb⟩ : ∃ b, b < k ∧ r = nI b ∧ gdB a n b := by
              rcases hl with ⟨h0, _⟩ | ⟨b, hb, er, gb, _⟩
              · exact absurd h0 hr1
              · exact ⟨b, hb, er, gb⟩
            have sb : sub 9 r := by rw [er]; exact sub_mo (inA_sub hF gb.1) hF
            rw [if_neg hr1, m_bc (by omega) _ (sub_mo sk hF), Option.bind_some]
            dsimp only
            rw [m_bc (by omega) _ sb, Option.bind_some]
            dsimp only
            have h9 := cnt_le (nI k) 9
            have h9' := cnt_le (nI b) 9
            by_cases hlt : cnt (nI k) 9 < cnt (nI b) 9
            · rw [if_pos (by rw [er]; unfold pc; rw [nI_lt (by omega) (by omega)]; exact hlt)]
              exact tryk hin (Or.inr ⟨b, by omega, er, hlt⟩)
            · rw [if_neg (by rw [er]; unfold pc; rw [nI_lt (by omega) (by omega)]; exact hlt)]
              exact skip τ1 hR hc (lst_more er (by omega) (by omega) hl (by omega))
        · rw [if_neg (by rw [a1]; exact fun h => hin ((inA_m hF sk).mp h))]
          exact skip τ1 hR hc (lst_no hl (fun g => hin g.1))
  · refine okF (a := a) (cC := 2) (cM := 1) (D := D2) hO (by decide) (Or.inr ⟨rfl, rfl⟩) ?_ ?_
    · unfold f_X11_toBegin_0
      rw [c_within, Option.bind_some, if_neg hx]
      dsimp only
      rw [if_neg (by decide), ev_s]
      exact ⟨rfl, hC⟩
    · unfold f_X12_toBegin f_X12_fail
      rw [ev_bd, e1i, e60i, m_isIn, Option.bind_some, if_neg hx]
      simp only [if_true, bd, Option.bind_some]
      rw [ev_s]
      exact ⟨rfl, hM0.code 1⟩
