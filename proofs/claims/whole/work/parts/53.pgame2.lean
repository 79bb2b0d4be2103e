/-! ===== a game of two ===== -/
def PP.sc (a : Ab) (p o c : Nat) : Sg := if c % 2 = 1 then sW (if c / 2 = 1 then sW a.2.2.1.1 p 1 else a.2.2.1.1) o 1 else (if c / 2 = 1 then sW a.2.2.1.1 p 1 else a.2.2.1.1)
def PP.G1 (a : Ab) (p o c : Nat) : Int32 := (pc (rch a.1 a.2.1 (sc a p o c) 9 &&& (bit p ^^^ (-1))) - 2 * nI (c / 2)) - tms a.1 a.2.1 (sc a p o c) p 9
def PP.G2 (a : Ab) (p o c : Nat) : Int32 := (pc (rch a.1 a.2.1 (sc a p o c) 9 &&& (bit o ^^^ (-1))) - 2 * nI (c % 2)) - tms a.1 a.2.1 (sc a p o c) o 9
theorem PP.sc_ok {a : Ab} {p o c : Nat} (hO : OKa a) (hp : ¬ hasB (a.2.2.1.1 0 1) p) (ho : ¬ hasB (a.2.2.1.1 0 1) o) : StOK a.1 (sc a p o c) ∧ sc a p o c 0 0 ≤ 999 := by
  have h0 := hO.2.1.1.1
  have ht := hO.2.1.1.2
  have h1 : StOK a.1 (sW a.2.2.1.1 p 1) := sW_ok h0 (by decide) (Or.inr hp)
  have h2 : StOK a.1 (sW a.2.2.1.1 o 1) := sW_ok h0 (by decide) (Or.inr ho)
  have h3 : StOK a.1 (sW (sW a.2.2.1.1 p 1) o 1) := sW_ok h1 (by decide) (Or.inr ho)
  unfold sc
  by_cases c1 : c / 2 = 1 <;> by_cases c2 : c % 2 = 1
  · rw [if_pos c1, if_pos c2]; exact ⟨h3, ht⟩
  · rw [if_pos c1, if_neg c2]; exact ⟨h1, ht⟩
  · rw [if_neg c1, if_pos c2]; exact ⟨h2, ht⟩
  · rw [if_neg c1, if_neg c2]; exact ⟨h0, ht⟩
theorem PP.CX.w {F f : Nat} {L s σ : Sg} (h : CX F L s 0 σ) (hf : f < F) : CX F L (sW s f 1) 0 (wr σ 57 f 1) := by
  have f3 : Fr [57] σ (wr σ 57 f 1) := (Fr.refl _ _).wr (by decide)
  refine ⟨h.1.fr f3 (by decide), ?_, SC.w (b := 56) h.2.2.1 hf, ?_⟩
  · rw [tp_w]; exact h.2.1.fr f3 (by decide)
  · intro i hi
    rw [f3 61 (by decide)]; exact h.2.2.2 i hi
theorem PP.MX.w {F f : Nat} {L s τ : Sg} (h : MX F L s 0 τ) (hf : f < F) : MX F L (sW s f 1) 0 (wr τ 13 f 1) := by
  have f4 : FM [13] [] τ (wr τ 13 f 1) := (FM.refl _ _ _).w (by decide) (by decide)
  exact ⟨h.1.fr f4 (by decide), h.2.1, h.2.2.w hf⟩
def PP.fl2 (c : Nat) : Nat := if c < 2 then c + 2 else c - 2
def PP.fl1 (c : Nat) : Nat := if c % 2 = 0 then c + 1 else c - 1
theorem PP.fl_d : ∀ c : Nat, c < 4 → (nI c ^^^ 2 = nI (fl2 c) ∧ nI c ^^^ 1 = nI (fl1 c) ∧ fl2 c < 4 ∧ fl1 c < 4) ∧ (nI c >>> ((1 : Int32) &&& 31) = nI (c / 2) ∧ nI c &&& 1 = nI (c % 2)) ∧ nI c / 2 = nI (c / 2) ∧ nI c - nI c / 2 * 2 = nI (c % 2) := by decide
theorem PP.nI_1 {k : Nat} (h : k < 2147483648) : nI k = 1 ↔ k = 1 := by rw [show (1 : Int32) = nI 1 from rfl, nI_eq h (by omega)]
theorem PP.c_gain {N f : Nat} {who x : Int32} {σ : Sg} (hf : f < 9) (hs : sub 9 who) : f_X11_gain_0 N (nI f) who x σ = some ((pc (who &&& (bit f ^^^ (-1))) - 2 * x) - σ 61 f, σ) := by
  unfold f_X11_gain_0
  rw [c_bc N _ (sub_and hs), Option.bind_some, if_neg (gdn (by omega) (by omega)), nI_cl (by omega)]
theorem PP.c_play {N p o : Nat} {a : Ab} {σ : Sg} (hN : 5000 < N) (hO : OKa a) (hC : RlC a σ) (hp : p < a.1) (ho : o < a.1) (hsp : ¬ hasB (a.2.2.1.1 0 1) p) (hso : ¬ hasB (a.2.2.1.1 0 1) o) : Ev (f_X11_playAll_0 N (nI p) (nI o) σ) (fun σ' => RlC a σ' ∧ ∀ c, c < 4 → σ' 64 c = G1 a p o c ∧ σ' 64 (4 + c) = G2 a p o c) := by
  have hF := hO.1.1
  unfold f_X11_playAll_0
  rw [ev_b]
  refine ev_lp (fun k q => q.1 = nI k ∧ RlC a q.2 ∧ ∀ c, c < k → q.2 64 c = G1 a p o c ∧ q.2 64 (4 + c) = G2 a p o c) 4 N _ (by omega) ⟨rfl, hC, fun c hc => absurd hc (by omega)⟩ ?_
  rintro k ⟨_, σ1⟩ hk ⟨e, hR, hi⟩
  dsimp only at e hR hi
  subst e
  unfold s_X11_playAll_0_h2
  dsimp only
  by_cases hk4 : k = 4
  · subst hk4
    rw [if_pos (by decide), ev_s]
    exact Or.inr ⟨Nat.one_ne_zero, ev_s.mpr ⟨hR, hi⟩⟩
  · obtain ⟨-, ⟨d1, d2⟩, -⟩ := fl_d k (by omega)
    rw [if_neg (by rw [show (4 : Int32) = nI 4 from rfl, nI_le (by omega) (by omega)]; omega)]
    refine (c_start (by omega) hF hR.1 hR.2.2.1 hR.2.1.1).bind ?_
    rintro σ2 ⟨hX2, hf2⟩
    have key : ∀ σ3 : Sg, CX a.1 a.2.1 (sc a p o k) 0 σ3 → Fr [56, 57, 58, 59, 60, 61] σ1 σ3 → Ev (f_X11_playAll_0_b57 N (nI p) (nI o) (nI k) σ3) (fun r => (r.1 = 0 ∧ k < 4 ∧ r.2.1 = nI (k + 1) ∧ RlC a r.2.2 ∧ ∀ c, c < k + 1 → r.2.2 64 c = G1 a p o c ∧ r.2.2 64 (4 + c) = G2 a p o c) ∨ (r.1 ≠ 0 ∧ Ev (some r.2.2) (fun σ' => RlC a σ' ∧ ∀ c, c < 4 → σ' 64 c = G1 a p o c ∧ σ' 64 (4 + c) = G2 a p o c))) := by
      intro σ3 hX3 hf3
      obtain ⟨hS, hT⟩ := sc_ok (c := k) hO hsp hso
      unfold f_X11_playAll_0_b57
      refine Ev.bind (P := fun z => z.2.1 = rch a.1 a.2.1 (sc a p o k) 9 ∧ (∀ i, i < a.1 → z.2.2.2 61 i = tms a.1 a.2.1 (sc a p o k) i 9) ∧ Fr [20, 56, 57, 58, 59, 60, 61, 62] σ1 z.2.2.2) ?_ ?_
      · refine ev_lp (fun (m : Nat) (q : Int32 × Int32 × Sg) => q.1 = rch a.1 a.2.1 (sc a p o k) m ∧ q.2.1 = nI m ∧ CX a.1 a.2.1 (sc a p o k) m q.2.2 ∧ Fr [20, 56, 57, 58, 59, 60, 61, 62] σ1 q.2.2) 9 N _ (by omega) ⟨rfl, rfl, hX3, hf3.mo (by decide)⟩ ?_
        rintro m ⟨_, _, σ4⟩ hm ⟨e1, e2, hX4, hf4⟩
        dsimp only at e1 e2 hX4 hf4
        subst e1 e2
        unfold s_X11_playAll_0_h63
        dsimp only
        by_cases hm9 : m = 9
        · subst hm9
          rw [if_pos (by decide), ev_s]
          exact Or.inr ⟨Nat.one_ne_zero, rfl, hX4.2.2.2, hf4⟩
        · rw [if_neg (by rw [show (9 : Int32) = nI 9 from rfl, nI_le (by omega) (by omega)]; omega)]
          refine (c_go (by omega) hO.1 hS hT (by omega) hX4).bind ?_
          rintro ⟨r, σ5⟩ ⟨e, hX5, hf5⟩
          dsimp only at e hX5 hf5 ⊢
          rw [ev_bd, ev_bd, ev_s]
          exact Or.inl ⟨rfl, by omega, by dsimp only; rw [rch_s, e], nI_s _, hX5, hf4.tr (hf5.mo (by decide))⟩
      · rintro ⟨_, w, _, σ4⟩ ⟨e, ht4, hf4⟩
        dsimp only at e ht4 hf4 ⊢
        have hsub : sub 9 w := by rw [e]; exact sub_mo (rch_sub hF 9) hF
        rw [c_gain (by omega) hsub, Option.bind_some, if_neg (gdn (by omega) (by omega)), nI_cl (show k < 2147483648 by omega), ev_bd]
        dsimp only
        rw [c_gain (by omega) hsub, Option.bind_some, show (4 : Int32) = nI 4 from rfl, nI_add, if_neg (gdn (by omega) (by omega)), nI_cl (show 4 + k < 2147483648 by omega), ev_bd, ev_bd, ev_s]
        dsimp only
        rw [d1, d2, wr_n (show (61 : Nat) ≠ 64 by decide), ht4 p hp, ht4 o ho, e]
        have hff : Fr qC σ1 (wr (wr σ4 64 k (G1 a p o k)) 64 (4 + k) (G2 a p o k)) := ((hf4.mo (by decide)).wr (by decide)).wr (by decide)
        refine Or.inl ⟨rfl, by omega, nI_s _, hR.q hff, ?_⟩
        intro c hc
        show wr (wr σ4 64 k (G1 a p o k)) 64 (4 + k) (G2 a p o k) 64 c = G1 a p o c ∧ wr (wr σ4 64 k (G1 a p o k)) 64 (4 + k) (G2 a p o k) 64 (4 + c) = G2 a p o c
        rw [wr_e, wr_e]
        by_cases ec : c = k
        · subst ec
          rw [upd_n (by omega), upd_e, upd_e]; exact ⟨rfl, rfl⟩
        · have h := hi c (by omega)
          rw [upd_n (by omega), upd_n ec, upd_n (by omega), upd_n (by omega), hf4 64 (by decide)]; exact h
    have a2 : ∀ σ3 : Sg, σ3 56 = σ2 56 → σ3 56 1 = a.2.2.1.1 0 1 := by
      intro σ3 h
      rw [h]; exact hX2.2.2.1.2.1
    have kb : ∀ σ3 : Sg, CX a.1 a.2.1 (if k / 2 = 1 then sW a.2.2.1.1 p 1 else a.2.2.1.1) 0 σ3 → σ3 56 = σ2 56 → Fr [56, 57, 58, 59, 60, 61] σ1 σ3 → Ev (f_X11_playAll_0_b39 N (nI p) (nI o) (nI k) σ3) (fun r => (r.1 = 0 ∧ k < 4 ∧ r.2.1 = nI (k + 1) ∧ RlC a r.2.2 ∧ ∀ c, c < k + 1 → r.2.2 64 c = G1 a p o c ∧ r.2.2 64 (4 + c) = G2 a p o c) ∨ (r.1 ≠ 0 ∧ Ev (some r.2.2) (fun σ' => RlC a σ' ∧ ∀ c, c < 4 → σ' 64 c = G1 a p o c ∧ σ' 64 (4 + c) = G2 a p o c))) := by
      intro σ3 hX3 h56 hf3
      unfold f_X11_playAll_0_b39
      rw [d2, ev_i, nI_1 (by omega)]
      refine ⟨fun h => ?_, fun h => ?_⟩
      · rw [c_nod_56 (by omega), Option.bind_some, if_neg (by rw [a2 σ3 h56]; exact hso)]
        refine key _ ?_ (hf3.wr (by decide))
        unfold sc
        rw [if_pos h]
        exact hX3.w ho
      · refine key _ ?_ hf3
        unfold sc
        rw [if_neg h]
        exact hX3
    rw [d1, ev_i, nI_1 (by omega)]
    refine ⟨fun h => ?_, fun h => ?_⟩
    · rw [c_nod_56 (by omega), Option.bind_some, if_neg (by rw [a2 σ2 rfl]; exact hsp)]
      refine kb _ ?_ ?_ (hf2.wr (by decide))
      · rw [if_pos h]; exact hX2.w hp
      · exact wr_n (by decide)
    · refine kb _ ?_ rfl hf2
      rw [if_neg h]; exact hX2
theorem PP.m_gains {N p o : Nat} {a : Ab} {τ : Sg} (hN : 5000 < N) (hO : OKa a) (hM : RlM a τ) (hp : p < a.1) (ho : o < a.1) (hsp : ¬ hasB (a.2.2.1.1 0 1) p) (hso : ¬ hasB (a.2.2.1.1 0 1) o) : Ev (f_X12_tellGains N (nI p) (nI o) τ) (fun τ' => RlM a τ' ∧ τ' 0 2 = τ 0 2 ∧ ∀ c, c < 4 → τ' 29 (2 * c) = G1 a p o c ∧ τ' 29 (2 * c + 1) = G2 a p o c) := by
  have hF := hO.1.1
  unfold f_X12_tellGains
  refine (m_openf (by omega) hO hM).bind ?_
  rintro τ1 ⟨hX1, hp1, hf1⟩
  rw [ev_b]
  refine ev_lp (fun (k : Nat) (q : Int32 × Sg) => q.1 = nI k ∧ MX a.1 a.2.1 a.2.2.1.1 0 q.2 ∧ PkM a τ q.2 ∧ q.2 0 2 = τ 0 2 ∧ ∀ c, c < k → q.2 29 (2 * c) = G1 a p o c ∧ q.2 29 (2 * c + 1) = G2 a p o c) 4 N _ (by omega) ⟨rfl, hX1, hp1, hf1.2 2 (by decide), fun c hc => absurd hc (by omega)⟩ ?_
  rintro k ⟨_, τ2⟩ hk ⟨e, hX2, hp2, hc2, hi⟩
  dsimp only at e hX2 hp2 hc2 hi
  subst e
  unfold s_X12_tellGains_h11
  dsimp only
  by_cases hk4 : k = 4
  · subst hk4
    rw [if_pos (by decide), ev_s]
    exact Or.inr ⟨Nat.one_ne_zero, ev_s.mpr ⟨hM.q hp2.2 hX2.2.2 hX2.2.1, hc2, hi⟩⟩
  · obtain ⟨-, -, d1, d2⟩ := fl_d k (by omega)
    rw [if_neg (by rw [show (4 : Int32) = nI 4 from rfl, nI_le (by omega) (by omega)]; omega)]
    have key : ∀ τ3 : Sg, MX a.1 a.2.1 (sc a p o k) 0 τ3 → FM [13] [] τ2 τ3 → Ev (f_X12_tellGains_b44 N (nI p) (nI o) (nI k) τ3) (fun r => (r.1 = 0 ∧ k < 4 ∧ r.2.1 = nI (k + 1) ∧ MX a.1 a.2.1 a.2.2.1.1 0 r.2.2 ∧ PkM a τ r.2.2 ∧ r.2.2 0 2 = τ 0 2 ∧ ∀ c, c < k + 1 → r.2.2 29 (2 * c) = G1 a p o c ∧ r.2.2 29 (2 * c + 1) = G2 a p o c) ∨ (r.1 ≠ 0 ∧ Ev (some r.2.2) (fun τ' => RlM a τ' ∧ τ' 0 2 = τ 0 2 ∧ ∀ c, c < 4 → τ' 29 (2 * c) = G1 a p o c ∧ τ' 29 (2 * c + 1) = G2 a p o c))) := by
      intro τ3 hX3 hf3
      obtain ⟨hS, hT⟩ := sc_ok (c := k) hO hsp hso
      unfold f_X12_tellGains_b44
      refine Ev.bind (P := fun z => z.2.1 = rch a.1 a.2.1 (sc a p o k) 9 ∧ z.2.2.1 = tms a.1 a.2.1 (sc a p o k) p 9 ∧ z.2.2.2.1 = tms a.1 a.2.1 (sc a p o k) o 9 ∧ LM a.1 a.2.1 z.2.2.2.2.2 ∧ z.2.2.2.2.2 0 32 = -1 ∧ FM [13, 14, 15, 18, 19] [28, 35] τ2 z.2.2.2.2.2) ?_ ?_
      · refine ev_lp (fun (m : Nat) (q : Int32 × Int32 × Int32 × Int32 × Sg) => q.1 = rch a.1 a.2.1 (sc a p o k) m ∧ q.2.1 = tms a.1 a.2.1 (sc a p o k) p m ∧ q.2.2.1 = tms a.1 a.2.1 (sc a p o k) o m ∧ q.2.2.2.1 = nI m ∧ MX a.1 a.2.1 (sc a p o k) m q.2.2.2.2 ∧ FM [13, 14, 15, 18, 19] [28, 35] τ2 q.2.2.2.2) 9 N _ (by omega) ⟨rfl, rfl, rfl, rfl, hX3, hf3.mo (by decide) (by decide)⟩ ?_
        rintro m ⟨_, _, _, _, τ4⟩ hm ⟨e1, e2, e3, e4, hX4, hf4⟩
        dsimp only at e1 e2 e3 e4 hX4 hf4
        subst e1 e2 e3 e4
        unfold s_X12_tellGains_h56
        dsimp only
        by_cases hm9 : m = 9
        · subst hm9
          rw [if_pos (by decide), ev_s]
          exact Or.inr ⟨Nat.one_ne_zero, rfl, rfl, rfl, hX4.1, hX4.2.1, hf4⟩
        · rw [if_neg (by rw [show (9 : Int32) = nI 9 from rfl, nI_le (by omega) (by omega)]; omega)]
          refine (m_go (by omega) hO.1 hS hT (by omega) hX4).bind ?_
          rintro τ5 ⟨e, hX5, hf5⟩
          rw [ev_bd, ev_bd, ev_bd, ev_bd, ev_s, e]
          have tm : ∀ i, i < a.1 → tms a.1 a.2.1 (sc a p o k) i m + ((nds a.1 (run a.1 a.2.1 (sc a p o k) m) >>> (nI i &&& 31)) &&& 1) = tms a.1 a.2.1 (sc a p o k) i (m + 1) := by
            intro i hi
            have eb := bit1 (s := nds a.1 (run a.1 a.2.1 (sc a p o k) m)) (k := i)
            have eh := has_nds (F := a.1) (i := i) (s := run a.1 a.2.1 (sc a p o k) m) hF (by omega)
            rw [tms_s]
            by_cases hr : run a.1 a.2.1 (sc a p o k) m 1 i = 1
            · rw [if_pos hr, show (nds a.1 (run a.1 a.2.1 (sc a p o k) m) >>> (nI i &&& 31)) &&& 1 = 1 from eh.mpr ⟨hi, hr⟩]
            · rw [if_neg hr, show (nds a.1 (run a.1 a.2.1 (sc a p o k) m) >>> (nI i &&& 31)) &&& 1 = 0 from nhasB.mpr (fun hb => hr (eh.mp hb).2)]
          exact Or.inl ⟨rfl, by omega, by dsimp only; rw [rch_s], tm p hp, tm o ho, nI_s _, hX5, hf4.tr (hf5.mo (by decide) (by decide))⟩
      · rintro ⟨_, w, t1, t2, _, τ4⟩ ⟨e, e1, e2, hL4, h324, hf4⟩
        dsimp only at e e1 e2 hL4 h324 hf4 ⊢
        have hsub : sub 9 w := by rw [e]; exact sub_mo (rch_sub hF 9) hF
        rw [m_bc (by omega) _ (sub_and hsub), Option.bind_some, show (2 : Int32) * nI k = nI (2 * k) from by rw [show (2 : Int32) = nI 2 from rfl, nI_mul], if_neg (gdn (by omega) (by omega)), nI_cl (show 2 * k < 2147483648 by omega), ev_bd, m_bc (by omega) _ (sub_and hsub), Option.bind_some, nI_s, if_neg (gdn (by omega) (by omega)), nI_cl (show 2 * k + 1 < 2147483648 by omega), ev_bd]
        dsimp only
        rw [d2, d1, e, e1, e2]
        generalize hτ5 : wr (wr τ4 29 (2 * k) (pc (rch a.1 a.2.1 (sc a p o k) 9 &&& (1 <<< (nI p &&& 31) ^^^ -1)) - 2 * nI (k / 2) - tms a.1 a.2.1 (sc a p o k) p 9)) 29 (2 * k + 1) (pc (rch a.1 a.2.1 (sc a p o k) 9 &&& (1 <<< (nI o &&& 31) ^^^ -1)) - 2 * nI (k % 2) - tms a.1 a.2.1 (sc a p o k) o 9) = τ5
        have hf5 : FM [29] [] τ4 τ5 := by rw [← hτ5]; exact ((FM.refl _ _ _).w (by decide) (by decide)).w (by decide) (by decide)
        have v5 : ∀ c, c < k + 1 → τ5 29 (2 * c) = G1 a p o c ∧ τ5 29 (2 * c + 1) = G2 a p o c := by
          intro c hc
          rw [← hτ5, wr_e, wr_e]
          by_cases ec : c = k
          · subst ec
            rw [upd_n (by omega), upd_e, upd_e]; exact ⟨rfl, rfl⟩
          · have h := hi c (by omega)
            rw [upd_n (by omega), upd_n (by omega), upd_n (by omega), upd_n (by omega), hf4.1 29 (by decide) (by decide)]; exact h
        clear hτ5
        refine Ev.bind (m_unpack_21 (b := 0) (by omega) (by omega)) ?_
        rintro τ6 ⟨hu, hf6⟩
        have hr5 : rowM a.1 a.2.2.1.1 (τ5 21) 0 := by rw [hf5.1 21 (by decide) (by decide), hf4.1 21 (by decide) (by decide)]; exact hp2.1
        rw [ev_bd, ev_s]
        refine Or.inl ⟨rfl, by omega, nI_s _, ⟨(hL4.fr hf5 (by decide)).fr hf6 (by decide), ?_, hu _ _ hF hr5⟩, ⟨?_, ((hp2.2.tr (hf4.mo (by decide) (by decide))).tr (hf5.mo (by decide) (by decide))).tr (hf6.mo (by decide) (by decide))⟩, ?_, ?_⟩
        · dsimp only; rw [hf6.2 32 (by decide), hf5.2 32 (by decide)]; exact h324
        · dsimp only; rw [hf6.1 21 (by decide) (by decide)]; exact hr5
        · dsimp only; rw [hf6.2 2 (by decide), hf5.2 2 (by decide), hf4.2 2 (by decide)]; exact hc2
        · intro c hc
          dsimp only
          rw [hf6.1 29 (by decide) (by decide)]; exact v5 c hc
    have kb : ∀ τ3 : Sg, MX a.1 a.2.1 (if k / 2 = 1 then sW a.2.2.1.1 p 1 else a.2.2.1.1) 0 τ3 → FM [13] [] τ2 τ3 → Ev (f_X12_tellGains_b30 N (nI p) (nI o) (nI k) τ3) (fun r => (r.1 = 0 ∧ k < 4 ∧ r.2.1 = nI (k + 1) ∧ MX a.1 a.2.1 a.2.2.1.1 0 r.2.2 ∧ PkM a τ r.2.2 ∧ r.2.2 0 2 = τ 0 2 ∧ ∀ c, c < k + 1 → r.2.2 29 (2 * c) = G1 a p o c ∧ r.2.2 29 (2 * c + 1) = G2 a p o c) ∨ (r.1 ≠ 0 ∧ Ev (some r.2.2) (fun τ' => RlM a τ' ∧ τ' 0 2 = τ 0 2 ∧ ∀ c, c < 4 → τ' 29 (2 * c) = G1 a p o c ∧ τ' 29 (2 * c + 1) = G2 a p o c))) := by
      intro τ3 hX3 hf3
      unfold f_X12_tellGains_b30
      rw [d2, ev_i, nI_1 (by omega)]
      refine ⟨fun h => ?_, fun h => ?_⟩
      · rw [if_neg (gdn (by omega) (by omega)), nI_cl (show o < 2147483648 by omega), ev_bd]
        refine key _ ?_ (hf3.w (by decide) (by decide))
        unfold sc
        rw [if_pos h]
        exact hX3.w ho
      · refine key _ ?_ hf3
        unfold sc
        rw [if_neg h]
        exact hX3
    rw [d1, ev_i, nI_1 (by omega)]
    refine ⟨fun h => ?_, fun h => ?_⟩
    · rw [if_neg (gdn (by omega) (by omega)), nI_cl (show p < 2147483648 by omega), ev_bd]
      refine kb _ ?_ ((FM.refl _ _ _).w (by decide) (by decide))
      rw [if_pos h]; exact hX2.w hp
    · refine kb _ ?_ (FM.refl _ _ _)
      rw [if_neg h]; exact hX2
def PP.eqb (a : Ab) (p o c : Nat) : Bool := decide (¬ G1 a p o c < G1 a p o (fl2 c) ∧ ¬ G2 a p o c < G2 a p o (fl1 c))
def PP.gcl (e : Nat → Bool) : Nat → Int32 × Int32
  | 0 => (0, -1)
  | k + 1 => if e (3 - k) = true then ((gcl e k).1 + 1, 10 * nI ((3 - k) / 2) + nI ((3 - k) % 2)) else gcl e k
theorem PP.gcl_s (e : Nat → Bool) (k : Nat) : gcl e (k + 1) = if e (3 - k) = true then ((gcl e k).1 + 1, 10 * nI ((3 - k) / 2) + nI ((3 - k) % 2)) else gcl e k := rfl
def PP.gml (e : Nat → Bool) : Nat → Int32 × Int32
  | 0 => (0, -1)
  | k + 1 => if e k = true then ((gml e k).1 + 1, if (gml e k).2 = -1 then 10 * nI (k / 2) + nI (k % 2) else (gml e k).2) else gml e k
theorem PP.gml_s (e : Nat → Bool) (k : Nat) : gml e (k + 1) = if e k = true then ((gml e k).1 + 1, if (gml e k).2 = -1 then 10 * nI (k / 2) + nI (k % 2) else (gml e k).2) else gml e k := rfl
theorem PP.gcm (e : Nat → Bool) : gcl e 4 = gml e 4 := by
  unfold gcl gcl gcl gcl gcl gml gml gml gml gml
  simp only [Nat.reduceSub]
  cases e 0 <;> cases e 1 <;> cases e 2 <;> cases e 3 <;> decide
theorem PP.ok_game {N : Nat} (hN : 5000 < N) : Ok_game N Rl := by
  rintro x y w σ τ ⟨a, hO, hC, hM⟩
  have hF := hO.1.1
  have lC := hC.1.2.1
  have hM0 := hM.code 0
  have lM : (wr τ 0 2 0) 3 0 = nI a.1 := hM.1.2.1
  have sa : σ 22 1 = a.2.2.1.1 0 1 := hC.2.1.1.2.1
  have ma : (wr τ 0 2 0) 0 29 = a.2.2.1.1 0 1 := hM0.2.1.1.2.1
  by_cases h : ((0 ≤ x ∧ x < nI a.1) ∧ 0 ≤ y ∧ y < nI a.1) ∧ 0 ≤ w ∧ w ≤ 1
  · have hw1 : ¬ w < 0 := by have := h.2.1; grind
    obtain ⟨p, hp, rfl⟩ := farm_n hF h.1.1
    obtain ⟨o, ho, rfl⟩ := farm_n hF h.1.2
    by_cases hpo : p = o
    · refine okF (a := a) (cC := 2) (cM := 2) (D := D3) hO (by decide) (Or.inr (Or.inr ⟨rfl, rfl⟩)) ?_ ?_
      · unfold f_X11_game_0
        rw [c_farms hF lC, Option.bind_some, if_pos h.1]
        dsimp only
        rw [if_pos rfl, c_what, Option.bind_some, if_pos h.2]
        dsimp only
        rw [if_pos rfl, if_pos (by rw [hpo]), ev_s]
        exact ⟨rfl, hC⟩
      · unfold f_X12_game f_X12_fail
        rw [ev_bd, m_isFarm hF lM, Option.bind_some, if_pos h.1.1]
        dsimp only
        rw [if_neg (by decide), m_isFarm hF lM, Option.bind_some, if_pos h.1.2]
        dsimp only
        rw [if_neg (by decide), if_neg hw1, if_pos h.2.2, if_pos (by rw [hpo])]
        simp only [bd, Option.bind_some]
        rw [ev_s]
        exact ⟨rfl, hM0.code 2⟩
    · have hne : ¬ nI p = nI o := by rw [nI_eq (by omega) (by omega)]; exact hpo
      by_cases hsp : hasB (a.2.2.1.1 0 1) p ∨ hasB (a.2.2.1.1 0 1) o
      · refine okS (a := a) (r := -1) (D := D3) hO (Or.inl ⟨rfl, rfl⟩) ?_ ?_
        · unfold f_X11_game_0 f_X11_game_0_b55
          rw [c_farms hF lC, Option.bind_some, if_pos h.1]
          dsimp only
          rw [if_pos rfl, c_what, Option.bind_some, if_pos h.2]
          dsimp only
          rw [if_pos rfl, if_neg hne, c_sleeps_22, Option.bind_some, sa]
          dsimp only
          by_cases h1 : hasB (a.2.2.1.1 0 1) p
          · rw [if_pos h1, if_neg (by decide), ev_s]; exact ⟨rfl, rfl, hC⟩
          · rw [if_neg h1, if_pos rfl, c_sleeps_22, Option.bind_some, sa, if_pos (hsp.resolve_left h1)]
            dsimp only
            rw [if_neg (by decide), ev_s]; exact ⟨rfl, rfl, hC⟩
        · unfold f_X12_game f_X12_game_b63
          rw [ev_bd, m_isFarm hF lM, Option.bind_some, if_pos h.1.1]
          dsimp only
          rw [if_neg (by decide), m_isFarm hF lM, Option.bind_some, if_pos h.1.2]
          dsimp only
          rw [if_neg (by decide), if_neg hw1, if_pos h.2.2, if_neg hne, m_asleep, Option.bind_some, ma]
          dsimp only
          by_cases h1 : hasB (a.2.2.1.1 0 1) p
          · rw [if_pos h1, if_neg (by decide), ev_s]; exact ⟨rfl, rfl, hM0⟩
          · rw [if_neg h1, if_pos rfl, m_asleep, Option.bind_some, ma, if_pos (hsp.resolve_left h1)]
            dsimp only
            rw [if_neg (by decide), ev_s]; exact ⟨rfl, rfl, hM0⟩
      · have h1 : ¬ hasB (a.2.2.1.1 0 1) p := fun x => hsp (Or.inl x)
        have h2 : ¬ hasB (a.2.2.1.1 0 1) o := fun x => hsp (Or.inr x)
        obtain ⟨z, hz⟩ : ∃ z, gml (eqb a p o) 4 = z := ⟨_, rfl⟩
        refine okS (a := a) (r := if w = 0 then z.1 else z.2) (D := D3) hO (Or.inl ⟨rfl, rfl⟩) ?_ ?_
        · unfold f_X11_game_0
          rw [c_farms hF lC, Option.bind_some, if_pos h.1]
          dsimp only
          rw [if_pos rfl, c_what, Option.bind_some, if_pos h.2]
          dsimp only
          rw [if_pos rfl, if_neg hne, c_sleeps_22, Option.bind_some, sa, if_neg h1]
          dsimp only
          rw [if_pos rfl, c_sleeps_22, Option.bind_some, sa, if_neg h2]
          dsimp only
          rw [if_pos rfl]
          refine (c_play hN hO hC hp ho h1 h2).bind ?_
          rintro σ1 ⟨hR, hv⟩
          rw [ev_b]
          refine ev_lp (fun (k : Nat) (q : Int32 × Int32 × Int32 × Sg) => q.1 = (gcl (eqb a p o) k).1 ∧ q.2.1 = (gcl (eqb a p o) k).2 ∧ (k ≤ 3 → q.2.2.1 = nI (3 - k)) ∧ (k = 4 → q.2.2.1 = -1) ∧ q.2.2.2 = σ1) 4 N _ (by omega) ⟨rfl, rfl, fun _ => rfl, fun h => absurd h (by omega), rfl⟩ ?_
          rintro k ⟨_, _, x6, σ2⟩ hk ⟨e1, e2, e3, e4, e5⟩
          dsimp only at e1 e2 e3 e4 e5
          subst e1 e2 e5
          unfold s_X11_game_0_h72 f_X11_game_0_b136
          dsimp only
          by_cases hk4 : k = 4
          · subst hk4
            rw [e4 rfl, if_pos (by decide), ev_s]
            refine Or.inr ⟨Nat.one_ne_zero, ?_⟩
            dsimp only
            rw [gcm, hz]
            by_cases h0 : w = 0
            · rw [if_pos h0, ev_s, if_pos h0]; exact ⟨rfl, rfl, hR⟩
            · rw [if_neg h0, ev_s, if_neg h0]; exact ⟨rfl, rfl, hR⟩
          · obtain ⟨⟨x2, x1, b2, b1⟩, ⟨d1, d2⟩, -⟩ := fl_d (3 - k) (by omega)
            have nxt : (k + 1 ≤ 3 → nI (3 - k) + (-1) = nI (3 - (k + 1))) ∧ (k + 1 = 4 → nI (3 - k) + (-1) = -1) := by
              constructor
              · intro hh; rw [nI_p' (by omega), show 3 - k - 1 = 3 - (k + 1) by omega]
              · intro hh; rw [show 3 - k = 0 by omega]; rfl
            rw [e3 (by omega), if_neg (nI_nn (by omega)), x2, x1, show (4 : Int32) = nI 4 from rfl, nI_add, nI_add]
            rw [if_neg (gdn (by omega) (by omega)), if_neg (gdn (by omega) (by omega)), if_neg (gdn (by omega) (by omega)), if_neg (gdn (by omega) (by omega)), nI_cl (show 3 - k < 2147483648 by omega), nI_cl (show fl2 (3 - k) < 2147483648 by omega), nI_cl (show 4 + (3 - k) < 2147483648 by omega), nI_cl (show 4 + fl1 (3 - k) < 2147483648 by omega), d1, d2]
            simp only [(hv (3 - k) (by omega)).1, (hv (fl2 (3 - k)) b2).1, (hv (3 - k) (by omega)).2, (hv (fl1 (3 - k)) b1).2]
            have skip : ¬ eqb a p o (3 - k) = true → Ev (bd (nI (3 - k) + (-1)) fun v1 => some (0, (gcl (eqb a p o) k).1, (gcl (eqb a p o) k).2, v1, σ2)) (fun r => (r.1 = 0 ∧ k < 4 ∧ r.2.1 = (gcl (eqb a p o) (k + 1)).1 ∧ r.2.2.1 = (gcl (eqb a p o) (k + 1)).2 ∧ (k + 1 ≤ 3 → r.2.2.2.1 = nI (3 - (k + 1))) ∧ (k + 1 = 4 → r.2.2.2.1 = -1) ∧ r.2.2.2.2 = σ2) ∨ (r.1 ≠ 0 ∧ Ev (if w = 0 then some (0, r.2.1, r.2.2.2.2) else some (0, r.2.2.1, r.2.2.2.2)) (fun z' : Zt => z'.1 = 0 ∧ z'.2.1 = (if w = 0 then z.1 else z.2) ∧ RlC a z'.2.2))) := by
              intro hn
              rw [ev_bd, ev_s]
              exact Or.inl ⟨rfl, by omega, by dsimp only; rw [gcl_s, if_neg hn], by dsimp only; rw [gcl_s, if_neg hn], nxt.1, nxt.2, rfl⟩
            have he : eqb a p o (3 - k) = true ↔ ¬ G1 a p o (3 - k) < G1 a p o (fl2 (3 - k)) ∧ ¬ G2 a p o (3 - k) < G2 a p o (fl1 (3 - k)) := by unfold eqb; rw [decide_eq_true_eq]
            by_cases c1 : G1 a p o (3 - k) < G1 a p o (fl2 (3 - k))
            · rw [if_pos c1]
              exact skip (fun hh => (he.mp hh).1 c1)
            · rw [if_neg c1]
              by_cases c2 : G2 a p o (3 - k) < G2 a p o (fl1 (3 - k))
              · rw [if_pos c2]
                exact skip (fun hh => (he.mp hh).2 c2)
              · rw [if_neg c2, ev_bd, ev_bd, ev_bd, ev_s]
                have hh := he.mpr ⟨c1, c2⟩
                exact Or.inl ⟨rfl, by omega, by dsimp only; rw [gcl_s, if_pos hh], by dsimp only; rw [gcl_s, if_pos hh], nxt.1, nxt.2, rfl⟩
        · unfold f_X12_game
          rw [ev_bd, m_isFarm hF lM, Option.bind_some, if_pos h.1.1]
          dsimp only
          rw [if_neg (by decide), m_isFarm hF lM, Option.bind_some, if_pos h.1.2]
          dsimp only
          rw [if_neg (by decide), if_neg hw1, if_pos h.2.2, if_neg hne, m_asleep, Option.bind_some, ma, if_neg h1]
          dsimp only
          rw [if_pos rfl, m_asleep, Option.bind_some, ma, if_neg h2]
          dsimp only
          rw [if_pos rfl]
          refine (m_gains hN hO hM0 hp ho h1 h2).bind ?_
          rintro τ1 ⟨hR, hc, hv⟩
          have hc1 : τ1 0 2 = 0 := hc.trans rfl
          rw [ev_b]
          refine ev_lp (fun (k : Nat) (q : Int32 × Int32 × Int32 × Sg) => q = ((gml (eqb a p o) k).1, (gml (eqb a p o) k).2, nI k, τ1)) 4 N _ (by omega) rfl ?_
          rintro k _ hk rfl
          unfold s_X12_game_h80 f_X12_game_b165 f_X12_game_b167
          dsimp only
          by_cases hk4 : k = 4
          · subst hk4
            rw [if_pos (by decide), ev_s]
            refine Or.inr ⟨Nat.one_ne_zero, ?_⟩
            dsimp only
            rw [hz]
            by_cases h0 : w = 0
            · rw [if_pos h0, ev_s, if_pos h0]; exact ⟨hc1, rfl, hR⟩
            · rw [if_neg h0, ev_s, if_neg h0]; exact ⟨hc1, rfl, hR⟩
          · obtain ⟨⟨x2, x1, b2, b1⟩, -, d1, d2⟩ := fl_d k (by omega)
            have m2 : ∀ j : Nat, (2 : Int32) * nI j = nI (2 * j) := fun j => by rw [show (2 : Int32) = nI 2 from rfl, nI_mul]
            rw [if_neg (by rw [show (4 : Int32) = nI 4 from rfl, nI_le (by omega) (by omega)]; omega), x2, x1, d2, d1, m2, m2, m2, nI_s, nI_s, nI_s]
            rw [if_neg (gdn (by omega) (by omega)), if_neg (gdn (by omega) (by omega)), if_neg (gdn (by omega) (by omega)), if_neg (gdn (by omega) (by omega)), nI_cl (show 2 * k < 2147483648 by omega), nI_cl (show 2 * fl2 k < 2147483648 by omega), nI_cl (show 2 * k + 1 < 2147483648 by omega), nI_cl (show 2 * fl1 k + 1 < 2147483648 by omega)]
            simp only [(hv k (by omega)).1, (hv (fl2 k) b2).1, (hv k (by omega)).2, (hv (fl1 k) b1).2]
            have he : eqb a p o k = true ↔ ¬ G1 a p o k < G1 a p o (fl2 k) ∧ ¬ G2 a p o k < G2 a p o (fl1 k) := by unfold eqb; rw [decide_eq_true_eq]
            have skip : ¬ eqb a p o k = true → Ev (bd (nI (k + 1)) fun v1 => some (0, (gml (eqb a p o) k).1, (gml (eqb a p o) k).2, v1, τ1)) (fun r => (r.1 = 0 ∧ k < 4 ∧ r.2 = ((gml (eqb a p o) (k + 1)).1, (gml (eqb a p o) (k + 1)).2, nI (k + 1), τ1)) ∨ (r.1 ≠ 0 ∧ Ev (if w = 0 then some (r.2.1, r.2.2.2.2) else some (r.2.2.1, r.2.2.2.2)) (fun q : Int32 × Sg => q.2 0 2 = 0 ∧ q.1 = (if w = 0 then z.1 else z.2) ∧ RlM a q.2))) := by
              intro hn
              rw [ev_bd, ev_s]
              exact Or.inl ⟨rfl, by omega, by rw [gml_s, if_neg hn]⟩
            by_cases c1 : G1 a p o k < G1 a p o (fl2 k)
            · rw [if_pos c1]
              exact skip (fun hh => (he.mp hh).1 c1)
            · rw [if_neg c1]
              by_cases c2 : G2 a p o k < G2 a p o (fl1 k)
              · rw [if_neg (show ¬ G2 a p o (fl1 k) ≤ G2 a p o k by grind)]
                exact skip (fun hh => (he.mp hh).2 c2)
              · rw [if_pos (show G2 a p o (fl1 k) ≤ G2 a p o k by grind), ev_bd]
                have hh := he.mpr ⟨c1, c2⟩
                rw [ev_i]
                refine ⟨fun hf1 => ?_, fun hf1 => ?_⟩
                · rw [ev_bd, ev_s]
                  exact Or.inl ⟨rfl, by omega, by rw [gml_s, if_pos hh, if_pos hf1]⟩
                · rw [ev_bd, ev_s]
                  exact Or.inl ⟨rfl, by omega, by rw [gml_s, if_pos hh, if_neg hf1]⟩
  · refine okF (a := a) (cC := 1) (cM := 1) (D := D3) hO (by decide) (Or.inr (Or.inl ⟨rfl, rfl⟩)) ?_ ?_
    · unfold f_X11_game_0
      rw [c_farms hF lC, Option.bind_some]
      by_cases hx : (0 ≤ x ∧ x < nI a.1) ∧ 0 ≤ y ∧ y < nI a.1
      · rw [if_pos hx]
        dsimp only
        rw [if_pos rfl, c_what, Option.bind_some, if_neg (fun hh => h ⟨hx, hh⟩)]
        dsimp only
        rw [if_neg (by decide), ev_s]
        exact ⟨rfl, hC⟩
      · rw [if_neg hx]
        dsimp only
        rw [if_neg (by decide), ev_s]
        exact ⟨rfl, hC⟩
    · unfold f_X12_game f_X12_game_b30 f_X12_fail
      rw [ev_bd]
      simp only [bd, Option.bind_some]
      have fin : Ev (some ((0 : Int32), wr (wr τ 0 2 0) 0 2 1)) (fun q => q.2 0 2 = 1 ∧ RlM a q.2) := ev_s.mpr ⟨rfl, hM0.code 1⟩
      rw [m_isFarm hF lM, Option.bind_some]
      dsimp only
      by_cases hx : 0 ≤ x ∧ x < nI a.1
      · rw [if_pos hx, if_neg (by decide), m_isFarm hF lM, Option.bind_some]
        dsimp only
        by_cases hy : 0 ≤ y ∧ y < nI a.1
        · rw [if_pos hy, if_neg (by decide)]
          by_cases h0 : w < 0
          · rw [if_pos h0]; exact fin
          · rw [if_neg h0, if_neg (fun hh => h ⟨⟨hx, hy⟩, by grind, hh⟩)]; exact fin
        · rw [if_neg hy, if_pos rfl]; exact fin
      · rw [if_neg hx, if_pos rfl]; exact fin
