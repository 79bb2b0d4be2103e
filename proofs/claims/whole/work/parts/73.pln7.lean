theorem PP.j_mistL {N n p c : Nat} {t : Nat → Int32} {b1 b2 b4 b8 : Bool} {σ τ : Sg} (hN : 1000 < N) (h : LR t n p c b1 b2 b4 b8 σ τ) (hk : tk t n p = 21) : E2 (f_X3_readsMist_2 N σ) (f_X12_readLine_b66 N (dne b1 b2 b4 b8) (-1) 1 τ) (LL t n p σ τ) := by
  obtain ⟨h1, h2, hb, ⟨m, hD⟩, hS, hT, ⟨k, m1, m2, m3, m4⟩, ⟨hC, hC0⟩, hc⟩ := h
  have htb := tb_le (t := t) h1.1
  have hn := h1.2.1.1.1
  have hk8 := m4.1
  unfold f_X3_readsMist_2
  cases b1 with
  | true =>
    have := m3.mp rfl
    rw [if_neg (show ¬ σ 3 8 ≤ 0 by rw [m1, show (0 : Int32) = nI 0 from rfl, nI_le (by omega) (by omega)]; omega)]
    exact j_again h1 h2 hb (by omega) hC.1 (by decide) (fun hh => by have := (dne1 true b2 b4 b8).1.mp hh; cases this)
  | false =>
    have hk0 : k = 0 := by
      by_cases e : 1 ≤ k
      · have := m3.mpr e; cases this
      · omega
    subst hk0
    rw [if_pos (show σ 3 8 ≤ 0 by rw [m1]; decide), m_told (by decide) ((dne1 false b2 b4 b8).1.mpr rfl) hb, m_once1]
    have kn := tk_ne h1.1 (show tk t n p ≠ 0 by omega)
    obtain ⟨τ1, e3, hP', hf'⟩ := m_stepOn (N := N) (e := te t n p) hN h2.2.1 kn.2.2.1 h2.2.2.2.1
    obtain ⟨σ1, e6, hP, hf⟩ := c_advance (N := N) (e := te t n p) hN h1.2.1 kn.2.2.1 h1.2.2.2.1
    have bb : τ1 0 20 = 0 := (hf'.2 20 (by decide)).trans hb
    have s9 : σ1 9 0 = nI c := by rw [hf.1 9 (by decide)]; exact hC.1
    have qm1 : QM τ τ1 := hf'.qm (by decide)
    rw [e3, e6, Option.bind_some, Option.bind_some]
    unfold f_X12_sayMists f_X12_sayMists_b22
    rw [if_pos bb]
    by_cases t2 : tk t n (te t n p) = 2
    · rw [if_pos (show τ1 0 16 = 2 by rw [hP'.2.2.2.2.2.1]; exact mt_2.mpr t2)]
      obtain ⟨r, q, f1, f2, hj⟩ := j_num (N := N) (x := 0) (y := 9) hP hP' bb (show c ≤ 700 by omega) s9
      rw [f1, Option.bind_some]
      rcases hj with ⟨r1, r2, hF, hg, hg'⟩ | ⟨rfl, rfl, -, e10, v1, v2⟩
      · rw [if_pos r1, it_x (f := fun q : Int32 × Sg => s_X12_sayMists_h22 N q.1 q.2) (s := ((0 : Int32), τ1)) (r := (1, 0, q.2)) (by omega) (by
          dsimp only
          unfold s_X12_sayMists_h22 f_X12_sayMists_b48 f_X12_readNumber f_X12_readNumber_b18
          rw [if_pos bb, if_pos (show τ1 0 16 = 2 by rw [hP'.2.2.2.2.2.1]; exact mt_2.mpr t2), if_neg (by decide), f2, Option.bind_some]
          show (((if q.2 0 20 = 0 then _ else _ : Option (Int32 × Sg))).bind _) = _
          rw [if_neg hF.1, Option.bind_some]
          show (if q.2 0 20 = 0 then _ else _) = _
          rw [if_neg hF.1]) Nat.one_ne_zero, Option.bind_some]
        dsimp only
        rw [if_pos rfl, Option.bind_some, Option.bind_some, m_markB hF.1, Option.bind_some, e2_s]
        exact Or.inl ⟨rfl, hF, hf.qc.tr hg.qc, qm1.tr hg'.qm⟩
      · rw [if_neg (show ¬ (1 : Int32) = 0 by decide)]
        obtain ⟨z, y, g1, g2, hq1, hq2, hh⟩ := j_mists (N := N) hN hP hP' bb (show c ≤ 700 by omega) s9 (by rw [hf.1 3 (by decide)]; exact m1)
        rw [g1, g2, Option.bind_some, Option.bind_some]
        rcases hh with ⟨z1, y1, hF⟩ | ⟨p', k, z1, k8, hp, hkk, P2, s92, hh⟩
        · rw [if_pos z1, if_pos y1, Option.bind_some, Option.bind_some, m_markB hF.1, Option.bind_some, e2_s]
          exact Or.inl ⟨rfl, hF, hf.qc.tr hq1, qm1.tr hq2⟩
        · have hlt := tk_lt t n p' P2.1
          have s5 := P2.2.2.2.2.1
          rw [if_neg (show ¬ z.1 = 1 by rw [z1]; decide), if_neg (show ¬ (z.2.2 2 5 < 0 ∨ 27 ≤ (z.2.2 2 5).toNatClampNeg) by rw [s5]; exact gdn hlt (by omega))]
          rcases hh with ⟨t2', y1, σ', a1, hF, hg⟩ | ⟨t2', y1, y2, M2, b2', D2, s38, fr, f3, f2', fm⟩
          · rw [if_pos (show z.2.2 2 5 = 2 by rw [s5, t2']; rfl), if_pos y1, a1, Option.bind_some, Option.bind_some, Option.bind_some, m_markB hF.1, Option.bind_some]
            dsimp only
            rw [if_neg (by decide), e2_s]
            exact Or.inl ⟨rfl, hF, (hf.qc.tr hq1).tr hg, qm1.tr hq2⟩
          · rw [if_neg (show ¬ z.2.2 2 5 = 2 by rw [s5, nI_lit (m := 2) (x := 2) (by omega) (by omega) rfl]; exact t2'), if_neg (show ¬ y.1 = 1 by rw [y1]; decide), y2]
            show E2 _ ((f_X12_mark N 59 (wr y.2.2 3 8 (nI k))).bind fun q1 => some (_, q1)) _
            obtain ⟨zz, zk, σ2⟩ := z
            obtain ⟨yy, yk, τ2⟩ := y
            dsimp only at z1 y1 y2 P2 s92 M2 b2' D2 s38 fr f3 f2' fm hq1 hq2 s5 ⊢
            have b3 : wr τ2 3 8 (nI k) 0 20 = 0 := by rw [wr_n (by decide)]; exact b2'
            have PM : PSM t n p' (wr τ2 3 8 (nI k)) := M2.fr (wr_n (by decide)) (wr_n (by decide))
            obtain ⟨⟨r3, σ3⟩, τ3, f8, g8, hj⟩ := j_end (N := N) hN P2 PM b3 (show c ≤ 700 by omega) s92
            rw [f8, g8, Option.bind_some, Option.bind_some]
            dsimp only at hj ⊢
            rcases hj with ⟨r1, hF, hg, hg'⟩ | ⟨r1, k4, P8, M8, b8', F8, G8⟩
            · rw [if_neg (by rw [r1]; decide), e2_s]
              exact Or.inl ⟨r1, hF, (hf.qc.tr hq1).tr hg, ((qm1.tr hq2).w (by omega)).tr hg'⟩
            · rw [if_neg (by rw [r1]; decide), e2_s]
              have kn2 := tk_ne P2.1 (show tk t n p' ≠ 0 by omega)
              have cS : ∀ d, d ∉ [2, 3, 8] → σ3 d = σ d := fun d hd => by rw [F8.1 d (fun e => hd (by rw [e]; decide)), fr d hd]; exact hf.1 d (fun e => hd (by rw [e]; decide))
              have c3 : ∀ j, j ≠ 8 → σ3 3 j = σ 3 j := fun j hj => by rw [F8.1 3 (by decide), f3 j hj, hf.1 3 (by decide)]
              have c2 : ∀ j, j ∉ [5, 6, 7, 8, 9, 10] → σ3 2 j = σ 2 j := fun j hj => by rw [F8.2 j hj, f2' j hj]; exact hf.2 j hj
              have cT : ∀ d, d ≠ 0 → d ≠ 3 → d ≠ 9 → τ3 d = τ d := fun d d0 d3 d9 => by rw [G8.1 d d0 (by simp), wr_n d3, fm.1 d d0 (by simp; exact d9)]; exact hf'.1 d d0 (by simp)
              have t3 : ∀ j, j ≠ 8 → τ3 3 j = τ 3 j := fun j hj => by rw [G8.1 3 (by decide) (by simp), wr_e, upd_n hj, fm.1 3 (by decide) (by simp), hf'.1 3 (by decide) (by simp)]
              have k1 := hkk t2
              refine Or.inr ⟨r1, te t n p', c, true, b2, b4, b8, by omega, (dne1 false b2 b4 b8).2, ⟨P8, M8, b8', ⟨m, hD.fr (c3 0 (by decide)) (c3 5 (by decide)) (fun d d4 d7 => cS d (by simp; omega)) (t3 5 (by decide)) (fun d d4 d8 => cT d (by omega) (by omega) (by omega))⟩, ?_, ?_, ⟨k, ?_, ?_, ⟨fun _ => k1, fun _ => rfl⟩, D2.fr (F8.1 8 (by decide)) ((G8.1 9 (by decide) (by simp)).trans (wr_n (by decide)))⟩, ⟨hC.g (cS 9 (by decide)) (cS 10 (by decide)) (t3 9 (by decide)) (cT 10 (by decide) (by decide) (by decide)), hC0⟩, by omega⟩, (hf.qc.tr hq1).tr F8.qc, ((qm1.tr hq2).w (by omega)).tr (G8.qm (by decide))⟩
              · dsimp only; rw [c3 6 (by decide), t3 6 (by decide), c2 11 (by decide)]; exact hS
              · dsimp only; rw [c3 7 (by decide), t3 7 (by decide), c2 12 (by decide)]; exact hT
              · dsimp only; rw [F8.1 3 (by decide)]; exact s38
              · dsimp only; rw [G8.1 3 (by decide) (by simp), wr_e, upd_e]
    · rw [if_neg (show ¬ τ1 0 16 = 2 by rw [hP'.2.2.2.2.2.1]; exact fun hh => t2 (mt_2.mp hh))]
      unfold f_X3_isNumber_2
      have s5 := hP.2.2.2.2.1
      have hlt := tk_lt t n (te t n p) hP.1
      rw [if_neg (show ¬ (σ1 2 5 < 0 ∨ 27 ≤ (σ1 2 5).toNatClampNeg) by rw [s5]; exact gdn hlt (by omega)), if_neg (show ¬ σ1 2 5 = 2 by rw [s5, nI_lit (m := 2) (x := 2) (by omega) (by omega) rfl]; exact t2)]
      obtain ⟨σ', τ', a1, a2, hF, hg, hg'⟩ := j_fail (N := N) (x := 1) (by decide) hP hP' bb (show c ≤ 700 by omega) s9
      rw [a1, a2, Option.bind_some, Option.bind_some, it_x (f := fun q : Int32 × Sg => s_X12_sayMists_h22 N q.1 q.2) (s := ((0 : Int32), τ')) (r := (2, 0, τ')) (by omega) (by
        dsimp only
        unfold s_X12_sayMists_h22
        rw [if_neg hF.1]) (show (2 : Nat) ≠ 0 by decide), Option.bind_some]
      dsimp only
      rw [if_neg (show ¬ ¬ ((0 : Int32) = 0 ∨ (0 : Int32) = 1) by decide), Option.bind_some, if_neg (show ¬ (2 : Nat) = 1 by decide)]
      dsimp only
      rw [if_pos rfl]
      show E2 _ ((f_X12_mark N 59 (wr τ' 3 8 0)).bind fun q1 => some (_, q1)) _
      have e0 : wr τ' 3 8 0 0 = τ' 0 := wr_n (by decide)
      rw [m_markB (by rw [e0]; exact hF.1), Option.bind_some, e2_s]
      exact Or.inl ⟨rfl, hF.m e0, hf.qc.tr hg.qc, (qm1.tr hg'.qm).w (by omega)⟩
