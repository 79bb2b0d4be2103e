/-! ===== lines ===== -/
def PP.QC (σ σ' : Sg) : Prop := Fr [2, 3, 4, 5, 6, 7, 8, 9, 10] σ σ'
theorem PP.F2.qc {J : List Nat} {a b : Sg} (h : F2 J a b) : QC a b := fun c hc => h.1 c (fun e => hc (by rw [e]; decide))
theorem PP.GC.qc {a b : Sg} (h : GC a b) : QC a b := fun c hc => h.1 c (fun e => hc (by rw [e]; decide)) (fun e => hc (by rw [e]; decide)) (fun e => hc (by rw [e]; decide))
def PP.QM (τ τ' : Sg) : Prop := FM [3, 4, 5, 6, 7, 8, 9, 10] [14, 16, 17, 18, 19, 20, 21] τ τ' ∧ (∀ j, j < 5 → τ' 3 j = τ 3 j) ∧ (∀ c, 4 ≤ c → c ≤ 8 → ∀ i, i < 9 → τ' c i = τ c i) ∧ (∀ i, i < 8 → τ' 9 i = τ 9 i) ∧ ∀ i, i < 700 → τ' 10 i = τ 10 i
theorem PP.QM.refl (τ : Sg) : QM τ τ := ⟨FM.refl _ _ _, fun _ _ => rfl, fun _ _ _ _ _ => rfl, fun _ _ => rfl, fun _ _ => rfl⟩
theorem PP.QM.tr {a b c : Sg} (h : QM a b) (k : QM b c) : QM a c := ⟨h.1.tr k.1, fun j hj => (k.2.1 j hj).trans (h.2.1 j hj), fun c h1 h2 i hi => (k.2.2.1 c h1 h2 i hi).trans (h.2.2.1 c h1 h2 i hi), fun i hi => (k.2.2.2.1 i hi).trans (h.2.2.2.1 i hi), fun i hi => (k.2.2.2.2 i hi).trans (h.2.2.2.2 i hi)⟩
theorem PP.GM.qm {a b : Sg} (h : GM a b) : QM a b := ⟨h.1.mo (by decide) (by decide), fun j hj => h.2.1 j (by omega), fun c h1 h2 i _ => by rw [h.1.1 c (by omega) (by simp; omega)], fun i _ => by rw [h.1.1 9 (by decide) (by decide)], h.2.2⟩
theorem PP.FM.qm {Q : List Nat} {a b : Sg} (h : FM [] Q a b) (d : ∀ c, c ∈ Q → c ∈ [14, 16, 17, 18, 19, 20, 21]) : QM a b := (h.gm d).qm
/-- a write to an upper half -/
theorem PP.QM.w {a b : Sg} {c i : Nat} {v : Int32} (h : QM a b) (hc : (4 ≤ c ∧ c ≤ 8 ∧ 9 ≤ i) ∨ (c = 9 ∧ 8 ≤ i) ∨ (c = 3 ∧ 5 ≤ i)) : QM a (wr b c i v) := by
  refine h.tr ⟨(FM.refl _ _ _).w (by simp; omega) (by omega), fun j hj => ?_, fun c' h1 h2 j hj => ?_, fun j hj => ?_, fun j hj => ?_⟩
  · by_cases e : c = 3
    · subst e; rw [wr_e, upd_n (by omega)]
    · rw [wr_n (fun x => e x.symm)]
  · by_cases e : c = c'
    · subst e; rw [wr_e, upd_n (by omega)]
    · rw [wr_n (fun x => e x.symm)]
  · by_cases e : c = 9
    · subst e; rw [wr_e, upd_n (by omega)]
    · rw [wr_n (fun x => e x.symm)]
  · rw [wr_n (by omega)]
def PP.tkN (k B : Nat) (b : Int32) (N : Nat) (x2 x3 x4 : Int32) (σ : Sg) : Option (Int32 × Sg) :=
  (f_X3_isNumber_2 N x3 x4 σ).bind fun q2 => if q2.1 = 0 then some ((0 : Int32), q2.2) else if x2 < 0 then (f_X3_advance_2 N q2.2).bind fun q1 => some ((1 : Int32), q1) else if b ≤ x2 then (f_X3_advance_2 N q2.2).bind fun q1 => some ((1 : Int32), q1) else if (x2 < 0 ∨ B ≤ x2.toNatClampNeg) then none else bd (wr q2.2 k x2.toNatClampNeg (q2.2 2 10)) fun σ4 => (f_X3_advance_2 N σ4).bind fun q1 => some ((1 : Int32), q1)
theorem PP.tk4 {N : Nat} {x y z : Int32} {σ : Sg} : f_X3_takesNumber_2_4 N x y z σ = tkN 4 9 9 N x y z σ := rfl
theorem PP.tk5 {N : Nat} {x y z : Int32} {σ : Sg} : f_X3_takesNumber_2_5 N x y z σ = tkN 5 9 9 N x y z σ := rfl
theorem PP.tk6 {N : Nat} {x y z : Int32} {σ : Sg} : f_X3_takesNumber_2_6 N x y z σ = tkN 6 9 9 N x y z σ := rfl
theorem PP.tk7 {N : Nat} {x y z : Int32} {σ : Sg} : f_X3_takesNumber_2_7 N x y z σ = tkN 7 9 9 N x y z σ := rfl
theorem PP.tk8 {N : Nat} {x y z : Int32} {σ : Sg} : f_X3_takesNumber_2_8 N x y z σ = tkN 8 8 8 N x y z σ := rfl
theorem PP.m_rnB {N : Nat} {x y : Int32} {τ : Sg} (hb : τ 0 20 ≠ 0) : f_X12_readNumber N x y τ = some (0, τ) := by
  unfold f_X12_readNumber f_X12_readNumber_b18 f_X12_numberNow
  rw [if_neg hb, Option.bind_some]
  show (if τ 0 20 = 0 then _ else _) = _
  rw [if_neg hb]
/-- a number read: the place it is kept in, and on -/
theorem PP.j_take {N n p c k B i : Nat} {t : Nat → Int32} {x y b : Int32} {σ τ : Sg} (hN : 1000 < N) (hk : k = 4 ∨ k = 5 ∨ k = 6 ∨ k = 7 ∨ k = 8) (hB : b = nI B) (hi : i < B) (hB9 : B ≤ 9) (h1 : PSC t n p σ) (h2 : PSM t n p τ) (hb : τ 0 20 = 0) (hc : c ≤ 700) (h9 : σ 9 0 = nI c) : E2 (tkN k B b N (nI i) x y σ) (f_X12_readNumber N x y τ) (fun r q => (r.1 = 0 ∧ FE r.2 q.2 ∧ QC σ r.2 ∧ QM τ q.2) ∨ (r.1 = 1 ∧ ∃ v, q.1 = v ∧ x ≤ v ∧ v ≤ y ∧ tk t n p = 2 ∧ PSC t n (te t n p) r.2 ∧ PSM t n (te t n p) q.2 ∧ q.2 0 20 = 0 ∧ F2 [5, 6, 7, 8, 9, 10] (wr σ k i v) r.2 ∧ FM [] [14, 16, 17, 18, 19] τ q.2)) := by
  subst hB
  unfold tkN f_X12_readNumber f_X12_readNumber_b18
  obtain ⟨r, q, e1, e2, hj⟩ := j_num (N := N) (x := x) (y := y) h1 h2 hb hc h9
  rw [e1, e2, Option.bind_some, Option.bind_some]
  rcases hj with ⟨r1, r2, hF, hg, hg'⟩ | ⟨rfl, rfl, k2, e10, v1, v2⟩
  · rw [if_pos r1, e2_br, if_neg hF.1, e2_s]
    exact Or.inl ⟨rfl, hF, hg.qc, hg'.qm⟩
  · have kn := tk_ne h1.1 (show tk t n p ≠ 0 by omega)
    dsimp only
    rw [if_neg (by decide), if_neg (nI_nn (by omega)), if_neg (by rw [nI_le (by omega) (by omega)]; omega), if_neg (gdn hi (by omega)), nI_cl (by omega), e2_bl, e2_br, if_pos hb]
    obtain ⟨τ1, e3, hP', hf'⟩ := m_stepOn (N := N) (e := te t n p) hN h2.2.1 kn.2.2.1 h2.2.2.2.1
    have h1' : PSC t n p (wr σ k i (σ 2 10)) := h1.fr (wr_n (by omega)) (wr_n (by omega))
    obtain ⟨σ3, e6, hP, hf⟩ := c_advance (N := N) (e := te t n p) hN h1'.2.1 kn.2.2.1 h1'.2.2.2.1
    rw [e3, e6, Option.bind_some, Option.bind_some, e2_s]
    rw [e10] at hf
    exact Or.inr ⟨rfl, τ 0 17, rfl, v1, v2, k2, hP, hP', (hf'.2 20 (by decide)).trans hb, hf, hf'⟩
theorem PP.j_end {N n p c : Nat} {t : Nat → Int32} {σ τ : Sg} (hN : 1000 < N) (h1 : PSC t n p σ) (h2 : PSM t n p τ) (hb : τ 0 20 = 0) (hc : c ≤ 700) (h9 : σ 9 0 = nI c) : E2 (f_X3_endsLine_2 N σ) (f_X12_mark N 59 τ) (fun r q => (r.1 = 0 ∧ FE r.2 q ∧ QC σ r.2 ∧ QM τ q) ∨ (r.1 = 1 ∧ tk t n p = 4 ∧ PSC t n (te t n p) r.2 ∧ PSM t n (te t n p) q ∧ q 0 20 = 0 ∧ F2 [5, 6, 7, 8, 9, 10] σ r.2 ∧ FM [] [14, 16, 17, 18, 19] τ q)) := by
  have hlt := tk_lt t n p h1.1
  have s5 := h1.2.2.2.2.1
  unfold f_X3_endsLine_2
  rw [if_neg (by rw [s5]; exact gdn hlt (by omega))]
  by_cases k4 : tk t n p = 4
  · have kn := tk_ne h1.1 (show tk t n p ≠ 0 by omega)
    rw [if_pos (show σ 2 5 = 4 by rw [s5, k4]; rfl), m_mark1 (i := 4) (x := 59) h2 hb (by omega) (by omega) rfl k4]
    obtain ⟨τ1, e3, hP', hf'⟩ := m_stepOn (N := N) (e := te t n p) hN h2.2.1 kn.2.2.1 h2.2.2.2.1
    obtain ⟨σ3, e6, hP, hf⟩ := c_advance (N := N) (e := te t n p) hN h1.2.1 kn.2.2.1 h1.2.2.2.1
    rw [e3, e6, Option.bind_some, e2_s]
    exact Or.inr ⟨rfl, k4, hP, hP', by rw [hf'.2 20 (by decide)]; exact hb, hf, hf'⟩
  · rw [if_neg (show ¬ σ 2 5 = 4 by rw [s5, nI_lit (m := 4) (x := 4) (by omega) (by omega) rfl]; exact k4), m_mark0 (i := 4) (x := 59) h2 hb (by omega) (by omega) rfl k4]
    obtain ⟨σ', τ', a1, a2, hF, hg, hg'⟩ := j_fail (N := N) (x := 1) (by decide) h1 h2 hb hc h9
    rw [a1, a2, Option.bind_some]
    dsimp only
    rw [if_neg (by decide), e2_s]
    exact Or.inl ⟨rfl, hF, hg.qc, hg'.qm⟩
theorem PP.FE.m {σ τ τ' : Sg} (h : FE σ τ) (e : τ' 0 = τ 0) : FE σ τ' := by
  unfold FE at h ⊢; rw [e]; exact h
def PP.ms3 (N : Nat) (v : Int32) (τ : Sg) : Option Sg := (f_X12_readNumber N (1 : Int32) (5 : Int32) τ).bind fun q12 =>
if (v < 0 ∨ 18 ≤ v.toNatClampNeg) then none else
bd (wr (q12.2) 8 (v.toNatClampNeg) q12.1) fun σ14 =>
bd (wr σ14 3 5 ((σ14 3 5) + (1 : Int32))) fun σ15 =>
some σ15
def PP.ms2 (N : Nat) (v : Int32) (τ : Sg) : Option Sg := (f_X12_readNumber N (0 : Int32) (20 : Int32) τ).bind fun q9 =>
if (v < 0 ∨ 18 ≤ v.toNatClampNeg) then none else
bd (wr (q9.2) 7 (v.toNatClampNeg) q9.1) fun σ11 => ms3 N v σ11
def PP.ms1 (N : Nat) (v : Int32) (τ : Sg) : Option Sg := (f_X12_readNumber N (0 : Int32) (99 : Int32) τ).bind fun q6 =>
if (v < 0 ∨ 18 ≤ v.toNatClampNeg) then none else
bd (wr (q6.2) 6 (v.toNatClampNeg) q6.1) fun σ8 => ms2 N v σ8
theorem PP.ms_b96 {N : Nat} {v x : Int32} {τ : Sg} : f_X12_sayFarm_b96 N v x τ = if (v < 0 ∨ 18 ≤ v.toNatClampNeg) then none else bd (wr τ 5 (v.toNatClampNeg) x) fun σ5 => ms1 N v σ5 := rfl
theorem PP.ms3B {N m : Nat} {τ : Sg} (hm : m < 9) (hb : τ 0 20 ≠ 0) : Ev (ms3 N (nI (9 + m)) τ) (fun τ' => τ' 0 = τ 0 ∧ QM τ τ') := by
  unfold ms3
  rw [m_rnB hb, Option.bind_some, if_neg (gdn (by omega) (by omega)), nI_cl (by omega), ev_bd, ev_bd, ev_s]
  exact ⟨by rw [wr_n (by decide), wr_n (by decide)], ((QM.refl _).w (by omega)).w (by omega)⟩
theorem PP.ms2B {N m : Nat} {τ : Sg} (hm : m < 9) (hb : τ 0 20 ≠ 0) : Ev (ms2 N (nI (9 + m)) τ) (fun τ' => τ' 0 = τ 0 ∧ QM τ τ') := by
  unfold ms2
  rw [m_rnB hb, Option.bind_some, if_neg (gdn (by omega) (by omega)), nI_cl (by omega), ev_bd]
  have e : wr τ 7 (9 + m) 0 0 = τ 0 := wr_n (by decide)
  refine (ms3B hm (by rw [e]; exact hb)).imp (fun τ' h => ⟨h.1.trans e, ((QM.refl _).w (by omega)).tr h.2⟩)
theorem PP.ms1B {N m : Nat} {τ : Sg} (hm : m < 9) (hb : τ 0 20 ≠ 0) : Ev (ms1 N (nI (9 + m)) τ) (fun τ' => τ' 0 = τ 0 ∧ QM τ τ') := by
  unfold ms1
  rw [m_rnB hb, Option.bind_some, if_neg (gdn (by omega) (by omega)), nI_cl (by omega), ev_bd]
  have e : wr τ 6 (9 + m) 0 0 = τ 0 := wr_n (by decide)
  refine (ms2B hm (by rw [e]; exact hb)).imp (fun τ' h => ⟨h.1.trans e, ((QM.refl _).w (by omega)).tr h.2⟩)
theorem PP.b96B {N m : Nat} {x : Int32} {τ : Sg} (hm : m < 9) (hb : τ 0 20 ≠ 0) : Ev (f_X12_sayFarm_b96 N (nI (9 + m)) x τ) (fun τ' => τ' 0 = τ 0 ∧ QM τ τ') := by
  rw [ms_b96, if_neg (gdn (by omega) (by omega)), nI_cl (by omega), ev_bd]
  have e : wr τ 5 (9 + m) x 0 = τ 0 := wr_n (by decide)
  refine (ms1B hm (by rw [e]; exact hb)).imp (fun τ' h => ⟨h.1.trans e, ((QM.refl _).w (by omega)).tr h.2⟩)
