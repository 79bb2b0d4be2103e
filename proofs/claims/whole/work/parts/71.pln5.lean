def PP.b2i (b : Bool) : Int32 := if b then 1 else 0
def PP.dne (b1 b2 b4 b8 : Bool) : Int32 := (if b1 then 1 else 0) ||| (if b2 then 2 else 0) ||| (if b4 then 4 else 0) ||| (if b8 then 8 else 0)
theorem PP.dne1 (b1 b2 b4 b8 : Bool) : ((1 : Int32) &&& dne b1 b2 b4 b8 = 0 ↔ b1 = false) ∧ dne b1 b2 b4 b8 ||| 1 = dne true b2 b4 b8 := by revert b1 b2 b4 b8; decide
theorem PP.dne2 (b1 b2 b4 b8 : Bool) : ((2 : Int32) &&& dne b1 b2 b4 b8 = 0 ↔ b2 = false) ∧ dne b1 b2 b4 b8 ||| 2 = dne b1 true b4 b8 := by revert b1 b2 b4 b8; decide
theorem PP.dne4 (b1 b2 b4 b8 : Bool) : ((4 : Int32) &&& dne b1 b2 b4 b8 = 0 ↔ b4 = false) ∧ dne b1 b2 b4 b8 ||| 4 = dne b1 b2 true b8 := by revert b1 b2 b4 b8; decide
theorem PP.dne8 (b1 b2 b4 b8 : Bool) : ((8 : Int32) &&& dne b1 b2 b4 b8 = 0 ↔ b8 = false) ∧ dne b1 b2 b4 b8 ||| 8 = dne b1 b2 b4 true := by revert b1 b2 b4 b8; decide
theorem PP.dne0 (b1 b2 b4 b8 : Bool) : ((0 : Int32) &&& dne b1 b2 b4 b8 = 0) ∧ dne b1 b2 b4 b8 ||| 0 = dne b1 b2 b4 b8 := by revert b1 b2 b4 b8; decide
theorem PP.DF.fr {m : Nat} {σ σ' τ τ' : Sg} (h : DF m σ τ) (h0 : σ' 3 0 = σ 3 0) (h5 : σ' 3 5 = σ 3 5) (hk : ∀ k, 4 ≤ k → k ≤ 7 → σ' k = σ k) (t5 : τ' 3 5 = τ 3 5) (tk : ∀ k, 4 ≤ k → k ≤ 8 → τ' k = τ k) : DF m σ' τ' := by
  unfold DF FA at h ⊢
  rw [h0, h5, hk 4 (by omega) (by omega), hk 5 (by omega) (by omega), hk 6 (by omega) (by omega), hk 7 (by omega) (by omega), t5, tk 4 (by omega) (by omega), tk 5 (by omega) (by omega), tk 6 (by omega) (by omega), tk 7 (by omega) (by omega), tk 8 (by omega) (by omega)]
  exact h
theorem PP.DM.fr {k : Nat} {σ σ' τ τ' : Sg} (h : DM k σ τ) (h8 : σ' 8 = σ 8) (t9 : τ' 9 = τ 9) : DM k σ' τ' := by
  unfold DM at h ⊢; rw [h8, t9]; exact h
theorem PP.CR.g {c d : Nat} {σ τ σ' τ' : Sg} (h : CR c d σ τ) (h9 : σ' 9 = σ 9) (h10 : σ' 10 = σ 10) (m3 : τ' 3 9 = τ 3 9) (m10 : τ' 10 = τ 10) : CR c d σ' τ' := by
  unfold CR at h ⊢; rw [h9, h10, m3, m10]; exact h
def PP.LR (t : Nat → Int32) (n p c : Nat) (b1 b2 b4 b8 : Bool) (σ τ : Sg) : Prop := PSC t n p σ ∧ PSM t n p τ ∧ τ 0 20 = 0 ∧ (∃ m, DF m σ τ) ∧ (σ 3 6 = τ 3 6 ∧ 1 ≤ σ 3 6 ∧ σ 3 6 ≤ 99 ∧ σ 2 11 = b2i b2) ∧ (σ 3 7 = τ 3 7 ∧ 0 ≤ σ 3 7 ∧ σ 3 7 ≤ 9 ∧ σ 2 12 = b2i b4) ∧ (∃ k, σ 3 8 = nI k ∧ τ 3 8 = nI k ∧ (b1 = true ↔ 1 ≤ k) ∧ DM k σ τ) ∧ (CR c (if b8 then 1 else 0) σ τ ∧ (b8 = false → c = 0)) ∧ c ≤ tb t n p
def PP.LL (t : Nat → Int32) (n p : Nat) (σ τ : Sg) (r : Int32 × Sg) (q : Int32 × Sg) : Prop := FL σ τ r q.2 ∨ (r.1 = 1 ∧ ∃ p' c' b1 b2 b4 b8, tb t n p < tb t n p' ∧ q.1 = dne b1 b2 b4 b8 ∧ LR t n p' c' b1 b2 b4 b8 r.2 q.2 ∧ QC σ r.2 ∧ QM τ q.2)
theorem PP.m_once2 {N : Nat} {τ : Sg} : f_X12_sayOnce N 2 τ = oneM N 6 1 99 τ := rfl
theorem PP.m_once4 {N : Nat} {τ : Sg} : f_X12_sayOnce N 4 τ = oneM N 7 0 9 τ := rfl
theorem PP.m_once8 {N : Nat} {τ : Sg} : f_X12_sayOnce N 8 τ = (f_X12_stepOn N τ).bind fun q6 => (fr_X12 N 8 0 q6).bind fun q => some q := rfl
theorem PP.m_once1 {N : Nat} {τ : Sg} : f_X12_sayOnce N 1 τ = (f_X12_stepOn N τ).bind fun q6 => (f_X12_sayMists N q6).bind fun q => some q := rfl
/-- the reference's line, by its first word -/
theorem PP.m_line {N n p : Nat} {t : Nat → Int32} {x : Int32} {τ : Sg} (hN : 1000 < N) (h : PSM t n p τ) (hb : τ 0 20 = 0) : f_X12_readLine N x τ = if tk t n p = 21 then f_X12_readLine_b66 N x (wh1 (tk t n p)) 1 τ else if tk t n p = 15 then f_X12_readLine_b66 N x (wh1 (tk t n p)) 2 τ else if tk t n p = 16 then f_X12_readLine_b66 N x (wh1 (tk t n p)) 4 τ else if tk t n p = 17 then f_X12_readLine_b66 N x (wh1 (tk t n p)) 8 τ else f_X12_readLine_b66 N x (wh1 (tk t n p)) 0 τ := by
  unfold f_X12_readLine
  rw [m_which1 hN h hb, Option.bind_some]
  show ((f_X12_is N 6 τ).bind fun q8 => _) = _
  have E : ∀ x : Nat, x < 14 → (tk t n p = ox x → f_X12_is N x τ = some (1, τ)) ∧ (tk t n p ≠ ox x → f_X12_is N x τ = some (0, τ)) := by
    intro x hx
    have := m_is (x := x) hN h hb hx
    exact ⟨fun hh => by rw [this, if_pos hh], fun hh => by rw [this, if_neg hh]⟩
  by_cases k6 : tk t n p = 21
  · rw [(E 6 (by omega)).1 k6, if_pos k6, Option.bind_some]
    rw [if_neg (show ¬ (1 : Int32) = 0 by decide)]
  · rw [(E 6 (by omega)).2 k6, if_neg k6, Option.bind_some]
    rw [if_pos rfl]
    by_cases k11 : tk t n p = 15
    · rw [(E 11 (by omega)).1 k11, if_pos k11, Option.bind_some]
      rw [if_neg (show ¬ (1 : Int32) = 0 by decide)]
    · rw [(E 11 (by omega)).2 k11, if_neg k11, Option.bind_some]
      rw [if_pos rfl]
      by_cases k12 : tk t n p = 16
      · rw [(E 12 (by omega)).1 k12, if_pos k12, Option.bind_some]
        rw [if_neg (show ¬ (1 : Int32) = 0 by decide)]
      · rw [(E 12 (by omega)).2 k12, if_neg k12, Option.bind_some]
        rw [if_pos rfl]
        by_cases k13 : tk t n p = 17
        · rw [(E 13 (by omega)).1 k13, if_pos k13, Option.bind_some]
          rw [if_neg (show ¬ (1 : Int32) = 0 by decide)]
        · rw [(E 13 (by omega)).2 k13, if_neg k13, Option.bind_some]
          rw [if_pos rfl]
/-- a line that was told before -/
theorem PP.m_again {N : Nat} {x t0 : Int32} {τ τ' : Sg} (h0 : 0 < t0) (ha : ¬ (t0 &&& x) = 0) (hw : f_X12_wrong N 5 τ = some τ') (hb : τ' 0 20 ≠ 0) : f_X12_readLine_b66 N x (-1) t0 τ = some (x ||| t0, τ') := by
  unfold f_X12_readLine_b66 f_X12_readLine_b78 f_X12_readLine_b97 f_X12_readLine_b115
  rw [if_neg ha, hw, Option.bind_some, if_neg (by grind), if_neg hb, if_pos rfl, m_wrongB hb, Option.bind_some, m_markB hb, Option.bind_some]
theorem PP.m_told {N : Nat} {x v t0 : Int32} {τ : Sg} (h0 : 0 < t0) (ha : (t0 &&& x) = 0) (hb : τ 0 20 = 0) : f_X12_readLine_b66 N x v t0 τ = ((f_X12_sayOnce N t0 τ).bind fun q => f_X12_mark N 59 q).bind fun q1 => some (x ||| t0, q1) := by
  unfold f_X12_readLine_b66 f_X12_readLine_b78 f_X12_readLine_b115
  rw [if_pos ha, if_neg (by grind), if_pos hb, Option.bind_assoc]
theorem PP.m_farmL {N : Nat} {x v : Int32} {τ : Sg} (ha : ((0 : Int32) &&& x) = 0) (hv : v ≠ -1) : f_X12_readLine_b66 N x v 0 τ = ((f_X12_sayFarm N v τ).bind fun q => f_X12_mark N 59 q).bind fun q1 => some (x ||| 0, q1) := by
  unfold f_X12_readLine_b66 f_X12_readLine_b78 f_X12_readLine_b97 f_X12_readLine_b115
  rw [if_pos ha, if_pos (by decide), if_neg hv, Option.bind_assoc]
theorem PP.m_noL {N : Nat} {x : Int32} {τ τ' : Sg} (ha : ((0 : Int32) &&& x) = 0) (hw : f_X12_wrong N 1 τ = some τ') (hb : τ' 0 20 ≠ 0) : f_X12_readLine_b66 N x (-1) 0 τ = some (x ||| 0, τ') := by
  unfold f_X12_readLine_b66 f_X12_readLine_b78 f_X12_readLine_b97 f_X12_readLine_b115
  rw [if_pos ha, if_pos (by decide), if_pos rfl, hw, Option.bind_some, m_markB hb, Option.bind_some]
theorem PP.e2_fs {α β γ : Type} {o : Option α} {u : Option β} {P : α → β → Prop} {k : β → γ} {Q : α → γ → Prop} (h : E2 o u P) (hk : ∀ a b, P a b → Q a (k b)) : E2 o (u.bind fun q => some (k q)) Q := by
  obtain ⟨a, b, rfl, rfl, hP⟩ := h
  exact ⟨a, k b, rfl, rfl, hk a b hP⟩
theorem PP.e2_ck {β : Type} {o : Option (Int32 × Sg)} {u : Option β} {P : Int32 × Sg → β → Prop} (h : E2 o u P) (hp : ∀ a b, P a b → a.1 = 0 ∨ a.1 = 1) : E2 (o.bind fun q => if ¬ (q.1 = 0 ∨ q.1 = 1) then none else some (q.1, q.2)) u P := by
  obtain ⟨a, b, rfl, rfl, hP⟩ := h
  rw [Option.bind_some, if_neg (fun x => x (hp a b hP)), e2_s]
  exact hP
theorem PP.LL.z {t : Nat → Int32} {n p : Nat} {σ τ : Sg} {r q : Int32 × Sg} (h : LL t n p σ τ r q) : r.1 = 0 ∨ r.1 = 1 := by
  rcases h with h | h
  · exact Or.inl h.1
  · exact Or.inr h.1
