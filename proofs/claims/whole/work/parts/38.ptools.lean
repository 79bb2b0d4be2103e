/-! ===== loops, once more ===== -/
theorem PP.ev_lp {S : Type} {f : S → Option (Nat × S)} {Q : Nat × S → Prop} (I : Nat → S → Prop) (n N : Nat) (s : S) (hN : n < N) (h0 : I 0 s) (hs : ∀ k s, k ≤ n → I k s → Ev (f s) (fun r => (r.1 = 0 ∧ k < n ∧ I (k + 1) r.2) ∨ (r.1 ≠ 0 ∧ Q r))) : Ev (it f N s) Q :=
  ev_for I n N s hN h0 (fun k s hk h => (hs k s (by omega) h).imp fun r h => h.elim (fun x => Or.inl ⟨x.1, x.2.2⟩) Or.inr) (fun s h => (hs n s (Nat.le_refl n) h).imp fun r h => h.elim (fun x => absurd x.2.1 (by omega)) id)
theorem PP.iN {α : Type} {a b : Nat} [Decidable (a = b)] {x y : α} (h : a ≠ b) : (if a = b then x else y) = y := if_neg h
theorem PP.iE {α : Type} {a b : Nat} [Decidable (a = b)] {x y : α} (h : a = b) : (if a = b then x else y) = x := if_pos h
theorem PP.nI_g {k n : Nat} (h : k < n) (hn : n ≤ 2147483648) : (nI k < 0 ∨ n ≤ (nI k).toNatClampNeg) ↔ False := by
  rw [nI_cl (by omega)]
  simp only [nI_nn (show k < 2147483648 by omega), false_or, iff_false]
  omega
/-- a loop that fills a row -/
theorem PP.ev_fill {f : Int32 × Sg → Option (Nat × Int32 × Sg)} (c n N : Nat) (v : Nat → Int32) (σ : Sg) (z : Int32) (hz : z = nI 0) (hN : n < N) (hs : ∀ k σ', k < n → (∀ d, d ≠ c → σ' d = σ d) → (∀ i, i < k → σ' c i = v i) → (∀ i, k ≤ i → σ' c i = σ c i) → f (nI k, σ') = some (0, nI (k + 1), wr σ' c k (v k))) (hl : ∀ σ', (∀ d, d ≠ c → σ' d = σ d) → ∃ x, f (nI n, σ') = some (1, x, σ')) : Ev (it f N (z, σ)) (fun z => Fr [c] σ z.2.2 ∧ (∀ i, i < n → z.2.2 c i = v i) ∧ ∀ i, n ≤ i → z.2.2 c i = σ c i) := by
  refine ev_for (fun k q => q.1 = nI k ∧ (∀ d, d ≠ c → q.2 d = σ d) ∧ (∀ i, i < k → q.2 c i = v i) ∧ (∀ i, k ≤ i → q.2 c i = σ c i)) n N _ hN ⟨hz, fun _ _ => rfl, fun i hi => absurd hi (by omega), fun _ _ => rfl⟩ ?_ ?_
  · rintro k ⟨i, σ'⟩ hk ⟨e, h1, h2, h3⟩
    dsimp only at e h1 h2 h3
    subst e
    rw [hs k σ' hk h1 h2 h3, ev_s]
    refine Or.inl ⟨rfl, rfl, fun d hd => (wr_n hd).trans (h1 d hd), ?_, ?_⟩
    · intro i hi
      dsimp only
      rw [wr_e]
      by_cases h : i = k
      · subst h; exact upd_e _ _ _
      · rw [upd_n h]; exact h2 i (by omega)
    · intro i hi
      dsimp only
      rw [wr_e, upd_n (by omega)]; exact h3 i (by omega)
  · rintro ⟨i, σ'⟩ ⟨e, h1, h2, h3⟩
    dsimp only at e h1 h2 h3
    subst e
    obtain ⟨x, hx⟩ := hl σ' h1
    rw [hx, ev_s]
    refine ⟨Nat.one_ne_zero, fun d hd => h1 d (fun e => hd (by rw [e]; exact List.mem_singleton.mpr rfl)), h2, h3⟩
theorem PP.Fr.c {c : Nat} {σ σ' : Sg} (h : ∀ d, d ≠ c → σ' d = σ d) : Fr [c] σ σ' := fun d hd => h d (fun e => hd (by rw [e]; exact List.mem_singleton.mpr rfl))
theorem PP.FM.of {c : Nat} {σ σ' : Sg} (h0 : c ≠ 0) (h : Fr [c] σ σ') : FM [c] [] σ σ' := ⟨fun d _ hd => h d hd, fun j _ => by rw [h 0 (fun e => h0 (List.mem_singleton.mp e).symm)]⟩
/-! how a bit in a set of farms is asked -/
theorem PP.has_s {s : Int32} {k : Nat} : (if ((s >>> (nI k &&& 31)) &&& 1) = 1 then (1 : Int32) else 0) = if hasB s k then 1 else 0 := rfl
theorem PP.way_sym {F a b : Nat} {L : Sg} {t : Nat → Int32} (hO : LandOK F L) (ha : a < F) (hb : b < F) : way F L t a b = way F L t b a := by
  have hd := hO.2.2.2.2.2.2.2.2
  have h : lo L a b = lo L b a ∧ hi L a b = hi L b a := by
    unfold lo hi
    by_cases h1 : L 1 a < L 1 b
    · have h2 : ¬ L 1 b < L 1 a := by grind
      simp only [h1, h2, if_true, if_false]; exact ⟨trivial, trivial⟩
    · by_cases h2 : L 1 b < L 1 a
      · simp only [h1, h2, if_true, if_false]; exact ⟨trivial, trivial⟩
      · have : a = b := hd a b ha hb (by grind)
        subst this
        exact ⟨rfl, rfl⟩
  unfold way
  refine mk_cg fun k hk => ?_
  unfold inW
  rw [h.1, h.2]
theorem PP.sgt_sym {F a b : Nat} {L : Sg} {t : Nat → Int32} {m : Int32} (hO : LandOK F L) (ha : a < F) (hb : b < F) : sgt F L t m a b = sgt F L t m b a := by
  unfold sgt
  rw [way_sym hO ha hb, aw_c hO ha hb]
  refine decide_eq_decide.mpr ⟨fun h => ⟨fun e => h.1 e.symm, h.2⟩, fun h => ⟨fun e => h.1 e.symm, h.2⟩⟩
theorem PP.sub_le0 {x y : Int32} (hx : 0 ≤ x ∧ x ≤ 99) (hy : 0 ≤ y ∧ y ≤ 99) : x - y ≤ 0 ↔ ¬ y < x := by grind
theorem PP.near_mo {w s m k : Int32} (hs : 1 ≤ s ∧ s ≤ 99) (hk : 0 ≤ k) (hkm : k ≤ m) (hm : m ≤ 9) (h : w ≤ s - 9 * m) : w ≤ s - 9 * k := by grind
