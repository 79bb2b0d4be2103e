/-! ===== the pure part: what a pure function ends in ===== -/
def PP.Ev {α : Type} (o : Option α) (P : α → Prop) : Prop := ∃ z, o = some z ∧ P z
theorem PP.ev_s {α : Type} {z : α} {P : α → Prop} : Ev (some z) P ↔ P z := ⟨fun ⟨w, h, p⟩ => by cases h; exact p, fun p => ⟨z, rfl, p⟩⟩
theorem PP.ev_b {α β : Type} {o : Option α} {k : α → Option β} {P : β → Prop} : Ev (o.bind k) P ↔ Ev o (fun q => Ev (k q) P) := by
  constructor
  · rintro ⟨z, h, p⟩
    cases o with
    | none => cases h
    | some q => exact ⟨q, rfl, z, h, p⟩
  · rintro ⟨q, rfl, z, h, p⟩
    exact ⟨z, h, p⟩
theorem PP.ev_bd {α β : Type} {a : α} {k : α → Option β} {P : β → Prop} : Ev (bd a k) P ↔ Ev (k a) P := Iff.rfl
theorem PP.ev_i {α : Type} {c : Prop} [Decidable c] {a b : Option α} {P : α → Prop} : Ev (if c then a else b) P ↔ (c → Ev a P) ∧ (¬ c → Ev b P) := by
  by_cases h : c
  · rw [if_pos h]; exact ⟨fun e => ⟨fun _ => e, fun n => absurd h n⟩, fun e => e.1 h⟩
  · rw [if_neg h]; exact ⟨fun e => ⟨fun n => absurd n h, fun _ => e⟩, fun e => e.2 h⟩
theorem PP.ev_g {α : Type} {c : Prop} [Decidable c] {b : Option α} {P : α → Prop} : Ev (if c then none else b) P ↔ ¬ c ∧ Ev b P := by
  by_cases h : c
  · rw [if_pos h]; exact ⟨(fun x => nomatch x.choose_spec.1), fun e => absurd h e.1⟩
  · rw [if_neg h]; exact ⟨fun e => ⟨h, e⟩, fun e => e.2⟩
theorem PP.Ev.imp {α : Type} {o : Option α} {P Q : α → Prop} (h : Ev o P) (k : ∀ z, P z → Q z) : Ev o Q := by
  obtain ⟨z, e, p⟩ := h
  exact ⟨z, e, k z p⟩
theorem PP.Ev.and {α : Type} {o : Option α} {P Q : α → Prop} (h : Ev o P) (k : Ev o Q) : Ev o (fun z => P z ∧ Q z) := by
  obtain ⟨z, e, p⟩ := h
  obtain ⟨w, e', q⟩ := k
  rw [e] at e'; cases e'
  exact ⟨z, e, p, q⟩
theorem PP.ev_eq {α : Type} {o : Option α} {z : α} : Ev o (fun w => w = z) ↔ o = some z := ⟨fun ⟨w, e, h⟩ => h ▸ e, fun e => ⟨z, e, rfl⟩⟩
theorem PP.Ev.bind {α β : Type} {o : Option α} {k : α → Option β} {P : α → Prop} {Q : β → Prop} (h : Ev o P) (hk : ∀ z, P z → Ev (k z) Q) : Ev (o.bind k) Q := ev_b.mpr (h.imp hk)
/-- a loop of at most n turns -/
theorem PP.ev_it {S : Type} {f : S → Option (Nat × S)} {Q : Nat × S → Prop} (I : Nat → S → Prop) (n : Nat) (hs : ∀ k s, k < n → I k s → Ev (f s) (fun r => (r.1 = 0 ∧ I (k + 1) r.2) ∨ (r.1 ≠ 0 ∧ Q r))) (hl : ∀ s, I n s → Ev (f s) (fun r => r.1 ≠ 0 ∧ Q r)) : ∀ (N : Nat) (s : S) (k : Nat), k ≤ n → n < N + k → I k s → Ev (it f N s) Q
  | 0, s, k, hk, hN, h => absurd hN (by omega)
  | N + 1, s, k, hk, hN, h => by
    unfold it
    by_cases hkn : k = n
    · subst hkn
      obtain ⟨r, e, h0, q⟩ := hl s h
      exact ⟨r, by rw [e]; simp only [Option.bind_some, if_neg h0], q⟩
    · obtain ⟨r, e, h1⟩ := hs k s (by omega) h
      rw [ev_b, e, ev_s]
      rcases h1 with ⟨h0, hi⟩ | ⟨h0, q⟩
      · rw [if_pos h0]
        exact ev_it I n hs hl N r.2 (k + 1) (by omega) (by omega) hi
      · rw [if_neg h0]; exact ev_s.mpr q
theorem PP.ev_for {S : Type} {f : S → Option (Nat × S)} {Q : Nat × S → Prop} (I : Nat → S → Prop) (n N : Nat) (s : S) (hN : n < N) (h0 : I 0 s) (hs : ∀ k s, k < n → I k s → Ev (f s) (fun r => (r.1 = 0 ∧ I (k + 1) r.2) ∨ (r.1 ≠ 0 ∧ Q r))) (hl : ∀ s, I n s → Ev (f s) (fun r => r.1 ≠ 0 ∧ Q r)) : Ev (it f N s) Q := ev_it I n hs hl N s 0 (Nat.zero_le n) (by omega) h0
/-! ===== ints that are small numbers ===== -/
theorem PP.nI_toInt {k : Nat} (h : k < 2147483648) : (nI k).toInt = k := by
  unfold nI
  rw [Int32.toInt_ofNat_of_lt (by simpa using h)]
theorem PP.nI_cl {k : Nat} (h : k < 2147483648) : (nI k).toNatClampNeg = k := by
  unfold Int32.toNatClampNeg
  rw [nI_toInt h]; rfl
theorem PP.nI_le {a b : Nat} (ha : a < 2147483648) (hb : b < 2147483648) : nI a ≤ nI b ↔ a ≤ b := by
  rw [Int32.le_iff_toInt_le, nI_toInt ha, nI_toInt hb]; omega
theorem PP.nI_lt {a b : Nat} (ha : a < 2147483648) (hb : b < 2147483648) : nI a < nI b ↔ a < b := by
  rw [Int32.lt_iff_toInt_lt, nI_toInt ha, nI_toInt hb]; omega
theorem PP.nI_eq {a b : Nat} (ha : a < 2147483648) (hb : b < 2147483648) : nI a = nI b ↔ a = b := by
  rw [← Int32.toInt_inj, nI_toInt ha, nI_toInt hb]; omega
theorem PP.nI_0 : nI 0 = 0 := rfl
theorem PP.nI_s (k : Nat) : nI k + 1 = nI (k + 1) := by
  unfold nI; rw [Int32.ofNat_add]; rfl
theorem PP.nI_add (a b : Nat) : nI a + nI b = nI (a + b) := by
  unfold nI; rw [Int32.ofNat_add]
theorem PP.nI_mul (a b : Nat) : nI a * nI b = nI (a * b) := by
  unfold nI; rw [Int32.ofNat_mul]
theorem PP.nI_nn {k : Nat} (h : k < 2147483648) : ¬ nI k < 0 := by
  rw [← nI_0, nI_lt h (by omega)]; omega
theorem PP.nI_n0 {k : Nat} (h : k < 2147483648) : 0 ≤ nI k := by
  rw [← nI_0, nI_le (by omega) h]; omega
theorem PP.nI_of {x : Int32} (h : 0 ≤ x) : ∃ k : Nat, k < 2147483648 ∧ x = nI k := by
  have h1 : 0 ≤ x.toInt := by rw [Int32.le_iff_toInt_le] at h; exact h
  have h2 : x.toInt < 2147483648 := by have := x.toInt_lt; simpa using this
  refine ⟨x.toInt.toNat, by omega, ?_⟩
  rw [← Int32.toInt_inj, nI_toInt (by omega)]; omega
theorem PP.nI_ofb {x : Int32} {n : Nat} (hn : n < 2147483648) (h : 0 ≤ x) (h2 : x < nI n) : ∃ k : Nat, k < n ∧ x = nI k := by
  obtain ⟨k, hk, rfl⟩ := nI_of h
  exact ⟨k, (nI_lt hk hn).mp h2, rfl⟩
theorem PP.upd_e (f : Nat → Int32) (k : Nat) (x : Int32) : upd f k x k = x := if_pos rfl
theorem PP.upd_n {f : Nat → Int32} {k j : Nat} {x : Int32} (h : j ≠ k) : upd f k x j = f j := if_neg h
theorem PP.wr_n {σ : Sg} {k j c : Nat} {v : Int32} (h : c ≠ k) : wr σ k j v c = σ c := if_neg h
theorem PP.wr_e {σ : Sg} {k j : Nat} {v : Int32} : wr σ k j v k = upd (σ k) j v := if_pos rfl
theorem PP.wrR_n {σ : Sg} {k c : Nat} {f : Nat → Int32} (h : c ≠ k) : wrR σ k f c = σ c := if_neg h
theorem PP.wrR_e {σ : Sg} {k : Nat} {f : Nat → Int32} : wrR σ k f k = f := if_pos rfl
theorem PP.wr_eq {σ : Sg} {k j c i : Nat} {v : Int32} : wr σ k j v c i = if c = k then (if i = j then v else σ c i) else σ c i := by
  unfold wr upd
  by_cases h : c = k
  · subst h; simp
  · simp [h]
theorem PP.wrR_eq {σ : Sg} {k c i : Nat} {f : Nat → Int32} : wrR σ k f c i = if c = k then f i else σ c i := by
  unfold wrR
  by_cases h : c = k
  · simp [h]
  · simp [h]
