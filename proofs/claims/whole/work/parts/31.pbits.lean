/-! ===== sets of farms as ints ===== -/
abbrev PP.bit (k : Nat) : Int32 := (1 : Int32) <<< (nI k &&& 31)
abbrev PP.hasB (s : Int32) (k : Nat) : Prop := ((s >>> (nI k &&& 31)) &&& 1) = 1
theorem PP.sh_k : ∀ k : Nat, k < 32 → ((nI k &&& 31).toBitVec.smod 32) = BitVec.ofNat 32 k := by decide
theorem PP.one_iff (x : Int32) : (x &&& 1) = 1 ↔ x.toBitVec.getLsbD 0 = true := by
  rw [← Int32.toBitVec_inj]
  constructor
  · intro h
    have := congrArg (fun b => b.getLsbD 0) h
    simpa using this
  · intro h
    apply BitVec.eq_of_getLsbD_eq
    intro i hi
    by_cases h0 : i = 0
    · subst h0; simpa using h
    · simp [h0]
theorem PP.zero_iff (x : Int32) : (x &&& 1) = 0 ↔ ¬ (x &&& 1) = 1 := by
  have h : x.toBitVec &&& 1#32 = 0#32 ∨ x.toBitVec &&& 1#32 = 1#32 := by
    by_cases h : x.toBitVec.getLsbD 0 = true
    · right
      apply BitVec.eq_of_getLsbD_eq
      intro i hi
      by_cases h0 : i = 0
      · subst h0; simpa using h
      · simp [h0]
    · left
      apply BitVec.eq_of_getLsbD_eq
      intro i hi
      by_cases h0 : i = 0
      · subst h0; simpa using h
      · simp [h0]
  have e0 : (x &&& 1) = 0 ↔ x.toBitVec &&& 1#32 = 0#32 := by rw [← Int32.toBitVec_inj]; rfl
  have e1 : (x &&& 1) = 1 ↔ x.toBitVec &&& 1#32 = 1#32 := by rw [← Int32.toBitVec_inj]; rfl
  rw [e0, e1]
  constructor
  · intro a b; rw [a] at b; exact absurd b (by decide)
  · intro a; exact h.resolve_right a
theorem PP.hasB_l {s : Int32} {k : Nat} (hk : k < 32) : hasB s k ↔ s.toBitVec.getLsbD k = true := by
  unfold hasB
  rw [one_iff, Int32.toBitVec_shiftRight, sh_k k hk]
  simp only [BitVec.sshiftRight', BitVec.toNat_ofNat, Nat.mod_eq_of_lt (show k < 2 ^ 32 by omega), BitVec.getLsbD_sshiftRight]
  simp [hk]
theorem PP.nhasB {s : Int32} {k : Nat} : ((s >>> (nI k &&& 31)) &&& 1) = 0 ↔ ¬ hasB s k := zero_iff _
theorem PP.bit_l {i k : Nat} (hi : i < 32) (hk : k < 32) : (bit i).toBitVec.getLsbD k = decide (i = k) := by
  revert k; revert i; decide +kernel
theorem PP.hasB_bit {i k : Nat} (hi : i < 32) (hk : k < 32) : hasB (bit i) k ↔ i = k := by rw [hasB_l hk, bit_l hi hk]; simp
theorem PP.hasB_or {a b : Int32} {k : Nat} (hk : k < 32) : hasB (a ||| b) k ↔ hasB a k ∨ hasB b k := by rw [hasB_l hk, hasB_l hk, hasB_l hk]; simp
theorem PP.hasB_and {a b : Int32} {k : Nat} (hk : k < 32) : hasB (a &&& b) k ↔ hasB a k ∧ hasB b k := by rw [hasB_l hk, hasB_l hk, hasB_l hk]; simp
theorem PP.hasB_xor {a b : Int32} {k : Nat} (hk : k < 32) : hasB (a ^^^ b) k ↔ ¬ (hasB a k ↔ hasB b k) := by
  rw [hasB_l hk, hasB_l hk, hasB_l hk]; rw [Int32.toBitVec_xor, BitVec.getLsbD_xor]
  cases a.toBitVec.getLsbD k <;> cases b.toBitVec.getLsbD k <;> decide
theorem PP.hasB_not {a : Int32} {k : Nat} (hk : k < 32) : hasB (~~~ a) k ↔ ¬ hasB a k := by rw [hasB_l hk, hasB_l hk]; simp [hk]
theorem PP.hasB_0 {k : Nat} (hk : k < 32) : ¬ hasB 0 k := by rw [hasB_l hk]; simp
theorem PP.hasB_m1 {k : Nat} (hk : k < 32) : hasB (-1) k := by
  rw [hasB_l hk]; revert k; decide
theorem PP.ext_B {a b : Int32} (h : ∀ k, k < 32 → (hasB a k ↔ hasB b k)) : a = b := by
  rw [← Int32.toBitVec_inj]
  apply BitVec.eq_of_getLsbD_eq
  intro i hi
  have := h i hi
  rw [hasB_l hi, hasB_l hi] at this
  cases h1 : a.toBitVec.getLsbD i <;> cases h2 : b.toBitVec.getLsbD i <;> simp_all
/-- a set of farms below n -/
def PP.sub (n : Nat) (a : Int32) : Prop := ∀ k, k < 32 → n ≤ k → ¬ hasB a k
theorem PP.ext_S {n : Nat} {a b : Int32} (ha : sub n a) (hb : sub n b) (h : ∀ k, k < n → k < 32 → (hasB a k ↔ hasB b k)) : a = b :=
  ext_B fun k hk => if hn : k < n then h k hn hk else ⟨fun x => absurd x (ha k hk (by omega)), fun x => absurd x (hb k hk (by omega))⟩
theorem PP.eq0_iff {a : Int32} : a = 0 ↔ ∀ k, k < 32 → ¬ hasB a k := ⟨fun h k hk => h ▸ hasB_0 hk, fun h => ext_B fun k hk => ⟨fun x => absurd x (h k hk), fun x => absurd x (hasB_0 hk)⟩⟩
def PP.mk (p : Nat → Bool) : Nat → Int32
  | 0 => 0
  | n + 1 => if p n = true then mk p n ||| bit n else mk p n
theorem PP.hasB_mk {p : Nat → Bool} : ∀ {n k : Nat}, n ≤ 32 → k < 32 → (hasB (mk p n) k ↔ k < n ∧ p k = true)
  | 0, k, _, hk => ⟨fun h => absurd h (hasB_0 hk), fun h => absurd h.1 (by omega)⟩
  | n + 1, k, hn, hk => by
    unfold mk
    by_cases hp : p n = true
    · rw [if_pos hp, hasB_or hk, hasB_mk (by omega) hk, hasB_bit (by omega) hk]
      constructor
      · rintro (⟨h, h'⟩ | rfl)
        · exact ⟨by omega, h'⟩
        · exact ⟨by omega, hp⟩
      · rintro ⟨h, h'⟩
        by_cases e : n = k
        · exact Or.inr e
        · exact Or.inl ⟨by omega, h'⟩
    · rw [if_neg hp, hasB_mk (by omega) hk]
      constructor
      · rintro ⟨h, h'⟩; exact ⟨by omega, h'⟩
      · rintro ⟨h, h'⟩
        exact ⟨by have : k ≠ n := fun e => hp (e ▸ h'); omega, h'⟩
theorem PP.mk_s (p : Nat → Bool) (n : Nat) : mk p (n + 1) = if p n = true then mk p n ||| bit n else mk p n := rfl
theorem PP.mk_cg {p q : Nat → Bool} : ∀ {n : Nat}, (∀ k, k < n → p k = q k) → mk p n = mk q n
  | 0, _ => rfl
  | n + 1, h => by unfold mk; rw [h n (by omega), mk_cg (fun k hk => h k (by omega))]
theorem PP.sub_mk {p : Nat → Bool} {n : Nat} (hn : n ≤ 32) : sub n (mk p n) := fun k hk hnk h => by
  have := (hasB_mk hn hk).mp h; omega
/-- below nine farms: 512 sets -/
theorem PP.sub_v {a : Int32} (h : sub 9 a) : ∃ k : Nat, k < 512 ∧ a = nI k := by
  have hb : a.toBitVec < 512#32 := by
    rw [BitVec.lt_def]
    apply Nat.lt_pow_two_of_testBit (n := 9)
    intro i hi
    by_cases h32 : i < 32
    · have := h i h32 hi
      rw [hasB_l h32] at this
      simpa [BitVec.getLsbD] using this
    · exact Nat.testBit_lt_two_pow (Nat.lt_of_lt_of_le a.toBitVec.isLt (Nat.pow_le_pow_right (by omega) (by omega)))
  refine ⟨a.toBitVec.toNat, by simpa [BitVec.lt_def] using hb, ?_⟩
  unfold nI
  rw [← Int32.toBitVec_inj]
  apply BitVec.eq_of_toNat_eq
  simp
