/-! ===== all together, and the start ===== -/
/-- the class's ints when it is new; the reference's -/
def sg0 : Sg := fun c => if c = 2 then (fun j => if j = 2 then -1 else 0) else if c = 3 then (fun j => if j = 6 then 60 else if j = 7 then 3 else 0) else if c = 12 then (fun j => if j = 6 then 60 else if j = 7 then 3 else 0) else fun _ => 0
def tg0 : Sg := fun c => if c = 0 then (fun j => if j = 22 then -1 else if j = 32 then -1 else 0) else if c = 3 then upd (upd (fun _ => 0) 1 (60 : Int32)) 2 (3 : Int32) else fun _ => 0
def PP.L0 : Sg := fun c i => if c = 0 then (if i = 1 then 60 else if i = 2 then 3 else 0) else 0
def PP.a0 : Ab := (0, L0, (s0 (fun _ => 0), 0, (fun _ => s0 (fun _ => 0)), 0, (fun _ _ => 0), fun _ => 0), none, 0, (fun _ => 0), -1)
theorem PP.z_cl : (0 : Int32).toNatClampNeg = 0 := by decide
theorem PP.a0_ok : OKa a0 := by
  refine ⟨⟨by decide, rfl, ⟨by show (1 : Int32) ≤ 60; decide, by show (60 : Int32) ≤ 99; decide⟩, ⟨by show (0 : Int32) ≤ 3; decide, by show (3 : Int32) ≤ 9; decide⟩, ⟨by show (0 : Int32) ≤ 0; decide, by show (0 : Int32) ≤ 8; decide⟩, ⟨by show (0 : Int32) ≤ 0; decide, ?_, fun k hk => ?_⟩, fun i hi => absurd hi (Nat.not_lt_zero i), fun i hi => ?_, fun i j hi => absurd hi (Nat.not_lt_zero i)⟩, ⟨⟨s0_ok (fun i hi => absurd hi (Nat.not_lt_zero i)), by show (0 : Int32) ≤ 999; decide⟩, ⟨Nat.zero_le _, fun j hj => absurd hj (Nat.not_lt_zero j)⟩, Nat.zero_le _, fun j hj => absurd hj (Nat.not_lt_zero j)⟩, fun B e => (nomatch e), Nat.zero_le _, rfl, fun i hi => absurd hi (Nat.not_lt_zero i)⟩
  · show (0 : Int32).toNatClampNeg ≤ 700; rw [z_cl]; omega
  · have hk : k < (0 : Int32).toNatClampNeg := hk
    rw [z_cl] at hk; exact absurd hk (Nat.not_lt_zero k)
  · have hi : i < (0 : Int32).toNatClampNeg := hi
    rw [z_cl] at hi; exact absurd hi (Nat.not_lt_zero i)
theorem PP.a0_c : RlC a0 sg0 := by
  refine ⟨⟨by decide, rfl, rfl, rfl, rfl, rfl, fun i hi => absurd hi (Nat.not_lt_zero i), fun i hi => ?_, fun i hi => ?_⟩, ⟨⟨rfl, rfl, fun i hi => absurd hi (Nat.not_lt_zero i), fun i _ _ => rfl⟩, ⟨rfl, 0, by decide, rfl, fun j hj => absurd hj (Nat.not_lt_zero j)⟩, ⟨rfl, fun j hj => absurd hj (Nat.not_lt_zero j)⟩, fun j _ => rfl⟩, ⟨fun i hi => absurd hi (Nat.not_lt_zero i), fun m i _ hi => absurd hi (Nat.not_lt_zero i)⟩, rfl, rfl, fun i hi => absurd hi (Nat.not_lt_zero i), rfl⟩
  · have hi : i < (0 : Int32).toNatClampNeg := hi
    rw [z_cl] at hi; exact absurd hi (Nat.not_lt_zero i)
  · have hi : i < (0 : Int32).toNatClampNeg := hi
    rw [z_cl] at hi; exact absurd hi (Nat.not_lt_zero i)
theorem PP.a0_m : RlM a0 tg0 := by
  refine ⟨⟨by decide, rfl, rfl, rfl, rfl, rfl, fun i hi => absurd hi (Nat.not_lt_zero i), fun i hi => ?_, fun i hi => ?_⟩, ⟨⟨rfl, rfl, fun i hi => absurd hi (Nat.not_lt_zero i)⟩, rfl, fun j hj => absurd hj (Nat.not_lt_zero j), rfl, fun j hj => absurd hj (Nat.not_lt_zero j), fun j _ => rfl⟩, rfl, rfl, rfl, fun i hi => absurd hi (Nat.not_lt_zero i), rfl⟩
  · have hi : i < (0 : Int32).toNatClampNeg := hi
    rw [z_cl] at hi; exact absurd hi (Nat.not_lt_zero i)
  · have hi : i < (0 : Int32).toNatClampNeg := hi
    rw [z_cl] at hi; exact absurd hi (Nat.not_lt_zero i)
theorem PP.rl0 : Rl sg0 tg0 := ⟨a0, a0_ok, a0_c, a0_m⟩
theorem PP.ok_all {N : Nat} (hN : 5000 < N) : OkAll N Rl := ⟨ok_feed hN, ok_upland hN, ok_fault hN, ok_count hN, ok_farm hN, ok_ticks hN, ok_begin hN, ok_sleep hN, ok_hat hN, ok_hush hN, ok_undo hN, ok_nodding hN, ok_then hN, ok_first hN, ok_still hN, ok_loudest hN, ok_oftenest hN, ok_reaches hN, ok_reached hN, ok_through hN, ok_best hN, ok_toBegin hN, ok_way hN, ok_toHat hN, ok_between hN, ok_line hN, ok_hidden hN, ok_crowd hN, ok_see hN, ok_begun hN, ok_look hN, ok_forget hN, ok_byMist hN, ok_game hN, ok_years hN, ok_image hN, ok_restore hN⟩
theorem PP.pure_ok : ∃ (N : Nat) (R : Sg → Sg → Prop), OkAll N R ∧ R sg0 tg0 := ⟨5001, Rl, ok_all (by omega), rl0⟩
