/-- the land that was told -/
def PP.newL (m : Nat) (σ τ : Sg) : Sg := fun c i => if c = 0 then (if i = 0 then nI m else if i = 1 then σ 3 6 else if i = 2 then σ 3 7 else if i = 3 then σ 3 8 else σ 9 0) else if c = 1 then σ 4 i else if c = 2 then σ 5 i else if c = 3 then σ 7 i else if c = 4 then σ 8 i else if c = 5 then τ 4 (9 + i) else σ 10 i
theorem PP.newL_ok {m k c d : Nat} {σ τ : Sg} (hD : DF m σ τ) (h6 : 1 ≤ σ 3 6 ∧ σ 3 6 ≤ 99) (h7 : 0 ≤ σ 3 7 ∧ σ 3 7 ≤ 9) (h8 : σ 3 8 = nI k) (hM : DM k σ τ) (hC : CR c d σ τ) : LandOK m (newL m σ τ) := by
  obtain ⟨d1, d2, d3, d4, d5, d6⟩ := hD
  have hk := hM.1
  have hc := hC.2.2.1.1
  have e3 : newL m σ τ 0 3 = nI k := h8
  have e4 : newL m σ τ 0 4 = nI c := hC.1
  refine ⟨d3, rfl, h6, h7, ⟨?_, ?_⟩, ⟨?_, ?_⟩, fun i hi => ⟨⟨(d4 i hi).1.2.1, (d4 i hi).1.2.2⟩, ⟨(d4 i hi).2.1.2.1, (d4 i hi).2.1.2.2⟩, ⟨(d4 i hi).2.2.2.1.2.1, (d4 i hi).2.2.2.1.2.2⟩, (d4 i hi).2.2.2.2.2⟩, fun i hi => ?_, fun i j hi hj he => d5 i j hi hj he⟩
  · rw [e3]; exact nI_n0 (by omega)
  · rw [e3, show (8 : Int32) = nI 8 from rfl, nI_le (by omega) (by omega)]; exact hk
  · rw [e4]; exact nI_n0 (by omega)
  · rw [e4, nI_cl (by omega)]; exact hC.2.2.1
  · rw [e3, nI_cl (by omega)] at hi
    exact (hM.2 i hi).2
theorem PP.newL_lc {m k c d : Nat} {σ τ σ' : Sg} (hD : DF m σ τ) (h8 : σ 3 8 = nI k) (hM : DM k σ τ) (hC : CR c d σ τ) (a0 : σ' 12 0 = σ 3 0) (a5 : σ' 12 5 = σ 3 5) (a6 : σ' 12 6 = σ 3 6) (a7 : σ' 12 7 = σ 3 7) (a8 : σ' 12 8 = σ 3 8) (af : ∀ i, i < 9 → σ' 13 i = σ 4 i ∧ σ' 14 i = σ 5 i ∧ σ' 15 i = σ 6 i ∧ σ' 16 i = σ 7 i) (am : ∀ i, i < 8 → σ' 17 i = σ 8 i) (ac : σ' 18 0 = σ 9 0) (ar : ∀ i, i < 700 → σ' 19 i = σ 10 i) : LC m (newL m σ τ) σ' := by
  obtain ⟨d1, d2, d3, d4, d5, d6⟩ := hD
  have hk := hM.1
  have hc := hC.2.2.1.1
  have e3 : newL m σ τ 0 3 = nI k := h8
  have e4 : newL m σ τ 0 4 = nI c := hC.1
  refine ⟨d3, a0.trans d1, a6, a7, a8, ac, fun i hi => ⟨(af i (by omega)).1, (af i (by omega)).2.1, (af i (by omega)).2.2.2, ?_⟩, fun i hi => ?_, fun i hi => ?_⟩
  · rw [a5]; exact (d4 i hi).2.2.2.2.1
  · rw [e3, nI_cl (by omega)] at hi
    exact am i (by omega)
  · rw [e4, nI_cl (by omega)] at hi
    exact ar i (by omega)
