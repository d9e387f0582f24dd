def S0 : Mem := fun a f => if a = 8 ∧ f = 3 then 1 else if a = 8 ∧ (f = 6 ∨ f = 7) then -1 else 0
theorem row_0 : ∀ j, j < 262 → h0 103 j = rowOf S0 j := by decide +kernel
theorem sky_0 : SkyN h0 1 S0 := by
  intro a f v
  have d1 : ∀ a, a < 8 → ∀ f, f < 8 → h0 (cpl 1 a f).1 (cpl 1 a f).2 = S0 a f := by decide +kernel
  have d2 : ∀ f, f < 6 → h0 (cpl 1 8 f).1 (cpl 1 8 f).2 = S0 8 f := by decide +kernel
  have d3 : ∀ f, f < 8 → h0 (cpl 1 9 f).1 (cpl 1 9 f).2 = S0 9 f := by decide +kernel
  have d4 : ∀ f, f < 12 → h0 (cpl 1 10 f).1 (cpl 1 10 f).2 = S0 10 f := by decide +kernel
  have d5 : ∀ f, f < 50 → h0 (cpl 1 11 f).1 (cpl 1 11 f).2 = S0 11 f := by decide +kernel
  have d6 : ∀ f, f < 20 → h0 (cpl 1 12 f).1 (cpl 1 12 f).2 = S0 12 f := by decide +kernel
  rcases v with ⟨ha, hf⟩ | ⟨rfl, hf⟩ | ⟨rfl, hf⟩ | ⟨rfl, hf⟩ | ⟨rfl, hf⟩ | ⟨rfl, hf⟩
  · exact d1 a ha f hf
  · exact d2 f hf
  · exact d3 f hf
  · exact d4 f hf
  · exact d5 f hf
  · exact d6 f hf
theorem wf_0 : WF S0 := by
  have z : ∀ a f, a ≠ 8 → S0 a f = 0 := fun a f h => by simp [S0, h]
  refine ⟨⟨by decide, by decide, by decide, fun j _ => ?_, fun j _ => ?_, fun i hi => ?_⟩, by decide, by decide, by decide, fun j _ => ?_⟩
  · rw [z 9 j (by omega)]; decide
  · rw [z 10 j (by omega)]; decide
  · unfold WC
    simp only [z i _ (show i ≠ 8 by omega)]
    decide
  · rw [z 11 j (by omega)]; decide
theorem rr_0 : RR h0 h0 0 := by
  refine ⟨⟨S0, ⟨sky_0, Or.inl ⟨rfl, by decide⟩, Or.inl ⟨rfl, by decide⟩⟩, row_0, wf_0⟩, ⟨S0, 0, by omega, rfl, rfl, rfl, fun q => absurd rfl q⟩, fun j hj => rfl, fun s hs => ?_, 0, by omega, rfl, rfl, fun j hj => by omega⟩
  rcases (show s = 0 ∨ s = 1 ∨ s = 2 ∨ s = 3 by omega) with rfl | rfl | rfl | rfl
  · exact ⟨rfl, rfl, Or.inl rfl, by decide, by decide, fun _ _ => rfl⟩
  · exact ⟨rfl, rfl, Or.inl rfl, by decide, by decide, fun _ _ => rfl⟩
  · exact ⟨rfl, rfl, Or.inl rfl, by decide, by decide, fun _ _ => rfl⟩
  · exact ⟨rfl, rfl, Or.inl rfl, by decide, by decide, fun _ _ => rfl⟩
