/-! THE FIRST MEMORY is in the relation -/
theorem rel_m0 : Rel m0 := by
  refine ⟨Or.inl ⟨rfl, rfl⟩, ⟨Or.inl ⟨rfl, rfl, rfl, rfl⟩, Or.inl ⟨rfl, rfl, rfl, rfl⟩⟩, ⟨0, by decide, rfl, rfl, fun i hi => absurd hi (by omega)⟩, ⟨rfl, rfl⟩, ?_, ?_, ?_, ⟨0, 0, by decide, by decide, rfl, rfl, rfl, fun i hi => absurd hi (by omega)⟩⟩
  · unfold ToldOK
    decide +kernel
  · show SetupAt m0 71
    unfold SetupAt SetupOK
    decide +kernel
  · unfold StateAt RelT scR
    decide +kernel
