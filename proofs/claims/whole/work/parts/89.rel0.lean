/-! the start: the two objects agree -/
theorem rel00 : Rel g00 := by
  refine ⟨⟨fun _ => 0, 0, 0, 4, 100, 0, fun _ => 0, fun _ => 0, ⟨rfl, fun i hi => absurd hi (by omega), fun i hi => absurd hi (by omega), by omega, rfl, rfl, rfl, fun p hp => absurd hp (by omega)⟩, ⟨rfl, fun i hi => absurd hi (by omega), fun i hi => absurd hi (by omega), by omega⟩, ⟨rfl, rfl, by decide, rfl, rfl, by omega, by omega, rfl, rfl, by omega, by omega⟩, ⟨rfl, rfl, by omega, fun j hj => absurd hj (by omega)⟩, fun j hj => ?_⟩, ⟨0, 0, by omega, by omega, rfl, rfl, rfl, rfl, fun i hi => absurd hi (by omega), fun i hi => absurd hi (by omega)⟩, rfl, fun s hs => Or.inl ?_⟩
  · have hj0 : j = 0 := by omega
    rw [hj0]
    exact ⟨ly_0.symm, fun w _ hne => absurd rfl hne⟩
  · rcases (show s = 0 ∨ s = 1 ∨ s = 2 ∨ s = 3 by omega) with h | h | h | h <;> subst h <;> exact ⟨rfl, rfl⟩
