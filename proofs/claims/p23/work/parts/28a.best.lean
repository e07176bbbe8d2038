/-! the best pace makes no more bits than any other -/
theorem bp_ok {p b n : Nat} {g : Nat → Nat} (hp : 1 ≤ p ∧ p ≤ 64) : ∃ q, (bp (fun q => bE q b g n) 63).1 = q ∧ (1 ≤ q ∧ q ≤ 64) ∧ bE q b g n ≤ bE p b g n := by
  obtain ⟨h1, h2, h3, h4⟩ := bp_min (F := fun q => bE q b g n) 63
  refine ⟨_, rfl, ⟨h2, h3⟩, ?_⟩
  have h5 := h4 p hp.1 hp.2
  exact Nat.le_trans (Nat.le_of_eq h1) h5
