theorem cu_pin_any {μ μ' : ma_M} (g : ∀ c ∈ ([3, 13, 21, 25, 27] : List Nat), μ' c = μ c) (n : Int) : (∃ x, rl_pin μ' n x) ↔ ∃ x, rl_pin μ n x := by
  have e3 := g 3 (by decide)
  have e13 := g 13 (by decide)
  have e21 := g 21 (by decide)
  have e25 := g 25 (by decide)
  have e27 := g 27 (by decide)
  unfold rl_pin
  rw [e3, e13, e21, e25, e27]
  refine ⟨fun ⟨x, hx⟩ => ?_, fun ⟨x, hx⟩ => ?_⟩
  · rcases hx with ⟨b, k, a1, a2, a3, a4, a5, _⟩ | ⟨o, a1, a2, a3, _⟩
    · exact ⟨_, .inl ⟨b, k, a1, a2, a3, a4, a5, rfl⟩⟩
    · exact ⟨_, .inr ⟨o, a1, a2, a3, rfl⟩⟩
  · rcases hx with ⟨b, k, a1, a2, a3, a4, a5, _⟩ | ⟨o, a1, a2, a3, _⟩
    · exact ⟨_, .inl ⟨b, k, a1, a2, a3, a4, a5, rfl⟩⟩
    · exact ⟨_, .inr ⟨o, a1, a2, a3, rfl⟩⟩
