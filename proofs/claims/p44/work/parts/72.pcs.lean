/-! the cost: the reference; both -/
theorem cu_pin_node {μ : ma_M} (Hm : rl_m μ) {n x : Int} (h : rl_pin μ n x) : μ 4 0 n = 105 ∨ 0 ≤ μ 28 0 n := by
  obtain ⟨_, _, _, _, hb, ho, _⟩ := Hm
  rcases h with ⟨b, k, b0, b1, k0, k1, e, _⟩ | ⟨o, o0, o1, e, _⟩
  · have bi := hb b b0 b1
    unfold rl_b1 at bi
    have := (bi.2.2.2.2.2.2.2.2.1 k k0 k1).2.2.2.1
    rw [e] at this; exact this
  · have := ho o o0 o1
    rw [e] at this; exact this
theorem cu_cost_congr {μ μ' : ma_M} {v : Int} (g : ∀ c ∈ ([3, 4, 10, 13, 21, 25, 27, 28, 32] : List Nat), μ' c = μ c) (H : cu_cost μ v) : cu_cost μ' v := by
  have e3 := g 3 (by decide)
  have e4 := g 4 (by decide)
  have e10 := g 10 (by decide)
  have e13 := g 13 (by decide)
  have e21 := g 21 (by decide)
  have e25 := g 25 (by decide)
  have e27 := g 27 (by decide)
  have e28 := g 28 (by decide)
  have e32 := g 32 (by decide)
  unfold cu_cost cu_len cu_S cu_src rl_pin at H ⊢
  simp only [e3, e4, e10, e13, e21, e25, e27, e28, e32]
  exact H
