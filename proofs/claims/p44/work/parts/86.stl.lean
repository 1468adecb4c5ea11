theorem ch_shl0 {j : Nat} (hj : j < 4) : ma_shl 0 (j : Int) = 0 := by
  have h : ∀ n : Fin 4, ma_shl 0 ((n.1 : Nat) : Int) = 0 := by decide
  exact h ⟨j, hj⟩
