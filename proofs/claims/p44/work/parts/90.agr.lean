/-! agrees -/
theorem ag_and {s : Int} (h : s = 0 ∨ s = 1) : ma_and s 0 = 0 ∧ ma_and s 1 = s := by
  rcases h with rfl | rfl <;> decide
/-- an output's value on the chip; whether the outputs agree, the registers -/
def ag_v (μ : ma_M) (o : Int) : Int := ch_val (μ 61 0) (μ 62 0) (ch_T (μ 60) (μ 61 0) (μ 62 0) 40) (ch_end (μ 60) (μ 60 13 o))
def ag_g (μ : ma_M) (v : Int → Int) : Prop := (∀ o : Int, 0 ≤ o → o < μ 3 0 13 → v (μ 13 0 o) = ag_v μ o) ∧ (∀ i : Int, 0 ≤ i → i < μ 3 0 10 → μ 4 0 i = 114 → μ 67 0 i = μ 62 0 (μ 32 0 (μ 28 0 i)))
