/-- a node more -/
theorem rl_c_add {μ μ3 : ma_M} (H : rl_c μ) (hn : μ 3 0 10 < 48) (e10 : μ3 3 0 10 = μ 3 0 10 + 1) (e13 : μ3 3 0 13 = μ 3 0 13) (f8 : μ3 3 0 10 = μ3 3 0 10) (f9 : μ3 3 0 11 = μ3 3 0 11) (f10 : μ3 3 0 12 = μ3 3 0 12) (f11 : μ3 3 0 13 = μ 3 0 13)
    (h13 : ∀ j : Int, μ3 13 0 j = μ 13 0 j) (h76 : ∀ j : Int, μ3 13 0 j = μ 13 0 j) (ha : ∀ k ∈ ([4, 5, 6, 7, 8, 9, 10, 70, 71, 72, 73, 74, 75, 77] : List Nat), ∀ i : Int, i ≠ μ 3 0 10 → μ3 k 0 i = μ k 0 i)
    (hI : (μ3 3 0 11 = μ 3 0 11 ∧ μ3 4 0 (μ 3 0 10) ≠ 105 ∧ ∀ j : Int, μ3 11 0 j = μ 11 0 j) ∨ (μ 3 0 11 < 6 ∧ μ3 3 0 11 = μ 3 0 11 + 1 ∧ μ3 4 0 (μ 3 0 10) = 105 ∧ μ3 10 0 (μ 3 0 10) = μ 3 0 11 ∧ ∀ j : Int, μ3 11 0 j = if j = μ 3 0 11 then μ 3 0 10 else μ 11 0 j))
    (hR : (μ3 3 0 12 = μ 3 0 12 ∧ μ3 4 0 (μ 3 0 10) ≠ 114 ∧ ∀ j : Int, μ3 12 0 j = μ 12 0 j) ∨ (μ 3 0 12 < 8 ∧ μ3 3 0 12 = μ 3 0 12 + 1 ∧ μ3 4 0 (μ 3 0 10) = 114 ∧ ∀ j : Int, μ3 12 0 j = if j = μ 3 0 12 then μ 3 0 10 else μ 12 0 j))
    (hN : rl_n μ3 (μ 3 0 10)) : rl_c μ3 := by
  have a4 := ha 4 (by decide)
  have a5 := ha 5 (by decide)
  have a6 := ha 6 (by decide)
  have a7 := ha 7 (by decide)
  have a8 := ha 8 (by decide)
  have a9 := ha 9 (by decide)
  have a10 := ha 10 (by decide)
  have a70 := ha 70 (by decide)
  have a71 := ha 71 (by decide)
  have a72 := ha 72 (by decide)
  have a73 := ha 73 (by decide)
  have a74 := ha 74 (by decide)
  have a75 := ha 75 (by decide)
  have a77 := ha 77 (by decide)
  unfold rl_c at H
  obtain ⟨n0, n1, i0, i1, r0, r1, o0, o1, m8, m9, m10, m11, Hn, Hi, Hr, Hr2, Hr3, Ho⟩ := H
  refine ⟨by omega, by omega, by omega, by omega, by omega, by omega, by omega, by omega, f8, f9, f10, by omega, ?_, ?_, ?_, ?_, ?_, ?_⟩
  · intro i h0 h1
    by_cases hi : i = μ 3 0 10
    · rw [hi]; exact hN
    · have h := Hn i h0 (by omega)
      unfold rl_n at h ⊢
      rw [a4 i hi, a5 i hi, a6 i hi, a7 i hi, a8 i hi, a9 i hi, a10 i hi]
      obtain ⟨b1, b2, b3, b4, b5⟩ := h
      refine ⟨b1, b2, fun z => ?_, fun z => ?_, b5⟩
      · obtain ⟨c1, c2, c3, c4⟩ := b3 z
        rcases hI with ⟨d1, d2, d3⟩ | ⟨d0, d1, d2, d3, d4⟩
        · exact ⟨c1, c2, by omega, by rw [d3]; exact c4⟩
        · exact ⟨c1, c2, by omega, by rw [d4, if_neg (by omega)]; exact c4⟩
      · obtain ⟨c1, c2, c3, c4⟩ := b4 z
        exact ⟨c1, c2, by omega, c4⟩
  · intro j h0 h1
    rcases hI with ⟨d1, d2, d3⟩ | ⟨d0, d1, d2, d3, d4⟩
    · obtain ⟨b1, b2, b3, b4⟩ := Hi j h0 (by omega)
      rw [d3, a4 _ (by omega), a10 _ (by omega)]
      exact ⟨b1, by omega, b3, b4⟩
    · by_cases hj : j = μ 3 0 11
      · rw [d4, if_pos hj]
        exact ⟨n0, by omega, d2, by rw [d3, hj]⟩
      · obtain ⟨b1, b2, b3, b4⟩ := Hi j h0 (by omega)
        rw [d4, if_neg hj, a4 _ (by omega), a10 _ (by omega)]
        exact ⟨b1, by omega, b3, b4⟩
  · intro j h0 h1
    rcases hR with ⟨d1, d2, d3⟩ | ⟨d0, d1, d2, d3⟩
    · obtain ⟨b1, b2, b3⟩ := Hr j h0 (by omega)
      rw [d3, a4 _ (by omega)]
      exact ⟨b1, by omega, b3⟩
    · by_cases hj : j = μ 3 0 12
      · rw [d3, if_pos hj]
        exact ⟨n0, by omega, d2⟩
      · obtain ⟨b1, b2, b3⟩ := Hr j h0 (by omega)
        rw [d3, if_neg hj, a4 _ (by omega)]
        exact ⟨b1, by omega, b3⟩
  · intro j h0 h1
    rcases hR with ⟨d1, d2, d3⟩ | ⟨d0, d1, d2, d3⟩
    · rw [d3, d3]
      exact Hr2 j h0 (by omega)
    · rw [d3, d3, if_neg (by omega)]
      by_cases hj : j + 1 = μ 3 0 12
      · rw [if_pos hj]
        exact (Hr j h0 (by omega)).2.1
      · rw [if_neg hj]
        exact Hr2 j h0 (by omega)
  · intro i h0 h1 h2
    rcases hR with ⟨d1, d2, d3⟩ | ⟨d0, d1, d2, d3⟩
    · by_cases hi : i = μ 3 0 10
      · rw [hi] at h2
        exact absurd h2 d2
      · rw [a4 i hi] at h2
        obtain ⟨j, c1, c2, c3⟩ := Hr3 i h0 (by omega) h2
        exact ⟨j, c1, by omega, by rw [d3]; exact c3⟩
    · by_cases hi : i = μ 3 0 10
      · exact ⟨μ 3 0 12, r0, by omega, by rw [d3, if_pos rfl, hi]⟩
      · rw [a4 i hi] at h2
        obtain ⟨j, c1, c2, c3⟩ := Hr3 i h0 (by omega) h2
        exact ⟨j, c1, by omega, by rw [d3, if_neg (by omega)]; exact c3⟩
  · intro j h0 h1
    obtain ⟨b1, b2, b3⟩ := Ho j h0 (by omega)
    rw [h13]
    exact ⟨b1, b2, by omega⟩
