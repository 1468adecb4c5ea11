/-! map -/
theorem cu_P1_congr {μ μ' m m' : ma_M} {i : Int} (g : ∀ c ∈ ([3, 4, 5, 6, 7, 12, 13] : List Nat), μ' c = μ c) (h : ∀ c ∈ ([4, 5, 6, 22, 23, 24, 25, 27, 28] : List Nat), m' c = m c) (H : cu_P1 μ m i) : cu_P1 μ' m' i := by
  have e3 := g 3 (by decide)
  have e4 := g 4 (by decide)
  have e5 := g 5 (by decide)
  have e6 := g 6 (by decide)
  have e7 := g 7 (by decide)
  have e12 := g 12 (by decide)
  have e13 := g 13 (by decide)
  have f4 := h 4 (by decide)
  have f5 := h 5 (by decide)
  have f6 := h 6 (by decide)
  have f22 := h 22 (by decide)
  have f23 := h 23 (by decide)
  have f24 := h 24 (by decide)
  have f25 := h 25 (by decide)
  have f27 := h 27 (by decide)
  have f28 := h 28 (by decide)
  unfold cu_P1 cu_bG cu_bR cu_need cu_root cu_own at H ⊢
  simp only [e3, e4, e5, e6, e7, e12, e13, f4, f5, f6, f22, f23, f24, f25, f27, f28]
  exact H
theorem cu_P2_congr {μ μ' m m' : ma_M} {u : Int → Int} {i : Nat} (g : ∀ c ∈ ([3, 4, 5, 6] : List Nat), μ' c = μ c) (h : ∀ c ∈ ([4, 5, 6, 22, 23, 24, 25, 27, 28] : List Nat), m' c = m c) (H : cu_P2 μ m u i) : cu_P2 μ' m' u i := by
  have e3 := g 3 (by decide)
  have e4 := g 4 (by decide)
  have e5 := g 5 (by decide)
  have e6 := g 6 (by decide)
  have f4 := h 4 (by decide)
  have f5 := h 5 (by decide)
  have f6 := h 6 (by decide)
  have f22 := h 22 (by decide)
  have f23 := h 23 (by decide)
  have f24 := h 24 (by decide)
  have f25 := h 25 (by decide)
  have f27 := h 27 (by decide)
  have f28 := h 28 (by decide)
  unfold cu_P2 cu_bG cu_own at H ⊢
  simp only [e3, e4, e5, e6, f4, f5, f6, f22, f23, f24, f25, f27, f28]
  exact H
theorem cu_P3_congr {μ μ' m m' : ma_M} (g : ∀ c ∈ ([3, 4, 5, 6, 7, 13] : List Nat), μ' c = μ c) (h : m' 28 = m 28) (H : cu_P3 μ m) : cu_P3 μ' m' := by
  have e3 := g 3 (by decide)
  have e4 := g 4 (by decide)
  have e5 := g 5 (by decide)
  have e6 := g 6 (by decide)
  have e7 := g 7 (by decide)
  have e13 := g 13 (by decide)
  unfold cu_P3 cu_need cu_root cu_own at H ⊢
  simp only [e3, e4, e5, e6, e7, e13, h]
  exact H
theorem cu_blk_congr {μ μ' : ma_M} {u : Int → Int} (g : ∀ c ∈ ([3, 4, 5, 6, 7, 13] : List Nat), μ' c = μ c) (H : cu_blk μ u) : cu_blk μ' u := by
  have e3 := g 3 (by decide)
  have e4 := g 4 (by decide)
  have e5 := g 5 (by decide)
  have e6 := g 6 (by decide)
  have e7 := g 7 (by decide)
  have e13 := g 13 (by decide)
  unfold cu_blk cu_need cu_fed cu_root cu_own at H ⊢
  simp only [e3, e4, e5, e6, e7, e13]
  exact H
theorem cu_row29_congr {μ μ' m m' : ma_M} (g : ∀ c ∈ ([3, 4, 5, 6, 7, 13] : List Nat), μ' c = μ c) (h : m' 29 = m 29) (H : cu_row29 μ m) : cu_row29 μ' m' := by
  have e3 := g 3 (by decide)
  have e4 := g 4 (by decide)
  have e5 := g 5 (by decide)
  have e6 := g 6 (by decide)
  have e7 := g 7 (by decide)
  have e13 := g 13 (by decide)
  unfold cu_row29 cu_need cu_root cu_own at H ⊢
  simp only [e3, e4, e5, e6, e7, e13, h]
  exact H
theorem cu_blk_uniq {μ : ma_M} {u v : Int → Int} (hu : cu_blk μ u) (hv : cu_blk μ v) (N0 : 0 ≤ μ 3 0 10) : ma_sum u (μ 3 0 10).toNat = ma_sum v (μ 3 0 10).toNat := by
  refine ma_sum_cong _ (fun i i0 i1 => ?_)
  have a := hu i.toNat (by omega)
  have b := hv i.toNat (by omega)
  rw [show ((i.toNat : Nat) : Int) = i from by omega] at a b
  by_cases h : cu_need μ i.toNat ∧ ¬ cu_fed μ i.toNat
  · rw [a.2.2 h, b.2.2 h]
  · rcases a.1 with x | x
    · rcases b.1 with y | y
      · rw [x, y]
      · exact absurd (b.2.1 y) h
    · exact absurd (a.2.1 x) h
theorem cu_sum_surj {u : Int → Int} : ∀ n : Nat, (∀ k : Nat, k < n → u k = 0 ∨ u k = 1) → ∀ t : Int, 0 ≤ t → t < ma_sum u n → ∃ k : Nat, k < n ∧ u k = 1 ∧ ma_sum u k = t
  | 0, _, t, t0, t1 => by exfalso; rw [show ma_sum u 0 = 0 from rfl] at t1; omega
  | n + 1, h, t, t0, t1 => by
    have e : ma_sum u (n + 1) = ma_sum u n + u n := rfl
    by_cases q : t < ma_sum u n
    · obtain ⟨k, a, b, c⟩ := cu_sum_surj n (fun k hk => h k (by omega)) t t0 q
      exact ⟨k, by omega, b, c⟩
    · rcases h n (by omega) with z | z
      · omega
      · exact ⟨n, by omega, z, by omega⟩
