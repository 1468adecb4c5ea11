/-- the facts that the class leaves -/
def cu_F (μ : ma_M) (u : Int → Int) : Prop := rl_c μ ∧ cu_blk μ u ∧ cu_P1 μ μ (μ 3 0 12) ∧ cu_P2 μ μ u (μ 3 0 10).toNat ∧ cu_P3 μ μ
/-- a gate that is needed and that a register takes lies with the first such register -/
theorem cu_P4 {μ : ma_M} (H : rl_c μ) (h1 : cu_P1 μ μ (μ 3 0 12)) {k : Nat} (hn : cu_need μ k) (hf : cu_fed μ k) : ∃ j : Nat, (j : Int) < μ 3 0 12 ∧ μ 7 0 (μ 12 0 j) = k ∧ μ 28 0 k = j ∧ cu_bG μ j k (cu_own μ k) (μ 3 0 10).toNat := by
  have key : ∀ j : Nat, (j : Int) < μ 3 0 12 → μ 7 0 (μ 12 0 j) = k → ∃ j : Nat, (j : Int) < μ 3 0 12 ∧ μ 7 0 (μ 12 0 j) = k ∧ μ 28 0 k = j ∧ cu_bG μ j k (cu_own μ k) (μ 3 0 10).toNat := by
    intro j
    induction j using Nat.strongRecOn with
    | _ j ih =>
      intro hj e
      obtain ⟨_, _, p3⟩ := h1 j (by omega) hj
      rw [e, show ((k : Nat) : Int).toNat = k from rfl] at p3
      rcases p3 with ⟨_, z2, z3⟩ | ⟨z1, _⟩
      · exact ⟨j, hj, e, z2, z3⟩
      · obtain ⟨a, b, c⟩ := z1 hn
        refine ih (μ 28 0 k).toNat (by omega) (by omega) ?_
        rw [show (((μ 28 0 k).toNat : Nat) : Int) = μ 28 0 k from by omega]; exact c
  obtain ⟨i, i0, i1, i2, i3⟩ := hf
  obtain ⟨_, _, _, _, _, _, _, _, _, _, _, _, _, _, _, _, hrj, _⟩ := H
  obtain ⟨j, j0, j1, ej⟩ := hrj i i0 i1 i2
  refine key j.toNat (by omega) ?_
  rw [show ((j.toNat : Nat) : Int) = j from by omega, ej]; exact i3
/-- where a node's block is -/
theorem cu_of28 {μ : ma_M} {u : Int → Int} (F : cu_F μ u) {x : Nat} (hx : (x : Int) < μ 3 0 10) :
    (∃ j : Nat, (j : Int) < μ 3 0 12 ∧ μ 12 0 j = x ∧ μ 28 0 x = j ∧ ¬ cu_need μ x) ∨
    (∃ j : Nat, (j : Int) < μ 3 0 12 ∧ μ 7 0 (μ 12 0 j) = x ∧ μ 28 0 x = j ∧ cu_need μ x ∧ u x = 0 ∧ cu_bG μ j x (cu_own μ x) (μ 3 0 10).toNat) ∨
    (u x = 1 ∧ cu_need μ x ∧ μ 28 0 x = μ 3 0 12 + ma_sum u x) ∨ (μ 28 0 x = -1 ∧ ¬ cu_need μ x ∧ μ 4 0 x ≠ 114) := by
  obtain ⟨H, hu, h1, h2, h3⟩ := F
  obtain ⟨v1, v2⟩ := hu x hx
  by_cases r : μ 4 0 x = 114
  · obtain ⟨_, _, _, _, _, _, _, _, _, _, _, _, _, _, _, _, hrj, _⟩ := H
    obtain ⟨j, j0, j1, ej⟩ := hrj x (by omega) hx r
    refine .inl ⟨j.toNat, by omega, ?_⟩
    rw [show ((j.toNat : Nat) : Int) = j from by omega]
    refine ⟨ej, ?_, fun z => cu_need_gate z (.inr r)⟩
    rw [← ej]; exact (h1 j j0 j1).2.1
  · by_cases n : cu_need μ x
    · by_cases f : cu_fed μ x
      · obtain ⟨j, a, b, c, e⟩ := cu_P4 H h1 n f
        refine .inr (.inl ⟨j, a, b, c, n, ?_, e⟩)
        rcases v1 with v1 | v1
        · exact v1
        · exact absurd f (v2.1 v1).2
      · have ux := v2.2 ⟨n, f⟩
        exact .inr (.inr (.inl ⟨ux, n, (h2 x (by omega) ux).1⟩))
    · exact .inr (.inr (.inr ⟨h3 x hx r n, n, r⟩))
theorem cu_blk_sum {μ : ma_M} {u : Int → Int} (H : rl_c μ) (hu : cu_blk μ u) {k : Nat} (hk : (k : Int) ≤ μ 3 0 10) : 0 ≤ ma_sum u k ∧ μ 3 0 12 + ma_sum u k ≤ μ 3 0 10 := by
  have hle := cu_blk_le H hu
  have N0 := H.1
  have u0 : ∀ i : Int, 0 ≤ i → i < ((μ 3 0 10).toNat : Nat) → 0 ≤ u i ∧ u i ≤ 1 := fun i a b => by
    have := (hu i.toNat (by omega)).1
    rw [show ((i.toNat : Nat) : Int) = i from by omega] at this; omega
  have s0 := (ma_sum_rng (f := u) (b := 1) k (fun x a b => u0 x a (by omega))).1
  have := cu_sum_le (u := u) (k := k) (μ 3 0 10).toNat (by omega) (fun i a b => (u0 i a b).1)
  omega
theorem cu_blk_sum_inj {μ : ma_M} {u : Int → Int} (hu : cu_blk μ u) {x y : Nat} (hx : (x : Int) < μ 3 0 10) (hy : (y : Int) < μ 3 0 10) (ux : u x = 1) (uy : u y = 1) (e : ma_sum u x = ma_sum u y) : x = y := by
  have u0 : ∀ i : Int, 0 ≤ i → i < μ 3 0 10 → 0 ≤ u i := fun i a b => by
    have := (hu i.toNat (by omega)).1
    rw [show ((i.toNat : Nat) : Int) = i from by omega] at this; omega
  by_cases h1 : x < y
  · have := cu_sum_lt (u := u) h1 ux (fun i a b => u0 i a (by omega)); omega
  · by_cases h2 : y < x
    · have := cu_sum_lt (u := u) h2 uy (fun i a b => u0 i a (by omega)); omega
    · omega
theorem cu_cnt_pow0 (f : Nat) : cu_cnt (2 ^ f) f = 0 := by rw [cu_cnt_pow, if_neg (by omega)]
