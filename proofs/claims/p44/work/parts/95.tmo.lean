/-- the latest of the outputs; what the registers' tables add -/
def sl_o (μ : ma_M) (t : Int → Int) (k : Nat) : Int := tm_mx (fun o => tm_a μ t (μ 13 0 o) (42 + o)) k
def sl_r (μ : ma_M) (t : Int → Int) (M0 M : Int) : Prop := M0 ≤ M ∧ (∀ b : Int, 0 ≤ b → b < μ 21 0 7 → 0 ≤ μ 23 0 b → tm_b μ t b ≤ M) ∧ (M = M0 ∨ ∃ b : Int, 0 ≤ b ∧ b < μ 21 0 7 ∧ 0 ≤ μ 23 0 b ∧ M = tm_b μ t b)
theorem sl_uniq {μ : ma_M} {t : Int → Int} {M0 M M' : Int} (h : sl_r μ t M0 M) (h' : sl_r μ t M0 M') : M = M' := by
  obtain ⟨a1, a2, a3⟩ := h
  obtain ⟨b1, b2, b3⟩ := h'
  have x : M ≤ M' := by
    rcases a3 with z | ⟨b, z1, z2, z3, z4⟩
    · omega
    · rw [z4]; exact b2 b z1 z2 z3
  have y : M' ≤ M := by
    rcases b3 with z | ⟨b, z1, z2, z3, z4⟩
    · omega
    · rw [z4]; exact a2 b z1 z2 z3
  omega
theorem tm_b_rng {μ : ma_M} (H : tm_H μ) {t : Int → Int} (T : tm_ok μ t (μ 3 0 10)) {b : Int} (b0 : 0 ≤ b) (b1 : b < μ 21 0 7) : 0 ≤ tm_b μ t b ∧ tm_b μ t b ≤ 4000 := by
  have K0 := (H.2.1.2.2.2.2.1 b b0 b1).2.2.2.2.2.2.1
  have := tm_mx_rng (v := fun k => tm_a μ t (μ 27 b k) (rl_x (μ 32 0 b))) (B := 3049) (μ 25 0 b).toNat (fun i x0 x1 => by
    have ti := tm_in H b0 b1 (k := i) x0 (by omega)
    have l := tm_lim H T ti.1 ti.2.1
    have w := wy_rng (b := μ 42 (μ 27 b i)) 49 (rl_x (μ 32 0 b))
    show tm_a _ _ _ _ ≤ _
    unfold tm_a; omega) (by omega)
  unfold tm_b; omega
theorem sl_o_rng {μ : ma_M} (H : tm_H μ) {t : Int → Int} (T : tm_ok μ t (μ 3 0 10)) {k : Nat} (hk : (k : Int) ≤ μ 3 0 13) : 0 ≤ sl_o μ t k ∧ sl_o μ t k ≤ 3049 := by
  refine tm_mx_rng k (fun i x0 x1 => ?_) (by omega)
  have oo := H.1.2.2.2.2.2.2.2.2.2.2.2.2.2.2.2.2.2 i x0 (by omega)
  have l := tm_lim H T oo.2.1 oo.2.2
  have w := wy_rng (b := μ 42 (μ 13 0 i)) 49 (42 + i)
  show tm_a _ _ _ _ ≤ _
  unfold tm_a; omega
