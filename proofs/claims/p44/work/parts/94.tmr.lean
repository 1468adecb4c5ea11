/-! times, the reference -/
def wy_f (b f : Int → Int) : Prop := ∀ x : Int, 0 ≤ x → x < 49 → 0 ≤ f x ∧ f x < 49 ∧ (0 ≤ b x → f (wy_o (b x) x) < f x)
theorem wy_f0 {b f : Int → Int} (H : wy_ok b) (F : wy_f b f) {x : Int} (x0 : 0 ≤ x) (x1 : x < 49) (h : f x ≤ 0) : b x < 0 := by
  by_cases q : 0 ≤ b x
  · have o := wy_o_rng H x0 x1 q
    have a := (F x x0 x1).2.2 q
    have c := (F _ o.1 o.2.1).1
    omega
  · omega
theorem wy_st {b f : Int → Int} (H : wy_ok b) (F : wy_f b f) : ∀ (k k' : Nat) (x : Int), 0 ≤ x → x < 49 → f x ≤ k → f x ≤ k' → wy b k x = wy b k' x := by
  intro k
  induction k with
  | zero =>
    intro k' x x0 x1 h h'
    have q := wy_f0 H F x0 x1 (by omega)
    cases k' with
    | zero => rfl
    | succ k' => exact (if_neg (by omega)).symm
  | succ k ih =>
    intro k' x x0 x1 h h'
    have un : wy b (k + 1) x = if 0 ≤ b x then 1 + wy b k (wy_o (b x) x) else 0 := rfl
    rw [un]
    by_cases q : 0 ≤ b x
    · rw [if_pos q]
      have o := wy_o_rng H x0 x1 q
      have a := (F x x0 x1).2.2 q
      have c := (F _ o.1 o.2.1).1
      cases k' with
      | zero => omega
      | succ k' =>
        have un2 : wy b (k' + 1) x = if 0 ≤ b x then 1 + wy b k' (wy_o (b x) x) else 0 := rfl
        rw [un2, if_pos q, ih k' _ o.1 o.2.1 (by omega) (by omega)]
    · rw [if_neg q]
      cases k' with
      | zero => rfl
      | succ k' => exact (if_neg q).symm
theorem wy_step {b f : Int → Int} (H : wy_ok b) (F : wy_f b f) {x : Int} (x0 : 0 ≤ x) (x1 : x < 49) (q : 0 ≤ b x) : wy b 49 x = 1 + wy b 49 (wy_o (b x) x) := by
  have un : wy b 49 x = if 0 ≤ b x then 1 + wy b 48 (wy_o (b x) x) else 0 := rfl
  have o := wy_o_rng H x0 x1 q
  have a := F x x0 x1
  have a2 := a.2.2 q
  rw [un, if_pos q, wy_st H F 48 49 _ o.1 o.2.1 (by omega) (by omega)]
theorem wy_fex {μ : ma_M} {n : Int} (H : rl_t μ n) : ∃ f, wy_f (μ 42 n) f := by
  obtain ⟨f, hf⟩ := H.2.2.2.2.1
  refine ⟨f, fun x x0 x1 => ?_⟩
  have := hf x x0 x1
  exact ⟨this.1, this.2.1, fun q => (this.2.2 q).1⟩
/-- nodes that have a time -/
def tm_n (μ : ma_M) (n : Int) : Prop := 0 ≤ n ∧ n < μ 3 0 10 ∧ (μ 4 0 n = 105 ∨ μ 4 0 n = 114 ∨ 0 ≤ μ 28 0 n)
theorem tm_n_in {μ : ma_M} (H : tm_H μ) {b k : Int} (b0 : 0 ≤ b) (b1 : b < μ 21 0 7) (k0 : 0 ≤ k) (k1 : k < μ 25 0 b) : tm_n μ (μ 27 b k) := by
  have B := H.2.1.2.2.2.2.1 b b0 b1
  have t := B.2.2.2.2.2.2.2.2.1 k k0 k1
  exact ⟨t.2.1, t.2.2.1, by rcases t.2.2.2.1 with z | z; exact .inl z; exact .inr (.inr z)⟩
theorem tm_lim {μ : ma_M} (H : tm_H μ) {t : Int → Int} (T : tm_ok μ t (μ 3 0 10)) {n : Int} (n0 : 0 ≤ n) (n1 : n < μ 3 0 10) : 0 ≤ t n ∧ t n ≤ 3000 := by
  have := (T n n0 n1).2.2
  have N1 := H.1.2.1
  omega
