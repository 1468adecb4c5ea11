/-! times: ways in a tree, the class -/
def wy_o (e x : Int) : Int := rl_lo e + rl_hi e - x
def wy (b : Int → Int) : Nat → Int → Int
  | 0, _ => 0
  | k + 1, x => if 0 ≤ b x then 1 + wy b k (wy_o (b x) x) else 0
def wy_ok (b : Int → Int) : Prop := ∀ x : Int, 0 ≤ x → x < 49 → b x < 84 ∧ (0 ≤ b x → x = rl_lo (b x) ∨ x = rl_hi (b x))
theorem wy_of {μ : ma_M} {n : Int} (H : rl_t μ n) : wy_ok (μ 42 n) := fun x x0 x1 => by
  have := H.2.2.1 x x0 x1
  exact ⟨this.2.1, this.2.2.2.2⟩
theorem wy_rng {b : Int → Int} : ∀ (k : Nat) (x : Int), 0 ≤ wy b k x ∧ wy b k x ≤ k := by
  intro k
  induction k with
  | zero => intro x; exact ⟨Int.le_refl 0, Int.le_refl 0⟩
  | succ k ih =>
    intro x
    have un : wy b (k + 1) x = if 0 ≤ b x then 1 + wy b k (wy_o (b x) x) else 0 := rfl
    have := ih (wy_o (b x) x)
    rw [un]
    split <;> omega
theorem wy_o_rng {b : Int → Int} (H : wy_ok b) {x : Int} (x0 : 0 ≤ x) (x1 : x < 49) (h : 0 ≤ b x) : 0 ≤ wy_o (b x) x ∧ wy_o (b x) x < 49 ∧ (x = rl_lo (b x) → wy_o (b x) x = rl_hi (b x)) ∧ (x ≠ rl_lo (b x) → wy_o (b x) x = rl_lo (b x)) := by
  have a := H x x0 x1
  have lo := rl_lo_rng h a.1
  have hi := rl_hi_rng h a.1
  have c := a.2 h
  unfold wy_o
  omega
/-- the latest of some, a table's time, all times -/
def tm_mx (v : Int → Int) : Nat → Int
  | 0 => 0
  | k + 1 => if tm_mx v k < v k then v k else tm_mx v k
def tm_a (μ : ma_M) (t : Int → Int) (n x : Int) : Int := t n + wy (μ 42 n) 49 x
def tm_b (μ : ma_M) (t : Int → Int) (b : Int) : Int := 3 + tm_mx (fun k => tm_a μ t (μ 27 b k) (rl_x (μ 32 0 b))) (μ 25 0 b).toNat
theorem tm_mx_rng {v : Int → Int} {B : Int} : ∀ k : Nat, (∀ i : Int, 0 ≤ i → i < k → v i ≤ B) → 0 ≤ B → 0 ≤ tm_mx v k ∧ tm_mx v k ≤ B := by
  intro k
  induction k with
  | zero => intro _ hB; exact ⟨Int.le_refl 0, hB⟩
  | succ k ih =>
    intro h hB
    have := ih (fun i i0 i1 => h i i0 (by omega)) hB
    have hk := h k (by omega) (by omega)
    have un : tm_mx v (k + 1) = if tm_mx v k < v k then v k else tm_mx v k := rfl
    rw [un]
    split <;> omega
theorem tm_mx_cg {v w : Int → Int} : ∀ k : Nat, (∀ i : Int, 0 ≤ i → i < k → v i = w i) → tm_mx v k = tm_mx w k := by
  intro k
  induction k with
  | zero => intro _; rfl
  | succ k ih =>
    intro h
    have un : tm_mx v (k + 1) = if tm_mx v k < v k then v k else tm_mx v k := rfl
    have un2 : tm_mx w (k + 1) = if tm_mx w k < w k then w k else tm_mx w k := rfl
    rw [un, un2, ih (fun i i0 i1 => h i i0 (by omega)), h k (by omega) (by omega)]
def tm_gate (μ : ma_M) (n : Int) : Prop := ¬ μ 4 0 n = 105 ∧ ¬ μ 4 0 n = 114 ∧ 0 ≤ μ 28 0 n
def tm_ok (μ : ma_M) (t : Int → Int) (N : Int) : Prop := ∀ n : Int, 0 ≤ n → n < N → (tm_gate μ n → t n = tm_b μ t (μ 28 0 n)) ∧ (¬ tm_gate μ n → t n = 0) ∧ 0 ≤ t n ∧ t n ≤ 52 * (n + 1)
/-- what the times need -/
def tm_H (μ : ma_M) : Prop := rl_c μ ∧ rl_m μ ∧ rl_p μ ∧ ∀ n : Int, 0 ≤ n → n < μ 3 0 10 → rl_t μ n
theorem tm_in {μ : ma_M} (H : tm_H μ) {b k : Int} (b0 : 0 ≤ b) (b1 : b < μ 21 0 7) (k0 : 0 ≤ k) (k1 : k < μ 25 0 b) : 0 ≤ μ 27 b k ∧ μ 27 b k < μ 3 0 10 ∧ (0 ≤ μ 22 0 b → μ 27 b k < μ 22 0 b) := by
  have B := H.2.1.2.2.2.2.1 b b0 b1
  have t := B.2.2.2.2.2.2.2.2.1 k k0 k1
  exact ⟨t.2.1, t.2.2.1, t.2.2.2.2⟩
