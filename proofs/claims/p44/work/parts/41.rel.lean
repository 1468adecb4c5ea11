/-! what holds between the calls of the law, of the class's memory (the shapes are whole's; where whole names the reference's cell, the class's own stands twice) -/
/-! what holds between the calls of the law: the class's memory (cells 2 to 68) and the reference's (69 to 110) say the same -/
/-- a node -/
def rl_n (μ : ma_M) (i : Int) : Prop :=
  μ 4 0 i = μ 4 0 i ∧ (μ 4 0 i = 105 ∨ μ 4 0 i = 114 ∨ μ 4 0 i = 97 ∨ μ 4 0 i = 111 ∨ μ 4 0 i = 120 ∨ μ 4 0 i = 110) ∧
  (μ 4 0 i = 105 → μ 10 0 i = μ 10 0 i ∧ 0 ≤ μ 10 0 i ∧ μ 10 0 i < μ 3 0 11 ∧ μ 11 0 (μ 10 0 i) = i) ∧
  (μ 4 0 i = 114 → μ 7 0 i = μ 7 0 i ∧ 0 ≤ μ 7 0 i ∧ μ 7 0 i < μ 3 0 10 ∧ μ 9 0 i = μ 9 0 i ∧ 0 ≤ μ 9 0 i ∧ μ 9 0 i ≤ 2 ∧ μ 8 0 i = μ 8 0 i ∧ (μ 8 0 i = 0 ∨ μ 8 0 i = 1)) ∧
  (μ 4 0 i ≠ 105 → μ 4 0 i ≠ 114 → μ 5 0 i = μ 5 0 i ∧ 0 ≤ μ 5 0 i ∧ μ 5 0 i < i ∧ μ 6 0 i = μ 6 0 i ∧ 0 ≤ μ 6 0 i ∧ μ 6 0 i < i ∧ (μ 4 0 i = 110 → μ 6 0 i = μ 5 0 i))
/-- the circuit -/
def rl_c (μ : ma_M) : Prop :=
  0 ≤ μ 3 0 10 ∧ μ 3 0 10 ≤ 48 ∧ 0 ≤ μ 3 0 11 ∧ μ 3 0 11 ≤ 6 ∧ 0 ≤ μ 3 0 12 ∧ μ 3 0 12 ≤ 8 ∧ 0 ≤ μ 3 0 13 ∧ μ 3 0 13 ≤ 6 ∧
  μ 3 0 10 = μ 3 0 10 ∧ μ 3 0 11 = μ 3 0 11 ∧ μ 3 0 12 = μ 3 0 12 ∧ μ 3 0 13 = μ 3 0 13 ∧
  (∀ i : Int, 0 ≤ i → i < μ 3 0 10 → rl_n μ i) ∧
  (∀ j : Int, 0 ≤ j → j < μ 3 0 11 → 0 ≤ μ 11 0 j ∧ μ 11 0 j < μ 3 0 10 ∧ μ 4 0 (μ 11 0 j) = 105 ∧ μ 10 0 (μ 11 0 j) = j) ∧
  (∀ j : Int, 0 ≤ j → j < μ 3 0 12 → 0 ≤ μ 12 0 j ∧ μ 12 0 j < μ 3 0 10 ∧ μ 4 0 (μ 12 0 j) = 114) ∧
  (∀ j : Int, 0 ≤ j → j + 1 < μ 3 0 12 → μ 12 0 j < μ 12 0 (j + 1)) ∧
  (∀ i : Int, 0 ≤ i → i < μ 3 0 10 → μ 4 0 i = 114 → ∃ j : Int, 0 ≤ j ∧ j < μ 3 0 12 ∧ μ 12 0 j = i) ∧
  (∀ j : Int, 0 ≤ j → j < μ 3 0 13 → μ 13 0 j = μ 13 0 j ∧ 0 ≤ μ 13 0 j ∧ μ 13 0 j < μ 3 0 10)
/-- the lower end of an edge, its upper end, its place in its frame -/
def rl_lo (e : Int) : Int := if e < 42 then e else 7 * ((e - 42) / 6) + (e - 42) % 6
def rl_hi (e : Int) : Int := rl_lo e + (if e < 42 then 7 else 1)
def rl_ix (e : Int) : Int := if e < 42 ∨ 42 ≤ rl_lo e then 2 * (rl_lo e % 7) else 2 * (7 + rl_lo e % 7)
/-- what stays for ever -/
def rl_z (μ : ma_M) : Prop := μ 1 0 0 = 43690 ∧ μ 1 0 1 = 52428 ∧ μ 1 0 2 = 61680 ∧ μ 1 0 3 = 65280
/-- a block -/
def rl_b1 (μ : ma_M) (b : Int) : Prop :=
  μ 22 0 b = μ 22 0 b ∧ μ 23 0 b = μ 23 0 b ∧ μ 24 0 b = μ 24 0 b ∧ 0 ≤ μ 24 0 b ∧ μ 24 0 b ≤ 65535 ∧ μ 25 0 b = μ 25 0 b ∧ 0 ≤ μ 25 0 b ∧ μ 25 0 b ≤ 4 ∧
  (∀ k : Int, 0 ≤ k → k < μ 25 0 b → μ 27 b k = μ 27 b k ∧ 0 ≤ μ 27 b k ∧ μ 27 b k < μ 3 0 10 ∧ (μ 4 0 (μ 27 b k) = 105 ∨ 0 ≤ μ 28 0 (μ 27 b k)) ∧ (0 ≤ μ 22 0 b → μ 27 b k < μ 22 0 b)) ∧
  (μ 22 0 b = -1 ∨ 0 ≤ μ 22 0 b ∧ μ 22 0 b < μ 3 0 10 ∧ μ 29 0 (μ 22 0 b) = 1 ∧ μ 28 0 (μ 22 0 b) = b) ∧
  (μ 23 0 b = -1 ∨ 0 ≤ μ 23 0 b ∧ μ 23 0 b < μ 3 0 10 ∧ μ 4 0 (μ 23 0 b) = 114 ∧ μ 28 0 (μ 23 0 b) = b)
/-- a node that an output or a register takes; a register's; the cut of a gate; a gate that is needed -/
def cu_root (μ : ma_M) (k : Nat) : Prop := (∃ j : Int, 0 ≤ j ∧ j < μ 3 0 13 ∧ μ 13 0 j = k) ∨ (∃ i : Int, 0 ≤ i ∧ i < μ 3 0 10 ∧ μ 4 0 i = 114 ∧ μ 7 0 i = k)
def cu_fed (μ : ma_M) (k : Nat) : Prop := ∃ i : Int, 0 ≤ i ∧ i < μ 3 0 10 ∧ μ 4 0 i = 114 ∧ μ 7 0 i = k
def cu_own (μ : ma_M) (n : Nat) : Nat := (cu_T (μ 4 0) (μ 5 0) (μ 6 0) (μ 3 0 10).toNat n).1.2 0
def cu_need (μ : ma_M) (k : Nat) : Prop := ∀ P : Nat → Prop, (∀ k : Nat, cu_root μ k → ¬ (μ 4 0 k = 105 ∨ μ 4 0 k = 114) → P k) → (∀ n k : Nat, P n → k < n → (cu_own μ n).testBit k = true → ¬ (μ 4 0 k = 105 ∨ μ 4 0 k = 114) → P k) → P k
/-- which gates have a block of their own -/
def cu_blk (μ : ma_M) (u : Int → Int) : Prop := ∀ k : Nat, (k : Int) < μ 3 0 10 → (u k = 0 ∨ u k = 1) ∧ (u k = 1 ↔ cu_need μ k ∧ ¬ cu_fed μ k)
/-- the circuit mapped -/
def rl_m (μ : ma_M) : Prop :=
  0 ≤ μ 21 0 7 ∧ μ 21 0 7 ≤ 36 ∧ μ 21 0 7 = μ 21 0 7 ∧
  (∀ i : Int, 0 ≤ i → i < μ 3 0 10 → μ 20 0 i = μ 20 0 i ∧ μ 29 0 i = μ 29 0 i ∧ (μ 29 0 i = 0 ∨ μ 29 0 i = 1) ∧ (μ 29 0 i = 1 → μ 4 0 i ≠ 105 ∧ μ 4 0 i ≠ 114) ∧
    μ 28 0 i = μ 28 0 i ∧ -1 ≤ μ 28 0 i ∧ μ 28 0 i < μ 21 0 7 ∧ (0 ≤ μ 28 0 i ↔ μ 4 0 i = 114 ∨ μ 29 0 i = 1) ∧ (μ 29 0 i = 1 → μ 22 0 (μ 28 0 i) = i) ∧ (μ 4 0 i = 114 → μ 23 0 (μ 28 0 i) = i)) ∧
  (∀ b : Int, 0 ≤ b → b < μ 21 0 7 → rl_b1 μ b) ∧
  (∀ j : Int, 0 ≤ j → j < μ 3 0 13 → μ 4 0 (μ 13 0 j) = 105 ∨ 0 ≤ μ 28 0 (μ 13 0 j)) ∧
  (∃ u : Int → Int, cu_blk μ u ∧ μ 21 0 7 = μ 3 0 12 + ma_sum u (μ 3 0 10).toNat)
/-- the blocks in their cells -/
def rl_p (μ : ma_M) : Prop :=
  (∀ b : Int, 0 ≤ b → b < μ 21 0 7 → μ 32 0 b = μ 32 0 b ∧ 0 ≤ μ 32 0 b ∧ μ 32 0 b < 36 ∧ μ 33 0 (μ 32 0 b) = b ∧ μ 34 0 b = μ 34 0 b ∧ (μ 34 0 b = 0 ∨ μ 34 0 b = 1)) ∧
  (∀ c : Int, 0 ≤ c → c < 36 → μ 33 0 c = μ 33 0 c ∧ -1 ≤ μ 33 0 c ∧ μ 33 0 c < μ 21 0 7 ∧ (0 ≤ μ 33 0 c → μ 32 0 (μ 33 0 c) = c))
/-- the crossing of a cell; a node's source -/
def rl_x (c : Int) : Int := 7 * (c / 6) + c % 6
def rl_src (μ : ma_M) (n : Int) : Int := if μ 4 0 n = 105 then μ 10 0 n else rl_x (μ 32 0 (μ 28 0 n))
/-- a node has a sink at a crossing -/
def rl_pin (μ : ma_M) (n x : Int) : Prop := (∃ b k : Int, 0 ≤ b ∧ b < μ 21 0 7 ∧ 0 ≤ k ∧ k < μ 25 0 b ∧ μ 27 b k = n ∧ x = rl_x (μ 32 0 b)) ∨ (∃ o : Int, 0 ≤ o ∧ o < μ 3 0 13 ∧ μ 13 0 o = n ∧ x = 42 + o)
/-- whether a node has a net; whether a net has an edge -/
noncomputable def rl_ne (μ : ma_M) (n : Int) : Int := @ite Int (∃ x, rl_pin μ n x) (Classical.propDecidable _) 1 0
theorem rl_ne_01 (μ : ma_M) (n : Int) : (rl_ne μ n = 0 ∨ rl_ne μ n = 1) ∧ (rl_ne μ n = 1 ↔ ∃ x, rl_pin μ n x) := by
  unfold rl_ne
  by_cases h : ∃ x, rl_pin μ n x
  · rw [@if_pos _ (Classical.propDecidable _) h]; exact ⟨.inr rfl, ⟨fun _ => h, fun _ => rfl⟩⟩
  · rw [@if_neg _ (Classical.propDecidable _) h]; exact ⟨.inl rfl, ⟨fun z => absurd z (show ¬ (0 : Int) = 1 by decide), fun z => absurd z h⟩⟩
def rl_ed (μ : ma_M) (n e : Int) : Int := if μ 42 n (rl_lo e) = e ∨ μ 42 n (rl_hi e) = e then 1 else 0
/-- a net's tree: by 'back' towards the source, with a number that falls; and the reference's rows -/
def rl_t (μ : ma_M) (n : Int) : Prop :=
  (rl_ne μ n = 0 ∨ rl_ne μ n = 1) ∧ (rl_ne μ n = 1 ↔ ∃ x, rl_pin μ n x) ∧
  (∀ x : Int, 0 ≤ x → x < 49 → -1 ≤ μ 42 n x ∧ μ 42 n x < 84 ∧ (rl_ne μ n = 0 → μ 42 n x = -1) ∧ (rl_ne μ n = 1 → μ 42 n x = μ 42 n x) ∧ (0 ≤ μ 42 n x → x = rl_lo (μ 42 n x) ∨ x = rl_hi (μ 42 n x))) ∧
  (∀ e : Int, 0 ≤ e → e < 84 → (rl_ed μ n e = 0 ∨ rl_ed μ n e = 1) ∧ (rl_ne μ n = 1 → (rl_ed μ n e = 1 ↔ μ 42 n (rl_lo e) = e ∨ μ 42 n (rl_hi e) = e)) ∧ (rl_ne μ n = 0 → rl_ed μ n e = 0) ∧ ¬ (μ 42 n (rl_lo e) = e ∧ μ 42 n (rl_hi e) = e)) ∧
  (∃ f : Int → Int, (∀ x : Int, 0 ≤ x → x < 49 → 0 ≤ f x ∧ f x < 49 ∧ (0 ≤ μ 42 n x → f (rl_lo (μ 42 n x) + rl_hi (μ 42 n x) - x) < f x ∧ (0 ≤ μ 42 n (rl_lo (μ 42 n x) + rl_hi (μ 42 n x) - x) ∨ rl_lo (μ 42 n x) + rl_hi (μ 42 n x) - x = rl_src μ n)))) ∧
  (∀ x : Int, rl_pin μ n x → x = rl_src μ n ∨ 0 ≤ μ 42 n x) ∧ (rl_ne μ n = 1 → μ 42 n (rl_src μ n) = -1)
/-- how many nets ahead of n have an edge -/
def rl_ct (μ : ma_M) (e : Int) (n : Nat) : Int := ma_sum (fun i => if μ 42 i (rl_lo e) = e ∨ μ 42 i (rl_hi e) = e then 1 else 0) n
/-- the circuit routed -/
def rl_r (μ : ma_M) : Prop := (∀ n : Int, 0 ≤ n → n < μ 3 0 10 → rl_t μ n) ∧ (∀ e : Int, 0 ≤ e → e < 84 → μ 44 0 e = rl_ct μ e (μ 3 0 10).toNat ∧ μ 44 0 e ≤ 2)
