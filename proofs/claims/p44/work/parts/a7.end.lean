/-! behind the wires stands the source -/
def bE (μ : ma_M) (n : Int) : Int := if μ 4 0 n = 105 then 300 + μ 10 0 n else if μ 4 0 n = 114 then 201 + 2 * μ 32 0 (μ 28 0 n) else 200 + 2 * μ 32 0 (μ 28 0 n)
/-- a node that is a source -/
theorem bE_of {μ : ma_M} (H : tm_H μ) {n : Int} (hn : tm_n μ n) : (μ 4 0 n = 105 ∧ 0 ≤ μ 10 0 n ∧ μ 10 0 n < μ 3 0 11 ∧ μ 3 0 11 ≤ 6 ∧ μ 11 0 (μ 10 0 n) = n) ∨ (μ 4 0 n ≠ 105 ∧ 0 ≤ μ 28 0 n ∧ μ 28 0 n < μ 21 0 7 ∧ 0 ≤ μ 32 0 (μ 28 0 n) ∧ μ 32 0 (μ 28 0 n) < 36 ∧ μ 33 0 (μ 32 0 (μ 28 0 n)) = μ 28 0 n ∧ (μ 4 0 n = 114 → μ 23 0 (μ 28 0 n) = n) ∧ (μ 4 0 n ≠ 114 → μ 22 0 (μ 28 0 n) = n ∧ μ 29 0 n = 1)) := by
  obtain ⟨Hc, Hm, Hp, -⟩ := H
  obtain ⟨n0, n1, hk⟩ := hn
  have nn := Hc.2.2.2.2.2.2.2.2.2.2.2.2.1 n n0 n1
  have mm := Hm.2.2.2.1 n n0 n1
  by_cases a : μ 4 0 n = 105
  · have := nn.2.2.1 a
    exact .inl ⟨a, this.2.1, this.2.2.1, Hc.2.2.2.1, this.2.2.2⟩
  · refine .inr ⟨a, ?_⟩
    have b0 : 0 ≤ μ 28 0 n := by
      rcases hk with z | z | z
      · exact absurd z a
      · exact mm.2.2.2.2.2.2.2.1.2 (.inl z)
      · exact z
    have pp := Hp.1 _ b0 mm.2.2.2.2.2.2.1
    refine ⟨b0, mm.2.2.2.2.2.2.1, pp.2.1, pp.2.2.1, pp.2.2.2.1, mm.2.2.2.2.2.2.2.2.2, fun z => ?_⟩
    have e29 : μ 29 0 n = 1 := by
      rcases mm.2.2.2.2.2.2.2.1.1 b0 with y | y
      · exact absurd y z
      · exact y
    exact ⟨mm.2.2.2.2.2.2.2.2.1 e29, e29⟩
theorem bE_rng {μ : ma_M} (H : tm_H μ) {n : Int} (hn : tm_n μ n) : 200 ≤ bE μ n ∧ bE μ n < 306 := by
  unfold bE
  rcases bE_of H hn with ⟨a, b⟩ | ⟨a, b⟩
  · rw [if_pos a]; omega
  · rw [if_neg a]
    split <;> omega
theorem ch_at_hi {w : Int → Int → Int} {c : Int} (h : 168 < c) : ∀ k : Nat, ch_at w k c = c
  | 0 => rfl
  | k + 1 => by
    show (if 1 ≤ c ∧ c ≤ 168 then ch_at w k (ch_w w c) else c) = c
    rw [if_neg (by omega)]
/-- the frames hold what build writes -/
def fr_w (μ : ma_M) (w : Int → Int → Int) : Prop := ∀ f i : Int, 0 ≤ f → f < 14 → 0 ≤ i → i < 36 → w f i = bS μ (36 * f + i)
theorem ch_way {μ : ma_M} {w : Int → Int → Int} (H : bd_H μ) (hw : fr_w μ w) {n : Nat} (hn : tm_n μ n) {f : Int → Int} (hf : ∀ x : Int, 0 ≤ x → x < 49 → 0 ≤ f x ∧ f x < 49 ∧ (0 ≤ μ 42 n x → f (rl_lo (μ 42 n x) + rl_hi (μ 42 n x) - x) < f x ∧ (0 ≤ μ 42 n (rl_lo (μ 42 n x) + rl_hi (μ 42 n x) - x) ∨ rl_lo (μ 42 n x) + rl_hi (μ 42 n x) - x = rl_src μ n))) : ∀ (k : Nat) (x : Int), 0 ≤ x → x < 49 → (x = rl_src μ n ∨ 0 ≤ μ 42 n x) → f x < k → ch_at w k (bd_c μ n x) = bE μ n := by
  have hi := bE_rng H.1 hn
  have T := H.1.2.2.2 n hn.1 hn.2.1
  have W := wy_of T
  intro k
  induction k with
  | zero => intro x x0 x1 _ h; have := (hf x x0 x1).1; omega
  | succ k ih =>
    intro x x0 x1 hx h
    by_cases q : 0 ≤ μ 42 n x
    · have t := bS_ct H hn.2.1 x0 x1 q
      have c : bd_c μ n x = 1 + 2 * μ 42 n x + rl_ct μ (μ 42 n x) n := by
        unfold bd_c; rw [if_pos q, Int.toNat_natCast]
      have o := wy_o_rng W x0 x1 q
      have z := (hf x x0 x1).2.2 q
      rw [c]
      show (if 1 ≤ 1 + 2 * μ 42 n x + rl_ct μ (μ 42 n x) n ∧ 1 + 2 * μ 42 n x + rl_ct μ (μ 42 n x) n ≤ 168 then ch_at w k (ch_w w (1 + 2 * μ 42 n x + rl_ct μ (μ 42 n x) n)) else _) = _
      rw [if_pos (by omega)]
      have wd : ch_w w (1 + 2 * μ 42 n x + rl_ct μ (μ 42 n x) n) = bd_c μ n (wy_o (μ 42 n x) x) := by
        unfold ch_w
        rw [show (1 + 2 * μ 42 n x + rl_ct μ (μ 42 n x) n - 1) / 2 = μ 42 n x from by omega, show (1 + 2 * μ 42 n x + rl_ct μ (μ 42 n x) n - 1) % 2 = rl_ct μ (μ 42 n x) n from by omega]
        have lo := rl_lo_rng q t.1
        rw [hw _ _ (by omega) (by omega) (by omega) (by omega)]
        have := bS_wire H hn.2.1 (z := x.toNat) (by omega) (by rw [show ((x.toNat : Nat) : Int) = x from by omega]; exact q)
        rw [show ((x.toNat : Nat) : Int) = x from by omega] at this
        rw [← this]; rfl
      rw [wd]
      refine ih _ o.1 o.2.1 ?_ (by unfold wy_o; omega)
      unfold wy_o
      rcases z.2 with y | y
      · exact .inr y
      · exact .inl y
    · have c : bd_c μ n x = bE μ n := by unfold bd_c bE; rw [if_neg q]
      rw [c]
      exact ch_at_hi (by omega) _
theorem ch_end_pin {μ : ma_M} {w : Int → Int → Int} (H : bd_H μ) (hw : fr_w μ w) {n : Int} (n0 : 0 ≤ n) (n1 : n < μ 3 0 10) {x : Int} (hp : rl_pin μ n x) : tm_n μ n ∧ ch_end w (bd_c μ n x) = bE μ n := by
  have hk := cu_pin_node H.1.2.1 hp
  have hn : tm_n μ n := ⟨n0, n1, by rcases hk with z | z; exact .inl z; exact .inr (.inr z)⟩
  have xr := cu_pin_rng H.1.1 (cu_q_of H.1.2.2.1) hp
  obtain ⟨m, em⟩ : ∃ m : Nat, n = (m : Int) := ⟨n.toNat, by omega⟩
  subst em
  have T := H.1.2.2.2 m n0 n1
  obtain ⟨f, hf⟩ := T.2.2.2.2.1
  have f49 := (hf x xr.1 xr.2).2.1
  have e := ch_way H hw hn hf 200 x xr.1 xr.2 (T.2.2.2.2.2.1 x hp) (by omega)
  refine ⟨hn, ?_⟩
  have r := bE_rng H.1 hn
  unfold ch_end
  rw [e, if_neg (by omega)]
theorem ch_end_0 {w : Int → Int → Int} : ch_end w 0 = 0 := by
  have : ch_at w 200 0 = 0 := by
    show (if (1 : Int) ≤ 0 ∧ (0 : Int) ≤ 168 then _ else (0 : Int)) = 0
    rw [if_neg (by omega)]
  unfold ch_end
  rw [this, if_neg (by omega)]
/-- a cell's inputs -/
theorem ch_in {μ : ma_M} {w : Int → Int → Int} (H : bd_H μ) (hw : fr_w μ w) {b : Nat} (hb : (b : Int) < μ 21 0 7) {k : Int} (k0 : 0 ≤ k) (k1 : k < 4) : (k < μ 25 0 b → tm_n μ (μ 27 b k) ∧ ch_end w (w (μ 32 0 b / 6) (6 * (μ 32 0 b % 6) + 1 + k)) = bE μ (μ 27 b k)) ∧ (μ 25 0 b ≤ k → ch_end w (w (μ 32 0 b / 6) (6 * (μ 32 0 b % 6) + 1 + k)) = 0) := by
  have pb := H.1.2.2.1.1 b (by omega) hb
  have B := H.1.2.1.2.2.2.2.1 b (by omega) hb
  have e := bS_cell H hb (o := 1 + k) (by omega) (by omega)
  rw [hw _ _ (by omega) (by omega) (by omega) (by omega), show 36 * (μ 32 0 b / 6) + (6 * (μ 32 0 b % 6) + 1 + k) = 6 * μ 32 0 b + (1 + k) from by omega, e]
  unfold bd_b
  rw [if_neg (by omega)]
  refine ⟨fun q => ?_, fun q => ?_⟩
  · rw [if_pos (by omega), show 1 + k - 1 = k from by omega]
    have t := B.2.2.2.2.2.2.2.2.1 k k0 q
    exact ch_end_pin H hw t.2.1 t.2.2.1 (.inl ⟨b, k, by omega, hb, k0, q, rfl, rfl⟩)
  · rw [if_neg (by omega), if_neg (by omega)]
    exact ch_end_0
theorem so_bE {μ : ma_M} (H : tm_H μ) {n : Int} (hn : tm_n μ n) : so_n μ (bE μ n) = n := by
  unfold bE so_n
  rcases bE_of H hn with ⟨a, b⟩ | ⟨a, b⟩
  · rw [if_pos a, if_pos (by omega), show 300 + μ 10 0 n - 300 = μ 10 0 n from by omega]; exact b.2.2.2
  · rw [if_neg a]
    by_cases r : μ 4 0 n = 114
    · rw [if_pos r, if_neg (by omega), if_pos (by omega), show (201 + 2 * μ 32 0 (μ 28 0 n) - 200) / 2 = μ 32 0 (μ 28 0 n) from by omega, b.2.2.2.2.1, if_pos b.1, if_neg (by omega)]
      exact b.2.2.2.2.2.1 r
    · rw [if_neg r, if_neg (by omega), if_pos (by omega), show (200 + 2 * μ 32 0 (μ 28 0 n) - 200) / 2 = μ 32 0 (μ 28 0 n) from by omega, b.2.2.2.2.1, if_pos b.1, if_pos (by omega)]
      exact (b.2.2.2.2.2.2 r).1
theorem ch_val_bE {μ : ma_M} (H : tm_H μ) {n : Int} (hn : tm_n μ n) (g r t : Int → Int) : ch_val g r t (bE μ n) = if μ 4 0 n = 105 then g (μ 10 0 n) else if μ 4 0 n = 114 then r (μ 32 0 (μ 28 0 n)) else t (μ 32 0 (μ 28 0 n)) := by
  unfold bE ch_val
  rcases bE_of H hn with ⟨a, b⟩ | ⟨a, b⟩
  · rw [if_pos a, if_pos a, if_pos (by omega), show 300 + μ 10 0 n - 300 = μ 10 0 n from by omega]
  · rw [if_neg a, if_neg a]
    by_cases q : μ 4 0 n = 114
    · rw [if_pos q, if_pos q, if_neg (by omega), if_pos (by omega), if_neg (by omega), show (201 + 2 * μ 32 0 (μ 28 0 n) - 200) / 2 = μ 32 0 (μ 28 0 n) from by omega]
    · rw [if_neg q, if_neg q, if_neg (by omega), if_pos (by omega), if_pos (by omega), show (200 + 2 * μ 32 0 (μ 28 0 n) - 200) / 2 = μ 32 0 (μ 28 0 n) from by omega]
