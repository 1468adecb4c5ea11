/-! wireOf -/
def wr_h (μ : ma_M) (n e : Int) : Prop := μ 42 n (rl_lo e) = e ∨ μ 42 n (rl_hi e) = e
theorem wr_hi1 {e : Int} (h : 42 ≤ e) : rl_hi e = rl_lo e + 1 := by unfold rl_hi; rw [if_neg (by omega)]
theorem wr_hi7 {e : Int} (h : e < 42) : rl_hi e = e + 7 ∧ rl_lo e = e := by unfold rl_hi rl_lo; rw [if_pos h, if_pos h]; exact ⟨rfl, rfl⟩
theorem wr_lo1 {e : Int} (h : 42 ≤ e) : 7 * Int.tdiv (e - 42) 6 + Int.tmod (e - 42) 6 = rl_lo e := by
  rw [td_nn (a := e - 42) (by omega), tm_nn (a := e - 42) (by omega)]; unfold rl_lo; rw [if_neg (by omega)]
theorem wr_ct {μ : ma_M} {e : Int} (n : Nat) : 0 ≤ rl_ct μ e n ∧ rl_ct μ e n ≤ n := by
  have := ma_sum_rng (f := fun i => if μ 42 i (rl_lo e) = e ∨ μ 42 i (rl_hi e) = e then 1 else 0) (b := 1) n (fun j _ _ => by
    show 0 ≤ (if μ 42 j (rl_lo e) = e ∨ μ 42 j (rl_hi e) = e then 1 else 0) ∧ _ ≤ _
    split <;> omega)
  unfold rl_ct; omega
theorem wr_ct1 {μ : ma_M} {e : Int} (n : Nat) : (wr_h μ n e → rl_ct μ e (n + 1) = rl_ct μ e n + 1) ∧ (¬ wr_h μ n e → rl_ct μ e (n + 1) = rl_ct μ e n) := by
  have un : rl_ct μ e (n + 1) = rl_ct μ e n + (if μ 42 n (rl_lo e) = e ∨ μ 42 n (rl_hi e) = e then 1 else 0) := rfl
  rw [un]
  unfold wr_h
  exact ⟨fun h => by rw [if_pos h], fun h => by rw [if_neg h]; omega⟩
theorem sp_wire {LS d : Nat} {Post : ma_R → ma_M → Prop} {μ : ma_M} {e : Int} {n : Nat} (e0 : 0 ≤ e) (e1 : e < 84) (n1 : n ≤ 48) (h : Post (.inl (some (ma_I (rl_ct μ e n)))) μ) : ma_Ox LS (d + 4) mi_Routes_wire [ma_Rf 40 0, ma_I n, ma_I e] μ Post := by
  refine gi_Routes_wire (fun R hR => s_Routes_wire_0 (d := d) hR ?_)
  have lo := rl_lo_rng e0 e1
  have hi := rl_hi_rng e0 e1
  have lp : ∀ (k i : Nat), i + k = n → R 5 [ma_Rf 40 0, ma_I n, ma_I e, ma_I (rl_ct μ e i), ma_I i] [] 0 μ := by
    intro k
    induction k with
    | zero =>
      intro i hi
      refine s_Routes_wire_5 hR ⟨fun _ => ?_, fun q => by omega⟩
      rw [show i = n from by omega]; exact h
    | succ k ih =>
      intro i hii
      have ct := wr_ct (μ := μ) (e := e) i
      have ct1 := wr_ct1 (μ := μ) (e := e) i
      have nx := ih (i + 1) (by omega)
      have Y : wr_h μ i e → (-2147483648 ≤ (rl_ct μ e i + 1) ∧ (rl_ct μ e i + 1) < 2147483648) ∧ (-2147483648 ≤ ((i : Int) + 1) ∧ ((i : Int) + 1) < 2147483648) ∧ R 5 [ma_Rf 40 0, ma_I n, ma_I e, ma_I (rl_ct μ e i + 1), ma_I ((i : Int) + 1)] [] 0 μ := fun w => by
        rw [ct1.1 w] at nx; exact ⟨by omega, by omega, nx⟩
      have N : ¬ wr_h μ i e → (-2147483648 ≤ (rl_ct μ e i + 0) ∧ (rl_ct μ e i + 0) < 2147483648) ∧ (-2147483648 ≤ ((i : Int) + 1) ∧ ((i : Int) + 1) < 2147483648) ∧ R 5 [ma_Rf 40 0, ma_I n, ma_I e, ma_I (rl_ct μ e i + 0), ma_I ((i : Int) + 1)] [] 0 μ := fun w => by
        rw [ct1.2 w] at nx; exact ⟨by omega, by omega, by rw [Int.add_zero]; exact nx⟩
      unfold wr_h at Y N
      refine s_Routes_wire_5 hR ⟨fun q => by omega, fun _ => ⟨fun p => ?_, fun p => ?_⟩⟩
      · rw [wr_lo1 p, td_nn (a := e - 42) (by omega)]
        rw [wr_hi1 p] at Y N hi
        exact ⟨by omega, by omega, by omega, by omega, by omega, by omega, fun q => Y (.inl q), fun q => ⟨by omega, fun z => absurd rfl z, fun _ => ⟨by omega, fun r => N (fun z => by rcases z with z | z; exact q z; exact r z), fun r => Y (.inr r)⟩⟩⟩
      · have h7 := wr_hi7 p
        rw [h7.1, h7.2] at Y N
        exact ⟨by omega, by omega, fun q => Y (.inl q), fun q => ⟨by omega, fun z => absurd rfl z, fun _ => ⟨by omega, fun r => N (fun z => by rcases z with z | z; exact q z; exact r z), fun r => Y (.inr r)⟩⟩⟩
  exact lp n 0 (by omega)
