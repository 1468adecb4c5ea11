/-! tools over the small machine's memory -/
theorem ma_up_rd (μ : ma_M) (k : Nat) (r i v : Int) (k' : Nat) (r' i' : Int) : ma_up μ k r i v k' r' i' = if k' = k ∧ r' = r ∧ i' = i then v else μ k' r' i' := rfl
theorem ma_up_ck {μ : ma_M} {k k' : Nat} {r i v : Int} (h : k' ≠ k) : ma_up μ k r i v k' = μ k' := by
  funext r' i'
  rw [ma_up_rd, if_neg (fun z => h z.1)]
theorem ma_up_eq {μ : ma_M} {k : Nat} {r i v : Int} : ma_up μ k r i v k r i = v := by rw [ma_up_rd, if_pos ⟨rfl, rfl, rfl⟩]
theorem ma_up_ne {μ : ma_M} {k : Nat} {r i v r' i' : Int} (h : ¬ (r' = r ∧ i' = i)) : ma_up μ k r i v k r' i' = μ k r' i' := by rw [ma_up_rd, if_neg (fun z => h z.2)]
/-- a loop that counts up to N -/
theorem ma_cnt {σ : Type} {P I : Int → σ → Prop} {N : Int} (hs : ∀ i s, 0 ≤ i → i < N → I i s → (∀ s', I (i + 1) s' → P (i + 1) s') → P i s) (he : ∀ s, I N s → P N s) : ∀ i s, 0 ≤ i → i ≤ N → I i s → P i s := by
  have key : ∀ (n : Nat) (i : Int) (s : σ), (N - i).toNat = n → 0 ≤ i → i ≤ N → I i s → P i s := by
    intro n
    induction n with
    | zero =>
      intro i s hn h0 h1 hI
      have e : i = N := by omega
      subst e
      exact he s hI
    | succ n ih =>
      intro i s hn h0 h1 hI
      exact hs i s h0 (by omega) hI (fun s' hI' => ih (i + 1) s' (by omega) (by omega) (by omega) hI')
  exact fun i s => key _ i s rfl
/-- a loop with a number that falls -/
theorem ma_wf {σ : Type} {P I : σ → Prop} (f : σ → Nat) (h : ∀ s, I s → (∀ s', I s' → f s' < f s → P s') → P s) : ∀ s, I s → P s := by
  have key : ∀ (n : Nat) (s : σ), f s < n → I s → P s := by
    intro n
    induction n with
    | zero => intro s hn; omega
    | succ n ih => exact fun s hn hI => h s hI (fun s' hI' hlt => ih s' (by omega) hI')
  exact fun s hI => key _ s (Nat.lt_succ_self _) hI
/-- a sum -/
def ma_sum (f : Int → Int) : Nat → Int
  | 0 => 0
  | n + 1 => ma_sum f n + f n
theorem ma_sum_cong {f g : Int → Int} : ∀ n : Nat, (∀ i : Int, 0 ≤ i → i < n → f i = g i) → ma_sum f n = ma_sum g n
  | 0, _ => rfl
  | n + 1, h => by
    simp only [ma_sum]
    rw [ma_sum_cong n (fun i h0 h1 => h i h0 (by omega)), h n (by omega) (by omega)]
theorem ma_sum_rng {f : Int → Int} {b : Int} : ∀ n : Nat, (∀ i : Int, 0 ≤ i → i < n → 0 ≤ f i ∧ f i ≤ b) → 0 ≤ ma_sum f n ∧ ma_sum f n ≤ b * n
  | 0, _ => by simp [ma_sum]
  | n + 1, h => by
    have h1 := ma_sum_rng n (fun i h0 h1 => h i h0 (by omega))
    have h2 := h n (by omega) (by omega)
    simp only [ma_sum]
    refine ⟨by omega, ?_⟩
    have : b * ((n + 1 : Nat) : Int) = b * n + b := by push_cast; rw [Int.mul_add, Int.mul_one]
    omega

