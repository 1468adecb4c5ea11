/-- a net that is none changes nothing -/
theorem bd_N_no {μ : ma_M} {n : Int} {S : Int → Int} (T : rl_t μ n) (h : rl_ne μ n = 0) : ∀ x : Nat, x ≤ 49 → bd_N μ n S x = S := by
  intro x
  induction x with
  | zero => intro _; rfl
  | succ x ih =>
    intro hx
    have un : bd_N μ n S (x + 1) = if 0 ≤ μ 42 n x then bd_up (bd_N μ n S x) (bd_w (μ 42 n x) (rl_ct μ (μ 42 n x) n.toNat)) (bd_c μ n (wy_o (μ 42 n x) x)) else bd_N μ n S x := rfl
    have := (T.2.2.1 x (by omega) (by omega)).2.2.1 h
    rw [un, if_neg (by omega)]
    exact ih (by omega)
/-- what is written stays a word -/
def bd_g (S : Int → Int) : Prop := ∀ k : Int, 0 ≤ S k ∧ S k ≤ 65535
theorem bd_g_up {S : Int → Int} {k v : Int} (h : bd_g S) (a : 0 ≤ v) (b : v ≤ 65535) : bd_g (bd_up S k v) := fun j => by
  unfold bd_up
  by_cases e : j = k
  · rw [if_pos e]; exact ⟨a, b⟩
  · rw [if_neg e]; exact h j
theorem bd_g_B {μ : ma_M} (H : bd_H μ) : ∀ b : Nat, (b : Int) ≤ μ 21 0 7 → bd_g (bd_B μ b) := by
  intro b
  induction b with
  | zero => exact fun _ j => ⟨Int.le_refl 0, by show (0 : Int) ≤ 65535; omega⟩
  | succ b ih =>
    intro hb j
    have un : bd_B μ (b + 1) j = if 6 * μ 32 0 b ≤ j ∧ j < 6 * μ 32 0 b + 6 then bd_b μ b (j - 6 * μ 32 0 b) else bd_B μ b j := rfl
    rw [un]
    by_cases p : 6 * μ 32 0 b ≤ j ∧ j < 6 * μ 32 0 b + 6
    · rw [if_pos p]
      have B := H.1.2.1.2.2.2.2.1 b (by omega) (by omega)
      have pb := H.1.2.2.1.1 b (by omega) (by omega)
      have xr := rl_x_rng pb.2.1 pb.2.2.1
      unfold bd_b
      by_cases q0 : j - 6 * μ 32 0 b = 0
      · rw [if_pos q0]; exact ⟨B.2.2.2.1, B.2.2.2.2.1⟩
      · rw [if_neg q0]
        by_cases q1 : j - 6 * μ 32 0 b ≤ μ 25 0 b
        · rw [if_pos q1]
          have := bd_c_rng H (tm_n_in H.1 (b := b) (k := j - 6 * μ 32 0 b - 1) (by omega) (by omega) (by omega) (by omega)) (x := rl_x (μ 32 0 b)) (by omega) (by omega)
          omega
        · rw [if_neg q1]
          by_cases q2 : j - 6 * μ 32 0 b = 5 ∧ 0 ≤ μ 23 0 b
          · rw [if_pos q2]
            have rg : 0 ≤ μ 23 0 b ∧ μ 23 0 b < μ 3 0 10 ∧ μ 4 0 (μ 23 0 b) = 114 := by
              rcases B.2.2.2.2.2.2.2.2.2.2 with z | z
              · omega
              · exact ⟨z.1, z.2.1, z.2.2.1⟩
            have rn := (H.1.1.2.2.2.2.2.2.2.2.2.2.2.2.1 _ rg.1 rg.2.1).2.2.2.1 rg.2.2
            omega
          · rw [if_neg q2]; omega
    · rw [if_neg p]; exact ih (by omega) j
theorem bd_g_N {μ : ma_M} (H : bd_H μ) {S : Int → Int} {n : Nat} (hn : (n : Int) < μ 3 0 10) (h : bd_g S) : ∀ x : Nat, x ≤ 49 → bd_g (bd_N μ n S x) := by
  have W := wy_of (H.1.2.2.2 n (by omega) hn)
  intro x
  induction x with
  | zero => exact fun _ => h
  | succ x ih =>
    intro hx
    have un : bd_N μ n S (x + 1) = if 0 ≤ μ 42 n x then bd_up (bd_N μ n S x) (bd_w (μ 42 n x) (rl_ct μ (μ 42 n x) (n : Int).toNat)) (bd_c μ n (wy_o (μ 42 n x) x)) else bd_N μ n S x := rfl
    rw [un]
    by_cases q : 0 ≤ μ 42 n x
    · rw [if_pos q]
      have tn := (bd_tn H.1 (n := n) (by omega) hn (by omega) (by omega) q).2
      have o := wy_o_rng W (by omega) (by omega) q
      have := bd_c_rng H tn o.1 o.2.1
      exact bd_g_up (ih (by omega)) (by omega) (by omega)
    · rw [if_neg q]; exact ih (by omega)
theorem bd_g_NN {μ : ma_M} (H : bd_H μ) {S : Int → Int} (h : bd_g S) : ∀ n : Nat, (n : Int) ≤ μ 3 0 10 → bd_g (bd_NN μ S n) := by
  intro n
  induction n with
  | zero => exact fun _ => h
  | succ n ih => exact fun hn => bd_g_N H (n := n) (by omega) (ih (by omega)) 49 (Nat.le_refl 49)
theorem bd_out {μ : ma_M} (H : bd_H μ) {o : Int} (o0 : 0 ≤ o) (o1 : o < μ 3 0 13) : tm_n μ (μ 13 0 o) ∧ rl_ne μ (μ 13 0 o) = 1 := by
  have oo := H.1.1.2.2.2.2.2.2.2.2.2.2.2.2.2.2.2.2.2 o o0 o1
  refine ⟨⟨oo.2.1, oo.2.2, by rcases H.1.2.1.2.2.2.2.2.1 o o0 o1 with z | z; exact .inl z; exact .inr (.inr z)⟩, ?_⟩
  exact (H.1.2.2.2 _ oo.2.1 oo.2.2).2.1.2 ⟨_, .inr ⟨o, o0, o1, rfl, rfl⟩⟩
theorem bd_g_O {μ : ma_M} (H : bd_H μ) {S : Int → Int} (h : bd_g S) : ∀ n : Nat, (n : Int) ≤ μ 3 0 13 → bd_g (bd_O μ S n) := by
  have O1 := H.1.1.2.2.2.2.2.2.2.1
  intro n
  induction n with
  | zero => exact fun _ => h
  | succ n ih =>
    intro hn
    have := bd_c_rng H (bd_out H (o := n) (by omega) (by omega)).1 (x := 42 + n) (by omega) (by omega)
    exact bd_g_up (ih (by omega)) (by omega) (by omega)
def bd_1 (S : Int → Int) : Nat → Int := ma_sum (fun k => if S k = 0 then 0 else 1)
theorem bd_1_rng {S : Int → Int} (n : Nat) : 0 ≤ bd_1 S n ∧ bd_1 S n ≤ n := by
  have := ma_sum_rng (f := fun k => if S k = 0 then 0 else 1) (b := 1) n (fun j _ _ => by
    show 0 ≤ (if S j = 0 then 0 else 1) ∧ _ ≤ _
    split <;> omega)
  unfold bd_1; omega
theorem bd_1_s {S : Int → Int} (n : Nat) : bd_1 S (n + 1) = bd_1 S n + (if S n = 0 then 0 else 1) := rfl
theorem sp_inUse {LS d : Nat} {Post : ma_R → ma_M → Prop} {m : ma_M} {S : Int → Int} (h : bd_R m S) (hp : Post (.inl (some (ma_I (bd_1 S 504)))) m) : ma_Ox LS (d + 1) mi_Frames_wordsInUse [ma_Rf 53 0] m Post := by
  refine gi_Frames_wordsInUse (fun R hR => s_Frames_wordsInUse_0 (d := d) hR ?_)
  have lp : ∀ (k f : Nat), f + k = 14 → ∀ u : ma_V, R 4 [ma_Rf 53 0, ma_I (bd_1 S (36 * f)), ma_I f, u] [] 0 m := by
    intro k
    induction k with
    | zero =>
      intro f hf u
      refine s_Frames_wordsInUse_4 hR ⟨fun _ => ?_, fun q => by omega⟩
      rw [show f = 14 from by omega]; exact hp
    | succ k ih =>
      intro f hf u
      refine s_Frames_wordsInUse_4 hR ⟨fun q => by omega, fun _ => ?_⟩
      have lp2 : ∀ (j i : Nat), i + j = 36 → R 12 [ma_Rf 53 0, ma_I (bd_1 S (36 * f + i)), ma_I f, ma_I i] [] 0 m := by
        intro j
        induction j with
        | zero =>
          intro i hi
          refine s_Frames_wordsInUse_12 hR ⟨fun _ => ⟨by omega, ?_⟩, fun q => by omega⟩
          rw [show 36 * f + i = 36 * (f + 1) from by omega]
          exact ih (f + 1) (by omega) _
        | succ j ihj =>
          intro i hi
          refine s_Frames_wordsInUse_12 hR ⟨fun q => by omega, fun _ => ?_⟩
          have rg := bd_1_rng (S := S) (36 * f + i)
          have s1 := bd_1_s (S := S) (36 * f + i)
          have nx := ihj (i + 1) (by omega)
          rw [show 36 * f + (i + 1) = 36 * f + i + 1 from rfl, s1, show ((36 * f + i : Nat) : Int) = 36 * (f : Int) + i from by omega] at nx
          rw [h f i (by omega) (by omega) (by omega) (by omega)]
          refine ⟨by omega, by omega, fun z => ?_, fun z => ?_⟩
          · rw [if_pos z] at nx; exact ⟨by omega, by omega, nx⟩
          · rw [if_neg z] at nx; exact ⟨by omega, by omega, nx⟩
      exact lp2 36 0 (by omega)
  exact lp 14 0 (by omega) _
