/-! build: the reference, and both -/
def bd_u (M m μ : ma_M) : Prop := (∀ c : Nat, c ≠ 2 → c ≠ 55 → c ≠ 69 → c ≠ 101 → c ≠ 111 → m c = μ c) ∧ (∀ f : Int, f ≠ 50 → m 69 0 f = μ 69 0 f) ∧ m 69 0 50 = 0 ∧ ∀ c : Nat, c ≠ 69 → c ≠ 101 → m c = M c
theorem bd_u_up {M m μ : ma_M} {i v : Int} (h : bd_u M m μ) : bd_u M (ma_up m 101 0 i v) μ := ⟨fun c c1 c2 c3 c4 c5 => by rw [ma_up_ck c4]; exact h.1 c c1 c2 c3 c4 c5, fun f hf => by rw [ma_up_ck (by decide)]; exact h.2.1 f hf, by rw [ma_up_ck (by decide)]; exact h.2.2.1, fun c c1 c2 => by rw [ma_up_ck c2]; exact h.2.2.2 c c1 c2⟩
theorem bd_u_o {M m μ : ma_M} (h : bd_u M m μ) : ∀ c : Nat, c ∈ ([70, 73, 75, 76, 77, 81, 84, 85, 86, 87, 88, 91, 92, 95, 109] : List Nat) → m c = μ c := fun c hc => h.1 c (by rintro rfl; revert hc; decide) (by rintro rfl; revert hc; decide) (by rintro rfl; revert hc; decide) (by rintro rfl; revert hc; decide) (by rintro rfl; revert hc; decide)
def bd_Q (m : ma_M) (S : Int → Int) : Prop := ∀ k : Int, 0 ≤ k → k < 504 → m 101 0 k = S k
theorem bd_Q_up {m : ma_M} {S : Int → Int} {k v : Int} (h : bd_Q m S) : bd_Q (ma_up m 101 0 k v) (bd_up S k v) := fun j a b => by
  unfold bd_up
  by_cases e : j = k
  · rw [e, ma_up_eq, if_pos rfl]
  · rw [ma_up_ne (fun z => e z.2), if_neg e]; exact h j a b
theorem bd_Q_cg {m : ma_M} {S S' : Int → Int} (h : bd_Q m S) (e : ∀ j : Int, 0 ≤ j → j < 504 → S j = S' j) : bd_Q m S' := fun j a b => by rw [h j a b]; exact e j a b
theorem sp_codeAtR {LS d : Nat} {Post : ma_R → ma_M → Prop} {M μ m : ma_M} {n x : Int} (H : bd_H μ) (hm : bd_u M m μ) (hn : tm_n μ n) (hk : μ 92 0 n = 1) (x0 : 0 ≤ x) (x1 : x < 49) (h : Post (.inl (some (ma_I (bd_c μ n x)))) m) : ma_Ox LS (d + 2) mi_LatticefitModel_codeAt [ma_Rf 69 0, ma_I n, ma_I x] m Post := by
  have N1 := H.1.1.2.1
  have cr := bd_c_rng H hn x0 x1
  obtain ⟨n0, n1, hk3⟩ := id hn
  have T := H.1.2.2.2 n n0 n1
  have a := T.2.2.1 x x0 x1
  have a95 := a.2.2.2.1 hk
  have nn := H.1.1.2.2.2.2.2.2.2.2.2.2.2.2.1 n n0 n1
  have mm := H.1.2.1.2.2.2.1 n n0 n1
  have M7 := H.1.2.1.2.1
  obtain ⟨k, rfl⟩ : ∃ k : Nat, n = (k : Int) := ⟨n.toNat, by omega⟩
  have q70 := nn.1
  have q81 := mm.2.2.2.2.1
  refine gi_LatticefitModel_codeAt (fun R hR => s_LatticefitModel_codeAt_0 (d := d) hR ?_)
  rw [bd_u_o hm 95 (by decide), bd_u_o hm 70 (by decide), bd_u_o hm 81 (by decide), bd_u_o hm 85 (by decide), bd_u_o hm 75 (by decide), a95, q70, q81]
  unfold bd_c at h cr
  refine ⟨by omega, by omega, by omega, fun q => ?_, fun q => ?_⟩
  · rw [if_pos q, Int.toNat_natCast] at h cr
    refine ⟨by omega, by omega, ?_⟩
    exact sp_wireR (d := d) (μ := μ) ⟨bd_u_o hm 91 (by decide), bd_u_o hm 92 (by decide)⟩ q a.2.1 (by omega) (fun i i0 i1 => H.1.2.2.2 i i0 (by omega)) (k_LatticefitModel_codeAt_32 hR ⟨by omega, h⟩)
  · rw [if_neg (by omega)] at h cr
    refine ⟨by omega, fun p => ?_, fun p => ?_⟩
    · rw [if_neg p] at h cr
      have b0 : 0 ≤ μ 28 0 (k : Int) := by
        rcases hk3 with z | z | z
        · exact absurd z p
        · exact mm.2.2.2.2.2.2.2.1.2 (.inl z)
        · exact z
      have b1 := mm.2.2.2.2.2.2.1
      have c := H.1.2.2.1.1 _ b0 b1
      have c85 := c.1
      rw [c85]
      refine ⟨fun r => ?_, fun r => ?_⟩
      · rw [if_neg r] at h; exact ⟨by omega, by omega, by omega, h⟩
      · rw [if_pos r] at h; exact ⟨by omega, by omega, by omega, h⟩
    · rw [if_pos p] at h cr
      have t := (nn.2.2.1 p).1
      rw [t]
      exact ⟨by omega, h⟩
/-- a net that is none changes nothing -/
theorem bd_N_no {μ : ma_M} {n : Int} {S : Int → Int} (T : rl_t μ n) (h : μ 92 0 n = 0) : ∀ x : Nat, x ≤ 49 → bd_N μ n S x = S := by
  intro x
  induction x with
  | zero => intro _; rfl
  | succ x ih =>
    intro hx
    have un : bd_N μ n S (x + 1) = if 0 ≤ μ 42 n x then bd_up (bd_N μ n S x) (bd_w (μ 42 n x) (rl_ct μ (μ 42 n x) n.toNat)) (bd_c μ n (wy_o (μ 42 n x) x)) else bd_N μ n S x := rfl
    have := (T.2.2.1 x (by omega) (by omega)).2.2.1 h
    rw [un, if_neg (by omega)]
    exact ih (by omega)
/-- what is written stays a word -/
def bd_g (S : Int → Int) : Prop := ∀ k : Int, 0 ≤ S k ∧ S k ≤ 65535
theorem bd_g_up {S : Int → Int} {k v : Int} (h : bd_g S) (a : 0 ≤ v) (b : v ≤ 65535) : bd_g (bd_up S k v) := fun j => by
  unfold bd_up
  by_cases e : j = k
  · rw [if_pos e]; exact ⟨a, b⟩
  · rw [if_neg e]; exact h j
theorem bd_g_B {μ : ma_M} (H : bd_H μ) : ∀ b : Nat, (b : Int) ≤ μ 21 0 7 → bd_g (bd_B μ b) := by
  intro b
  induction b with
  | zero => exact fun _ j => ⟨Int.le_refl 0, by show (0 : Int) ≤ 65535; omega⟩
  | succ b ih =>
    intro hb j
    have un : bd_B μ (b + 1) j = if 6 * μ 32 0 b ≤ j ∧ j < 6 * μ 32 0 b + 6 then bd_b μ b (j - 6 * μ 32 0 b) else bd_B μ b j := rfl
    rw [un]
    by_cases p : 6 * μ 32 0 b ≤ j ∧ j < 6 * μ 32 0 b + 6
    · rw [if_pos p]
      have B := H.1.2.1.2.2.2.2.1 b (by omega) (by omega)
      have pb := H.1.2.2.1.1 b (by omega) (by omega)
      have xr := rl_x_rng pb.2.1 pb.2.2.1
      unfold bd_b
      by_cases q0 : j - 6 * μ 32 0 b = 0
      · rw [if_pos q0]; exact ⟨B.2.2.2.1, B.2.2.2.2.1⟩
      · rw [if_neg q0]
        by_cases q1 : j - 6 * μ 32 0 b ≤ μ 25 0 b
        · rw [if_pos q1]
          have := bd_c_rng H (tm_n_in H.1 (b := b) (k := j - 6 * μ 32 0 b - 1) (by omega) (by omega) (by omega) (by omega)) (x := rl_x (μ 32 0 b)) (by omega) (by omega)
          omega
        · rw [if_neg q1]
          by_cases q2 : j - 6 * μ 32 0 b = 5 ∧ 0 ≤ μ 23 0 b
          · rw [if_pos q2]
            have rg : 0 ≤ μ 23 0 b ∧ μ 23 0 b < μ 3 0 10 ∧ μ 4 0 (μ 23 0 b) = 114 := by
              rcases B.2.2.2.2.2.2.2.2.2.2 with z | z
              · omega
              · exact ⟨z.1, z.2.1, z.2.2.1⟩
            have rn := (H.1.1.2.2.2.2.2.2.2.2.2.2.2.2.1 _ rg.1 rg.2.1).2.2.2.1 rg.2.2
            omega
          · rw [if_neg q2]; omega
    · rw [if_neg p]; exact ih (by omega) j
theorem bd_g_N {μ : ma_M} (H : bd_H μ) {S : Int → Int} {n : Nat} (hn : (n : Int) < μ 3 0 10) (h : bd_g S) : ∀ x : Nat, x ≤ 49 → bd_g (bd_N μ n S x) := by
  have W := wy_of (H.1.2.2.2 n (by omega) hn)
  intro x
  induction x with
  | zero => exact fun _ => h
  | succ x ih =>
    intro hx
    have un : bd_N μ n S (x + 1) = if 0 ≤ μ 42 n x then bd_up (bd_N μ n S x) (bd_w (μ 42 n x) (rl_ct μ (μ 42 n x) (n : Int).toNat)) (bd_c μ n (wy_o (μ 42 n x) x)) else bd_N μ n S x := rfl
    rw [un]
    by_cases q : 0 ≤ μ 42 n x
    · rw [if_pos q]
      have tn := (bd_tn H.1 (n := n) (by omega) hn (by omega) (by omega) q).2
      have o := wy_o_rng W (by omega) (by omega) q
      have := bd_c_rng H tn o.1 o.2.1
      exact bd_g_up (ih (by omega)) (by omega) (by omega)
    · rw [if_neg q]; exact ih (by omega)
theorem bd_g_NN {μ : ma_M} (H : bd_H μ) {S : Int → Int} (h : bd_g S) : ∀ n : Nat, (n : Int) ≤ μ 3 0 10 → bd_g (bd_NN μ S n) := by
  intro n
  induction n with
  | zero => exact fun _ => h
  | succ n ih => exact fun hn => bd_g_N H (n := n) (by omega) (ih (by omega)) 49 (Nat.le_refl 49)
theorem bd_out {μ : ma_M} (H : bd_H μ) {o : Int} (o0 : 0 ≤ o) (o1 : o < μ 3 0 13) : tm_n μ (μ 13 0 o) ∧ μ 92 0 (μ 13 0 o) = 1 := by
  have oo := H.1.1.2.2.2.2.2.2.2.2.2.2.2.2.2.2.2.2.2 o o0 o1
  refine ⟨⟨oo.2.1, oo.2.2, by rcases H.1.2.1.2.2.2.2.2.1 o o0 o1 with z | z; exact .inl z; exact .inr (.inr z)⟩, ?_⟩
  exact (H.1.2.2.2 _ oo.2.1 oo.2.2).2.1.2 ⟨_, .inr ⟨o, o0, o1, rfl, rfl⟩⟩
theorem bd_g_O {μ : ma_M} (H : bd_H μ) {S : Int → Int} (h : bd_g S) : ∀ n : Nat, (n : Int) ≤ μ 3 0 13 → bd_g (bd_O μ S n) := by
  have O1 := H.1.1.2.2.2.2.2.2.2.1
  intro n
  induction n with
  | zero => exact fun _ => h
  | succ n ih =>
    intro hn
    have := bd_c_rng H (bd_out H (o := n) (by omega) (by omega)).1 (x := 42 + n) (by omega) (by omega)
    exact bd_g_up (ih (by omega)) (by omega) (by omega)
def bd_1 (S : Int → Int) : Nat → Int := ma_sum (fun k => if S k = 0 then 0 else 1)
theorem bd_1_rng {S : Int → Int} (n : Nat) : 0 ≤ bd_1 S n ∧ bd_1 S n ≤ n := by
  have := ma_sum_rng (f := fun k => if S k = 0 then 0 else 1) (b := 1) n (fun j _ _ => by
    show 0 ≤ (if S j = 0 then 0 else 1) ∧ _ ≤ _
    split <;> omega)
  unfold bd_1; omega
theorem bd_1_s {S : Int → Int} (n : Nat) : bd_1 S (n + 1) = bd_1 S n + (if S n = 0 then 0 else 1) := rfl
theorem sp_inUse {LS d : Nat} {Post : ma_R → ma_M → Prop} {m : ma_M} {S : Int → Int} (h : bd_R m S) (hp : Post (.inl (some (ma_I (bd_1 S 504)))) m) : ma_Ox LS (d + 1) mi_Frames_wordsInUse [ma_Rf 53 0] m Post := by
  refine gi_Frames_wordsInUse (fun R hR => s_Frames_wordsInUse_0 (d := d) hR ?_)
  have lp : ∀ (k f : Nat), f + k = 14 → ∀ u : ma_V, R 4 [ma_Rf 53 0, ma_I (bd_1 S (36 * f)), ma_I f, u] [] 0 m := by
    intro k
    induction k with
    | zero =>
      intro f hf u
      refine s_Frames_wordsInUse_4 hR ⟨fun _ => ?_, fun q => by omega⟩
      rw [show f = 14 from by omega]; exact hp
    | succ k ih =>
      intro f hf u
      refine s_Frames_wordsInUse_4 hR ⟨fun q => by omega, fun _ => ?_⟩
      have lp2 : ∀ (j i : Nat), i + j = 36 → R 12 [ma_Rf 53 0, ma_I (bd_1 S (36 * f + i)), ma_I f, ma_I i] [] 0 m := by
        intro j
        induction j with
        | zero =>
          intro i hi
          refine s_Frames_wordsInUse_12 hR ⟨fun _ => ⟨by omega, ?_⟩, fun q => by omega⟩
          rw [show 36 * f + i = 36 * (f + 1) from by omega]
          exact ih (f + 1) (by omega) _
        | succ j ihj =>
          intro i hi
          refine s_Frames_wordsInUse_12 hR ⟨fun q => by omega, fun _ => ?_⟩
          have rg := bd_1_rng (S := S) (36 * f + i)
          have s1 := bd_1_s (S := S) (36 * f + i)
          have nx := ihj (i + 1) (by omega)
          rw [show 36 * f + (i + 1) = 36 * f + i + 1 from rfl, s1, show ((36 * f + i : Nat) : Int) = 36 * (f : Int) + i from by omega] at nx
          rw [h f i (by omega) (by omega) (by omega) (by omega)]
          refine ⟨by omega, by omega, fun z => ?_, fun z => ?_⟩
          · rw [if_pos z] at nx; exact ⟨by omega, by omega, nx⟩
          · rw [if_neg z] at nx; exact ⟨by omega, by omega, nx⟩
      exact lp2 36 0 (by omega)
  exact lp 14 0 (by omega) _
theorem sp_buildR {LS d : Nat} {Post : ma_R → ma_M → Prop} {M μ : ma_M} (H : bd_H μ) (Hz : rl_z μ) (hM : ∀ c : Nat, c ≠ 2 → c ≠ 55 → c ≠ 111 → M c = μ c) (h27 : ¬ μ 69 0 27 = 0) (h : ∀ m : ma_M, bd_u M m μ → bd_Q m (bd_O μ (bd_NN μ (bd_B μ (μ 21 0 7).toNat) (μ 3 0 10).toNat) (μ 3 0 13).toNat) → Post (.inl (some (ma_I (bd_1 (bd_O μ (bd_NN μ (bd_B μ (μ 21 0 7).toNat) (μ 3 0 10).toNat) (μ 3 0 13).toNat) 504)))) (ma_up (ma_up m 69 0 28 1) 69 0 29 0)) : ma_Ox LS (d + 3) mi_LatticefitModel_build [ma_Rf 69 0] M Post := by
  have N0 := H.1.1.1
  have N1 := H.1.1.2.1
  have O0 := H.1.1.2.2.2.2.2.2.1
  have O1 := H.1.1.2.2.2.2.2.2.2.1
  have n8 := H.1.1.2.2.2.2.2.2.2.2.1
  have n11 := H.1.1.2.2.2.2.2.2.2.2.2.2.2.1
  have M70 := H.1.2.1.1
  have M71 := H.1.2.1.2.1
  have n25 := H.1.2.1.2.2.1
  obtain ⟨N, hN⟩ : ∃ N : Nat, μ 3 0 10 = (N : Int) := ⟨(μ 3 0 10).toNat, by omega⟩
  obtain ⟨O, hO⟩ : ∃ O : Nat, μ 3 0 13 = (O : Int) := ⟨(μ 3 0 13).toNat, by omega⟩
  obtain ⟨B, hB⟩ : ∃ B : Nat, μ 21 0 7 = (B : Int) := ⟨(μ 21 0 7).toNat, by omega⟩
  rw [hN, hO, hB, Int.toNat_natCast, Int.toNat_natCast, Int.toNat_natCast] at h
  refine gi_LatticefitModel_build (fun R hR => s_LatticefitModel_build_0 (d := d) hR ?_)
  rw [show M 69 = μ 69 from hM 69 (by decide) (by decide) (by decide)]
  refine ⟨fun _ => ?_, fun q => absurd q h27⟩
  have f25 : ∀ m : ma_M, bd_u M m μ → m 69 0 25 = (B : Int) := fun m hm => by rw [hm.2.1 25 (by decide)]; omega
  have f8 : ∀ m : ma_M, bd_u M m μ → m 69 0 8 = (N : Int) := fun m hm => by rw [hm.2.1 8 (by decide)]; omega
  have f11 : ∀ m : ma_M, bd_u M m μ → m 69 0 11 = (O : Int) := fun m hm => by rw [hm.2.1 11 (by decide)]; omega
  -- the count
  have l340 : ∀ (S : Int → Int) (k i : Nat) (m : ma_M), i + k = 504 → bd_u M m μ → bd_Q m S → Post (.inl (some (ma_I (bd_1 S 504)))) (ma_up (ma_up m 69 0 28 1) 69 0 29 0) → ∀ u : ma_V, R 340 [ma_Rf 69 0, ma_I (bd_1 S i), ma_I i, u] [] 0 m := by
    intro S k
    induction k with
    | zero =>
      intro i m hi hm hS hp u
      refine s_LatticefitModel_build_340 hR ⟨fun _ => ?_, fun q => by omega⟩
      rw [show i = 504 from by omega]; exact hp
    | succ k ih =>
      intro i m hi hm hS hp u
      refine s_LatticefitModel_build_340 hR ⟨fun q => by omega, fun _ => ?_⟩
      have rg := bd_1_rng (S := S) i
      have s1 := bd_1_s (S := S) i
      have nx := ih (i + 1) m (by omega) hm hS hp ma_U
      rw [s1] at nx
      rw [hS i (by omega) (by omega)]
      refine ⟨by omega, fun z => ?_, fun z => ?_⟩
      · rw [if_neg z] at nx; exact ⟨by omega, by omega, nx⟩
      · rw [if_pos z] at nx; exact ⟨by omega, by omega, nx⟩
  -- the outputs
  have l300 : ∀ (k o : Nat) (m : ma_M), o + k = O → bd_u M m μ → bd_Q m (bd_O μ (bd_NN μ (bd_B μ B) N) o) → ∀ u : ma_V, R 300 [ma_Rf 69 0, ma_I 0, ma_I o, u] [] 0 m := by
    intro k
    induction k with
    | zero =>
      intro o m ho hm hS u
      rw [show o = O from by omega] at hS ⊢
      exact s_LatticefitModel_build_300 hR ⟨fun _ => l340 _ 504 0 m (by omega) hm hS (h m hm hS) _, fun q => by rw [f11 m hm] at q; omega⟩
    | succ k ih =>
      intro o m ho hm hS u
      have tn := bd_out H (o := o) (by omega) (by omega)
      have oo := (H.1.1.2.2.2.2.2.2.2.2.2.2.2.2.2.2.2.2.2 o (by omega) (by omega)).1
      refine s_LatticefitModel_build_300 hR ⟨fun q => by rw [f11 m hm] at q; omega, fun _ => ?_⟩
      rw [bd_u_o hm 76 (by decide), oo]
      refine ⟨by omega, by omega, by omega, sp_codeAtR (d := d) H hm tn.1 tn.2 (by omega) (by omega) (k_LatticefitModel_build_328 hR ⟨by omega, by omega, ih (o + 1) _ (by omega) (bd_u_up hm) (bd_Q_up hS) _⟩)⟩
  -- the nets
  have l199 : ∀ (k n : Nat) (m : ma_M), n + k = N → bd_u M m μ → bd_Q m (bd_NN μ (bd_B μ B) n) → ∀ u v : ma_V, R 199 [ma_Rf 69 0, ma_I n, u, v] [] 0 m := by
    intro k
    induction k with
    | zero =>
      intro n m hn hm hS u v
      rw [show n = N from by omega] at hS ⊢
      exact s_LatticefitModel_build_199 hR ⟨fun _ => l300 O 0 m (by omega) hm hS _, fun q => by rw [f8 m hm] at q; omega⟩
    | succ k ih =>
      intro n m hn hm hS u v
      refine s_LatticefitModel_build_199 hR ⟨fun q => by rw [f8 m hm] at q; omega, fun _ => ?_⟩
      have T := H.1.2.2.2 n (by omega) (by omega)
      have W := wy_of T
      have lp : ∀ (j x : Nat) (m' : ma_M), x + j = 49 → bd_u M m' μ → bd_Q m' (bd_N μ n (bd_NN μ (bd_B μ B) n) x) → ∀ u : ma_V, R 209 [ma_Rf 69 0, ma_I n, ma_I x, u] [] 0 m' := by
        intro j
        induction j with
        | zero =>
          intro x m' hx hm' hS' u
          rw [show x = 49 from by omega] at hS' ⊢
          exact s_LatticefitModel_build_209 hR ⟨fun _ => ⟨by omega, ih (n + 1) m' (by omega) hm' hS' _ _⟩, fun q => by omega⟩
        | succ j ihj =>
          intro x m' hx hm' hS' u
          have un : bd_N μ n (bd_NN μ (bd_B μ B) n) (x + 1) = if 0 ≤ μ 42 n x then bd_up (bd_N μ n (bd_NN μ (bd_B μ B) n) x) (bd_w (μ 42 n x) (rl_ct μ (μ 42 n x) (n : Int).toNat)) (bd_c μ n (wy_o (μ 42 n x) x)) else bd_N μ n (bd_NN μ (bd_B μ B) n) x := rfl
          refine s_LatticefitModel_build_209 hR ⟨fun q => by omega, fun _ => ?_⟩
          rw [bd_u_o hm' 92 (by decide), bd_u_o hm' 95 (by decide)]
          refine ⟨by omega, fun p => ⟨by omega, ih (n + 1) m' (by omega) hm' (bd_Q_cg hS' (fun i _ _ => ?_)) _ _⟩, fun p => ?_⟩
          · show _ = bd_N μ n (bd_NN μ (bd_B μ B) n) 49 i
            rw [bd_N_no T p x (by omega), bd_N_no T p 49 (by omega)]
          · have p1 : μ 92 0 n = 1 := by rcases T.1 with z | z; exact absurd z p; exact z
            have wx := T.2.2.1 x (by omega) (by omega)
            rw [wx.2.2.2.1 p1]
            refine ⟨by omega, by omega, by omega, fun q => ⟨by omega, ihj (x + 1) m' (by omega) hm' (by rw [un, if_neg (by omega)]; exact hS') _⟩, fun q => ⟨by omega, ?_⟩⟩
            have tn := (bd_tn H.1 (n := n) (by omega) (by omega) (by omega) (by omega) q).2
            have o := wy_o_rng W (by omega) (by omega) q
            have wh := bd_has T (by omega) (by omega) q
            have ct := bd_ct (N := (μ 3 0 10).toNat) (by omega) wh (H.2 _ q wx.2.1)
            have lo := rl_lo_rng q wx.2.1
            have hi := rl_hi_rng q wx.2.1
            have z109 := Hz.2.2.2.2.2.1 _ q wx.2.1
            have bw := bd_w_rng q wx.2.1 ct.1 ct.2
            refine sp_wireR (d := d + 1) (μ := μ) ⟨bd_u_o hm' 91 (by decide), bd_u_o hm' 92 (by decide)⟩ q wx.2.1 (by omega) (fun i i0 i1 => H.1.2.2.2 i i0 (by omega)) (k_LatticefitModel_build_254 hR ?_)
            rw [bd_u_o hm' 109 (by decide)]
            have e109 : μ 109 0 (2 * μ 42 n x + rl_ct μ (μ 42 n x) n) = bd_w (μ 42 n x) (rl_ct μ (μ 42 n x) n) := by
              unfold bd_w
              rcases (show rl_ct μ (μ 42 n x) n = 0 ∨ rl_ct μ (μ 42 n x) n = 1 from by omega) with c | c
              · rw [c, Int.add_zero, z109.1, Int.add_zero]
              · rw [c, z109.2]; omega
            rw [e109]
            have two : ∀ y : Int, y = wy_o (μ 42 n x) x → ∀ z : ma_V, ma_Ox LS (d + 2) mi_LatticefitModel_codeAt [ma_Rf 69 0, ma_I n, ma_I y] m' (ma_ct (ma_Ox LS (d + 2)) (LS, [], 1, 0) 280 [ma_Rf 69 0, ma_I n, ma_I x, z] [ma_I (bd_w (μ 42 n x) (rl_ct μ (μ 42 n x) n)), ma_Rf 101 0] 0 mt_LatticefitModel_build_283 R (ma_DD (LS, [], 1, 0) Post)) := by
              intro y hy z
              rw [hy]
              refine sp_codeAtR (d := d) H hm' tn p1 o.1 o.2.1 (k_LatticefitModel_build_280 hR ⟨by omega, by omega, ihj (x + 1) _ (by omega) (bd_u_up hm') ?_ _⟩)
              rw [un, if_pos q, Int.toNat_natCast]
              exact bd_Q_up hS'
            refine ⟨by omega, by omega, fun r => ?_, fun r => ?_⟩
            · rw [wr_lo1 r, td_nn (a := μ 42 n x - 42) (by omega)]
              have h1 := wr_hi1 r
              exact ⟨by omega, by omega, by omega, by omega, fun s => two _ (o.2.2.2 (Ne.symm s)).symm _, fun s => ⟨by omega, two _ (by rw [o.2.2.1 s.symm, h1]) _⟩⟩
            · have h7 := wr_hi7 r
              exact ⟨fun s => two _ (by rw [o.2.2.2 (by rw [h7.2]; exact Ne.symm s), h7.2]) _, fun s => ⟨by omega, two _ (by rw [o.2.2.1 (by rw [h7.2]; exact s.symm), h7.1]) _⟩⟩
      exact lp 49 0 m (by omega) hm hS _
  -- the blocks
  have l46 : ∀ (k b : Nat) (m : ma_M), b + k = B → bd_u M m μ → bd_Q m (bd_B μ b) → ∀ u v : ma_V, R 46 [ma_Rf 69 0, ma_I b, u, v] [] 0 m := by
    intro k
    induction k with
    | zero =>
      intro b m hb hm hS u v
      rw [show b = B from by omega] at hS ⊢
      exact s_LatticefitModel_build_46 hR ⟨fun _ => l199 N 0 m (by omega) hm hS _ _, fun q => by rw [f25 m hm] at q; omega⟩
    | succ k ih =>
      intro b m hb hm hS u v
      have Bb := H.1.2.1.2.2.2.2.1 b (by omega) (by omega)
      have pb := H.1.2.2.1.1 b (by omega) (by omega)
      have c0 := pb.2.1
      have c1 := pb.2.2.1
      have k0 := Bb.2.2.2.2.2.2.1
      have k1 := Bb.2.2.2.2.2.2.2.1
      have Z := bd_B0 H.1.2.2.1 H.1.2.1.1 b b (Nat.le_refl b) (by omega)
      have xr := rl_x_rng c0 c1
      obtain ⟨K, hK⟩ : ∃ K : Nat, μ 25 0 b = (K : Int) := ⟨(μ 25 0 b).toNat, by omega⟩
      refine s_LatticefitModel_build_46 hR ⟨fun q => by rw [f25 m hm] at q; omega, fun _ => ?_⟩
      rw [bd_u_o hm 85 (by decide), bd_u_o hm 86 (by decide), pb.1, Bb.2.2.1, td_nn c0, tm_nn c0]
      have at6 : 36 * (μ 32 0 b / 6) + 6 * (μ 32 0 b % 6) = 6 * μ 32 0 b := by omega
      rw [at6]
      have un : ∀ j : Int, bd_B μ (b + 1) j = if 6 * μ 32 0 b ≤ j ∧ j < 6 * μ 32 0 b + 6 then bd_b μ b (j - 6 * μ 32 0 b) else bd_B μ b j := fun _ => rfl
      refine ⟨by omega, by omega, by omega, by omega, by omega, by omega, ?_⟩
      have lp : ∀ (j i : Nat) (m' : ma_M), i + j = K → bd_u M m' μ → bd_Q m' (bd_P μ b i) → R 94 [ma_Rf 69 0, ma_I b, ma_I (6 * μ 32 0 b), ma_I i] [] 0 m' := by
        intro j
        induction j with
        | zero =>
          intro i m' hi hm' hS'
          refine s_LatticefitModel_build_94 hR ?_
          rw [bd_u_o hm' 87 (by decide), bd_u_o hm' 84 (by decide), Bb.2.2.2.2.2.1, Bb.2.1, hK]
          have fin : ∀ v : Int, v = bd_b μ b 5 → bd_Q (ma_up m' 101 0 (6 * μ 32 0 b + 5) v) (bd_B μ (b + 1)) := fun v hv => bd_Q_cg (bd_Q_up hS') (fun j j0 j1 => by
            rw [un]
            unfold bd_up bd_P
            by_cases e5 : j = 6 * μ 32 0 b + 5
            · rw [if_pos e5, if_pos (by omega), hv, show j - 6 * μ 32 0 b = 5 from by omega]
            · rw [if_neg e5]
              by_cases p : 6 * μ 32 0 b ≤ j ∧ j < 6 * μ 32 0 b + 6
              · rw [if_pos p]
                by_cases r : j - 6 * μ 32 0 b ≤ (i : Int)
                · rw [if_pos ⟨p.1, p.2, r⟩]
                · rw [if_neg (fun z => r z.2.2), Z j p.1 p.2]
                  unfold bd_b
                  rw [if_neg (by omega), if_neg (by omega), if_neg (by omega)]
              · rw [if_neg p, if_neg (fun z => p ⟨z.1, z.2.1⟩)])
          have b5 : bd_b μ b 5 = if 0 ≤ μ 23 0 b then 1 + 2 * μ 8 0 (μ 23 0 b) + 4 * μ 9 0 (μ 23 0 b) else 0 := by
            unfold bd_b
            rw [if_neg (by omega), if_neg (by omega)]
            by_cases q : 0 ≤ μ 23 0 b
            · rw [if_pos q, if_pos ⟨rfl, q⟩]
            · rw [if_neg q, if_neg (fun z => q z.2)]
          refine ⟨by omega, fun _ => ⟨by omega, fun q => ?_, fun q => ?_⟩, fun q => by omega⟩
          · have rg : 0 ≤ μ 23 0 b ∧ μ 23 0 b < μ 3 0 10 ∧ μ 4 0 (μ 23 0 b) = 114 := by
              rcases Bb.2.2.2.2.2.2.2.2.2.2 with z | z
              · omega
              · exact ⟨z.1, z.2.1, z.2.2.1⟩
            have rn := (H.1.1.2.2.2.2.2.2.2.2.2.2.2.2.1 _ rg.1 rg.2.1).2.2.2.1 rg.2.2
            rw [if_pos q] at b5
            rw [bd_u_o hm' 77 (by decide), bd_u_o hm' 73 (by decide), rn.2.2.2.1, rn.2.2.2.2.2.2.1]
            refine ⟨by omega, fun w => ⟨by omega, by omega, by omega, by omega, ih (b + 1) _ (by omega) (bd_u_up hm') (fin _ (by rw [b5]; omega)) _ _⟩, fun w => ⟨by omega, by omega, by omega, by omega, ih (b + 1) _ (by omega) (bd_u_up hm') (fin _ (by rw [b5]; omega)) _ _⟩⟩
          · rw [if_neg (by omega)] at b5
            exact ⟨by omega, by omega, ih (b + 1) _ (by omega) (bd_u_up hm') (fin _ b5.symm) _ _⟩
        | succ j ihj =>
          intro i m' hi hm' hS'
          have tn := tm_n_in H.1 (b := b) (k := i) (by omega) (by omega) (by omega) (by omega)
          have ti := Bb.2.2.2.2.2.2.2.2.1 i (by omega) (by omega)
          have net : μ 92 0 (μ 27 b i) = 1 := (H.1.2.2.2 _ tn.1 tn.2.1).2.1.2 ⟨_, .inl ⟨b, i, by omega, by omega, by omega, by omega, rfl, rfl⟩⟩
          refine s_LatticefitModel_build_94 hR ?_
          rw [bd_u_o hm' 87 (by decide), bd_u_o hm' 88 (by decide), bd_u_o hm' 85 (by decide), Bb.2.2.2.2.2.1, ti.1, pb.1, rl_x_t c0, td_nn c0, hK]
          refine ⟨by omega, fun q => by omega, fun _ => ⟨by omega, by omega, by omega, by omega, by omega, by omega, by omega, by omega, sp_codeAtR (d := d) H hm' tn net xr.1 (by omega) (k_LatticefitModel_build_133 hR ⟨by omega, by omega, ihj (i + 1) _ (by omega) (bd_u_up hm') (bd_Q_cg (bd_Q_up hS') (fun j j0 j1 => ?_))⟩)⟩⟩
          unfold bd_up bd_P
          by_cases e5 : j = 6 * μ 32 0 b + 1 + (i : Int)
          · rw [if_pos e5, if_pos (by omega)]
            unfold bd_b
            rw [if_neg (by omega), if_pos (by omega), show j - 6 * μ 32 0 b - 1 = (i : Int) from by omega]
          · rw [if_neg e5]
            by_cases r : 6 * μ 32 0 b ≤ j ∧ j < 6 * μ 32 0 b + 6 ∧ j - 6 * μ 32 0 b ≤ (i : Int)
            · rw [if_pos r, if_pos (by omega)]
            · rw [if_neg r, if_neg (by omega)]
      refine lp K 0 _ (by omega) (bd_u_up hm) (bd_Q_cg (bd_Q_up hS) (fun j j0 j1 => ?_))
      unfold bd_up bd_P
      by_cases e5 : j = 6 * μ 32 0 b
      · rw [if_pos e5, if_pos (by omega)]
        unfold bd_b
        rw [if_pos (by omega)]
      · rw [if_neg e5, if_neg (by omega)]
  -- all nought first
  have l24 : ∀ (k i : Nat) (m : ma_M), i + k = 504 → bd_u M m μ → (∀ j : Int, 0 ≤ j → j < i → m 101 0 j = 0) → ∀ u v : ma_V, R 24 [ma_Rf 69 0, ma_I i, u, v] [] 0 m := by
    intro k
    induction k with
    | zero =>
      intro i m hi hm hS u v
      exact s_LatticefitModel_build_24 hR ⟨fun _ => l46 B 0 m (by omega) hm (fun j j0 j1 => hS j j0 (by omega)) _ _, fun q => by omega⟩
    | succ k ih =>
      intro i m hi hm hS u v
      exact s_LatticefitModel_build_24 hR ⟨fun q => by omega, fun _ => ⟨by omega, by omega, ih (i + 1) _ (by omega) (bd_u_up hm) (fun j j0 j1 => by
        by_cases e : j = i
        · rw [e]; exact ma_up_eq
        · rw [ma_up_ne (fun z => e z.2)]; exact hS j j0 (by omega)) _ _⟩⟩
  refine l24 504 0 _ (by omega) ⟨fun c c1 c2 c3 c4 c5 => by rw [ma_up_ck c3]; exact hM c c1 c2 c5, fun f hf => by rw [ma_up_ne (fun z => hf z.2), hM 69 (by decide) (by decide) (by decide)], ma_up_eq, fun c c1 c2 => ma_up_ck c1⟩ (fun j j0 j1 => by omega) _ _
/-- the relation behind build -/
theorem Rel_build {μ m : ma_M} (H : Rel μ) (st : 2 ≤ μ 2 0 10) (h2 : m 2 0 10 = 3) (hc : ∀ c : Nat, c ≠ 2 → c ≠ 55 → c ≠ 69 → c ≠ 101 → c ≠ 111 → m c = μ c) (h69 : ∀ f : Int, f ≠ 28 → f ≠ 29 → f ≠ 50 → m 69 0 f = μ 69 0 f) (h28 : m 69 0 28 = 1) (h29 : m 69 0 29 = 0) (hf : rl_f m) : Rel m := by
  obtain ⟨h1, h2', h3, h4, h5, h6, h7, h8⟩ := H
  have hl : ∀ (l : List Nat), (∀ c ∈ l, c ≠ 2 ∧ c ≠ 55 ∧ c ≠ 69 ∧ c ≠ 101 ∧ c ≠ 111) → ∀ c ∈ l, m c = μ c := fun l hl c hc' => hc c (hl c hc').1 (hl c hc').2.1 (hl c hc').2.2.1 (hl c hc').2.2.2.1 (hl c hc').2.2.2.2
  have hg : ∀ (l : List Int), (∀ c ∈ l, c ≠ 28 ∧ c ≠ 29 ∧ c ≠ 50) → ∀ c ∈ l, m 69 0 c = μ 69 0 c := fun l hl c hc => h69 c (hl c hc).1 (hl c hc).2.1 (hl c hc).2.2
  refine ⟨rl_c_congr (hl _ (by decide)) (hg _ (by decide)) h1, ?_, rl_z_congr (hl _ (by decide)) (hg _ (by decide)) h3, ?_, fun _ => ⟨rl_m_congr (hl _ (by decide)) (hg _ (by decide)) (h5 (by omega)).1, rl_p_congr (hl _ (by decide)) (h5 (by omega)).2⟩, fun _ => rl_r_congr (hl _ (by decide)) (h6 st), fun _ => hf, fun z => by omega⟩
  · have s26 := h2'.2.2.1
    have s27 := h2'.2.2.2.1
    rw [if_pos (by omega)] at s26 s27
    unfold rl_s
    rw [h2, h69 26 (by decide) (by decide) (by decide), h69 27 (by decide) (by decide) (by decide), h28, h29, s26, s27]
    decide
  · intro e e0 e1
    have := h4 e e0 e1
    rw [if_pos (by omega)] at this
    rw [h2, hc 96 (by decide) (by decide) (by decide) (by decide) (by decide), hc 44 (by decide) (by decide) (by decide) (by decide) (by decide), if_pos (by decide)]
    exact this
theorem pr_build {LS d : Nat} {μ : ma_M} (H : Rel μ) : Pr LS d mi_LatticefitLaw_build [ma_Rf 2 0, ma_Rf 111 0] mi_LatticefitModel_build [ma_Rf 69 0] agI μ := by
  intro Post hP
  obtain ⟨Hc, Hs, Hz, Hu, Hm, Hr, Hf, Hk⟩ := id H
  have s27 := Hs.2.2.2.1
  refine gi_LatticefitLaw_build (fun R hR => s_LatticefitLaw_build_0 (d := d + 3) hR ?_)
  refine gi_Latticefit_build (fun R2 hR2 => s_Latticefit_build_0 (d := d + 3) hR2 ⟨fun st => ?_, fun st => ?_⟩)
  · obtain ⟨Hmm, Hpp⟩ := Hm (by omega)
    have HH : bd_H μ := ⟨⟨Hc, Hmm, Hpp, (Hr st).1⟩, fun e e0 e1 => by have := (Hr st).2 e e0 e1; omega⟩
    refine sp_fillFrames (d := d + 3) HH (fun m a1 a2 => k_Latticefit_build_9 hR2 ?_)
    have gS : bd_g (bd_O μ (bd_NN μ (bd_B μ (μ 21 0 7).toNat) (μ 3 0 10).toNat) (μ 3 0 13).toNat) := bd_g_O HH (bd_g_NN HH (bd_g_B HH _ (by have := Hmm.1; omega)) _ (by have := Hc.1; omega)) _ (by have := Hc.2.2.2.2.2.2.1; omega)
    have ref := fun (Post2 : ma_R → ma_M → Prop) (M : ma_M) (hM : ∀ c : Nat, c ≠ 2 → c ≠ 55 → c ≠ 111 → M c = μ c) => sp_buildR (LS := LS) (d := d + 9) (Post := Post2) HH Hz hM (by rw [s27, if_pos st]; decide)
    generalize bd_O μ (bd_NN μ (bd_B μ (μ 21 0 7).toNat) (μ 3 0 10).toNat) (μ 3 0 13).toNat = S at a2 gS ref
    refine sp_inUse (d := d + 9) (S := S) (fun f i f0 f1 i0 i1 => by rw [ma_up_ck (by decide)]; exact a2 f i f0 f1 i0 i1) (k_Latticefit_build_21 hR2 (k_LatticefitLaw_build_3 hR ⟨by omega, hP 0 _ (fun Post2 h2 => ?_)⟩))
    have b1 : ∀ c : Nat, c ≠ 2 → c ≠ 55 → c ≠ 111 → (ma_up (ma_up m 2 0 10 3) 111 0 0 (bd_1 S 504)) c = μ c := fun c c1 c2 c3 => by rw [ma_up_ck c3, ma_up_ck c1]; exact a1 c c2
    have b2 : (ma_up (ma_up m 2 0 10 3) 111 0 0 (bd_1 S 504)) 111 0 0 = bd_1 S 504 := ma_up_eq
    have b3 : (ma_up (ma_up m 2 0 10 3) 111 0 0 (bd_1 S 504)) 2 0 10 = 3 := by rw [ma_up_ck (by decide), ma_up_eq]
    have b4 : bd_R (ma_up (ma_up m 2 0 10 3) 111 0 0 (bd_1 S 504)) S := fun f i f0 f1 i0 i1 => by rw [ma_up_ck (by decide), ma_up_ck (by decide)]; exact a2 f i f0 f1 i0 i1
    generalize ma_up (ma_up m 2 0 10 3) 111 0 0 (bd_1 S 504) = M at b1 b2 b3 b4 ⊢
    refine ref Post2 M b1 (fun m' u q => h2 _ _ ?_ ?_ (fun _ => ⟨_, rfl, ?_⟩))
    · refine Rel_build H st ?_ (fun c c1 c2 c3 c4 c5 => ?_) (fun f f1 f2 f3 => ?_) ?_ ma_up_eq ?_
      · rw [ma_up_ck (by decide), ma_up_ck (by decide), u.2.2.2 2 (by decide) (by decide)]; exact b3
      · rw [ma_up_ck c3, ma_up_ck c3]; exact u.1 c c1 c2 c3 c4 c5
      · rw [ma_up_ne (fun z => f2 z.2), ma_up_ne (fun z => f1 z.2)]; exact u.2.1 f f3
      · rw [ma_up_ne (by omega)]; exact ma_up_eq
      · intro f i f0 f1 i0 i1
        rw [ma_up_ck (by decide), ma_up_ck (by decide), ma_up_ck (by decide), ma_up_ck (by decide), q _ (by omega) (by omega), u.2.2.2 55 (by decide) (by decide), b4 f i f0 f1 i0 i1]
        exact ⟨rfl, gS _⟩
    · rw [ma_up_ne (by omega), ma_up_ne (by omega)]; exact u.2.2.1
    · rw [ma_up_ck (by decide), ma_up_ck (by decide), u.2.2.2 111 (by decide) (by decide)]; exact b2
  · show R 11 [ma_Rf 2 0, ma_Rf 111 0, ma_U] [ma_X 0] 1 μ
    refine g_LatticefitLaw_build_11 hR ⟨Nat.le_refl 1, hP 1 μ (fun Post2 h2 => ?_)⟩
    exact gi_LatticefitModel_build (fun R3 hR3 => s_LatticefitModel_build_0 (d := d + 9) hR3 ⟨fun q => absurd (by rw [s27, if_neg (by omega)]) q, fun _ => h2 (ma_I 0) _ (Rel_thrown H 1) ma_up_eq (fun z => by omega)⟩)
