/-! times: ways in a tree, the class -/
def wy_o (e x : Int) : Int := rl_lo e + rl_hi e - x
def wy (b : Int → Int) : Nat → Int → Int
  | 0, _ => 0
  | k + 1, x => if 0 ≤ b x then 1 + wy b k (wy_o (b x) x) else 0
def wy_ok (b : Int → Int) : Prop := ∀ x : Int, 0 ≤ x → x < 49 → b x < 84 ∧ (0 ≤ b x → x = rl_lo (b x) ∨ x = rl_hi (b x))
theorem wy_of {μ : ma_M} {n : Int} (H : rl_t μ n) : wy_ok (μ 42 n) := fun x x0 x1 => by
  have := H.2.2.1 x x0 x1
  exact ⟨this.2.1, this.2.2.2.2⟩
theorem wy_rng {b : Int → Int} : ∀ (k : Nat) (x : Int), 0 ≤ wy b k x ∧ wy b k x ≤ k := by
  intro k
  induction k with
  | zero => intro x; exact ⟨Int.le_refl 0, Int.le_refl 0⟩
  | succ k ih =>
    intro x
    have un : wy b (k + 1) x = if 0 ≤ b x then 1 + wy b k (wy_o (b x) x) else 0 := rfl
    have := ih (wy_o (b x) x)
    rw [un]
    split <;> omega
theorem wy_o_rng {b : Int → Int} (H : wy_ok b) {x : Int} (x0 : 0 ≤ x) (x1 : x < 49) (h : 0 ≤ b x) : 0 ≤ wy_o (b x) x ∧ wy_o (b x) x < 49 ∧ (x = rl_lo (b x) → wy_o (b x) x = rl_hi (b x)) ∧ (x ≠ rl_lo (b x) → wy_o (b x) x = rl_lo (b x)) := by
  have a := H x x0 x1
  have lo := rl_lo_rng h a.1
  have hi := rl_hi_rng h a.1
  have c := a.2 h
  unfold wy_o
  omega
theorem sp_wayTo {LS d : Nat} {Post : ma_R → ma_M → Prop} {m : ma_M} {n x : Int} (H : wy_ok (m 42 n)) (n0 : 0 ≤ n) (n1 : n < 48) (x0 : 0 ≤ x) (x1 : x < 49) (h : Post (.inl (some (ma_I (wy (m 42 n) 49 x)))) m) : ma_Ox LS (d + 3) mi_Routes_wayTo [ma_Rf 40 0, ma_I n, ma_I x] m Post := by
  refine gi_Routes_wayTo (fun R hR => s_Routes_wayTo_0 (d := d) hR ?_)
  have lp : ∀ (k : Nat) (i y : Int), i + k = 49 → 0 ≤ i → 0 ≤ y → y < 49 → (i + wy (m 42 n) k y = wy (m 42 n) 49 x) → ∀ u : ma_V, R 5 [ma_Rf 40 0, ma_I n, u, ma_I y, ma_I i] [] 0 m := by
    intro k
    induction k with
    | zero =>
      intro i y hi i0 y0 y1 hp u
      rw [show wy (m 42 n) 0 y = 0 from rfl] at hp
      refine s_Routes_wayTo_5 hR ⟨fun _ => ?_, fun q => by omega⟩
      rw [show i = wy (m 42 n) 49 x from by omega]; exact h
    | succ k ih =>
      intro i y hi i0 y0 y1 hp u
      have un : wy (m 42 n) (k + 1) y = if 0 ≤ m 42 n y then 1 + wy (m 42 n) k (wy_o (m 42 n y) y) else 0 := rfl
      have a := H y y0 y1
      refine s_Routes_wayTo_5 hR ⟨fun q => by omega, fun _ => ⟨by omega, by omega, fun q => ?_, fun q => ?_⟩⟩
      · rw [un, if_neg (by omega)] at hp
        rw [show i = wy (m 42 n) 49 x from by omega]; exact h
      · rw [un, if_pos q] at hp
        have o := wy_o_rng H y0 y1 q
        have lo := rl_lo_rng q a.1
        have nx := ih (i + 1) (wy_o (m 42 n y) y) (by omega) (by omega) o.1 o.2.1 (by omega) ma_U
        refine ⟨fun p => by omega, fun _ => ⟨fun p => ?_, fun p => ?_⟩⟩
        · rw [wr_lo1 p, td_nn (a := m 42 n y - 42) (by omega)]
          have h1 := wr_hi1 p
          refine ⟨by omega, by omega, by omega, by omega, by omega, fun r => ⟨by omega, ?_⟩, fun r => ⟨by omega, ?_⟩⟩
          · rw [o.2.2.2 r] at nx; exact nx
          · rw [o.2.2.1 r, h1] at nx; exact nx
        · have h7 := wr_hi7 p
          refine ⟨by omega, fun r => ⟨by omega, ?_⟩, fun r => ⟨by omega, ?_⟩⟩
          · rw [o.2.2.2 (by rw [h7.2]; exact r), h7.2] at nx; exact nx
          · rw [o.2.2.1 (by rw [h7.2]; exact r), h7.1] at nx; exact nx
  exact lp 49 0 x (by omega) (by omega) x0 x1 (by omega) _
/-- the latest of some, a table's time, all times -/
def tm_mx (v : Int → Int) : Nat → Int
  | 0 => 0
  | k + 1 => if tm_mx v k < v k then v k else tm_mx v k
def tm_a (μ : ma_M) (t : Int → Int) (n x : Int) : Int := t n + wy (μ 42 n) 49 x
def tm_b (μ : ma_M) (t : Int → Int) (b : Int) : Int := 3 + tm_mx (fun k => tm_a μ t (μ 27 b k) (rl_x (μ 32 0 b))) (μ 25 0 b).toNat
theorem tm_mx_rng {v : Int → Int} {B : Int} : ∀ k : Nat, (∀ i : Int, 0 ≤ i → i < k → v i ≤ B) → 0 ≤ B → 0 ≤ tm_mx v k ∧ tm_mx v k ≤ B := by
  intro k
  induction k with
  | zero => intro _ hB; exact ⟨Int.le_refl 0, hB⟩
  | succ k ih =>
    intro h hB
    have := ih (fun i i0 i1 => h i i0 (by omega)) hB
    have hk := h k (by omega) (by omega)
    have un : tm_mx v (k + 1) = if tm_mx v k < v k then v k else tm_mx v k := rfl
    rw [un]
    split <;> omega
theorem tm_mx_cg {v w : Int → Int} : ∀ k : Nat, (∀ i : Int, 0 ≤ i → i < k → v i = w i) → tm_mx v k = tm_mx w k := by
  intro k
  induction k with
  | zero => intro _; rfl
  | succ k ih =>
    intro h
    have un : tm_mx v (k + 1) = if tm_mx v k < v k then v k else tm_mx v k := rfl
    have un2 : tm_mx w (k + 1) = if tm_mx w k < w k then w k else tm_mx w k := rfl
    rw [un, un2, ih (fun i i0 i1 => h i i0 (by omega)), h k (by omega) (by omega)]
def tm_gate (μ : ma_M) (n : Int) : Prop := ¬ μ 4 0 n = 105 ∧ ¬ μ 4 0 n = 114 ∧ 0 ≤ μ 28 0 n
def tm_ok (μ : ma_M) (t : Int → Int) (N : Int) : Prop := ∀ n : Int, 0 ≤ n → n < N → (tm_gate μ n → t n = tm_b μ t (μ 28 0 n)) ∧ (¬ tm_gate μ n → t n = 0) ∧ 0 ≤ t n ∧ t n ≤ 52 * (n + 1)
/-- what the times need -/
def tm_H (μ : ma_M) : Prop := rl_c μ ∧ rl_m μ ∧ rl_p μ ∧ ∀ n : Int, 0 ≤ n → n < μ 3 0 10 → rl_t μ n
theorem tm_in {μ : ma_M} (H : tm_H μ) {b k : Int} (b0 : 0 ≤ b) (b1 : b < μ 21 0 7) (k0 : 0 ≤ k) (k1 : k < μ 25 0 b) : 0 ≤ μ 27 b k ∧ μ 27 b k < μ 3 0 10 ∧ (0 ≤ μ 22 0 b → μ 27 b k < μ 22 0 b) := by
  have B := H.2.1.2.2.2.2.1 b b0 b1
  have t := B.2.2.2.2.2.2.2.2.1 k k0 k1
  exact ⟨t.2.1, t.2.2.1, t.2.2.2.2⟩
/-- the class: when a table has its value -/
theorem sp_ofTable {LS d : Nat} {Post : ma_R → ma_M → Prop} {μ m : ma_M} {b : Int} (H : tm_H μ) (hm : ∀ c : Nat, c ≠ 52 → m c = μ c) (b0 : 0 ≤ b) (b1 : b < μ 21 0 7) (ht : ∀ k : Int, 0 ≤ k → k < μ 25 0 b → 0 ≤ m 52 0 (μ 27 b k) ∧ m 52 0 (μ 27 b k) ≤ 3000) (h : Post (.inl (some (ma_I (tm_b μ (m 52 0) b)))) m) : ma_Ox LS (d + 5) mi_Times_ofTable [ma_Rf 51 0, ma_I b] m Post := by
  have M7 := H.2.1.2.1
  have N1 := H.1.2.1
  have B := H.2.1.2.2.2.2.1 b b0 b1
  have pb := H.2.2.1.1 b b0 b1
  have xr := rl_x_rng pb.2.1 pb.2.2.1
  have i0 := B.2.2.2.2.2.2.1
  have i1 := B.2.2.2.2.2.2.2.1
  obtain ⟨K, hK⟩ : ∃ K : Nat, μ 25 0 b = (K : Int) := ⟨(μ 25 0 b).toNat, by omega⟩
  have e32 : m 32 = μ 32 := hm 32 (by decide)
  have e25 : m 25 = μ 25 := hm 25 (by decide)
  have e27 : m 27 = μ 27 := hm 27 (by decide)
  have e42 : m 42 = μ 42 := hm 42 (by decide)
  unfold tm_b at h
  rw [hK, Int.toNat_natCast] at h
  refine gi_Times_ofTable (fun R hR => s_Times_ofTable_0 (d := d) hR ?_)
  rw [e32, rl_x_t pb.2.1, td_nn pb.2.1]
  refine ⟨by omega, by omega, by omega, by omega, ?_⟩
  have va : ∀ k : Int, 0 ≤ k → k < K → 0 ≤ tm_a μ (m 52 0) (μ 27 b k) (rl_x (μ 32 0 b)) ∧ tm_a μ (m 52 0) (μ 27 b k) (rl_x (μ 32 0 b)) ≤ 3049 := fun k k0 k1 => by
    have a := ht k k0 (by omega)
    have w := wy_rng (b := μ 42 (μ 27 b k)) 49 (rl_x (μ 32 0 b))
    unfold tm_a; omega
  have lp : ∀ (k j : Nat), j + k = K → R 18 [ma_Rf 51 0, ma_I b, ma_I (rl_x (μ 32 0 b)), ma_I (tm_mx (fun k => tm_a μ (m 52 0) (μ 27 b k) (rl_x (μ 32 0 b))) j), ma_I j] [] 0 m := by
    intro k
    induction k with
    | zero =>
      intro j hj
      have r := tm_mx_rng (v := fun k => tm_a μ (m 52 0) (μ 27 b k) (rl_x (μ 32 0 b))) (B := 3049) j (fun i x0 x1 => (va i x0 (by omega)).2) (by omega)
      refine s_Times_ofTable_18 hR ?_
      rw [e25, hK]
      refine ⟨by omega, fun _ => ⟨by omega, ?_⟩, fun q => by omega⟩
      rw [show j = K from by omega]; exact h
    | succ k ih =>
      intro j hj
      have ti := tm_in H b0 b1 (k := j) (by omega) (by omega)
      have a := ht j (by omega) (by omega)
      have w := wy_rng (b := μ 42 (μ 27 b j)) 49 (rl_x (μ 32 0 b))
      refine s_Times_ofTable_18 hR ?_
      rw [e25, hK, e27]
      refine ⟨by omega, fun q => by omega, fun _ => ⟨by omega, ?_⟩⟩
      refine gi_Times_arrival (fun R4 hR4 => s_Times_arrival_0 (d := d) hR4 ⟨by omega, sp_wayTo (d := d) (by rw [e42]; exact wy_of (H.2.2.2 _ ti.1 ti.2.1)) (by omega) (by omega) xr.1 (by omega) (k_Times_arrival_12 hR4 ⟨by rw [e42]; omega, k_Times_ofTable_47 hR ⟨by omega, ?_⟩⟩)⟩)
      rw [e42]
      exact ih (j + 1) (by omega)
  exact lp K 0 (by omega)
/-- the class: all times -/
theorem sp_timesAll {LS d : Nat} {Post : ma_R → ma_M → Prop} {μ : ma_M} (H : tm_H μ) (h : ∀ m : ma_M, (∀ c : Nat, c ≠ 52 → m c = μ c) → tm_ok μ (m 52 0) (μ 3 0 10) → Post (.inl none) m) : ma_Ox LS (d + 6) mi_Times_findAll [ma_Rf 51 0] μ Post := by
  have N0 := H.1.1
  have N1 := H.1.2.1
  refine gi_Times_findAll (fun R hR => s_Times_findAll_0 (d := d) hR ?_)
  refine ma_cnt (σ := ma_M) (N := μ 3 0 10) (P := fun i m => ∀ u v : ma_V, R 2 [ma_Rf 51 0, ma_I i, u, v] [] 0 m) (I := fun n m => (∀ c : Nat, c ≠ 52 → m c = μ c) ∧ tm_ok μ (m 52 0) n) ?_ ?_ 0 μ (by omega) (by omega) ⟨fun _ _ => rfl, fun n a b => by omega⟩ _ _
  · intro n m n0 n1 ⟨a1, a2⟩ ih u v
    have mm := H.2.1.2.2.2.1 n n0 n1
    have nx : ∀ x : Int, (tm_gate μ n → x = tm_b μ (m 52 0) (μ 28 0 n)) → (¬ tm_gate μ n → x = 0) → 0 ≤ x → x ≤ 52 * (n + 1) → ∀ u v : ma_V, R 2 [ma_Rf 51 0, ma_I (n + 1), u, v] [] 0 (ma_up m 52 0 n x) := by
      intro x x1 x2 x3 x4
      refine ih _ ⟨fun c hc => by rw [ma_up_ck hc]; exact a1 c hc, ?_⟩
      have rd : ∀ k : Int, (ma_up m 52 0 n x) 52 0 k = if k = n then x else m 52 0 k := fun k => by simp [ma_up_rd]
      have same : ∀ k : Int, 0 ≤ k → k ≤ n → tm_gate μ k → tm_b μ ((ma_up m 52 0 n x) 52 0) (μ 28 0 k) = tm_b μ (m 52 0) (μ 28 0 k) := fun k k0 k1 hg => by
        have mk := H.2.1.2.2.2.1 k k0 (by omega)
        have b0 := hg.2.2
        have b1 := mk.2.2.2.2.2.2.1
        have n1 : μ 29 0 k = 1 := by
          rcases mk.2.2.2.2.2.2.2.1.1 b0 with z | z
          · exact absurd z hg.2.1
          · exact z
        have e22 := mk.2.2.2.2.2.2.2.2.1 n1
        have i0 := (H.2.1.2.2.2.2.1 _ b0 b1).2.2.2.2.2.2.1
        unfold tm_b
        rw [tm_mx_cg (μ 25 0 (μ 28 0 k)).toNat (fun i x0 x1 => ?_)]
        have ti := tm_in H b0 b1 (k := i) x0 (by omega)
        unfold tm_a
        rw [rd, if_neg (by omega)]
      intro k k0 k1
      rw [rd]
      by_cases e : k = n
      · rw [if_pos e, e]
        exact ⟨fun g => by rw [same n n0 (by omega) g]; exact x1 g, x2, x3, x4⟩
      · rw [if_neg e]
        have o := a2 k k0 (by omega)
        exact ⟨fun g => by rw [same k k0 (by omega) g]; exact o.1 g, o.2⟩
    refine s_Times_findAll_2 hR ?_
    rw [a1 3 (by decide), a1 4 (by decide), a1 28 (by decide)]
    refine ⟨fun q => by omega, fun _ => ⟨by omega, fun p => ⟨by omega, nx 0 (fun g => absurd p g.1) (fun _ => rfl) (by omega) (by omega) _ _⟩, fun p => ⟨fun q => ⟨by omega, nx 0 (fun g => absurd q g.2.1) (fun _ => rfl) (by omega) (by omega) _ _⟩, fun q => ⟨fun r => ⟨by omega, nx 0 (fun g => by have := g.2.2; omega) (fun _ => rfl) (by omega) (by omega) _ _⟩, fun r => ?_⟩⟩⟩⟩
    have n29 : μ 29 0 n = 1 := by
      rcases mm.2.2.2.2.2.2.2.1.1 r with z | z
      · exact absurd z q
      · exact z
    have e22 := mm.2.2.2.2.2.2.2.2.1 n29
    have b1 := mm.2.2.2.2.2.2.1
    have B := H.2.1.2.2.2.2.1 _ r b1
    have K0 := B.2.2.2.2.2.2.1
    have lim : ∀ k : Int, 0 ≤ k → k < μ 25 0 (μ 28 0 n) → 0 ≤ m 52 0 (μ 27 (μ 28 0 n) k) ∧ m 52 0 (μ 27 (μ 28 0 n) k) ≤ 52 * n := fun k k0 k1 => by
      have ti := tm_in H r b1 (k := k) k0 k1
      have o := (a2 _ ti.1 (by omega)).2.2
      omega
    have tb : 0 ≤ tm_b μ (m 52 0) (μ 28 0 n) ∧ tm_b μ (m 52 0) (μ 28 0 n) ≤ 52 * (n + 1) := by
      have := tm_mx_rng (v := fun k => tm_a μ (m 52 0) (μ 27 (μ 28 0 n) k) (rl_x (μ 32 0 (μ 28 0 n)))) (B := 52 * n + 49) (μ 25 0 (μ 28 0 n)).toNat (fun i x0 x1 => by
        have l := lim i x0 (by omega)
        have w := wy_rng (b := μ 42 (μ 27 (μ 28 0 n) i)) 49 (rl_x (μ 32 0 (μ 28 0 n)))
        show tm_a _ _ _ _ ≤ _
        unfold tm_a; omega) (by omega)
      unfold tm_b; omega
    refine sp_ofTable (d := d) H a1 r b1 (fun k k0 k1 => by have := lim k k0 k1; omega) (k_Times_findAll_55 hR ⟨by omega, by omega, nx _ (fun _ => rfl) (fun g => absurd ⟨p, q, r⟩ g) tb.1 tb.2 _ _⟩)
  · intro m ⟨a1, a2⟩ u v
    exact s_Times_findAll_2 hR ⟨fun _ => h m a1 a2, fun q => by rw [a1 3 (by decide)] at q; omega⟩
