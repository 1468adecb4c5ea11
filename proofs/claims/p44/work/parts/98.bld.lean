/-! build: what is written, in its order; the class -/
def bd_up (S : Int → Int) (k v : Int) : Int → Int := fun j => if j = k then v else S j
def bd_w (e j : Int) : Int := 36 * (6 + rl_lo e / 7) + (rl_ix e + j)
def bd_c (μ : ma_M) (n x : Int) : Int := if 0 ≤ μ 42 n x then 1 + 2 * μ 42 n x + rl_ct μ (μ 42 n x) n.toNat else if μ 4 0 n = 105 then 300 + μ 10 0 n else if μ 4 0 n = 114 then 201 + 2 * μ 32 0 (μ 28 0 n) else 200 + 2 * μ 32 0 (μ 28 0 n)
def bd_b (μ : ma_M) (b o : Int) : Int := if o = 0 then μ 24 0 b else if o ≤ μ 25 0 b then bd_c μ (μ 27 b (o - 1)) (rl_x (μ 32 0 b)) else if o = 5 ∧ 0 ≤ μ 23 0 b then 1 + 2 * μ 8 0 (μ 23 0 b) + 4 * μ 9 0 (μ 23 0 b) else 0
def bd_B (μ : ma_M) : Nat → Int → Int
  | 0, _ => 0
  | b + 1, j => if 6 * μ 32 0 b ≤ j ∧ j < 6 * μ 32 0 b + 6 then bd_b μ b (j - 6 * μ 32 0 b) else bd_B μ b j
def bd_P (μ : ma_M) (b : Nat) (k j : Int) : Int := if 6 * μ 32 0 b ≤ j ∧ j < 6 * μ 32 0 b + 6 ∧ j - 6 * μ 32 0 b ≤ k then bd_b μ b (j - 6 * μ 32 0 b) else bd_B μ b j
def bd_N (μ : ma_M) (n : Int) (S : Int → Int) : Nat → Int → Int
  | 0 => S
  | x + 1 => if 0 ≤ μ 42 n x then bd_up (bd_N μ n S x) (bd_w (μ 42 n x) (rl_ct μ (μ 42 n x) n.toNat)) (bd_c μ n (wy_o (μ 42 n x) x)) else bd_N μ n S x
def bd_NN (μ : ma_M) (S : Int → Int) : Nat → Int → Int
  | 0 => S
  | n + 1 => bd_N μ n (bd_NN μ S n) 49
def bd_O (μ : ma_M) (S : Int → Int) : Nat → Int → Int
  | 0 => S
  | o + 1 => bd_up (bd_O μ S o) (468 + o) (bd_c μ (μ 13 0 o) (42 + o))
def bd_R (m : ma_M) (S : Int → Int) : Prop := ∀ f i : Int, 0 ≤ f → f < 14 → 0 ≤ i → i < 36 → m 55 f i = S (36 * f + i)
theorem bd_R_cg {m : ma_M} {S S' : Int → Int} (h : bd_R m S) (e : ∀ j : Int, 0 ≤ j → j < 504 → S j = S' j) : bd_R m S' := fun f i f0 f1 i0 i1 => by
  rw [h f i f0 f1 i0 i1]; exact e _ (by omega) (by omega)
theorem bd_R_up {m : ma_M} {S : Int → Int} {f i v : Int} (h : bd_R m S) (i0 : 0 ≤ i) (i1 : i < 36) : bd_R (ma_up m 55 f i v) (bd_up S (36 * f + i) v) := fun f' i' a b c d => by
  unfold bd_up
  by_cases e : f' = f ∧ i' = i
  · rw [e.1, e.2, ma_up_eq, if_pos rfl]
  · rw [ma_up_ne e, if_neg (by omega)]; exact h f' i' a b c d
/-- the number of a wire -/
theorem bd_mono {μ : ma_M} {e : Int} (a : Nat) : ∀ k : Nat, rl_ct μ e a ≤ rl_ct μ e (a + k) := by
  intro k
  induction k with
  | zero => exact Int.le_refl _
  | succ k ih =>
    have t := wr_ct1 (μ := μ) (e := e) (a + k)
    by_cases w : wr_h μ ((a + k : Nat) : Int) e
    · have := t.1 w; rw [show a + (k + 1) = a + k + 1 from rfl]; omega
    · have := t.2 w; rw [show a + (k + 1) = a + k + 1 from rfl]; omega
theorem bd_ct {μ : ma_M} {e : Int} {n N : Nat} (hn : n < N) (h : wr_h μ n e) (u : rl_ct μ e N ≤ 2) : 0 ≤ rl_ct μ e n ∧ rl_ct μ e n ≤ 1 := by
  have a := (wr_ct1 (μ := μ) (e := e) n).1 h
  have b := bd_mono (μ := μ) (e := e) (n + 1) (N - (n + 1))
  rw [show n + 1 + (N - (n + 1)) = N from by omega] at b
  have c := wr_ct (μ := μ) (e := e) n
  omega
theorem bd_has {μ : ma_M} {n x : Int} (H : rl_t μ n) (x0 : 0 ≤ x) (x1 : x < 49) (h : 0 ≤ μ 42 n x) : wr_h μ n (μ 42 n x) := by
  have := (H.2.2.1 x x0 x1).2.2.2.2 h
  unfold wr_h
  rcases this with z | z
  · left; rw [← z]
  · right; rw [← z]
theorem bd_w_rng {e j : Int} (e0 : 0 ≤ e) (e1 : e < 84) (j0 : 0 ≤ j) (j1 : j ≤ 1) : 216 ≤ bd_w e j ∧ bd_w e j < 468 ∧ 0 ≤ rl_ix e + j ∧ rl_ix e + j < 36 := by
  have := rl_lo_rng e0 e1
  unfold bd_w
  omega
/-- what build needs -/
def bd_H (μ : ma_M) : Prop := tm_H μ ∧ ∀ e : Int, 0 ≤ e → e < 84 → rl_ct μ e (μ 3 0 10).toNat ≤ 2
theorem bd_tn {μ : ma_M} (H : tm_H μ) {n x : Int} (n0 : 0 ≤ n) (n1 : n < μ 3 0 10) (x0 : 0 ≤ x) (x1 : x < 49) (h : 0 ≤ μ 42 n x) : rl_ne μ n = 1 ∧ tm_n μ n := by
  have T := H.2.2.2 n n0 n1
  have a := (T.2.2.1 x x0 x1).2.2.1
  have b : rl_ne μ n = 1 := by
    rcases T.1 with z | z
    · have := a z; omega
    · exact z
  obtain ⟨y, hy⟩ := T.2.1.1 b
  have c := cu_pin_node H.2.1 hy
  exact ⟨b, n0, n1, by rcases c with z | z; exact .inl z; exact .inr (.inr z)⟩
theorem bd_c_rng {μ : ma_M} (H : bd_H μ) {n x : Int} (hn : tm_n μ n) (x0 : 0 ≤ x) (x1 : x < 49) : 1 ≤ bd_c μ n x ∧ bd_c μ n x ≤ 400 := by
  obtain ⟨n0, n1, hk⟩ := hn
  have N1 := H.1.1.2.1
  have T := H.1.2.2.2 n n0 n1
  have a := T.2.2.1 x x0 x1
  unfold bd_c
  by_cases q : 0 ≤ μ 42 n x
  · rw [if_pos q]
    have := wr_ct (μ := μ) (e := μ 42 n x) n.toNat
    omega
  · rw [if_neg q]
    have nn := H.1.1.2.2.2.2.2.2.2.2.2.2.2.2.1 n n0 n1
    by_cases p : μ 4 0 n = 105
    · rw [if_pos p]
      have t := nn.2.2.1 p
      have I1 := H.1.1.2.2.2.1
      omega
    · rw [if_neg p]
      have mm := H.1.2.1.2.2.2.1 n n0 n1
      have b0 : 0 ≤ μ 28 0 n := by
        rcases hk with z | z | z
        · exact absurd z p
        · exact mm.2.2.2.2.2.2.2.1.2 (.inl z)
        · exact z
      have c := H.1.2.2.1.1 _ b0 mm.2.2.2.2.2.2.1
      by_cases r : μ 4 0 n = 114
      · rw [if_pos r]; omega
      · rw [if_neg r]; omega
theorem sp_codeAt {LS d : Nat} {Post : ma_R → ma_M → Prop} {μ m : ma_M} {n x : Int} (H : bd_H μ) (hm : ∀ c : Nat, c ≠ 55 → m c = μ c) (hn : tm_n μ n) (x0 : 0 ≤ x) (x1 : x < 49) (h : Post (.inl (some (ma_I (bd_c μ n x)))) m) : ma_Ox LS (d + 5) mi_Builder_codeAt [ma_Rf 56 0, ma_I n, ma_I x] m Post := by
  have N1 := H.1.1.2.1
  obtain ⟨n0, n1, hk⟩ := id hn
  have T := H.1.2.2.2 n n0 n1
  have a := T.2.2.1 x x0 x1
  have nn := H.1.1.2.2.2.2.2.2.2.2.2.2.2.2.1 n n0 n1
  have mm := H.1.2.1.2.2.2.1 n n0 n1
  have M7 := H.1.2.1.2.1
  have cr := bd_c_rng H hn x0 x1
  have e42 : m 42 = μ 42 := hm 42 (by decide)
  obtain ⟨k, rfl⟩ : ∃ k : Nat, n = (k : Int) := ⟨n.toNat, by omega⟩
  refine gi_Builder_codeAt (fun R hR => s_Builder_codeAt_0 (d := d) hR ?_)
  rw [e42, hm 4 (by decide), hm 28 (by decide), hm 32 (by decide), hm 10 (by decide)]
  unfold bd_c at h cr
  refine ⟨by omega, by omega, fun q => ?_, fun q => ⟨fun p => by omega, fun p => ⟨by omega, by omega, ?_⟩⟩⟩
  · rw [if_neg (by omega)] at h cr
    refine ⟨fun p => ?_, fun p => ?_⟩
    · rw [if_neg p] at h cr
      have b0 : 0 ≤ μ 28 0 (k : Int) := by
        rcases hk with z | z | z
        · exact absurd z p
        · exact mm.2.2.2.2.2.2.2.1.2 (.inl z)
        · exact z
      have b1 := mm.2.2.2.2.2.2.1
      have c := H.1.2.2.1.1 _ b0 b1
      refine ⟨fun r => ⟨fun _ => ?_, fun z => by omega⟩, fun r => ⟨fun _ => ?_, fun z => by omega⟩⟩
      · rw [if_neg r] at h; exact ⟨by omega, by omega, by omega, h⟩
      · rw [if_pos r] at h; exact ⟨by omega, by omega, by omega, h⟩
    · rw [if_pos p] at h cr; exact ⟨by omega, h⟩
  · rw [if_pos q, Int.toNat_natCast] at h cr
    refine sp_wire (d := d) q p (by omega) (k_Builder_codeAt_39 hR ?_)
    have ce : rl_ct m (μ 42 (k : Int) x) k = rl_ct μ (μ 42 (k : Int) x) k := by unfold rl_ct; rw [e42]
    rw [ce]
    exact ⟨by omega, h⟩
/-- blocks that are not written yet have nothing in their cells -/
theorem bd_B0 {μ : ma_M} (Hp : rl_p μ) (H7 : 0 ≤ μ 21 0 7) : ∀ k b : Nat, k ≤ b → (b : Int) < μ 21 0 7 → ∀ j : Int, 6 * μ 32 0 b ≤ j → j < 6 * μ 32 0 b + 6 → bd_B μ k j = 0 := by
  intro k
  induction k with
  | zero => intro b _ _ j _ _; rfl
  | succ k ih =>
    intro b hkb hb j j0 j1
    have un : bd_B μ (k + 1) j = if 6 * μ 32 0 k ≤ j ∧ j < 6 * μ 32 0 k + 6 then bd_b μ k (j - 6 * μ 32 0 k) else bd_B μ k j := rfl
    have p1 := Hp.1 k (by omega) (by omega)
    have p2 := Hp.1 b (by omega) hb
    rw [un, if_neg (fun z => ?_)]
    · exact ih b (by omega) hb j j0 j1
    · have e : μ 32 0 k = μ 32 0 b := by omega
      have := p1.2.2.2.1
      rw [e, p2.2.2.2.1] at this
      omega
theorem sp_putBlock {LS d : Nat} {Post : ma_R → ma_M → Prop} {μ m : ma_M} {b : Nat} (H : bd_H μ) (hm : ∀ c : Nat, c ≠ 55 → m c = μ c) (hb : (b : Int) < μ 21 0 7) (hS : bd_R m (bd_B μ b)) (h : ∀ m' : ma_M, (∀ c : Nat, c ≠ 55 → m' c = μ c) → bd_R m' (bd_B μ (b + 1)) → Post (.inl none) m') : ma_Ox LS (d + 6) mi_Builder_putBlock [ma_Rf 56 0, ma_I b] m Post := by
  have N1 := H.1.1.2.1
  have M7 := H.1.2.1.2.1
  have B := H.1.2.1.2.2.2.2.1 b (by omega) hb
  have pb := H.1.2.2.1.1 b (by omega) hb
  have c0 := pb.2.1
  have c1 := pb.2.2.1
  have k0 := B.2.2.2.2.2.2.1
  have k1 := B.2.2.2.2.2.2.2.1
  have Z := bd_B0 H.1.2.2.1 H.1.2.1.1 b b (Nat.le_refl b) hb
  obtain ⟨K, hK⟩ : ∃ K : Nat, μ 25 0 b = (K : Int) := ⟨(μ 25 0 b).toNat, by omega⟩
  refine gi_Builder_putBlock (fun R hR => s_Builder_putBlock_0 (d := d) hR ?_)
  rw [hm 32 (by decide), hm 24 (by decide), td_nn c0, tm_nn c0, Int.add_zero]
  refine ⟨by omega, by omega, by omega, by omega, by omega, by omega, ?_⟩
  have lp : ∀ (k i : Nat) (m' : ma_M), i + k = K → (∀ c : Nat, c ≠ 55 → m' c = μ c) → bd_R m' (bd_P μ b i) → ∀ u : ma_V, R 30 [ma_Rf 56 0, ma_I b, ma_I (μ 32 0 b), ma_I i, u] [] 0 m' := by
    intro k
    induction k with
    | zero =>
      intro i m' hi hm' hS' u
      refine s_Builder_putBlock_30 hR ?_
      rw [hm' 25 (by decide), hm' 23 (by decide), hm' 8 (by decide), hm' 9 (by decide), td_nn c0, tm_nn c0, hK]
      refine ⟨by omega, fun _ => ⟨fun q => h m' hm' (bd_R_cg hS' (fun j j0 j1 => ?_)), fun q => ?_⟩, fun q => by omega⟩
      · have un : bd_B μ (b + 1) j = if 6 * μ 32 0 b ≤ j ∧ j < 6 * μ 32 0 b + 6 then bd_b μ b (j - 6 * μ 32 0 b) else bd_B μ b j := rfl
        rw [un]
        unfold bd_P
        by_cases p : 6 * μ 32 0 b ≤ j ∧ j < 6 * μ 32 0 b + 6
        · rw [if_pos p]
          by_cases r : j - 6 * μ 32 0 b ≤ (i : Int)
          · rw [if_pos ⟨p.1, p.2, r⟩]
          · rw [if_neg (fun z => r z.2.2), Z j p.1 p.2]
            unfold bd_b
            rw [if_neg (by omega), if_neg (by omega), if_neg (by omega)]
        · rw [if_neg p, if_neg (fun z => p ⟨z.1, z.2.1⟩)]
      · have rg : 0 ≤ μ 23 0 b ∧ μ 23 0 b < μ 3 0 10 ∧ μ 4 0 (μ 23 0 b) = 114 := by
          rcases B.2.2.2.2.2.2.2.2.2.2 with z | z
          · omega
          · exact ⟨z.1, z.2.1, z.2.2.1⟩
        have rn := (H.1.1.2.2.2.2.2.2.2.2.2.2.2.2.1 _ rg.1 rg.2.1).2.2.2.1 rg.2.2
        refine ⟨by omega, by omega, by omega, by omega, by omega, by omega, by omega, by omega, by omega, by omega, h _ (fun c hc => by rw [ma_up_ck hc]; exact hm' c hc) (bd_R_cg (bd_R_up hS' (by omega) (by omega)) (fun j j0 j1 => ?_))⟩
        have un : bd_B μ (b + 1) j = if 6 * μ 32 0 b ≤ j ∧ j < 6 * μ 32 0 b + 6 then bd_b μ b (j - 6 * μ 32 0 b) else bd_B μ b j := rfl
        rw [un]
        unfold bd_up bd_P
        by_cases e5 : j = 36 * (μ 32 0 b / 6) + (6 * (μ 32 0 b % 6) + 5)
        · rw [if_pos e5, if_pos (by omega)]
          unfold bd_b
          rw [if_neg (by omega), if_neg (by omega), if_pos ⟨by omega, q⟩]
        · rw [if_neg e5]
          by_cases p : 6 * μ 32 0 b ≤ j ∧ j < 6 * μ 32 0 b + 6
          · rw [if_pos p]
            by_cases r : j - 6 * μ 32 0 b ≤ (i : Int)
            · rw [if_pos ⟨p.1, p.2, r⟩]
            · rw [if_neg (fun z => r z.2.2), Z j p.1 p.2]
              unfold bd_b
              rw [if_neg (by omega), if_neg (by omega), if_neg (by omega)]
          · rw [if_neg p, if_neg (fun z => p ⟨z.1, z.2.1⟩)]
    | succ k ih =>
      intro i m' hi hm' hS' u
      have tn := tm_n_in H.1 (b := b) (k := i) (by omega) hb (by omega) (by omega)
      have xr := rl_x_rng c0 c1
      refine s_Builder_putBlock_30 hR ?_
      rw [hm' 25 (by decide), hm' 27 (by decide), rl_x_t c0, td_nn c0, hK]
      refine ⟨by omega, fun q => by omega, fun _ => ⟨by omega, by omega, by omega, by omega, sp_codeAt (d := d) H hm' tn xr.1 (by omega) (k_Builder_putBlock_59 hR ?_)⟩⟩
      rw [td_nn c0, tm_nn c0]
      refine ⟨by omega, by omega, by omega, by omega, by omega, by omega, by omega, ih (i + 1) _ (by omega) (fun c hc => by rw [ma_up_ck hc]; exact hm' c hc) (bd_R_cg (bd_R_up hS' (by omega) (by omega)) (fun j j0 j1 => ?_)) _⟩
      unfold bd_up bd_P
      by_cases e5 : j = 36 * (μ 32 0 b / 6) + (6 * (μ 32 0 b % 6) + (1 + (i : Int)))
      · rw [if_pos e5, if_pos (by omega)]
        unfold bd_b
        rw [if_neg (by omega), if_pos (by omega), show j - 6 * μ 32 0 b - 1 = (i : Int) from by omega]
      · rw [if_neg e5]
        by_cases r : 6 * μ 32 0 b ≤ j ∧ j < 6 * μ 32 0 b + 6 ∧ j - 6 * μ 32 0 b ≤ (i : Int)
        · rw [if_pos r, if_pos (by omega)]
        · rw [if_neg r, if_neg (by omega)]
  refine lp K 0 _ (by omega) (fun c hc => by rw [ma_up_ck hc]; exact hm c hc) (bd_R_cg (bd_R_up hS (by omega) (by omega)) (fun j j0 j1 => ?_)) _
  unfold bd_up bd_P
  by_cases e5 : j = 36 * (μ 32 0 b / 6) + (6 * (μ 32 0 b % 6))
  · rw [if_pos e5, if_pos (by omega)]
    unfold bd_b
    rw [if_pos (by omega)]
  · rw [if_neg e5, if_neg (by omega)]
theorem sp_putNet {LS d : Nat} {Post : ma_R → ma_M → Prop} {μ m : ma_M} {n : Nat} {S : Int → Int} (H : bd_H μ) (hm : ∀ c : Nat, c ≠ 55 → m c = μ c) (hn : (n : Int) < μ 3 0 10) (hS : bd_R m S) (h : ∀ m' : ma_M, (∀ c : Nat, c ≠ 55 → m' c = μ c) → bd_R m' (bd_N μ n S 49) → Post (.inl none) m') : ma_Ox LS (d + 6) mi_Builder_putNet [ma_Rf 56 0, ma_I n] m Post := by
  have N1 := H.1.1.2.1
  have T := H.1.2.2.2 n (by omega) hn
  have W := wy_of T
  refine gi_Builder_putNet (fun R hR => s_Builder_putNet_0 (d := d) hR ?_)
  have lp : ∀ (k x : Nat) (m' : ma_M), x + k = 49 → (∀ c : Nat, c ≠ 55 → m' c = μ c) → bd_R m' (bd_N μ n S x) → ∀ u v : ma_V, R 2 [ma_Rf 56 0, ma_I n, ma_I x, u, v] [] 0 m' := by
    intro k
    induction k with
    | zero =>
      intro x m' hx hm' hS' u v
      refine s_Builder_putNet_2 hR ⟨fun _ => h m' hm' ?_, fun q => by omega⟩
      rw [show x = 49 from by omega] at hS'; exact hS'
    | succ k ih =>
      intro x m' hx hm' hS' u v
      have un : bd_N μ n S (x + 1) = if 0 ≤ μ 42 n x then bd_up (bd_N μ n S x) (bd_w (μ 42 n x) (rl_ct μ (μ 42 n x) (n : Int).toNat)) (bd_c μ n (wy_o (μ 42 n x) x)) else bd_N μ n S x := rfl
      have wx := W x (by omega) (by omega)
      refine s_Builder_putNet_2 hR ⟨fun q => by omega, fun _ => ?_⟩
      rw [hm' 42 (by decide)]
      refine ⟨by omega, by omega, fun q => ⟨by omega, ih (x + 1) m' (by omega) hm' (by rw [un, if_neg (by omega)]; exact hS') _ _⟩, fun q => ⟨fun p => by omega, fun _ => ?_⟩⟩
      have tn := (bd_tn H.1 (n := n) (by omega) hn (by omega) (by omega) q).2
      have o := wy_o_rng W (by omega) (by omega) q
      have wh := bd_has T (by omega) (by omega) q
      have ct := bd_ct (N := (μ 3 0 10).toNat) (by omega) wh (H.2 _ q wx.1)
      have lo := rl_lo_rng q wx.1
      have hi := rl_hi_rng q wx.1
      have cx : bd_c μ n x = 1 + 2 * μ 42 n x + rl_ct μ (μ 42 n x) n := by unfold bd_c; rw [if_pos q, Int.toNat_natCast]
      -- behind the first code
      have two : ∀ y : Int, y = wy_o (μ 42 n x) x → ∀ z : ma_V, ma_Ox LS (d + 5) mi_Builder_codeAt [ma_Rf 56 0, ma_I n, ma_I x] m' (ma_ct (ma_Ox LS (d + 5)) (LS, [], 0, 0) 41 [ma_Rf 56 0, ma_I n, ma_I x, ma_I (μ 42 n x), ma_I y] [ma_Rf 53 0] 0 mt_Builder_putNet_44 R (ma_DD (LS, [], 0, 0) Post)) := by
        intro y hy z
        refine sp_codeAt (d := d) H hm' tn (by omega) (by omega) (k_Builder_putNet_41 hR ?_)
        rw [hy]
        refine sp_codeAt (d := d) H hm' tn o.1 o.2.1 (k_Builder_putNet_48 hR ?_)
        rw [cx]
        have nx : ∀ f i : Int, 36 * f + i = bd_w (μ 42 n x) (rl_ct μ (μ 42 n x) n) → 0 ≤ i → i < 36 → R 2 [ma_Rf 56 0, ma_I n, ma_I ((x : Int) + 1), ma_U, ma_U] [] 0 (ma_up m' 55 f i (bd_c μ n (wy_o (μ 42 n x) x))) := by
          intro f i e i0 i1
          refine ih (x + 1) _ (by omega) (fun c hc => by rw [ma_up_ck hc]; exact hm' c hc) ?_ _ _
          rw [un, if_pos q, Int.toNat_natCast, ← e]
          exact bd_R_up hS' i0 i1
        generalize bd_c μ n (wy_o (μ 42 n x) x) = val at nx ⊢
        generalize rl_ct μ (μ 42 n x) n = ctv at nx ct ⊢
        generalize μ 42 n x = e at nx q wx lo hi ⊢
        have d1 : Int.tdiv (1 + 2 * e + ctv - 1) 2 = e := by rw [td_nn (by omega)]; omega
        have d2 : Int.tmod (1 + 2 * e + ctv - 1) 2 = ctv := by rw [tm_nn (by omega)]; omega
        rw [d1, d2]
        have e84 := wx.1
        unfold bd_w at nx
        refine ⟨by omega, by omega, fun p => ?_, fun p => ?_⟩
        · rw [wr_lo1 p, td_nn (a := e - 42) (by omega), td_nn (a := rl_lo e) (by omega), tm_nn (a := rl_lo e) (by omega)]
          refine ⟨by omega, by omega, by omega, by omega, by omega, by omega, by omega, fun r => ?_, fun r => ?_⟩
          · have ei : rl_ix e = 2 * (7 + rl_lo e % 7) := by unfold rl_ix; rw [if_neg (by omega)]
            rw [ei] at nx lo
            exact ⟨by omega, by omega, by omega, by omega, by omega, nx _ _ rfl (by omega) (by omega)⟩
          · have ei : rl_ix e = 2 * (rl_lo e % 7) := by unfold rl_ix; rw [if_pos (by omega)]
            rw [ei] at nx lo
            exact ⟨by omega, by omega, by omega, by omega, nx _ _ rfl (by omega) (by omega)⟩
        · have el : rl_lo e = e := (wr_hi7 p).2
          have ei : rl_ix e = 2 * (rl_lo e % 7) := by unfold rl_ix; rw [if_pos (by omega)]
          rw [ei, el] at nx lo
          rw [td_nn (a := e) q, tm_nn (a := e) q]
          exact ⟨by omega, by omega, by omega, by omega, by omega, by omega, by omega, nx _ _ rfl (by omega) (by omega)⟩
      refine ⟨fun p => ?_, fun p => ?_⟩
      · rw [wr_lo1 p, td_nn (a := μ 42 n x - 42) (by omega)]
        have h1 := wr_hi1 p
        exact ⟨by omega, by omega, by omega, by omega, by omega, fun r => two _ (o.2.2.2 r).symm ma_U, fun r => two _ (by rw [o.2.2.1 r, h1]) ma_U⟩
      · have h7 := wr_hi7 p
        exact ⟨by omega, fun r => two _ (by rw [o.2.2.2 (by rw [h7.2]; exact r), h7.2]) ma_U, fun r => two _ (by rw [o.2.2.1 (by rw [h7.2]; exact r), h7.1]) ma_U⟩
  exact lp 49 0 m (by omega) hm hS _ _
theorem sp_fillFrames {LS d : Nat} {Post : ma_R → ma_M → Prop} {μ : ma_M} (H : bd_H μ) (h : ∀ m : ma_M, (∀ c : Nat, c ≠ 55 → m c = μ c) → bd_R m (bd_O μ (bd_NN μ (bd_B μ (μ 21 0 7).toNat) (μ 3 0 10).toNat) (μ 3 0 13).toNat) → Post (.inl none) m) : ma_Ox LS (d + 7) mi_Builder_fillFrames [ma_Rf 56 0] μ Post := by
  have N0 := H.1.1.1
  have N1 := H.1.1.2.1
  have O0 := H.1.1.2.2.2.2.2.2.1
  have O1 := H.1.1.2.2.2.2.2.2.2.1
  have M70 := H.1.2.1.1
  have M71 := H.1.2.1.2.1
  obtain ⟨N, hN⟩ : ∃ N : Nat, μ 3 0 10 = (N : Int) := ⟨(μ 3 0 10).toNat, by omega⟩
  obtain ⟨O, hO⟩ : ∃ O : Nat, μ 3 0 13 = (O : Int) := ⟨(μ 3 0 13).toNat, by omega⟩
  obtain ⟨B, hB⟩ : ∃ B : Nat, μ 21 0 7 = (B : Int) := ⟨(μ 21 0 7).toNat, by omega⟩
  rw [hN, hO, hB, Int.toNat_natCast, Int.toNat_natCast, Int.toNat_natCast] at h
  refine gi_Builder_fillFrames (fun R hR => s_Builder_fillFrames_0 (d := d) hR ?_)
  have l57 : ∀ (k o : Nat) (m : ma_M), o + k = O → (∀ c : Nat, c ≠ 55 → m c = μ c) → bd_R m (bd_O μ (bd_NN μ (bd_B μ B) N) o) → ∀ u : ma_V, R 57 [ma_Rf 56 0, ma_I o, u] [] 0 m := by
    intro k
    induction k with
    | zero =>
      intro o m ho hm hS u
      refine s_Builder_fillFrames_57 hR ⟨fun _ => h m hm ?_, fun q => by rw [hm 3 (by decide)] at q; omega⟩
      rw [show o = O from by omega] at hS; exact hS
    | succ k ih =>
      intro o m ho hm hS u
      have oo := H.1.1.2.2.2.2.2.2.2.2.2.2.2.2.2.2.2.2.2 o (by omega) (by omega)
      have tn : tm_n μ (μ 13 0 o) := ⟨oo.2.1, oo.2.2, by rcases H.1.2.1.2.2.2.2.2.1 o (by omega) (by omega) with z | z; exact .inl z; exact .inr (.inr z)⟩
      refine s_Builder_fillFrames_57 hR ⟨fun q => by rw [hm 3 (by decide)] at q; omega, fun _ => ?_⟩
      rw [hm 13 (by decide)]
      refine ⟨by omega, by omega, sp_codeAt (d := d + 1) H hm tn (by omega) (by omega) (k_Builder_fillFrames_95 hR ⟨by omega, by omega, ih (o + 1) _ (by omega) (fun c hc => by rw [ma_up_ck hc]; exact hm c hc) ?_ _⟩)⟩
      have := bd_R_up (f := 13) (i := o) (v := bd_c μ (μ 13 0 o) (42 + o)) hS (by omega) (by omega)
      rw [show 36 * (13 : Int) + o = 468 + o from by omega] at this
      exact this
  have l33 : ∀ (k n : Nat) (m : ma_M), n + k = N → (∀ c : Nat, c ≠ 55 → m c = μ c) → bd_R m (bd_NN μ (bd_B μ B) n) → ∀ u : ma_V, R 33 [ma_Rf 56 0, ma_I n, u] [] 0 m := by
    intro k
    induction k with
    | zero =>
      intro n m hn hm hS u
      rw [show n = N from by omega] at hS ⊢
      exact s_Builder_fillFrames_33 hR ⟨fun _ => l57 O 0 m (by omega) hm hS _, fun q => by rw [hm 3 (by decide)] at q; omega⟩
    | succ k ih =>
      intro n m hn hm hS u
      exact s_Builder_fillFrames_33 hR ⟨fun q => by rw [hm 3 (by decide)] at q; omega, fun _ => sp_putNet (d := d) H hm (by omega) hS (fun m' hm' hS' => k_Builder_fillFrames_46 hR ⟨by omega, ih (n + 1) m' (by omega) hm' hS' _⟩)⟩
  have l9 : ∀ (k b : Nat) (m : ma_M), b + k = B → (∀ c : Nat, c ≠ 55 → m c = μ c) → bd_R m (bd_B μ b) → ∀ u : ma_V, R 9 [ma_Rf 56 0, ma_I b, u] [] 0 m := by
    intro k
    induction k with
    | zero =>
      intro b m hb hm hS u
      rw [show b = B from by omega] at hS ⊢
      exact s_Builder_fillFrames_9 hR ⟨fun _ => l33 N 0 m (by omega) hm hS _, fun q => by rw [hm 21 (by decide)] at q; omega⟩
    | succ k ih =>
      intro b m hb hm hS u
      exact s_Builder_fillFrames_9 hR ⟨fun q => by rw [hm 21 (by decide)] at q; omega, fun _ => sp_putBlock (d := d) H hm (by omega) hS (fun m' hm' hS' => k_Builder_fillFrames_22 hR ⟨by omega, ih (b + 1) m' (by omega) hm' hS' _⟩)⟩
  refine gi_Frames_clear (fun R3 hR3 => s_Frames_clear_0 (d := d + 4) hR3 ?_)
  refine ma_cnt (σ := ma_M) (N := 14) (P := fun f m => R3 2 [ma_Rf 53 0, ma_I f] [] 0 m) (I := fun n m => (∀ c : Nat, c ≠ 55 → m c = μ c) ∧ ∀ f i : Int, 0 ≤ f → f < n → 0 ≤ i → i < 36 → m 55 f i = 0) ?_ ?_ 0 μ (by omega) (by omega) ⟨fun _ _ => rfl, fun f i a b => by omega⟩
  · intro f m f0 f1 ⟨a1, a2⟩ ih
    refine s_Frames_clear_2 hR3 ⟨fun q => by omega, fun _ => ⟨by omega, sp_fillI (len := 36) rfl rfl (by omega) (fun m1 b1 b2 b3 => k_Frames_clear_15 hR3 ⟨by omega, ih m1 ⟨fun c hc => by rw [b1 c hc]; exact a1 c hc, fun g i g0 g1 i0 i1 => ?_⟩⟩)⟩⟩
    by_cases e : g = f
    · rw [e]; exact b3 i i0 i1
    · rw [b2 g i e]; exact a2 g i g0 (by omega) i0 i1
  · intro m ⟨a1, a2⟩
    exact s_Frames_clear_2 hR3 ⟨fun _ => k_Builder_fillFrames_4 hR (l9 B 0 m (by omega) a1 (fun f i f0 f1 i0 i1 => by rw [a2 f i f0 f1 i0 i1]; rfl) _), fun q => by omega⟩

