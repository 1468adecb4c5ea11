/-! the reference's blocks -/
/-- the reference's row of a block is the class's -/
def cu_B (μ m : ma_M) (b : Int) : Prop := m 83 0 b = μ 22 0 b ∧ m 84 0 b = μ 23 0 b ∧ m 86 0 b = μ 24 0 b ∧ m 87 0 b = μ 25 0 b ∧ (∀ k : Int, 0 ≤ k → k < μ 25 0 b → m 88 0 (4 * b + k) = μ 27 b k) ∧ m 90 0 b = 0 ∧ μ 25 0 b ≤ 4
/-- the facts that the class leaves -/
def cu_F (μ : ma_M) (u : Int → Int) : Prop := rl_c μ ∧ cu_blk μ u ∧ cu_P1 μ μ (μ 3 0 12) ∧ cu_P2 μ μ u (μ 3 0 10).toNat ∧ cu_P3 μ μ
theorem cu_eqv_of {μ : ma_M} (H : rl_c μ) : cu_eqv μ (μ 3 0 10).toNat := by
  obtain ⟨N0, N1, _, _, _, _, _, _, _, _, _, _, hn, _, _, _, _, _⟩ := H
  intro k hk
  obtain ⟨h1, h2, _, _, h5⟩ := hn k (by omega) (by omega)
  refine ⟨h1, fun hg => ?_⟩
  have := h5 (fun z => hg (.inl z)) (fun z => hg (.inr z))
  exact ⟨this.1, this.2.2.2.1⟩
/-- a gate that is needed and that a register takes lies with the first such register -/
theorem cu_P4 {μ : ma_M} (H : rl_c μ) (h1 : cu_P1 μ μ (μ 3 0 12)) {k : Nat} (hn : cu_need μ k) (hf : cu_fed μ k) : ∃ j : Nat, (j : Int) < μ 3 0 12 ∧ μ 7 0 (μ 12 0 j) = k ∧ μ 28 0 k = j ∧ cu_bG μ j k (cu_own μ k) (μ 3 0 10).toNat := by
  have key : ∀ j : Nat, (j : Int) < μ 3 0 12 → μ 7 0 (μ 12 0 j) = k → ∃ j : Nat, (j : Int) < μ 3 0 12 ∧ μ 7 0 (μ 12 0 j) = k ∧ μ 28 0 k = j ∧ cu_bG μ j k (cu_own μ k) (μ 3 0 10).toNat := by
    intro j
    induction j using Nat.strongRecOn with
    | _ j ih =>
      intro hj e
      obtain ⟨_, _, p3⟩ := h1 j (by omega) hj
      rw [e, show ((k : Nat) : Int).toNat = k from rfl] at p3
      rcases p3 with ⟨_, z2, z3⟩ | ⟨z1, _⟩
      · exact ⟨j, hj, e, z2, z3⟩
      · obtain ⟨a, b, c⟩ := z1 hn
        refine ih (μ 28 0 k).toNat (by omega) (by omega) ?_
        rw [show (((μ 28 0 k).toNat : Nat) : Int) = μ 28 0 k from by omega]; exact c
  obtain ⟨i, i0, i1, i2, i3⟩ := hf
  obtain ⟨_, _, _, _, _, _, _, _, _, _, _, _, _, _, _, _, hrj, _⟩ := H
  obtain ⟨j, j0, j1, ej⟩ := hrj i i0 i1 i2
  refine key j.toNat (by omega) ?_
  rw [show ((j.toNat : Nat) : Int) = j from by omega, ej]; exact i3
/-- where a node's block is -/
theorem cu_of28 {μ : ma_M} {u : Int → Int} (F : cu_F μ u) {x : Nat} (hx : (x : Int) < μ 3 0 10) :
    (∃ j : Nat, (j : Int) < μ 3 0 12 ∧ μ 12 0 j = x ∧ μ 28 0 x = j ∧ ¬ cu_need μ x) ∨
    (∃ j : Nat, (j : Int) < μ 3 0 12 ∧ μ 7 0 (μ 12 0 j) = x ∧ μ 28 0 x = j ∧ cu_need μ x ∧ u x = 0 ∧ cu_bG μ j x (cu_own μ x) (μ 3 0 10).toNat) ∨
    (u x = 1 ∧ cu_need μ x ∧ μ 28 0 x = μ 3 0 12 + ma_sum u x) ∨ (μ 28 0 x = -1 ∧ ¬ cu_need μ x ∧ μ 4 0 x ≠ 114) := by
  obtain ⟨H, hu, h1, h2, h3⟩ := F
  obtain ⟨v1, v2⟩ := hu x hx
  by_cases r : μ 4 0 x = 114
  · obtain ⟨_, _, _, _, _, _, _, _, _, _, _, _, _, _, _, _, hrj, _⟩ := H
    obtain ⟨j, j0, j1, ej⟩ := hrj x (by omega) hx r
    refine .inl ⟨j.toNat, by omega, ?_⟩
    rw [show ((j.toNat : Nat) : Int) = j from by omega]
    refine ⟨ej, ?_, fun z => cu_need_gate z (.inr r)⟩
    rw [← ej]; exact (h1 j j0 j1).2.1
  · by_cases n : cu_need μ x
    · by_cases f : cu_fed μ x
      · obtain ⟨j, a, b, c, e⟩ := cu_P4 H h1 n f
        refine .inr (.inl ⟨j, a, b, c, n, ?_, e⟩)
        rcases v1 with v1 | v1
        · exact v1
        · exact absurd f (v2.1 v1).2
      · have ux := v2.2 ⟨n, f⟩
        exact .inr (.inr (.inl ⟨ux, n, (h2 x (by omega) ux).1⟩))
    · exact .inr (.inr (.inr ⟨h3 x hx r n, n, r⟩))
theorem cu_blk_sum {μ : ma_M} {u : Int → Int} (H : rl_c μ) (hu : cu_blk μ u) {k : Nat} (hk : (k : Int) ≤ μ 3 0 10) : 0 ≤ ma_sum u k ∧ μ 3 0 12 + ma_sum u k ≤ μ 3 0 10 := by
  have hle := cu_blk_le H hu
  have N0 := H.1
  have u0 : ∀ i : Int, 0 ≤ i → i < ((μ 3 0 10).toNat : Nat) → 0 ≤ u i ∧ u i ≤ 1 := fun i a b => by
    have := (hu i.toNat (by omega)).1
    rw [show ((i.toNat : Nat) : Int) = i from by omega] at this; omega
  have s0 := (ma_sum_rng (f := u) (b := 1) k (fun x a b => u0 x a (by omega))).1
  have := cu_sum_le (u := u) (k := k) (μ 3 0 10).toNat (by omega) (fun i a b => (u0 i a b).1)
  omega
theorem cu_blk_sum_inj {μ : ma_M} {u : Int → Int} (hu : cu_blk μ u) {x y : Nat} (hx : (x : Int) < μ 3 0 10) (hy : (y : Int) < μ 3 0 10) (ux : u x = 1) (uy : u y = 1) (e : ma_sum u x = ma_sum u y) : x = y := by
  have u0 : ∀ i : Int, 0 ≤ i → i < μ 3 0 10 → 0 ≤ u i := fun i a b => by
    have := (hu i.toNat (by omega)).1
    rw [show ((i.toNat : Nat) : Int) = i from by omega] at this; omega
  by_cases h1 : x < y
  · have := cu_sum_lt (u := u) h1 ux (fun i a b => u0 i a (by omega)); omega
  · by_cases h2 : y < x
    · have := cu_sum_lt (u := u) h2 uy (fun i a b => u0 i a (by omega)); omega
    · omega
theorem cu_cnt_pow0 (f : Nat) : cu_cnt (2 ^ f) f = 0 := by rw [cu_cnt_pow, if_neg (by omega)]
/-- a block of the reference -/
theorem sp_newBlock {LS d : Nat} {Post : ma_R → ma_M → Prop} {μ m : ma_M} {b : Nat} {r g : Int} (H : rl_c μ) (hf : ∀ c : Nat, c < 69 → m c = μ c) (hc : ∀ c : Nat, 70 ≤ c → c < 78 → m c = μ c) (e8 : m 69 0 8 = μ 3 0 10) (eb : m 69 0 25 = (b : Int)) (hb : b < 48)
    (h78 : 0 ≤ g → m 78 0 (g * 7) = (cu_own μ g.toNat : Int))
    (hcase : (g = -1 ∧ 0 ≤ r ∧ r < μ 3 0 10 ∧ μ 4 0 r = 114 ∧ cu_bR μ b (μ 7 0 r)) ∨ (0 ≤ g ∧ g < μ 3 0 10 ∧ (r = -1 ∨ 0 ≤ r ∧ r < μ 3 0 10) ∧ ¬ (μ 4 0 g = 105 ∨ μ 4 0 g = 114) ∧ cu_bG μ b g.toNat (cu_own μ g.toNat) (μ 3 0 10).toNat)) (e23 : μ 23 0 b = r)
    (h : ∀ (v : Int) (m' : ma_M), (∀ c : Nat, c ≠ 69 → c ≠ 81 → c ≠ 83 → c ≠ 84 → c ≠ 86 → c ≠ 87 → c ≠ 88 → c ≠ 90 → m' c = m c) → (∀ i : Int, i ≠ 25 → m' 69 0 i = m 69 0 i) → m' 69 0 25 = (b : Int) + 1 → (∀ i : Int, 0 ≤ i → i < b → cu_B μ m i → cu_B μ m' i) → cu_B μ m' b → (∀ i : Int, 0 ≤ i → m' 81 0 i = if i = g ∨ i = r then (b : Int) else m 81 0 i) → Post (.inl (some (ma_I v))) m') :
    ma_Ox LS (d + 56) mi_LatticefitModel_newBlock [ma_Rf 69 0, ma_I r, ma_I g] m Post := by
  have HC := H
  obtain ⟨N0, N1, I0, I1, R0, R1, O0, O1, _, _, _, _, hn, hi, hr, _, hrj, hoo⟩ := HC
  obtain ⟨N, eN⟩ : ∃ N : Nat, μ 3 0 10 = (N : Int) := ⟨(μ 3 0 10).toNat, by omega⟩
  have tN : (μ 3 0 10).toNat = N := by omega
  refine gi_LatticefitModel_newBlock (fun R hR => s_LatticefitModel_newBlock_0 (d := d + 51) hR ?_)
  rw [eb]
  have eM : ∀ c : Nat, c ≠ 83 → c ≠ 84 → c ≠ 90 → (ma_up (ma_up (ma_up m 83 0 b g) 84 0 b r) 90 0 b 0) c = m c := fun c c1 c2 c3 => by rw [ma_up_ck c3, ma_up_ck c2, ma_up_ck c1]
  have M4 := (eM 4 (by decide) (by decide) (by decide)).trans (hf 4 (by decide))
  have M5 := (eM 5 (by decide) (by decide) (by decide)).trans (hf 5 (by decide))
  have M6 := (eM 6 (by decide) (by decide) (by decide)).trans (hf 6 (by decide))
  have M70 := (eM 70 (by decide) (by decide) (by decide)).trans (hc 70 (by decide) (by decide))
  have M71 := (eM 71 (by decide) (by decide) (by decide)).trans (hc 71 (by decide) (by decide))
  have M72 := (eM 72 (by decide) (by decide) (by decide)).trans (hc 72 (by decide) (by decide))
  have M69 := eM 69 (by decide) (by decide) (by decide)
  have w2 := cu_wf2_of H
  have q2 := cu_eqv_of H
  rw [tN] at w2 q2
  -- behind the table
  have fin : ∀ (s : Nat) (mt : ma_M), (∀ c : Nat, c ≠ 86 → c ≠ 87 → c ≠ 88 → mt c = (ma_up (ma_up (ma_up m 83 0 b g) 84 0 b r) 90 0 b 0) c) → (∀ i : Int, i ≠ b → mt 86 0 i = (ma_up (ma_up (ma_up m 83 0 b g) 84 0 b r) 90 0 b 0) 86 0 i ∧ mt 87 0 i = (ma_up (ma_up (ma_up m 83 0 b g) 84 0 b r) 90 0 b 0) 87 0 i) → (∀ i : Int, i < 4 * b ∨ 4 * b + 4 ≤ i → mt 88 0 i = (ma_up (ma_up (ma_up m 83 0 b g) 84 0 b r) 90 0 b 0) 88 0 i) → mt 86 0 b = μ 24 0 b → mt 87 0 b = μ 25 0 b → (∀ k : Int, 0 ≤ k → k < μ 25 0 b → mt 88 0 (4 * b + k) = μ 27 b k) → μ 22 0 b = g → μ 25 0 b ≤ 4 → ma_ct (ma_Ox LS (d + 51 + 4)) (LS, [], 1, 0) 60 [ma_Rf 69 0, ma_I r, ma_I g] [] 0 mt_LatticefitModel_newBlock_63 R (ma_DD (LS, [], 1, 0) Post) (.inl none) mt := by
    intro s mt a1 a2 a3 a4 a5 a6 a7 a8
    have t69 : mt 69 = m 69 := (a1 69 (by decide) (by decide) (by decide)).trans M69
    have e25 : mt 69 0 25 = (b : Int) := by rw [t69]; exact eb
    -- the last writes
    have last : ∀ W : ma_M, (∀ c : Nat, c ≠ 69 → c ≠ 81 → W c = mt c) → (∀ i : Int, i ≠ 25 → W 69 0 i = mt 69 0 i) → W 69 0 25 = (b : Int) + 1 → (∀ i : Int, 0 ≤ i → W 81 0 i = if i = g ∨ i = r then (b : Int) else mt 81 0 i) → ∀ v : Int, Post (.inl (some (ma_I v))) W := by
      intro W w1 w2 w3 w4 v
      have q83 : W 83 = ma_up m 83 0 b g 83 := by rw [w1 83 (by decide) (by decide), a1 83 (by decide) (by decide) (by decide), ma_up_ck (by decide), ma_up_ck (by decide)]
      have q84 : W 84 = ma_up m 84 0 b r 84 := by
        rw [w1 84 (by decide) (by decide), a1 84 (by decide) (by decide) (by decide), ma_up_ck (by decide)]
        funext x y; simp [ma_up_rd]
      have q90 : W 90 = ma_up m 90 0 b 0 90 := by
        rw [w1 90 (by decide) (by decide), a1 90 (by decide) (by decide) (by decide)]
        funext x y; simp [ma_up_rd]
      have q86 : W 86 = mt 86 := w1 86 (by decide) (by decide)
      have q87 : W 87 = mt 87 := w1 87 (by decide) (by decide)
      have q88 : W 88 = mt 88 := w1 88 (by decide) (by decide)
      refine h v W (fun c c1 c2 c3 c4 c5 c6 c7 c8 => ?_) (fun i hi => by rw [w2 i hi, t69]) w3 (fun i i0 i1 hB => ?_) ?_ (fun i i0 => ?_)
      · rw [w1 c c1 c2, a1 c c5 c6 c7, ma_up_ck c8, ma_up_ck c4, ma_up_ck c3]
      · obtain ⟨z1, z2, z3, z4, z5, z6, z7⟩ := hB
        unfold cu_B
        rw [q83, q84, q86, q87, q88, q90, ma_up_ne (by omega), ma_up_ne (by omega), ma_up_ne (by omega), (a2 i (by omega)).1, (a2 i (by omega)).2, eM 86 (by decide) (by decide) (by decide), eM 87 (by decide) (by decide) (by decide)]
        refine ⟨z1, z2, z3, z4, fun k k0 k1 => ?_, z6, z7⟩
        by_cases k4 : k < 4
        · rw [a3 _ (by omega), eM 88 (by decide) (by decide) (by decide)]; exact z5 k k0 k1
        · omega
      · unfold cu_B
        rw [q83, q84, q86, q87, q88, q90, ma_up_eq, ma_up_eq, ma_up_eq]
        exact ⟨a7.symm, e23.symm, a4, a5, a6, rfl, a8⟩
      · rw [w4 i i0, a1 81 (by decide) (by decide) (by decide), eM 81 (by decide) (by decide) (by decide)]
    have rr : r = -1 ∨ 0 ≤ r ∧ r < μ 3 0 10 := by rcases hcase with z | z; exact .inr ⟨z.2.1, z.2.2.1⟩; exact z.2.2.1
    have gr : g = -1 ∨ 0 ≤ g ∧ g < μ 3 0 10 := by rcases hcase with z | z; exact .inl z.1; exact .inr ⟨z.1, z.2.1⟩
    refine k_LatticefitModel_newBlock_60 hR ?_
    rw [e25]
    refine ⟨fun g0 => ⟨fun r0 => ⟨by omega, by omega, ?_⟩, fun r0 => ⟨by omega, by omega, by omega, ?_⟩⟩, fun g0 => ⟨by omega, fun r0 => ⟨by omega, by omega, ?_⟩, fun r0 => ⟨by omega, by omega, by omega, ?_⟩⟩⟩
    · refine last _ (fun c c1 c2 => by rw [ma_up_ck c1]) (fun i hi => ma_up_ne (by omega)) ma_up_eq (fun i i0 => ?_) _
      rw [if_neg (by omega), ma_up_ck (by decide)]
    · refine last _ (fun c c1 c2 => by rw [ma_up_ck c1, ma_up_ck c2]) (fun i hi => by rw [ma_up_ne (by omega), ma_up_ck (by decide)]) ma_up_eq (fun i i0 => ?_) _
      rw [ma_up_ck (by decide)]
      by_cases e : i = r
      · rw [if_pos (.inr e), e, ma_up_eq]
      · rw [if_neg (by omega), ma_up_ne (by omega)]
    · refine last _ (fun c c1 c2 => by rw [ma_up_ck c1, ma_up_ck c2]) (fun i hi => by rw [ma_up_ne (by omega), ma_up_ck (by decide)]) ma_up_eq (fun i i0 => ?_) _
      rw [ma_up_ck (by decide)]
      by_cases e : i = g
      · rw [if_pos (.inl e), e, ma_up_eq]
      · rw [if_neg (by omega), ma_up_ne (by omega)]
    · refine last _ (fun c c1 c2 => by rw [ma_up_ck c1, ma_up_ck c2, ma_up_ck c2]) (fun i hi => by rw [ma_up_ne (by omega), ma_up_ck (by decide), ma_up_ck (by decide)]) ma_up_eq (fun i i0 => ?_) _
      rw [ma_up_ck (by decide)]
      by_cases e : i = r
      · rw [if_pos (.inr e), e, ma_up_eq]
      · rw [ma_up_ne (by omega)]
        by_cases e2 : i = g
        · rw [if_pos (.inl e2), e2, ma_up_eq]
        · rw [if_neg (by omega), ma_up_ne (by omega)]
  refine ⟨by omega, fun g0 => ?_, fun g0 => ?_⟩
  · rcases hcase with z | ⟨_, z1, z2, z3, z4⟩
    · omega
    obtain ⟨n, en⟩ : ∃ n : Nat, g = (n : Int) := ⟨g.toNat, by omega⟩
    subst en
    rw [show ((n : Nat) : Int).toNat = n from rfl] at z4 h78
    obtain ⟨o1, o2, o3, o4⟩ := cu_own_of H (by omega) z3
    obtain ⟨y1, y2, y3, y4⟩ := z4
    refine ⟨by omega, by omega, ?_⟩
    rw [h78 (by omega)]
    refine sp_tabled (N := N) (by omega) (by rw [M69, e8, eN]) (by rw [M4, M5, M6]; exact w2) (fun k hk => by rw [M70, M71, M72, M4, M5, M6]; exact q2 k hk) (Nat.lt_of_lt_of_le o1 (Nat.pow_le_pow_right (by omega) (by omega))) o2 hb (.inr ⟨by omega, by omega, by rw [M4]; exact z3, o1, by rw [M4, M5, M6]; exact o3, by rw [M4, M5, M6]; exact o4⟩) (fun mt a1 a2 a3 a4 a5 a6 => fin (cu_own μ n) mt a1 a2 a5 ?_ ?_ (fun k k0 k1 => ?_) y1 (by omega))
    · rw [a3, if_neg (by omega), M4, M5, M6, y2, tN]; rfl
    · rw [a4, y3]
    · rw [y3] at k1
      obtain ⟨x, x1, x2, x3⟩ := cu_cnt_surj 48 k.toNat (show k.toNat < cu_cnt (cu_own μ n) 48 by omega)
      have xn : x < n := by
        by_cases e : x < n
        · exact e
        · rw [Nat.testBit_lt_two_pow (Nat.lt_of_lt_of_le o1 (Nat.pow_le_pow_right (by omega) (show n ≤ x by omega)))] at x2
          exact absurd x2 (by decide)
      have i1 := a6 x (by omega) x2
      have i2 := y4 x (by omega) x2
      rw [x3] at i1 i2
      rw [show (4 : Int) * (b : Int) + k = ((4 * b + k.toNat : Nat) : Int) from by omega, i1, ← i2, show ((k.toNat : Nat) : Int) = k from by omega]
  · rcases hcase with ⟨z0, z1, z2, z3, z4⟩ | z
    rotate_left
    · omega
    have m74 : m 74 0 r = μ 7 0 r := by rw [hc 74 (by decide) (by decide)]; exact ((hn r z1 z2).2.2.2.1 z3).1
    have f7 := (hn r z1 z2).2.2.2.1 z3
    obtain ⟨f, ef⟩ : ∃ f : Nat, μ 7 0 r = (f : Int) := ⟨(μ 7 0 r).toNat, by omega⟩
    obtain ⟨y1, y2, y3, y4⟩ := z4
    refine ⟨by omega, ?_⟩
    rw [m74, ef, ma_lshl_one (by omega) (by omega), show ((f : Nat) : Int).toNat = f from rfl]
    have c1 := cu_cnt_pow1 f 48
    refine sp_tabled (N := N) (by omega) (by rw [M69, e8, eN]) (by rw [M4, M5, M6]; exact w2) (fun k hk => by rw [M70, M71, M72, M4, M5, M6]; exact q2 k hk) (Nat.pow_lt_pow_right (by omega) (by omega)) (by omega) hb (.inl g0) (fun mt a1 a2 a3 a4 a5 a6 => fin (2 ^ f) mt a1 a2 a5 ?_ ?_ (fun k k0 k1 => ?_) (by rw [y1, z0]) (by omega))
    · rw [a3, if_pos g0, y2]
    · rw [a4, y3, cu_cnt_pow, if_pos (by omega)]; rfl
    · rw [y3] at k1
      have := a6 f (by omega) Nat.testBit_two_pow_self
      rw [cu_cnt_pow0] at this
      rw [show k = 0 from by omega, y4, ef, show (4 : Int) * (b : Int) + 0 = ((4 * b + 0 : Nat) : Int) from by omega, this]
