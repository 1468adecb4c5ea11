/-! the class packs all blocks -/
theorem cu_sum_le {u : Int → Int} {k : Nat} : ∀ n : Nat, k ≤ n → (∀ i : Int, 0 ≤ i → i < n → 0 ≤ u i) → ma_sum u k ≤ ma_sum u n
  | 0, h, _ => by rw [show k = 0 from by omega]; exact Int.le_refl _
  | n + 1, h, hu => by
    by_cases e : k = n + 1
    · rw [e]; exact Int.le_refl _
    · have := cu_sum_le (u := u) n (show k ≤ n by omega) (fun i a b => hu i a (by omega))
      have := hu n (by omega) (by omega)
      show ma_sum u k ≤ ma_sum u n + u n
      omega
theorem cu_sum_lt {u : Int → Int} {k n : Nat} (hk : k < n) (h1 : u k = 1) (hu : ∀ i : Int, 0 ≤ i → i < n → 0 ≤ u i) : ma_sum u k + 1 ≤ ma_sum u n := by
  have := cu_sum_le (u := u) n (show k + 1 ≤ n by omega) hu
  have e : ma_sum u (k + 1) = ma_sum u k + u k := rfl
  omega
theorem cu_wf2_of {μ : ma_M} (H : rl_c μ) : cu_wf2 (μ 4 0) (μ 5 0) (μ 6 0) (μ 3 0 10).toNat := by
  obtain ⟨N0, N1, _, _, _, _, _, _, _, _, _, _, hn, _, _, _, _, _⟩ := H
  intro k hk hg
  obtain ⟨h1, h2, _, _, h5⟩ := hn k (by omega) (by omega)
  have := h5 (fun z => hg (.inl z)) (fun z => hg (.inr z))
  exact ⟨⟨this.2.1, this.2.2.1⟩, ⟨this.2.2.2.2.1, this.2.2.2.2.2.1⟩, this.2.2.2.2.2.2⟩
theorem cu_own_of {μ : ma_M} (H : rl_c μ) {k : Nat} (hk : (k : Int) < μ 3 0 10) (hg : ¬ (μ 4 0 k = 105 ∨ μ 4 0 k = 114)) : cu_own μ k < 2 ^ k ∧ cu_cnt (cu_own μ k) 48 ≤ 4 ∧ cu_Cv (μ 4 0) (μ 5 0) (μ 6 0) (cu_own μ k) (μ 5 0 k).toNat ∧ (μ 4 0 k ≠ 110 → cu_Cv (μ 4 0) (μ 5 0) (μ 6 0) (cu_own μ k) (μ 6 0 k).toNat) := by
  have g := cu_T_of H k hk
  have g2 := g.gate hg
  exact ⟨g2.2.1, g.few 0 (by omega), g2.2.2⟩
theorem sp_pack {LS d : Nat} {Post : ma_R → ma_M → Prop} {μ : ma_M} {u : Int → Int} (H : rl_c μ) (hz : ∀ j : Nat, j < 4 → μ 1 0 j = (cu_pt j : Int)) (ho : ∀ n : Nat, (n : Int) < μ 3 0 10 → ¬ (μ 4 0 n = 105 ∨ μ 4 0 n = 114) → μ 16 n 0 = (cu_own μ n : Int)) (hu : cu_blk μ u)
    (h : ∀ m : ma_M, (∀ c : Nat, c ≠ 21 → c ≠ 22 → c ≠ 23 → c ≠ 24 → c ≠ 25 → c ≠ 27 → c ≠ 28 → c ≠ 29 → c ≠ 30 → m c = μ c) → (∀ i : Int, i ≠ 7 → m 21 0 i = μ 21 0 i) → m 21 0 7 = μ 3 0 12 + ma_sum u (μ 3 0 10).toNat → cu_row29 μ m → cu_P1 μ m (μ 3 0 12) → cu_P2 μ m u (μ 3 0 10).toNat → cu_P3 μ m → Post (.inl none) m) :
    ma_Ox LS (d + 4) mi_Blocks_pack [ma_Rf 21 0, ma_Rf 14 0] μ Post := by
  have HC := H
  obtain ⟨N0, N1, I0, I1, R0, R1, O0, O1, _, _, _, _, hn, hi, hr, _, hrj, hoo⟩ := HC
  have hle := cu_blk_le H hu
  have hw2 := cu_wf2_of H
  have hkd : ∀ k : Nat, k < (μ 3 0 10).toNat → μ 4 0 k = 105 ∨ μ 4 0 k = 114 ∨ μ 4 0 k = 97 ∨ μ 4 0 k = 111 ∨ μ 4 0 k = 120 ∨ μ 4 0 k = 110 := fun k hk => (hn k (by omega) (by omega)).2.1
  have u0 : ∀ i : Int, 0 ≤ i → i < ((μ 3 0 10).toNat : Nat) → 0 ≤ u i := fun i a b => by
    have := (hu i.toNat (by omega)).1
    rw [show ((i.toNat : Nat) : Int) = i from by omega] at this; omega
  obtain ⟨N, eN⟩ : ∃ N : Nat, μ 3 0 10 = (N : Int) := ⟨(μ 3 0 10).toNat, by omega⟩
  have tN : (μ 3 0 10).toNat = N := by omega
  refine gi_Blocks_pack (fun R hR => s_Blocks_pack_0 hR (sp_markNeeded H (fun n a b => ⟨ho n a b, (cu_own_of H a b).1⟩) (fun m1 a1 a2 => k_Blocks_pack_2 hR (sp_fillI (len := 48) rfl rfl (by omega) (fun m2 b1 b2 b3 => k_Blocks_pack_15 hR ?_)))))
  -- the second loop
  have l2 : ∀ (k i : Nat) (m : ma_M), i + k = N → (∀ c : Nat, c ≠ 21 → c ≠ 22 → c ≠ 23 → c ≠ 24 → c ≠ 25 → c ≠ 27 → c ≠ 28 → c ≠ 29 → c ≠ 30 → m c = μ c) → (∀ i : Int, i ≠ 7 → m 21 0 i = μ 21 0 i) → m 21 0 7 = μ 3 0 12 + ma_sum u i → cu_row29 μ m → cu_P1 μ m (μ 3 0 12) → cu_P2 μ m u i → cu_P3 μ m → (∀ k : Nat, (k : Int) < μ 3 0 10 → cu_need μ k → cu_fed μ k → 0 ≤ m 28 0 k) → (∀ k : Nat, i ≤ k → (k : Int) < μ 3 0 10 → u k = 1 → m 28 0 k = -1) → R 53 [ma_Rf 21 0, ma_Rf 14 0, ma_I i] [] 0 m := by
    intro k
    induction k with
    | zero =>
      intro i m hi c1 c2 c3 c4 c5 c6 c7 c8 c9
      have e3 : m 3 = μ 3 := c1 3 (by decide) (by decide) (by decide) (by decide) (by decide) (by decide) (by decide) (by decide) (by decide)
      have ei : i = N := by omega
      refine s_Blocks_pack_53 hR ⟨fun _ => h m c1 c2 ?_ c4 c5 ?_ c7, fun q => by rw [e3] at q; omega⟩
      · rw [tN, ← ei]; exact c3
      · rw [tN, ← ei]; exact c6
    | succ k ih =>
      intro i m hi c1 c2 c3 c4 c5 c6 c7 c8 c9
      have e3 : m 3 = μ 3 := c1 3 (by decide) (by decide) (by decide) (by decide) (by decide) (by decide) (by decide) (by decide) (by decide)
      have e4 : m 4 = μ 4 := c1 4 (by decide) (by decide) (by decide) (by decide) (by decide) (by decide) (by decide) (by decide) (by decide)
      have e5 : m 5 = μ 5 := c1 5 (by decide) (by decide) (by decide) (by decide) (by decide) (by decide) (by decide) (by decide) (by decide)
      have e6 : m 6 = μ 6 := c1 6 (by decide) (by decide) (by decide) (by decide) (by decide) (by decide) (by decide) (by decide) (by decide)
      have e16 : m 16 = μ 16 := c1 16 (by decide) (by decide) (by decide) (by decide) (by decide) (by decide) (by decide) (by decide) (by decide)
      have e1 : m 1 = μ 1 := c1 1 (by decide) (by decide) (by decide) (by decide) (by decide) (by decide) (by decide) (by decide) (by decide)
      have iN : (i : Int) < μ 3 0 10 := by omega
      obtain ⟨n1, n2⟩ := c4 i iN
      obtain ⟨v1, v2⟩ := hu i iN
      have skip : u i = 0 → R 53 [ma_Rf 21 0, ma_Rf 14 0, ma_I ((i : Int) + 1)] [] 0 m := by
        intro hz'
        rw [show ((i : Nat) : Int) + 1 = ((i + 1 : Nat) : Int) from by omega]
        have es : ma_sum u (i + 1) = ma_sum u i := by show ma_sum u i + u i = _; omega
        refine ih (i + 1) m (by omega) c1 c2 (by rw [es]; exact c3) c4 c5 (fun x hx hx1 => ?_) c7 c8 (fun x hx => c9 x (by omega))
        by_cases e : x = i
        · rw [e] at hx1; omega
        · exact c6 x (by omega) hx1
      refine s_Blocks_pack_53 hR ⟨fun q => by rw [e3] at q; omega, fun _ => ⟨by omega, fun q => ⟨by omega, skip ?_⟩, fun q => ⟨fun q2 => ⟨by omega, skip ?_⟩, fun q2 => ?_⟩⟩⟩
      · rcases v1 with v1 | v1
        · exact v1
        · have := n2.2 (v2.1 v1).1; omega
      · rcases v1 with v1 | v1
        · exact v1
        · have := c9 i (by omega) iN v1; omega
      · have nd : cu_need μ i := n2.1 (by omega)
        have nf : ¬ cu_fed μ i := fun z => by have := c8 i iN nd z; omega
        have ui : u i = 1 := v2.2 ⟨nd, nf⟩
        have hgg := cu_need_gate nd
        obtain ⟨o1, o2, o3, o4⟩ := cu_own_of H iN hgg
        have lt := cu_sum_lt (u := u) (show i < N by omega) ui (fun x a b => u0 x a (by omega))
        rw [tN] at hle
        have s0 : 0 ≤ ma_sum u i := (ma_sum_rng (b := 1) i (fun x a b => by
          have := (hu x.toNat (by omega)).1
          rw [show ((x.toNat : Nat) : Int) = x from by omega] at this; omega)).1
        obtain ⟨b, eb⟩ : ∃ b : Nat, μ 3 0 12 + ma_sum u i = (b : Int) := ⟨(μ 3 0 12 + ma_sum u i).toNat, by omega⟩
        rw [e16, ho i iN hgg]
        refine sp_putGate (d := d + 1) (N := N) (b := b) (by omega) (by rw [e4, e5, e6, ← tN]; exact hw2) (by omega) (by rw [e4]; exact hgg) (fun x hx => by rw [e4]; exact hkd x (by omega)) o1 o2 (by omega) (by rw [c3, eb]) (fun j hj => by rw [e1]; exact hz j hj) (fun m' d1 d2 d3 d4 d5 => ?_)
        have d21 : m' 21 0 7 = (b : Int) := by rw [d1 21 (by decide) (by decide) (by decide) (by decide) (by decide) (by decide), c3, eb]
        refine k_Blocks_pack_89 hR ⟨by omega, by omega, by omega, ?_⟩
        rw [d21, show ((i : Nat) : Int) + 1 = ((i + 1 : Nat) : Int) from by omega]
        have es : ma_sum u (i + 1) = ma_sum u i + 1 := by show ma_sum u i + u i = _; omega
        -- what a row other than b is
        have row : ∀ x : Int, x ≠ b → (ma_up (ma_up m' 23 0 b (-1)) 21 0 7 ((b : Int) + 1)) 22 0 x = m 22 0 x ∧ (ma_up (ma_up m' 23 0 b (-1)) 21 0 7 ((b : Int) + 1)) 24 0 x = m 24 0 x ∧ (ma_up (ma_up m' 23 0 b (-1)) 21 0 7 ((b : Int) + 1)) 25 0 x = m 25 0 x ∧ ∀ j, (ma_up (ma_up m' 23 0 b (-1)) 21 0 7 ((b : Int) + 1)) 27 x j = m 27 x j := by
          intro x hx
          rw [ma_up_ck (by decide), ma_up_ck (by decide), ma_up_ck (by decide), ma_up_ck (by decide), ma_up_ck (by decide), ma_up_ck (by decide), ma_up_ck (by decide), ma_up_ck (by decide)]
          exact d2 x hx
        have r23 : ∀ x : Int, x ≠ b → (ma_up (ma_up m' 23 0 b (-1)) 21 0 7 ((b : Int) + 1)) 23 0 x = m 23 0 x := by
          intro x hx
          rw [ma_up_ck (by decide), ma_up_ne (by omega), d1 23 (by decide) (by decide) (by decide) (by decide) (by decide) (by decide)]
        have r28 : ∀ x : Int, x ≠ i → (ma_up (ma_up m' 23 0 b (-1)) 21 0 7 ((b : Int) + 1)) 28 0 x = m 28 0 x := by
          intro x hx
          rw [ma_up_ck (by decide), ma_up_ck (by decide)]; exact d3 x hx
        have r28i : (ma_up (ma_up m' 23 0 b (-1)) 21 0 7 ((b : Int) + 1)) 28 0 i = b := by
          rw [ma_up_ck (by decide), ma_up_ck (by decide)]; exact d4
        have hm2 : ∀ c : Nat, c ≠ 21 → c ≠ 22 → c ≠ 23 → c ≠ 24 → c ≠ 25 → c ≠ 27 → c ≠ 28 → c ≠ 30 → (ma_up (ma_up m' 23 0 b (-1)) 21 0 7 ((b : Int) + 1)) c = m c := fun c x1 x2 x3 x4 x5 x6 x7 x8 => by
          rw [ma_up_ck x1, ma_up_ck x3]; exact d1 c x2 x4 x5 x6 x7 x8
        have q21 : ∀ x : Int, x ≠ 7 → (ma_up (ma_up m' 23 0 b (-1)) 21 0 7 ((b : Int) + 1)) 21 0 x = m 21 0 x := by
          intro x hx
          rw [ma_up_ne (by omega), ma_up_ck (by decide), d1 21 (by decide) (by decide) (by decide) (by decide) (by decide) (by decide)]
        have q21b : (ma_up (ma_up m' 23 0 b (-1)) 21 0 7 ((b : Int) + 1)) 21 0 7 = (b : Int) + 1 := ma_up_eq
        have r23b : (ma_up (ma_up m' 23 0 b (-1)) 21 0 7 ((b : Int) + 1)) 23 0 b = -1 := by
          rw [ma_up_ck (by decide), ma_up_eq]
        have bGb : cu_bG (ma_up (ma_up m' 23 0 b (-1)) 21 0 7 ((b : Int) + 1)) b i (cu_own μ i) N := cu_bG_congr (by rw [ma_up_ck (by decide), ma_up_ck (by decide)]) (by rw [ma_up_ck (by decide), ma_up_ck (by decide)]) (by rw [ma_up_ck (by decide), ma_up_ck (by decide)]) ⟨by rw [ma_up_ck (by decide), ma_up_ck (by decide)], by rw [ma_up_ck (by decide), ma_up_ck (by decide)], by rw [ma_up_ck (by decide), ma_up_ck (by decide)], fun j => by rw [ma_up_ck (by decide), ma_up_ck (by decide)]⟩ d5
        generalize ma_up (ma_up m' 23 0 b (-1)) 21 0 7 ((b : Int) + 1) = M at row r23 r28 r28i hm2 q21 q21b r23b bGb ⊢
        have g4 : M 4 = m 4 := hm2 4 (by decide) (by decide) (by decide) (by decide) (by decide) (by decide) (by decide) (by decide)
        have g5 : M 5 = m 5 := hm2 5 (by decide) (by decide) (by decide) (by decide) (by decide) (by decide) (by decide) (by decide)
        have g6 : M 6 = m 6 := hm2 6 (by decide) (by decide) (by decide) (by decide) (by decide) (by decide) (by decide) (by decide)
        have g29 : M 29 = m 29 := hm2 29 (by decide) (by decide) (by decide) (by decide) (by decide) (by decide) (by decide) (by decide)
        refine ih (i + 1) M (by omega) (fun c x1 x2 x3 x4 x5 x6 x7 x8 x9 => by rw [hm2 c x1 x2 x3 x4 x5 x6 x7 x9]; exact c1 c x1 x2 x3 x4 x5 x6 x7 x8 x9) (fun x hx => by rw [q21 x hx]; exact c2 x hx) (by rw [q21b, es]; omega) (fun x hx => by rw [g29]; exact c4 x hx) (fun j j0 j1 => ?_) (fun x hx hx1 => ?_) (fun x hx y1 y2 => ?_) (fun x hx y1 y2 => ?_) (fun x hx y1 y2 => ?_)
        · obtain ⟨p1, p2, p3⟩ := c5 j j0 j1
          obtain ⟨t1, t2, t3⟩ := hr j j0 j1
          have f := (hn (μ 12 0 j) t1 t2).2.2.2.1 t3
          have nri : μ 12 0 j ≠ i := fun z => hgg (.inr (by rw [← z]; exact t3))
          have nfi : μ 7 0 (μ 12 0 j) ≠ i := fun z => nf ⟨μ 12 0 j, t1, t2, t3, z⟩
          rw [r23 j (by omega), r28 _ nri, r28 _ nfi]
          refine ⟨p1, p2, p3.imp (fun ⟨z1, z2, z3⟩ => ⟨z1, z2, cu_bG_congr g4 g5 g6 (row j (by omega)) z3⟩) (fun ⟨z1, z2⟩ => ⟨z1, cu_bR_congr (row j (by omega)) z2⟩)⟩
        · by_cases e : x = i
          · rw [e, eb, tN]; exact ⟨r28i, r23b, bGb⟩
          · obtain ⟨p1, p2, p3⟩ := c6 x (by omega) hx1
            have lt2 := cu_sum_lt (u := u) (show x < i by omega) hx1 (fun y a b => u0 y a (by omega))
            rw [r28 x (by omega), r23 _ (by omega)]
            exact ⟨p1, p2, cu_bG_congr g4 g5 g6 (row _ (by omega)) p3⟩
        · rw [r28 x (fun z => y2 (by rw [show x = i from by omega]; exact nd))]; exact c7 x hx y1 y2
        · by_cases e : x = i
          · rw [e] at y2; exact absurd y2 nf
          · rw [r28 x (by omega)]; exact c8 x hx y1 y2
        · rw [r28 x (by omega)]; exact c9 x (by omega) y1 y2
  -- the first loop
  have l1 : ∀ (k i : Nat) (m : ma_M), (i : Int) + k = μ 3 0 12 → (∀ c : Nat, c ≠ 21 → c ≠ 22 → c ≠ 23 → c ≠ 24 → c ≠ 25 → c ≠ 27 → c ≠ 28 → c ≠ 29 → c ≠ 30 → m c = μ c) → (∀ i : Int, i ≠ 7 → m 21 0 i = μ 21 0 i) → m 21 0 7 = i → cu_row29 μ m → cu_P1 μ m i → (∀ k : Nat, k < 48 → m 28 0 k = -1 ∨ (0 ≤ m 28 0 k ∧ m 28 0 k < i ∧ (μ 4 0 k = 114 ∨ (cu_need μ k ∧ cu_fed μ k ∧ μ 7 0 (μ 12 0 (m 28 0 k)) = k)))) → R 20 [ma_Rf 21 0, ma_Rf 14 0, ma_I i] [] 0 m := by
    intro k
    induction k with
    | zero =>
      intro i m hi c1 c2 c3 c4 c5 c6
      have e3 : m 3 = μ 3 := c1 3 (by decide) (by decide) (by decide) (by decide) (by decide) (by decide) (by decide) (by decide) (by decide)
      refine s_Blocks_pack_20 hR ⟨fun _ => l2 N 0 m (by omega) c1 c2 (by rw [c3, show (ma_sum u 0) = 0 from rfl]; omega) c4 (by rw [show μ 3 0 12 = (i : Int) from by omega]; exact c5) (fun x hx => absurd hx (Nat.not_lt_zero x)) (fun x hx y1 y2 => ?_) (fun x hx y1 y2 => ?_) (fun x hx y1 y2 => ?_), fun q => by rw [e3] at q; omega⟩
      · rcases c6 x (by omega) with z | ⟨_, _, z⟩
        · exact z
        · rcases z with z | z
          · exact absurd z y1
          · exact absurd z.1 y2
      · obtain ⟨t, t0, t1, t2, t3⟩ := y2
        obtain ⟨j, j0, j1, ej⟩ := hrj t t0 t1 t2
        obtain ⟨p1, p2, p3⟩ := c5 j j0 (by omega)
        rw [ej, t3, show ((x : Nat) : Int).toNat = x from rfl] at p3
        rcases p3 with ⟨_, z, _⟩ | ⟨z, _⟩
        · rw [z]; exact j0
        · exact (z y1).1
      · have := (hu x y1).2.1 y2
        rcases c6 x (by omega) with z | ⟨_, _, z⟩
        · exact z
        · rcases z with z | z
          · exact absurd (.inr z) (cu_need_gate this.1)
          · exact absurd z.2.1 this.2
    | succ k ih =>
      intro i m hi c1 c2 c3 c4 c5 c6
      have e3 : m 3 = μ 3 := c1 3 (by decide) (by decide) (by decide) (by decide) (by decide) (by decide) (by decide) (by decide) (by decide)
      have e4 : m 4 = μ 4 := c1 4 (by decide) (by decide) (by decide) (by decide) (by decide) (by decide) (by decide) (by decide) (by decide)
      have e5 : m 5 = μ 5 := c1 5 (by decide) (by decide) (by decide) (by decide) (by decide) (by decide) (by decide) (by decide) (by decide)
      have e6 : m 6 = μ 6 := c1 6 (by decide) (by decide) (by decide) (by decide) (by decide) (by decide) (by decide) (by decide) (by decide)
      have e7 : m 7 = μ 7 := c1 7 (by decide) (by decide) (by decide) (by decide) (by decide) (by decide) (by decide) (by decide) (by decide)
      have e12 : m 12 = μ 12 := c1 12 (by decide) (by decide) (by decide) (by decide) (by decide) (by decide) (by decide) (by decide) (by decide)
      have e16 : m 16 = μ 16 := c1 16 (by decide) (by decide) (by decide) (by decide) (by decide) (by decide) (by decide) (by decide) (by decide)
      have e1 : m 1 = μ 1 := c1 1 (by decide) (by decide) (by decide) (by decide) (by decide) (by decide) (by decide) (by decide) (by decide)
      obtain ⟨t1, t2, t3⟩ := hr i (by omega) (by omega)
      have tf := (hn (μ 12 0 i) t1 t2).2.2.2.1 t3
      obtain ⟨r, er⟩ : ∃ r : Nat, μ 12 0 i = (r : Int) := ⟨(μ 12 0 i).toNat, by omega⟩
      rw [er] at t1 t2 t3 tf
      obtain ⟨f, ef⟩ : ∃ f : Nat, μ 7 0 r = (f : Int) := ⟨(μ 7 0 r).toNat, by omega⟩
      have fN : (f : Int) < μ 3 0 10 := by omega
      obtain ⟨n1, n2⟩ := c4 f fN
      have fedf : cu_fed μ f := ⟨r, t1, t2, t3, ef⟩
      refine s_Blocks_pack_20 hR ⟨fun q => by rw [e3] at q; omega, fun _ => ⟨by omega, ?_⟩⟩
      rw [e12, er]
      refine sp_putRegister (N := N) (s := cu_own μ f) (b := i) (f := f) (by omega) (by rw [e4, e5, e6, ← tN]; exact hw2) (fun x hx => by rw [e4]; exact hkd x (by omega)) (by omega) c3 (fun j hj => by rw [e1]; exact hz j hj) (by omega) (by rw [e7]; exact ef) (by omega) (fun q => ?_) (fun M d1 d2 d3 d4 d5 d6 d7 d8 => k_Blocks_pack_42 hR ⟨by omega, ?_⟩)
      · have nd := n2.1 (by omega)
        have hg := cu_need_gate nd
        obtain ⟨o1, o2, _, _⟩ := cu_own_of H fN hg
        rw [e4, e16]
        exact ⟨fun z => hg (.inr (by rw [z]; exact t3)), hg, ho f fN hg, o1, o2⟩
      · have g4 : M 4 = m 4 := d1 4 (by decide) (by decide) (by decide) (by decide) (by decide) (by decide) (by decide) (by decide)
        have g5 : M 5 = m 5 := d1 5 (by decide) (by decide) (by decide) (by decide) (by decide) (by decide) (by decide) (by decide)
        have g6 : M 6 = m 6 := d1 6 (by decide) (by decide) (by decide) (by decide) (by decide) (by decide) (by decide) (by decide)
        have g29 : M 29 = m 29 := d1 29 (by decide) (by decide) (by decide) (by decide) (by decide) (by decide) (by decide) (by decide)
        have fr : f = r → ¬ cu_need μ f := fun z z2 => cu_need_gate z2 (.inr (by rw [z]; exact t3))
        have row : ∀ x : Int, x ≠ i → M 22 0 x = m 22 0 x ∧ M 24 0 x = m 24 0 x ∧ M 25 0 x = m 25 0 x ∧ ∀ j, M 27 x j = m 27 x j := fun x hx => ⟨(d4 x hx).1, (d4 x hx).2.2.1, (d4 x hx).2.2.2.1, (d4 x hx).2.2.2.2⟩
        rw [show ((i : Nat) : Int) + 1 = ((i + 1 : Nat) : Int) from by omega]
        refine ih (i + 1) M (by omega) (fun c x1 x2 x3 x4 x5 x6 x7 x8 x9 => by rw [d1 c x1 x2 x3 x4 x5 x6 x7 x9]; exact c1 c x1 x2 x3 x4 x5 x6 x7 x8 x9) (fun x hx => by rw [d2 x hx]; exact c2 x hx) (by rw [d3]; omega) (fun x hx => by rw [g29]; exact c4 x hx) (fun j j0 j1 => ?_) (fun x hx => ?_)
        · by_cases e : j = i
          · rw [e, er, ef, show ((f : Nat) : Int).toNat = f from rfl]
            refine ⟨d5, d6, ?_⟩
            rcases d8 with ⟨z1, z2, z3, z4⟩ | ⟨z1, z2, z3⟩
            · exact .inl ⟨n2.1 (by omega), z3, by rw [tN]; exact z4⟩
            · refine .inr ⟨fun nd => ?_, z3⟩
              have := z1 (by rw [n2.2 nd]; decide)
              rw [z2 (fun z => fr z nd)]
              refine ⟨this, ?_⟩
              rcases c6 f (by omega) with w | w
              · omega
              · exact ⟨w.2.1, by
                  rcases w.2.2 with w2 | w2
                  · exact absurd (.inr w2) (cu_need_gate nd)
                  · exact w2.2.2⟩
          · obtain ⟨p1, p2, p3⟩ := c5 j j0 (by omega)
            obtain ⟨y1, y2, y3⟩ := hr j j0 (by omega)
            have yf := (hn (μ 12 0 j) y1 y2).2.2.2.1 y3
            have nrr : μ 12 0 j ≠ r := fun z => e (cu_reg_inj H j0 (by omega) (by omega) (by omega) (by rw [z, er]))
            have k28 : M 28 0 (μ 12 0 j) = m 28 0 (μ 12 0 j) := by
              by_cases w : μ 12 0 j = f
              · rw [w]
                rcases d8 with ⟨z1, z2, z3, z4⟩ | ⟨z1, z2, z3⟩
                · exact absurd (.inr (by rw [← w]; exact y3)) (cu_need_gate (n2.1 (by omega)))
                · exact z2 (fun z => nrr (by rw [w, z]))
              · exact d7 _ nrr w
            have kf : cu_need μ (μ 7 0 (μ 12 0 j)).toNat → 0 ≤ m 28 0 (μ 7 0 (μ 12 0 j)) → M 28 0 (μ 7 0 (μ 12 0 j)) = m 28 0 (μ 7 0 (μ 12 0 j)) := by
              intro nd h0
              obtain ⟨x, ex⟩ : ∃ x : Nat, μ 7 0 (μ 12 0 j) = (x : Int) := ⟨(μ 7 0 (μ 12 0 j)).toNat, by omega⟩
              rw [ex, show ((x : Nat) : Int).toNat = x from rfl] at nd
              rw [ex] at h0 ⊢
              have xr : (x : Int) ≠ r := fun z => cu_need_gate nd (.inr (by rw [z]; exact t3))
              by_cases w : x = f
              · rw [w] at h0 ⊢
                rcases d8 with ⟨z1, z2, z3, z4⟩ | ⟨z1, z2, z3⟩
                · omega
                · exact z2 (fun z => xr (by rw [w, z]))
              · exact d7 _ xr (by omega)
            rw [(d4 j e).2.1, k28]
            refine ⟨p1, p2, ?_⟩
            rcases p3 with ⟨z1, z2, z3⟩ | ⟨z1, z2⟩
            · exact .inl ⟨z1, by rw [kf z1 (by omega)]; exact z2, cu_bG_congr g4 g5 g6 (row j e) z3⟩
            · exact .inr ⟨fun nd => by rw [kf nd (z1 nd).1]; exact z1 nd, cu_bR_congr (row j e) z2⟩
        · by_cases w : x = r
          · rw [w, d6]; exact .inr ⟨by omega, by omega, .inl t3⟩
          · by_cases w2 : x = f
            · rcases d8 with ⟨z1, z2, z3, z4⟩ | ⟨z1, z2, z3⟩
              · rw [w2, z3]; exact .inr ⟨by omega, by omega, .inr ⟨n2.1 (by omega), fedf, by rw [er, ef]⟩⟩
              · rw [w2, z2 (fun z => w (by rw [w2, z]))]
                exact (c6 f (by omega)).imp id (fun ⟨q1, q2, q3⟩ => ⟨q1, by omega, q3⟩)
            · rw [d7 x (by omega) (by omega)]
              exact (c6 x hx).imp id (fun ⟨q1, q2, q3⟩ => ⟨q1, by omega, q3⟩)
  refine l1 (μ 3 0 12).toNat 0 m2 (by omega) (fun c x1 x2 x3 x4 x5 x6 x7 x8 x9 => by rw [b1 c x7, ma_up_ck x1]; exact a1 c x8) (fun x hx => by rw [b1 21 (by decide), ma_up_ne (by omega), a1 21 (by decide)]) (by rw [b1 21 (by decide), ma_up_eq]; rfl) (fun x hx => by rw [b1 29 (by decide), ma_up_ck (by decide)]; exact a2 x hx) (fun j j0 j1 => by omega) (fun x hx => .inl (b3 x (by omega) (by omega)))

