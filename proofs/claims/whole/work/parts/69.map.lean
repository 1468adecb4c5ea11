/-! map -/
theorem cu_P1_congr {μ μ' m m' : ma_M} {i : Int} (g : ∀ c ∈ ([3, 4, 5, 6, 7, 12, 13] : List Nat), μ' c = μ c) (h : ∀ c ∈ ([4, 5, 6, 22, 23, 24, 25, 27, 28] : List Nat), m' c = m c) (H : cu_P1 μ m i) : cu_P1 μ' m' i := by
  have e3 := g 3 (by decide)
  have e4 := g 4 (by decide)
  have e5 := g 5 (by decide)
  have e6 := g 6 (by decide)
  have e7 := g 7 (by decide)
  have e12 := g 12 (by decide)
  have e13 := g 13 (by decide)
  have f4 := h 4 (by decide)
  have f5 := h 5 (by decide)
  have f6 := h 6 (by decide)
  have f22 := h 22 (by decide)
  have f23 := h 23 (by decide)
  have f24 := h 24 (by decide)
  have f25 := h 25 (by decide)
  have f27 := h 27 (by decide)
  have f28 := h 28 (by decide)
  unfold cu_P1 cu_bG cu_bR cu_need cu_root cu_own at H ⊢
  simp only [e3, e4, e5, e6, e7, e12, e13, f4, f5, f6, f22, f23, f24, f25, f27, f28]
  exact H
theorem cu_P2_congr {μ μ' m m' : ma_M} {u : Int → Int} {i : Nat} (g : ∀ c ∈ ([3, 4, 5, 6] : List Nat), μ' c = μ c) (h : ∀ c ∈ ([4, 5, 6, 22, 23, 24, 25, 27, 28] : List Nat), m' c = m c) (H : cu_P2 μ m u i) : cu_P2 μ' m' u i := by
  have e3 := g 3 (by decide)
  have e4 := g 4 (by decide)
  have e5 := g 5 (by decide)
  have e6 := g 6 (by decide)
  have f4 := h 4 (by decide)
  have f5 := h 5 (by decide)
  have f6 := h 6 (by decide)
  have f22 := h 22 (by decide)
  have f23 := h 23 (by decide)
  have f24 := h 24 (by decide)
  have f25 := h 25 (by decide)
  have f27 := h 27 (by decide)
  have f28 := h 28 (by decide)
  unfold cu_P2 cu_bG cu_own at H ⊢
  simp only [e3, e4, e5, e6, f4, f5, f6, f22, f23, f24, f25, f27, f28]
  exact H
theorem cu_P3_congr {μ μ' m m' : ma_M} (g : ∀ c ∈ ([3, 4, 5, 6, 7, 13] : List Nat), μ' c = μ c) (h : m' 28 = m 28) (H : cu_P3 μ m) : cu_P3 μ' m' := by
  have e3 := g 3 (by decide)
  have e4 := g 4 (by decide)
  have e5 := g 5 (by decide)
  have e6 := g 6 (by decide)
  have e7 := g 7 (by decide)
  have e13 := g 13 (by decide)
  unfold cu_P3 cu_need cu_root cu_own at H ⊢
  simp only [e3, e4, e5, e6, e7, e13, h]
  exact H
theorem cu_blk_congr {μ μ' : ma_M} {u : Int → Int} (g : ∀ c ∈ ([3, 4, 5, 6, 7, 13] : List Nat), μ' c = μ c) (H : cu_blk μ u) : cu_blk μ' u := by
  have e3 := g 3 (by decide)
  have e4 := g 4 (by decide)
  have e5 := g 5 (by decide)
  have e6 := g 6 (by decide)
  have e7 := g 7 (by decide)
  have e13 := g 13 (by decide)
  unfold cu_blk cu_need cu_fed cu_root cu_own at H ⊢
  simp only [e3, e4, e5, e6, e7, e13]
  exact H
theorem cu_row29_congr {μ μ' m m' : ma_M} (g : ∀ c ∈ ([3, 4, 5, 6, 7, 13] : List Nat), μ' c = μ c) (h : m' 29 = m 29) (H : cu_row29 μ m) : cu_row29 μ' m' := by
  have e3 := g 3 (by decide)
  have e4 := g 4 (by decide)
  have e5 := g 5 (by decide)
  have e6 := g 6 (by decide)
  have e7 := g 7 (by decide)
  have e13 := g 13 (by decide)
  unfold cu_row29 cu_need cu_root cu_own at H ⊢
  simp only [e3, e4, e5, e6, e7, e13, h]
  exact H
theorem cu_blk_uniq {μ : ma_M} {u v : Int → Int} (hu : cu_blk μ u) (hv : cu_blk μ v) (N0 : 0 ≤ μ 3 0 10) : ma_sum u (μ 3 0 10).toNat = ma_sum v (μ 3 0 10).toNat := by
  refine ma_sum_cong _ (fun i i0 i1 => ?_)
  have a := hu i.toNat (by omega)
  have b := hv i.toNat (by omega)
  rw [show ((i.toNat : Nat) : Int) = i from by omega] at a b
  by_cases h : cu_need μ i.toNat ∧ ¬ cu_fed μ i.toNat
  · rw [a.2.2 h, b.2.2 h]
  · rcases a.1 with x | x
    · rcases b.1 with y | y
      · rw [x, y]
      · exact absurd (b.2.1 y) h
    · exact absurd (a.2.1 x) h
theorem cu_sum_surj {u : Int → Int} : ∀ n : Nat, (∀ k : Nat, k < n → u k = 0 ∨ u k = 1) → ∀ t : Int, 0 ≤ t → t < ma_sum u n → ∃ k : Nat, k < n ∧ u k = 1 ∧ ma_sum u k = t
  | 0, _, t, t0, t1 => by exfalso; rw [show ma_sum u 0 = 0 from rfl] at t1; omega
  | n + 1, h, t, t0, t1 => by
    have e : ma_sum u (n + 1) = ma_sum u n + u n := rfl
    by_cases q : t < ma_sum u n
    · obtain ⟨k, a, b, c⟩ := cu_sum_surj n (fun k hk => h k (by omega)) t t0 q
      exact ⟨k, by omega, b, c⟩
    · rcases h n (by omega) with z | z
      · omega
      · exact ⟨n, by omega, z, by omega⟩
/-- what map leaves makes the relation -/
theorem cu_rl_m {m : ma_M} {u : Int → Int} (F : cu_F m u) (hz : cu_row29 m m) (e21 : m 21 0 7 = m 3 0 12 + ma_sum u (m 3 0 10).toNat) (h36 : m 21 0 7 ≤ 36) (e25 : m 69 0 25 = m 21 0 7) (e80 : ∀ i : Int, 0 ≤ i → i < m 3 0 10 → m 80 0 i = m 20 0 i) (e82 : cu_row82 m m) (e81 : ∀ x : Nat, (x : Int) < m 3 0 10 → m 81 0 x = m 28 0 x) (hB : ∀ b : Int, 0 ≤ b → b < m 21 0 7 → cu_B m m b) : rl_m m := by
  obtain ⟨H, hu, P1, P2, P3⟩ := id F
  have HC := H
  obtain ⟨N0, N1, I0, I1, R0, R1, O0, O1, n8, n9, n10, n11, hn, hi, hr, _, hrj, hoo⟩ := HC
  obtain ⟨N, eN⟩ : ∃ N : Nat, m 3 0 10 = (N : Int) := ⟨(m 3 0 10).toNat, by omega⟩
  have tN : (m 3 0 10).toNat = N := by omega
  have sN := (cu_blk_sum H hu (k := N) (by omega)).1
  rw [tN] at e21
  have ub : ∀ k : Nat, k < N → u k = 0 ∨ u k = 1 := fun k hk => (hu k (by omega)).1
  have slt : ∀ x : Nat, x < N → u x = 1 → ma_sum u x + 1 ≤ ma_sum u N := fun x hx ux => cu_sum_lt (u := u) hx ux (fun y a c => by
    have := ub y.toNat (by omega)
    rw [show ((y.toNat : Nat) : Int) = y from by omega] at this; omega)
  -- where nodes' blocks are
  have at28 : ∀ x : Nat, (x : Int) < m 3 0 10 → -1 ≤ m 28 0 x ∧ m 28 0 x < m 21 0 7 ∧ (0 ≤ m 28 0 x ↔ m 4 0 x = 114 ∨ cu_need m x) ∧ (cu_need m x → m 22 0 (m 28 0 x) = x) ∧ (m 4 0 x = 114 → m 23 0 (m 28 0 x) = x) := by
    intro x hx
    have sx := (cu_blk_sum H hu (k := x) (by omega)).1
    rcases cu_of28 F hx with ⟨j, j1, j2, j3, j4⟩ | ⟨j, j1, j2, j3, j4, _, j5⟩ | ⟨j1, j2, j3⟩ | ⟨j1, j2, j3⟩
    · have t3 := (hr j (by omega) j1).2.2
      rw [j2] at t3
      refine ⟨by omega, by omega, ⟨fun _ => .inl t3, fun _ => by omega⟩, fun z => absurd z j4, fun _ => ?_⟩
      rw [j3, (P1 j (by omega) j1).1, j2]
    · refine ⟨by omega, by omega, ⟨fun _ => .inr j4, fun _ => by omega⟩, fun _ => ?_, fun z => absurd (.inr z) (cu_need_gate j4)⟩
      rw [j3]; exact j5.1
    · have := slt x (by omega) j1
      refine ⟨by omega, by omega, ⟨fun _ => .inr j2, fun _ => by omega⟩, fun _ => ?_, fun z => absurd (.inr z) (cu_need_gate j2)⟩
      rw [j3]; exact (P2 x (by omega) j1).2.2.1
    · exact ⟨by omega, by omega, ⟨fun z => by omega, fun z => by rcases z with z | z; exact absurd z j3; exact absurd z j2⟩, fun z => absurd z j2, fun z => absurd z j3⟩
  have inB : ∀ x : Nat, (x : Int) < m 3 0 10 → (¬ (m 4 0 x = 105 ∨ m 4 0 x = 114) → cu_need m x) → m 4 0 x = 105 ∨ 0 ≤ m 28 0 x := by
    intro x hx hgx
    by_cases a : m 4 0 x = 105
    · exact .inl a
    · refine .inr ((at28 x hx).2.2.1.2 ?_)
      by_cases b : m 4 0 x = 114
      · exact .inl b
      · exact .inr (hgx (fun z => by rcases z with z | z; exact a z; exact b z))
  -- a block of a gate
  have gB : ∀ (b : Int) (g : Nat), (g : Int) < m 3 0 10 → cu_need m g → cu_bG m b g (cu_own m g) N → (0 ≤ m 24 0 b ∧ m 24 0 b ≤ 65535) ∧ (0 ≤ m 25 0 b ∧ m 25 0 b ≤ 4) ∧ (∀ k : Int, 0 ≤ k → k < m 25 0 b → 0 ≤ m 27 b k ∧ m 27 b k < m 3 0 10 ∧ (m 4 0 (m 27 b k) = 105 ∨ 0 ≤ m 28 0 (m 27 b k)) ∧ (0 ≤ m 22 0 b → m 27 b k < m 22 0 b)) := by
    intro b g hg nd hb
    obtain ⟨y1, y2, y3, y4⟩ := hb
    obtain ⟨o1, o2, o3, o4⟩ := cu_own_of H hg (cu_need_gate nd)
    have lw := cu_W_lt (m 4 0) (m 5 0) (m 6 0) (cu_own m g) N g
    refine ⟨by omega, by omega, fun k k0 k1 => ?_⟩
    rw [y3] at k1
    obtain ⟨x, x1, x2, x3⟩ := cu_cnt_surj 48 k.toNat (show k.toNat < cu_cnt (cu_own m g) 48 by omega)
    have xn : x < g := by
      by_cases e : x < g
      · exact e
      · rw [Nat.testBit_lt_two_pow (Nat.lt_of_lt_of_le o1 (Nat.pow_le_pow_right (by omega) (show g ≤ x by omega)))] at x2
        exact absurd x2 (by decide)
    have i2 := y4 x (by omega) x2
    rw [x3, show ((k.toNat : Nat) : Int) = k from by omega] at i2
    rw [i2, y1]
    exact ⟨by omega, by omega, inB x (by omega) (fun z => cu_need_step nd xn x2 z), fun _ => by omega⟩
  refine ⟨by omega, h36, e25, fun i i0 i1 => ?_, fun b b0 b1 => ?_, fun j j0 j1 => ?_, u, hu, by rw [tN]; exact e21⟩
  · obtain ⟨x, ex⟩ : ∃ x : Nat, i = (x : Int) := ⟨i.toNat, by omega⟩
    subst ex
    obtain ⟨q1, q2, q3, q4, q5⟩ := at28 x i1
    obtain ⟨r1, r2⟩ := hz x i1
    obtain ⟨s1, s2⟩ := e82 x i1
    have e8229 : m 82 0 x = m 29 0 x := by
      rcases r1 with r | r
      · rcases s1 with s | s
        · rw [r, s]
        · have := r2.2 (s2.1 s); omega
      · rw [r, s2.2 (r2.1 r)]
    refine ⟨e80 x i0 i1, e8229, r1, fun z => ?_, e81 x i1, q1, q2, ⟨fun z => (q3.1 z).imp id r2.2, fun z => q3.2 (z.imp id r2.1)⟩, fun z => q4 (r2.1 z), q5⟩
    have := cu_need_gate (r2.1 z)
    exact ⟨fun w => this (.inl w), fun w => this (.inr w)⟩
  · obtain ⟨B1, B2, B3, B4, B5, B6, B7⟩ := hB b b0 b1
    unfold rl_b1
    rw [B1, B2, B3, B4]
    by_cases bR : b < m 3 0 12
    · obtain ⟨p1, p2, p3⟩ := P1 b b0 bR
      obtain ⟨t1, t2, t3⟩ := hr b b0 bR
      have f4 := (hn (m 12 0 b) t1 t2).2.2.2.1 t3
      have c23 : m 23 0 b = -1 ∨ 0 ≤ m 23 0 b ∧ m 23 0 b < m 3 0 10 ∧ m 4 0 (m 23 0 b) = 114 ∧ m 28 0 (m 23 0 b) = b := by
        rw [p1]; exact .inr ⟨t1, t2, t3, p2⟩
      obtain ⟨f, ef⟩ : ∃ f : Nat, m 7 0 (m 12 0 b) = (f : Int) := ⟨(m 7 0 (m 12 0 b)).toNat, by omega⟩
      rw [ef, show ((f : Nat) : Int).toNat = f from rfl, tN] at p3
      have fN : (f : Int) < m 3 0 10 := by omega
      rcases p3 with ⟨z1, z2, z3⟩ | ⟨z1, z2⟩
      · obtain ⟨w1, w2, w3⟩ := gB b f fN z1 z3
        refine ⟨rfl, rfl, rfl, w1.1, w1.2, rfl, w2.1, w2.2, fun k k0 k1 => ⟨B5 k k0 k1, w3 k k0 k1⟩, .inr ?_, c23⟩
        rw [z3.1]
        exact ⟨by omega, fN, (hz f fN).2.2 z1, z2⟩
      · obtain ⟨v1, v2, v3, v4⟩ := z2
        refine ⟨rfl, rfl, rfl, by omega, by omega, rfl, by omega, by omega, fun k k0 k1 => ⟨B5 k k0 k1, ?_⟩, .inl v1, c23⟩
        rw [show k = 0 from by omega, v4, v1]
        exact ⟨by omega, fN, inB f fN (fun z => cu_need_root (.inr ⟨m 12 0 b, t1, t2, t3, ef⟩) z), fun z => by omega⟩
    · obtain ⟨k, k1, k2, k3⟩ := cu_sum_surj N ub (b - m 3 0 12) (by omega) (by omega)
      have kN : (k : Int) < m 3 0 10 := by omega
      obtain ⟨p1, p2, p3⟩ := P2 k (by omega) k2
      rw [show m 3 0 12 + ma_sum u k = b from by omega] at p1 p2 p3
      rw [tN] at p3
      have nd := ((hu k kN).2.1 k2).1
      obtain ⟨w1, w2, w3⟩ := gB b k kN nd p3
      refine ⟨rfl, rfl, rfl, w1.1, w1.2, rfl, w2.1, w2.2, fun k k0 k1 => ⟨B5 k k0 k1, w3 k k0 k1⟩, .inr ?_, .inl p2⟩
      rw [p3.1]
      exact ⟨by omega, kN, (hz k kN).2.2 nd, p1⟩
  · obtain ⟨_, o1, o2⟩ := hoo j j0 j1
    obtain ⟨x, ex⟩ : ∃ x : Nat, m 13 0 j = (x : Int) := ⟨(m 13 0 j).toNat, by omega⟩
    rw [ex] at o2 ⊢
    exact inB x o2 (fun z => cu_need_root (.inl ⟨j, j0, j1, ex⟩) z)
theorem pr_map {LS d : Nat} {μ : ma_M} (H : Rel μ) : Pr LS (d + 50) mi_LatticefitLaw_map [ma_Rf 2 0, ma_Rf 111 0] mi_LatticefitModel_map [ma_Rf 69 0] agI μ := by
  intro Post hP
  obtain ⟨Hc, Hs, Hz, Hu, Hm, Hr, Hf, Hk⟩ := id H
  have HC := Hc
  obtain ⟨N0, N1, I0, I1, R0, R1, O0, O1, n8, n9, n10, n11, hn, hi, hr, _, hrj, hoo⟩ := HC
  obtain ⟨u, hu⟩ := cu_blk_ex μ
  have hle := cu_blk_le Hc hu
  refine gi_LatticefitLaw_map (fun R hR => s_LatticefitLaw_map_0 (d := d + 55) hR ?_)
  refine gi_Latticefit_map (fun R2 hR2 => s_Latticefit_map_0 (d := d + 55) hR2 ⟨fun ho => ?_, fun ho => ?_⟩)
  rotate_left
  · -- no output
    show R 11 [ma_Rf 2 0, ma_Rf 111 0, ma_U] [ma_X 0] 1 μ
    refine g_LatticefitLaw_map_11 hR ⟨Nat.le_refl 1, hP 1 μ (fun Post2 h2 => ?_)⟩
    exact gi_LatticefitModel_map (fun R hR => s_LatticefitModel_map_0 (d := d + 55) hR ⟨fun q => absurd (n11.trans ho) q, fun _ => h2 (ma_I 0) _ (Rel_thrown H 1) ma_up_eq (fun z => by omega)⟩)
  refine sp_findAll (N := (μ 3 0 10).toNat) (by omega) (by omega) (cu_wf_of Hc) (fun n a b => by
    have := (hn n (by omega) (by omega)).2.2.2.2 (fun z => b (.inl z)) (fun z => b (.inr z)); exact this.2.2.2.2.1) (fun m1 a1 a2 => k_Latticefit_map_22 hR2 ?_)
  have c1 : ∀ c : Nat, c < 16 ∨ 20 < c → m1 c = μ c := fun c hc => a1 c (by omega) (by omega) (by omega) (by omega)
  have g1 : ∀ c ∈ ([3, 4, 5, 6, 7, 12, 13] : List Nat), m1 c = μ c := fun c hc => c1 c (by revert hc; simp only [List.mem_cons, List.not_mem_nil, or_false]; omega)
  have g1' : ∀ c ∈ ([3, 4, 5, 6, 7, 13] : List Nat), m1 c = μ c := fun c hc => c1 c (by revert hc; simp only [List.mem_cons, List.not_mem_nil, or_false]; omega)
  have H1 : rl_c m1 := rl_c_congr (fun c hc => c1 c (by revert hc; simp only [List.mem_cons, List.not_mem_nil, or_false]; omega)) (fun f _ => by rw [c1 69 (by omega)]) Hc
  have hu1 := cu_blk_congr g1' hu
  have e3 : m1 3 = μ 3 := c1 3 (by omega)
  have e20 : ∀ k : Nat, (k : Int) < μ 3 0 10 → m1 20 0 k = ((cu_T (μ 4 0) (μ 5 0) (μ 6 0) (μ 3 0 10).toNat k).2 : Int) := fun k hk => (a2 k (by omega)).2
  refine sp_pack (d := d + 56) H1 (fun j hj => ?_) (fun n x y => ?_) hu1 (fun m2 b1 b2 b3 b4 b5 b6 b7 => k_Latticefit_map_33 hR2 ?_)
  · rw [c1 1 (by omega)]
    obtain ⟨z1, z2, z3, z4, _⟩ := Hz
    have : j = 0 ∨ j = 1 ∨ j = 2 ∨ j = 3 := by omega
    rcases this with rfl | rfl | rfl | rfl
    · exact z1
    · exact z2
    · exact z3
    · exact z4
  · rw [e3] at x
    have t := cu_T_of Hc n x
    have := (a2 n (by omega)).1.2 0 t.pos
    unfold cu_own
    rw [e3, c1 4 (by omega), c1 5 (by omega), c1 6 (by omega)]
    exact this.1
  rw [b3, e3]
  have c2 : ∀ c : Nat, c < 16 ∨ 30 < c → m2 c = μ c := fun c hc => by rw [b1 c (by omega) (by omega) (by omega) (by omega) (by omega) (by omega) (by omega) (by omega) (by omega)]; exact c1 c (by omega)
  have m20 : m2 20 = m1 20 := b1 20 (by decide) (by decide) (by decide) (by decide) (by decide) (by decide) (by decide) (by decide) (by decide)
  rw [e3] at b3 b5 b6
  refine ⟨fun h36 => ?_, fun h36 => ?_⟩
  · refine sp_putAnew (d := d + 58) (c := (μ 3 0 12 + ma_sum u (μ 3 0 10).toNat).toNat) (by have := (cu_blk_sum Hc hu (k := (μ 3 0 10).toNat) (by omega)).1; omega) (by omega) (fun m3 d1 d2 d3 => k_Latticefit_map_60 hR2 (sp_clear (d := d + 58) (fun m4 f1 f2 f3 f4 => k_Latticefit_map_67 hR2 (k_LatticefitLaw_map_3 hR ⟨by omega, ?_⟩))))
    have s0 := (cu_blk_sum Hc hu (k := (μ 3 0 10).toNat) (by omega)).1
    obtain ⟨cc, ecc⟩ : ∃ cc : Int, cc = μ 3 0 12 + ma_sum u (μ 3 0 10).toNat := ⟨_, rfl⟩
    rw [show (((μ 3 0 12 + ma_sum u (μ 3 0 10).toNat).toNat : Nat) : Int) = cc from by omega] at d2 d3
    have q : ∀ c : Nat, c ≠ 2 → c ≠ 32 → c ≠ 33 → c ≠ 34 → c ≠ 42 → c ≠ 44 → c ≠ 45 → c ≠ 46 → c ≠ 111 → (ma_up (ma_up m4 2 0 10 1) 111 0 0 (m4 21 0 7)) c = m2 c := fun c x1 x2 x3 x4 x5 x6 x7 x8 x9 => by rw [ma_up_ck x9, ma_up_ck x1, f1 c x5 x6 x7 x8, d1 c x2 x3 x4]
    have q21 : m4 21 0 7 = cc := by rw [f1 21 (by decide) (by decide) (by decide) (by decide), d1 21 (by decide) (by decide) (by decide), b3, ecc]
    have q2 : (ma_up (ma_up m4 2 0 10 1) 111 0 0 (m4 21 0 7)) 2 0 10 = 1 := by rw [ma_up_ck (by decide), ma_up_eq]
    have q111 : (ma_up (ma_up m4 2 0 10 1) 111 0 0 (m4 21 0 7)) 111 0 0 = cc := by rw [ma_up_eq, q21]
    have q44 : ∀ e : Int, 0 ≤ e → e < 84 → (ma_up (ma_up m4 2 0 10 1) 111 0 0 (m4 21 0 7)) 44 0 e = 0 := fun e x y => by rw [ma_up_ck (by decide), ma_up_ck (by decide)]; exact (f3 e x y).1
    have q32 : ∀ b : Int, 0 ≤ b → b < cc → (ma_up (ma_up m4 2 0 10 1) 111 0 0 (m4 21 0 7)) 32 0 b = b ∧ (ma_up (ma_up m4 2 0 10 1) 111 0 0 (m4 21 0 7)) 34 0 b = 0 := fun b x y => by rw [ma_up_ck (by decide), ma_up_ck (by decide), ma_up_ck (by decide), ma_up_ck (by decide), f1 32 (by decide) (by decide) (by decide) (by decide), f1 34 (by decide) (by decide) (by decide) (by decide)]; exact d2 b x y
    have q33 : ∀ x : Int, 0 ≤ x → x < 36 → (ma_up (ma_up m4 2 0 10 1) 111 0 0 (m4 21 0 7)) 33 0 x = if x < cc then x else -1 := fun x y z => by rw [ma_up_ck (by decide), ma_up_ck (by decide), f1 33 (by decide) (by decide) (by decide) (by decide)]; exact d3 x y z
    clear f1 f2 f3 f4 d1 d2 d3
    generalize ma_up (ma_up m4 2 0 10 1) 111 0 0 (m4 21 0 7) = M at q q2 q111 q44 q32 q33 ⊢
    have cM : ∀ c : Nat, c ≠ 2 → c < 16 ∨ 46 < c → c ≠ 111 → M c = μ c := fun c x1 x2 x3 => by rw [q c x1 (by omega) (by omega) (by omega) (by omega) (by omega) (by omega) (by omega) x3]; exact c2 c (by omega)
    have gM : ∀ c ∈ ([3, 4, 5, 6, 7, 12, 13] : List Nat), M c = m1 c := fun c hc => by rw [g1 c hc]; exact cM c (by revert hc; simp only [List.mem_cons, List.not_mem_nil, or_false]; omega) (by revert hc; simp only [List.mem_cons, List.not_mem_nil, or_false]; omega) (by revert hc; simp only [List.mem_cons, List.not_mem_nil, or_false]; omega)
    have gM' : ∀ c ∈ ([3, 4, 5, 6, 7, 13] : List Nat), M c = m1 c := fun c hc => gM c (by revert hc; simp only [List.mem_cons, List.not_mem_nil, or_false]; omega)
    have gM4 : ∀ c ∈ ([3, 4, 5, 6] : List Nat), M c = m1 c := fun c hc => gM c (by revert hc; simp only [List.mem_cons, List.not_mem_nil, or_false]; omega)
    have hM : ∀ c ∈ ([4, 5, 6, 22, 23, 24, 25, 27, 28] : List Nat), M c = m2 c := fun c hc => q c (by revert hc; simp only [List.mem_cons, List.not_mem_nil, or_false]; omega) (by revert hc; simp only [List.mem_cons, List.not_mem_nil, or_false]; omega) (by revert hc; simp only [List.mem_cons, List.not_mem_nil, or_false]; omega) (by revert hc; simp only [List.mem_cons, List.not_mem_nil, or_false]; omega) (by revert hc; simp only [List.mem_cons, List.not_mem_nil, or_false]; omega) (by revert hc; simp only [List.mem_cons, List.not_mem_nil, or_false]; omega) (by revert hc; simp only [List.mem_cons, List.not_mem_nil, or_false]; omega) (by revert hc; simp only [List.mem_cons, List.not_mem_nil, or_false]; omega) (by revert hc; simp only [List.mem_cons, List.not_mem_nil, or_false]; omega)
    have M3 : M 3 = μ 3 := cM 3 (by omega) (by omega) (by omega)
    have M69 : M 69 = μ 69 := cM 69 (by omega) (by omega) (by omega)
    have HM : rl_c M := rl_c_congr (fun c hc => cM c (by revert hc; simp only [List.mem_cons, List.not_mem_nil, or_false]; omega) (by revert hc; simp only [List.mem_cons, List.not_mem_nil, or_false]; omega) (by revert hc; simp only [List.mem_cons, List.not_mem_nil, or_false]; omega)) (fun f _ => by rw [M69]) Hc
    have FM : cu_F M u := by
      refine ⟨HM, cu_blk_congr gM' hu1, ?_, ?_, cu_P3_congr gM' (hM 28 (by decide)) b7⟩
      · have := cu_P1_congr gM hM b5; rw [M3]; exact this
      · have := cu_P2_congr gM4 hM b6; rw [M3]; exact this
    have Mz : cu_row29 M M := cu_row29_congr gM' (q 29 (by decide) (by decide) (by decide) (by decide) (by decide) (by decide) (by decide) (by decide) (by decide)) b4
    have M21 : M 21 0 7 = cc := by rw [q 21 (by decide) (by decide) (by decide) (by decide) (by decide) (by decide) (by decide) (by decide) (by decide), b3, ecc]
    have M20 : ∀ k : Nat, (k : Int) < μ 3 0 10 → M 20 0 k = ((cu_T (μ 4 0) (μ 5 0) (μ 6 0) (μ 3 0 10).toNat k).2 : Int) := fun k hk => by rw [q 20 (by decide) (by decide) (by decide) (by decide) (by decide) (by decide) (by decide) (by decide) (by decide), m20]; exact e20 k hk
    refine hP 0 M (fun Post2 h2 => ?_)
    have ecM : M 3 0 12 + ma_sum u (M 3 0 10).toNat = cc := by rw [M3, ecc]
    refine sp_refmap FM (by rw [M3]; exact ho) (by rw [ecM]; omega) (fun m5 r1 r2 r3 r4 r5 r6 r7 r8 r9 r10 r11 r12 r13 r14 r15 r16 r17 => ?_)
    rw [ecM] at r6 r15 r16 r17 ⊢
    have w3 : m5 3 = M 3 := r1 3 (by omega)
    have k5 : ∀ c ∈ ([3, 4, 5, 6, 7, 12, 13] : List Nat), m5 c = M c := fun c hc => r1 c (by revert hc; simp only [List.mem_cons, List.not_mem_nil, or_false]; omega)
    have k5' : ∀ c ∈ ([3, 4, 5, 6, 7, 13] : List Nat), m5 c = M c := fun c hc => r1 c (by revert hc; simp only [List.mem_cons, List.not_mem_nil, or_false]; omega)
    have k5a : ∀ c ∈ ([4, 5, 6, 22, 23, 24, 25, 27, 28] : List Nat), m5 c = M c := fun c hc => r1 c (by revert hc; simp only [List.mem_cons, List.not_mem_nil, or_false]; omega)
    have H5 : rl_c m5 := rl_c_congr (fun c hc => by
      by_cases e : c < 69
      · exact r1 c e
      · exact r2 c (by revert hc; simp only [List.mem_cons, List.not_mem_nil, or_false]; omega) (by revert hc; simp only [List.mem_cons, List.not_mem_nil, or_false]; omega)) (fun f hf => r4 f (by rintro rfl; revert hf; decide) (by rintro rfl; revert hf; decide) (by rintro rfl; revert hf; decide) (by rintro rfl; revert hf; decide) (by rintro rfl; revert hf; decide) (by rintro rfl; revert hf; decide)) HM
    obtain ⟨F1, F2, F3, F4, F5⟩ := id FM
    have s5 : m5 2 0 10 = 1 := by rw [r1 2 (by omega)]; exact q2
    have Fm5 : cu_F m5 u := ⟨H5, cu_blk_congr k5' F2, by rw [w3]; exact cu_P1_congr k5 k5a F3, by rw [w3]; exact cu_P2_congr (fun c hc => k5 c (by revert hc; simp only [List.mem_cons, List.not_mem_nil, or_false]; omega)) k5a F4, cu_P3_congr k5' (r1 28 (by omega)) F5⟩
    have m521 : m5 21 0 7 = cc := by rw [r1 21 (by omega)]; exact M21
    have Rm : rl_m m5 := by
      refine cu_rl_m Fm5 (cu_row29_congr k5' (r1 29 (by omega)) Mz) (by rw [m521, w3, ecM]) (by omega) (by rw [r6, m521]) (fun i i0 i1 => ?_) ?_ (fun x hx => ?_) (fun b b0 b1 => ?_)
      · obtain ⟨x, ex⟩ : ∃ x : Nat, i = (x : Int) := ⟨i.toNat, by omega⟩
        subst ex
        rw [w3, M3] at i1
        have t := (r12 x (by rw [M3]; omega)).2
        have M70 : M 70 = μ 70 := cM 70 (by omega) (by omega) (by omega)
        have M71 : M 71 = μ 71 := cM 71 (by omega) (by omega) (by omega)
        have M72 : M 72 = μ 72 := cM 72 (by omega) (by omega) (by omega)
        rw [M70, M71, M72, M3, cu_T_ref Hc] at t
        rw [t, r1 20 (by omega), M20 x i1]
      · intro k hk
        rw [w3] at hk
        have := r13 k hk
        exact ⟨this.1, this.2.trans (cu_need_congr (k5 3 (by decide)) (k5 4 (by decide)) (k5 5 (by decide)) (k5 6 (by decide)) (k5 7 (by decide)) (k5 13 (by decide)) k).symm⟩
      · rw [w3] at hx; rw [r1 28 (by omega)]; exact r14 x hx
      · rw [m521] at b1
        have := r15 b b0 b1
        unfold cu_B at this ⊢
        rw [r1 22 (by omega), r1 23 (by omega), r1 24 (by omega), r1 25 (by omega), r1 27 (by omega)]
        exact this
    refine h2 _ m5 ⟨H5, ?_, ?_, ?_, fun _ => ⟨Rm, ?_, ?_⟩, fun z => by omega, fun z => by omega, fun z => by omega⟩ r5 (fun _ => ⟨cc, rfl, by rw [r3 111 (by omega) (by omega)]; exact q111⟩)
    · unfold rl_s; rw [s5, r7, r8, r9, r10]; decide
    · obtain ⟨z1, z2, z3, z4, z5, z6⟩ := Hz
      unfold rl_z
      rw [r1 1 (by omega), cM 1 (by omega) (by omega) (by omega), r2 77 (by omega) (by omega), cM 77 (by omega) (by omega) (by omega), r4 46 (by decide) (by decide) (by decide) (by decide) (by decide) (by decide), r4 47 (by decide) (by decide) (by decide) (by decide) (by decide) (by decide), M69, r3 109 (by omega) (by omega), cM 109 (by omega) (by omega) (by omega)]
      exact ⟨z1, z2, z3, z4, z5, z6⟩
    · intro e e0 e1
      rw [s5, r11 e e0 e1, r1 44 (by omega), q44 e e0 e1]; decide
    · intro b b0 b1
      rw [m521] at b1
      obtain ⟨t1, t2⟩ := q32 b b0 b1
      have t3 := (r15 b b0 b1).2.2.2.2.2.1
      rw [r16 b b0 b1, r1 32 (by omega), r1 33 (by omega), r1 34 (by omega), t1, t2, t3, q33 b b0 (by omega), if_pos b1]
      exact ⟨rfl, b0, by omega, rfl, rfl, .inl rfl⟩
    · intro x x0 x1
      rw [r17 x x0 x1, r1 33 (by omega), q33 x x0 x1, m521, r1 32 (by omega)]
      refine ⟨rfl, by split <;> omega, by split <;> omega, fun z => ?_⟩
      by_cases e : x < cc
      · rw [if_pos e]; exact (q32 x x0 e).1
      · rw [if_neg e] at z; omega
  · -- too many blocks
    show R 14 [ma_Rf 2 0, ma_Rf 111 0, ma_U] [ma_X 3] 1 m2
    refine g_LatticefitLaw_map_14 hR ⟨Nat.le_refl 1, hP 2 m2 (fun Post2 h2 => ?_)⟩
    have st : μ 2 0 10 = 0 := by
      by_cases e : 1 ≤ μ 2 0 10
      · obtain ⟨_, z1, _, _, _, _, v, v1, v2⟩ := (Hm e).1
        have := cu_blk_uniq hu v1 N0
        omega
      · have := Hs.1; omega
    have H2 : rl_c m2 := rl_c_congr (fun c hc => c2 c (by revert hc; simp only [List.mem_cons, List.not_mem_nil, or_false]; omega)) (fun f _ => by rw [c2 69 (by omega)]) Hc
    have m23 : m2 3 = μ 3 := c2 3 (by omega)
    have hu2 : cu_blk m2 u := cu_blk_congr (fun c hc => by rw [c2 c (by revert hc; simp only [List.mem_cons, List.not_mem_nil, or_false]; omega)]) hu
    have m269 : m2 69 = μ 69 := c2 69 (by omega)
    refine gi_LatticefitModel_map (fun R hR => s_LatticefitModel_map_0 (d := d + 55) hR ⟨fun _ => ?_, fun z => by rw [m269, n11] at z; exact absurd z ho⟩)
    have f0 : ∀ c : Nat, c ≠ 69 → (ma_up m2 69 0 50 0) c = m2 c := fun c hc => ma_up_ck hc
    have H3 : rl_c (ma_up m2 69 0 50 0) := rl_c_congr (fun c hc => f0 c (by rintro rfl; revert hc; decide)) (fun f hff => ma_up_ne (by rintro ⟨_, rfl⟩; revert hff; decide)) H2
    have hu3 : cu_blk (ma_up m2 69 0 50 0) u := cu_blk_congr (fun c hc => f0 c (by rintro rfl; revert hc; decide)) hu2
    refine sp_blocksThen H3 hu3 (fun m5 x1 x2 x3 => k_LatticefitModel_map_24 hR ⟨fun q => ?_, fun _ => ?_⟩)
    · rw [f0 3 (by decide), m23] at q; omega
    · have k5 : ∀ c : Nat, (c < 16 ∨ 30 < c) → c ≠ 69 → c ≠ 78 → c ≠ 79 → c ≠ 80 → c ≠ 82 → (ma_up m5 69 0 50 2) c = μ c := fun c y0 y1 y2 y3 y4 y5 => by rw [ma_up_ck y1, x1 c y2 y3 y4 y5, f0 c y1, c2 c y0]
      have k69 : ∀ f : Int, f ≠ 50 → (ma_up m5 69 0 50 2) 69 0 f = μ 69 0 f := fun f hf => by rw [ma_up_ne (by omega), x1 69 (by decide) (by decide) (by decide) (by decide), ma_up_ne (by omega), m269]
      have k50 : (ma_up m5 69 0 50 2) 69 0 50 = 2 := ma_up_eq
      generalize ma_up m5 69 0 50 2 = m6 at k5 k69 k50 ⊢
      have s6 : m6 2 0 10 = 0 := by rw [k5 2 (by omega) (by omega) (by omega) (by omega) (by omega) (by omega)]; exact st
      refine h2 (ma_I 0) m6 ⟨rl_c_congr (fun c hc => ?_) (fun f hf => k69 f (by rintro rfl; revert hf; decide)) Hc, rl_s_congr (fun c hc => ?_) (fun f hf => k69 f (by rintro rfl; revert hf; decide)) Hs, rl_z_congr (fun c hc => ?_) (fun f hf => k69 f (by rintro rfl; revert hf; decide)) Hz, rl_u_congr (fun c hc => ?_) Hu, fun z => by omega, fun z => by omega, fun z => by omega, fun z => by omega⟩ k50 (fun z => by omega)
      all_goals
        refine k5 c ?_ ?_ ?_ ?_ ?_ ?_
        all_goals (revert hc; simp only [List.mem_cons, List.not_mem_nil, or_false]; omega)
