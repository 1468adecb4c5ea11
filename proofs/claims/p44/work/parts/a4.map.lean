/-! map: refused where there is no output; too many blocks; mapped -/
/-- what map leaves makes the relation -/
theorem cu_rl_m {m : ma_M} {u : Int → Int} (F : cu_F m u) (hz : cu_row29 m m) (e21 : m 21 0 7 = m 3 0 12 + ma_sum u (m 3 0 10).toNat) (h36 : m 21 0 7 ≤ 36) : rl_m m := by
  obtain ⟨H, hu, P1, P2, P3⟩ := id F
  have HC := H
  obtain ⟨N0, N1, I0, I1, R0, R1, O0, O1, n8, n9, n10, n11, hn, hi, hr, _, hrj, hoo⟩ := HC
  obtain ⟨N, eN⟩ : ∃ N : Nat, m 3 0 10 = (N : Int) := ⟨(m 3 0 10).toNat, by omega⟩
  have tN : (m 3 0 10).toNat = N := by omega
  have sN := (cu_blk_sum H hu (k := N) (by omega)).1
  rw [tN] at e21
  have ub : ∀ k : Nat, k < N → u k = 0 ∨ u k = 1 := fun k hk => (hu k (by omega)).1
  have slt : ∀ x : Nat, x < N → u x = 1 → ma_sum u x + 1 ≤ ma_sum u N := fun x hx ux => cu_sum_lt (u := u) hx ux (fun y a c => by
    have := ub y.toNat (by omega)
    rw [show ((y.toNat : Nat) : Int) = y from by omega] at this; omega)
  -- where nodes' blocks are
  have at28 : ∀ x : Nat, (x : Int) < m 3 0 10 → -1 ≤ m 28 0 x ∧ m 28 0 x < m 21 0 7 ∧ (0 ≤ m 28 0 x ↔ m 4 0 x = 114 ∨ cu_need m x) ∧ (cu_need m x → m 22 0 (m 28 0 x) = x) ∧ (m 4 0 x = 114 → m 23 0 (m 28 0 x) = x) := by
    intro x hx
    have sx := (cu_blk_sum H hu (k := x) (by omega)).1
    rcases cu_of28 F hx with ⟨j, j1, j2, j3, j4⟩ | ⟨j, j1, j2, j3, j4, _, j5⟩ | ⟨j1, j2, j3⟩ | ⟨j1, j2, j3⟩
    · have t3 := (hr j (by omega) j1).2.2
      rw [j2] at t3
      refine ⟨by omega, by omega, ⟨fun _ => .inl t3, fun _ => by omega⟩, fun z => absurd z j4, fun _ => ?_⟩
      rw [j3, (P1 j (by omega) j1).1, j2]
    · refine ⟨by omega, by omega, ⟨fun _ => .inr j4, fun _ => by omega⟩, fun _ => ?_, fun z => absurd (.inr z) (cu_need_gate j4)⟩
      rw [j3]; exact j5.1
    · have := slt x (by omega) j1
      refine ⟨by omega, by omega, ⟨fun _ => .inr j2, fun _ => by omega⟩, fun _ => ?_, fun z => absurd (.inr z) (cu_need_gate j2)⟩
      rw [j3]; exact (P2 x (by omega) j1).2.2.1
    · exact ⟨by omega, by omega, ⟨fun z => by omega, fun z => by rcases z with z | z; exact absurd z j3; exact absurd z j2⟩, fun z => absurd z j2, fun z => absurd z j3⟩
  have inB : ∀ x : Nat, (x : Int) < m 3 0 10 → (¬ (m 4 0 x = 105 ∨ m 4 0 x = 114) → cu_need m x) → m 4 0 x = 105 ∨ 0 ≤ m 28 0 x := by
    intro x hx hgx
    by_cases a : m 4 0 x = 105
    · exact .inl a
    · refine .inr ((at28 x hx).2.2.1.2 ?_)
      by_cases b : m 4 0 x = 114
      · exact .inl b
      · exact .inr (hgx (fun z => by rcases z with z | z; exact a z; exact b z))
  -- a block of a gate
  have gB : ∀ (b : Int) (g : Nat), (g : Int) < m 3 0 10 → cu_need m g → cu_bG m b g (cu_own m g) N → (0 ≤ m 24 0 b ∧ m 24 0 b ≤ 65535) ∧ (0 ≤ m 25 0 b ∧ m 25 0 b ≤ 4) ∧ (∀ k : Int, 0 ≤ k → k < m 25 0 b → 0 ≤ m 27 b k ∧ m 27 b k < m 3 0 10 ∧ (m 4 0 (m 27 b k) = 105 ∨ 0 ≤ m 28 0 (m 27 b k)) ∧ (0 ≤ m 22 0 b → m 27 b k < m 22 0 b)) := by
    intro b g hg nd hb
    obtain ⟨y1, y2, y3, y4⟩ := hb
    obtain ⟨o1, o2, o3, o4⟩ := cu_own_of H hg (cu_need_gate nd)
    have lw := cu_W_lt (m 4 0) (m 5 0) (m 6 0) (cu_own m g) N g
    refine ⟨by omega, by omega, fun k k0 k1 => ?_⟩
    rw [y3] at k1
    obtain ⟨x, x1, x2, x3⟩ := cu_cnt_surj 48 k.toNat (show k.toNat < cu_cnt (cu_own m g) 48 by omega)
    have xn : x < g := by
      by_cases e : x < g
      · exact e
      · rw [Nat.testBit_lt_two_pow (Nat.lt_of_lt_of_le o1 (Nat.pow_le_pow_right (by omega) (show g ≤ x by omega)))] at x2
        exact absurd x2 (by decide)
    have i2 := y4 x (by omega) x2
    rw [x3, show ((k.toNat : Nat) : Int) = k from by omega] at i2
    rw [i2, y1]
    exact ⟨by omega, by omega, inB x (by omega) (fun z => cu_need_step nd xn x2 z), fun _ => by omega⟩
  refine ⟨by omega, h36, rfl, fun i i0 i1 => ?_, fun b b0 b1 => ?_, fun j j0 j1 => ?_, u, hu, by rw [tN]; exact e21⟩
  · obtain ⟨x, ex⟩ : ∃ x : Nat, i = (x : Int) := ⟨i.toNat, by omega⟩
    subst ex
    obtain ⟨q1, q2, q3, q4, q5⟩ := at28 x i1
    obtain ⟨r1, r2⟩ := hz x i1
    refine ⟨rfl, rfl, r1, fun z => ?_, rfl, q1, q2, ⟨fun z => (q3.1 z).imp id r2.2, fun z => q3.2 (z.imp id r2.1)⟩, fun z => q4 (r2.1 z), q5⟩
    have := cu_need_gate (r2.1 z)
    exact ⟨fun w => this (.inl w), fun w => this (.inr w)⟩
  · unfold rl_b1
    by_cases bR : b < m 3 0 12
    · obtain ⟨p1, p2, p3⟩ := P1 b b0 bR
      obtain ⟨t1, t2, t3⟩ := hr b b0 bR
      have f4 := (hn (m 12 0 b) t1 t2).2.2.2.1 t3
      have c23 : m 23 0 b = -1 ∨ 0 ≤ m 23 0 b ∧ m 23 0 b < m 3 0 10 ∧ m 4 0 (m 23 0 b) = 114 ∧ m 28 0 (m 23 0 b) = b := by
        rw [p1]; exact .inr ⟨t1, t2, t3, p2⟩
      obtain ⟨f, ef⟩ : ∃ f : Nat, m 7 0 (m 12 0 b) = (f : Int) := ⟨(m 7 0 (m 12 0 b)).toNat, by omega⟩
      rw [ef, show ((f : Nat) : Int).toNat = f from rfl, tN] at p3
      have fN : (f : Int) < m 3 0 10 := by omega
      rcases p3 with ⟨z1, z2, z3⟩ | ⟨z1, z2⟩
      · obtain ⟨w1, w2, w3⟩ := gB b f fN z1 z3
        refine ⟨rfl, rfl, rfl, w1.1, w1.2, rfl, w2.1, w2.2, fun k k0 k1 => ⟨rfl, w3 k k0 k1⟩, .inr ?_, c23⟩
        rw [z3.1]
        exact ⟨by omega, fN, (hz f fN).2.2 z1, z2⟩
      · obtain ⟨v1, v2, v3, v4⟩ := z2
        refine ⟨rfl, rfl, rfl, by omega, by omega, rfl, by omega, by omega, fun k k0 k1 => ⟨rfl, ?_⟩, .inl v1, c23⟩
        rw [show k = 0 from by omega, v4, v1]
        exact ⟨by omega, fN, inB f fN (fun z => cu_need_root (.inr ⟨m 12 0 b, t1, t2, t3, ef⟩) z), fun z => by omega⟩
    · obtain ⟨k, k1, k2, k3⟩ := cu_sum_surj N ub (b - m 3 0 12) (by omega) (by omega)
      have kN : (k : Int) < m 3 0 10 := by omega
      obtain ⟨p1, p2, p3⟩ := P2 k (by omega) k2
      rw [show m 3 0 12 + ma_sum u k = b from by omega] at p1 p2 p3
      rw [tN] at p3
      have nd := ((hu k kN).2.1 k2).1
      obtain ⟨w1, w2, w3⟩ := gB b k kN nd p3
      refine ⟨rfl, rfl, rfl, w1.1, w1.2, rfl, w2.1, w2.2, fun k k0 k1 => ⟨rfl, w3 k k0 k1⟩, .inr ?_, .inl p2⟩
      rw [p3.1]
      exact ⟨by omega, kN, (hz k kN).2.2 nd, p1⟩
  · obtain ⟨_, o1, o2⟩ := hoo j j0 j1
    obtain ⟨x, ex⟩ : ∃ x : Nat, m 13 0 j = (x : Int) := ⟨(m 13 0 j).toNat, by omega⟩
    rw [ex] at o2 ⊢
    exact inB x o2 (fun z => cu_need_root (.inl ⟨j, j0, j1, ex⟩) z)
/-- mapped, with what the tables are made of -/
def mp (μ : ma_M) : Prop := rl_c μ ∧ rl_z μ ∧ rl_m μ ∧ ∃ u : Int → Int, cu_F μ u ∧ cu_row29 μ μ ∧ μ 21 0 7 = μ 3 0 12 + ma_sum u (μ 3 0 10).toNat
theorem sp_map0 {LS d : Nat} {Post : ma_R → ma_M → Prop} {μ : ma_M} (ho : μ 3 0 13 = 0) (h : Post (.inl (some (ma_I (-900001)))) μ) : ma_Ox LS (d + 7) mi_LatticefitLaw_map [ma_Rf 2 0] μ Post := by
  refine gi_LatticefitLaw_map (fun R hR => s_LatticefitLaw_map_0 (d := d) hR ?_)
  refine gi_Latticefit_map (fun R2 hR2 => s_Latticefit_map_0 (d := d) hR2 ⟨fun ho2 => absurd ho ho2, fun _ => ?_⟩)
  show R 5 [ma_Rf 2 0, ma_U] [ma_X 0] 1 μ
  exact g_LatticefitLaw_map_5 hR ⟨Nat.le_refl 1, h⟩
theorem sp_map {LS d : Nat} {Post : ma_R → ma_M → Prop} {μ : ma_M} (Hc : rl_c μ) (Hz : rl_z μ) (ho : μ 3 0 13 ≠ 0) (h1 : ∀ m : ma_M, Post (.inl (some (ma_I (-900002)))) m) (h2 : ∀ m : ma_M, mp m → rl_p m → (∀ c : Nat, c ≠ 2 → c < 16 ∨ 46 < c → m c = μ c) → m 2 0 10 = 1 → (∀ b : Int, 0 ≤ b → b < m 21 0 7 → m 34 0 b = 0) → Post (.inl (some (ma_I (m 21 0 7)))) m) : ma_Ox LS (d + 7) mi_LatticefitLaw_map [ma_Rf 2 0] μ Post := by
  have HC := Hc
  obtain ⟨N0, N1, I0, I1, R0, R1, O0, O1, n8, n9, n10, n11, hn, hi, hr, _, hrj, hoo⟩ := HC
  obtain ⟨u, hu⟩ := cu_blk_ex μ
  have hle := cu_blk_le Hc hu
  refine gi_LatticefitLaw_map (fun R hR => s_LatticefitLaw_map_0 (d := d) hR ?_)
  refine gi_Latticefit_map (fun R2 hR2 => s_Latticefit_map_0 (d := d) hR2 ⟨fun _ => ?_, fun z => absurd z ho⟩)
  refine sp_findAll (N := (μ 3 0 10).toNat) (by omega) (by omega) (cu_wf_of Hc) (fun n a b => by
    have := (hn n (by omega) (by omega)).2.2.2.2 (fun z => b (.inl z)) (fun z => b (.inr z)); exact this.2.2.2.2.1) (fun m1 a1 a2 => k_Latticefit_map_22 (d := d) hR2 ?_)
  have c1 : ∀ c : Nat, c < 16 ∨ 20 < c → m1 c = μ c := fun c hc => a1 c (by omega) (by omega) (by omega) (by omega)
  have g1 : ∀ c ∈ ([3, 4, 5, 6, 7, 12, 13] : List Nat), m1 c = μ c := fun c hc => c1 c (by revert hc; simp only [List.mem_cons, List.not_mem_nil, or_false]; omega)
  have g1' : ∀ c ∈ ([3, 4, 5, 6, 7, 13] : List Nat), m1 c = μ c := fun c hc => c1 c (by revert hc; simp only [List.mem_cons, List.not_mem_nil, or_false]; omega)
  have H1 : rl_c m1 := rl_c_congr (fun c hc => c1 c (by revert hc; simp only [List.mem_cons, List.not_mem_nil, or_false]; omega)) Hc
  have hu1 := cu_blk_congr g1' hu
  have e3 : m1 3 = μ 3 := c1 3 (by omega)
  refine sp_pack (d := d + 1) H1 (fun j hj => ?_) (fun n x y => ?_) hu1 (fun m2 b1 b2 b3 b4 b5 b6 b7 => k_Latticefit_map_33 (d := d) hR2 ?_)
  · rw [c1 1 (by omega)]
    obtain ⟨z1, z2, z3, z4⟩ := Hz
    have : j = 0 ∨ j = 1 ∨ j = 2 ∨ j = 3 := by omega
    rcases this with rfl | rfl | rfl | rfl
    · exact z1
    · exact z2
    · exact z3
    · exact z4
  · rw [e3] at x
    have t := cu_T_of Hc n x
    have := (a2 n (by omega)).1.2 0 t.pos
    unfold cu_own
    rw [e3, c1 4 (by omega), c1 5 (by omega), c1 6 (by omega)]
    exact this.1
  rw [b3, e3]
  have c2 : ∀ c : Nat, c < 16 ∨ 30 < c → m2 c = μ c := fun c hc => by rw [b1 c (by omega) (by omega) (by omega) (by omega) (by omega) (by omega) (by omega) (by omega) (by omega)]; exact c1 c (by omega)
  rw [e3] at b3 b5 b6
  refine ⟨fun h36 => ?_, fun h36 => ?_⟩
  · refine sp_putAnew (d := d + 3) (c := (μ 3 0 12 + ma_sum u (μ 3 0 10).toNat).toNat) (by have := (cu_blk_sum Hc hu (k := (μ 3 0 10).toNat) (by omega)).1; omega) (by omega) (fun m3 d1 d2 d3 => k_Latticefit_map_60 (d := d) hR2 (sp_clear (d := d + 3) (fun m4 f1 f2 f3 f4 => k_Latticefit_map_67 (d := d) hR2 (k_LatticefitLaw_map_1 (d := d) hR ?_))))
    have s0 := (cu_blk_sum Hc hu (k := (μ 3 0 10).toNat) (by omega)).1
    obtain ⟨cc, ecc⟩ : ∃ cc : Int, cc = μ 3 0 12 + ma_sum u (μ 3 0 10).toNat := ⟨_, rfl⟩
    rw [show (((μ 3 0 12 + ma_sum u (μ 3 0 10).toNat).toNat : Nat) : Int) = cc from by omega] at d2 d3
    have q : ∀ c : Nat, c ≠ 2 → c ≠ 32 → c ≠ 33 → c ≠ 34 → c ≠ 42 → c ≠ 44 → c ≠ 45 → c ≠ 46 → (ma_up m4 2 0 10 1) c = m2 c := fun c x1 x2 x3 x4 x5 x6 x7 x8 => by rw [ma_up_ck x1, f1 c x5 x6 x7 x8, d1 c x2 x3 x4]
    have q2 : (ma_up m4 2 0 10 1) 2 0 10 = 1 := ma_up_eq
    have q32 : ∀ b : Int, 0 ≤ b → b < cc → (ma_up m4 2 0 10 1) 32 0 b = b ∧ (ma_up m4 2 0 10 1) 34 0 b = 0 := fun b x y => by rw [ma_up_ck (by decide), ma_up_ck (by decide), f1 32 (by decide) (by decide) (by decide) (by decide), f1 34 (by decide) (by decide) (by decide) (by decide)]; exact d2 b x y
    have q33 : ∀ x : Int, 0 ≤ x → x < 36 → (ma_up m4 2 0 10 1) 33 0 x = if x < cc then x else -1 := fun x y z => by rw [ma_up_ck (by decide), f1 33 (by decide) (by decide) (by decide) (by decide)]; exact d3 x y z
    have q421 : m4 21 0 7 = (ma_up m4 2 0 10 1) 21 0 7 := by rw [ma_up_ck (by decide)]
    rw [q421]
    clear f1 f2 f3 f4 d1 d2 d3 q421
    generalize ma_up m4 2 0 10 1 = M at q q2 q32 q33 ⊢
    have cM : ∀ c : Nat, c ≠ 2 → c < 16 ∨ 46 < c → M c = μ c := fun c x1 x2 => by rw [q c x1 (by omega) (by omega) (by omega) (by omega) (by omega) (by omega) (by omega)]; exact c2 c (by omega)
    have gM : ∀ c ∈ ([3, 4, 5, 6, 7, 12, 13] : List Nat), M c = m1 c := fun c hc => by rw [g1 c hc]; exact cM c (by revert hc; simp only [List.mem_cons, List.not_mem_nil, or_false]; omega) (by revert hc; simp only [List.mem_cons, List.not_mem_nil, or_false]; omega)
    have gM' : ∀ c ∈ ([3, 4, 5, 6, 7, 13] : List Nat), M c = m1 c := fun c hc => gM c (by revert hc; simp only [List.mem_cons, List.not_mem_nil, or_false]; omega)
    have gM4 : ∀ c ∈ ([3, 4, 5, 6] : List Nat), M c = m1 c := fun c hc => gM c (by revert hc; simp only [List.mem_cons, List.not_mem_nil, or_false]; omega)
    have hM : ∀ c ∈ ([4, 5, 6, 22, 23, 24, 25, 27, 28] : List Nat), M c = m2 c := fun c hc => q c (by revert hc; simp only [List.mem_cons, List.not_mem_nil, or_false]; omega) (by revert hc; simp only [List.mem_cons, List.not_mem_nil, or_false]; omega) (by revert hc; simp only [List.mem_cons, List.not_mem_nil, or_false]; omega) (by revert hc; simp only [List.mem_cons, List.not_mem_nil, or_false]; omega) (by revert hc; simp only [List.mem_cons, List.not_mem_nil, or_false]; omega) (by revert hc; simp only [List.mem_cons, List.not_mem_nil, or_false]; omega) (by revert hc; simp only [List.mem_cons, List.not_mem_nil, or_false]; omega) (by revert hc; simp only [List.mem_cons, List.not_mem_nil, or_false]; omega)
    have M3 : M 3 = μ 3 := cM 3 (by omega) (by omega)
    have HM : rl_c M := rl_c_congr (fun c hc => cM c (by revert hc; simp only [List.mem_cons, List.not_mem_nil, or_false]; omega) (by revert hc; simp only [List.mem_cons, List.not_mem_nil, or_false]; omega)) Hc
    have FM : cu_F M u := by
      refine ⟨HM, cu_blk_congr gM' hu1, ?_, ?_, cu_P3_congr gM' (hM 28 (by decide)) b7⟩
      · have := cu_P1_congr gM hM b5; rw [M3]; exact this
      · have := cu_P2_congr gM4 hM b6; rw [M3]; exact this
    have Mz : cu_row29 M M := cu_row29_congr gM' (q 29 (by decide) (by decide) (by decide) (by decide) (by decide) (by decide) (by decide) (by decide)) b4
    have M21 : M 21 0 7 = cc := by rw [q 21 (by decide) (by decide) (by decide) (by decide) (by decide) (by decide) (by decide) (by decide), b3, ecc]
    have ecM : M 3 0 12 + ma_sum u (M 3 0 10).toNat = cc := by rw [M3, ecc]
    refine h2 M ⟨HM, rl_z_congr (fun c hc => cM c (by revert hc; simp only [List.mem_cons, List.not_mem_nil, or_false]; omega) (by revert hc; simp only [List.mem_cons, List.not_mem_nil, or_false]; omega)) Hz, cu_rl_m FM Mz (by rw [M21, ecM]) (by omega), u, FM, Mz, by rw [M21, ecM]⟩ ⟨fun b b0 b1 => ?_, fun x x0 x1 => ?_⟩ cM q2 (fun b b0 b1 => (q32 b b0 (by omega)).2)
    · rw [M21] at b1
      obtain ⟨t1, t2⟩ := q32 b b0 b1
      rw [t1, t2, q33 b b0 (by omega), if_pos b1]
      exact ⟨rfl, b0, by omega, rfl, rfl, .inl rfl⟩
    · rw [q33 x x0 x1, M21]
      refine ⟨rfl, by split <;> omega, by split <;> omega, fun z => ?_⟩
      by_cases e : x < cc
      · rw [if_pos e]; exact (q32 x x0 e).1
      · rw [if_neg e] at z; omega
  · -- too many blocks
    show R 9 [ma_Rf 2 0, ma_U] [ma_X 1] 1 m2
    exact g_LatticefitLaw_map_9 hR ⟨Nat.le_refl 1, h1 m2⟩
