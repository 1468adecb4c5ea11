/-! the reference maps -/
theorem sp_refmap {LS d : Nat} {Post : ma_R → ma_M → Prop} {μ : ma_M} {u : Int → Int} (F : cu_F μ u) (hout : μ 3 0 13 ≠ 0) (hc36 : μ 3 0 12 + ma_sum u (μ 3 0 10).toNat ≤ 36)
    (h : ∀ m : ma_M, (∀ c : Nat, c < 69 → m c = μ c) → (∀ c : Nat, 70 ≤ c → c < 78 → m c = μ c) → (∀ c : Nat, 90 < c → c ≠ 96 → m c = μ c) → (∀ f : Int, f ≠ 25 → f ≠ 26 → f ≠ 27 → f ≠ 28 → f ≠ 29 → f ≠ 50 → m 69 0 f = μ 69 0 f) → m 69 0 50 = 0 → m 69 0 25 = μ 3 0 12 + ma_sum u (μ 3 0 10).toNat → m 69 0 26 = 1 → m 69 0 27 = 0 → m 69 0 28 = 0 → m 69 0 29 = 0 → (∀ e : Int, 0 ≤ e → e < 84 → m 96 0 e = 0) → cu_MM (μ 70 0) (μ 71 0) (μ 72 0) m (μ 3 0 10).toNat → cu_row82 μ m → (∀ x : Nat, (x : Int) < μ 3 0 10 → m 81 0 x = μ 28 0 x) → (∀ b : Int, 0 ≤ b → b < μ 3 0 12 + ma_sum u (μ 3 0 10).toNat → cu_B μ m b) → (∀ b : Int, 0 ≤ b → b < μ 3 0 12 + ma_sum u (μ 3 0 10).toNat → m 85 0 b = b) → (∀ x : Int, 0 ≤ x → x < 36 → m 89 0 x = if x < μ 3 0 12 + ma_sum u (μ 3 0 10).toNat then x else -1) → Post (.inl (some (ma_I (μ 3 0 12 + ma_sum u (μ 3 0 10).toNat)))) m) :
    ma_Ox LS (d + 62) mi_LatticefitModel_map [ma_Rf 69 0] μ Post := by
  obtain ⟨H, hu, P1, P2, P3⟩ := id F
  have HC := H
  obtain ⟨N0, N1, I0, I1, R0, R1, O0, O1, n8, n9, n10, n11, hn, hi, hr, _, hrj, hoo⟩ := HC
  obtain ⟨N, eN⟩ : ∃ N : Nat, μ 3 0 10 = (N : Int) := ⟨(μ 3 0 10).toNat, by omega⟩
  have tN : (μ 3 0 10).toNat = N := by omega
  have hle := cu_blk_le H hu
  rw [tN] at hle hc36
  refine gi_LatticefitModel_map (fun R hR => s_LatticefitModel_map_0 (d := d + 55) hR ⟨fun _ => ?_, fun q => by rw [n11] at q; exact absurd q hout⟩)
  have f0 : ∀ c : Nat, c ≠ 69 → (ma_up μ 69 0 50 0) c = μ c := fun c hc => ma_up_ck hc
  have H' : rl_c (ma_up μ 69 0 50 0) := rl_c_congr (fun c hc => f0 c (by rintro rfl; revert hc; decide)) (fun f hff => ma_up_ne (by rintro ⟨_, rfl⟩; revert hff; decide)) H
  have hu' : cu_blk (ma_up μ 69 0 50 0) u := by
    intro k hk
    unfold cu_need cu_fed cu_root cu_own
    rw [f0 3 (by decide), f0 4 (by decide), f0 5 (by decide), f0 6 (by decide), f0 7 (by decide), f0 13 (by decide)]
    exact hu k (by rw [f0 3 (by decide)] at hk; exact hk)
  refine sp_blocksThen H' hu' (fun m0 a1 a2 a3 => ?_)
  rw [f0 3 (by decide)] at a2 ⊢
  rw [f0 70 (by decide), f0 71 (by decide), f0 72 (by decide)] at a2
  have a3' : cu_row82 μ m0 := by
    intro k hk
    have := a3 k (by rw [f0 3 (by decide)]; exact hk)
    have e := cu_need_congr (m := ma_up μ 69 0 50 0) (f0 3 (by decide)) (f0 4 (by decide)) (f0 5 (by decide)) (f0 6 (by decide)) (f0 7 (by decide)) (f0 13 (by decide)) k
    exact ⟨this.1, this.2.trans e⟩
  clear a3
  refine k_LatticefitModel_map_24 hR ⟨fun _ => ?_, fun q => by rw [tN] at q; omega⟩
  -- the memory behind the cuts
  have b1 : ∀ c : Nat, c ≠ 69 → c ≠ 78 → c ≠ 79 → c ≠ 80 → c ≠ 82 → (ma_up (ma_up m0 69 0 50 0) 69 0 25 0) c = μ c := fun c c1 c2 c3 c4 c5 => by rw [ma_up_ck c1, ma_up_ck c1, a1 c c2 c3 c4 c5, f0 c c1]
  have b2 : ∀ f : Int, f ≠ 25 → f ≠ 50 → (ma_up (ma_up m0 69 0 50 0) 69 0 25 0) 69 0 f = μ 69 0 f := fun f f1 f2 => by rw [ma_up_ne (by omega), ma_up_ne (by omega), a1 69 (by decide) (by decide) (by decide) (by decide), ma_up_ne (by omega)]
  have b3 : (ma_up (ma_up m0 69 0 50 0) 69 0 25 0) 69 0 50 = 0 := by rw [ma_up_ne (by omega), ma_up_eq]
  have b4 : (ma_up (ma_up m0 69 0 50 0) 69 0 25 0) 69 0 25 = 0 := ma_up_eq
  have b5 : cu_MM (μ 70 0) (μ 71 0) (μ 72 0) (ma_up (ma_up m0 69 0 50 0) 69 0 25 0) N := by
    intro k hk
    unfold cu_M
    rw [ma_up_ck (by decide), ma_up_ck (by decide), ma_up_ck (by decide), ma_up_ck (by decide), ma_up_ck (by decide), ma_up_ck (by decide)]
    have := a2 k (by omega)
    rw [tN] at this
    exact this
  have b6 : cu_row82 μ (ma_up (ma_up m0 69 0 50 0) 69 0 25 0) := by
    intro k hk
    rw [ma_up_ck (by decide), ma_up_ck (by decide)]; exact a3' k hk
  clear a1 a2 a3'
  generalize ma_up (ma_up m0 69 0 50 0) 69 0 25 0 = m1 at b1 b2 b3 b4 b5 b6 ⊢
  -- the last loops
  have tail : ∀ m : ma_M, (∀ c : Nat, c < 69 → m c = μ c) → (∀ c : Nat, 70 ≤ c → c < 78 → m c = μ c) → (∀ c : Nat, 90 < c → m c = μ c) → (∀ f : Int, f ≠ 25 → f ≠ 50 → m 69 0 f = μ 69 0 f) → m 69 0 50 = 0 → m 69 0 25 = μ 3 0 12 + ma_sum u N → cu_MM (μ 70 0) (μ 71 0) (μ 72 0) m N → cu_row82 μ m → (∀ x : Nat, (x : Int) < μ 3 0 10 → m 81 0 x = μ 28 0 x) → (∀ b : Int, 0 ≤ b → b < μ 3 0 12 + ma_sum u N → cu_B μ m b) → R 180 [ma_Rf 69 0, ma_I 0, ma_U] [] 0 m := by
    intro m c1 c2 c3 c4 c5 c6 c7 c8 c9 c10
    refine ma_cnt (σ := ma_M) (N := 36) (P := fun i W => R 180 [ma_Rf 69 0, ma_I i, ma_U] [] 0 W) (I := fun i W => (∀ c : Nat, c ≠ 89 → W c = m c) ∧ (∀ x : Int, 0 ≤ x → x < i → W 89 0 x = if x < μ 3 0 12 + ma_sum u N then x else -1)) ?_ ?_ 0 m (by omega) (by omega) ⟨fun _ _ => rfl, fun x x0 x1 => by omega⟩
    · intro i W i0 i1 ⟨w1, w2⟩ ih
      have e25 : W 69 0 25 = μ 3 0 12 + ma_sum u N := by rw [w1 69 (by decide)]; exact c6
      have nx : ∀ v : Int, v = (if i < μ 3 0 12 + ma_sum u N then i else -1) → R 180 [ma_Rf 69 0, ma_I (i + 1), ma_U] [] 0 (ma_up W 89 0 i v) := by
        intro v hv
        refine ih _ ⟨fun c hc => by rw [ma_up_ck hc]; exact w1 c hc, fun x x0 x1 => ?_⟩
        by_cases e : x = i
        · rw [e, ma_up_eq, hv]
        · rw [ma_up_ne (by omega)]; exact w2 x x0 (by omega)
      exact s_LatticefitModel_map_180 hR ⟨fun q => by omega, fun _ => ⟨fun q => ⟨by omega, by omega, nx _ (by rw [if_neg (by omega)])⟩, fun q => ⟨by omega, by omega, nx _ (by rw [if_pos (by omega)])⟩⟩⟩
    · intro W ⟨w1, w2⟩
      refine s_LatticefitModel_map_180 hR ⟨fun _ => ?_, fun q => by omega⟩
      have s0 := (cu_blk_sum H hu (k := N) (by omega)).1
      refine ma_cnt (σ := ma_M) (N := μ 3 0 12 + ma_sum u N) (P := fun i V => R 213 [ma_Rf 69 0, ma_I i, ma_U] [] 0 V) (I := fun i V => (∀ c : Nat, c ≠ 85 → V c = W c) ∧ (∀ x : Int, 0 ≤ x → x < i → V 85 0 x = x)) ?_ ?_ 0 W (by omega) (by omega) ⟨fun _ _ => rfl, fun x x0 x1 => by omega⟩
      · intro i V i0 i1 ⟨v1, v2⟩ ih
        have e25 : V 69 0 25 = μ 3 0 12 + ma_sum u N := by rw [v1 69 (by decide), w1 69 (by decide)]; exact c6
        refine s_LatticefitModel_map_213 hR ⟨fun q => by omega, fun _ => ⟨by omega, by omega, ih _ ⟨fun c hc => by rw [ma_up_ck hc]; exact v1 c hc, fun x x0 x1 => ?_⟩⟩⟩
        by_cases e : x = i
        · rw [e, ma_up_eq]
        · rw [ma_up_ne (by omega)]; exact v2 x x0 (by omega)
      · intro V ⟨v1, v2⟩
        have e25 : V 69 0 25 = μ 3 0 12 + ma_sum u N := by rw [v1 69 (by decide), w1 69 (by decide)]; exact c6
        have vm : ∀ c : Nat, c ≠ 85 → c ≠ 89 → V c = m c := fun c x1 x2 => by rw [v1 c x1, w1 c x2]
        refine s_LatticefitModel_map_213 hR ⟨fun _ => sp_changes (d := d + 59) (fun Z z1 z2 z3 z4 z5 z6 z7 => k_LatticefitModel_map_235 hR ?_), fun q => by omega⟩
        have zm : ∀ c : Nat, c ≠ 69 → c ≠ 85 → c ≠ 89 → c ≠ 96 → (ma_up Z 69 0 26 1) c = m c := fun c x1 x2 x3 x4 => by rw [ma_up_ck x1, z1 c x1 x4, vm c x2 x3]
        have zf : ∀ f : Int, f ≠ 26 → f ≠ 27 → f ≠ 28 → f ≠ 29 → (ma_up Z 69 0 26 1) 69 0 f = m 69 0 f := fun f x1 x2 x3 x4 => by rw [ma_up_ne (by omega), z2 f x1 x2 x3 x4, vm 69 (by decide) (by decide)]
        have z25 : Z 69 0 25 = μ 3 0 12 + ma_sum u N := by rw [z2 25 (by decide) (by decide) (by decide) (by decide)]; exact e25
        rw [z25]
        have hh := h (ma_up Z 69 0 26 1)
        rw [tN] at hh
        refine hh (fun c hc => by rw [zm c (by omega) (by omega) (by omega) (by omega)]; exact c1 c hc) (fun c x1 x2 => by rw [zm c (by omega) (by omega) (by omega) (by omega)]; exact c2 c x1 x2) (fun c x1 x2 => by rw [zm c (by omega) (by omega) (by omega) x2]; exact c3 c x1) (fun f x1 x2 x3 x4 x5 x6 => by rw [zf f x2 x3 x4 x5]; exact c4 f x1 x6) (by rw [zf 50 (by decide) (by decide) (by decide) (by decide)]; exact c5) (by rw [zf 25 (by decide) (by decide) (by decide) (by decide)]; exact c6) ma_up_eq (by rw [ma_up_ne (by omega)]; exact z4) (by rw [ma_up_ne (by omega)]; exact z5) (by rw [ma_up_ne (by omega)]; exact z6) (fun e e0 e1 => by rw [ma_up_ck (by decide)]; exact z7 e e0 e1) (fun k hk => ?_) (fun k hk => ?_) (fun x hx => ?_) (fun b x0 x1 => ?_) (fun b x0 x1 => ?_) (fun x x0 x1 => ?_)
        · unfold cu_M
          rw [zm 78 (by decide) (by decide) (by decide) (by decide), zm 79 (by decide) (by decide) (by decide) (by decide), zm 80 (by decide) (by decide) (by decide) (by decide)]
          exact c7 k hk
        · rw [zm 82 (by decide) (by decide) (by decide) (by decide)]; exact c8 k hk
        · rw [zm 81 (by decide) (by decide) (by decide) (by decide)]; exact c9 x hx
        · unfold cu_B
          rw [zm 83 (by decide) (by decide) (by decide) (by decide), zm 84 (by decide) (by decide) (by decide) (by decide), zm 86 (by decide) (by decide) (by decide) (by decide), zm 87 (by decide) (by decide) (by decide) (by decide), zm 88 (by decide) (by decide) (by decide) (by decide), zm 90 (by decide) (by decide) (by decide) (by decide)]
          exact c10 b x0 x1
        · rw [ma_up_ck (by decide), z1 85 (by decide) (by decide)]; exact v2 b x0 x1
        · rw [ma_up_ck (by decide), z1 89 (by decide) (by decide), v1 89 (by decide)]; exact w2 x x0 x1
  -- what the loops over the blocks keep
  have base : ∀ m : ma_M, (∀ c : Nat, c ≠ 69 → c ≠ 81 → c ≠ 83 → c ≠ 84 → c ≠ 86 → c ≠ 87 → c ≠ 88 → c ≠ 90 → m c = m1 c) → (∀ f : Int, f ≠ 25 → m 69 0 f = m1 69 0 f) → (∀ c : Nat, c < 69 → m c = μ c) ∧ (∀ c : Nat, 70 ≤ c → c < 78 → m c = μ c) ∧ (∀ c : Nat, 90 < c → m c = μ c) ∧ (∀ f : Int, f ≠ 25 → f ≠ 50 → m 69 0 f = μ 69 0 f) ∧ m 69 0 50 = 0 ∧ cu_MM (μ 70 0) (μ 71 0) (μ 72 0) m N ∧ cu_row82 μ m := by
    intro m x1 x2
    refine ⟨fun c hc => by rw [x1 c (by omega) (by omega) (by omega) (by omega) (by omega) (by omega) (by omega) (by omega)]; exact b1 c (by omega) (by omega) (by omega) (by omega) (by omega), fun c c1 c2 => by rw [x1 c (by omega) (by omega) (by omega) (by omega) (by omega) (by omega) (by omega) (by omega)]; exact b1 c (by omega) (by omega) (by omega) (by omega) (by omega), fun c hc => by rw [x1 c (by omega) (by omega) (by omega) (by omega) (by omega) (by omega) (by omega) (by omega)]; exact b1 c (by omega) (by omega) (by omega) (by omega) (by omega), fun f f1 f2 => by rw [x2 f f1]; exact b2 f f1 f2, by rw [x2 50 (by decide)]; exact b3, fun k hk => ?_, fun k hk => ?_⟩
    · unfold cu_M
      rw [x1 78 (by decide) (by decide) (by decide) (by decide) (by decide) (by decide) (by decide) (by decide), x1 79 (by decide) (by decide) (by decide) (by decide) (by decide) (by decide) (by decide) (by decide), x1 80 (by decide) (by decide) (by decide) (by decide) (by decide) (by decide) (by decide) (by decide)]
      exact b5 k hk
    · rw [x1 82 (by decide) (by decide) (by decide) (by decide) (by decide) (by decide) (by decide) (by decide)]; exact b6 k hk
  -- the gates
  have l139 : ∀ (k i : Nat) (u2 : ma_V) (m : ma_M), i + k = N → (∀ c : Nat, c ≠ 69 → c ≠ 81 → c ≠ 83 → c ≠ 84 → c ≠ 86 → c ≠ 87 → c ≠ 88 → c ≠ 90 → m c = m1 c) → (∀ f : Int, f ≠ 25 → m 69 0 f = m1 69 0 f) → m 69 0 25 = μ 3 0 12 + ma_sum u i → (∀ b : Int, 0 ≤ b → b < μ 3 0 12 + ma_sum u i → cu_B μ m b) → (∀ x : Nat, (x : Int) < μ 3 0 10 → m 81 0 x = if 0 ≤ μ 28 0 x ∧ μ 28 0 x < μ 3 0 12 + ma_sum u i then μ 28 0 x else -1) → R 139 [ma_Rf 69 0, ma_I i, u2] [] 0 m := by
    intro k
    induction k with
    | zero =>
      intro i u2 m hi x1 x2 x3 x4 x5
      have ei : i = N := by omega
      subst ei
      obtain ⟨y1, y2, y3, y4, y5, y6, y7⟩ := base m x1 x2
      refine s_LatticefitModel_map_139 hR ⟨fun _ => tail m y1 y2 y3 y4 y5 x3 y6 y7 (fun x hx => ?_) x4, fun q => by rw [y4 8 (by decide) (by decide), n8] at q; omega⟩
      rw [x5 x hx]
      have s0 := (cu_blk_sum H hu (k := i) (by omega)).1
      rcases cu_of28 F hx with ⟨j, j1, _, j3, _⟩ | ⟨j, j1, _, j3, _⟩ | ⟨j1, _, j3⟩ | ⟨j3, _⟩
      · rw [if_pos (by omega)]
      · rw [if_pos (by omega)]
      · have := cu_sum_lt (u := u) (show x < i by omega) j1 (fun y a c => by
          have := (hu y.toNat (by omega)).1
          rw [show ((y.toNat : Nat) : Int) = y from by omega] at this; omega)
        have s1 := (cu_blk_sum H hu (k := x) (by omega)).1
        rw [if_pos (by omega)]
      · rw [j3, if_neg (by omega)]
    | succ k ih =>
      intro i u2 m hi x1 x2 x3 x4 x5
      obtain ⟨y1, y2, y3, y4, y5, y6, y7⟩ := base m x1 x2
      have iN : (i : Int) < μ 3 0 10 := by omega
      have e8 : m 69 0 8 = μ 3 0 10 := by rw [y4 8 (by decide) (by decide)]; exact n8
      obtain ⟨n1, n2⟩ := y7 i iN
      obtain ⟨v1, v2⟩ := hu i iN
      obtain ⟨s0, s1⟩ := cu_blk_sum H hu (k := i) (by omega)
      have skip : u i = 0 → R 139 [ma_Rf 69 0, ma_I ((i : Int) + 1), ma_U] [] 0 m := by
        intro hz'
        rw [show ((i : Nat) : Int) + 1 = ((i + 1 : Nat) : Int) from by omega]
        have es : ma_sum u (i + 1) = ma_sum u i := by show ma_sum u i + u i = _; omega
        exact ih (i + 1) _ m (by omega) x1 x2 (by rw [es]; exact x3) (by rw [es]; exact x4) (by rw [es]; exact x5)
      refine s_LatticefitModel_map_139 hR ⟨fun q => by omega, fun _ => ⟨by omega, fun q => ⟨by omega, skip ?_⟩, fun q => ⟨fun q2 => ⟨by omega, skip ?_⟩, fun q2 => ?_⟩⟩⟩
      · rcases v1 with v1 | v1
        · exact v1
        · have := n2.2 (v2.1 v1).1; omega
      · rcases v1 with v1 | v1
        · exact v1
        · rw [x5 i iN, (P2 i (by omega) v1).1, if_neg (by omega)] at q2; omega
      · have nd : cu_need μ i := n2.1 (by omega)
        have ui : u i = 1 := by
          rcases cu_of28 F iN with ⟨j, _, _, _, z⟩ | ⟨j, j1, _, j3, _⟩ | ⟨j1, _⟩ | ⟨_, z, _⟩
          · exact absurd nd z
          · rw [x5 i iN, if_pos (by omega)] at q2; omega
          · exact j1
          · exact absurd nd z
        obtain ⟨p1, p2, p3⟩ := P2 i (by omega) ui
        obtain ⟨b, eb⟩ : ∃ b : Nat, μ 3 0 12 + ma_sum u i = (b : Int) := ⟨(μ 3 0 12 + ma_sum u i).toNat, by omega⟩
        have lt := cu_sum_lt (u := u) (show i < N by omega) ui (fun y a c => by
          have := (hu y.toNat (by omega)).1
          rw [show ((y.toNat : Nat) : Int) = y from by omega] at this; omega)
        rw [eb] at p1 p2 p3 x3 x4 x5
        have hgg := cu_need_gate nd
        refine sp_newBlock (d := d + 5) (μ := μ) (b := b) H y1 y2 e8 x3 (by omega) (fun _ => ?_) (.inr ⟨by omega, iN, .inl rfl, hgg, by rw [show ((i : Nat) : Int).toNat = i from rfl]; exact p3⟩) p2 (fun v m' z1 z2 z3 z4 z5 z6 => k_LatticefitModel_map_168 hR ⟨by omega, ?_⟩)
        · rw [show ((i : Nat) : Int).toNat = i from rfl]; exact cu_own78 H (by rw [tN]; exact y6) i iN
        · rw [show ((i : Nat) : Int) + 1 = ((i + 1 : Nat) : Int) from by omega]
          have es : μ 3 0 12 + ma_sum u (i + 1) = (b : Int) + 1 := by
            have : ma_sum u (i + 1) = ma_sum u i + u i := rfl
            omega
          refine ih (i + 1) _ m' (by omega) (fun c c1 c2 c3 c4 c5 c6 c7 c8 => by rw [z1 c c1 c2 c3 c4 c5 c6 c7 c8]; exact x1 c c1 c2 c3 c4 c5 c6 c7 c8) (fun f hf => by rw [z2 f hf]; exact x2 f hf) (by rw [es]; exact z3) (fun y y0 y1 => ?_) (fun x hx => ?_)
          · by_cases e : y = b
            · rw [e]; exact z5
            · exact z4 y y0 (by omega) (x4 y y0 (by omega))
          · rw [es, z6 x (by omega)]
            by_cases e : x = i
            · rw [if_pos (.inl (by omega)), e, p1, if_pos (by omega)]
            · rw [if_neg (by omega), x5 x hx]
              have ne : μ 28 0 x ≠ b := by
                intro w
                rcases cu_of28 F hx with ⟨j, j1, _, j3, _⟩ | ⟨j, j1, _, j3, _⟩ | ⟨j1, _, j3⟩ | ⟨j3, _⟩
                · omega
                · omega
                · exact e (cu_blk_sum_inj hu hx iN j1 ui (by omega))
                · omega
              split <;> split <;> omega
  -- the registers
  have l76 : ∀ (k x i : Nat) (u2 : ma_V) (m : ma_M), x + k = N → (i : Int) ≤ μ 3 0 12 → (∀ j : Int, 0 ≤ j → j < μ 3 0 12 → (μ 12 0 j < x ↔ j < i)) → (∀ c : Nat, c ≠ 69 → c ≠ 81 → c ≠ 83 → c ≠ 84 → c ≠ 86 → c ≠ 87 → c ≠ 88 → c ≠ 90 → m c = m1 c) → (∀ f : Int, f ≠ 25 → m 69 0 f = m1 69 0 f) → m 69 0 25 = i → (∀ b : Int, 0 ≤ b → b < i → cu_B μ m b) → (∀ x : Nat, (x : Int) < μ 3 0 10 → m 81 0 x = if 0 ≤ μ 28 0 x ∧ μ 28 0 x < i then μ 28 0 x else -1) → R 76 [ma_Rf 69 0, ma_I x, u2] [] 0 m := by
    intro k
    induction k with
    | zero =>
      intro x i u2 m hx hiR hreg x1 x2 x3 x4 x5
      obtain ⟨y1, y2, y3, y4, y5, y6, y7⟩ := base m x1 x2
      have iR : (i : Int) = μ 3 0 12 := by
        by_cases e : (i : Int) = μ 3 0 12
        · exact e
        · have a := hr i (by omega) (by omega)
          have := (hreg i (by omega) (by omega)).1 (by omega)
          omega
      refine s_LatticefitModel_map_76 hR ⟨fun _ => ?_, fun q => by rw [y4 8 (by decide) (by decide), n8] at q; omega⟩
      refine l139 N 0 _ m (by omega) x1 x2 ?_ ?_ ?_
      · rw [show ma_sum u 0 = 0 from rfl]; omega
      · rw [show ma_sum u 0 = 0 from rfl]; exact fun b b0 b1 => x4 b b0 (by omega)
      · intro y hy
        rw [show ma_sum u 0 = 0 from rfl, x5 y hy, iR, show μ 3 0 12 + 0 = μ 3 0 12 from by omega]
    | succ k ih =>
      intro x i u2 m hx hiR hreg x1 x2 x3 x4 x5
      obtain ⟨y1, y2, y3, y4, y5, y6, y7⟩ := base m x1 x2
      have xN : (x : Int) < μ 3 0 10 := by omega
      have e8 : m 69 0 8 = μ 3 0 10 := by rw [y4 8 (by decide) (by decide)]; exact n8
      obtain ⟨g1, g2, _, g4, _⟩ := hn x (by omega) xN
      have e70 : m 70 0 x = μ 4 0 x := by rw [y2 70 (by decide) (by decide)]; exact g1
      refine s_LatticefitModel_map_76 hR ⟨fun q => by omega, fun _ => ⟨by omega, fun q => ⟨by omega, ?_⟩, fun q => ?_⟩⟩
      · rw [e70] at q
        rw [show ((x : Nat) : Int) + 1 = ((x + 1 : Nat) : Int) from by omega]
        refine ih (x + 1) i _ m (by omega) hiR (fun j j0 j1 => ?_) x1 x2 x3 x4 x5
        rw [← hreg j j0 j1]
        have := hr j j0 j1
        have : μ 12 0 j ≠ x := fun z => q (by rw [← z]; exact this.2.2)
        omega
      · rw [e70] at q
        -- the register is the next one
        obtain ⟨j, j0, j1, ej⟩ := hrj x (by omega) xN q
        have ji : ¬ j < i := fun z => by have := (hreg j j0 j1).2 z; omega
        have iR : (i : Int) < μ 3 0 12 := by omega
        have eij : j = i := by
          by_cases e : j = i
          · exact e
          · have := cu_reg_mono H (j - i - 1).toNat i (by omega) (by omega)
            rw [show (i : Int) + ((j - i - 1).toNat : Nat) + 1 = j from by omega] at this
            have := (hreg i (by omega) iR).1 (by omega)
            omega
        rw [eij] at ej
        have f4 := g4 q
        obtain ⟨f, ef⟩ : ∃ f : Nat, μ 7 0 x = (f : Int) := ⟨(μ 7 0 x).toNat, by omega⟩
        have fN : (f : Int) < μ 3 0 10 := by omega
        have e74 : m 74 0 x = (f : Int) := by rw [y2 74 (by decide) (by decide)]; omega
        obtain ⟨n1, n2⟩ := y7 f fN
        obtain ⟨p1, p2, p3⟩ := P1 i (by omega) iR
        rw [ej] at p1 p2 p3
        rw [ef, show ((f : Nat) : Int).toNat = f from rfl] at p3
        rw [e74]
        -- with or without the gate
        have go : ∀ g : Int, ((g = -1 ∧ cu_bR μ i f ∧ (∀ y : Nat, (y : Int) < μ 3 0 10 → y ≠ x → μ 28 0 y ≠ i)) ∨ (g = f ∧ cu_need μ f ∧ μ 28 0 f = i ∧ cu_bG μ i f (cu_own μ f) N)) → ma_Ox LS (d + 55 + 6) mi_LatticefitModel_newBlock [ma_Rf 69 0, ma_I x, ma_I g] m (ma_ct (ma_Ox LS (d + 55 + 6)) (LS, [], 1, 0) 127 [ma_Rf 69 0, ma_I x, ma_U] [] 0 mt_LatticefitModel_map_130 R (ma_DD (LS, [], 1, 0) Post)) := by
          intro g hg
          refine sp_newBlock (d := d + 5) (μ := μ) (b := i) H y1 y2 e8 x3 (by omega) (fun g0 => ?_) ?_ p1 (fun v m' z1 z2 z3 z4 z5 z6 => k_LatticefitModel_map_127 hR ⟨by omega, ?_⟩)
          · rcases hg with ⟨w, _⟩ | ⟨w, _⟩
            · omega
            · rw [w, show ((f : Nat) : Int).toNat = f from rfl]; exact cu_own78 H (by rw [tN]; exact y6) f fN
          · rcases hg with ⟨w, w2, _⟩ | ⟨w, w2, w3, w4⟩
            · exact .inl ⟨w, by omega, xN, q, by rw [ef]; exact w2⟩
            · refine .inr ⟨by omega, by omega, .inr ⟨by omega, xN⟩, by rw [w]; exact cu_need_gate w2, ?_⟩
              rw [w, show ((f : Nat) : Int).toNat = f from rfl, tN]; exact w4
          · rw [show ((x : Nat) : Int) + 1 = ((x + 1 : Nat) : Int) from by omega]
            refine ih (x + 1) (i + 1) _ m' (by omega) (by omega) (fun j' j0' j1' => ?_) (fun c c1 c2 c3 c4 c5 c6 c7 c8 => by rw [z1 c c1 c2 c3 c4 c5 c6 c7 c8]; exact x1 c c1 c2 c3 c4 c5 c6 c7 c8) (fun f hf => by rw [z2 f hf]; exact x2 f hf) (by rw [z3]; omega) (fun y y0 y1 => ?_) (fun y hy => ?_)
            · have a := hreg j' j0' j1'
              by_cases e : j' = i
              · rw [e, ej]; omega
              · have : μ 12 0 j' ≠ x := fun z => e (cu_reg_inj H j0' j1' (by omega) iR (by rw [z, ej]))
                omega
            · by_cases e : y = i
              · rw [e]; exact z5
              · exact z4 y y0 (by omega) (x4 y y0 (by omega))
            · rw [z6 y (by omega)]
              by_cases e : y = x
              · rw [if_pos (.inr (by omega)), e, p2, if_pos (by omega)]
              · rcases hg with ⟨w, w2, w3⟩ | ⟨w, w2, w3, w4⟩
                · have ne := w3 y hy e
                  rw [if_neg (by omega), x5 y hy]
                  split <;> split <;> omega
                · by_cases e2 : y = f
                  · rw [if_pos (.inl (by omega)), e2, w3, if_pos (by omega)]
                  · have ne : μ 28 0 y ≠ i := by
                      intro z
                      rcases cu_of28 F hy with ⟨j, j1, j2, j3, _⟩ | ⟨j, j1, j2, j3, _⟩ | ⟨j1, _, j3⟩ | ⟨j3, _⟩
                      · rw [show (j : Int) = i from by omega, ej] at j2; omega
                      · rw [show (j : Int) = i from by omega, ej, ef] at j2; omega
                      · have := (cu_blk_sum H hu (k := y) (by omega)).1; omega
                      · omega
                    rw [if_neg (by omega), x5 y hy]
                    split <;> split <;> omega
        -- alone: no other node has this block
        have lone : (cu_need μ f → μ 28 0 f ≠ i) → ∀ y : Nat, (y : Int) < μ 3 0 10 → y ≠ x → μ 28 0 y ≠ i := by
          intro hne y hy e z
          rcases cu_of28 F hy with ⟨j, j1, j2, j3, _⟩ | ⟨j, j1, j2, j3, j4, _⟩ | ⟨j1, _, j3⟩ | ⟨j3, _⟩
          · rw [show (j : Int) = i from by omega, ej] at j2; omega
          · rw [show (j : Int) = i from by omega, ej, ef] at j2
            have : y = f := by omega
            subst this
            exact hne j4 z
          · have := (cu_blk_sum H hu (k := y) (by omega)).1; omega
          · omega
        refine ⟨by omega, fun q1 => go (-1) (.inl ⟨rfl, ?_⟩), fun q1 => ⟨fun q2 => go (-1) (.inl ⟨rfl, ?_⟩), fun q2 => go f (.inr ⟨rfl, ?_⟩)⟩⟩
        · have nn : ¬ cu_need μ f := fun z => by have := n2.2 z; omega
          rcases p3 with ⟨z, _⟩ | ⟨_, z⟩
          · exact absurd z nn
          · exact ⟨z, lone (fun w => absurd w nn)⟩
        · have nd : cu_need μ f := n2.1 (by omega)
          rw [x5 f fN] at q2
          have lt : 0 ≤ μ 28 0 f ∧ μ 28 0 f < i := by
            by_cases e : 0 ≤ μ 28 0 f ∧ μ 28 0 f < i
            · exact e
            · rw [if_neg e] at q2; omega
          rcases p3 with ⟨_, z, _⟩ | ⟨_, z⟩
          · omega
          · exact ⟨z, lone (fun _ w => by omega)⟩
        · have nd : cu_need μ f := n2.1 (by omega)
          rw [x5 f fN] at q2
          rcases p3 with ⟨z1, z2, z3⟩ | ⟨z1, _⟩
          · exact ⟨nd, z2, by rw [← tN]; exact z3⟩
          · have := z1 nd
            rw [if_pos ⟨this.1, this.2.1⟩] at q2; omega
  -- no blocks at first
  refine ma_cnt (σ := ma_M) (N := μ 3 0 10) (P := fun i W => ∀ u2 : ma_V, R 53 [ma_Rf 69 0, ma_I i, u2] [] 0 W) (I := fun i W => (∀ c : Nat, c ≠ 81 → W c = m1 c) ∧ (∀ x : Int, 0 ≤ x → x < i → W 81 0 x = -1)) ?_ ?_ 0 m1 (by omega) (by omega) ⟨fun _ _ => rfl, fun x x0 x1 => by omega⟩ _
  · intro i W i0 i1 ⟨w1, w2⟩ ih u2
    have e8 : W 69 0 8 = μ 3 0 10 := by rw [w1 69 (by decide), b2 8 (by decide) (by decide)]; exact n8
    refine s_LatticefitModel_map_53 hR ⟨fun q => by omega, fun _ => ⟨by omega, by omega, ih _ ⟨fun c hc => by rw [ma_up_ck hc]; exact w1 c hc, fun x x0 x1 => ?_⟩ _⟩⟩
    by_cases e : x = i
    · rw [e, ma_up_eq]
    · rw [ma_up_ne (by omega)]; exact w2 x x0 (by omega)
  · intro W ⟨w1, w2⟩ u2
    have e8 : W 69 0 8 = μ 3 0 10 := by rw [w1 69 (by decide), b2 8 (by decide) (by decide)]; exact n8
    refine s_LatticefitModel_map_53 hR ⟨fun _ => ?_, fun q => by omega⟩
    refine l76 N 0 0 _ W (by omega) (by omega) (fun j j0 j1 => ?_) (fun c _ c2 _ _ _ _ _ _ => w1 c c2) (fun f _ => by rw [w1 69 (by decide)]) (by rw [w1 69 (by decide)]; exact b4) (fun b b0 b1 => by omega) (fun x hx => by rw [if_neg (by omega)]; exact w2 x (by omega) hx)
    have := hr j j0 j1
    omega
