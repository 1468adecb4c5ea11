/-! how many blocks there would be; the reference maps -/
theorem cu_fed_ex {μ : ma_M} (x : Nat) : (∃ r : Nat, (r : Int) < μ 3 0 10 ∧ μ 4 0 r = 114 ∧ μ 7 0 r = x) ↔ cu_fed μ x :=
  ⟨fun ⟨r, a, b, c⟩ => ⟨r, by omega, a, b, c⟩, fun ⟨i, a, b, c, e⟩ => ⟨i.toNat, by omega, by rw [show ((i.toNat : Nat) : Int) = i from by omega]; exact ⟨c, e⟩⟩⟩
theorem sp_blocksThen {LS d : Nat} {Post : ma_R → ma_M → Prop} {μ : ma_M} {u : Int → Int} (H : rl_c μ) (hu : cu_blk μ u)
    (h : ∀ m : ma_M, (∀ c : Nat, c ≠ 78 → c ≠ 79 → c ≠ 80 → c ≠ 82 → m c = μ c) → cu_MM (μ 70 0) (μ 71 0) (μ 72 0) m (μ 3 0 10).toNat → cu_row82 μ m → Post (.inl (some (ma_I (μ 3 0 12 + ma_sum u (μ 3 0 10).toNat)))) m) :
    ma_Ox LS (d + 61) mi_LatticefitModel_blocksThen [ma_Rf 69 0] μ Post := by
  have HC := H
  obtain ⟨N0, N1, I0, I1, R0, R1, O0, O1, n8, n9, n10, n11, hn, hi, hr, _, hrj, hoo⟩ := HC
  obtain ⟨N, eN⟩ : ∃ N : Nat, μ 3 0 10 = (N : Int) := ⟨(μ 3 0 10).toNat, by omega⟩
  have tN : (μ 3 0 10).toNat = N := by omega
  refine gi_LatticefitModel_blocksThen (fun R hR => s_LatticefitModel_blocksThen_0 (d := d + 55) hR (sp_neededGates H (fun m hf hM hm => ?_)))
  have e69 : ∀ f : Int, m 69 0 f = μ 69 0 f := fun f => by rw [hf 69 (by decide) (by decide) (by decide) (by decide)]
  have mr := ma_sum_rng (f := m 82 0) (b := 1) N (fun k a c => by have := (hm k.toNat (by omega)).1; rw [show ((k.toNat : Nat) : Int) = k from by omega] at this; omega)
  refine k_LatticefitModel_blocksThen_1 hR ⟨by rw [e69, n10, tN]; omega, ?_⟩
  rw [e69, n10, tN]
  -- per node
  have pt : ∀ x : Nat, x < N → (m 82 0 x = 0 ∧ u x = 0) ∨ (m 82 0 x = 1 ∧ u x = 1 ∧ ¬ cu_fed μ x) ∨ (m 82 0 x = 1 ∧ u x = 0 ∧ cu_fed μ x) := by
    intro x hx
    obtain ⟨a1, a2⟩ := hm x (by omega)
    obtain ⟨b1, b2⟩ := hu x (by omega)
    by_cases f : cu_fed μ x
    · have ux : u x = 0 := by rcases b1 with z | z; exact z; exact absurd f (b2.1 z).2
      rcases a1 with z | z
      · exact .inl ⟨z, ux⟩
      · exact .inr (.inr ⟨z, ux, f⟩)
    · rcases a1 with z | z
      · refine .inl ⟨z, ?_⟩
        rcases b1 with w | w
        · exact w
        · have := a2.2 (b2.1 w).1; omega
      · exact .inr (.inl ⟨z, b2.2 ⟨a2.1 z, f⟩, f⟩)
  have lp : ∀ (k i : Nat) (v : Int) (u3 u4 : ma_V), i + k = N → v + ma_sum (m 82 0) i = μ 3 0 12 + ma_sum (m 82 0) N + ma_sum u i → 0 ≤ ma_sum u i → ma_sum u i ≤ i → R 12 [ma_Rf 69 0, ma_I v, ma_I i, u3, u4] [] 0 m := by
    intro k
    induction k with
    | zero =>
      intro i v u3 u4 hi hv _ _
      have ei : i = N := by omega
      subst ei
      refine s_LatticefitModel_blocksThen_12 hR ⟨fun _ => ?_, fun q => by rw [e69, n8] at q; omega⟩
      have := h m hf hM hm
      rw [tN] at this
      rw [show v = μ 3 0 12 + ma_sum u i from by omega]; exact this
    | succ k ih =>
      intro i v u3 u4 hi hv s0 s1
      have iN : i < N := by omega
      have e82 : ma_sum (m 82 0) (i + 1) = ma_sum (m 82 0) i + m 82 0 i := rfl
      have eu : ma_sum u (i + 1) = ma_sum u i + u i := rfl
      have mri := ma_sum_rng (f := m 82 0) (b := 1) i (fun k a c => by have := (hm k.toNat (by omega)).1; rw [show ((k.toNat : Nat) : Int) = k from by omega] at this; omega)
      refine s_LatticefitModel_blocksThen_12 hR ⟨fun q => by rw [e69, n8] at q; omega, fun _ => ?_⟩
      -- the inner loop
      have inner : ∀ (k' j : Nat) (b : Int), j + k' = N → (b = 0 ∨ b = 1) → (b = 1 ↔ ∃ r : Nat, r < j ∧ μ 4 0 r = 114 ∧ μ 7 0 r = i) → R 25 [ma_Rf 69 0, ma_I v, ma_I i, ma_I b, ma_I j] [] 0 m := by
        intro k'
        induction k' with
        | zero =>
          intro j b hj hb hb2
          have fd : b = 1 ↔ cu_fed μ i := by
            rw [← cu_fed_ex, hb2]
            exact ⟨fun ⟨r, a, z⟩ => ⟨r, by omega, z⟩, fun ⟨r, a, z⟩ => ⟨r, by omega, z⟩⟩
          have nx : ∀ w : Int, w = v - (m 82 0 i - u i) → R 12 [ma_Rf 69 0, ma_I w, ma_I ((i : Int) + 1), ma_U, ma_U] [] 0 m := by
            intro w hw
            rw [show ((i : Nat) : Int) + 1 = ((i + 1 : Nat) : Int) from by omega]
            have := pt i iN
            exact ih (i + 1) w _ _ (by omega) (by rw [e82, eu]; omega) (by rw [eu]; omega) (by rw [eu]; omega)
          have p := pt i iN
          refine s_LatticefitModel_blocksThen_25 hR ⟨fun _ => ⟨by omega, fun q => ⟨by omega, by omega, nx _ ?_⟩, fun q => ⟨fun q2 => ⟨by omega, by omega, nx _ ?_⟩, fun q2 => ⟨by omega, by omega, nx _ ?_⟩⟩⟩, fun q => by rw [e69, n8] at q; omega⟩
          · rcases p with p | p | p <;> omega
          · have nf : ¬ cu_fed μ i := fun z => by have := fd.2 z; omega
            rcases p with p | p | p
            · omega
            · omega
            · exact absurd p.2.2 nf
          · have ff : cu_fed μ i := fd.1 (by omega)
            rcases p with p | p | p
            · omega
            · exact absurd ff p.2.2
            · omega
        | succ k' ih' =>
          intro j b hj hb hb2
          have jN : (j : Int) < μ 3 0 10 := by omega
          obtain ⟨g1, g2, _, g4, _⟩ := hn j (by omega) jN
          have e70 : m 70 0 j = μ 4 0 j := by rw [hf 70 (by decide) (by decide) (by decide) (by decide)]; exact g1
          have o00 : ma_or 0 0 = 0 := by decide
          have o10 : ma_or 1 0 = 1 := by decide
          have o01 : ma_or 0 1 = 1 := by decide
          have o11 : ma_or 1 1 = 1 := by decide
          have nx : ¬ (μ 4 0 j = 114 ∧ μ 7 0 j = i) → R 25 [ma_Rf 69 0, ma_I v, ma_I i, ma_I (ma_or b 0), ma_I ((j : Int) + 1)] [] 0 m := by
            intro hno
            rw [show ma_or b 0 = b from by rcases hb with z | z <;> rw [z] <;> assumption, show ((j : Nat) : Int) + 1 = ((j + 1 : Nat) : Int) from by omega]
            refine ih' (j + 1) b (by omega) hb (hb2.trans ⟨fun ⟨r, a, z⟩ => ⟨r, by omega, z⟩, fun ⟨r, a, z⟩ => ⟨r, ?_, z⟩⟩)
            by_cases e : r = j
            · rw [e] at z; exact absurd z hno
            · omega
          refine s_LatticefitModel_blocksThen_25 hR ⟨fun q => by rw [e69, n8] at q; omega, fun _ => ⟨by omega, fun q => ⟨by omega, nx (fun z => q (by rw [e70]; exact z.1))⟩, fun q => ?_⟩⟩
          rw [e70] at q
          have e74 : m 74 0 j = μ 7 0 j := by rw [hf 74 (by decide) (by decide) (by decide) (by decide)]; exact (g4 q).1
          rw [e74]
          refine ⟨fun q2 => ⟨by omega, nx (fun z => q2 z.2)⟩, fun q2 => ⟨by omega, ?_⟩⟩
          rw [show ma_or b 1 = 1 from by rcases hb with z | z <;> rw [z] <;> assumption, show ((j : Nat) : Int) + 1 = ((j + 1 : Nat) : Int) from by omega]
          exact ih' (j + 1) 1 (by omega) (.inr rfl) ⟨fun _ => ⟨j, by omega, q, q2⟩, fun _ => rfl⟩
      exact inner N 0 0 (by omega) (.inl rfl) ⟨fun z => absurd z (by decide), fun ⟨r, a, _⟩ => absurd a (Nat.not_lt_zero r)⟩
  exact lp N 0 _ _ _ (by omega) (by rw [show ma_sum (m 82 0) 0 = 0 from rfl, show ma_sum u 0 = 0 from rfl]; omega) (Int.le_refl 0) (Int.le_refl 0)
/-- the cuts in the reference's rows are the class's -/
theorem cu_own78 {μ m : ma_M} (H : rl_c μ) (hM : cu_MM (μ 70 0) (μ 71 0) (μ 72 0) m (μ 3 0 10).toNat) (n : Nat) (a : (n : Int) < μ 3 0 10) : m 78 0 ((n : Int) * 7) = (cu_own μ n : Int) := by
  have g := cu_T_of H n a
  have e : cu_own μ n = (cu_T (μ 70 0) (μ 71 0) (μ 72 0) (μ 3 0 10).toNat n).1.2 0 := by unfold cu_own; rw [cu_T_ref H]
  rw [← cu_T_ref H] at g
  have := (hM n (by omega)).1.2 0 g.pos
  rw [show ((n * 7 + 0 : Nat) : Int) = (n : Int) * 7 from by omega] at this
  rw [e]; exact this
