/-! anneal, both -/
theorem an_xx {c : Int} {s : an_Pl} {a b : Int} (H : cu_pl c s.1 s.2) (a0 : 0 ≤ a) (a1 : a < 36) (b0 : 0 ≤ b) (b1 : b < 36) : an_x (an_x s a b) a b = s := by
  obtain ⟨p, q⟩ := s
  simp only at H
  have A := H.2 a a0 a1
  have B := H.2 b b0 b1
  have pa : cu_xp p a b a = p b := by
    unfold cu_xp
    by_cases e : a = b
    · rw [if_pos e, e]
    · rw [if_neg e, if_pos rfl]
  have pb : cu_xp p a b b = p a := by unfold cu_xp; rw [if_pos rfl]
  unfold an_x
  refine Prod.ext ?_ ?_
  · funext x
    show cu_xp (cu_xp p a b) a b x = p x
    by_cases e : x = b
    · rw [e]; show (if b = b then cu_xp p a b a else _) = _; rw [if_pos rfl, pa]
    · by_cases e2 : x = a
      · rw [e2] at e ⊢; show (if a = b then _ else if a = a then cu_xp p a b b else _) = _; rw [if_neg e, if_pos rfl, pb]
      · show (if x = b then _ else if x = a then _ else (if x = b then _ else if x = a then _ else p x)) = _
        rw [if_neg e, if_neg e2, if_neg e, if_neg e2]
  · funext k
    show cu_xq (cu_xp p a b) (cu_xq p q a b) a b k = q k
    unfold cu_xq
    rw [pa, pb]
    by_cases e1 : 0 ≤ p b ∧ k = p b
    · rw [if_pos e1, e1.2, B.2.2 e1.1]
    · rw [if_neg e1]
      by_cases e2 : 0 ≤ p a ∧ k = p a
      · rw [if_pos e2, e2.2, A.2.2 e2.1]
      · rw [if_neg e2, if_neg e2, if_neg e1]
theorem an_N0 {μ : ma_M} {x : Int} {g : Nat → Bool} (x0 : 0 ≤ x) (x1 : x < 2147483648) (H : cu_pl (μ 21 0 7) (μ 33 0) (μ 32 0)) : ∀ i, an_N μ x g i = 0 → an_S μ x g i = (μ 33 0, μ 32 0)
  | 0, _ => rfl
  | i + 1, h => by
    have nr := (an_N_rng μ x g i).1
    rw [an_N_succ] at h
    have r := an_X_rng x0 x1 i
    have r1 := cu_nx_rng r.1 r.2
    have r2 := cu_nx_rng r1.1 r1.2
    have c := cu_tl_rng r1.1 r1.2
    have d := cu_tl_rng r2.1 r2.2
    by_cases e : an_can μ (an_S μ x g i).1 (an_c x i) (an_d x i) ∧ g i = true
    · rw [if_pos e] at h; omega
    · rw [if_neg e] at h
      have ih := an_N0 (g := g) x0 x1 H i (by omega)
      rw [an_S_succ]
      split
      · rename_i hc
        rw [if_neg (fun z => e ⟨hc, z⟩)]
        exact (an_xx (a := an_c x i) (b := an_d x i) (an_S_pl x0 x1 H i) c.1 c.2 d.1 d.2).trans ih
      · exact ih
theorem pr_anneal {LS d : Nat} {μ : ma_M} (H : Rel μ) {v1 v2 v3 : Int} (hv : v1 < 2147483648) : Pr LS d mi_LatticefitLaw_anneal [ma_Rf 2 0, ma_I v1, ma_I v2, ma_I v3, ma_Rf 111 0] mi_LatticefitModel_anneal [ma_Rf 69 0, ma_I v1, ma_I v2, ma_I v3] agI μ := by
  intro Post hP
  obtain ⟨Hc, Hs, Hz, Hu, Hm, Hr, Hf, Hk⟩ := id H
  obtain ⟨S0, S4, s26, s27, s28, s29⟩ := id Hs
  have T1 := Rel_thrown H 1
  have T2 := Rel_thrown (Rel_thrown H 0) 2
  refine gi_LatticefitLaw_anneal (fun R hR => s_LatticefitLaw_anneal_0 (d := d + 5) hR ?_)
  refine gi_Latticefit_anneal (fun R2 hR2 => s_Latticefit_anneal_0 (d := d + 5) hR2 ?_)
  have L1 : (v1 < 0 ∨ v2 < 1 ∨ 200 < v2 ∨ v3 < 1 ∨ 50 < v3) → ma_ct (ma_Ox LS (d + 5 + 6)) (LS, [(0, 12, 15, 1), (0, 12, 19, 0)], 1, 2) 7 [ma_Rf 2 0, ma_I v1, ma_I v2, ma_I v3, ma_Rf 111 0, ma_U] [ma_I 0, ma_Rf 111 0] 2 mt_LatticefitLaw_anneal_10 R (ma_DD (LS, [(0, 12, 15, 1), (0, 12, 19, 0)], 1, 2) Post) (.inr 1) μ := by
    intro hc
    show R 15 [ma_Rf 2 0, ma_I v1, ma_I v2, ma_I v3, ma_Rf 111 0, ma_U] [ma_X 1] 2 μ
    refine g_LatticefitLaw_anneal_15 hR ⟨Nat.le_refl 2, hP 1 μ (fun Post2 h2 => ?_)⟩
    have fin := h2 (ma_I 0) _ T1 ma_up_eq (fun z => by omega)
    refine gi_LatticefitModel_anneal (fun R3 hR3 => s_LatticefitModel_anneal_0 (d := d + 7) hR3 ⟨fun _ => fin, fun a => ⟨fun _ => fin, fun b => ⟨fun _ => fin, fun c => ⟨fun _ => fin, fun e => ⟨fun _ => fin, fun f => ?_⟩⟩⟩⟩⟩)
    exfalso; omega
  have L0 : μ 2 0 10 < 1 → 0 ≤ v1 → 1 ≤ v2 → v2 ≤ 200 → 1 ≤ v3 → v3 ≤ 50 → ma_ct (ma_Ox LS (d + 5 + 6)) (LS, [(0, 12, 15, 1), (0, 12, 19, 0)], 1, 2) 7 [ma_Rf 2 0, ma_I v1, ma_I v2, ma_I v3, ma_Rf 111 0, ma_U] [ma_I 0, ma_Rf 111 0] 2 mt_LatticefitLaw_anneal_10 R (ma_DD (LS, [(0, 12, 15, 1), (0, 12, 19, 0)], 1, 2) Post) (.inr 0) μ := by
    intro st a b c e f
    show R 19 [ma_Rf 2 0, ma_I v1, ma_I v2, ma_I v3, ma_Rf 111 0, ma_U] [ma_X 0] 2 μ
    refine g_LatticefitLaw_anneal_19 hR ⟨Nat.le_refl 2, hP 2 μ (fun Post2 h2 => ?_)⟩
    have fin := h2 (ma_I 0) _ T2 ma_up_eq (fun z => by omega)
    exact gi_LatticefitModel_anneal (fun R3 hR3 => s_LatticefitModel_anneal_0 (d := d + 7) hR3 ⟨fun _ => by omega, fun _ => ⟨fun _ => by omega, fun _ => ⟨fun _ => by omega, fun _ => ⟨fun _ => by omega, fun _ => ⟨fun _ => by omega, fun _ => ⟨fun q => absurd (by rw [s26, if_neg (by omega)]) q, fun _ => fin⟩⟩⟩⟩⟩⟩)
  refine ⟨fun q => L1 (.inl q), fun a => ⟨fun q => L1 (.inr (.inl q)), fun b => ⟨fun q => L1 (.inr (.inr (.inl q))), fun c => ⟨fun q => L1 (.inr (.inr (.inr (.inl q)))), fun e => ⟨fun f => ⟨fun st => ?_, fun st => L0 st a b c e f⟩, fun q => L1 (.inr (.inr (.inr (.inr q))))⟩⟩⟩⟩⟩
  obtain ⟨Hmm, Hpp⟩ := Hm st
  have Hl := cu_pl_of Hpp
  obtain ⟨n, en⟩ : ∃ n : Nat, v2 = (n : Int) := ⟨v2.toNat, by omega⟩
  subst en
  refine sp_swapByChance (d := d + 5) Hc Hmm Hpp a hv e f (by omega) (fun g m ok hat => k_Latticefit_anneal_47 hR2 ?_)
  have nr := an_N_rng μ v1 g n
  have pl := an_S_pl (g := g) a hv Hl n
  -- behind the class's call
  have go : ∀ M0 : ma_M, (∀ k : Nat, k ≠ 2 → M0 k = m k) → M0 2 0 10 = (if 0 < an_N μ v1 g n then 1 else μ 2 0 10) → ma_ct (ma_Ox LS (d + 5 + 6)) (LS, [(0, 12, 15, 1), (0, 12, 19, 0)], 1, 2) 7 [ma_Rf 2 0, ma_I v1, ma_I (n : Int), ma_I v3, ma_Rf 111 0, ma_U] [ma_I 0, ma_Rf 111 0] 2 mt_LatticefitLaw_anneal_10 R (ma_DD (LS, [(0, 12, 15, 1), (0, 12, 19, 0)], 1, 2) Post) (.inl (some (ma_I (an_N μ v1 g n)))) M0 := by
    intro M0 hM0 hst
    refine k_LatticefitLaw_anneal_7 hR ⟨by omega, hP 0 _ (fun Post2 h2 => ?_)⟩
    have b1 : ∀ k : Nat, k ≠ 2 → k ≠ 111 → (ma_up M0 111 0 0 (an_N μ v1 g n)) k = m k := fun k k1 k2 => by rw [ma_up_ck k2]; exact hM0 k k1
    have b2 : (ma_up M0 111 0 0 (an_N μ v1 g n)) 111 0 0 = an_N μ v1 g n := ma_up_eq
    have b3 : (ma_up M0 111 0 0 (an_N μ v1 g n)) 2 0 10 = (if 0 < an_N μ v1 g n then 1 else μ 2 0 10) := by rw [ma_up_ck (by decide)]; exact hst
    generalize ma_up M0 111 0 0 (an_N μ v1 g n) = M at b1 b2 b3 ⊢
    obtain ⟨h1, h33, h32, h32r⟩ := hat
    have m69 : m 69 = μ 69 := h1 69 (by decide) (by decide) (by decide) (by decide) (by decide) (by decide) (by decide)
    have bs : cu_bs μ M := ⟨fun k k1 k2 k3 k4 k5 k6 k7 k8 k9 k10 => by rw [b1 k k1 k10]; exact h1 k k2 k3 k4 k5 k6 k7 k8, fun f _ => by rw [b1 69 (by decide) (by decide), m69], fun r x hr => by rw [b1 32 (by decide) (by decide)]; exact h32r r x hr⟩
    have e26 : μ 69 0 26 = 1 := by rw [s26, if_pos st]
    refine sp_refann (d := d + 7) bs Hc Hmm Hpp e26 a hv e f (by omega) (by omega) ok (fun m5 r1 r2 r3 r4 r5 r6 r7 r8 => ?_)
    have g1 : ∀ k : Nat, k ≠ 2 → k ≠ 32 → k ≠ 33 → k ≠ 35 → k ≠ 36 → k ≠ 37 → k ≠ 38 → k ≠ 39 → k ≠ 69 → k ≠ 85 → k ≠ 89 → k ≠ 92 → k ≠ 93 → k ≠ 111 → m5 k = μ k := fun k k1 k2 k3 k4 k5 k6 k7 k8 k9 k10 k11 k12 k13 k14 => by rw [r1 k k9 k10 k11 k12 k13]; exact bs.1 k k1 k2 k3 k4 k5 k6 k7 k8 k9 k14
    have mk : ∀ (l : List Nat), (∀ k ∈ l, k ≠ 2 ∧ k ≠ 32 ∧ k ≠ 33 ∧ k ≠ 35 ∧ k ≠ 36 ∧ k ≠ 37 ∧ k ≠ 38 ∧ k ≠ 39 ∧ k ≠ 69 ∧ k ≠ 85 ∧ k ≠ 89 ∧ k ≠ 92 ∧ k ≠ 93 ∧ k ≠ 111) → ∀ k ∈ l, m5 k = μ k := fun l hl k hk => by
      obtain ⟨k1, k2, k3, k4, k5, k6, k7, k8, k9, k10, k11, k12, k13, k14⟩ := hl k hk
      exact g1 k k1 k2 k3 k4 k5 k6 k7 k8 k9 k10 k11 k12 k13 k14
    have fz : ∀ (l : List Int), (∀ f ∈ l, f ≠ 27 ∧ f ≠ 28 ∧ f ≠ 29 ∧ f ≠ 50) → ∀ f ∈ l, m5 69 0 f = μ 69 0 f := fun l hl f hf => by
      obtain ⟨f1, f2, f3, f4⟩ := hl f hf
      exact r2 f f1 f2 f3 f4
    have q2 : m5 2 0 10 = (if 0 < an_N μ v1 g n then 1 else μ 2 0 10) := by rw [r1 2 (by decide) (by decide) (by decide) (by decide) (by decide)]; exact b3
    have q33 : m5 33 0 = (an_S μ v1 g n).1 := by rw [r1 33 (by decide) (by decide) (by decide) (by decide) (by decide), b1 33 (by decide) (by decide)]; exact h33
    have q32 : m5 32 0 = (an_S μ v1 g n).2 := by rw [r1 32 (by decide) (by decide) (by decide) (by decide) (by decide), b1 32 (by decide) (by decide)]; exact h32
    have q21 : m5 21 = μ 21 := mk [21] (by decide) 21 (by decide)
    have q34 : m5 34 = μ 34 := mk [34] (by decide) 34 (by decide)
    have q90 : m5 90 = μ 90 := mk [90] (by decide) 90 (by decide)
    have st5 : 1 ≤ m5 2 0 10 := by rw [q2]; split <;> omega
    have same : 2 ≤ m5 2 0 10 → an_N μ v1 g n = 0 ∧ m5 2 0 10 = μ 2 0 10 := fun z => by
      rw [q2] at z ⊢
      by_cases w : 0 < an_N μ v1 g n
      · rw [if_pos w] at z; omega
      · rw [if_neg w]; exact ⟨by omega, rfl⟩
    refine h2 _ m5 ⟨rl_c_congr (mk _ (by decide)) (fz _ (by decide)) Hc, ?_, rl_z_congr (mk _ (by decide)) (fz _ (by decide)) Hz, fun e' e0 e1 => ?_, fun _ => ⟨rl_m_congr (mk _ (by decide)) (fz _ (by decide)) Hmm, ⟨fun k k0 k1 => ?_, fun x x0 x1 => ?_⟩⟩, fun z => ?_, fun z => ?_, fun z => ?_⟩ r3 (fun _ => ⟨_, rfl, by rw [r1 111 (by decide) (by decide) (by decide) (by decide) (by decide)]; exact b2⟩)
    · unfold rl_s
      rw [q2, r2 26 (by decide) (by decide) (by decide) (by decide), e26]
      by_cases w : 0 < an_N μ v1 g n
      · obtain ⟨w1, w2, w3⟩ := r4 w
        rw [if_pos w, w1, w2, w3]; decide
      · obtain ⟨w1, w2, w3⟩ := r5 w
        rw [if_neg w, w1, w2, w3]
        exact ⟨S0, S4, by rw [if_pos st], s27, s28, s29⟩
    · have := Hu e' e0 e1
      rw [if_pos st5, mk [96] (by decide) 96 (by decide), mk [44] (by decide) 44 (by decide)]
      rw [if_pos st] at this
      exact this
    · rw [q21] at k1
      have p := pl.1 k k0 k1
      have h0 := Hpp.1 k k0 k1
      rw [r8 k k0 k1, q32, q33, q90, q34]
      exact ⟨rfl, p.1, p.2.1, p.2.2, h0.2.2.2.2⟩
    · have p := pl.2 x x0 x1
      rw [r7 x x0 x1, q33, q32, q21]
      exact ⟨rfl, p⟩
    · obtain ⟨w1, w2⟩ := same z
      rw [w2] at z
      have rr := Hr z
      have s0 := an_N0 a hv Hl n w1
      have e32 : m5 32 = μ 32 := by
        funext r x
        by_cases er : r = 0
        · rw [er, q32, s0]
        · rw [r1 32 (by decide) (by decide) (by decide) (by decide) (by decide)]; exact bs.2.2 r x er
      refine cu_rl_r rr (fun k hk => ?_) (fun k k0 k1 => ?_)
      · by_cases ek : k = 32
        · rw [ek]; exact e32
        · exact mk [3, 4, 10, 13, 21, 25, 27, 28, 42, 44, 91, 95] (by decide) k (by revert hk; simp only [List.mem_cons, List.not_mem_nil, or_false]; omega)
      · rcases r6 with w | w
        · rw [w]
        · have t := rr.1 k k0 k1
          have c1 := t.2.1
          have b := w k k0 k1
          rcases t.1 with y | y
          · rcases b.1 with y' | y'
            · rw [y, y']
            · have := c1.2 (b.2.1 y'); omega
          · rw [y, b.2.2 (c1.1 y)]
    · obtain ⟨w1, w2⟩ := same (by omega)
      rw [w2] at z
      exact rl_f_congr (mk _ (by decide)) (Hf z)
    · obtain ⟨w1, w2⟩ := same (by omega)
      rw [w2] at z
      exact rl_k_congr (mk _ (by decide)) (fz _ (by decide)) (Hk z)
  have m2 : m 2 = μ 2 := hat.1 2 (by decide) (by decide) (by decide) (by decide) (by decide) (by decide) (by decide)
  refine ⟨fun z => go m (fun _ _ => rfl) (by rw [if_neg (by omega), m2]), fun z => go _ (fun k hk => ma_up_ck hk) (by rw [if_pos z, ma_up_eq])⟩
