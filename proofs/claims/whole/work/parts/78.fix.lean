/-! fix -/
theorem pr_fix {LS d : Nat} {μ : ma_M} (H : Rel μ) {v1 v2 : Int} : Pr LS d mi_LatticefitLaw_fix [ma_Rf 2 0, ma_I v1, ma_I v2, ma_Rf 111 0] mi_LatticefitModel_fix [ma_Rf 69 0, ma_I v1, ma_I v2] agI μ := by
  intro Post hP
  obtain ⟨Hc, Hs, Hz, Hu, Hm, Hr, Hf, Hk⟩ := id H
  obtain ⟨S0, S4, s26, s27, s28, s29⟩ := id Hs
  have T1 := Rel_thrown H 1
  have T2 := Rel_thrown (Rel_thrown H 0) 2
  have T3 := Rel_thrown (Rel_thrown (Rel_thrown H 0) 0) 3
  -- what both know of the places
  have mp : 1 ≤ μ 2 0 10 → (0 ≤ μ 21 0 7 ∧ μ 21 0 7 ≤ 36) ∧ μ 69 0 25 = μ 21 0 7 ∧ μ 69 0 26 = 1 := fun st => ⟨⟨(Hm st).1.1, (Hm st).1.2.1⟩, (Hm st).1.2.2.1, by rw [s26, if_pos st]⟩
  have np : ¬ 1 ≤ μ 2 0 10 → μ 69 0 26 = 0 := fun st => by rw [s26, if_neg st]
  refine gi_LatticefitLaw_fix (fun R hR => s_LatticefitLaw_fix_0 (d := d + 7) hR ?_)
  refine gi_Latticefit_fix (fun R2 hR2 => s_Latticefit_fix_0 (d := d + 7) hR2 ?_)
  have L2 : (v2 < 0 ∨ 36 ≤ v2 ∨ (1 ≤ μ 2 0 10 ∧ (v1 < 0 ∨ μ 21 0 7 ≤ v1))) → ma_ct (ma_Ox LS (d + 7 + 4)) (LS, [(0, 10, 13, 2), (0, 10, 17, 0), (0, 10, 21, 3)], 1, 2) 5 [ma_Rf 2 0, ma_I v1, ma_I v2, ma_Rf 111 0, ma_U] [ma_I 0, ma_Rf 111 0] 2 mt_LatticefitLaw_fix_8 R (ma_DD (LS, [(0, 10, 13, 2), (0, 10, 17, 0), (0, 10, 21, 3)], 1, 2) Post) (.inr 2) μ := by
    intro hc
    show R 13 [ma_Rf 2 0, ma_I v1, ma_I v2, ma_Rf 111 0, ma_U] [ma_X 2] 2 μ
    refine g_LatticefitLaw_fix_13 hR ⟨Nat.le_refl 2, hP 1 μ (fun Post2 h2 => ?_)⟩
    have fin := h2 (ma_I 0) _ T1 ma_up_eq (fun z => by omega)
    refine gi_LatticefitModel_fix (fun R3 hR3 => s_LatticefitModel_fix_0 (d := d + 7) hR3 ⟨fun _ => fin, fun a => ⟨fun _ => fin, fun b => ⟨fun c => ?_, fun c => ?_⟩⟩⟩)
    · exfalso
      by_cases st : 1 ≤ μ 2 0 10
      · have := mp st; omega
      · omega
    · have st : 1 ≤ μ 2 0 10 := by
        by_cases st : 1 ≤ μ 2 0 10
        · exact st
        · exact absurd (np st) c
      have := mp st
      exact ⟨by omega, fun _ => fin, fun a1 => ⟨fun _ => fin, fun b1 => by omega⟩⟩
  have L0 : 0 ≤ v2 → v2 < 36 → μ 2 0 10 < 1 → ma_ct (ma_Ox LS (d + 7 + 4)) (LS, [(0, 10, 13, 2), (0, 10, 17, 0), (0, 10, 21, 3)], 1, 2) 5 [ma_Rf 2 0, ma_I v1, ma_I v2, ma_Rf 111 0, ma_U] [ma_I 0, ma_Rf 111 0] 2 mt_LatticefitLaw_fix_8 R (ma_DD (LS, [(0, 10, 13, 2), (0, 10, 17, 0), (0, 10, 21, 3)], 1, 2) Post) (.inr 0) μ := by
    intro a b st
    show R 17 [ma_Rf 2 0, ma_I v1, ma_I v2, ma_Rf 111 0, ma_U] [ma_X 0] 2 μ
    refine g_LatticefitLaw_fix_17 hR ⟨Nat.le_refl 2, hP 2 μ (fun Post2 h2 => ?_)⟩
    have fin := h2 (ma_I 0) _ T2 ma_up_eq (fun z => by omega)
    exact gi_LatticefitModel_fix (fun R3 hR3 => s_LatticefitModel_fix_0 (d := d + 7) hR3 ⟨fun _ => by omega, fun _ => ⟨fun _ => by omega, fun _ => ⟨fun _ => fin, fun c => absurd (np (by omega)) c⟩⟩⟩)
  have L3 : 0 ≤ v2 → v2 < 36 → 1 ≤ μ 2 0 10 → 0 ≤ v1 → v1 < μ 21 0 7 → (¬ μ 34 0 v1 = 0 ∨ (0 ≤ μ 33 0 v2 ∧ ¬ μ 34 0 (μ 33 0 v2) = 0)) → ma_ct (ma_Ox LS (d + 7 + 4)) (LS, [(0, 10, 13, 2), (0, 10, 17, 0), (0, 10, 21, 3)], 1, 2) 5 [ma_Rf 2 0, ma_I v1, ma_I v2, ma_Rf 111 0, ma_U] [ma_I 0, ma_Rf 111 0] 2 mt_LatticefitLaw_fix_8 R (ma_DD (LS, [(0, 10, 13, 2), (0, 10, 17, 0), (0, 10, 21, 3)], 1, 2) Post) (.inr 3) μ := by
    intro a b st c e hx
    have m := mp st
    have pb := (Hm st).2.1 v1 c e
    have pc := (Hm st).2.2 v2 a b
    show R 21 [ma_Rf 2 0, ma_I v1, ma_I v2, ma_Rf 111 0, ma_U] [ma_X 3] 2 μ
    refine g_LatticefitLaw_fix_21 hR ⟨Nat.le_refl 2, hP 3 μ (fun Post2 h2 => ?_)⟩
    have fin := h2 (ma_I 0) _ T3 ma_up_eq (fun z => by omega)
    refine gi_LatticefitModel_fix (fun R3 hR3 => s_LatticefitModel_fix_0 (d := d + 7) hR3 ⟨fun _ => by omega, fun _ => ⟨fun _ => by omega, fun _ => ⟨fun _ => by omega, fun _ => ⟨by omega, fun _ => by omega, fun _ => ⟨fun _ => by omega, fun _ => ⟨by omega, fun _ => fin, fun q => ?_⟩⟩⟩⟩⟩⟩)
    rw [pb.2.2.2.2.1] at q
    rcases hx with hx | ⟨hx1, hx2⟩
    · exact absurd q hx
    · refine ⟨by omega, fun z => by omega, fun z => ⟨by omega, fun w => ?_, fun _ => fin⟩⟩
      rw [pc.1, ((Hm st).2.1 (μ 33 0 v2) hx1 pc.2.2.1).2.2.2.2.1] at w
      exact absurd w hx2
  -- all well
  have ok : 0 ≤ v2 → v2 < 36 → 1 ≤ μ 2 0 10 → 0 ≤ v1 → v1 < μ 21 0 7 → μ 34 0 v1 = 0 → (0 ≤ μ 33 0 v2 → μ 34 0 (μ 33 0 v2) = 0) → ma_Ox LS (d + 7 + 3) mi_Places_findLengths [ma_Rf 31 0] (ma_up (ma_up (cu_xm 33 32 μ (μ 32 0 v1) v2) 34 0 v1 1) 2 0 10 1) (ma_ct (ma_Ox LS (d + 7 + 3)) (LS, [], 1, 2) 87 [ma_Rf 2 0, ma_I v1, ma_I v2] [] 1 mt_Latticefit_fix_90 R2 (ma_DD (LS, [], 1, 2) (ma_ct (ma_Ox LS (d + 7 + 4)) (LS, [(0, 10, 13, 2), (0, 10, 17, 0), (0, 10, 21, 3)], 1, 2) 5 [ma_Rf 2 0, ma_I v1, ma_I v2, ma_Rf 111 0, ma_U] [ma_I 0, ma_Rf 111 0] 2 mt_LatticefitLaw_fix_8 R (ma_DD (LS, [(0, 10, 13, 2), (0, 10, 17, 0), (0, 10, 21, 3)], 1, 2) Post)))) := by
    intro a b st c e f34 fo
    obtain ⟨Hmm, Hpp⟩ := Hm st
    have Hl := cu_pl_of Hpp
    have pb := Hl.1 v1 c e
    have m := mp st
    have Hl1 := cu_pl_x Hl pb.1 pb.2.1 a b
    obtain ⟨x1, x2, x3, x4⟩ := cu_xm_rd (kp := 33) (kq := 32) (by decide) (μ := μ) (a := μ 32 0 v1) (b := v2)
    have c1 : ∀ k : Nat, k ≠ 2 → k ≠ 32 → k ≠ 33 → k ≠ 34 → (ma_up (ma_up (cu_xm 33 32 μ (μ 32 0 v1) v2) 34 0 v1 1) 2 0 10 1) k = μ k := fun k k1 k2 k3 k4 => by rw [ma_up_ck k1, ma_up_ck k4, x3 k k3 k2]
    have c33 : ∀ x : Int, (ma_up (ma_up (cu_xm 33 32 μ (μ 32 0 v1) v2) 34 0 v1 1) 2 0 10 1) 33 0 x = cu_xp (μ 33 0) (μ 32 0 v1) v2 x := fun x => by rw [ma_up_ck (by decide), ma_up_ck (by decide)]; exact x1 x
    have c32 : ∀ x : Int, (ma_up (ma_up (cu_xm 33 32 μ (μ 32 0 v1) v2) 34 0 v1 1) 2 0 10 1) 32 0 x = cu_xq (μ 33 0) (μ 32 0) (μ 32 0 v1) v2 x := fun x => by rw [ma_up_ck (by decide), ma_up_ck (by decide)]; exact x2 x
    have c34 : ∀ x : Int, (ma_up (ma_up (cu_xm 33 32 μ (μ 32 0 v1) v2) 34 0 v1 1) 2 0 10 1) 34 0 x = if x = v1 then 1 else μ 34 0 x := fun x => by
      rw [ma_up_ck (by decide)]
      by_cases q : x = v1
      · rw [q, ma_up_eq, if_pos rfl]
      · rw [ma_up_ne (by omega), if_neg q, x3 34 (by decide) (by decide)]
    have c2 : (ma_up (ma_up (cu_xm 33 32 μ (μ 32 0 v1) v2) 34 0 v1 1) 2 0 10 1) 2 0 10 = 1 := ma_up_eq
    generalize ma_up (ma_up (cu_xm 33 32 μ (μ 32 0 v1) v2) 34 0 v1 1) 2 0 10 1 = A at c1 c33 c32 c34 c2 ⊢
    have A69 : A 69 = μ 69 := c1 69 (by decide) (by decide) (by decide) (by decide)
    have mkA : ∀ (l : List Nat), (∀ k ∈ l, k ≠ 2 ∧ k ≠ 32 ∧ k ≠ 33 ∧ k ≠ 34) → ∀ k ∈ l, A k = μ k := fun l hl k hk => by
      obtain ⟨y1, y2, y3, y4⟩ := hl k hk
      exact c1 k y1 y2 y3 y4
    have A21 : A 21 = μ 21 := c1 21 (by decide) (by decide) (by decide) (by decide)
    have HcA : rl_c A := rl_c_congr (mkA _ (by decide)) (fun f _ => by rw [A69]) Hc
    have HmA : rl_m A := rl_m_congr (mkA _ (by decide)) (fun f _ => by rw [A69]) Hmm
    have HqA : cu_q A := ⟨fun k k0 k1 => by
      rw [A21] at k1
      rw [c32]
      have := Hl1.1 k k0 k1
      exact ⟨trivial, this.1, this.2.1, trivial⟩, trivial⟩
    refine sp_findLengths (d := d + 7) HcA HmA HqA (fun m1 a1 a2 => k_Latticefit_fix_87 hR2 (k_LatticefitLaw_fix_5 hR ⟨by omega, hP 0 _ (fun Post2 h2 => ?_)⟩))
    have cst := cu_J_cost a2
    obtain ⟨v, ev⟩ : ∃ v : Int, v = ma_sum (fun n => m1 36 0 n - m1 35 0 n + m1 38 0 n - m1 37 0 n) (A 3 0 10).toNat := ⟨_, rfl⟩
    rw [← ev] at cst ⊢
    have b1 : ∀ k : Nat, k ≠ 35 → k ≠ 36 → k ≠ 37 → k ≠ 38 → k ≠ 111 → (ma_up m1 111 0 0 v) k = A k := fun k k1 k2 k3 k4 k5 => by rw [ma_up_ck k5]; exact a1 k k1 k2 k3 k4
    have b2 : (ma_up m1 111 0 0 v) 111 0 0 = v := ma_up_eq
    generalize ma_up m1 111 0 0 v = B at b1 b2 ⊢
    have B69 : B 69 = μ 69 := (b1 69 (by decide) (by decide) (by decide) (by decide) (by decide)).trans A69
    have Bc : ∀ k : Nat, 70 ≤ k → k ≠ 111 → B k = μ k := fun k k1 k2 => (b1 k (by omega) (by omega) (by omega) (by omega) k2).trans (c1 k (by omega) (by omega) (by omega) (by omega))
    have B85 : B 85 = μ 85 := Bc 85 (by decide) (by decide)
    have B89 : B 89 = μ 89 := Bc 89 (by decide) (by decide)
    have B90 : B 90 = μ 90 := Bc 90 (by decide) (by decide)
    have e85 : B 85 0 v1 = μ 32 0 v1 := by rw [B85]; exact (Hpp.1 v1 c e).1
    have e89 : ∀ x : Int, 0 ≤ x → x < 36 → B 89 0 x = μ 33 0 x := fun x x0 x1 => by rw [B89]; exact (Hpp.2 x x0 x1).1
    -- the memory at the reference's cost
    have T50 : ∀ k : Nat, k ≠ 69 → (ma_up (ma_up (ma_up B 69 0 50 0) 69 0 50 0) 69 0 50 0) k = B k := fun k hk => by rw [ma_up_ck hk, ma_up_ck hk, ma_up_ck hk]
    have key : ∀ Q : ma_R → ma_M → Prop, (∀ (w : Int) (m : ma_M), Post2 (.inl (some (ma_I w))) m → Q (.inl (some (ma_I w))) m) → ma_Ox LS (d + 7 + 4) mi_LatticefitModel_costNow [ma_Rf 69 0] (ma_up (ma_up (ma_up (ma_up (cu_xm 89 85 (ma_up (ma_up (ma_up B 69 0 50 0) 69 0 50 0) 69 0 50 0) (B 85 0 v1) v2) 90 0 v1 1) 69 0 27 0) 69 0 28 0) 69 0 29 0) Q := by
      intro Q hQ
      obtain ⟨y1, y2, y3, y4⟩ := cu_xm_rd (kp := 89) (kq := 85) (by decide) (μ := ma_up (ma_up (ma_up B 69 0 50 0) 69 0 50 0) 69 0 50 0) (a := B 85 0 v1) (b := v2)
      have z1 : ∀ k : Nat, k ≠ 69 → k ≠ 85 → k ≠ 89 → k ≠ 90 → (ma_up (ma_up (ma_up (ma_up (cu_xm 89 85 (ma_up (ma_up (ma_up B 69 0 50 0) 69 0 50 0) 69 0 50 0) (B 85 0 v1) v2) 90 0 v1 1) 69 0 27 0) 69 0 28 0) 69 0 29 0) k = B k := fun k k1 k2 k3 k4 => by rw [ma_up_ck k1, ma_up_ck k1, ma_up_ck k1, ma_up_ck k4, y3 k k3 k2, T50 k k1]
      have z89 : ∀ x : Int, (ma_up (ma_up (ma_up (ma_up (cu_xm 89 85 (ma_up (ma_up (ma_up B 69 0 50 0) 69 0 50 0) 69 0 50 0) (B 85 0 v1) v2) 90 0 v1 1) 69 0 27 0) 69 0 28 0) 69 0 29 0) 89 0 x = cu_xp (B 89 0) (μ 32 0 v1) v2 x := fun x => by rw [ma_up_ck (by decide), ma_up_ck (by decide), ma_up_ck (by decide), ma_up_ck (by decide), y1, T50 89 (by decide), e85]
      have z85 : ∀ x : Int, (ma_up (ma_up (ma_up (ma_up (cu_xm 89 85 (ma_up (ma_up (ma_up B 69 0 50 0) 69 0 50 0) 69 0 50 0) (B 85 0 v1) v2) 90 0 v1 1) 69 0 27 0) 69 0 28 0) 69 0 29 0) 85 0 x = cu_xq (B 89 0) (B 85 0) (μ 32 0 v1) v2 x := fun x => by rw [ma_up_ck (by decide), ma_up_ck (by decide), ma_up_ck (by decide), ma_up_ck (by decide), y2, T50 89 (by decide), T50 85 (by decide), e85]
      have z90 : ∀ x : Int, (ma_up (ma_up (ma_up (ma_up (cu_xm 89 85 (ma_up (ma_up (ma_up B 69 0 50 0) 69 0 50 0) 69 0 50 0) (B 85 0 v1) v2) 90 0 v1 1) 69 0 27 0) 69 0 28 0) 69 0 29 0) 90 0 x = if x = v1 then 1 else μ 90 0 x := fun x => by
        rw [ma_up_ck (by decide), ma_up_ck (by decide), ma_up_ck (by decide)]
        by_cases q : x = v1
        · rw [q, ma_up_eq, if_pos rfl]
        · rw [ma_up_ne (by omega), if_neg q, y3 90 (by decide) (by decide), T50 90 (by decide), B90]
      have z69 : ∀ f : Int, f ≠ 27 → f ≠ 28 → f ≠ 29 → f ≠ 50 → (ma_up (ma_up (ma_up (ma_up (cu_xm 89 85 (ma_up (ma_up (ma_up B 69 0 50 0) 69 0 50 0) 69 0 50 0) (B 85 0 v1) v2) 90 0 v1 1) 69 0 27 0) 69 0 28 0) 69 0 29 0) 69 0 f = μ 69 0 f := fun f f1 f2 f3 f4 => by
        rw [ma_up_ne (by omega), ma_up_ne (by omega), ma_up_ne (by omega), ma_up_ck (by decide), y3 69 (by decide) (by decide), ma_up_ne (by omega), ma_up_ne (by omega), ma_up_ne (by omega), B69]
      have z50 : (ma_up (ma_up (ma_up (ma_up (cu_xm 89 85 (ma_up (ma_up (ma_up B 69 0 50 0) 69 0 50 0) 69 0 50 0) (B 85 0 v1) v2) 90 0 v1 1) 69 0 27 0) 69 0 28 0) 69 0 29 0) 69 0 50 = 0 := by
        rw [ma_up_ne (by omega), ma_up_ne (by omega), ma_up_ne (by omega), ma_up_ck (by decide), y3 69 (by decide) (by decide), ma_up_eq]
      have z29 : (ma_up (ma_up (ma_up (ma_up (cu_xm 89 85 (ma_up (ma_up (ma_up B 69 0 50 0) 69 0 50 0) 69 0 50 0) (B 85 0 v1) v2) 90 0 v1 1) 69 0 27 0) 69 0 28 0) 69 0 29 0) 69 0 29 = 0 := ma_up_eq
      have z28 : (ma_up (ma_up (ma_up (ma_up (cu_xm 89 85 (ma_up (ma_up (ma_up B 69 0 50 0) 69 0 50 0) 69 0 50 0) (B 85 0 v1) v2) 90 0 v1 1) 69 0 27 0) 69 0 28 0) 69 0 29 0) 69 0 28 = 0 := by rw [ma_up_ne (by omega), ma_up_eq]
      have z27 : (ma_up (ma_up (ma_up (ma_up (cu_xm 89 85 (ma_up (ma_up (ma_up B 69 0 50 0) 69 0 50 0) 69 0 50 0) (B 85 0 v1) v2) 90 0 v1 1) 69 0 27 0) 69 0 28 0) 69 0 29 0) 69 0 27 = 0 := by rw [ma_up_ne (by omega), ma_up_ne (by omega), ma_up_eq]
      generalize ma_up (ma_up (ma_up (ma_up (cu_xm 89 85 (ma_up (ma_up (ma_up B 69 0 50 0) 69 0 50 0) 69 0 50 0) (B 85 0 v1) v2) 90 0 v1 1) 69 0 27 0) 69 0 28 0) 69 0 29 0 = Z at z1 z89 z85 z90 z69 z50 z29 z28 z27 ⊢
      clear y1 y2 y3 y4 T50
      have ZA : ∀ k : Nat, k < 69 → k ≠ 35 → k ≠ 36 → k ≠ 37 → k ≠ 38 → Z k = A k := fun k k0 k1 k2 k3 k4 => by rw [z1 k (by omega) (by omega) (by omega) (by omega)]; exact b1 k k1 k2 k3 k4 (by omega)
      have Zm : ∀ k : Nat, k ≠ 2 → k ≠ 32 → k ≠ 33 → k ≠ 34 → k ≠ 35 → k ≠ 36 → k ≠ 37 → k ≠ 38 → k ≠ 69 → k ≠ 85 → k ≠ 89 → k ≠ 90 → k ≠ 111 → Z k = μ k := fun k k1 k2 k3 k4 k5 k6 k7 k8 k9 k10 k11 k12 k13 => by rw [z1 k k9 k10 k11 k12, b1 k k5 k6 k7 k8 k13, c1 k k1 k2 k3 k4]
      have mkZ : ∀ (l : List Nat), (∀ k ∈ l, k ≠ 2 ∧ k ≠ 32 ∧ k ≠ 33 ∧ k ≠ 34 ∧ k ≠ 35 ∧ k ≠ 36 ∧ k ≠ 37 ∧ k ≠ 38 ∧ k ≠ 69 ∧ k ≠ 85 ∧ k ≠ 89 ∧ k ≠ 90 ∧ k ≠ 111) → ∀ k ∈ l, Z k = μ k := fun l hl k hk => by
        obtain ⟨k1, k2, k3, k4, k5, k6, k7, k8, k9, k10, k11, k12, k13⟩ := hl k hk
        exact Zm k k1 k2 k3 k4 k5 k6 k7 k8 k9 k10 k11 k12 k13
      have fz : ∀ (l : List Int), (∀ f ∈ l, f ≠ 27 ∧ f ≠ 28 ∧ f ≠ 29 ∧ f ≠ 50) → ∀ f ∈ l, Z 69 0 f = μ 69 0 f := fun l hl f hf => by
        obtain ⟨f1, f2, f3, f4⟩ := hl f hf
        exact z69 f f1 f2 f3 f4
      have Z21 : Z 21 = μ 21 := mkZ [21] (by decide) 21 (by decide)
      have Z2 : Z 2 0 10 = 1 := by rw [ZA 2 (by decide) (by decide) (by decide) (by decide) (by decide)]; exact c2
      have RZc : rl_c Z := rl_c_congr (mkZ _ (by decide)) (fz _ (by decide)) Hc
      have RZm : rl_m Z := rl_m_congr (mkZ _ (by decide)) (fz _ (by decide)) Hmm
      have RZp : rl_p Z := by
        refine ⟨fun k k0 k1 => ?_, fun x x0 x1 => ?_⟩
        · rw [Z21] at k1
          have p := Hl1.1 k k0 k1
          rw [z85, ZA 32 (by decide) (by decide) (by decide) (by decide) (by decide), c32, ZA 33 (by decide) (by decide) (by decide) (by decide) (by decide), c33, z90, ZA 34 (by decide) (by decide) (by decide) (by decide) (by decide), c34]
          have h0 := Hpp.1 k k0 k1
          refine ⟨?_, p.1, p.2.1, p.2.2, ?_, ?_⟩
          · unfold cu_xq
            rw [e89 _ pb.1 pb.2.1, e89 _ a b, B85, h0.1]
          · split
            · rfl
            · exact h0.2.2.2.2.1
          · split
            · exact .inr rfl
            · exact h0.2.2.2.2.2
        · have p := Hl1.2 x x0 x1
          rw [z89, ZA 33 (by decide) (by decide) (by decide) (by decide) (by decide), c33, Z21, ZA 32 (by decide) (by decide) (by decide) (by decide) (by decide), c32]
          refine ⟨?_, p⟩
          unfold cu_xp
          rw [e89 _ pb.1 pb.2.1, e89 _ a b, e89 x x0 x1]
      have RZ : Rel Z := by
        refine ⟨RZc, ?_, rl_z_congr (mkZ _ (by decide)) (fz _ (by decide)) Hz, fun e' e0 e1 => ?_, fun _ => ⟨RZm, RZp⟩, fun z => by omega, fun z => by omega, fun z => by omega⟩
        · unfold rl_s; rw [Z2, z69 26 (by decide) (by decide) (by decide) (by decide), m.2.2, z27, z28, z29]; decide
        · have := Hu e' e0 e1
          rw [Z2, mkZ [96] (by decide) 96 (by decide), mkZ [44] (by decide) 44 (by decide)]
          rw [if_pos st] at this
          exact this
      refine sp_costNow (d := d + 7) (fun _ _ => rfl) RZc RZm RZp (fun w m2 d1 d2 d3 => hQ w m2 ?_)
      have ew : w = v := by
        refine cu_cost_uniq (μ := A) HcA.1 (cu_cost_congr (fun k hk => ?_) d3) cst
        exact (ZA k (by revert hk; simp only [List.mem_cons, List.not_mem_nil, or_false]; omega) (by rintro rfl; revert hk; decide) (by rintro rfl; revert hk; decide) (by rintro rfl; revert hk; decide) (by rintro rfl; revert hk; decide)).symm
      rw [ew]
      refine h2 _ m2 (Rel_len RZ (by omega) (fun k _ _ _ _ _ k6 k7 _ _ => d1 k k6 k7) (fun f _ => by rw [d1 69 (by decide) (by decide)]) d2) (by rw [d1 69 (by decide) (by decide)]; exact z50) (fun _ => ⟨v, rfl, ?_⟩)
      rw [d1 111 (by decide) (by decide), z1 111 (by decide) (by decide) (by decide) (by decide)]; exact b2
    have rB : 0 ≤ B 85 0 v1 ∧ B 85 0 v1 < 36 := by omega
    have valsB : cu_x1 89 (ma_up (ma_up (ma_up B 69 0 50 0) 69 0 50 0) 69 0 50 0) (B 85 0 v1) v2 89 0 (B 85 0 v1) < 48 ∧ cu_x1 89 (ma_up (ma_up (ma_up B 69 0 50 0) 69 0 50 0) 69 0 50 0) (B 85 0 v1) v2 89 0 v2 < 48 := by
      have y := Hl1.2 _ pb.1 pb.2.1
      have z := Hl1.2 _ a b
      rw [cu_x1_rd, cu_x1_rd, T50 89 (by decide), e85]
      unfold cu_xp at y z ⊢
      rw [e89 _ pb.1 pb.2.1, e89 _ a b]
      omega
    refine gi_LatticefitModel_fix (fun R3 hR3 => s_LatticefitModel_fix_0 (d := d + 7) hR3 ⟨fun _ => by omega, fun _ => ⟨fun _ => by omega, fun _ => ⟨fun q => by rw [B69] at q; omega, fun _ => ⟨by rw [B69]; omega, fun _ => by omega, fun _ => ⟨fun q => by rw [B69] at q; omega, fun _ => ⟨by omega, fun q => ?_, fun _ => ⟨by omega, fun o => ⟨rB, ?_⟩, fun o => ⟨?_, fun _ => ⟨rB, ?_⟩, fun q => ?_⟩⟩⟩⟩⟩⟩⟩⟩)
    · rw [B90, (Hpp.1 v1 c e).2.2.2.2.1] at q; exact absurd f34 q
    · exact cu_xw (kp := 89) (kq := 85) (μ := ma_up (ma_up (ma_up B 69 0 50 0) 69 0 50 0) 69 0 50 0) (a := B 85 0 v1) (b := v2) (Q := fun W => ma_Ox LS (d + 7 + 4) mi_LatticefitModel_costNow [ma_Rf 69 0] (ma_up (ma_up (ma_up (ma_up W 90 0 v1 1) 69 0 27 0) 69 0 28 0) 69 0 29 0) (ma_ct (ma_Ox LS (d + 7 + 4)) (LS, [], 1, 0) 136 [ma_Rf 69 0, ma_I v1, ma_I v2] [] 0 mt_LatticefitModel_fix_139 R3 (ma_DD (LS, [], 1, 0) Post2))) valsB.1 valsB.2 (key _ (fun w m hw => k_LatticefitModel_fix_136 hR3 hw))
    · rw [e89 _ a b] at o ⊢
      have := (Hl.2 v2 a b).2.1; omega
    · exact cu_xw (kp := 89) (kq := 85) (μ := ma_up (ma_up (ma_up B 69 0 50 0) 69 0 50 0) 69 0 50 0) (a := B 85 0 v1) (b := v2) (Q := fun W => ma_Ox LS (d + 7 + 4) mi_LatticefitModel_costNow [ma_Rf 69 0] (ma_up (ma_up (ma_up (ma_up W 90 0 v1 1) 69 0 27 0) 69 0 28 0) 69 0 29 0) (ma_ct (ma_Ox LS (d + 7 + 4)) (LS, [], 1, 0) 136 [ma_Rf 69 0, ma_I v1, ma_I v2] [] 0 mt_LatticefitModel_fix_139 R3 (ma_DD (LS, [], 1, 0) Post2))) valsB.1 valsB.2 (key _ (fun w m hw => k_LatticefitModel_fix_136 hR3 hw))
    · rw [e89 _ a b] at o q
      rw [B90, (Hpp.1 _ o (Hl.2 v2 a b).2.1).2.2.2.2.1] at q
      exact absurd (fo o) q
  refine ⟨fun q => L2 (.inl q), fun a => ⟨fun q => L2 (.inr (.inl q)), fun b => ⟨fun st => ⟨fun q => L2 (.inr (.inr ⟨st, .inl q⟩)), fun c => ⟨fun e => ?_, fun q => L2 (.inr (.inr ⟨st, .inr q⟩))⟩⟩, fun st => L0 a b (by omega)⟩⟩⟩
  have m := mp st
  have Hl := cu_pl_of (Hm st).2
  have pb := Hl.1 v1 c e
  have pc := Hl.2 v2 a b
  have vals : cu_x1 33 μ (μ 32 0 v1) v2 33 0 (μ 32 0 v1) < 48 ∧ cu_x1 33 μ (μ 32 0 v1) v2 33 0 v2 < 48 := by
    have y := (cu_pl_x Hl pb.1 pb.2.1 a b).2 _ pb.1 pb.2.1
    have z := (cu_pl_x Hl pb.1 pb.2.1 a b).2 _ a b
    rw [cu_x1_rd, cu_x1_rd]; omega
  refine ⟨by omega, fun q => L3 a b st c e (.inl q), fun f => ⟨by omega, fun o => ⟨by omega, ?_⟩, fun o => ⟨by omega, fun fo => ⟨by omega, ?_⟩, fun fo => L3 a b st c e (.inr ⟨o, fo⟩)⟩⟩⟩
  · exact cu_xw (kp := 33) (kq := 32) (μ := μ) (a := μ 32 0 v1) (b := v2) (Q := fun M => ma_Ox LS (d + 7 + 3) mi_Places_findLengths [ma_Rf 31 0] (ma_up (ma_up M 34 0 v1 1) 2 0 10 1) (ma_ct (ma_Ox LS (d + 7 + 3)) (LS, [], 1, 2) 87 [ma_Rf 2 0, ma_I v1, ma_I v2] [] 1 mt_Latticefit_fix_90 R2 (ma_DD (LS, [], 1, 2) _))) vals.1 vals.2 (ok a b st c e f (fun z => by omega))
  · exact cu_xw (kp := 33) (kq := 32) (μ := μ) (a := μ 32 0 v1) (b := v2) (Q := fun M => ma_Ox LS (d + 7 + 3) mi_Places_findLengths [ma_Rf 31 0] (ma_up (ma_up M 34 0 v1 1) 2 0 10 1) (ma_ct (ma_Ox LS (d + 7 + 3)) (LS, [], 1, 2) 87 [ma_Rf 2 0, ma_I v1, ma_I v2] [] 1 mt_Latticefit_fix_90 R2 (ma_DD (LS, [], 1, 2) _))) vals.1 vals.2 (ok a b st c e f (fun _ => fo))
