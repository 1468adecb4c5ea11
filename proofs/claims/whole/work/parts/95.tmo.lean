/-! timeOf, slowest -/
theorem tm_H_of {μ : ma_M} (H : Rel μ) (st : 2 ≤ μ 2 0 10) : tm_H μ := ⟨H.1, (H.2.2.2.2.1 (by omega)).1, (H.2.2.2.2.1 (by omega)).2, (H.2.2.2.2.2.1 st).1⟩
theorem pr_timeOf {LS d : Nat} {μ : ma_M} (H : Rel μ) {v1 : Int} : Pr LS (d + 150) mi_LatticefitLaw_timeOf [ma_Rf 2 0, ma_I v1, ma_Rf 111 0] mi_LatticefitModel_timeOf [ma_Rf 69 0, ma_I v1] agI μ := by
  intro Post hP
  obtain ⟨Hc, Hs, Hz, Hu, Hm, Hr, Hf, Hk⟩ := id H
  have s27 := Hs.2.2.2.1
  have T1 := Rel_thrown H 1
  have T2 := Rel_thrown (Rel_thrown H 0) 2
  have T3 := Rel_thrown (Rel_thrown (Rel_thrown H 0) 0) 3
  have N0 := Hc.1
  have N1 := Hc.2.1
  have n8 := Hc.2.2.2.2.2.2.2.2.1
  refine gi_LatticefitLaw_timeOf (fun R hR => s_LatticefitLaw_timeOf_0 (d := d + 154) hR ?_)
  refine gi_Latticefit_timeOf (fun R2 hR2 => s_Latticefit_timeOf_0 (d := d + 154) hR2 ?_)
  have L2 : (v1 < 0 ∨ μ 3 0 10 ≤ v1) → ma_ct (ma_Ox LS (d + 154 + 7)) (LS, [(0, 9, 12, 2), (0, 9, 15, 0), (0, 9, 18, 4)], 1, 2) 4 [ma_Rf 2 0, ma_I v1, ma_Rf 111 0, ma_U] [ma_I 0, ma_Rf 111 0] 2 mt_LatticefitLaw_timeOf_7 R (ma_DD (LS, [(0, 9, 12, 2), (0, 9, 15, 0), (0, 9, 18, 4)], 1, 2) Post) (.inr 2) μ := by
    intro hc
    show R 12 [ma_Rf 2 0, ma_I v1, ma_Rf 111 0, ma_U] [ma_X 2] 2 μ
    refine g_LatticefitLaw_timeOf_12 hR ⟨Nat.le_refl 2, hP 1 μ (fun Post2 h2 => ?_)⟩
    have fin := h2 (ma_I 0) _ T1 ma_up_eq (fun z => by omega)
    exact gi_LatticefitModel_timeOf (fun R3 hR3 => s_LatticefitModel_timeOf_0 (d := d + 156) hR3 ⟨by omega, fun _ => fin, fun _ => ⟨fun _ => fin, fun _ => by omega⟩⟩)
  refine ⟨fun a => L2 (by omega), fun a => ⟨fun b => L2 (by omega), fun b => ⟨fun st => ?_, fun st => ?_⟩⟩⟩
  · have TH := tm_H_of H st
    have nn := (Hc.2.2.2.2.2.2.2.2.2.2.2.2.1 v1 a b).1
    have mm := TH.2.1.2.2.2.1 v1 a b
    have good : tm_n μ v1 → ma_Ox LS (d + 154 + 6) mi_Times_findAll [ma_Rf 51 0] μ (ma_ct (ma_Ox LS (d + 154 + 6)) (LS, [], 1, 2) 59 [ma_Rf 2 0, ma_I v1] [] 1 mt_Latticefit_timeOf_62 R2 (ma_DD (LS, [], 1, 2) (ma_ct (ma_Ox LS (d + 154 + 7)) (LS, [(0, 9, 12, 2), (0, 9, 15, 0), (0, 9, 18, 4)], 1, 2) 4 [ma_Rf 2 0, ma_I v1, ma_Rf 111 0, ma_U] [ma_I 0, ma_Rf 111 0] 2 mt_LatticefitLaw_timeOf_7 R (ma_DD (LS, [(0, 9, 12, 2), (0, 9, 15, 0), (0, 9, 18, 4)], 1, 2) Post)))) := by
      intro tn
      refine sp_timesAll (d := d + 154) TH (fun m1 a1 a2 => k_Latticefit_timeOf_59 hR2 ⟨by omega, k_LatticefitLaw_timeOf_4 hR ⟨by omega, hP 0 _ (fun Post2 h2 => ?_)⟩⟩)
      have b1 : ∀ c : Nat, c ≠ 52 → c ≠ 111 → (ma_up m1 111 0 0 (m1 52 0 v1)) c = μ c := fun c c1 c2 => by rw [ma_up_ck c2]; exact a1 c c1
      have b2 : (ma_up m1 111 0 0 (m1 52 0 v1)) 111 0 0 = m1 52 0 v1 := ma_up_eq
      generalize ma_up m1 111 0 0 (m1 52 0 v1) = M at b1 b2 ⊢
      have RM : Rel M := Rel_scr H (fun c hc => b1 c (by rintro rfl; revert hc; decide) (by rintro rfl; revert hc; decide)) (fun f _ => by rw [b1 69 (by decide) (by decide)])
      have RM0 := Rel_thrown (Rel_thrown (Rel_thrown RM 0) 0) 0
      have M69 : M 69 = μ 69 := b1 69 (by decide) (by decide)
      refine gi_LatticefitModel_timeOf (fun R3 hR3 => s_LatticefitModel_timeOf_0 (d := d + 156) hR3 ?_)
      rw [M69, b1 70 (by decide) (by decide), b1 82 (by decide) (by decide), nn, mm.2.1]
      have e111 : (ma_up (ma_up (ma_up M 69 0 50 0) 69 0 50 0) 69 0 50 0) 111 0 0 = m1 52 0 v1 := by rw [ma_up_ck (by decide), ma_up_ck (by decide), ma_up_ck (by decide)]; exact b2
      have e50 : (ma_up (ma_up (ma_up M 69 0 50 0) 69 0 50 0) 69 0 50 0) 69 0 50 = 0 := ma_up_eq
      have em : ∀ c : Nat, 70 ≤ c → c ≤ 105 → (ma_up (ma_up (ma_up M 69 0 50 0) 69 0 50 0) 69 0 50 0) c = μ c := fun c c1 c2 => by rw [ma_up_ck (by omega), ma_up_ck (by omega), ma_up_ck (by omega)]; exact b1 c (by omega) (by omega)
      generalize ma_up (ma_up (ma_up M 69 0 50 0) 69 0 50 0) 69 0 50 0 = A at RM0 e111 e50 em ⊢
      have ok : ma_Ox LS (d + 156 + 5) mi_LatticefitModel_time [ma_Rf 69 0, ma_I v1] A (ma_ct (ma_Ox LS (d + 156 + 5)) (LS, [], 1, 0) 70 [ma_Rf 69 0, ma_I v1] [] 0 [] R3 (ma_DD (LS, [], 1, 0) Post2)) := by
        obtain ⟨j, hj⟩ : ∃ j : Nat, v1 = (j : Int) := ⟨v1.toNat, by omega⟩
        have := sp_timeR (LS := LS) TH em a2 j (d + 156 + 5) (by rw [← hj]; exact tn) (by omega) (ma_ct (ma_Ox LS (d + 156 + 5)) (LS, [], 1, 0) 70 [ma_Rf 69 0, ma_I v1] [] 0 [] R3 (ma_DD (LS, [], 1, 0) Post2))
        rw [← hj] at this
        exact this (k_LatticefitModel_timeOf_70 hR3 (h2 _ A RM0 e50 (fun _ => ⟨_, rfl, e111⟩)))
      refine ⟨by omega, fun _ => by omega, fun _ => ⟨fun _ => by omega, fun _ => ⟨fun _ => ⟨by omega, fun _ => ok, fun p => ⟨fun _ => ok, fun q => ⟨fun _ => ok, fun r => ?_⟩⟩⟩, fun q => by rw [s27, if_pos st] at q; omega⟩⟩⟩
      exfalso
      rcases tn.2.2 with z | z | z
      · exact p z
      · exact q z
      · rcases mm.2.2.2.2.2.2.2.1.1 z with y | y
        · exact q y
        · omega
    refine ⟨by omega, fun p => good ⟨a, b, .inl p⟩, fun p => ⟨fun q => good ⟨a, b, .inr (.inl q)⟩, fun q => ⟨fun r => good ⟨a, b, .inr (.inr (mm.2.2.2.2.2.2.2.1.2 (.inr (by have := mm.2.2.1; omega))))⟩, fun r => ?_⟩⟩⟩
    show R 18 [ma_Rf 2 0, ma_I v1, ma_Rf 111 0, ma_U] [ma_X 4] 2 μ
    refine g_LatticefitLaw_timeOf_18 hR ⟨Nat.le_refl 2, hP 3 μ (fun Post2 h2 => ?_)⟩
    have fin := h2 (ma_I 0) _ T3 ma_up_eq (fun z => by omega)
    refine gi_LatticefitModel_timeOf (fun R3 hR3 => s_LatticefitModel_timeOf_0 (d := d + 156) hR3 ?_)
    rw [nn, mm.2.1]
    exact ⟨by omega, fun _ => by omega, fun _ => ⟨fun _ => by omega, fun _ => ⟨fun _ => ⟨by omega, fun z => absurd z p, fun _ => ⟨fun z => absurd z q, fun _ => ⟨fun z => absurd r z, fun _ => fin⟩⟩⟩, fun q => by rw [s27, if_pos st] at q; omega⟩⟩⟩
  · show R 15 [ma_Rf 2 0, ma_I v1, ma_Rf 111 0, ma_U] [ma_X 0] 2 μ
    refine g_LatticefitLaw_timeOf_15 hR ⟨Nat.le_refl 2, hP 2 μ (fun Post2 h2 => ?_)⟩
    have fin := h2 (ma_I 0) _ T2 ma_up_eq (fun z => by omega)
    exact gi_LatticefitModel_timeOf (fun R3 hR3 => s_LatticefitModel_timeOf_0 (d := d + 156) hR3 ⟨by omega, fun _ => by omega, fun _ => ⟨fun _ => by omega, fun _ => ⟨fun q => absurd (by rw [s27, if_neg (by omega)]) q, fun _ => fin⟩⟩⟩)
/-- the latest of the outputs; what the registers' tables add -/
def sl_o (μ : ma_M) (t : Int → Int) (k : Nat) : Int := tm_mx (fun o => tm_a μ t (μ 13 0 o) (42 + o)) k
def sl_r (μ : ma_M) (t : Int → Int) (M0 M : Int) : Prop := M0 ≤ M ∧ (∀ b : Int, 0 ≤ b → b < μ 21 0 7 → 0 ≤ μ 23 0 b → tm_b μ t b ≤ M) ∧ (M = M0 ∨ ∃ b : Int, 0 ≤ b ∧ b < μ 21 0 7 ∧ 0 ≤ μ 23 0 b ∧ M = tm_b μ t b)
theorem sl_uniq {μ : ma_M} {t : Int → Int} {M0 M M' : Int} (h : sl_r μ t M0 M) (h' : sl_r μ t M0 M') : M = M' := by
  obtain ⟨a1, a2, a3⟩ := h
  obtain ⟨b1, b2, b3⟩ := h'
  have x : M ≤ M' := by
    rcases a3 with z | ⟨b, z1, z2, z3, z4⟩
    · omega
    · rw [z4]; exact b2 b z1 z2 z3
  have y : M' ≤ M := by
    rcases b3 with z | ⟨b, z1, z2, z3, z4⟩
    · omega
    · rw [z4]; exact a2 b z1 z2 z3
  omega
theorem tm_b_rng {μ : ma_M} (H : tm_H μ) {t : Int → Int} (T : tm_ok μ t (μ 3 0 10)) {b : Int} (b0 : 0 ≤ b) (b1 : b < μ 21 0 7) : 0 ≤ tm_b μ t b ∧ tm_b μ t b ≤ 4000 := by
  have K0 := (H.2.1.2.2.2.2.1 b b0 b1).2.2.2.2.2.2.1
  have := tm_mx_rng (v := fun k => tm_a μ t (μ 27 b k) (rl_x (μ 32 0 b))) (B := 3049) (μ 25 0 b).toNat (fun i x0 x1 => by
    have ti := tm_in H b0 b1 (k := i) x0 (by omega)
    have l := tm_lim H T ti.1 ti.2.1
    have w := wy_rng (b := μ 42 (μ 27 b i)) 49 (rl_x (μ 32 0 b))
    show tm_a _ _ _ _ ≤ _
    unfold tm_a; omega) (by omega)
  unfold tm_b; omega
theorem sl_o_rng {μ : ma_M} (H : tm_H μ) {t : Int → Int} (T : tm_ok μ t (μ 3 0 10)) {k : Nat} (hk : (k : Int) ≤ μ 3 0 13) : 0 ≤ sl_o μ t k ∧ sl_o μ t k ≤ 3049 := by
  refine tm_mx_rng k (fun i x0 x1 => ?_) (by omega)
  have oo := H.1.2.2.2.2.2.2.2.2.2.2.2.2.2.2.2.2.2 i x0 (by omega)
  have l := tm_lim H T oo.2.1 oo.2.2
  have w := wy_rng (b := μ 42 (μ 13 0 i)) 49 (42 + i)
  show tm_a _ _ _ _ ≤ _
  unfold tm_a; omega
/-- the class: the latest -/
theorem sp_latest {LS d : Nat} {Post : ma_R → ma_M → Prop} {μ m : ma_M} (H : tm_H μ) (hm : ∀ c : Nat, c ≠ 52 → m c = μ c) (T : tm_ok μ (m 52 0) (μ 3 0 10)) (h : ∀ M : Int, sl_r μ (m 52 0) (sl_o μ (m 52 0) (μ 3 0 13).toNat) M → Post (.inl (some (ma_I M))) m) : ma_Ox LS (d + 6) mi_Times_latest [ma_Rf 51 0] m Post := by
  have N1 := H.1.2.1
  have O0 := H.1.2.2.2.2.2.2.1
  have O1 := H.1.2.2.2.2.2.2.2.1
  have R0 := H.1.2.2.2.2.1
  have R1 := H.1.2.2.2.2.2.1
  have hr := H.1.2.2.2.2.2.2.2.2.2.2.2.2.2.2.1
  have hrj := H.1.2.2.2.2.2.2.2.2.2.2.2.2.2.2.2.2.1
  have e3 : m 3 = μ 3 := hm 3 (by decide)
  have e42 : m 42 = μ 42 := hm 42 (by decide)
  obtain ⟨K, hK⟩ : ∃ K : Nat, μ 3 0 13 = (K : Int) := ⟨(μ 3 0 13).toNat, by omega⟩
  rw [hK, Int.toNat_natCast] at h
  refine gi_Times_latest (fun R hR => s_Times_latest_0 (d := d) hR ?_)
  have lp : ∀ (k j : Nat), j + k = K → ∀ u : ma_V, R 4 [ma_Rf 51 0, ma_I (sl_o μ (m 52 0) j), ma_I j, u] [] 0 m := by
    intro k
    induction k with
    | zero =>
      intro j hj u
      have ej : j = K := by omega
      rw [ej]
      refine s_Times_latest_4 hR ⟨fun _ => ?_, fun q => by rw [e3] at q; omega⟩
      refine ma_cnt (σ := Int) (N := μ 3 0 12) (P := fun i M => ∀ u : ma_V, R 47 [ma_Rf 51 0, ma_I M, ma_I i, u] [] 0 m) (I := fun n M => sl_o μ (m 52 0) K ≤ M ∧ (∀ j : Int, 0 ≤ j → j < n → tm_b μ (m 52 0) (μ 28 0 (μ 12 0 j)) ≤ M) ∧ (M = sl_o μ (m 52 0) K ∨ ∃ b : Int, 0 ≤ b ∧ b < μ 21 0 7 ∧ 0 ≤ μ 23 0 b ∧ M = tm_b μ (m 52 0) b)) ?_ ?_ 0 _ (by omega) (by omega) ⟨Int.le_refl _, fun j a b => by omega, .inl rfl⟩ _
      · intro i M i0 i1 ⟨x1, x2, x3⟩ ih u
        have t := hr i i0 i1
        have mm := H.2.1.2.2.2.1 _ t.1 t.2.1
        have b0 : 0 ≤ μ 28 0 (μ 12 0 i) := mm.2.2.2.2.2.2.2.1.2 (.inl t.2.2)
        have b1 := mm.2.2.2.2.2.2.1
        have e23 := mm.2.2.2.2.2.2.2.2.2 t.2.2
        refine s_Times_latest_47 hR ⟨fun q => by rw [e3] at q; omega, fun _ => ?_⟩
        rw [hm 12 (by decide), hm 28 (by decide)]
        refine ⟨by omega, by omega, fun q => by omega, fun _ => ?_⟩
        refine sp_ofTable (d := d) H hm b0 b1 (fun k k0 k1 => by have ti := tm_in H b0 b1 (k := k) k0 k1; exact tm_lim H T ti.1 ti.2.1) (k_Times_latest_83 hR ⟨by omega, ih _ ⟨?_, fun j j0 j1 => ?_, ?_⟩ _⟩)
        · split <;> omega
        · by_cases e : j = i
          · rw [e]; split <;> omega
          · have := x2 j j0 (by omega)
            split <;> omega
        · split
          · exact .inr ⟨_, b0, b1, by omega, rfl⟩
          · exact x3
      · intro M ⟨x1, x2, x3⟩ u
        refine s_Times_latest_47 hR ⟨fun _ => h M ⟨x1, fun b b0 b1 z => ?_, x3⟩, fun q => by rw [e3] at q; omega⟩
        have B := H.2.1.2.2.2.2.1 b b0 b1
        rcases B.2.2.2.2.2.2.2.2.2.2 with y | ⟨y1, y2, y3, y4⟩
        · omega
        · obtain ⟨j, j0, j1, ej⟩ := hrj _ y1 y2 y3
          have := x2 j j0 j1
          rw [ej, y4] at this; exact this
    | succ k ih =>
      intro j hj u
      have oo := H.1.2.2.2.2.2.2.2.2.2.2.2.2.2.2.2.2.2 j (by omega) (by omega)
      have l := tm_lim H T oo.2.1 oo.2.2
      have w := wy_rng (b := μ 42 (μ 13 0 j)) 49 (42 + j)
      refine s_Times_latest_4 hR ⟨fun q => by rw [e3] at q; omega, fun _ => ?_⟩
      rw [hm 13 (by decide)]
      refine ⟨by omega, by omega, ?_⟩
      refine gi_Times_arrival (fun R4 hR4 => s_Times_arrival_0 (d := d + 1) hR4 ⟨by omega, sp_wayTo (d := d + 1) (by rw [e42]; exact wy_of (H.2.2.2 _ oo.2.1 oo.2.2)) (by omega) (by omega) (by omega) (by omega) (k_Times_arrival_12 hR4 ⟨by rw [e42]; omega, k_Times_latest_32 hR ⟨by omega, ?_⟩⟩)⟩)
      rw [e42]
      exact ih (j + 1) (by omega) _
  exact lp K 0 (by omega) _
theorem pr_slowest {LS d : Nat} {μ : ma_M} (H : Rel μ) : Pr LS (d + 150) mi_LatticefitLaw_slowest [ma_Rf 2 0, ma_Rf 111 0] mi_LatticefitModel_slowest [ma_Rf 69 0] agI μ := by
  intro Post hP
  obtain ⟨Hc, Hs, Hz, Hu, Hm, Hr, Hf, Hk⟩ := id H
  have s27 := Hs.2.2.2.1
  have T1 := Rel_thrown H 1
  refine gi_LatticefitLaw_slowest (fun R hR => s_LatticefitLaw_slowest_0 (d := d + 154) hR ?_)
  refine gi_Latticefit_slowest (fun R2 hR2 => s_Latticefit_slowest_0 (d := d + 154) hR2 ⟨fun st => ?_, fun st => ?_⟩)
  · have TH := tm_H_of H st
    have N1 := Hc.2.1
    have O0 := Hc.2.2.2.2.2.2.1
    have O1 := Hc.2.2.2.2.2.2.2.1
    have n11 := Hc.2.2.2.2.2.2.2.2.2.2.2.1
    have M70 := TH.2.1.1
    have M71 := TH.2.1.2.1
    have e25 := TH.2.1.2.2.1
    refine sp_timesAll (d := d + 154) TH (fun m1 a1 a2 => k_Latticefit_slowest_9 hR2 (sp_latest (d := d + 154) TH a1 a2 (fun X hX => k_Latticefit_slowest_16 hR2 (k_LatticefitLaw_slowest_3 hR ⟨by omega, hP 0 _ (fun Post2 h2 => ?_)⟩))))
    have b1 : ∀ c : Nat, c ≠ 52 → c ≠ 111 → (ma_up m1 111 0 0 X) c = μ c := fun c c1 c2 => by rw [ma_up_ck c2]; exact a1 c c1
    have b2 : (ma_up m1 111 0 0 X) 111 0 0 = X := ma_up_eq
    generalize ma_up m1 111 0 0 X = M at b1 b2 ⊢
    have RM : Rel M := Rel_scr H (fun c hc => b1 c (by rintro rfl; revert hc; decide) (by rintro rfl; revert hc; decide)) (fun f _ => by rw [b1 69 (by decide) (by decide)])
    have RM0 := Rel_thrown RM 0
    have M69 : M 69 = μ 69 := b1 69 (by decide) (by decide)
    refine gi_LatticefitModel_slowest (fun R3 hR3 => s_LatticefitModel_slowest_0 (d := d + 156) hR3 ⟨fun _ => ?_, fun q => by rw [M69, s27, if_pos st] at q; omega⟩)
    have e111 : (ma_up M 69 0 50 0) 111 0 0 = X := by rw [ma_up_ck (by decide)]; exact b2
    have e50 : (ma_up M 69 0 50 0) 69 0 50 = 0 := ma_up_eq
    have em : ∀ c : Nat, 70 ≤ c → c ≤ 105 → (ma_up M 69 0 50 0) c = μ c := fun c c1 c2 => by rw [ma_up_ck (by omega)]; exact b1 c (by omega) (by omega)
    have ef : ∀ f : Int, f ≠ 50 → (ma_up M 69 0 50 0) 69 0 f = μ 69 0 f := fun f hf => by rw [ma_up_ne (by omega), M69]
    generalize ma_up M 69 0 50 0 = A at RM0 e111 e50 em ef ⊢
    obtain ⟨K, hK⟩ : ∃ K : Nat, μ 3 0 13 = (K : Int) := ⟨(μ 3 0 13).toNat, by omega⟩
    rw [hK, Int.toNat_natCast] at hX
    have lp : ∀ (k j : Nat), j + k = K → R3 26 [ma_Rf 69 0, ma_I (sl_o μ (m1 52 0) j), ma_I j] [] 0 A := by
      intro k
      induction k with
      | zero =>
        intro j hj
        have ej : j = K := by omega
        rw [ej]
        refine s_LatticefitModel_slowest_26 hR3 ⟨fun _ => ?_, fun q => by rw [ef 11 (by decide)] at q; omega⟩
        refine ma_cnt (σ := Int) (N := μ 21 0 7) (P := fun i X => R3 61 [ma_Rf 69 0, ma_I X, ma_I i] [] 0 A) (I := fun n X => sl_o μ (m1 52 0) K ≤ X ∧ (∀ b : Int, 0 ≤ b → b < n → 0 ≤ μ 23 0 b → tm_b μ (m1 52 0) b ≤ X) ∧ (X = sl_o μ (m1 52 0) K ∨ ∃ b : Int, 0 ≤ b ∧ b < μ 21 0 7 ∧ 0 ≤ μ 23 0 b ∧ X = tm_b μ (m1 52 0) b)) ?_ ?_ 0 _ (by omega) (by omega) ⟨Int.le_refl _, fun j a b => by omega, .inl rfl⟩
        · intro b X b0 b1' ⟨x1, x2, x3⟩ ih
          have B := TH.2.1.2.2.2.2.1 b b0 b1'
          refine s_LatticefitModel_slowest_61 hR3 ⟨fun q => by rw [ef 25 (by decide), e25] at q; omega, fun _ => ?_⟩
          rw [em 84 (by decide) (by decide), B.2.1]
          refine ⟨by omega, fun q => ⟨by omega, ih X ⟨x1, fun j j0 j1 jz => ?_, x3⟩⟩, fun q => ?_⟩
          · by_cases e : j = b
            · rw [e] at jz; omega
            · exact x2 j j0 (by omega) jz
          · refine sp_tableTimeR (d := d + 156) TH em b0 b1' (fun k k0 k1 => by have ti := tm_in TH b0 b1' (k := k) k0 k1; exact tm_lim TH a2 ti.1 ti.2.1) (fun k k0 k1 Post3 p3 => ?_) (k_LatticefitModel_slowest_81 hR3 ⟨by omega, ih _ ⟨?_, fun j j0 j1 jz => ?_, ?_⟩⟩)
            · have tn := tm_n_in TH b0 b1' (k := k) k0 k1
              obtain ⟨j, hj⟩ : ∃ j : Nat, μ 27 b k = (j : Int) := ⟨(μ 27 b k).toNat, by have := tn.1; omega⟩
              rw [hj] at tn p3 ⊢
              exact sp_timeR TH em a2 j (d + 156 + 3) tn (by have := tn.2.1; omega) Post3 p3
            · split <;> omega
            · by_cases e : j = b
              · rw [e]; split <;> omega
              · have := x2 j j0 (by omega) jz
                split <;> omega
            · split
              · exact .inr ⟨_, b0, b1', q, rfl⟩
              · exact x3
        · intro Y ⟨x1, x2, x3⟩
          refine s_LatticefitModel_slowest_61 hR3 ⟨fun _ => h2 _ A RM0 e50 (fun _ => ⟨_, rfl, ?_⟩), fun q => by rw [ef 25 (by decide), e25] at q; omega⟩
          rw [e111]; exact sl_uniq hX ⟨x1, x2, x3⟩
      | succ k ih =>
        intro j hj
        have oo := Hc.2.2.2.2.2.2.2.2.2.2.2.2.2.2.2.2.2 j (by omega) (by omega)
        have l := tm_lim TH a2 oo.2.1 oo.2.2
        have r92 : μ 92 0 (μ 13 0 j) = 1 := (TH.2.2.2 _ oo.2.1 oo.2.2).2.1.2 ⟨_, .inr ⟨j, by omega, by omega, rfl, rfl⟩⟩
        refine s_LatticefitModel_slowest_26 hR3 ⟨fun q => by rw [ef 11 (by decide)] at q; omega, fun _ => ?_⟩
        rw [em 76 (by decide) (by decide), oo.1]
        refine ⟨by omega, by omega, sp_arrivalR (d := d + 157) (μ := μ) (t := m1 52 0) (em 95 (by decide) (by decide)) (TH.2.2.2 _ oo.2.1 oo.2.2) oo.2.1 (by omega) (by omega) (by omega) r92 l.1 l.2 (fun Post3 p3 => ?_) (k_LatticefitModel_slowest_46 hR3 ⟨by omega, ih (j + 1) (by omega)⟩)⟩
        have tn : tm_n μ (μ 13 0 j) := ⟨oo.2.1, oo.2.2, by rcases TH.2.1.2.2.2.2.2.1 j (by omega) (by omega) with z | z; exact .inl z; exact .inr (.inr z)⟩
        obtain ⟨i, hi⟩ : ∃ i : Nat, μ 13 0 j = (i : Int) := ⟨(μ 13 0 j).toNat, by omega⟩
        rw [hi] at tn p3 ⊢
        exact sp_timeR TH em a2 i (d + 157 + 3) tn (by have := tn.2.1; omega) Post3 p3
    exact lp K 0 (by omega)
  · show R 11 [ma_Rf 2 0, ma_Rf 111 0, ma_U] [ma_X 0] 1 μ
    refine g_LatticefitLaw_slowest_11 hR ⟨Nat.le_refl 1, hP 1 μ (fun Post2 h2 => ?_)⟩
    exact gi_LatticefitModel_slowest (fun R3 hR3 => s_LatticefitModel_slowest_0 (d := d + 156) hR3 ⟨fun q => absurd (by rw [s27, if_neg (by omega)]) q, fun _ => h2 (ma_I 0) _ T1 ma_up_eq (fun z => by omega)⟩)
