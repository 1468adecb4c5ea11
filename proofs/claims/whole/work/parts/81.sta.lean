/-! start -/
theorem ma_cpy_ck {μ : ma_M} {k1 k2 k : Nat} {r1 r2 sp dp n : Int} (h : k ≠ k2) : ma_cpy μ k1 r1 sp k2 r2 dp n k = μ k := by
  funext r i; unfold ma_cpy; rw [if_neg (fun z => h z.1)]
theorem ma_cpy_rd {μ : ma_M} {r i f : Int} : ma_cpy μ 55 f 0 60 f 0 36 60 r i = if r = f ∧ 0 ≤ i ∧ i < 36 then μ 55 f i else μ 60 r i := by
  unfold ma_cpy
  by_cases e : r = f ∧ 0 ≤ i ∧ i < 36
  · rw [if_pos e, if_pos ⟨rfl, e.1, e.2.1, by omega⟩, show 0 + (i - 0) = i from by omega]
  · rw [if_neg e, if_neg (fun z => e ⟨z.2.1, z.2.2.1, by have := z.2.2.2; omega⟩)]
theorem sp_chipReset {LS d : Nat} {Post : ma_R → ma_M → Prop} {μ : ma_M}
    (h : ∀ m : ma_M, (∀ c : Nat, c ≠ 57 → c ≠ 60 → c ≠ 61 → c ≠ 62 → m c = μ c) → (∀ f i : Int, 0 ≤ f → f < 14 → 0 ≤ i → i < 36 → m 60 f i = μ 55 f i) → (∀ j : Int, 0 ≤ j → j < 6 → m 61 0 j = 0) → (∀ c : Int, 0 ≤ c → c < 36 → m 62 0 c = 0) → m 57 0 3 = 0 → Post (.inl none) m) :
    ma_Ox LS (d + 2) mi_Chip_reset [ma_Rf 57 0, ma_Rf 53 0] μ Post := by
  refine gi_Chip_reset (fun R hR => s_Chip_reset_0 hR ?_)
  refine ma_cnt (σ := ma_M) (N := 14) (P := fun i m => R 2 [ma_Rf 57 0, ma_Rf 53 0, ma_I i] [] 0 m) (I := fun n m => (∀ c : Nat, c ≠ 60 → m c = μ c) ∧ ∀ f i : Int, 0 ≤ f → f < n → 0 ≤ i → i < 36 → m 60 f i = μ 55 f i) ?_ ?_ 0 μ (by omega) (by omega) ⟨fun _ _ => rfl, fun f i a b => by omega⟩
  · intro f m f0 f1 ⟨a1, a2⟩ ih
    refine s_Chip_reset_2 hR ⟨fun q => by omega, fun _ => ⟨by omega, by omega, ih _ ⟨fun c hc => by rw [ma_cpy_ck hc]; exact a1 c hc, fun g i g0 g1 i0 i1 => ?_⟩⟩⟩
    rw [ma_cpy_rd]
    by_cases e : g = f
    · rw [if_pos ⟨e, i0, i1⟩, e, a1 55 (by decide)]
    · rw [if_neg (fun z => e z.1)]; exact a2 g i g0 (by omega) i0 i1
  · intro m ⟨a1, a2⟩
    refine s_Chip_reset_2 hR ⟨fun _ => sp_fillI (len := 6) rfl rfl (by omega) (fun m1 b1 b2 b3 => k_Chip_reset_28 hR (sp_fillI (len := 36) rfl rfl (by omega) (fun m2 c1 c2 c3 => k_Chip_reset_36 hR (h _ (fun c k1 k2 k3 k4 => by rw [ma_up_ck k1, c1 c k4, b1 c k3]; exact a1 c k2) (fun f i f0 f1 i0 i1 => by rw [ma_up_ck (by decide), c1 60 (by decide), b1 60 (by decide)]; exact a2 f i f0 f1 i0 i1) (fun j j0 j1 => by rw [ma_up_ck (by decide), c1 61 (by decide)]; exact b3 j j0 j1) (fun c c0 c1' => by rw [ma_up_ck (by decide)]; exact c3 c c0 c1') ma_up_eq)))), fun q => by omega⟩
theorem sp_runReset {LS d : Nat} {Post : ma_R → ma_M → Prop} {μ : ma_M} (Hc : rl_c μ)
    (h : ∀ m : ma_M, (∀ c : Nat, c ≠ 67 → m c = μ c) → (∀ j : Int, 0 ≤ j → j < μ 3 0 12 → m 67 0 (μ 12 0 j) = μ 8 0 (μ 12 0 j)) → Post (.inl none) m) :
    ma_Ox LS (d + 1) mi_Runner_reset [ma_Rf 66 0] μ Post := by
  have H := Hc
  obtain ⟨N0, N1, I0, I1, R0, R1, O0, O1, n8, n9, n10, n11, hn, _, hr, _, hrj, hoo⟩ := Hc
  refine gi_Runner_reset (fun R hR => s_Runner_reset_0 hR ?_)
  refine ma_cnt (σ := ma_M) (N := μ 3 0 12) (P := fun i m => R 2 [ma_Rf 66 0, ma_I i] [] 0 m) (I := fun n m => (∀ c : Nat, c ≠ 67 → m c = μ c) ∧ ∀ j : Int, 0 ≤ j → j < n → m 67 0 (μ 12 0 j) = μ 8 0 (μ 12 0 j)) ?_ ?_ 0 μ (by omega) (by omega) ⟨fun _ _ => rfl, fun j a b => by omega⟩
  · intro i m i0 i1 ⟨a1, a2⟩ ih
    have t := hr i i0 i1
    have e3 : m 3 = μ 3 := a1 3 (by decide)
    have e12 : m 12 = μ 12 := a1 12 (by decide)
    have e8 : m 8 = μ 8 := a1 8 (by decide)
    refine s_Runner_reset_2 hR ⟨fun q => by rw [e3] at q; omega, fun _ => ?_⟩
    rw [e12, e8]
    refine ⟨by omega, by omega, by omega, ih _ ⟨fun c hc => by rw [ma_up_ck hc]; exact a1 c hc, fun j j0 j1 => ?_⟩⟩
    by_cases e : j = i
    · rw [e, ma_up_eq]
    · rw [ma_up_ne (fun z => e (cu_reg_inj H j0 (by omega) i0 i1 z.2))]; exact a2 j j0 (by omega)
  · intro m ⟨a1, a2⟩
    have e3 : m 3 = μ 3 := a1 3 (by decide)
    exact s_Runner_reset_2 hR ⟨fun _ => h m a1 a2, fun q => by rw [e3] at q; omega⟩
/-- what a cell's register starts with -/
def st_v (μ : ma_M) (c : Int) : Int := if 0 ≤ μ 33 0 c ∧ 0 ≤ μ 23 0 (μ 33 0 c) then μ 8 0 (μ 23 0 (μ 33 0 c)) else 0
theorem pr_start {LS d : Nat} {μ : ma_M} (H : Rel μ) : Pr LS d mi_LatticefitLaw_start [ma_Rf 2 0, ma_Rf 111 0] mi_LatticefitModel_start [ma_Rf 69 0] agI μ := by
  intro Post hP
  obtain ⟨Hc, Hs, Hz, Hu, Hm, Hr, Hf, Hk⟩ := id H
  obtain ⟨S0, S4, s26, s27, s28, s29⟩ := id Hs
  have T1 := Rel_thrown H 1
  refine gi_LatticefitLaw_start (fun R hR => s_LatticefitLaw_start_0 (d := d + 8) hR ?_)
  refine gi_Latticefit_start (fun R2 hR2 => s_Latticefit_start_0 (d := d + 8) hR2 ⟨fun st => ?_, fun st => ?_⟩)
  rotate_left
  · show R 11 [ma_Rf 2 0, ma_Rf 111 0, ma_U] [ma_X 0] 1 μ
    refine g_LatticefitLaw_start_11 hR ⟨Nat.le_refl 1, hP 1 μ (fun Post2 h2 => ?_)⟩
    exact gi_LatticefitModel_start (fun R3 hR3 => s_LatticefitModel_start_0 (d := d + 10) hR3 ⟨fun q => absurd (by rw [s28, if_neg (by omega)]) q, fun _ => h2 (ma_I 0) _ T1 ma_up_eq (fun z => by omega)⟩)
  obtain ⟨Hmm, Hpp⟩ := Hm (by omega)
  have F := Hf st
  have HC := Hc
  obtain ⟨N0, N1, I0, I1, R0, R1, O0, O1, n8, n9, n10, n11, hn, _, hr, _, hrj, hoo⟩ := HC
  obtain ⟨B0, B1, e25, hm, hb, _⟩ := id Hmm
  -- a register's cell
  have rc : ∀ j : Int, 0 ≤ j → j < μ 3 0 12 → 0 ≤ μ 28 0 (μ 12 0 j) ∧ μ 28 0 (μ 12 0 j) < μ 21 0 7 ∧ 0 ≤ μ 32 0 (μ 28 0 (μ 12 0 j)) ∧ μ 32 0 (μ 28 0 (μ 12 0 j)) < 36 ∧ μ 33 0 (μ 32 0 (μ 28 0 (μ 12 0 j))) = μ 28 0 (μ 12 0 j) ∧ μ 23 0 (μ 28 0 (μ 12 0 j)) = μ 12 0 j := by
    intro j j0 j1
    have t := hr j j0 j1
    have mm := hm _ t.1 t.2.1
    have b0 : 0 ≤ μ 28 0 (μ 12 0 j) := mm.2.2.2.2.2.2.2.1.2 (.inl t.2.2)
    have pp := Hpp.1 _ b0 mm.2.2.2.2.2.2.1
    exact ⟨b0, mm.2.2.2.2.2.2.1, pp.2.1, pp.2.2.1, pp.2.2.2.1, mm.2.2.2.2.2.2.2.2.2 t.2.2⟩
  have sv : ∀ c : Int, 0 ≤ c → c < 36 → (st_v μ c = 0 ∨ st_v μ c = 1) ∧ ((∃ j : Int, 0 ≤ j ∧ j < μ 3 0 12 ∧ μ 32 0 (μ 28 0 (μ 12 0 j)) = c ∧ st_v μ c = μ 8 0 (μ 12 0 j)) ∨ ((∀ j : Int, 0 ≤ j → j < μ 3 0 12 → μ 32 0 (μ 28 0 (μ 12 0 j)) ≠ c) ∧ st_v μ c = 0)) := by
    intro c c0 c1
    have q := Hpp.2 c c0 c1
    unfold st_v
    by_cases e : 0 ≤ μ 33 0 c ∧ 0 ≤ μ 23 0 (μ 33 0 c)
    · rw [if_pos e]
      have bi := hb (μ 33 0 c) e.1 q.2.2.1
      unfold rl_b1 at bi
      rcases bi.2.2.2.2.2.2.2.2.2.2 with z | ⟨z1, z2, z3, z4⟩
      · omega
      obtain ⟨j, j0, j1, ej⟩ := hrj _ z1 z2 z3
      refine ⟨((hn _ z1 z2).2.2.2.1 z3).2.2.2.2.2.2.2, .inl ⟨j, j0, j1, ?_, by rw [ej]⟩⟩
      rw [ej, z4]; exact q.2.2.2 e.1
    · rw [if_neg e]
      refine ⟨.inl rfl, .inr ⟨fun j j0 j1 z => e ?_, rfl⟩⟩
      have r := rc j j0 j1
      rw [← z, r.2.2.2.2.1, r.2.2.2.2.2]
      exact ⟨r.1, (hr j j0 j1).1⟩
  refine sp_chipReset (d := d + 8) (fun m1 a1 a2 a3 a4 a5 => k_Latticefit_start_13 hR2 ?_)
  have mk1 : ∀ (l : List Nat), (∀ c ∈ l, c ≠ 57 ∧ c ≠ 60 ∧ c ≠ 61 ∧ c ≠ 62) → ∀ c ∈ l, m1 c = μ c := fun l hl c hc => by
    obtain ⟨k1, k2, k3, k4⟩ := hl c hc
    exact a1 c k1 k2 k3 k4
  have Hc1 : rl_c m1 := rl_c_congr (mk1 _ (by decide)) (fun f _ => by rw [a1 69 (by decide) (by decide) (by decide) (by decide)]) Hc
  refine sp_runReset (d := d + 9) Hc1 (fun m2 b1 b2 => k_Latticefit_start_20 hR2 ?_)
  have mk2 : ∀ (l : List Nat), (∀ c ∈ l, c ≠ 57 ∧ c ≠ 60 ∧ c ≠ 61 ∧ c ≠ 62 ∧ c ≠ 67) → ∀ c ∈ l, m2 c = μ c := fun l hl c hc => by
    obtain ⟨k1, k2, k3, k4, k5⟩ := hl c hc
    rw [b1 c k5]; exact a1 c k1 k2 k3 k4
  rw [a1 3 (by decide) (by decide) (by decide) (by decide), a1 8 (by decide) (by decide) (by decide) (by decide), a1 12 (by decide) (by decide) (by decide) (by decide)] at b2
  -- the registers' cells
  refine ma_cnt (σ := ma_M) (N := μ 3 0 12) (P := fun i m => ∀ u2 : ma_V, R2 25 [ma_Rf 2 0, ma_I i, u2] [] 1 m) (I := fun i m => (∀ c : Nat, c ≠ 62 → m c = m2 c) ∧ (∀ j : Int, 0 ≤ j → j < i → m 62 0 (μ 32 0 (μ 28 0 (μ 12 0 j))) = μ 8 0 (μ 12 0 j)) ∧ (∀ c : Int, 0 ≤ c → c < 36 → (∀ j : Int, 0 ≤ j → j < i → μ 32 0 (μ 28 0 (μ 12 0 j)) ≠ c) → m 62 0 c = 0)) ?_ ?_ 0 m2 (by omega) (by omega) ⟨fun _ _ => rfl, fun j a b => by omega, fun c c0 c1 _ => by rw [b1 62 (by decide)]; exact a4 c c0 c1⟩ _
  · intro i m i0 i1 ⟨w1, w2, w3⟩ ih u2
    have em : ∀ c ∈ ([3, 8, 12, 28, 32] : List Nat), m c = μ c := fun c hc => (w1 c (by rintro rfl; revert hc; decide)).trans (mk2 [3, 8, 12, 28, 32] (by decide) c hc)
    have t := hr i i0 i1
    have r := rc i i0 i1
    refine s_Latticefit_start_25 hR2 ⟨fun q => by rw [em 3 (by decide)] at q; omega, fun _ => ?_⟩
    rw [em 12 (by decide), em 28 (by decide), em 32 (by decide), em 8 (by decide)]
    refine ⟨by omega, by omega, fun _ => ⟨by omega, by omega, by omega, ih _ ⟨fun c hc => by rw [ma_up_ck hc]; exact w1 c hc, fun j j0 j1 => ?_, fun c c0 c1 hc => ?_⟩ _⟩, fun q => by omega⟩
    · by_cases e : j = i
      · rw [e, ma_up_eq]
      · have r' := rc j j0 (by omega)
        have ne : μ 32 0 (μ 28 0 (μ 12 0 j)) ≠ μ 32 0 (μ 28 0 (μ 12 0 i)) := by
          intro z
          have y : μ 28 0 (μ 12 0 j) = μ 28 0 (μ 12 0 i) := by rw [← r'.2.2.2.2.1, ← r.2.2.2.2.1, z]
          exact e (cu_reg_inj Hc j0 (by omega) i0 i1 (by rw [← r'.2.2.2.2.2, ← r.2.2.2.2.2, y]))
        rw [ma_up_ne (fun z => ne z.2)]; exact w2 j j0 (by omega)
    · rw [ma_up_ne (fun z => hc i i0 (by omega) z.2.symm)]
      exact w3 c c0 c1 (fun j j0 j1 => hc j j0 (by omega))
  · intro m ⟨w1, w2, w3⟩ u2
    have e3 : m 3 = μ 3 := (w1 3 (by decide)).trans (mk2 [3] (by decide) 3 (by decide))
    refine s_Latticefit_start_25 hR2 ⟨fun _ => k_LatticefitLaw_start_3 hR ⟨by omega, hP 0 _ (fun Post2 h2 => ?_)⟩, fun q => by rw [e3] at q; omega⟩
    rw [e3]
    have g1 : ∀ c : Nat, c ≠ 2 → c ≠ 57 → c ≠ 60 → c ≠ 61 → c ≠ 62 → c ≠ 67 → c ≠ 111 → (ma_up (ma_up m 2 0 10 4) 111 0 0 (μ 3 0 13)) c = μ c := fun c k1 k2 k3 k4 k5 k6 k7 => by rw [ma_up_ck k7, ma_up_ck k1, w1 c k5, b1 c k6, a1 c k2 k3 k4 k5]
    have g2 : (ma_up (ma_up m 2 0 10 4) 111 0 0 (μ 3 0 13)) 2 0 10 = 4 := by rw [ma_up_ck (by decide), ma_up_eq]
    have g111 : (ma_up (ma_up m 2 0 10 4) 111 0 0 (μ 3 0 13)) 111 0 0 = μ 3 0 13 := ma_up_eq
    have g60 : ∀ f i : Int, 0 ≤ f → f < 14 → 0 ≤ i → i < 36 → (ma_up (ma_up m 2 0 10 4) 111 0 0 (μ 3 0 13)) 60 f i = μ 55 f i := fun f i f0 f1 i0 i1 => by rw [ma_up_ck (by decide), ma_up_ck (by decide), w1 60 (by decide), b1 60 (by decide)]; exact a2 f i f0 f1 i0 i1
    have g61 : ∀ j : Int, 0 ≤ j → j < 6 → (ma_up (ma_up m 2 0 10 4) 111 0 0 (μ 3 0 13)) 61 0 j = 0 := fun j j0 j1 => by rw [ma_up_ck (by decide), ma_up_ck (by decide), w1 61 (by decide), b1 61 (by decide)]; exact a3 j j0 j1
    have g57 : (ma_up (ma_up m 2 0 10 4) 111 0 0 (μ 3 0 13)) 57 0 3 = 0 := by rw [ma_up_ck (by decide), ma_up_ck (by decide), w1 57 (by decide), b1 57 (by decide)]; exact a5
    have g67 : ∀ j : Int, 0 ≤ j → j < μ 3 0 12 → (ma_up (ma_up m 2 0 10 4) 111 0 0 (μ 3 0 13)) 67 0 (μ 12 0 j) = μ 8 0 (μ 12 0 j) := fun j j0 j1 => by rw [ma_up_ck (by decide), ma_up_ck (by decide), w1 67 (by decide)]; exact b2 j j0 j1
    have g62 : ∀ c : Int, 0 ≤ c → c < 36 → (ma_up (ma_up m 2 0 10 4) 111 0 0 (μ 3 0 13)) 62 0 c = st_v μ c := fun c c0 c1 => by
      rw [ma_up_ck (by decide), ma_up_ck (by decide)]
      rcases (sv c c0 c1).2 with ⟨j, j0, j1, x, y⟩ | ⟨x, y⟩
      · rw [y, ← x]; exact w2 j j0 j1
      · rw [y]; exact w3 c c0 c1 x
    generalize ma_up (ma_up m 2 0 10 4) 111 0 0 (μ 3 0 13) = M at g1 g2 g111 g60 g61 g57 g67 g62 ⊢
    clear w1 w2 w3 b1 b2 mk2 Hc1 mk1 a1 a2 a3 a4 a5
    have gm : ∀ (l : List Nat), (∀ c ∈ l, c ≠ 2 ∧ c ≠ 57 ∧ c ≠ 60 ∧ c ≠ 61 ∧ c ≠ 62 ∧ c ≠ 67 ∧ c ≠ 111) → ∀ c ∈ l, M c = μ c := fun l hl c hc => by
      obtain ⟨k1, k2, k3, k4, k5, k6, k7⟩ := hl c hc
      exact g1 c k1 k2 k3 k4 k5 k6 k7
    have M69 : M 69 = μ 69 := gm [69] (by decide) 69 (by decide)
    refine gi_LatticefitModel_start (fun R3 hR3 => s_LatticefitModel_start_0 (d := d + 10) hR3 ⟨fun _ => ?_, fun q => by rw [M69, s28, if_pos st] at q; omega⟩)
    have h1 : ∀ c : Nat, c ≠ 69 → (ma_up M 69 0 50 0) c = M c := fun c hc => ma_up_ck hc
    have h69 : ∀ f : Int, f ≠ 50 → (ma_up M 69 0 50 0) 69 0 f = μ 69 0 f := fun f hf => by rw [ma_up_ne (by omega), M69]
    have h50 : (ma_up M 69 0 50 0) 69 0 50 = 0 := ma_up_eq
    generalize ma_up M 69 0 50 0 = A at h1 h69 h50 ⊢
    have Am : ∀ (l : List Nat), (∀ c ∈ l, c ≠ 2 ∧ c ≠ 57 ∧ c ≠ 60 ∧ c ≠ 61 ∧ c ≠ 62 ∧ c ≠ 67 ∧ c ≠ 111 ∧ c ≠ 69) → ∀ c ∈ l, A c = μ c := fun l hl c hc => by
      obtain ⟨k1, k2, k3, k4, k5, k6, k7, k8⟩ := hl c hc
      rw [h1 c k8]; exact g1 c k1 k2 k3 k4 k5 k6 k7
    -- given
    have l146 : ∀ W : ma_M, (∀ c : Nat, c ≠ 102 → c ≠ 103 → c ≠ 104 → W c = A c) → (∀ k : Int, 0 ≤ k → k < 504 → W 102 0 k = μ 101 0 k) → (∀ c : Int, 0 ≤ c → c < 36 → W 104 0 c = st_v μ c) → (∀ i : Int, 0 ≤ i → i < μ 3 0 10 → W 103 0 i = μ 77 0 i) → R3 146 [ma_Rf 69 0, ma_I 0] [] 0 W := by
      intro W0 x1 x2 x3 x4
      refine ma_cnt (σ := ma_M) (N := 6) (P := fun i W => R3 146 [ma_Rf 69 0, ma_I i] [] 0 W) (I := fun i W => (∀ c : Nat, c ≠ 105 → W c = W0 c) ∧ ∀ j : Int, 0 ≤ j → j < i → W 105 0 j = 0) ?_ ?_ 0 W0 (by omega) (by omega) ⟨fun _ _ => rfl, fun j a b => by omega⟩
      · intro i W i0 i1 ⟨y1, y2⟩ ih
        refine s_LatticefitModel_start_146 hR3 ⟨fun q => by omega, fun _ => ⟨by omega, by omega, ih _ ⟨fun c hc => by rw [ma_up_ck hc]; exact y1 c hc, fun j j0 j1 => ?_⟩⟩⟩
        by_cases e : j = i
        · rw [e, ma_up_eq]
        · rw [ma_up_ne (by omega)]; exact y2 j j0 (by omega)
      · intro W ⟨y1, y2⟩
        refine s_LatticefitModel_start_146 hR3 ⟨fun _ => ?_, fun q => by omega⟩
        have W69 : W 69 = A 69 := (y1 69 (by decide)).trans (x1 69 (by decide) (by decide) (by decide))
        have e11 : W 69 0 11 = μ 3 0 13 := by rw [W69, h69 11 (by decide)]; exact n11
        have zc : ∀ c : Nat, c ≠ 69 → c ≠ 102 → c ≠ 103 → c ≠ 104 → c ≠ 105 → (ma_up (ma_up W 69 0 49 0) 69 0 29 1) c = M c := fun c k1 k2 k3 k4 k5 => by rw [ma_up_ck k1, ma_up_ck k1, y1 c k5, x1 c k2 k3 k4, h1 c k1]
        have zf : ∀ f : Int, f ≠ 29 → f ≠ 49 → f ≠ 50 → (ma_up (ma_up W 69 0 49 0) 69 0 29 1) 69 0 f = μ 69 0 f := fun f f1 f2 f3 => by rw [ma_up_ne (by omega), ma_up_ne (by omega), W69]; exact h69 f f3
        have z29 : (ma_up (ma_up W 69 0 49 0) 69 0 29 1) 69 0 29 = 1 := ma_up_eq
        have z49 : (ma_up (ma_up W 69 0 49 0) 69 0 29 1) 69 0 49 = 0 := by rw [ma_up_ne (by omega), ma_up_eq]
        have z50 : (ma_up (ma_up W 69 0 49 0) 69 0 29 1) 69 0 50 = 0 := by rw [ma_up_ne (by omega), ma_up_ne (by omega), W69]; exact h50
        have z102 : ∀ k : Int, 0 ≤ k → k < 504 → (ma_up (ma_up W 69 0 49 0) 69 0 29 1) 102 0 k = μ 101 0 k := fun k k0 k1 => by rw [ma_up_ck (by decide), ma_up_ck (by decide), y1 102 (by decide)]; exact x2 k k0 k1
        have z104 : ∀ c : Int, 0 ≤ c → c < 36 → (ma_up (ma_up W 69 0 49 0) 69 0 29 1) 104 0 c = st_v μ c := fun c c0 c1 => by rw [ma_up_ck (by decide), ma_up_ck (by decide), y1 104 (by decide)]; exact x3 c c0 c1
        have z103 : ∀ i : Int, 0 ≤ i → i < μ 3 0 10 → (ma_up (ma_up W 69 0 49 0) 69 0 29 1) 103 0 i = μ 77 0 i := fun i i0 i1 => by rw [ma_up_ck (by decide), ma_up_ck (by decide), y1 103 (by decide)]; exact x4 i i0 i1
        have z105 : ∀ j : Int, 0 ≤ j → j < 6 → (ma_up (ma_up W 69 0 49 0) 69 0 29 1) 105 0 j = 0 := fun j j0 j1 => by rw [ma_up_ck (by decide), ma_up_ck (by decide)]; exact y2 j j0 j1
        rw [e11]
        generalize ma_up (ma_up W 69 0 49 0) 69 0 29 1 = Z at zc zf z29 z49 z50 z102 z104 z103 z105 ⊢
        have Zm : ∀ (l : List Nat), (∀ c ∈ l, c ≠ 2 ∧ c ≠ 57 ∧ c ≠ 60 ∧ c ≠ 61 ∧ c ≠ 62 ∧ c ≠ 67 ∧ c ≠ 111 ∧ c ≠ 69 ∧ c ≠ 102 ∧ c ≠ 103 ∧ c ≠ 104 ∧ c ≠ 105) → ∀ c ∈ l, Z c = μ c := fun l hl c hc => by
          obtain ⟨k1, k2, k3, k4, k5, k6, k7, k8, k9, k10, k11, k12⟩ := hl c hc
          rw [zc c k8 k9 k10 k11 k12]; exact g1 c k1 k2 k3 k4 k5 k6 k7
        have Zf : ∀ (l : List Int), (∀ f ∈ l, f ≠ 29 ∧ f ≠ 49 ∧ f ≠ 50) → ∀ f ∈ l, Z 69 0 f = μ 69 0 f := fun l hl f hf => by
          obtain ⟨f1, f2, f3⟩ := hl f hf
          exact zf f f1 f2 f3
        have Z2 : Z 2 0 10 = 4 := by rw [zc 2 (by decide) (by decide) (by decide) (by decide) (by decide)]; exact g2
        have ZM : ∀ c ∈ ([57, 60, 61, 62, 67] : List Nat), Z c = M c := fun c hc => zc c (by rintro rfl; revert hc; decide) (by rintro rfl; revert hc; decide) (by rintro rfl; revert hc; decide) (by rintro rfl; revert hc; decide) (by rintro rfl; revert hc; decide)
        have Z3 : Z 3 = μ 3 := Zm [3] (by decide) 3 (by decide)
        have Z4 : Z 4 = μ 4 := Zm [4] (by decide) 4 (by decide)
        refine h2 _ Z ⟨rl_c_congr (Zm _ (by decide)) (Zf _ (by decide)) Hc, ?_, rl_z_congr (Zm _ (by decide)) (Zf _ (by decide)) Hz, fun e e0 e1 => ?_, fun _ => ⟨rl_m_congr (Zm _ (by decide)) (Zf _ (by decide)) Hmm, rl_p_congr (Zm _ (by decide)) Hpp⟩, fun _ => rl_r_congr (Zm _ (by decide)) (Hr (by omega)), fun _ => rl_f_congr (Zm _ (by decide)) F, fun _ => ⟨fun f i f0 f1 i0 i1 => ?_, fun j j0 j1 => ?_, fun c c0 c1 => ?_, fun i i0 i1 => ?_, ?_⟩⟩ z50 (fun _ => ⟨_, rfl, by rw [zc 111 (by decide) (by decide) (by decide) (by decide) (by decide)]; exact g111⟩)
        · unfold rl_s
          rw [Z2, zf 26 (by decide) (by decide) (by decide), zf 27 (by decide) (by decide) (by decide), zf 28 (by decide) (by decide) (by decide), z29, s26, s27, s28, if_pos (show 1 ≤ μ 2 0 10 by omega), if_pos (show 2 ≤ μ 2 0 10 by omega), if_pos st]; decide
        · have := Hu e e0 e1
          rw [Z2, Zm [96] (by decide) 96 (by decide), Zm [44] (by decide) 44 (by decide)]
          rw [if_pos (show 1 ≤ μ 2 0 10 by omega)] at this
          exact this
        · rw [z102 _ (by omega) (by omega), ZM 60 (by decide), g60 f i f0 f1 i0 i1]; exact F f i f0 f1 i0 i1
        · rw [z105 j j0 j1, ZM 61 (by decide), g61 j j0 j1]; exact ⟨rfl, .inl rfl, fun _ => rfl⟩
        · rw [z104 c c0 c1, ZM 62 (by decide), g62 c c0 c1]; exact ⟨rfl, (sv c c0 c1).1⟩
        · rw [Z3] at i1
          rw [z103 i i0 i1, Z4, ZM 67 (by decide)]
          refine ⟨Hz.2.2.2.2.2.2 i i0 (by omega), fun k => ?_⟩
          obtain ⟨j, j0, j1, ej⟩ := hrj i i0 i1 k
          have t := (hn i i0 i1).2.2.2.1 k
          have := g67 j j0 j1
          rw [ej] at this
          rw [this]
          exact ⟨t.2.2.2.2.2.2.1, t.2.2.2.2.2.2.2⟩
        · rw [z49, ZM 57 (by decide), g57]
    -- the states
    have l118 : ∀ W : ma_M, (∀ c : Nat, c ≠ 102 → c ≠ 104 → W c = A c) → (∀ k : Int, 0 ≤ k → k < 504 → W 102 0 k = μ 101 0 k) → (∀ c : Int, 0 ≤ c → c < 36 → W 104 0 c = st_v μ c) → R3 118 [ma_Rf 69 0, ma_I 0] [] 0 W := by
      intro W0 x1 x2 x3
      refine ma_cnt (σ := ma_M) (N := μ 3 0 10) (P := fun i W => R3 118 [ma_Rf 69 0, ma_I i] [] 0 W) (I := fun i W => (∀ c : Nat, c ≠ 103 → W c = W0 c) ∧ ∀ j : Int, 0 ≤ j → j < i → W 103 0 j = μ 77 0 j) ?_ ?_ 0 W0 (by omega) (by omega) ⟨fun _ _ => rfl, fun j a b => by omega⟩
      · intro i W i0 i1 ⟨y1, y2⟩ ih
        have W69 : W 69 0 8 = μ 3 0 10 := by rw [y1 69 (by decide), x1 69 (by decide) (by decide), h69 8 (by decide)]; exact n8
        have W77 : W 77 = μ 77 := (y1 77 (by decide)).trans ((x1 77 (by decide) (by decide)).trans (Am [77] (by decide) 77 (by decide)))
        refine s_LatticefitModel_start_118 hR3 ⟨fun q => by omega, fun _ => ?_⟩
        rw [W77]
        refine ⟨by omega, Hz.2.2.2.2.2.2 i i0 (by omega), by omega, ih _ ⟨fun c hc => by rw [ma_up_ck hc]; exact y1 c hc, fun j j0 j1 => ?_⟩⟩
        by_cases e : j = i
        · rw [e, ma_up_eq]
        · rw [ma_up_ne (by omega)]; exact y2 j j0 (by omega)
      · intro W ⟨y1, y2⟩
        have W69 : W 69 0 8 = μ 3 0 10 := by rw [y1 69 (by decide), x1 69 (by decide) (by decide), h69 8 (by decide)]; exact n8
        exact s_LatticefitModel_start_118 hR3 ⟨fun _ => l146 W (fun c k1 k2 k3 => by rw [y1 c k2]; exact x1 c k1 k3) (fun k k0 k1 => by rw [y1 102 (by decide)]; exact x2 k k0 k1) (fun c c0 c1 => by rw [y1 104 (by decide)]; exact x3 c c0 c1) y2, fun q => by omega⟩
    -- the cells
    have l51 : ∀ W : ma_M, (∀ c : Nat, c ≠ 102 → W c = A c) → (∀ k : Int, 0 ≤ k → k < 504 → W 102 0 k = μ 101 0 k) → R3 51 [ma_Rf 69 0, ma_I 0] [] 0 W := by
      intro W0 x1 x2
      refine ma_cnt (σ := ma_M) (N := 36) (P := fun i W => R3 51 [ma_Rf 69 0, ma_I i] [] 0 W) (I := fun i W => (∀ c : Nat, c ≠ 104 → W c = W0 c) ∧ ∀ j : Int, 0 ≤ j → j < i → W 104 0 j = st_v μ j) ?_ ?_ 0 W0 (by omega) (by omega) ⟨fun _ _ => rfl, fun j a b => by omega⟩
      · intro i W i0 i1 ⟨y1, y2⟩ ih
        have em : ∀ c ∈ ([77, 84, 89] : List Nat), W c = μ c := fun c hc => (y1 c (by rintro rfl; revert hc; decide)).trans ((x1 c (by rintro rfl; revert hc; decide)).trans (Am [77, 84, 89] (by decide) c hc))
        have q := Hpp.2 i i0 i1
        have nx : ∀ v : Int, v = st_v μ i → R3 51 [ma_Rf 69 0, ma_I (i + 1)] [] 0 (ma_up W 104 0 i v) := by
          intro v hv
          refine ih _ ⟨fun c hc => by rw [ma_up_ck hc]; exact y1 c hc, fun j j0 j1 => ?_⟩
          by_cases e : j = i
          · rw [e, ma_up_eq, hv]
          · rw [ma_up_ne (by omega)]; exact y2 j j0 (by omega)
        refine s_LatticefitModel_start_51 hR3 ⟨fun q => by omega, fun _ => ?_⟩
        rw [em 89 (by decide), em 84 (by decide), em 77 (by decide), q.1]
        refine ⟨by omega, fun z => ⟨by omega, nx 0 (by unfold st_v; rw [if_neg (by omega)])⟩, fun z => ⟨by omega, ?_⟩⟩
        have bi := hb (μ 33 0 i) z q.2.2.1
        unfold rl_b1 at bi
        rw [bi.2.1]
        refine ⟨fun y => ⟨by omega, nx 0 (by unfold st_v; rw [if_neg (by omega)])⟩, fun y => ?_⟩
        rcases bi.2.2.2.2.2.2.2.2.2.2 with z' | ⟨z1, z2, z3, z4⟩
        · omega
        have t := (hn _ z1 z2).2.2.2.1 z3
        have es : st_v μ i = μ 8 0 (μ 23 0 (μ 33 0 i)) := by unfold st_v; rw [if_pos ⟨z, y⟩]
        rw [t.2.2.2.2.2.2.1]
        exact ⟨by omega, fun x => ⟨by omega, nx 0 (by rw [es]; exact x.symm)⟩, fun x => ⟨by omega, nx 1 (by rw [es]; have := t.2.2.2.2.2.2.2; omega)⟩⟩
      · intro W ⟨y1, y2⟩
        exact s_LatticefitModel_start_51 hR3 ⟨fun _ => l118 W (fun c k1 k2 => by rw [y1 c k2]; exact x1 c k1) (fun k k0 k1 => by rw [y1 102 (by decide)]; exact x2 k k0 k1) y2, fun q => by omega⟩
    -- the words
    refine ma_cnt (σ := ma_M) (N := 504) (P := fun i W => R3 24 [ma_Rf 69 0, ma_I i] [] 0 W) (I := fun i W => (∀ c : Nat, c ≠ 102 → W c = A c) ∧ ∀ j : Int, 0 ≤ j → j < i → W 102 0 j = μ 101 0 j) ?_ ?_ 0 A (by omega) (by omega) ⟨fun _ _ => rfl, fun j a b => by omega⟩
    · intro i W i0 i1 ⟨y1, y2⟩ ih
      have W101 : W 101 = μ 101 := (y1 101 (by decide)).trans (Am [101] (by decide) 101 (by decide))
      refine s_LatticefitModel_start_24 hR3 ⟨fun q => by omega, fun _ => ⟨by omega, by omega, ih _ ⟨fun c hc => by rw [ma_up_ck hc]; exact y1 c hc, fun j j0 j1 => ?_⟩⟩⟩
      rw [W101]
      by_cases e : j = i
      · rw [e, ma_up_eq]
      · rw [ma_up_ne (by omega)]; exact y2 j j0 (by omega)
    · intro W ⟨y1, y2⟩
      exact s_LatticefitModel_start_24 hR3 ⟨fun _ => l51 W y1 y2, fun q => by omega⟩
