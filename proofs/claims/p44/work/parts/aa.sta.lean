/-! routed, built, started -/
def rt (μ : ma_M) : Prop := mp μ ∧ rl_p μ ∧ rl_r μ
def rt_cs : List Nat := [1, 3, 4, 5, 6, 7, 8, 9, 10, 11, 12, 13, 20, 21, 22, 23, 24, 25, 27, 28, 29, 32, 33, 34, 42, 44]
theorem rt_cgr {μ μ' : ma_M} (h : ∀ k ∈ rt_cs, μ' k = μ k) (H : rt μ) : rt μ' := by
  have hl : ∀ (l : List Nat), (∀ c ∈ l, c ∈ rt_cs) → ∀ c ∈ l, μ' c = μ c := fun l hl c hc => h c (hl c hc)
  exact ⟨mp_congr (hl _ (by decide)) H.1, rl_p_congr (hl _ (by decide)) H.2.1, rl_r_congr (hl _ (by decide)) H.2.2⟩
theorem rt_bd {μ : ma_M} (H : rt μ) : bd_H μ := ⟨⟨H.1.1, H.1.2.2.1, H.2.1, H.2.2.1⟩, fun e e0 e1 => by have := H.2.2.2 e e0 e1; omega⟩
theorem bS_congr {μ μ' : ma_M} (h : ∀ k ∈ rt_cs, μ' k = μ k) : bS μ' = bS μ := by
  have e3 := h 3 (by decide)
  have e4 := h 4 (by decide)
  have e8 := h 8 (by decide)
  have e9 := h 9 (by decide)
  have e10 := h 10 (by decide)
  have e13 := h 13 (by decide)
  have e21 := h 21 (by decide)
  have e23 := h 23 (by decide)
  have e24 := h 24 (by decide)
  have e25 := h 25 (by decide)
  have e27 := h 27 (by decide)
  have e28 := h 28 (by decide)
  have e32 := h 32 (by decide)
  have e42 := h 42 (by decide)
  have ct := rl_ct_congr e42
  have hc : bd_c μ' = bd_c μ := by
    funext n x
    unfold bd_c
    rw [e42, e4, e10, e32, e28, ct]
  have hb : bd_b μ' = bd_b μ := by
    funext b o
    unfold bd_b
    rw [e24, e25, hc, e27, e32, e23, e8, e9]
  have hB : ∀ n : Nat, bd_B μ' n = bd_B μ n := by
    intro n
    induction n with
    | zero => rfl
    | succ n ih =>
      funext j
      show (if 6 * μ' 32 0 n ≤ j ∧ j < 6 * μ' 32 0 n + 6 then bd_b μ' n (j - 6 * μ' 32 0 n) else bd_B μ' n j) = (if 6 * μ 32 0 n ≤ j ∧ j < 6 * μ 32 0 n + 6 then bd_b μ n (j - 6 * μ 32 0 n) else bd_B μ n j)
      rw [e32, hb, ih]
  have hN : ∀ (n : Int) (S : Int → Int) (x : Nat), bd_N μ' n S x = bd_N μ n S x := by
    intro n S x
    induction x with
    | zero => rfl
    | succ x ih =>
      show (if 0 ≤ μ' 42 n x then bd_up (bd_N μ' n S x) (bd_w (μ' 42 n x) (rl_ct μ' (μ' 42 n x) n.toNat)) (bd_c μ' n (wy_o (μ' 42 n x) x)) else bd_N μ' n S x) = (if 0 ≤ μ 42 n x then bd_up (bd_N μ n S x) (bd_w (μ 42 n x) (rl_ct μ (μ 42 n x) n.toNat)) (bd_c μ n (wy_o (μ 42 n x) x)) else bd_N μ n S x)
      rw [e42, ct, hc, ih]
  have hNN : ∀ (S : Int → Int) (n : Nat), bd_NN μ' S n = bd_NN μ S n := by
    intro S n
    induction n with
    | zero => rfl
    | succ n ih =>
      show bd_N μ' n (bd_NN μ' S n) 49 = bd_N μ n (bd_NN μ S n) 49
      rw [ih, hN]
  have hO : ∀ (S : Int → Int) (n : Nat), bd_O μ' S n = bd_O μ S n := by
    intro S n
    induction n with
    | zero => rfl
    | succ n ih =>
      show bd_up (bd_O μ' S n) (468 + n) (bd_c μ' (μ' 13 0 n) (42 + n)) = bd_up (bd_O μ S n) (468 + n) (bd_c μ (μ 13 0 n) (42 + n))
      rw [ih, hc, e13]
  unfold bS
  rw [e21, e3, hB, hNN, hO]
theorem bS_rng {μ : ma_M} (H : bd_H μ) : bd_g (bS μ) := bd_g_O H (bd_g_NN H (bd_g_B H _ (by have := H.1.2.1.1; omega)) _ (by have := H.1.1.1; omega)) _ (by have := H.1.1.2.2.2.2.2.2.1; omega)
theorem fr_rng {μ : ma_M} {w : Int → Int → Int} (H : bd_H μ) (hw : fr_w μ w) {f i : Int} (f0 : 0 ≤ f) (f1 : f < 14) (i0 : 0 ≤ i) (i1 : i < 36) : 0 ≤ w f i ∧ w f i ≤ 65535 := by
  rw [hw f i f0 f1 i0 i1]; exact bS_rng H _
theorem fr_congr {μ μ' : ma_M} {w : Int → Int → Int} (h : ∀ k ∈ rt_cs, μ' k = μ k) (H : fr_w μ w) : fr_w μ' w := fun f i f0 f1 i0 i1 => by
  rw [bS_congr h]; exact H f i f0 f1 i0 i1
theorem sp_build0 {LS d : Nat} {Post : ma_R → ma_M → Prop} {μ : ma_M} (st : μ 2 0 10 < 2) (h : Post (.inl (some (ma_I (-900001)))) μ) : ma_Ox LS (d + 9) mi_LatticefitLaw_build [ma_Rf 2 0] μ Post := by
  refine gi_LatticefitLaw_build (fun R hR => s_LatticefitLaw_build_0 (d := d) hR ?_)
  refine gi_Latticefit_build (fun R2 hR2 => s_Latticefit_build_0 (d := d) hR2 ⟨fun z => by omega, fun _ => ?_⟩)
  show R 5 [ma_Rf 2 0, ma_U] [ma_X 0] 1 μ
  exact g_LatticefitLaw_build_5 hR ⟨Nat.le_refl 1, h⟩
theorem sp_build {LS d : Nat} {Post : ma_R → ma_M → Prop} {μ : ma_M} (H : rt μ) (st : μ 2 0 10 = 2) (h : ∀ (v : Int) (m : ma_M), 0 ≤ v → (∀ c : Nat, c ≠ 2 → c ≠ 55 → m c = μ c) → m 2 0 10 = 3 → fr_w μ (m 55) → Post (.inl (some (ma_I v))) m) : ma_Ox LS (d + 9) mi_LatticefitLaw_build [ma_Rf 2 0] μ Post := by
  refine gi_LatticefitLaw_build (fun R hR => s_LatticefitLaw_build_0 (d := d) hR ?_)
  refine gi_Latticefit_build (fun R2 hR2 => s_Latticefit_build_0 (d := d) hR2 ⟨fun _ => ?_, fun z => by omega⟩)
  refine sp_fillFrames (d := d) (rt_bd H) (fun m a1 a2 => k_Latticefit_build_9 (d := d) hR2 ?_)
  have a2 : fr_w μ (m 55) := a2
  refine sp_inUse (d := d + 6) (S := bS μ) (fun f i f0 f1 i0 i1 => by rw [ma_up_ck (by decide)]; exact a2 f i f0 f1 i0 i1) (k_Latticefit_build_21 (d := d) hR2 (k_LatticefitLaw_build_1 (d := d) hR ?_))
  exact h _ _ (bd_1_rng _).1 (fun c c1 c2 => by rw [ma_up_ck c1]; exact a1 c c2) ma_up_eq (by rw [ma_up_ck (by decide)]; exact a2)
theorem sp_start0 {LS d : Nat} {Post : ma_R → ma_M → Prop} {μ : ma_M} (st : μ 2 0 10 < 3) (h : Post (.inl (some (ma_I (-900001)))) μ) : ma_Ox LS (d + 4) mi_LatticefitLaw_start [ma_Rf 2 0] μ Post := by
  refine gi_LatticefitLaw_start (fun R hR => s_LatticefitLaw_start_0 (d := d) hR ?_)
  refine gi_Latticefit_start (fun R2 hR2 => s_Latticefit_start_0 (d := d) hR2 ⟨fun z => by omega, fun _ => ?_⟩)
  show R 5 [ma_Rf 2 0, ma_U] [ma_X 0] 1 μ
  exact g_LatticefitLaw_start_5 hR ⟨Nat.le_refl 1, h⟩
theorem sp_start {LS d : Nat} {Post : ma_R → ma_M → Prop} {μ : ma_M} (H : rt μ) (st : μ 2 0 10 = 3) (h : ∀ m : ma_M, (∀ c : Nat, c ≠ 2 → c ≠ 57 → c ≠ 60 → c ≠ 61 → c ≠ 62 → c ≠ 67 → m c = μ c) → m 2 0 10 = 4 → (∀ f i : Int, 0 ≤ f → f < 14 → 0 ≤ i → i < 36 → m 60 f i = μ 55 f i) → (∀ j : Int, 0 ≤ j → j < 6 → m 61 0 j = 0) → m 57 0 3 = 0 → (∀ i : Int, 0 ≤ i → i < μ 3 0 10 → μ 4 0 i = 114 → m 67 0 i = μ 8 0 i ∧ m 62 0 (μ 32 0 (μ 28 0 i)) = μ 8 0 i) → (∀ c : Int, 0 ≤ c → c < 36 → m 62 0 c = 0 ∨ m 62 0 c = 1) → Post (.inl (some (ma_I (μ 3 0 13)))) m) : ma_Ox LS (d + 4) mi_LatticefitLaw_start [ma_Rf 2 0] μ Post := by
  obtain ⟨⟨Hc, Hz, Hmm, -⟩, Hpp, Hrr⟩ := id H
  refine gi_LatticefitLaw_start (fun R hR => s_LatticefitLaw_start_0 (d := d) hR ?_)
  refine gi_Latticefit_start (fun R2 hR2 => s_Latticefit_start_0 (d := d) hR2 ⟨fun _ => ?_, fun z => by omega⟩)
  have HC := Hc
  obtain ⟨N0, N1, I0, I1, R0, R1, O0, O1, n8, n9, n10, n11, hn, _, hr, _, hrj, hoo⟩ := HC
  obtain ⟨B0, B1, e25, hm, hb, _⟩ := id Hmm
  have rc : ∀ j : Int, 0 ≤ j → j < μ 3 0 12 → 0 ≤ μ 28 0 (μ 12 0 j) ∧ μ 28 0 (μ 12 0 j) < μ 21 0 7 ∧ 0 ≤ μ 32 0 (μ 28 0 (μ 12 0 j)) ∧ μ 32 0 (μ 28 0 (μ 12 0 j)) < 36 ∧ μ 33 0 (μ 32 0 (μ 28 0 (μ 12 0 j))) = μ 28 0 (μ 12 0 j) ∧ μ 23 0 (μ 28 0 (μ 12 0 j)) = μ 12 0 j := by
    intro j j0 j1
    have t := hr j j0 j1
    have mm := hm _ t.1 t.2.1
    have b0 : 0 ≤ μ 28 0 (μ 12 0 j) := mm.2.2.2.2.2.2.2.1.2 (.inl t.2.2)
    have pp := Hpp.1 _ b0 mm.2.2.2.2.2.2.1
    exact ⟨b0, mm.2.2.2.2.2.2.1, pp.2.1, pp.2.2.1, pp.2.2.2.1, mm.2.2.2.2.2.2.2.2.2 t.2.2⟩
  refine sp_chipReset (d := d) (fun m1 a1 a2 a3 a4 a5 => k_Latticefit_start_13 (d := d) hR2 ?_)
  have mk1 : ∀ (l : List Nat), (∀ c ∈ l, c ≠ 57 ∧ c ≠ 60 ∧ c ≠ 61 ∧ c ≠ 62) → ∀ c ∈ l, m1 c = μ c := fun l hl c hc => by
    obtain ⟨k1, k2, k3, k4⟩ := hl c hc
    exact a1 c k1 k2 k3 k4
  have Hc1 : rl_c m1 := rl_c_congr (mk1 _ (by decide)) Hc
  refine sp_runReset (d := d + 1) Hc1 (fun m2 b1 b2 => k_Latticefit_start_20 (d := d) hR2 ?_)
  have mk2 : ∀ (l : List Nat), (∀ c ∈ l, c ≠ 57 ∧ c ≠ 60 ∧ c ≠ 61 ∧ c ≠ 62 ∧ c ≠ 67) → ∀ c ∈ l, m2 c = μ c := fun l hl c hc => by
    obtain ⟨k1, k2, k3, k4, k5⟩ := hl c hc
    rw [b1 c k5]; exact a1 c k1 k2 k3 k4
  rw [a1 3 (by decide) (by decide) (by decide) (by decide), a1 8 (by decide) (by decide) (by decide) (by decide), a1 12 (by decide) (by decide) (by decide) (by decide)] at b2
  -- the registers' cells
  refine ma_cnt (σ := ma_M) (N := μ 3 0 12) (P := fun i m => ∀ u2 : ma_V, R2 25 [ma_Rf 2 0, ma_I i, u2] [] 1 m) (I := fun i m => (∀ c : Nat, c ≠ 62 → m c = m2 c) ∧ (∀ j : Int, 0 ≤ j → j < i → m 62 0 (μ 32 0 (μ 28 0 (μ 12 0 j))) = μ 8 0 (μ 12 0 j)) ∧ (∀ c : Int, 0 ≤ c → c < 36 → (∀ j : Int, 0 ≤ j → j < i → μ 32 0 (μ 28 0 (μ 12 0 j)) ≠ c) → m 62 0 c = 0)) ?_ ?_ 0 m2 (by omega) (by omega) ⟨fun _ _ => rfl, fun j a b => by omega, fun c c0 c1 _ => by rw [b1 62 (by decide)]; exact a4 c c0 c1⟩ _
  · intro i m i0 i1 ⟨w1, w2, w3⟩ ih u2
    have em : ∀ c ∈ ([3, 8, 12, 28, 32] : List Nat), m c = μ c := fun c hc => (w1 c (by rintro rfl; revert hc; decide)).trans (mk2 [3, 8, 12, 28, 32] (by decide) c hc)
    have t := hr i i0 i1
    have r := rc i i0 i1
    refine s_Latticefit_start_25 (d := d) hR2 ⟨fun q => by rw [em 3 (by decide)] at q; omega, fun _ => ?_⟩
    rw [em 12 (by decide), em 28 (by decide), em 32 (by decide), em 8 (by decide)]
    refine ⟨by omega, by omega, fun _ => ⟨by omega, by omega, by omega, ih _ ⟨fun c hc => by rw [ma_up_ck hc]; exact w1 c hc, fun j j0 j1 => ?_, fun c c0 c1 hc => ?_⟩ _⟩, fun q => by omega⟩
    · by_cases e : j = i
      · rw [e, ma_up_eq]
      · have r' := rc j j0 (by omega)
        have ne : μ 32 0 (μ 28 0 (μ 12 0 j)) ≠ μ 32 0 (μ 28 0 (μ 12 0 i)) := by
          intro z
          have y : μ 28 0 (μ 12 0 j) = μ 28 0 (μ 12 0 i) := by rw [← r'.2.2.2.2.1, ← r.2.2.2.2.1, z]
          exact e (cu_reg_inj Hc j0 (by omega) i0 i1 (by rw [← r'.2.2.2.2.2, ← r.2.2.2.2.2, y]))
        rw [ma_up_ne (fun z => ne z.2)]; exact w2 j j0 (by omega)
    · rw [ma_up_ne (fun z => hc i i0 (by omega) z.2.symm)]
      exact w3 c c0 c1 (fun j j0 j1 => hc j j0 (by omega))
  · intro m ⟨w1, w2, w3⟩ u2
    have e3 : m 3 = μ 3 := (w1 3 (by decide)).trans (mk2 [3] (by decide) 3 (by decide))
    refine s_Latticefit_start_25 (d := d) hR2 ⟨fun _ => k_LatticefitLaw_start_1 (d := d) hR ?_, fun q => by rw [e3] at q; omega⟩
    rw [e3]
    have g62 : ∀ j : Int, 0 ≤ j → j < μ 3 0 12 → m 62 0 (μ 32 0 (μ 28 0 (μ 12 0 j))) = μ 8 0 (μ 12 0 j) := w2
    refine h _ (fun c k1 k2 k3 k4 k5 k6 => by rw [ma_up_ck k1, w1 c k5, b1 c k6, a1 c k2 k3 k4 k5]) ma_up_eq (fun f i f0 f1 i0 i1 => by rw [ma_up_ck (by decide), w1 60 (by decide), b1 60 (by decide)]; exact a2 f i f0 f1 i0 i1) (fun j j0 j1 => by rw [ma_up_ck (by decide), w1 61 (by decide), b1 61 (by decide)]; exact a3 j j0 j1) (by rw [ma_up_ck (by decide), w1 57 (by decide), b1 57 (by decide)]; exact a5) (fun i i0 i1 hk => ?_) (fun c c0 c1 => ?_)
    · obtain ⟨j, j0, j1, ej⟩ := hrj i i0 i1 hk
      have x1 := b2 j j0 j1
      have x2 := g62 j j0 j1
      rw [ej] at x1 x2
      rw [ma_up_ck (by decide), ma_up_ck (by decide), w1 67 (by decide)]
      exact ⟨x1, x2⟩
    · rw [ma_up_ck (by decide)]
      by_cases e : ∃ j : Int, 0 ≤ j ∧ j < μ 3 0 12 ∧ μ 32 0 (μ 28 0 (μ 12 0 j)) = c
      · obtain ⟨j, j0, j1, ej⟩ := e
        have t := hr j j0 j1
        rw [← ej, g62 j j0 j1]
        exact ((hn _ t.1 t.2.1).2.2.2.1 t.2.2).2.2.2.2.2.2.2
      · exact .inl (w3 c c0 c1 (fun j j0 j1 z => e ⟨j, j0, j1, z⟩))
