/-! the running chip: outputs, agrees, ticks -/
def rg (μ : ma_M) (a : Int) : Prop := rt μ ∧ ln μ ∧ μ 2 0 10 = 4 ∧ (1 ≤ μ 3 0 10 ∧ μ 3 0 10 ≤ 24 ∧ 1 ≤ μ 3 0 11 ∧ μ 3 0 11 ≤ 4 ∧ 1 ≤ μ 3 0 13 ∧ μ 3 0 13 ≤ 4) ∧ fr_w μ (μ 55) ∧ (∀ j : Int, 0 ≤ j → j < 6 → μ 61 0 j = 0 ∨ μ 61 0 j = 1) ∧ (∀ i : Int, 0 ≤ i → i < μ 3 0 10 → μ 4 0 i = 114 → (μ 67 0 i = 0 ∨ μ 67 0 i = 1) ∧ μ 62 0 (μ 32 0 (μ 28 0 i)) = μ 67 0 i) ∧ (∀ c : Int, 0 ≤ c → c < 36 → μ 62 0 c = 0 ∨ μ 62 0 c = 1) ∧ μ 57 0 3 = a
/-- the net's inputs and registers are the chip's -/
def ns (μ : ma_M) : Prop := (∀ j : Int, 0 ≤ j → j < 6 → μ 69 0 (410 + j) = μ 61 0 j) ∧ (∀ i : Int, 0 ≤ i → i < μ 3 0 10 → μ 4 0 i = 114 → μ 69 0 (10 + 8 * i + 6) = μ 67 0 i)
def rg_cs : List Nat := [1, 3, 4, 5, 6, 7, 8, 9, 10, 11, 12, 13, 20, 21, 22, 23, 24, 25, 27, 28, 29, 32, 33, 34, 42, 44, 2, 55, 57, 61, 62, 67, 69]
theorem ln_congr {μ m : ma_M} (h : ∀ k ∈ ([3, 4, 5, 6, 7, 8, 9, 10, 13, 69] : List Nat), m k = μ k) (H : ln μ) : ln m := by
  unfold ln ln_n at H ⊢
  rw [h 3 (by decide), h 4 (by decide), h 5 (by decide), h 6 (by decide), h 7 (by decide), h 8 (by decide), h 9 (by decide), h 10 (by decide), h 13 (by decide), h 69 (by decide)]
  exact H
theorem rg_congr {μ m : ma_M} {a : Int} (h : ∀ k ∈ rg_cs, m k = μ k) (H : rg μ a) : rg m a := by
  have hl : ∀ (l : List Nat), (∀ c ∈ l, c ∈ rg_cs) → ∀ c ∈ l, m c = μ c := fun l hl c hc => h c (hl c hc)
  obtain ⟨h1, h2, h3, h4, h5, h6, h7, h8, h9⟩ := H
  unfold rg
  rw [h 2 (by decide), h 3 (by decide), h 4 (by decide), h 28 (by decide), h 32 (by decide), h 55 (by decide), h 57 (by decide), h 61 (by decide), h 62 (by decide), h 67 (by decide)]
  exact ⟨rt_cgr (hl _ (by decide)) h1, ln_congr (hl _ (by decide)) h2, h3, h4, fr_congr (hl _ (by decide)) h5, h6, h7, h8, h9⟩
theorem ns_congr {μ m : ma_M} (h : ∀ k ∈ ([3, 4, 61, 67, 69] : List Nat), m k = μ k) (H : ns μ) : ns m := by
  unfold ns at H ⊢
  rw [h 3 (by decide), h 4 (by decide), h 61 (by decide), h 67 (by decide), h 69 (by decide)]
  exact H
theorem rg_in {μ : ma_M} {a : Int} (H : rg μ a) : cv_in μ := ⟨H.2.2.2.2.2.1, fun i i0 i1 hk => (H.2.2.2.2.2.2.1 i i0 i1 hk).1⟩
theorem rg_E {μ : ma_M} {a : Int} (H : rg μ a) (hw : fr_w μ (μ 60)) {V : Int → Int} (hV : cv_ok μ V (μ 3 0 10)) : tb_E μ (μ 60) V (μ 61 0) (μ 62 0) := by
  obtain ⟨u, F, -⟩ := H.1.1.2.2.2
  refine ⟨rt_bd H.1, hw, hV, fun n n0 n1 hk => ?_, fun n n0 n1 hk => ?_, u, F⟩
  · rw [(hV n n0 n1).2]; unfold cv_eq; rw [if_pos hk]
  · rw [(H.2.2.2.2.2.2.1 n n0 n1 hk).2, (hV n n0 n1).2]
    unfold cv_eq
    rw [if_neg (by omega), if_pos hk]
theorem rg_o {μ : ma_M} {a : Int} (H : rg μ a) {V : Int → Int} (hV : cv_ok μ V (μ 3 0 10)) {o : Int} (o0 : 0 ≤ o) (o1 : o < μ 3 0 13) : 0 ≤ μ 13 0 o ∧ μ 13 0 o < μ 3 0 10 ∧ (V (μ 13 0 o) = 0 ∨ V (μ 13 0 o) = 1) := by
  have oo := H.1.1.1.2.2.2.2.2.2.2.2.2.2.2.2.2.2.2.2.2 o o0 o1
  exact ⟨oo.2.1, oo.2.2, (hV _ oo.2.1 oo.2.2).1⟩
theorem sp_cirOut {LS d : Nat} {Post : ma_R → ma_M → Prop} {μ : ma_M} {a o : Int} (H : rg μ a) {V : Int → Int} (hV : cv_ok μ V (μ 3 0 10)) (o0 : 0 ≤ o) (o1 : o < μ 3 0 13) (h : ∀ m : ma_M, (∀ c : Nat, c ≠ 68 → m c = μ c) → Post (.inl (some (ma_I (V (μ 13 0 o))))) m) : ma_Ox LS (d + 4) mi_LatticefitLaw_circuitOutput [ma_Rf 2 0, ma_I o] μ Post := by
  have Hc := H.1.1.1
  have st := H.2.2.1
  have bn := H.2.2.2.1
  refine gi_LatticefitLaw_circuitOutput (fun R hR => s_LatticefitLaw_circuitOutput_0 (d := d) hR ?_)
  refine gi_Latticefit_circuitOutput (fun R2 hR2 => s_Latticefit_circuitOutput_0 (d := d) hR2 ⟨fun q => by omega, fun _ => ⟨fun _ => ⟨fun _ => ?_, fun q => by omega⟩, fun q => by omega⟩⟩)
  refine sp_findValues (d := d) Hc (rg_in H) (fun m a1 a2 => k_Latticefit_circuitOutput_16 (d := d) hR2 ?_)
  have r := rg_o H hV o0 o1
  rw [a1 13 (by decide)]
  have e : m 68 0 (μ 13 0 o) = V (μ 13 0 o) := by
    have := cv_uniq Hc a2 hV (μ 13 0 o).toNat (by omega)
    rw [show (((μ 13 0 o).toNat : Nat) : Int) = μ 13 0 o from by omega] at this
    exact this
  rw [e]
  have h := h m a1
  refine ⟨by omega, by omega, fun q => k_LatticefitLaw_circuitOutput_2 (d := d) hR ⟨fun _ => ?_, fun q2 => absurd rfl q2⟩, fun q => k_LatticefitLaw_circuitOutput_2 (d := d) hR ⟨fun q2 => absurd q2 (by decide), fun _ => ?_⟩⟩
  · rw [q] at h; exact h
  · rw [show V (μ 13 0 o) = 1 from by omega] at h; exact h
theorem sp_cirOut0 {LS d : Nat} {Post : ma_R → ma_M → Prop} {μ : ma_M} {o : Int} (hb : o < 0 ∨ μ 3 0 13 ≤ o) (h : Post (.inl (some (ma_I (-900001)))) μ) : ma_Ox LS (d + 4) mi_LatticefitLaw_circuitOutput [ma_Rf 2 0, ma_I o] μ Post := by
  refine gi_LatticefitLaw_circuitOutput (fun R hR => s_LatticefitLaw_circuitOutput_0 (d := d) hR ?_)
  have fin : R 14 [ma_Rf 2 0, ma_I o, ma_U] [ma_X 3] 2 μ := g_LatticefitLaw_circuitOutput_14 hR ⟨Nat.le_refl 2, h⟩
  refine gi_Latticefit_circuitOutput (fun R2 hR2 => s_Latticefit_circuitOutput_0 (d := d) hR2 ⟨fun _ => ?_, fun _ => ⟨fun q => by omega, fun _ => ?_⟩⟩)
  · exact fin
  · exact fin
theorem sp_chOut {LS d : Nat} {Post : ma_R → ma_M → Prop} {μ : ma_M} {a o : Int} (H : rg μ a) (hw : fr_w μ (μ 60)) {V : Int → Int} (hV : cv_ok μ V (μ 3 0 10)) (o0 : 0 ≤ o) (o1 : o < μ 3 0 13) (h : ∀ m : ma_M, (∀ c : Nat, c ≠ 63 → c ≠ 64 → c ≠ 65 → m c = μ c) → Post (.inl (some (ma_I (V (μ 13 0 o))))) m) : ma_Ox LS (d + 8) mi_LatticefitLaw_chipOutput [ma_Rf 2 0, ma_I o] μ Post := by
  have st := H.2.2.1
  have bn := H.2.2.2.1
  refine gi_LatticefitLaw_chipOutput (fun R hR => s_LatticefitLaw_chipOutput_0 (d := d) hR ?_)
  refine gi_Latticefit_chipOutput (fun R2 hR2 => s_Latticefit_chipOutput_0 (d := d) hR2 ⟨fun q => by omega, fun _ => ⟨fun _ => ⟨fun _ => ?_, fun q => by omega⟩, fun q => by omega⟩⟩)
  refine sp_findTables (d := d) (fun m a1 a2 => k_Latticefit_chipOutput_9 (d := d) hR2 ?_)
  have r := rg_o H hV o0 o1
  refine sp_outputValue (d := d + 1) o0 (by omega) a2 (k_Latticefit_chipOutput_17 (d := d) hR2 ?_)
  have e := tb_out (rg_E H hw hV) o0 o1 (T := 40) (by omega)
  rw [a1 60 (by decide) (by decide) (by decide), a1 61 (by decide) (by decide) (by decide), a1 62 (by decide) (by decide) (by decide), e]
  have h := h m a1
  refine ⟨fun q => k_LatticefitLaw_chipOutput_2 (d := d) hR ⟨fun _ => ?_, fun q2 => absurd rfl q2⟩, fun q => k_LatticefitLaw_chipOutput_2 (d := d) hR ⟨fun q2 => absurd q2 (by decide), fun _ => ?_⟩⟩
  · rw [q] at h; exact h
  · rw [show V (μ 13 0 o) = 1 from by omega] at h; exact h
theorem sp_chOut0 {LS d : Nat} {Post : ma_R → ma_M → Prop} {μ : ma_M} {o : Int} (hb : o < 0 ∨ μ 3 0 13 ≤ o) (h : Post (.inl (some (ma_I (-900001)))) μ) : ma_Ox LS (d + 8) mi_LatticefitLaw_chipOutput [ma_Rf 2 0, ma_I o] μ Post := by
  refine gi_LatticefitLaw_chipOutput (fun R hR => s_LatticefitLaw_chipOutput_0 (d := d) hR ?_)
  have fin : R 14 [ma_Rf 2 0, ma_I o, ma_U] [ma_X 3] 2 μ := g_LatticefitLaw_chipOutput_14 hR ⟨Nat.le_refl 2, h⟩
  refine gi_Latticefit_chipOutput (fun R2 hR2 => s_Latticefit_chipOutput_0 (d := d) hR2 ⟨fun _ => ?_, fun _ => ⟨fun q => by omega, fun _ => ?_⟩⟩)
  · exact fin
  · exact fin
theorem sp_agr {LS d : Nat} {Post : ma_R → ma_M → Prop} {μ : ma_M} {a : Int} (H : rg μ a) (hw : fr_w μ (μ 60)) (h : ∀ m : ma_M, (∀ c : Nat, c ≠ 63 → c ≠ 64 → c ≠ 65 → c ≠ 68 → m c = μ c) → Post (.inl (some (ma_I 1))) m) : ma_Ox LS (d + 8) mi_LatticefitLaw_agrees [ma_Rf 2 0] μ Post := by
  have Hc := H.1.1.1
  have Hmm := H.1.1.2.2.1
  have Hpp := H.1.2.1
  have st := H.2.2.1
  have bn := H.2.2.2.1
  have HC := Hc
  obtain ⟨N0, N1, I0, I1, R0, R1, O0, O1, n8, n9, n10, n11, hn, hin, hr, _, hrj, hoo⟩ := HC
  have M7 := Hmm.2.1
  have rc : ∀ i : Int, 0 ≤ i → i < μ 3 0 10 → μ 4 0 i = 114 → 0 ≤ μ 28 0 i ∧ μ 28 0 i < μ 21 0 7 ∧ 0 ≤ μ 32 0 (μ 28 0 i) ∧ μ 32 0 (μ 28 0 i) < 36 := by
    intro i i0 i1 k
    have mm := Hmm.2.2.2.1 i i0 i1
    have b0 : 0 ≤ μ 28 0 i := mm.2.2.2.2.2.2.2.1.2 (.inl k)
    have pp := Hpp.1 _ b0 mm.2.2.2.2.2.2.1
    exact ⟨b0, mm.2.2.2.2.2.2.1, pp.2.1, pp.2.2.1⟩
  refine gi_LatticefitLaw_agrees (fun R hR => s_LatticefitLaw_agrees_0 (d := d) hR ?_)
  refine gi_Latticefit_agrees (fun R2 hR2 => s_Latticefit_agrees_0 (d := d) hR2 ⟨fun _ => ?_, fun q => by omega⟩)
  refine sp_findValues (d := d + 4) Hc (rg_in H) (fun m1 a1 a2 => k_Latticefit_agrees_16 (d := d) hR2 ?_)
  refine sp_findTables (d := d) (fun m2 b1 b2 => k_Latticefit_agrees_23 (d := d) hR2 ?_)
  rw [a1 60 (by decide), a1 61 (by decide), a1 62 (by decide)] at b2
  have em : ∀ c : Nat, c ≠ 63 → c ≠ 64 → c ≠ 65 → c ≠ 68 → m2 c = μ c := fun c k1 k2 k3 k4 => by rw [b1 c k1 k2 k3]; exact a1 c k4
  have e68 : m2 68 = m1 68 := b1 68 (by decide) (by decide) (by decide)
  have E := rg_E H hw a2
  have e3 : m2 3 = μ 3 := em 3 (by decide) (by decide) (by decide) (by decide)
  have e13 : m2 13 = μ 13 := em 13 (by decide) (by decide) (by decide) (by decide)
  refine ma_cnt (σ := Unit) (N := μ 3 0 13) (P := fun o _ => ∀ u : ma_V, R2 28 [ma_Rf 2 0, ma_I o, u] [] 1 m2) (I := fun _ _ => True) ?_ ?_ 0 () (by omega) (by omega) trivial _
  · intro o _ o0 o1 _ ih u
    have oo := hoo o o0 o1
    refine s_Latticefit_agrees_28 (d := d) hR2 ⟨fun q => by rw [e3] at q; omega, fun _ => ?_⟩
    rw [e13, e68]
    refine ⟨by omega, by omega, sp_outputValue (d := d + 1) o0 (by omega) b2 (k_Latticefit_agrees_52 (d := d) hR2 ?_)⟩
    rw [em 60 (by decide) (by decide) (by decide) (by decide), em 61 (by decide) (by decide) (by decide) (by decide), em 62 (by decide) (by decide) (by decide) (by decide), tb_out E o0 o1 (T := 40) (by omega)]
    exact ⟨fun _ => ⟨by omega, ih () trivial _⟩, fun q => absurd rfl q⟩
  · intro _ _ u
    refine s_Latticefit_agrees_28 (d := d) hR2 ⟨fun _ => ?_, fun q => by rw [e3] at q; omega⟩
    refine ma_cnt (σ := Unit) (N := μ 3 0 12) (P := fun j _ => ∀ u : ma_V, R2 68 [ma_Rf 2 0, ma_I j, u] [] 1 m2) (I := fun _ _ => True) ?_ ?_ 0 () (by omega) (by omega) trivial _
    · intro j _ j0 j1 _ ih u
      have t := hr j j0 j1
      have r := rc _ t.1 t.2.1 t.2.2
      have g := (H.2.2.2.2.2.2.1 _ t.1 t.2.1 t.2.2).2
      refine s_Latticefit_agrees_68 (d := d) hR2 ⟨fun q => by rw [e3] at q; omega, fun _ => ?_⟩
      rw [em 12 (by decide) (by decide) (by decide) (by decide), em 28 (by decide) (by decide) (by decide) (by decide), em 32 (by decide) (by decide) (by decide) (by decide), em 62 (by decide) (by decide) (by decide) (by decide), em 67 (by decide) (by decide) (by decide) (by decide)]
      exact ⟨by omega, by omega, fun _ => ⟨by omega, by omega, fun q => ⟨by omega, ih () trivial _⟩, fun q => absurd g.symm q⟩, fun q => by omega⟩
    · intro _ _ u
      exact s_Latticefit_agrees_68 (d := d) hR2 ⟨fun _ => k_LatticefitLaw_agrees_1 (d := d) hR ⟨fun q => absurd q (by decide), fun _ => h m2 em⟩, fun q => by rw [e3] at q; omega⟩
theorem sp_tick {LS d : Nat} {Post : ma_R → ma_M → Prop} {μ : ma_M} {a clk : Int} (H : rg μ a) (hw : fr_w μ (μ 60)) (ha : 0 ≤ a ∧ a ≤ 1000) (c0 : 0 ≤ clk) (c1 : clk < 3) {V : Int → Int} (hV : cv_ok μ V (μ 3 0 10)) (h : ∀ m : ma_M, rg m (a + 1) → (∀ c : Nat, c ≠ 57 → c ≠ 62 → c ≠ 63 → c ≠ 64 → c ≠ 65 → c ≠ 67 → c ≠ 68 → m c = μ c) → (∀ i : Int, 0 ≤ i → i < μ 3 0 10 → μ 4 0 i = 114 → m 67 0 i = if μ 9 0 i = clk then V (μ 7 0 i) else μ 67 0 i) → Post (.inl (some (ma_L (a + 1)))) m) : ma_Ox LS (d + 9) mi_LatticefitLaw_tick [ma_Rf 2 0, ma_I clk] μ Post := by
  have Hc := H.1.1.1
  have st := H.2.2.1
  have bn := H.2.2.2.1
  refine gi_LatticefitLaw_tick (fun R hR => s_LatticefitLaw_tick_0 (d := d) hR ?_)
  refine gi_Latticefit_tick (fun R2 hR2 => s_Latticefit_tick_0 (d := d) hR2 ⟨fun q => by omega, fun _ => ⟨fun _ => ⟨fun _ => ?_, fun q => by omega⟩, fun q => by omega⟩⟩)
  refine sp_runTick (d := d + 4) Hc (rg_in H) (fun m1 v a1 a2 a3 => k_Latticefit_tick_34 (d := d) hR2 ?_)
  have e60 : m1 60 = μ 60 := a1 60 (by decide) (by decide)
  refine sp_chipTick (d := d) (fun f i f0 f1 i0 i1 => by rw [e60]; exact fr_rng (rt_bd H.1) hw f0 f1 i0 i1) (fun m b1 b2 b3 => k_Latticefit_tick_42 (d := d) hR2 ?_)
  rw [e60, a1 61 (by decide) (by decide), a1 62 (by decide) (by decide)] at b2
  have em : ∀ c : Nat, c ≠ 57 → c ≠ 62 → c ≠ 63 → c ≠ 64 → c ≠ 65 → c ≠ 67 → c ≠ 68 → m c = μ c := fun c k1 k2 k3 k4 k5 k6 k7 => by rw [b1 c k1 k2 k3 k4 k5]; exact a1 c k6 k7
  have e57 : m 57 0 3 = a + 1 := by
    rw [b3, a1 57 (by decide) (by decide), H.2.2.2.2.2.2.2.2]
    exact lg_wL_id (by omega)
  have E := rg_E H hw hV
  have e67 : ∀ i : Int, 0 ≤ i → i < μ 3 0 10 → μ 4 0 i = 114 → m 67 0 i = if μ 9 0 i = clk then V (μ 7 0 i) else μ 67 0 i := fun i i0 i1 hk => by
    have f := (Hc.2.2.2.2.2.2.2.2.2.2.2.2.1 i i0 i1).2.2.2.1 hk
    rw [b1 67 (by decide) (by decide) (by decide) (by decide) (by decide), a3 i i0 i1 hk]
    have := cv_uniq Hc a2 hV (μ 7 0 i).toNat (by omega)
    rw [show (((μ 7 0 i).toNat : Nat) : Int) = μ 7 0 i from by omega] at this
    rw [this]
  rw [e57]
  refine k_LatticefitLaw_tick_2 (d := d) hR (h m ?_ em e67)
  obtain ⟨h1, h2, h3, h4, h5, h6, h7, h8, h9⟩ := H
  have hl : ∀ (l : List Nat), (∀ c ∈ l, c ≠ 57 ∧ c ≠ 62 ∧ c ≠ 63 ∧ c ≠ 64 ∧ c ≠ 65 ∧ c ≠ 67 ∧ c ≠ 68) → ∀ c ∈ l, m c = μ c := fun l hl c hc => by
    obtain ⟨k1, k2, k3, k4, k5, k6, k7⟩ := hl c hc
    exact em c k1 k2 k3 k4 k5 k6 k7
  have hx : ∀ k : Nat, k ≠ 57 ∧ k ≠ 62 ∧ k ≠ 63 ∧ k ≠ 64 ∧ k ≠ 65 ∧ k ≠ 67 ∧ k ≠ 68 → m k = μ k := fun k hk => em k hk.1 hk.2.1 hk.2.2.1 hk.2.2.2.1 hk.2.2.2.2.1 hk.2.2.2.2.2.1 hk.2.2.2.2.2.2
  unfold rg
  rw [hx 2 (by decide), hx 3 (by decide), hx 4 (by decide), hx 28 (by decide), hx 32 (by decide), hx 55 (by decide), hx 61 (by decide)]
  refine ⟨rt_cgr (hl _ (by decide)) h1, ln_congr (hl _ (by decide)) h2, h3, h4, fr_congr (hl _ (by decide)) h5, h6, fun i i0 i1 hk => ?_, fun c c0' c1' => ?_, e57⟩
  · have g := h7 i i0 i1 hk
    have f := (Hc.2.2.2.2.2.2.2.2.2.2.2.2.1 i i0 i1).2.2.2.1 hk
    have tn : tm_n μ i := ⟨i0, i1, .inr (.inl hk)⟩
    have ce : 0 ≤ μ 32 0 (μ 28 0 i) ∧ μ 32 0 (μ 28 0 i) < 36 := by
      rcases bE_of (rt_bd h1).1 tn with ⟨x, _⟩ | ⟨x, y⟩
      · omega
      · exact ⟨y.2.2.1, y.2.2.2.1⟩
    rw [e67 i i0 i1 hk, b2 _ ce.1 ce.2, tb_tick E (by omega) i0 i1 hk, g.2]
    refine ⟨?_, rfl⟩
    split
    · exact (hV _ f.2.1 (by omega)).1
    · exact g.1
  · rw [b2 c c0' c1']
    unfold ch_tk
    split
    · exact ch_T_01 40 c
    · exact h8 c c0' c1'
theorem sp_tick0 {LS d : Nat} {Post : ma_R → ma_M → Prop} {μ : ma_M} (h : Post (.inl (some (ma_L (-900001)))) μ) : ma_Ox LS (d + 9) mi_LatticefitLaw_tick [ma_Rf 2 0, ma_I 3] μ Post := by
  refine gi_LatticefitLaw_tick (fun R hR => s_LatticefitLaw_tick_0 (d := d) hR ?_)
  refine gi_Latticefit_tick (fun R2 hR2 => s_Latticefit_tick_0 (d := d) hR2 ⟨fun q => by omega, fun _ => ⟨fun q => by omega, fun _ => ?_⟩⟩)
  show R 6 [ma_Rf 2 0, ma_I 3, ma_U] [ma_X 2] 2 μ
  exact g_LatticefitLaw_tick_6 hR ⟨Nat.le_refl 2, h⟩
