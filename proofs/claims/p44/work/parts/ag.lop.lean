/-! the law's run: fourteen deeds; from its map on -/
theorem rg_69 {μ m : ma_M} {a : Int} (H : rg μ a) (hk : ∀ c : Nat, c ≠ 69 → c ≠ 70 → m c = μ c) (hl : ln m) : rg m a := by
  obtain ⟨h1, h2, h3, h4, h5, h6, h7, h8, h9⟩ := H
  have hx : ∀ (l : List Nat), (∀ c ∈ l, c ≠ 69 ∧ c ≠ 70) → ∀ c ∈ l, m c = μ c := fun l hl c hc => hk c (hl c hc).1 (hl c hc).2
  unfold rg
  rw [hk 2 (by decide) (by decide), hk 3 (by decide) (by decide), hk 4 (by decide) (by decide), hk 28 (by decide) (by decide), hk 32 (by decide) (by decide), hk 55 (by decide) (by decide), hk 57 (by decide) (by decide), hk 61 (by decide) (by decide), hk 62 (by decide) (by decide), hk 67 (by decide) (by decide)]
  exact ⟨rt_cgr (hx _ (by decide)) h1, hl, h3, h4, fr_congr (hx _ (by decide)) h5, h6, h7, h8, h9⟩
theorem law_loop {l : Launch} {L : Nat} {R : ma_J} (hR : ma_cl (ma_Ox L 10) (L, [], 2, 3000) (ma_at mb_law) (law_D 3000) R) (hls : l.stackTraces = false) (hL : L ≤ 260) (hC : mv_cl (mv_O l L 10) 3000 law_sites R) : ∀ (n : Nat) (μ : ma_M) (a v8 : Int) (k : Nat) (u3 u4 u5 u7 u9 u10 u11 u12 : ma_V), rg μ a → ns μ → fr_w μ (μ 60) → 0 ≤ a → a ≤ v8 → v8 + n = 14 → k + 60 * n ≤ 1900 → R 198 [ma_Rf 0 0, ma_Rf 69 0, ma_Rf 2 0, u3, u4, u5, ma_L a, u7, ma_I v8, u9, u10, u11, u12] [] k μ
  | 0, μ, a, v8, k, u3, u4, u5, u7, u9, u10, u11, u12, H, hn, hw, a0, a1, hv, hk => by
    refine s_law_198 (d := 1) hR ⟨fun _ => ⟨by omega, ?_⟩, fun q => by omega⟩
    refine sp_in (d := 8) (by decide) (by decide) (fun f hf f0 f1 => k_law_355 (d := 1) hR ⟨by show k + 0 + 0 ≤ 3000; omega, ?_⟩)
    refine sp_in (d := 8) (by decide) (by decide) (fun idx hi i0 i1 => k_law_366 (d := 1) hR ⟨by show k + 0 + 0 + 0 ≤ 3000; omega, ?_⟩)
    refine sp_in (d := 8) (by decide) (by decide) (fun bit hb b0 b1 => k_law_377 (d := 1) hR ⟨by show k + 0 + 0 + 0 + 3 ≤ 3000; omega, ?_⟩)
    exact law_flip hR hls hL hC H hn hw (by show k + 0 + 0 + 0 + 3 ≤ 2000; omega) f0 f1 i0 i1 b0 b1 ma_U ma_U ma_U ma_U ma_U ma_U ma_U ma_U
  | n + 1, μ, a, v8, k, u3, u4, u5, u7, u9, u10, u11, u12, H, hn, hw, a0, a1, hv, hk => by
    obtain ⟨l0, l1, l2, l3, Ln, Lo⟩ := id H.2.1
    have bn := H.2.2.2.1
    have st := H.2.2.1
    have J : ∀ (m : ma_M) (b : Int) (k' : Nat), rg m b → ns m → fr_w m (m 60) → 0 ≤ b → b ≤ v8 + 1 → k' ≤ k + 20 → R 335 [ma_Rf 0 0, ma_Rf 69 0, ma_Rf 2 0, ma_U, ma_U, ma_U, ma_L b, ma_U, ma_I v8, ma_U, ma_U, ma_U, ma_U] [ma_I 1, ma_Rf 69 0, ma_Rf 2 0] k' m := by
      intro m b k' Hm nm wm b0 b1 hk'
      refine hC 335 196 mi_LatticefitLaw_areOutputs [ma_Rf 2 0, ma_Rf 69 0, ma_I 1] [] _ _ _ _ (by decide) rfl rfl rfl (by decide) (by show k' + 40 ≤ 3000; omega) (ao_O l hls hL Hm nm (.inr ⟨rfl, wm⟩) (fun m2 hm2 => ?_) (fun _ _ z => z))
      show R 338 _ [ma_I 1] _ m2
      have ml : ∀ (l : List Nat), (∀ c ∈ l, c ∉ ao_l) → ∀ c ∈ l, m2 c = m c := fun l hl c hc => hm2 c (hl c hc)
      refine s_law_338 (d := 1) hR ⟨fun _ => ⟨by omega, ?_⟩, fun q => absurd q (by decide)⟩
      exact law_loop hR hls hL hC n m2 b (v8 + 1) _ _ _ _ _ _ _ _ _ (rg_congr (ml _ (by decide)) Hm) (ns_congr (ml _ (by decide)) nm) (by rw [hm2 60 (by decide)]; exact fr_congr (ml _ (by decide)) wm) b0 b1 (by omega) (by show k' + 40 + 60 * n ≤ 1900; omega)
    refine s_law_198 (d := 1) hR ⟨fun q => by omega, fun _ => ⟨by omega, by omega, by omega, by omega, ?_⟩⟩
    refine sp_in (d := 8) (by omega) (by omega) (fun inp hi i0 i1 => k_law_223 (d := 1) hR ⟨by show k + 0 + 0 ≤ 3000; omega, ?_⟩)
    refine sp_in (d := 8) (by omega) (by decide) (fun wh hwh w0 w1 => k_law_232 (d := 1) hR ⟨fun _ => ⟨by omega, by show k + 0 + 0 + 0 ≤ 3000; omega, ?_⟩, fun _ => ⟨by omega, by show k + 0 + 0 + 0 ≤ 3000; omega, ?_⟩⟩)
    · -- a tick
      refine sp_in (d := 8) (by omega) (by decide) (fun clk hclk c0 c1 => k_law_305 (d := 1) hR ?_)
      refine hC 308 189 mi_LatticefitLaw_ticks [ma_Rf 69 0, ma_I clk] [] _ _ _ _ (by decide) rfl rfl rfl (by decide) (by show k + 0 + 0 + 0 + 8 ≤ 3000; omega) (tk_O l hls hL H hn (fun m V hV hP => ?_) (fun _ _ z => z))
      obtain ⟨p1, p2, p3, p4⟩ := hP
      show R 311 _ [] _ m
      have pl : ∀ (l : List Nat), (∀ c ∈ l, c ≠ 69 ∧ c ≠ 70) → ∀ c ∈ l, m c = μ c := fun l hl c hc => p1 c (hl c hc).1 (hl c hc).2
      have Hm : rg m a := rg_69 H p1 p2
      have wm : fr_w m (m 60) := by rw [p1 60 (by decide) (by decide)]; exact fr_congr (pl _ (by decide)) hw
      have hVm : cv_ok m V (m 3 0 10) := cvk_congr (pl _ (by decide)) hV
      refine s_law_311 (d := 1) hR ⟨by omega, by show k + 0 + 0 + 0 + 8 + 0 ≤ 3000; omega, ?_⟩
      refine sp_in (d := 8) (by omega) (by decide) (fun clk2 hclk2 d0 d1 => k_law_318 (d := 1) hR ⟨by show k + 0 + 0 + 0 + 8 + 0 + 2 ≤ 3000; omega, ?_⟩)
      have ec : clk2 = clk := by rw [hclk2, hclk, p1 0 (by decide) (by decide)]
      rw [ec]
      refine sp_tick (d := 1) Hm wm ⟨a0, by omega⟩ c0 c1 hVm (fun m2 H2 q1 q2 => ?_)
      have ew : ma_wL (a + 1) = a + 1 := lg_wL_id (by omega)
      have ql : ∀ (l : List Nat), (∀ c ∈ l, c ≠ 57 ∧ c ≠ 62 ∧ c ≠ 63 ∧ c ≠ 64 ∧ c ≠ 65 ∧ c ≠ 67 ∧ c ≠ 68) → ∀ c ∈ l, m2 c = m c := fun l hl c hc => by
        obtain ⟨k1, k2, k3, k4, k5, k6, k7⟩ := hl c hc
        exact q1 c k1 k2 k3 k4 k5 k6 k7
      refine k_law_321 (d := 1) hR ⟨fun _ => ?_, fun q => absurd ew.symm q⟩
      rw [ew]
      refine J m2 (a + 1) _ H2 ⟨fun j j0 j1 => ?_, fun i j0 j1 hki => ?_⟩ ?_ (by omega) (by omega) (by show k + 0 + 0 + 0 + 8 + 0 + 2 ≤ k + 20; omega)
      · rw [ql [69] (by decide) 69 (by decide), ql [61] (by decide) 61 (by decide), p3 _ (by omega), p1 61 (by decide) (by decide)]
        exact hn.1 j j0 j1
      · rw [ql [3] (by decide) 3 (by decide), p1 3 (by decide) (by decide)] at j1
        rw [ql [4] (by decide) 4 (by decide), p1 4 (by decide) (by decide)] at hki
        rw [ql [69] (by decide) 69 (by decide), p4 i j0 j1 hki]
        have := q2 i j0 (by rw [p1 3 (by decide) (by decide)]; exact j1) (by rw [p1 4 (by decide) (by decide)]; exact hki)
        rw [p1 9 (by decide) (by decide), p1 7 (by decide) (by decide), p1 67 (by decide) (by decide)] at this
        exact this.symm
      · rw [ql [60] (by decide) 60 (by decide)]
        exact fr_congr (ql _ (by decide)) wm
    · -- an input
      refine sp_in (d := 8) (by omega) (by decide) (fun v hv v0 v1 => ?_)
      have I6 := H.1.1.1.2.2.2.1
      have g01 := H.2.2.2.2.2.1 inp i0 (by omega)
      have n61 := hn.1 inp i0 (by omega)
      have key : ∀ (x o : Int) (k' : Nat), x = v → o = μ 61 0 inp → k' ≤ k + 20 → ma_ct (ma_Ox L 10) (L, [], 2, 3000) 263 [ma_Rf 0 0, ma_Rf 69 0, ma_Rf 2 0, ma_U, ma_U, ma_U, ma_L a, ma_U, ma_I v8, ma_U, ma_I inp, ma_I v, ma_U] [] k' mt_law_266 R (law_D 3000) (.inl (some (ma_I o))) (ma_up μ 61 0 inp x) := by
        intro x o k' hx ho hk'
        subst hx
        subst ho
        refine k_law_263 (d := 1) hR ?_
        rw [show ma_up μ 61 0 inp x 69 0 (410 + inp) = μ 69 0 (410 + inp) from by rw [ma_up_ck (by decide)]]
        refine ⟨by omega, by omega, fun _ => ?_, fun q => absurd n61.symm q⟩
        obtain ⟨m, hm⟩ : ∃ m, m = ma_up (ma_up μ 61 0 inp x) 69 0 (410 + inp) x := ⟨_, rfl⟩
        rw [← hm]
        have mk : ∀ c : Nat, c ≠ 61 → c ≠ 69 → m c = μ c := fun c c1 c2 => by rw [hm, ma_up_ck c2, ma_up_ck c1]
        have ml : ∀ (l : List Nat), (∀ c ∈ l, c ≠ 61 ∧ c ≠ 69) → ∀ c ∈ l, m c = μ c := fun l hl c hc => mk c (hl c hc).1 (hl c hc).2
        have m61 : ∀ j : Int, m 61 0 j = if j = inp then x else μ 61 0 j := fun j => by rw [hm]; simp [ma_up_rd]
        have m69 : ∀ j : Int, m 69 0 j = if j = 410 + inp then x else μ 69 0 j := fun j => by rw [hm]; simp [ma_up_rd]
        have lnm : ln m := ln_69 H.2.1 bn.2.1 (ml _ (by decide)) (fun j j0 j1 => by rw [m69, if_neg (by omega)]) (fun i c i0' i1' c0 c1 c2 => by rw [m69, if_neg (by omega)]) (fun j j0 j1 => by rw [m69, if_neg (by omega)])
        have Hm : rg m a := by
          obtain ⟨h1, h2, h3, h4, h5, h6, h7, h8, h9⟩ := H
          unfold rg
          rw [mk 2 (by decide) (by decide), mk 3 (by decide) (by decide), mk 4 (by decide) (by decide), mk 28 (by decide) (by decide), mk 32 (by decide) (by decide), mk 55 (by decide) (by decide), mk 57 (by decide) (by decide), mk 62 (by decide) (by decide), mk 67 (by decide) (by decide)]
          refine ⟨rt_cgr (ml _ (by decide)) h1, lnm, h3, h4, fr_congr (ml _ (by decide)) h5, fun j j0 j1 => ?_, h7, h8, h9⟩
          rw [m61]
          split
          · omega
          · exact h6 j j0 j1
        refine J m a k' Hm ⟨fun j j0 j1 => ?_, fun i j0 j1 hki => ?_⟩ ?_ a0 (by omega) hk'
        · rw [m69, m61]
          by_cases e : j = inp
          · rw [if_pos (by omega), if_pos e]
          · rw [if_neg (by omega), if_neg e]; exact hn.1 j j0 j1
        · rw [mk 3 (by decide) (by decide)] at j1
          rw [mk 4 (by decide) (by decide)] at hki
          rw [m69, if_neg (by omega), mk 67 (by decide) (by decide)]
          exact hn.2 i j0 j1 hki
        · rw [mk 60 (by decide) (by decide)]
          exact fr_congr (ml _ (by decide)) hw
      refine k_law_244 (d := 1) hR ⟨fun q => ⟨by show k + 0 + 0 + 0 + 2 ≤ 3000; omega, ?_⟩, fun q => ⟨by show k + 0 + 0 + 0 + 2 ≤ 3000; omega, ?_⟩⟩
      · have k0 := fun o ho => key 0 o (k + 0 + 0 + 0 + 2) (by omega) ho (by show k + 0 + 0 + 0 + 2 ≤ k + 20; omega)
        exact w_LatticefitLaw_setInput (d := 7) ⟨fun q => by omega, fun _ => ⟨fun _ => ⟨fun _ => ⟨by omega, fun q1 => ⟨fun _ => k0 0 q1.symm, fun q2 => absurd rfl q2⟩, fun q1 => ⟨fun _ => k0 1 (by omega), fun q2 => absurd rfl q2⟩⟩, fun q => by omega⟩, fun q => by omega⟩⟩
      · have k1 := fun o ho => key 1 o (k + 0 + 0 + 0 + 2) (by omega) ho (by show k + 0 + 0 + 0 + 2 ≤ k + 20; omega)
        exact w_LatticefitLaw_setInput (d := 7) ⟨fun q => by omega, fun _ => ⟨fun _ => ⟨fun _ => ⟨by omega, fun q1 => ⟨fun q2 => absurd q2 (by decide), fun _ => k1 0 q1.symm⟩, fun q1 => ⟨fun q2 => absurd q2 (by decide), fun _ => k1 1 (by omega)⟩⟩, fun q => by omega⟩, fun q => by omega⟩⟩
