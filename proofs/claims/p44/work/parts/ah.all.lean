/-! the law's run from its map on -/
theorem law_run (l : Launch) (hls : l.stackTraces = false) {L : Nat} (hL : L ≤ 260) {μ : ma_M} (HP : bg_P μ) : mv_run (ma_Ox L 10) (mv_O l L 10) 3000 law_sites (L, [], 2, 3000) (ma_at mb_law) (law_D 3000) 33 [ma_Rf 0 0, ma_Rf 69 0, ma_Rf 2 0, ma_U, ma_U, ma_U, ma_U, ma_U, ma_U, ma_U, ma_U, ma_U, ma_U] [] 0 μ := by
  intro R hR hC
  obtain ⟨⟨Hc, Hz, Hs, Hl, H0⟩, n1, n24, i1, i4, o1, o4⟩ := HP
  refine s_law_33 (d := 1) hR ⟨by omega, ?_⟩
  refine sp_map (d := 3) Hc Hz (by omega) (fun m => ?_) (fun m1 M1 P1 f1 s1 z1 => ?_)
  · exact k_law_34 (d := 1) hR ⟨fun q => absurd q (by decide), fun _ => ⟨fun q => absurd rfl q, fun _ => ⟨rfl, by show 0 + 1 ≤ 3000; omega⟩⟩⟩
  have B0 := M1.2.2.1.1
  refine k_law_34 (d := 1) hR ⟨fun _ => ⟨by omega, ?_⟩, fun q => by omega⟩
  refine sp_in (d := 8) (by decide) (by decide) (fun v1 e1 a0 a1 => k_law_62 (d := 1) hR ⟨by omega, ?_⟩)
  refine sp_in (d := 8) (by decide) (by decide) (fun v2 e2 b0 b1 => k_law_72 (d := 1) hR ⟨by omega, by omega, ?_⟩)
  refine sp_in (d := 8) (by decide) (by decide) (fun v3 e3 c0 c1 => k_law_83 (d := 1) hR ⟨by omega, by omega, ?_⟩)
  refine sp_anneal (d := 3) M1 P1 s1 ⟨a0, by omega⟩ ⟨by omega, by omega⟩ ⟨by omega, by omega⟩ (fun sw m2 sw0 M2 P2 f2 s2 => k_law_87 (d := 1) hR ⟨by omega, ?_⟩)
  refine sp_route (d := 2) M2 P2 (by omega) (fun rd m3 r0 r1 M3 P3 f3 s3 => ?_)
  have g3 : ∀ c : Nat, c ∈ ([3, 4, 5, 6, 7, 8, 9, 10, 13, 69] : List Nat) → m3 c = μ c := fun c hc => by
    rw [f3 c (by revert hc; revert c; decide), f2 c (by revert hc; revert c; decide), f1 c (by rintro rfl; revert hc; decide) (by revert hc; simp only [List.mem_cons, List.not_mem_nil, or_false]; omega)]
  have e21 : m3 21 = m1 21 := by rw [f3 21 (by decide), f2 21 (by decide)]
  refine k_law_95 (d := 1) hR ⟨fun q => by omega, fun _ => ⟨fun q => by omega, fun _ => ⟨fun q => by omega, fun _ => ⟨by omega, fun q => ⟨by omega, ?_⟩, fun q => ⟨by omega, ?_⟩⟩⟩⟩⟩
  · -- not routed
    have rd20 : rd = 20 := by rcases s3 with z | z; exact z.2; omega
    refine sp_build0 (d := 1) q (k_law_123 (d := 1) hR ⟨fun _ => ⟨fun _ => ⟨by omega, fun _ => ⟨fun q2 => absurd rd20 q2, fun _ => ⟨by omega, ?_⟩⟩, fun q2 => by omega⟩, fun q2 => absurd rfl q2⟩, fun q2 => absurd q2 (by decide)⟩)
    exact sp_start0 (d := 6) (by omega) (k_law_154 (d := 1) hR ⟨fun q2 => absurd rfl q2, fun _ => ⟨rfl, by show 0 + 1 + 2 + 2 + 1 + 1 ≤ 3000; omega⟩⟩)
  · -- routed
    have s3' : m3 2 0 10 = 2 ∧ rl_r m3 := by rcases s3 with z | z; omega; exact z
    have T3 : rt m3 := ⟨M3, P3, s3'.2⟩
    refine sp_build (d := 1) T3 s3'.1 (fun us m4 us0 f4 s4 w4 => ?_)
    have l4 : ∀ (l : List Nat), (∀ c ∈ l, c ≠ 2 ∧ c ≠ 55) → ∀ c ∈ l, m4 c = m3 c := fun l hl c hc => f4 c (hl c hc).1 (hl c hc).2
    have T4 : rt m4 := rt_cgr (l4 _ (by decide)) T3
    have w4' : fr_w m4 (m4 55) := fr_congr (l4 _ (by decide)) w4
    refine k_law_123 (d := 1) hR ⟨fun q2 => by omega, fun _ => ⟨fun _ => ⟨by omega, fun q2 => by omega, fun _ => ⟨by omega, ?_⟩⟩, fun q2 => absurd rfl q2⟩⟩
    refine sp_start (d := 6) T4 s4 (fun m5 f5 s5 w5 z61 z57 z67 z62 => ?_)
    have l5 : ∀ (l : List Nat), (∀ c ∈ l, c ≠ 2 ∧ c ≠ 57 ∧ c ≠ 60 ∧ c ≠ 61 ∧ c ≠ 62 ∧ c ≠ 67) → ∀ c ∈ l, m5 c = m4 c := fun l hl c hc => by
      obtain ⟨k1, k2, k3, k4, k5, k6⟩ := hl c hc
      exact f5 c k1 k2 k3 k4 k5 k6
    have T5 : rt m5 := rt_cgr (l5 _ (by decide)) T4
    have g5 : ∀ c : Nat, c ∈ ([3, 4, 5, 6, 7, 8, 9, 10, 13, 69] : List Nat) → m5 c = μ c := fun c hc => by
      rw [l5 [3, 4, 5, 6, 7, 8, 9, 10, 13, 69] (by decide) c hc, l4 [3, 4, 5, 6, 7, 8, 9, 10, 13, 69] (by decide) c hc, g3 c hc]
    have ln5 : ln m5 := ln_congr g5 Hl
    have e3 : m5 3 = μ 3 := g5 3 (by decide)
    have e43 : m4 3 = m5 3 := (l5 [3] (by decide) 3 (by decide)).symm
    have w55 : fr_w m5 (m5 55) := by rw [l5 [55] (by decide) 55 (by decide)]; exact fr_congr (l5 _ (by decide)) w4'
    have w60 : fr_w m5 (m5 60) := fun f i f0 f1 i0 i1 => by
      rw [w5 f i f0 f1 i0 i1, ← w55 f i f0 f1 i0 i1, l5 [55] (by decide) 55 (by decide)]
    have Hc5 := T5.1.1
    have H5 : rg m5 0 := by
      refine ⟨T5, ln5, s5, by rw [e3]; exact ⟨n1, n24, i1, i4, o1, o4⟩, w55, fun j j0 j1 => .inl (z61 j j0 j1), fun i j0 j1 hk => ?_, z62, z57⟩
      have hk4 : m4 4 0 i = 114 := by rw [← l5 [4] (by decide) 4 (by decide)]; exact hk
      have z := z67 i j0 (by rw [e43]; exact j1) hk4
      have f := (T4.1.1.2.2.2.2.2.2.2.2.2.2.2.2.1 i j0 (by rw [e43]; exact j1)).2.2.2.1 hk4
      rw [l5 [28] (by decide) 28 (by decide), l5 [32] (by decide) 32 (by decide), z.1, z.2]
      exact ⟨f.2.2.2.2.2.2.2, rfl⟩
    have e67 : ∀ i : Int, 0 ≤ i → i < m5 3 0 10 → m5 4 0 i = 114 → m5 67 0 i = m5 8 0 i := fun i j0 j1 hk => by
      have hk4 : m4 4 0 i = 114 := by rw [← l5 [4] (by decide) 4 (by decide)]; exact hk
      rw [(z67 i j0 (by rw [e43]; exact j1) hk4).1, l5 [8] (by decide) 8 (by decide)]
    have e213 : m5 21 = m1 21 := by rw [l5 [21] (by decide) 21 (by decide), l4 [21] (by decide) 21 (by decide)]; exact e21
    have l3 : m5 69 0 3 = m4 3 0 13 := by rw [e43]; exact ln5.2.2.2.1
    refine k_law_169 (d := 1) hR ⟨fun q2 => absurd l3.symm q2, fun _ => ⟨by omega, ?_⟩⟩
    rw [← e213]
    refine sp_areSrc (d := 3) H5 w60 (k_law_180 (d := 1) hR ⟨fun _ => ⟨by omega, ?_⟩, fun q2 => absurd q2 (by decide)⟩)
    refine sp_begins (d := 8) H5 z61 e67 (fun m6 H6 n6 f6 => k_law_189 (d := 1) hR ?_)
    refine law_loop hR hls hL hC 14 m6 0 0 _ _ _ _ _ _ _ _ _ H6 n6 ?_ (by decide) (by decide) (by decide) (by show 0 + 1 + 2 + 2 + 1 + 1 + 600 + 60 * 14 ≤ 1900; omega)
    rw [f6 60 (by decide)]
    exact fr_congr (fun c hc => f6 c (by rintro rfl; revert hc; decide)) w60
