/-! begins, areSources -/
theorem sp_begins {LS d : Nat} {Post : ma_R → ma_M → Prop} {μ : ma_M} {a : Int} (H : rg μ a) (z61 : ∀ j : Int, 0 ≤ j → j < 6 → μ 61 0 j = 0) (z67 : ∀ i : Int, 0 ≤ i → i < μ 3 0 10 → μ 4 0 i = 114 → μ 67 0 i = μ 8 0 i) (h : ∀ m : ma_M, rg m a → ns m → (∀ c : Nat, c ≠ 69 → m c = μ c) → Post (.inl none) m) : ma_Ox LS (d + 2) mi_LatticefitLaw_begins [ma_Rf 69 0] μ Post := by
  have Hc := H.1.1.1
  have N0 := Hc.1
  have bn := H.2.2.2.1
  obtain ⟨l0, l1, l2, l3, Ln, Lo⟩ := id H.2.1
  refine gi_LatticefitLaw_begins (fun R hR => s_LatticefitLaw_begins_0 (d := d) hR ?_)
  refine ma_cnt (σ := ma_M) (N := μ 3 0 10) (P := fun i m => R 2 [ma_Rf 69 0, ma_I i] [] 0 m) (I := fun n m => (∀ c : Nat, c ≠ 69 → m c = μ c) ∧ (∀ j : Int, (∀ i : Int, 0 ≤ i → i < n → j ≠ 10 + 8 * i + 6) → m 69 0 j = μ 69 0 j) ∧ (∀ i : Int, 0 ≤ i → i < n → m 69 0 (10 + 8 * i + 6) = μ 69 0 (10 + 8 * i + 3))) ?_ ?_ 0 μ (by omega) (by omega) ⟨fun _ _ => rfl, fun _ _ => rfl, fun i i0 i1 => by omega⟩
  · intro n m n0 n1 ⟨a1, a2, a3⟩ ih
    have r0 : m 69 0 0 = μ 3 0 10 := by rw [a2 0 (fun i i0 i1 => by omega)]; exact l0
    refine s_LatticefitLaw_begins_2 (d := d) hR ⟨fun q => by omega, fun _ => ?_⟩
    rw [a2 (10 + 8 * n + 3) (fun i i0 i1 => by omega)]
    refine ⟨by omega, by omega, by omega, by omega, by omega, by omega, by omega, ih _ ⟨fun c hc => by rw [ma_up_ck hc]; exact a1 c hc, fun j hj => ?_, fun i i0 i1 => ?_⟩⟩
    · rw [ma_up_ne (fun z => hj n n0 (by omega) z.2)]; exact a2 j (fun i i0 i1 => hj i i0 (by omega))
    · by_cases e : i = n
      · rw [e, ma_up_eq]
      · rw [ma_up_ne (by omega)]; exact a3 i i0 (by omega)
  · intro m1 ⟨a1, a2, a3⟩
    have r0 : m1 69 0 0 = μ 3 0 10 := by rw [a2 0 (fun i i0 i1 => by omega)]; exact l0
    refine s_LatticefitLaw_begins_2 (d := d) hR ⟨fun _ => ?_, fun q => by omega⟩
    refine ma_cnt (σ := ma_M) (N := 6) (P := fun i m => R 34 [ma_Rf 69 0, ma_I i] [] 0 m) (I := fun n m => (∀ c : Nat, c ≠ 69 → m c = μ c) ∧ (∀ j : Int, j < 410 → m 69 0 j = m1 69 0 j) ∧ (∀ j : Int, 0 ≤ j → j < n → m 69 0 (410 + j) = 0)) ?_ ?_ 0 m1 (by omega) (by omega) ⟨a1, fun _ _ => rfl, fun i i0 i1 => by omega⟩
    · intro n m n0 n1 ⟨b1, b2, b3⟩ ih
      refine s_LatticefitLaw_begins_34 (d := d) hR ⟨fun q => by omega, fun _ => ⟨by omega, by omega, by omega, ih _ ⟨fun c hc => by rw [ma_up_ck hc]; exact b1 c hc, fun j hj => by rw [ma_up_ne (by omega)]; exact b2 j hj, fun j j0 j1 => ?_⟩⟩⟩
      by_cases e : j = n
      · rw [e, ma_up_eq]
      · rw [ma_up_ne (by omega)]; exact b3 j j0 (by omega)
    · intro m ⟨b1, b2, b3⟩
      have ln' : ln m := ln_69 H.2.1 bn.2.1 (fun k hk => b1 k (by rintro rfl; revert hk; decide)) (fun j j0 j1 => by rw [b2 j (by omega)]; exact a2 j (fun i i0 i1 => by omega)) (fun i c i0 i1 c0 c1 c2 => by rw [b2 _ (by omega)]; exact a2 _ (fun i' i0' i1' => by omega)) (fun j j0 j1 => by rw [b2 _ (by omega)]; exact a2 _ (fun i i0 i1 => by omega))
      refine s_LatticefitLaw_begins_34 (d := d) hR ⟨fun _ => h m ?_ ⟨fun j j0 j1 => ?_, fun i i0 i1 hk => ?_⟩ b1, fun q => by omega⟩
      · obtain ⟨h1, h2, h3, h4, h5, h6, h7, h8, h9⟩ := H
        have hl : ∀ (l : List Nat), (∀ c ∈ l, c ≠ 69) → ∀ c ∈ l, m c = μ c := fun l hl c hc => b1 c (hl c hc)
        unfold rg
        rw [b1 2 (by decide), b1 3 (by decide), b1 4 (by decide), b1 28 (by decide), b1 32 (by decide), b1 55 (by decide), b1 57 (by decide), b1 61 (by decide), b1 62 (by decide), b1 67 (by decide)]
        exact ⟨rt_cgr (hl _ (by decide)) h1, ln', h3, h4, fr_congr (hl _ (by decide)) h5, h6, h7, h8, h9⟩
      · rw [b3 j j0 j1, b1 61 (by decide), z61 j j0 j1]
      · rw [b1 3 (by decide)] at i1
        rw [b1 4 (by decide)] at hk
        have L := Ln i i0 i1
        unfold ln_n at L
        rw [b2 _ (by omega), a3 i i0 i1, (L.2.2.1 hk).1, b1 67 (by decide), z67 i i0 i1 hk]
theorem rt_cnt24 {μ : ma_M} (H : rt μ) : μ 21 0 7 ≤ μ 3 0 10 := by
  obtain ⟨u, F, -, e⟩ := H.1.2.2.2
  have N0 := F.1.1
  have := (cu_blk_sum F.1 F.2.1 (k := (μ 3 0 10).toNat) (by omega)).2
  omega
theorem sp_areSrc {LS d : Nat} {Post : ma_R → ma_M → Prop} {μ : ma_M} {a : Int} (H : rg μ a) (hw : fr_w μ (μ 60)) (h : Post (.inl (some (ma_I 1))) μ) : ma_Ox LS (d + 7) mi_LatticefitLaw_areSources [ma_Rf 2 0, ma_I (μ 21 0 7)] μ Post := by
  have bn := H.2.2.2.1
  have st := H.2.2.1
  have c24 := rt_cnt24 H.1
  have B0 := H.1.1.2.2.1.1
  have I0 := H.1.1.1.2.2.1
  have I1 := H.1.1.1.2.2.2.1
  refine gi_LatticefitLaw_areSources (fun R hR => s_LatticefitLaw_areSources_0 (d := d) hR ?_)
  have lp : ∀ (n : Nat) (b : Int) (k : Nat) (u3 u4 u5 : ma_V), 0 ≤ b → b + n = μ 21 0 7 → k + 22 * n ≤ 600 → R 2 [ma_Rf 2 0, ma_I (μ 21 0 7), ma_I b, u3, u4, u5] [] k μ := by
    intro n
    induction n with
    | zero =>
      intro b k u3 u4 u5 b0 hb hk
      exact s_LatticefitLaw_areSources_2 (d := d) hR ⟨fun _ => ⟨by omega, h⟩, fun q => by omega⟩
    | succ n ih =>
      intro b k u3 u4 u5 b0 hb hk
      refine s_LatticefitLaw_areSources_2 (d := d) hR ⟨fun q => by omega, fun _ => ?_⟩
      obtain ⟨bb, eb⟩ : ∃ bb : Nat, b = (bb : Int) := ⟨b.toNat, by omega⟩
      have hbb : (bb : Int) < μ 21 0 7 := by omega
      have pb := H.1.2.1.1 b b0 (by omega)
      have BB := H.1.1.2.2.1.2.2.2.2.1 b b0 (by omega)
      have lq : ∀ (j : Nat) (v3 : Int) (k' : Nat) (u4 u5 : ma_V), 0 ≤ v3 → v3 + j = 4 → k' + 5 * j + 2 + 22 * n ≤ 600 → R 9 [ma_Rf 2 0, ma_I (μ 21 0 7), ma_I b, ma_I v3, u4, u5] [] k' μ := by
        intro j
        induction j with
        | zero =>
          intro v3 k' u4 u5 v0 hv hk'
          refine s_LatticefitLaw_areSources_9 (d := d) hR ⟨fun q => by omega, fun _ => ⟨by omega, ?_⟩⟩
          refine w_LatticefitLaw_inputOf (d := d + 3) ⟨fun _ => ⟨fun q => by omega, fun _ => ⟨fun _ => ⟨fun q => by omega, fun _ => ⟨by omega, fun q => ?_, fun _ => ?_⟩⟩, fun q => by omega⟩⟩, fun q => by omega⟩
          · have := BB.2.2.2.2.2.2.2.1; omega
          · refine k_LatticefitLaw_areSources_17 (d := d) hR ⟨fun _ => ⟨by omega, ?_⟩, fun q => by omega⟩
            refine s_LatticefitLaw_areSources_9 (d := d) hR ⟨fun _ => ⟨by omega, ih (b + 1) _ _ _ _ (by omega) (by omega) (by omega)⟩, fun q => by omega⟩
        | succ j ihj =>
          intro v3 k' u4 u5 v0 hv hk'
          have nx : ∀ (k9 : Nat) (u4 u5 : ma_V), k9 ≤ k' + 5 → R 9 [ma_Rf 2 0, ma_I (μ 21 0 7), ma_I b, ma_I (v3 + 1), u4, u5] [] k9 μ := fun k9 u4 u5 hk9 => ihj (v3 + 1) k9 u4 u5 (by omega) (by omega) (by omega)
          have ci := ch_in (rt_bd H.1) hw hbb v0 (k := v3) (by omega)
          rw [← eb] at ci
          have call : ∀ inp : Int, (v3 < μ 25 0 b → inp = μ 27 b v3) → (μ 25 0 b ≤ v3 → inp = -900003) → ma_ct (ma_Ox LS (d + 6)) (LS, [], 2, 600) 17 [ma_Rf 2 0, ma_I (μ 21 0 7), ma_I b, ma_I v3, ma_U, ma_U] [] (k' + 2) mt_LatticefitLaw_areSources_20 R (ma_DD (LS, [], 2, 600) Post) (.inl (some (ma_I inp))) μ := by
            intro inp hi1 hi2
            refine k_LatticefitLaw_areSources_17 (d := d) hR ⟨fun q => by omega, fun _ => ⟨by omega, ?_⟩⟩
            refine w_LatticefitLaw_cellOf (d := d + 3) ⟨fun _ => ⟨fun q => by omega, fun _ => ⟨fun _ => ⟨by omega, ?_⟩, fun q => by omega⟩⟩, fun q => by omega⟩
            refine k_LatticefitLaw_areSources_30 (d := d) hR ⟨by omega, ?_⟩
            refine sp_srcOf (d := d) H.1.2.1 H.1.1.2.2.1.2.1 (by omega) I0 I1 pb.2.1 pb.2.2.1 v0 (by omega) (fun z => ?_) (fun z => ?_)
            · refine k_LatticefitLaw_areSources_34 (d := d) hR ⟨fun q => by omega, fun _ => ⟨fun _ => ⟨by omega, nx _ _ _ (by omega)⟩, fun q => ⟨fun q2 => ?_, fun q2 => ⟨fun _ => ⟨by omega, nx _ _ _ (by omega)⟩, fun q3 => absurd rfl q3⟩⟩⟩⟩
              exfalso
              by_cases e : v3 < μ 25 0 b
              · have c1 := ci.1 e
                rw [c1.2, so_bE (rt_bd H.1).1 c1.1] at z
                have := c1.1.1
                omega
              · exact q2 (hi2 (by omega))
            · have eq : so_n μ (ch_end (μ 60) (μ 60 (μ 32 0 b / 6) (6 * (μ 32 0 b % 6) + 1 + v3))) = inp := by
                by_cases e : v3 < μ 25 0 b
                · have c1 := ci.1 e
                  rw [c1.2, so_bE (rt_bd H.1).1 c1.1, hi1 e]
                · have c1 := ci.2 (by omega)
                  rw [c1] at z
                  unfold so_n at z
                  rw [if_neg (by omega), if_neg (by omega)] at z
                  exact absurd z (by decide)
              rw [eq]
              exact k_LatticefitLaw_areSources_34 (d := d) hR ⟨fun q => by omega, fun _ => ⟨fun _ => ⟨by omega, nx _ _ _ (by omega)⟩, fun q => absurd rfl q⟩⟩
          refine s_LatticefitLaw_areSources_9 (d := d) hR ⟨fun q => by omega, fun _ => ⟨by omega, ?_⟩⟩
          refine w_LatticefitLaw_inputOf (d := d + 3) ⟨fun _ => ⟨fun q => by omega, fun _ => ⟨fun _ => ⟨fun q => by omega, fun _ => ⟨by omega, fun q => ⟨by omega, call _ (fun _ => rfl) (fun z => by omega)⟩, fun q => call _ (fun z => by omega) (fun _ => rfl)⟩⟩, fun q => by omega⟩⟩, fun q => by omega⟩
      exact lq 4 0 k _ _ (by omega) (by omega) (by omega)
  exact lp (μ 21 0 7).toNat 0 0 _ _ _ (by omega) (by omega) (by omega)
