/-! begun: a feed, an output -/
theorem bg_feed {μ V : ma_M} (H : bg_I μ) (i v : Int) (h0 : 0 ≤ i) (h1 : i < μ 3 0 10) (h2 : μ 3 0 10 ≤ 24) (hk : μ 4 0 i = 114) (hv : 0 ≤ v ∧ v < μ 3 0 10) (e2 : V 2 0 10 = 0) (e7 : ∀ j : Int, V 7 0 j = if j = i then v else μ 7 0 j) (e69 : ∀ j : Int, V 69 0 j = if j = 10 + 8 * i + 5 then v else μ 69 0 j) (ek : ∀ k : Nat, k ∉ ([2, 7, 69] : List Nat) → V k = μ k) : bg_I V := by
  obtain ⟨Hc, Hz, Hs, ⟨l0, l1, l2, l3, Ln, Lo⟩, H0⟩ := H
  obtain ⟨n0, n1, i0, i1, r0, r1, o0, o1, m8, m9, m10, m11, Hn, Hi, Hr, Hr2, Hr3, Ho⟩ := Hc
  have k3 := ek 3 (by decide)
  have k4 := ek 4 (by decide)
  have k5 := ek 5 (by decide)
  have k6 := ek 6 (by decide)
  have k8 := ek 8 (by decide)
  have k9 := ek 9 (by decide)
  have k10 := ek 10 (by decide)
  have k11 := ek 11 (by decide)
  have k12 := ek 12 (by decide)
  have k13 := ek 13 (by decide)
  refine ⟨?_, rl_z_congr (fun k hk => by cases (List.mem_singleton.mp hk); exact ek 1 (by decide)) Hz, e2, ⟨?_, ?_, ?_, ?_, fun j j0 j1 => ?_, fun j j0 j1 => ?_⟩, fun k a b r j => by rw [ek k (by simp only [List.mem_cons, List.not_mem_nil, or_false]; omega)]; exact H0 k a b r j⟩
  · unfold rl_c
    rw [k3, k4, k10, k11, k12, k13]
    refine ⟨n0, n1, i0, i1, r0, r1, o0, o1, m8, m9, m10, m11, fun j j0 j1 => ?_, Hi, Hr, Hr2, Hr3, Ho⟩
    have h := Hn j j0 j1
    unfold rl_n at h ⊢
    rw [k3, k4, k5, k6, k8, k9, k10, k11, e7]
    obtain ⟨b1, b2, b3, b4, b5⟩ := h
    refine ⟨b1, b2, b3, fun z => ?_, b5⟩
    obtain ⟨c1, c2, c3, c4⟩ := b4 z
    split
    · exact ⟨rfl, by omega, by omega, c4⟩
    · exact ⟨c1, c2, c3, c4⟩
  · rw [e69, k3, if_neg (by omega)]; exact l0
  · rw [e69, k3, if_neg (by omega)]; exact l1
  · rw [e69, k3, if_neg (by omega)]; exact l2
  · rw [e69, k3, if_neg (by omega)]; exact l3
  · rw [k3] at j1
    have h := Ln j j0 j1
    unfold ln_n at h ⊢
    have r0 : V 69 0 (10 + 8 * j) = μ 69 0 (10 + 8 * j) := by rw [e69, if_neg (by omega)]
    have r : ∀ c : Int, 0 ≤ c → c < 8 → c ≠ 5 → V 69 0 (10 + 8 * j + c) = μ 69 0 (10 + 8 * j + c) := fun c c0 c1 c2 => by rw [e69, if_neg (by omega)]
    rw [k4, k5, k6, k8, k9, k10, r0, r 7 (by decide) (by decide) (by decide), r 3 (by decide) (by decide) (by decide), r 4 (by decide) (by decide) (by decide), r 1 (by decide) (by decide) (by decide), r 2 (by decide) (by decide) (by decide), e7, e69]
    obtain ⟨a1, a2, a3, a4⟩ := h
    refine ⟨a1, a2, fun z => ⟨(a3 z).1, (a3 z).2.1, ?_⟩, a4⟩
    by_cases hj : j = i
    · rw [if_pos (by omega), if_pos hj]
    · rw [if_neg (by omega), if_neg hj]; exact (a3 z).2.2
  · rw [k3] at j1
    rw [e69, k13, if_neg (by omega)]
    exact Lo j j0 j1
theorem bg_out {μ V : ma_M} (H : bg_I μ) (v : Int) (h1 : μ 3 0 13 < 6) (h2 : μ 3 0 10 ≤ 24) (hv : 0 ≤ v ∧ v < μ 3 0 10) (e2 : V 2 0 10 = 0) (e3 : ∀ f : Int, V 3 0 f = if f = 13 then μ 3 0 13 + 1 else μ 3 0 f) (e13 : ∀ j : Int, V 13 0 j = if j = μ 3 0 13 then v else μ 13 0 j) (e69 : ∀ j : Int, V 69 0 j = if j = 3 then μ 3 0 13 + 1 else if j = 400 + μ 3 0 13 then v else μ 69 0 j) (ek : ∀ k : Nat, k ∉ ([2, 3, 13, 69] : List Nat) → V k = μ k) : bg_I V := by
  obtain ⟨Hc, Hz, Hs, ⟨l0, l1, l2, l3, Ln, Lo⟩, H0⟩ := H
  obtain ⟨n0, n1, i0, i1, r0, r1, o0, o1, m8, m9, m10, m11, Hn, Hi, Hr, Hr2, Hr3, Ho⟩ := Hc
  have k4 := ek 4 (by decide)
  have k5 := ek 5 (by decide)
  have k6 := ek 6 (by decide)
  have k7 := ek 7 (by decide)
  have k8 := ek 8 (by decide)
  have k9 := ek 9 (by decide)
  have k10 := ek 10 (by decide)
  have k11 := ek 11 (by decide)
  have k12 := ek 12 (by decide)
  have d10 : V 3 0 10 = μ 3 0 10 := by rw [e3]; rfl
  have d11 : V 3 0 11 = μ 3 0 11 := by rw [e3]; rfl
  have d12 : V 3 0 12 = μ 3 0 12 := by rw [e3]; rfl
  have d13 : V 3 0 13 = μ 3 0 13 + 1 := by rw [e3]; rfl
  refine ⟨?_, rl_z_congr (fun k hk => by cases (List.mem_singleton.mp hk); exact ek 1 (by decide)) Hz, e2, ⟨?_, ?_, ?_, ?_, fun j j0 j1 => ?_, fun j j0 j1 => ?_⟩, fun k a b r j => by rw [ek k (by simp only [List.mem_cons, List.not_mem_nil, or_false]; omega)]; exact H0 k a b r j⟩
  · unfold rl_c
    rw [d10, d11, d12, d13, k4, k10, k11, k12]
    refine ⟨n0, n1, i0, i1, r0, r1, by omega, by omega, m8, m9, m10, rfl, fun j j0 j1 => ?_, Hi, Hr, Hr2, Hr3, fun j j0 j1 => ?_⟩
    · have h := Hn j j0 j1
      unfold rl_n at h ⊢
      rw [d10, d11, k4, k5, k6, k7, k8, k9, k10, k11]
      exact h
    · rw [e13]
      by_cases hj : j = μ 3 0 13
      · rw [if_pos hj]; exact ⟨rfl, hv.1, hv.2⟩
      · rw [if_neg hj]; exact Ho j j0 (by omega)
  · rw [e69, d10, if_neg (by omega), if_neg (by omega)]; exact l0
  · rw [e69, d11, if_neg (by omega), if_neg (by omega)]; exact l1
  · rw [e69, d12, if_neg (by omega), if_neg (by omega)]; exact l2
  · rw [e69, d13, if_pos rfl]
  · rw [d10] at j1
    have h := Ln j j0 j1
    unfold ln_n at h ⊢
    rw [k4, k5, k6, k7, k8, k9, k10, e69, if_neg (by omega), if_neg (by omega), e69, if_neg (by omega), if_neg (by omega), e69, if_neg (by omega), if_neg (by omega), e69, if_neg (by omega), if_neg (by omega), e69, if_neg (by omega), if_neg (by omega), e69, if_neg (by omega), if_neg (by omega), e69, if_neg (by omega), if_neg (by omega)]
    exact h
  · rw [d13] at j1
    rw [e69, e13, if_neg (by omega)]
    by_cases hj : j = μ 3 0 13
    · rw [if_pos (by omega), if_pos hj]
    · rw [if_neg (by omega), if_neg hj]
      exact Lo j j0 (by omega)
/-- what begun makes -/
def bg_P (μ : ma_M) : Prop := bg_I μ ∧ 1 ≤ μ 3 0 10 ∧ μ 3 0 10 ≤ 24 ∧ 1 ≤ μ 3 0 11 ∧ μ 3 0 11 ≤ 4 ∧ 1 ≤ μ 3 0 13 ∧ μ 3 0 13 ≤ 4
abbrev bg_ls (v4 : Int) (u5 u6 u7 : ma_V) : List ma_V := [ma_Rf 0 0, ma_Rf 69 0, ma_Rf 2 0, ma_I 1, ma_I v4, u5, u6, u7]
theorem bg_1 : ma_and 1 1 = 1 := by decide
/-- the outputs -/
theorem bg_L352 {LS : Nat} {R : ma_J} (hR : ma_cl (ma_Ox LS 8) (LS, [], 9, 400) (ma_at mb_LatticefitLaw_begun) (ma_DD (LS, [], 9, 400) ma_nP) R) (hX : ∀ (pc : Nat) (ls st : List ma_V) (k : Nat) (μ : ma_M), bg_X bg_P pc ls st k μ → R pc ls st k μ) :
    ∀ (n : Nat) (μ : ma_M) (k : Nat) (v4 : Int) (u5 u6 u7 : ma_V), v4 = (n : Int) → bg_I μ → 1 ≤ μ 3 0 10 → μ 3 0 10 ≤ 24 → 1 ≤ μ 3 0 11 → μ 3 0 11 ≤ 4 → 1 ≤ μ 3 0 13 + n → μ 3 0 13 + n ≤ 4 → k + n ≤ 100 → R 352 (bg_ls v4 u5 u6 u7) [] k μ
  | 0, μ, k, v4, u5, u6, u7, hv, H, b1, b2, b3, b4, b5, b6, hk => by
    refine s_LatticefitLaw_begun_352 (d := 4) hR ⟨fun _ => ⟨fun c => absurd c (by decide), fun _ => hX _ _ _ _ _ ⟨rfl, by omega, rfl, rfl, H, b1, b2, b3, b4, by omega, by omega⟩⟩, fun c => by omega⟩
  | n + 1, μ, k, v4, u5, u6, u7, hv, H, b1, b2, b3, b4, b5, b6, hk => by
    obtain ⟨l0, l1, l2, l3, Ln, Lo⟩ := id H.2.2.2.1
    have o0 : 0 ≤ μ 3 0 13 := H.1.2.2.2.2.2.2.1
    have step : ∀ v : Int, 0 ≤ v → v < μ 3 0 10 → ∀ (W : ma_M) (x : Int), x = v → (∀ j : Int, W 69 0 j = if j = 3 then μ 3 0 13 + 1 else if j = 400 + μ 3 0 13 then v else μ 69 0 j) → (∀ k : Nat, k ≠ 69 → W k = μ k) → ma_Ox LS 8 mi_LatticefitLaw_addOutput [ma_Rf 2 0, ma_I x] W (ma_ct (ma_Ox LS 8) (LS, [], 9, 400) 439 [ma_Rf 0 0, ma_Rf 69 0, ma_Rf 2 0, ma_I 1, ma_I v4, ma_U, ma_U, ma_U] [ma_I 1] (k + 1) mt_LatticefitLaw_begun_442 R (ma_DD (LS, [], 9, 400) ma_nP)) := by
      intro v v0 v1 W x hx w69 wk
      subst hx
      have w3 := wk 3 (by decide)
      refine w_LatticefitLaw_addOutput (d := 5) ?_
      rw [w3]
      refine ⟨fun c => by omega, fun _ => ⟨fun c => by omega, fun _ => ⟨fun _ => ⟨by omega, by omega, ?_⟩, fun c => by omega⟩⟩⟩
      obtain ⟨V, hV⟩ : ∃ V, V = ma_up (ma_up (ma_up W 2 0 10 0) 13 0 (μ 3 0 13) x) 3 0 13 (μ 3 0 13 + 1) := ⟨_, rfl⟩
      rw [← hV]
      have eo : ∀ k : Nat, k ∉ ([2, 3, 13] : List Nat) → V k = W k := fun k hk => by
        simp only [List.mem_cons, List.not_mem_nil, or_false, not_or] at hk
        rw [hV, ma_up_ck hk.2.1, ma_up_ck hk.2.2, ma_up_ck hk.1]
      have e3 : ∀ f : Int, V 3 0 f = if f = 13 then μ 3 0 13 + 1 else μ 3 0 f := fun f => by rw [hV, ← w3]; simp [ma_up_rd]
      have e13 : ∀ j : Int, V 13 0 j = if j = μ 3 0 13 then x else μ 13 0 j := fun i => by rw [hV, ← wk 13 (by decide)]; simp [ma_up_rd]
      have e69 : ∀ j : Int, V 69 0 j = if j = 3 then μ 3 0 13 + 1 else if j = 400 + μ 3 0 13 then x else μ 69 0 j := fun j => by rw [eo 69 (by decide)]; exact w69 j
      have HV := bg_out H x (by omega) b2 ⟨v0, v1⟩ (by rw [hV]; rfl) e3 e13 e69 (fun k hk => by rw [eo k (by revert hk; simp only [List.mem_cons, List.not_mem_nil, or_false]; omega), wk k (by rintro rfl; revert hk; decide)])
      have d10 : V 3 0 10 = μ 3 0 10 := by rw [e3]; rfl
      have d11 : V 3 0 11 = μ 3 0 11 := by rw [e3]; rfl
      have d13 : V 3 0 13 = μ 3 0 13 + 1 := by rw [e3]; rfl
      have f3 : V 69 0 3 = μ 3 0 13 + 1 := by rw [e69, if_pos rfl]
      refine k_LatticefitLaw_begun_439 (d := 4) hR ⟨by omega, fun c => absurd (by omega) c, fun _ => ⟨by omega, ?_⟩⟩
      rw [bg_1]
      exact bg_L352 hR hX n V (k + 1) _ _ _ _ (by omega) HV (by omega) (by omega) (by omega) (by omega) (by omega) (by omega) (by omega)
    refine s_LatticefitLaw_begun_352 (d := 4) hR ⟨fun c => by omega, fun _ => ⟨by omega, by omega, sp_in (d := 6) (by omega) (by decide) (fun s hs s0 s1 => ?_)⟩⟩
    refine k_LatticefitLaw_begun_368 (d := 4) hR ?_
    have q3 : ∀ x : Int, ma_up μ 69 0 (400 + μ 69 0 3) x 69 0 3 = μ 69 0 3 := fun x => ma_up_ne (by omega)
    have q4 : ∀ x : Int, ma_up (ma_up μ 69 0 (400 + μ 69 0 3) x) 69 0 3 (μ 69 0 3 + 1) 69 0 (399 + (μ 69 0 3 + 1)) = x := fun x => by
      rw [ma_up_ne (by omega), show 399 + (μ 69 0 3 + 1) = 400 + μ 69 0 3 from by omega, ma_up_eq]
    have q5 : ∀ x : Int, (∀ j : Int, ma_up (ma_up μ 69 0 (400 + μ 69 0 3) x) 69 0 3 (μ 69 0 3 + 1) 69 0 j = if j = 3 then μ 3 0 13 + 1 else if j = 400 + μ 3 0 13 then x else μ 69 0 j) := fun x j => by rw [l3]; simp [ma_up_rd]
    have q6 : ∀ x : Int, (∀ k : Nat, k ≠ 69 → ma_up (ma_up μ 69 0 (400 + μ 69 0 3) x) 69 0 3 (μ 69 0 3 + 1) k = μ k) := fun x k hk => by rw [ma_up_ck hk, ma_up_ck hk]
    have g1 : 0 < μ 69 0 0 := by omega
    refine ⟨fun c => ⟨by omega, by omega, sp_in (d := 6) (by omega) g1 (fun t ht t0 t1 => k_LatticefitLaw_begun_417 (d := 4) hR ?_)⟩, fun c => ⟨by omega, by omega, fun c2 => ⟨by omega, sp_in (d := 6) (by omega) (by decide) (fun t ht t0 t1 => k_LatticefitLaw_begun_400 (d := 4) hR ?_)⟩, fun c2 => ⟨by omega, sp_in (d := 6) (by omega) g1 (fun t ht t0 t1 => k_LatticefitLaw_begun_400 (d := 4) hR ?_)⟩⟩⟩
    · rw [q3]
      exact ⟨by omega, by omega, by omega, by omega, by omega, step t t0 (by omega) _ _ (q4 _) (q5 _) (q6 _)⟩
    · rw [q3]
      exact ⟨by omega, by omega, by omega, by omega, by omega, by omega, step (μ 69 0 0 - 1 - t) (by omega) (by omega) _ _ (q4 _) (q5 _) (q6 _)⟩
    · rw [q3]
      exact ⟨by omega, by omega, by omega, by omega, by omega, by omega, step (μ 69 0 0 - 1 - t) (by omega) (by omega) _ _ (q4 _) (q5 _) (q6 _)⟩
