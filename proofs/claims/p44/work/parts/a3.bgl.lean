/-! begun: its loops -/
/-- the feeds -/
theorem bg_L263 {LS : Nat} {R : ma_J} (hR : ma_cl (ma_Ox LS 8) (LS, [], 9, 400) (ma_at mb_LatticefitLaw_begun) (ma_DD (LS, [], 9, 400) ma_nP) R) (hX : ∀ (pc : Nat) (ls st : List ma_V) (k : Nat) (μ : ma_M), bg_X bg_P pc ls st k μ → R pc ls st k μ) :
    ∀ (n : Nat) (μ : ma_M) (k : Nat) (v4 : Int) (u5 u6 u7 : ma_V), 0 ≤ v4 → μ 3 0 10 = v4 + n → bg_I μ → 1 ≤ μ 3 0 10 → μ 3 0 10 ≤ 24 → 1 ≤ μ 3 0 11 → μ 3 0 11 ≤ 4 → μ 3 0 13 = 0 → k + n ≤ 96 → R 263 (bg_ls v4 u5 u6 u7) [] k μ
  | 0, μ, k, v4, u5, u6, u7, hv0, hv, H, b1, b2, b3, b4, b5, hk => by
    obtain ⟨l0, l1, l2, l3, Ln, Lo⟩ := id H.2.2.2.1
    refine s_LatticefitLaw_begun_263 (d := 4) hR ⟨fun _ => ⟨by omega, sp_in (d := 6) (by omega) (by decide) (fun v hs s0 s1 => k_LatticefitLaw_begun_346 (d := 4) hR ⟨by omega, ?_⟩)⟩, fun c => by omega⟩
    exact bg_L352 hR hX (1 + v).toNat μ k _ _ _ _ (by omega) H b1 b2 b3 b4 (by omega) (by omega) (by omega)
  | n + 1, μ, k, v4, u5, u6, u7, hv0, hv, H, b1, b2, b3, b4, b5, hk => by
    obtain ⟨l0, l1, l2, l3, Ln, Lo⟩ := id H.2.2.2.1
    have hL := Ln v4 hv0 (by omega)
    unfold ln_n at hL
    have hn := H.1.2.2.2.2.2.2.2.2.2.2.2.2.1 v4 hv0 (by omega)
    unfold rl_n at hn
    refine s_LatticefitLaw_begun_263 (d := 4) hR ⟨fun c => by omega, fun _ => ⟨by omega, by omega, by omega, by omega, fun c => ⟨by omega, ?_⟩, fun c => ⟨by omega, by omega, ?_⟩⟩⟩
    · exact bg_L263 hR hX n μ k _ _ _ _ (by omega) (by omega) H b1 b2 b3 b4 b5 (by omega)
    · have hkd : μ 4 0 v4 = 114 := by rw [← hL.1]; exact c
      refine sp_in (d := 6) (by omega) (by omega) (fun v hs s0 s1 => k_LatticefitLaw_begun_292 (d := 4) hR ⟨by omega, ?_⟩)
      refine w_LatticefitLaw_feed (d := 5) ⟨fun c => by omega, fun _ => ⟨fun c => by omega, fun _ => ⟨fun c => by omega, fun _ => ⟨fun c => by omega, fun _ => ⟨by omega, fun _ => ?_, fun c => absurd hkd c⟩⟩⟩⟩⟩
      have g5 := (hL.2.2.1 hkd).2.2
      obtain ⟨W, hW⟩ : ∃ W, W = ma_up (ma_up μ 2 0 10 0) 7 0 v4 v := ⟨_, rfl⟩
      rw [← hW]
      have w69 : ∀ j : Int, W 69 0 j = μ 69 0 j := fun j => by rw [hW, ma_up_ck (by decide), ma_up_ck (by decide)]
      have fin : R 263 (bg_ls (v4 + 1) ma_U ma_U ma_U) [] (k + 1) (ma_up W 69 0 (10 + 8 * v4 + 5) v) := by
        obtain ⟨V, hV⟩ : ∃ V, V = ma_up W 69 0 (10 + 8 * v4 + 5) v := ⟨_, rfl⟩
        rw [← hV]
        have ek : ∀ k : Nat, k ∉ ([2, 7, 69] : List Nat) → V k = μ k := fun k hk => by
          simp only [List.mem_cons, List.not_mem_nil, or_false, not_or] at hk
          rw [hV, ma_up_ck hk.2.2, hW, ma_up_ck hk.2.1, ma_up_ck hk.1]
        have e3 := ek 3 (by decide)
        have HV := bg_feed (V := V) H v4 v hv0 (by omega) b2 hkd ⟨s0, by omega⟩ (by rw [hV, hW]; rfl) (fun j => by rw [hV, hW]; simp [ma_up_rd]) (fun j => by rw [hV, ← w69]; simp [ma_up_rd]) ek
        exact bg_L263 hR hX n V (k + 1) _ _ _ _ (by omega) (by rw [e3]; omega) HV (by rw [e3]; exact b1) (by rw [e3]; exact b2) (by rw [e3]; exact b3) (by rw [e3]; exact b4) (by rw [e3]; exact b5) (by omega)
      refine k_LatticefitLaw_begun_303 (d := 4) hR ?_
      rw [w69, bg_1]
      exact ⟨by omega, by omega, by omega, by omega, by omega, fun c => absurd g5.symm c, fun _ => ⟨by omega, by omega, fin⟩⟩
/-- the gates -/
theorem bg_L103 {LS : Nat} {R : ma_J} (hR : ma_cl (ma_Ox LS 8) (LS, [], 9, 400) (ma_at mb_LatticefitLaw_begun) (ma_DD (LS, [], 9, 400) ma_nP) R) (hX : ∀ (pc : Nat) (ls st : List ma_V) (k : Nat) (μ : ma_M), bg_X bg_P pc ls st k μ → R pc ls st k μ) :
    ∀ (n : Nat) (μ : ma_M) (k : Nat) (v4 : Int) (u5 u6 u7 : ma_V), v4 = (n : Int) → bg_I μ → 1 ≤ μ 3 0 10 → μ 3 0 10 + n ≤ 24 → 1 ≤ μ 3 0 11 → μ 3 0 11 ≤ 4 → μ 3 0 13 = 0 → k + 3 * n ≤ 72 → R 103 (bg_ls v4 u5 u6 u7) [] k μ
  | 0, μ, k, v4, u5, u6, u7, hv, H, b1, b2, b3, b4, b5, hk => by
    refine s_LatticefitLaw_begun_103 (d := 4) hR ⟨fun _ => ?_, fun c => by omega⟩
    exact bg_L263 hR hX (μ 3 0 10).toNat μ k _ _ _ _ (by omega) (by omega) H b1 (by omega) b3 b4 b5 (by omega)
  | n + 1, μ, k, v4, u5, u6, u7, hv, H, b1, b2, b3, b4, b5, hk => by
    obtain ⟨l0, l1, l2, l3, Ln, Lo⟩ := id H.2.2.2.1
    refine s_LatticefitLaw_begun_103 (d := 4) hR ⟨fun c => by omega, fun _ => ⟨by omega, by omega, by omega, sp_in (d := 6) (by omega) (by decide) (fun kk hkk kk0 kk1 => ?_)⟩⟩
    -- the node
    have nodeK : ∀ (kd a b : Int) (u3 u5 u6 : ma_V), (kd = 97 ∨ kd = 111 ∨ kd = 120 ∨ kd = 110) → 0 ≤ a ∧ a < μ 3 0 10 → 0 ≤ b ∧ b < μ 3 0 10 → ma_ct (ma_Ox LS 8) (LS, [], 9, 400) 246 [ma_Rf 0 0, ma_Rf 69 0, ma_Rf 2 0, u3, ma_I v4, u5, u6, ma_I a] [ma_I a, ma_I kd, ma_Rf 69 0, ma_Rf 2 0, ma_I 1] k mt_LatticefitLaw_begun_249 R (ma_DD (LS, [], 9, 400) ma_nP) (.inl (some (ma_I b))) μ := by
      intro kd a b u3 u5 u6 hkd ha hb
      refine k_LatticefitLaw_begun_246 (d := 4) hR ⟨by omega, ?_⟩
      refine sp_isNode_g (d := 4) H (by omega) hkd ha hb (fun V HV d10 d11 d12 d13 => k_LatticefitLaw_begun_249 (d := 4) hR ⟨by omega, ?_⟩)
      rw [bg_1]
      exact bg_L103 hR hX n V (k + 3) _ _ _ _ (by omega) HV (by omega) (by omega) (by omega) (by omega) (by omega) (by omega)
    have third : ∀ (kd a : Int) (u3 u5 u6 : ma_V), (kd = 97 ∨ kd = 111 ∨ kd = 120 ∨ kd = 110) → 0 ≤ a ∧ a < μ 3 0 10 → ma_Ox LS 8 mi_LatticefitLaw_in [ma_Rf 0 0, ma_I (22 + 3 * v4), ma_I (μ 69 0 0)] μ (ma_ct (ma_Ox LS 8) (LS, [], 9, 400) 246 [ma_Rf 0 0, ma_Rf 69 0, ma_Rf 2 0, u3, ma_I v4, u5, u6, ma_I a] [ma_I a, ma_I kd, ma_Rf 69 0, ma_Rf 2 0, ma_I 1] k mt_LatticefitLaw_begun_249 R (ma_DD (LS, [], 9, 400) ma_nP)) := fun kd a u3 u5 u6 hkd ha =>
      sp_in (d := 6) (by omega) (by omega) (fun b hb hb0 hb1 => nodeK kd a b u3 u5 u6 hkd ha ⟨hb0, by omega⟩)
    have second : ∀ (near : Int) (u7 : ma_V), 1 ≤ near → near ≤ μ 3 0 10 → ma_Ox LS 8 mi_LatticefitLaw_in [ma_Rf 0 0, ma_I (21 + 3 * v4), ma_I 2] μ (ma_ct (ma_Ox LS 8) (LS, [], 9, 400) 150 [ma_Rf 0 0, ma_Rf 69 0, ma_Rf 2 0, ma_I 1, ma_I v4, ma_I kk, ma_I near, u7] [] k mt_LatticefitLaw_begun_153 R (ma_DD (LS, [], 9, 400) ma_nP)) := by
      intro near u7 hn1 hn2
      refine sp_in (d := 6) (by omega) (by decide) (fun w hw hw0 hw1 => k_LatticefitLaw_begun_150 (d := 4) hR ⟨fun c => ⟨by omega, by omega, by omega, ?_⟩, fun c => ⟨by omega, by omega, by omega, by omega, ?_⟩⟩)
      · refine sp_in (d := 6) (by omega) (by omega) (fun s hs s0 s1 => k_LatticefitLaw_begun_189 (d := 4) hR ?_)
        exact ⟨fun _ => ⟨fun _ => ⟨fun _ => ⟨by omega, by omega, by omega, third 110 s _ _ _ (by omega) ⟨s0, by omega⟩⟩, fun _ => ⟨by omega, by omega, by omega, third 120 s _ _ _ (by omega) ⟨s0, by omega⟩⟩⟩, fun _ => ⟨by omega, by omega, by omega, third 111 s _ _ _ (by omega) ⟨s0, by omega⟩⟩⟩, fun _ => ⟨by omega, by omega, by omega, third 97 s _ _ _ (by omega) ⟨s0, by omega⟩⟩⟩
      · refine sp_in (d := 6) (by omega) (by omega) (fun s hs s0 s1 => k_LatticefitLaw_begun_171 (d := 4) hR ⟨by omega, ?_⟩)
        exact ⟨fun _ => ⟨fun _ => ⟨fun _ => ⟨by omega, by omega, by omega, third 110 (μ 69 0 0 - 1 - s) _ _ _ (by omega) (by omega)⟩, fun _ => ⟨by omega, by omega, by omega, third 120 (μ 69 0 0 - 1 - s) _ _ _ (by omega) (by omega)⟩⟩, fun _ => ⟨by omega, by omega, by omega, third 111 (μ 69 0 0 - 1 - s) _ _ _ (by omega) (by omega)⟩⟩, fun _ => ⟨by omega, by omega, by omega, third 97 (μ 69 0 0 - 1 - s) _ _ _ (by omega) (by omega)⟩⟩
    exact k_LatticefitLaw_begun_118 (d := 4) hR ⟨fun c => ⟨by omega, by omega, by omega, second 6 _ (by omega) (by omega)⟩, fun c => ⟨by omega, by omega, by omega, second (μ 69 0 0) _ (by omega) (by omega)⟩⟩
/-- the registers -/
theorem bg_L51 {LS : Nat} {R : ma_J} (hR : ma_cl (ma_Ox LS 8) (LS, [], 9, 400) (ma_at mb_LatticefitLaw_begun) (ma_DD (LS, [], 9, 400) ma_nP) R) (hX : ∀ (pc : Nat) (ls st : List ma_V) (k : Nat) (μ : ma_M), bg_X bg_P pc ls st k μ → R pc ls st k μ) :
    ∀ (n : Nat) (μ : ma_M) (k : Nat) (v4 : Int) (u5 u6 u7 : ma_V), v4 = (n : Int) → bg_I μ → 1 ≤ μ 3 0 10 → μ 3 0 10 + n ≤ 8 → 1 ≤ μ 3 0 11 → μ 3 0 11 ≤ 4 → μ 3 0 12 + n ≤ 4 → μ 3 0 13 = 0 → k + 3 * n ≤ 24 → R 51 (bg_ls v4 u5 u6 u7) [] k μ
  | 0, μ, k, v4, u5, u6, u7, hv, H, b1, b2, b3, b4, b6, b5, hk => by
    refine s_LatticefitLaw_begun_51 (d := 4) hR ⟨fun _ => ⟨by omega, sp_in (d := 6) (by omega) (by decide) (fun v hs s0 s1 => k_LatticefitLaw_begun_97 (d := 4) hR ⟨by omega, ?_⟩)⟩, fun c => by omega⟩
    exact bg_L103 hR hX (3 + v).toNat μ k _ _ _ _ (by omega) H b1 (by omega) b3 b4 b5 (by omega)
  | n + 1, μ, k, v4, u5, u6, u7, hv, H, b1, b2, b3, b4, b6, b5, hk => by
    refine s_LatticefitLaw_begun_51 (d := 4) hR ⟨fun c => by omega, fun _ => ⟨by omega, by omega, sp_in (d := 6) (by omega) (by decide) (fun a ha a0 a1 => k_LatticefitLaw_begun_67 (d := 4) hR ⟨by omega, by omega, by omega, sp_in (d := 6) (by omega) (by decide) (fun b hb b0 b1 => k_LatticefitLaw_begun_78 (d := 4) hR ⟨by omega, ?_⟩)⟩)⟩⟩
    refine sp_isNode_r (d := 4) H (by omega) (by omega) ⟨a0, a1⟩ ⟨b0, b1⟩ (fun V HV d10 d11 d12 d13 => k_LatticefitLaw_begun_81 (d := 4) hR ⟨by omega, ?_⟩)
    rw [bg_1]
    exact bg_L51 hR hX n V (k + 3) _ _ _ _ (by omega) HV (by omega) (by omega) (by omega) (by omega) (by omega) (by omega) (by omega)
/-- the inputs -/
theorem bg_L20 {LS : Nat} {R : ma_J} (hR : ma_cl (ma_Ox LS 8) (LS, [], 9, 400) (ma_at mb_LatticefitLaw_begun) (ma_DD (LS, [], 9, 400) ma_nP) R) (hX : ∀ (pc : Nat) (ls st : List ma_V) (k : Nat) (μ : ma_M), bg_X bg_P pc ls st k μ → R pc ls st k μ) :
    ∀ (n : Nat) (μ : ma_M) (k : Nat) (v4 : Int) (u5 u6 u7 : ma_V), v4 = (n : Int) → bg_I μ → μ 3 0 10 = μ 3 0 11 → 1 ≤ μ 3 0 11 + n → μ 3 0 11 + n ≤ 4 → μ 3 0 12 = 0 → μ 3 0 13 = 0 → k + 3 * n ≤ 12 → R 20 (bg_ls v4 u5 u6 u7) [] k μ
  | 0, μ, k, v4, u5, u6, u7, hv, H, b1, b2, b3, b6, b5, hk => by
    refine s_LatticefitLaw_begun_20 (d := 4) hR ⟨fun _ => ⟨by omega, sp_in (d := 6) (by omega) (by decide) (fun v hs s0 s1 => k_LatticefitLaw_begun_46 (d := 4) hR ?_)⟩, fun c => by omega⟩
    exact bg_L51 hR hX v.toNat μ k _ _ _ _ (by omega) H (by omega) (by omega) (by omega) (by omega) (by omega) b5 (by omega)
  | n + 1, μ, k, v4, u5, u6, u7, hv, H, b1, b2, b3, b6, b5, hk => by
    refine s_LatticefitLaw_begun_20 (d := 4) hR ⟨fun c => by omega, fun _ => ⟨by omega, ?_⟩⟩
    refine sp_isNode_i (d := 4) H (by omega) (by omega) (fun V HV d10 d11 d12 d13 => k_LatticefitLaw_begun_32 (d := 4) hR ⟨by omega, ?_⟩)
    rw [bg_1]
    exact bg_L20 hR hX n V (k + 3) _ _ _ _ (by omega) HV (by omega) (by omega) (by omega) (by omega) (by omega) (by omega)
theorem bg_run {LS : Nat} (xs : Nat → Int32) : ma_rx (ma_Ox LS 8) (LS, [], 9, 400) (ma_at mb_LatticefitLaw_begun) (ma_DD (LS, [], 9, 400) ma_nP) (bg_X bg_P) 7 [ma_Rf 0 0, ma_Rf 69 0, ma_U, ma_U, ma_U, ma_U, ma_U, ma_U] [ma_Rf 2 0] 0 (bg_mu (lw_mu xs)) := by
  intro R hR hX
  refine s_LatticefitLaw_begun_7 (d := 4) hR (sp_in (d := 6) (by decide) (by decide) (fun v hs s0 s1 => k_LatticefitLaw_begun_14 (d := 4) hR ⟨by omega, ?_⟩))
  have z : ∀ k : Nat, 2 ≤ k → ∀ r i : Int, bg_mu (lw_mu xs) k r i = 0 := fun k hk r i => by
    unfold bg_mu
    by_cases h : k < 2 ∨ k = 69
    · rw [if_pos h]
      unfold lw_mu
      rw [if_neg (by omega), if_neg (by omega)]
    · rw [if_neg h]
  have z3 := z 3 (by decide)
  have z69 := z 69 (by decide)
  have H : bg_I (bg_mu (lw_mu xs)) := by
    refine ⟨?_, ?_, z 2 (by decide) _ _, ?_, fun k k1 _ r i => z k (by omega) r i⟩
    · unfold rl_c
      rw [z3, z3, z3, z3]
      exact ⟨by decide, by decide, by decide, by decide, by decide, by decide, by decide, by decide, rfl, rfl, rfl, rfl, fun _ _ _ => by omega, fun _ _ _ => by omega, fun _ _ _ => by omega, fun _ _ _ => by omega, fun _ _ _ => by omega, fun _ _ _ => by omega⟩
    · exact ⟨rfl, rfl, rfl, rfl⟩
    · unfold ln
      rw [z3, z3, z3, z3, z69, z69, z69, z69]
      exact ⟨rfl, rfl, rfl, rfl, fun _ _ _ => by omega, fun _ _ _ => by omega⟩
  exact bg_L20 hR hX (1 + v).toNat _ 0 _ _ _ _ (by omega) H (by rw [z3, z3]) (by rw [z3]; omega) (by rw [z3]; omega) (by rw [z3]) (by rw [z3]) (by omega)
