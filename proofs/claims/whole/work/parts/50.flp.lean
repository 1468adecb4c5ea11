/-! flip -/
theorem fl_rng {x k : Int} (hx : 0 ≤ x ∧ x ≤ 65535) (h0 : 0 ≤ k) (h1 : k < 16) : 0 ≤ ma_xor x (ma_shl 1 k) ∧ ma_xor x (ma_shl 1 k) ≤ 65535 := by
  rw [ma_shl_one h0 (by omega), show x = ((x.toNat : Nat) : Int) from by omega]
  have hk : 2 ^ k.toNat < 2 ^ 16 := Nat.pow_lt_pow_right (by decide) (by omega)
  rw [ma_xor_nat _ _ (by omega) (by omega)]
  have := Nat.xor_lt_two_pow (n := 16) (x := x.toNat) (y := 2 ^ k.toNat) (by omega) hk
  omega
theorem pr_flip {LS d : Nat} {μ : ma_M} (H : Rel μ) {v1 v2 v3 : Int} : Pr LS d mi_LatticefitLaw_flip [ma_Rf 2 0, ma_I v1, ma_I v2, ma_I v3, ma_Rf 111 0] mi_LatticefitModel_flip [ma_Rf 69 0, ma_I v1, ma_I v2, ma_I v3] agI μ := by
  intro Post hP
  obtain ⟨Hc, Hs, Hz, Hu, Hm, Hr, Hf, Hk⟩ := id H
  replace Hs := rl_s_cases Hs
  have z5 := Hz.2.2.2.2.1
  clear Hc Hz Hu Hm Hr Hf
  have er : ∀ kk : Int, kk ≠ 0 → (kk = 1 ∧ (v1 < 0 ∨ 14 ≤ v1 ∨ v3 < 0 ∨ 16 ≤ v3) ∨ 0 ≤ v1 ∧ v1 < 14 ∧ 0 ≤ v3 ∧ v3 < 16 ∧ (kk = 2 ∧ μ 2 0 10 < 4 ∨ 4 ≤ μ 2 0 10 ∧ kk = 3 ∧ (v2 < 0 ∨ v1 < 6 ∧ 36 ≤ v2 ∨ 6 ≤ v1 ∧ v1 < 12 ∧ 26 ≤ v2 ∨ v1 = 12 ∧ 12 ≤ v2 ∨ v1 = 13 ∧ 6 ≤ v2))) → Post (.inl (some (ma_I kk))) μ := by
    intro kk hkk hc
    clear Hk
    refine hP kk μ (fun Post2 h2 => ?_)
    have x1 : ∀ t b : Int, t = kk → Post2 (.inl (some (ma_I b))) (ma_up μ 69 0 50 t) := fun t b ht => h2 _ _ (Rel_thrown H t) (ma_up_eq.trans ht) (fun z => absurd z hkk)
    have x2 : ∀ t s b : Int, t = kk → Post2 (.inl (some (ma_I b))) (ma_up (ma_up μ 69 0 50 s) 69 0 50 t) := fun t s b ht => h2 _ _ (Rel_thrown (Rel_thrown H s) t) (ma_up_eq.trans ht) (fun z => absurd z hkk)
    have x3 : ∀ t s r b : Int, t = kk → Post2 (.inl (some (ma_I b))) (ma_up (ma_up (ma_up μ 69 0 50 r) 69 0 50 s) 69 0 50 t) := fun t s r b ht => h2 _ _ (Rel_thrown (Rel_thrown (Rel_thrown H r) s) t) (ma_up_eq.trans ht) (fun z => absurd z hkk)
    refine w_LatticefitModel_flip (d := d + 10) ?_
    repeat' (first | with_reducible refine And.intro ?_ ?_ | intro _)
    all_goals first | (with_reducible refine x3 _ _ _ _ ?_; omega) | (with_reducible refine x2 _ _ _ ?_; omega) | (with_reducible refine x1 _ _ ?_; omega) | omega
  have ok : 0 ≤ v1 → v1 < 14 → 0 ≤ v3 → v3 < 16 → 4 ≤ μ 2 0 10 → 0 ≤ v2 → (v1 < 6 ∧ v2 < 36 ∨ 6 ≤ v1 ∧ v1 < 12 ∧ v2 < 26 ∨ v1 = 12 ∧ v2 < 12 ∨ v1 = 13 ∧ v2 < 6) → Post (.inl (some (ma_I 0))) (ma_up (ma_up μ 60 v1 v2 (ma_xor (μ 60 v1 v2) (ma_shl 1 v3))) 111 0 0 ((ma_up μ 60 v1 v2 (ma_xor (μ 60 v1 v2) (ma_shl 1 v3))) 60 v1 v2)) := by
    intro c0 c1 c2 c3 c4 c5 c6
    rw [ma_up_eq]
    refine hP 0 _ (fun Post2 h2 => ?_)
    obtain ⟨x, hx⟩ : ∃ x, x = ma_xor (μ 60 v1 v2) (ma_shl 1 v3) := ⟨_, rfl⟩
    rw [← hx]
    obtain ⟨W, hW⟩ : ∃ W, W = ma_up (ma_up μ 60 v1 v2 x) 111 0 0 x := ⟨_, rfl⟩
    rw [← hW]
    have w69 : ∀ f : Int, W 69 0 f = μ 69 0 f := fun f => by rw [hW]; simp [ma_up_rd]
    have f29 := w69 29
    have k1 := Hk c4
    have e102 : ∀ i : Int, W 102 0 i = μ 102 0 i := fun i => by rw [hW]; simp [ma_up_rd]
    have e60 : ∀ r i : Int, W 60 r i = if r = v1 ∧ i = v2 then x else μ 60 r i := fun r i => by rw [hW]; simp [ma_up_rd]
    have g1 := k1.1 v1 v2 c0 c1 c5 (by omega)
    have gx : 0 ≤ x ∧ x ≤ 65535 := by rw [hx]; exact fl_rng g1.2 c2 c3
    have fin : Post2 (.inl (some (ma_I ((ma_up (ma_up (ma_up (ma_up W 69 0 50 0) 69 0 50 0) 69 0 50 0) 102 0 (36 * v1 + v2) (ma_xor (W 102 0 (36 * v1 + v2)) (ma_shl 1 v3))) 102 0 (36 * v1 + v2))))) (ma_up (ma_up (ma_up (ma_up W 69 0 50 0) 69 0 50 0) 69 0 50 0) 102 0 (36 * v1 + v2) (ma_xor (W 102 0 (36 * v1 + v2)) (ma_shl 1 v3))) := by
      rw [ma_up_eq, e102, g1.1, ← hx]
      obtain ⟨μ3, h3⟩ : ∃ μ3, μ3 = ma_up (ma_up (ma_up (ma_up W 69 0 50 0) 69 0 50 0) 69 0 50 0) 102 0 (36 * v1 + v2) x := ⟨_, rfl⟩
      rw [← h3]
      have b69 : ∀ f : Int, f ≠ 50 → μ3 69 0 f = μ 69 0 f := fun f hf => by rw [h3]; simp [ma_up_rd, hf]; exact w69 f
      have b102 : ∀ i : Int, μ3 102 0 i = if i = 36 * v1 + v2 then x else μ 102 0 i := fun i => by rw [h3]; simp [ma_up_rd, e102]
      have bo : ∀ k : Nat, k ≠ 60 → k ≠ 69 → k ≠ 102 → k ≠ 111 → μ3 k = μ k := fun k a b c e => by rw [h3, ma_up_ck c, ma_up_ck b, ma_up_ck b, ma_up_ck b, hW, ma_up_ck e, ma_up_ck a]
      have b60 : μ3 60 = W 60 := by rw [h3, ma_up_ck (by decide), ma_up_ck (by decide), ma_up_ck (by decide), ma_up_ck (by decide)]
      refine h2 _ _ (Rel_k H (fun k _ k2 _ _ _ _ _ _ _ k10 k11 _ _ _ _ _ _ _ k19 _ => bo k k2 k10 k11 k19) (fun f _ _ _ f4 => b69 f f4) ?_ (fun _ => ?_)) ?_ (fun _ => ⟨_, rfl, ?_⟩)
      · rw [b69 46 (by decide), b69 47 (by decide)]; exact z5
      · unfold rl_k at k1 ⊢
        rw [bo 105 (by decide) (by decide) (by decide) (by decide), bo 61 (by decide) (by decide) (by decide) (by decide), bo 104 (by decide) (by decide) (by decide) (by decide), bo 62 (by decide) (by decide) (by decide) (by decide), bo 103 (by decide) (by decide) (by decide) (by decide), bo 67 (by decide) (by decide) (by decide) (by decide), bo 3 (by decide) (by decide) (by decide) (by decide), bo 4 (by decide) (by decide) (by decide) (by decide), bo 57 (by decide) (by decide) (by decide) (by decide), b69 49 (by decide), b60]
        refine ⟨fun f i f0 f1 i0 i1 => ?_, k1.2⟩
        have := k1.1 f i f0 f1 i0 i1
        rw [b102, e60]
        by_cases hh : f = v1 ∧ i = v2
        · rw [if_pos hh, if_pos (by omega)]; exact ⟨rfl, gx⟩
        · rw [if_neg hh, if_neg (by omega)]; exact this
      · rw [h3]; rfl
      · rw [h3, ma_up_ck (by decide), ma_up_ck (by decide), ma_up_ck (by decide), ma_up_ck (by decide), hW, ma_up_eq]
    refine w_LatticefitModel_flip (d := d + 10) ?_
    clear H Hk h2 hP k1 e60 e102 w69
    repeat' (first | with_reducible refine And.intro ?_ ?_ | intro _)
    all_goals first | with_reducible exact fin | omega
  refine w_LatticefitLaw_flip (d := d + 8) ?_
  clear Hk
  repeat' (first | with_reducible refine And.intro ?_ ?_ | intro _)
  all_goals first | (with_reducible refine er _ (by decide) ?_; omega) | (with_reducible refine ok ?_ ?_ ?_ ?_ ?_ ?_ ?_ <;> omega) | omega
