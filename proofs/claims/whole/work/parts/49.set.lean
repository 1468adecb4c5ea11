/-! writes to the running chip: setInput, flip -/
theorem Rel_k {μ μ' : ma_M} (H : Rel μ) (hc : ∀ k : Nat, k ≠ 57 → k ≠ 60 → k ≠ 61 → k ≠ 62 → k ≠ 63 → k ≠ 64 → k ≠ 65 → k ≠ 67 → k ≠ 68 → k ≠ 69 → k ≠ 102 → k ≠ 103 → k ≠ 104 → k ≠ 105 → k ≠ 106 → k ≠ 107 → k ≠ 108 → k ≠ 110 → k ≠ 111 → k ≠ 112 → μ' k = μ k) (h69 : ∀ f : Int, f ≠ 46 → f ≠ 47 → f ≠ 49 → f ≠ 50 → μ' 69 0 f = μ 69 0 f) (hz : μ' 69 0 46 = 107 ∧ μ' 69 0 47 = 108 ∨ μ' 69 0 46 = 108 ∧ μ' 69 0 47 = 107) (hk : 4 ≤ μ 2 0 10 → rl_k μ') : Rel μ' := by
  obtain ⟨h1, h2, h3, h4, h5, h6, h7, h8⟩ := H
  have e2 : μ' 2 = μ 2 := hc 2 (by decide) (by decide) (by decide) (by decide) (by decide) (by decide) (by decide) (by decide) (by decide) (by decide) (by decide) (by decide) (by decide) (by decide) (by decide) (by decide) (by decide) (by decide) (by decide) (by decide)
  have hz' : rl_z μ' := by
    unfold rl_z at h3 ⊢
    have e1 : μ' 1 = μ 1 := hc 1 (by decide) (by decide) (by decide) (by decide) (by decide) (by decide) (by decide) (by decide) (by decide) (by decide) (by decide) (by decide) (by decide) (by decide) (by decide) (by decide) (by decide) (by decide) (by decide) (by decide)
    have e109 : μ' 109 = μ 109 := hc 109 (by decide) (by decide) (by decide) (by decide) (by decide) (by decide) (by decide) (by decide) (by decide) (by decide) (by decide) (by decide) (by decide) (by decide) (by decide) (by decide) (by decide) (by decide) (by decide) (by decide)
    have e77 : μ' 77 = μ 77 := hc 77 (by decide) (by decide) (by decide) (by decide) (by decide) (by decide) (by decide) (by decide) (by decide) (by decide) (by decide) (by decide) (by decide) (by decide) (by decide) (by decide) (by decide) (by decide) (by decide) (by decide)
    rw [e1, e109, e77]
    exact ⟨h3.1, h3.2.1, h3.2.2.1, h3.2.2.2.1, hz, h3.2.2.2.2.2⟩
  unfold Rel
  rw [e2]
  refine ⟨rl_c_congr (fun k hk => hc k ?_ ?_ ?_ ?_ ?_ ?_ ?_ ?_ ?_ ?_ ?_ ?_ ?_ ?_ ?_ ?_ ?_ ?_ ?_ ?_) (fun f hf' => h69 f ?_ ?_ ?_ ?_) h1, rl_s_congr (fun k hk => hc k ?_ ?_ ?_ ?_ ?_ ?_ ?_ ?_ ?_ ?_ ?_ ?_ ?_ ?_ ?_ ?_ ?_ ?_ ?_ ?_) (fun f hf' => h69 f ?_ ?_ ?_ ?_) h2, hz', rl_u_congr (fun k hk => hc k ?_ ?_ ?_ ?_ ?_ ?_ ?_ ?_ ?_ ?_ ?_ ?_ ?_ ?_ ?_ ?_ ?_ ?_ ?_ ?_) h4, fun z => ⟨rl_m_congr (fun k hk => hc k ?_ ?_ ?_ ?_ ?_ ?_ ?_ ?_ ?_ ?_ ?_ ?_ ?_ ?_ ?_ ?_ ?_ ?_ ?_ ?_) (fun f hf' => h69 f ?_ ?_ ?_ ?_) (h5 z).1, rl_p_congr (fun k hk => hc k ?_ ?_ ?_ ?_ ?_ ?_ ?_ ?_ ?_ ?_ ?_ ?_ ?_ ?_ ?_ ?_ ?_ ?_ ?_ ?_) (h5 z).2⟩, fun z => rl_r_congr (fun k hk => hc k ?_ ?_ ?_ ?_ ?_ ?_ ?_ ?_ ?_ ?_ ?_ ?_ ?_ ?_ ?_ ?_ ?_ ?_ ?_ ?_) (h6 z), fun z => rl_f_congr (fun k hk => hc k ?_ ?_ ?_ ?_ ?_ ?_ ?_ ?_ ?_ ?_ ?_ ?_ ?_ ?_ ?_ ?_ ?_ ?_ ?_ ?_) (h7 z), hk⟩
  all_goals first | (rintro rfl; revert hk; decide) | (rintro rfl; revert hf'; decide)
theorem pr_setInput {LS d : Nat} {μ : ma_M} (H : Rel μ) {v1 v2 : Int} (hb : v2 = 0 ∨ v2 = 1) : Pr LS d mi_LatticefitLaw_setInput [ma_Rf 2 0, ma_I v1, ma_I v2, ma_Rf 111 0] mi_LatticefitModel_setInput [ma_Rf 69 0, ma_I v1, ma_I v2] agZ μ := by
  intro Post hP
  obtain ⟨Hc, Hs, Hz, Hu, Hm, Hr, Hf, Hk⟩ := id H
  replace Hs := rl_s_cases Hs
  obtain ⟨n0, n1, i0, i1, r0, r1, o0, o1, m8, m9, m10, m11, -⟩ := Hc
  have z5 := Hz.2.2.2.2.1
  clear Hz Hu Hm Hr Hf
  have er : ∀ kk : Int, kk ≠ 0 → (kk = 1 ∧ (v1 < 0 ∨ μ 3 0 11 ≤ v1) ∨ kk = 2 ∧ 0 ≤ v1 ∧ v1 < μ 3 0 11 ∧ μ 2 0 10 < 4) → Post (.inl (some (ma_I kk))) μ := by
    intro kk hkk hc
    clear Hk
    refine hP kk μ (fun Post2 h2 => ?_)
    have x1 : ∀ t b : Int, t = kk → Post2 (.inl (some (ma_I b))) (ma_up μ 69 0 50 t) := fun t b ht => h2 _ _ (Rel_thrown H t) (ma_up_eq.trans ht) (fun z => absurd z hkk)
    have x2 : ∀ t s b : Int, t = kk → Post2 (.inl (some (ma_I b))) (ma_up (ma_up μ 69 0 50 s) 69 0 50 t) := fun t s b ht => h2 _ _ (Rel_thrown (Rel_thrown H s) t) (ma_up_eq.trans ht) (fun z => absurd z hkk)
    refine w_LatticefitModel_setInput (d := d + 9) ?_
    repeat' (first | with_reducible refine And.intro ?_ ?_ | intro _)
    all_goals first | (with_reducible refine x2 _ _ _ ?_; omega) | (with_reducible refine x1 _ _ ?_; omega) | omega
  have ok : ∀ w u : Int, w = v2 → u = μ 61 0 v1 → 0 ≤ v1 → v1 < μ 3 0 11 → 4 ≤ μ 2 0 10 → Post (.inl (some (ma_I 0))) (ma_up (ma_up μ 61 0 v1 w) 111 0 0 u) := by
    intro w u hw hu c0 c1 c2
    subst hw
    refine hP 0 _ (fun Post2 h2 => ?_)
    obtain ⟨W, hW⟩ : ∃ W, W = ma_up (ma_up μ 61 0 v1 w) 111 0 0 u := ⟨_, rfl⟩
    rw [← hW]
    have w69 : ∀ f : Int, W 69 0 f = μ 69 0 f := fun f => by rw [hW]; simp [ma_up_rd]
    have f9 := w69 9
    have f29 := w69 29
    have k1 := Hk c2
    have e105 : ∀ i : Int, W 105 0 i = μ 105 0 i := fun i => by rw [hW]; simp [ma_up_rd]
    have e61 : ∀ i : Int, W 61 0 i = if i = v1 then w else μ 61 0 i := fun i => by rw [hW]; simp [ma_up_rd]
    have g1 := k1.2.1 v1 c0 (by omega)
    have g2 := e105 v1
    have fin : Post2 (.inl (some (ma_I (W 105 0 v1)))) (ma_up (ma_up (ma_up W 69 0 50 0) 69 0 50 0) 105 0 v1 w) := by
      obtain ⟨μ3, h3⟩ : ∃ μ3, μ3 = ma_up (ma_up (ma_up W 69 0 50 0) 69 0 50 0) 105 0 v1 w := ⟨_, rfl⟩
      rw [← h3]
      have b69 : ∀ f : Int, f ≠ 50 → μ3 69 0 f = μ 69 0 f := fun f hf => by rw [h3]; simp [ma_up_rd, hf]; exact w69 f
      have b105 : ∀ i : Int, μ3 105 0 i = if i = v1 then w else μ 105 0 i := fun i => by rw [h3]; simp [ma_up_rd, e105]
      have bo : ∀ k : Nat, k ≠ 61 → k ≠ 69 → k ≠ 105 → k ≠ 111 → μ3 k = μ k := fun k a b c e => by rw [h3, ma_up_ck c, ma_up_ck b, ma_up_ck b, hW, ma_up_ck e, ma_up_ck a]
      have b61 : μ3 61 = W 61 := by rw [h3, ma_up_ck (by decide), ma_up_ck (by decide), ma_up_ck (by decide)]
      refine h2 _ _ (Rel_k H (fun k _ _ k3 _ _ _ _ _ _ k10 _ _ _ k14 _ _ _ _ k19 _ => bo k k3 k10 k14 k19) (fun f _ _ _ f4 => b69 f f4) ?_ (fun _ => ?_)) ?_ (fun _ => ⟨_, rfl, by omega, ?_⟩)
      · rw [b69 46 (by decide), b69 47 (by decide)]; exact z5
      · unfold rl_k at k1 ⊢
        rw [bo 102 (by decide) (by decide) (by decide) (by decide), bo 60 (by decide) (by decide) (by decide) (by decide), bo 104 (by decide) (by decide) (by decide) (by decide), bo 62 (by decide) (by decide) (by decide) (by decide), bo 103 (by decide) (by decide) (by decide) (by decide), bo 67 (by decide) (by decide) (by decide) (by decide), bo 3 (by decide) (by decide) (by decide) (by decide), bo 4 (by decide) (by decide) (by decide) (by decide), bo 57 (by decide) (by decide) (by decide) (by decide), b69 49 (by decide), b61]
        refine ⟨k1.1, fun j j0 j1 => ?_, k1.2.2⟩
        have := k1.2.1 j j0 j1
        rw [b105, e61]
        split
        · subst j; exact ⟨rfl, hb, fun _ => by omega⟩
        · exact this
      · rw [h3]; rfl
      · rw [h3, ma_up_ck (by decide), ma_up_ck (by decide), ma_up_ck (by decide), hW, ma_up_eq]; rw [hW] at g2; omega
    refine w_LatticefitModel_setInput (d := d + 9) ?_
    clear H Hk h2 hP k1
    repeat' (first | with_reducible refine And.intro ?_ ?_ | intro _)
    all_goals first | with_reducible exact fin | omega
  have q : 4 ≤ μ 2 0 10 → 0 ≤ v1 → v1 < μ 3 0 11 → (μ 61 0 v1 = 0 ∨ μ 61 0 v1 = 1) := fun a b c => ((Hk a).2.1 v1 b (by omega)).2.1
  refine w_LatticefitLaw_setInput (d := d + 9) ?_
  clear Hk
  repeat' (first | with_reducible refine And.intro ?_ ?_ | intro _)
  all_goals first | (with_reducible refine er _ (by decide) ?_; omega) | (with_reducible refine ok _ _ ?_ ?_ ?_ ?_ ?_ <;> omega) | omega
