/-! addRegister, feed, addOutput, kindOf -/
theorem mq_addRegister {LS d : Nat} {W : ma_M} {v1 v2 : Int} (hb : v1 = 0 ∨ v1 = 1) (hv2 : 0 ≤ v2 ∧ v2 ≤ 2) (hn : 0 ≤ W 69 0 8 ∧ W 69 0 8 < 48) (hr : 0 ≤ W 69 0 10 ∧ W 69 0 10 < 8) {Post : ma_R → ma_M → Prop}
    (h : ∀ (μ3 : ma_M), (∀ k : Nat, k ≠ 69 → k ≠ 96 → μ3 k = ma_up (ma_up (ma_up (ma_up W 77 0 (W 69 0 8) v1) 73 0 (W 69 0 8) v2) 70 0 (W 69 0 8) 114) 74 0 (W 69 0 8) (W 69 0 8) k) → (∀ f : Int, f ≠ 8 → f ≠ 10 → f ≠ 26 → f ≠ 27 → f ≠ 28 → f ≠ 29 → f ≠ 50 → μ3 69 0 f = W 69 0 f) → μ3 69 0 50 = 0 → μ3 69 0 8 = W 69 0 8 + 1 → μ3 69 0 10 = W 69 0 10 + 1 → μ3 69 0 26 = 0 → μ3 69 0 27 = 0 → μ3 69 0 28 = 0 → μ3 69 0 29 = 0 → (∀ e : Int, 0 ≤ e → e < 84 → μ3 96 0 e = 0) → Post (.inl (some (ma_I (W 69 0 8)))) μ3) :
    ma_Ox LS (d + 4) mi_LatticefitModel_addRegister [ma_Rf 69 0, ma_I v1, ma_I v2] W Post := by
  refine gi_LatticefitModel_addRegister (fun R hR => s_LatticefitModel_addRegister_0 (d := d) hR ?_)
  have fin : ma_Ox LS (d + 3) mi_LatticefitModel_newNode [ma_Rf 69 0, ma_I 114] (ma_up (ma_up (ma_up (ma_up (ma_up W 69 0 50 0) 69 0 50 0) 77 0 (W 69 0 8) v1) 73 0 (W 69 0 8) v2) 69 0 10 ((W 69 0 10) + 1)) (ma_ct (ma_Ox LS (d + 3)) (LS, [], 1, 0) 88 [ma_Rf 69 0, ma_I v1, ma_I v2] [] 0 mt_LatticefitModel_addRegister_91 R (ma_DD (LS, [], 1, 0) Post)) := by
    refine sp_newNode hn (by decide) (fun μ3 g1 g2 g3 g4 g5 g6 g7 g8 => k_LatticefitModel_addRegister_88 hR (h μ3 (fun k k1 k2 => ?_) (fun f f1 f2 f3 f4 f5 f6 f7 => ?_) ?_ g3 ?_ g4 g5 g6 g7 g8))
    · rw [g1 k k1 k2]
      by_cases e70 : k = 70
      · subst e70; funext r i; simp [ma_up_rd]
      · by_cases e74 : k = 74
        · subst e74; funext r i; simp [ma_up_rd]
        · rw [ma_up_ck e74, ma_up_ck e70, ma_up_ck e74, ma_up_ck e70, ma_up_ck k1]
          by_cases e73 : k = 73
          · subst e73; funext r i; simp [ma_up_rd]
          · rw [ma_up_ck e73, ma_up_ck e73]
            by_cases e77 : k = 77
            · subst e77; funext r i; simp [ma_up_rd]
            · rw [ma_up_ck e77, ma_up_ck e77, ma_up_ck k1, ma_up_ck k1]
    · rw [g2 f f1 f3 f4 f5 f6, ma_up_ne (by omega), ma_up_ck (by decide), ma_up_ck (by decide), ma_up_ne (by omega), ma_up_ne (by omega)]
    · rw [g2 50 (by decide) (by decide) (by decide) (by decide) (by decide)]; rfl
    · rw [g2 10 (by decide) (by decide) (by decide) (by decide) (by decide)]; rfl
  repeat' (first | with_reducible refine And.intro ?_ ?_ | intro _)
  all_goals first | omega | exact fin
theorem pr_addRegister {LS d : Nat} {μ : ma_M} (H : Rel μ) {v1 v2 : Int} (hb : v1 = 0 ∨ v1 = 1) : Pr LS d mi_LatticefitLaw_addRegister [ma_Rf 2 0, ma_I v1, ma_I v2, ma_Rf 111 0] mi_LatticefitModel_addRegister [ma_Rf 69 0, ma_I v1, ma_I v2] agI μ := by
  intro Post hP
  have Hc := H.1
  unfold rl_c at Hc
  obtain ⟨n0, n1, i0, i1, r0, r1, o0, o1, m8, m9, m10, m11, Hn, Hi, Hr, Hr2, Hr3, Ho⟩ := Hc
  have R1 := Rel_thrown H 1
  have R2 := Rel_thrown (Rel_thrown H 0) 2
  have q1 : (v2 < 0 ∨ 3 ≤ v2) → Post (.inl (some (ma_I 1))) μ := fun hc => hP 1 μ (fun Post2 h2 => by
    have fin := h2 (ma_I 0) _ R1 ma_up_eq (fun z => by omega)
    refine gi_LatticefitModel_addRegister (fun R hR => s_LatticefitModel_addRegister_0 (d := d + 8) hR ?_)
    repeat' (first | with_reducible refine And.intro ?_ ?_ | intro _)
    all_goals first | omega | exact fin)
  have q2 : 0 ≤ v2 ∧ v2 ≤ 2 → (48 ≤ μ 3 0 10 ∨ 8 ≤ μ 3 0 12) → Post (.inl (some (ma_I 2))) μ := fun hc hc2 => hP 2 μ (fun Post2 h2 => by
    have fin := h2 (ma_I 0) _ R2 ma_up_eq (fun z => by omega)
    refine gi_LatticefitModel_addRegister (fun R hR => s_LatticefitModel_addRegister_0 (d := d + 8) hR ?_)
    repeat' (first | with_reducible refine And.intro ?_ ?_ | intro _)
    all_goals first | omega | exact fin)
  have ok : ∀ w : Int, w = v1 → 0 ≤ v2 ∧ v2 ≤ 2 → μ 3 0 10 < 48 → μ 3 0 12 < 8 → Post (.inl (some (ma_I 0))) (ma_up (ma_up (ma_up (ma_up (ma_up (ma_up (ma_up (ma_up (ma_up μ 2 0 10 0) 4 0 (μ 3 0 10) 114) 8 0 (μ 3 0 10) w) 9 0 (μ 3 0 10) v2) 7 0 (μ 3 0 10) (μ 3 0 10)) 12 0 (μ 3 0 12) (μ 3 0 10)) 3 0 12 ((μ 3 0 12) + 1)) 3 0 10 ((μ 3 0 10) + 1)) 111 0 0 (μ 3 0 10)) := by
    intro w hw hv2 hn hr
    subst hw
    refine hP 0 _ (fun Post2 h2 => ?_)
    obtain ⟨W, hW⟩ : ∃ W, W = ma_up (ma_up (ma_up (ma_up (ma_up (ma_up (ma_up (ma_up (ma_up μ 2 0 10 0) 4 0 (μ 3 0 10) 114) 8 0 (μ 3 0 10) w) 9 0 (μ 3 0 10) v2) 7 0 (μ 3 0 10) (μ 3 0 10)) 12 0 (μ 3 0 12) (μ 3 0 10)) 3 0 12 ((μ 3 0 12) + 1)) 3 0 10 ((μ 3 0 10) + 1)) 111 0 0 (μ 3 0 10) := ⟨_, rfl⟩
    rw [← hW]
    have w69 : ∀ f : Int, W 69 0 f = μ 69 0 f := fun f => by rw [hW]; simp [ma_up_rd]
    have w8 : W 69 0 8 = μ 3 0 10 := (w69 8).trans m8
    have w10 : W 69 0 10 = μ 3 0 12 := (w69 10).trans m10
    refine mq_addRegister (d := d + 8) hb hv2 (by omega) (by omega) (fun μ3 g1 g2 g50 g8 g10 g26 g27 g28 g29 gn => ?_)
    rw [w8] at g1 g8 ⊢
    have gk : ∀ k : Nat, k ≠ 69 → k ≠ 96 → ∀ r i : Int, μ3 k r i = ma_up (ma_up (ma_up (ma_up W 77 0 (μ 3 0 10) w) 73 0 (μ 3 0 10) v2) 70 0 (μ 3 0 10) 114) 74 0 (μ 3 0 10) (μ 3 0 10) k r i := fun k k1 k2 r i => by rw [g1 k k1 k2]
    have e3 : ∀ f : Int, f ≠ 10 → f ≠ 12 → μ3 3 0 f = μ 3 0 f := fun f hf hf2 => by rw [gk 3 (by decide) (by decide), hW]; simp [ma_up_rd, hf, hf2]
    have e310 : μ3 3 0 10 = μ 3 0 10 + 1 := by rw [gk 3 (by decide) (by decide), hW]; simp [ma_up_rd]
    have e312 : μ3 3 0 12 = μ 3 0 12 + 1 := by rw [gk 3 (by decide) (by decide), hW]; simp [ma_up_rd]
    have a4 : ∀ i : Int, μ3 4 0 i = if i = μ 3 0 10 then 114 else μ 4 0 i := fun i => by rw [gk 4 (by decide) (by decide), hW]; simp [ma_up_rd]
    have a7 : ∀ i : Int, μ3 7 0 i = if i = μ 3 0 10 then μ 3 0 10 else μ 7 0 i := fun i => by rw [gk 7 (by decide) (by decide), hW]; simp [ma_up_rd]
    have a8 : ∀ i : Int, μ3 8 0 i = if i = μ 3 0 10 then w else μ 8 0 i := fun i => by rw [gk 8 (by decide) (by decide), hW]; simp [ma_up_rd]
    have a9 : ∀ i : Int, μ3 9 0 i = if i = μ 3 0 10 then v2 else μ 9 0 i := fun i => by rw [gk 9 (by decide) (by decide), hW]; simp [ma_up_rd]
    have a12 : ∀ i : Int, μ3 12 0 i = if i = μ 3 0 12 then μ 3 0 10 else μ 12 0 i := fun i => by rw [gk 12 (by decide) (by decide), hW]; simp [ma_up_rd]
    have a70 : ∀ i : Int, μ3 70 0 i = if i = μ 3 0 10 then 114 else μ 70 0 i := fun i => by rw [gk 70 (by decide) (by decide), hW]; simp [ma_up_rd]
    have a73 : ∀ i : Int, μ3 73 0 i = if i = μ 3 0 10 then v2 else μ 73 0 i := fun i => by rw [gk 73 (by decide) (by decide), hW]; simp [ma_up_rd]
    have a74 : ∀ i : Int, μ3 74 0 i = if i = μ 3 0 10 then μ 3 0 10 else μ 74 0 i := fun i => by rw [gk 74 (by decide) (by decide), hW]; simp [ma_up_rd]
    have a77 : ∀ i : Int, μ3 77 0 i = if i = μ 3 0 10 then w else μ 77 0 i := fun i => by rw [gk 77 (by decide) (by decide), hW]; simp [ma_up_rd]
    have eo : ∀ k ∈ ([1, 5, 6, 10, 11, 13, 71, 72, 75, 76, 109] : List Nat), μ3 k = μ k := fun k hk => by
      simp only [List.mem_cons, List.not_mem_nil, or_false] at hk
      rcases hk with rfl | rfl | rfl | rfl | rfl | rfl | rfl | rfl | rfl | rfl | rfl <;> (rw [g1 _ (by decide) (by decide), hW]; rfl)
    refine h2 _ _ ?_ g50 (fun _ => ⟨_, rfl, by rw [gk 111 (by decide) (by decide), hW]; rfl⟩)
    have gf : ∀ f : Int, f ≠ 8 → f ≠ 10 → f ≠ 26 → f ≠ 27 → f ≠ 28 → f ≠ 29 → f ≠ 50 → μ3 69 0 f = μ 69 0 f := fun f f1 f2 f3 f4 f5 f6 f7 => (g2 f f1 f2 f3 f4 f5 f6 f7).trans (w69 f)
    refine Rel_add H hn (by rw [gk 2 (by decide) (by decide), hW]; rfl) g26 g27 g28 g29 gn (eo 1 (by decide)) (eo 109 (by decide)) (by rw [a77, if_pos rfl]; exact hb) (gf 46 (by decide) (by decide) (by decide) (by decide) (by decide) (by decide) (by decide)) (gf 47 (by decide) (by decide) (by decide) (by decide) (by decide) (by decide) (by decide)) e310 (e3 13 (by decide) (by decide)) (by rw [g8, e310]) (by rw [e3 11 (by decide) (by decide), gf 9 (by decide) (by decide) (by decide) (by decide) (by decide) (by decide) (by decide), m9]) (by rw [e312, g10, w10]) (gf 11 (by decide) (by decide) (by decide) (by decide) (by decide) (by decide) (by decide)) (fun j => by rw [eo 13 (by decide)]) (fun j => by rw [eo 76 (by decide)]) ?_ (Or.inl ⟨e3 11 (by decide) (by decide), by rw [a4, if_pos rfl]; decide, fun j => by rw [eo 11 (by decide)]⟩) (Or.inr ⟨hr, e312, by rw [a4, if_pos rfl], a12⟩) ?_
    · intro k hk i hi
      simp only [List.mem_cons, List.not_mem_nil, or_false] at hk
      rcases hk with rfl | rfl | rfl | rfl | rfl | rfl | rfl | rfl | rfl | rfl | rfl | rfl | rfl | rfl
      · rw [a4, if_neg hi]
      · rw [eo 5 (by decide)]
      · rw [eo 6 (by decide)]
      · rw [a7, if_neg hi]
      · rw [a8, if_neg hi]
      · rw [a9, if_neg hi]
      · rw [eo 10 (by decide)]
      · rw [a70, if_neg hi]
      · rw [eo 71 (by decide)]
      · rw [eo 72 (by decide)]
      · rw [a73, if_neg hi]
      · rw [a74, if_neg hi]
      · rw [eo 75 (by decide)]
      · rw [a77, if_neg hi]
    · unfold rl_n
      rw [a4, if_pos rfl, a70, if_pos rfl, a7, if_pos rfl, a8, if_pos rfl, a9, if_pos rfl, a73, if_pos rfl, a74, if_pos rfl, a77, if_pos rfl, e310]
      exact ⟨rfl, by decide, fun z => by omega, fun _ => ⟨rfl, by omega, by omega, rfl, by omega, by omega, rfl, hb⟩, fun _ z => by omega⟩
  refine w_LatticefitLaw_addRegister (d := d + 9) ?_
  have ok0 := ok 0
  have ok1 := ok 1
  repeat' (first | with_reducible refine And.intro ?_ ?_ | intro _)
  all_goals first | omega | exact q1 (by omega) | exact q2 (by omega) (by omega) | exact ok0 (by omega) (by omega) (by omega) (by omega) | exact ok1 (by omega) (by omega) (by omega) (by omega)
theorem pr_feed {LS d : Nat} {μ : ma_M} (H : Rel μ) {v1 v2 : Int} : Pr LS d mi_LatticefitLaw_feed [ma_Rf 2 0, ma_I v1, ma_I v2, ma_Rf 111 0] mi_LatticefitModel_feed [ma_Rf 69 0, ma_I v1, ma_I v2] agI μ := by
  intro Post hP
  have Hc := H.1
  unfold rl_c at Hc
  obtain ⟨n0, n1, i0, i1, r0, r1, o0, o1, m8, m9, m10, m11, Hn, Hi, Hr, Hr2, Hr3, Ho⟩ := Hc
  have R1 := Rel_thrown H 1
  have R2 := Rel_thrown (Rel_thrown H 0) 2
  have q1 : (v1 < 0 ∨ μ 3 0 10 ≤ v1 ∨ v2 < 0 ∨ μ 3 0 10 ≤ v2) → Post (.inl (some (ma_I 1))) μ := fun hc => hP 1 μ (fun Post2 h2 => by
    have fin := h2 (ma_I 0) _ R1 ma_up_eq (fun z => by omega)
    refine gi_LatticefitModel_feed (fun R hR => s_LatticefitModel_feed_0 (d := d + 9) hR ?_)
    repeat' (first | with_reducible refine And.intro ?_ ?_ | intro _)
    all_goals first | omega | exact fin)
  have q2 : 0 ≤ v1 → v1 < μ 3 0 10 → 0 ≤ v2 → v2 < μ 3 0 10 → ¬ μ 4 0 v1 = 114 → Post (.inl (some (ma_I 2))) μ := fun a1 a2 a3 a4 a5 => hP 2 μ (fun Post2 h2 => by
    have fin := h2 (ma_I 0) _ R2 ma_up_eq (fun z => by omega)
    have hk := (Hn v1 a1 a2).1
    refine gi_LatticefitModel_feed (fun R hR => s_LatticefitModel_feed_0 (d := d + 9) hR ?_)
    repeat' (first | with_reducible refine And.intro ?_ ?_ | intro _)
    all_goals first | omega | exact fin)
  have ok : 0 ≤ v1 → v1 < μ 3 0 10 → 0 ≤ v2 → v2 < μ 3 0 10 → μ 4 0 v1 = 114 → Post (.inl (some (ma_I 0))) (ma_up (ma_up (ma_up μ 2 0 10 0) 7 0 v1 v2) 111 0 0 (μ 7 0 v1)) := by
    intro a1 a2 a3 a4 a5
    have hN := Hn v1 a1 a2
    unfold rl_n at hN
    obtain ⟨b1, b2, b3, b4, b5⟩ := hN
    obtain ⟨c1, c2, c3, c4⟩ := b4 a5
    refine hP 0 _ (fun Post2 h2 => ?_)
    obtain ⟨W, hW⟩ : ∃ W, W = ma_up (ma_up (ma_up μ 2 0 10 0) 7 0 v1 v2) 111 0 0 (μ 7 0 v1) := ⟨_, rfl⟩
    rw [← hW]
    have wk : ∀ k : Nat, k ≠ 2 → k ≠ 7 → k ≠ 111 → W k = μ k := fun k k1 k2 k3 => by rw [hW, ma_up_ck k3, ma_up_ck k2, ma_up_ck k1]
    have w8 : W 69 0 8 = μ 3 0 10 := by rw [wk 69 (by decide) (by decide) (by decide)]; exact m8
    have w70 : W 70 0 v1 = 114 := by rw [wk 70 (by decide) (by decide) (by decide), b1, a5]
    have w74 : W 74 0 v1 = μ 7 0 v1 := by rw [wk 74 (by decide) (by decide) (by decide)]; exact c1
    have fin : ∀ R : ma_J, ma_cl (ma_Ox LS (d + 11)) (LS, [], 1, 0) (ma_at mb_LatticefitModel_feed) (ma_DD (LS, [], 1, 0) Post2) R → ma_Ox LS (d + 11) mi_LatticefitModel_changes [ma_Rf 69 0] (ma_up (ma_up (ma_up W 69 0 50 0) 69 0 50 0) 74 0 v1 v2) (ma_ct (ma_Ox LS (d + 11)) (LS, [], 1, 0) 82 [ma_Rf 69 0, ma_I v1, ma_I v2, ma_I (W 74 0 v1)] [] 0 mt_LatticefitModel_feed_85 R (ma_DD (LS, [], 1, 0) Post2)) := fun R hR => by
      refine sp_changes (fun μ3 g1 g2 g3 g4 g5 g6 g7 => k_LatticefitModel_feed_82 (d := d + 9) hR (h2 _ _ ?_ ?_ (fun _ => ⟨_, rfl, ?_⟩)))
      · have gk : ∀ k : Nat, k ≠ 2 → k ≠ 7 → k ≠ 111 → k ≠ 69 → k ≠ 96 → k ≠ 74 → μ3 k = μ k := fun k k1 k2 k3 k4 k5 k6 => by rw [g1 k k4 k5, ma_up_ck k6, ma_up_ck k4, ma_up_ck k4, wk k k1 k2 k3]
        have a7 : ∀ i : Int, μ3 7 0 i = if i = v1 then v2 else μ 7 0 i := fun i => by rw [g1 7 (by decide) (by decide), ma_up_ck (by decide), ma_up_ck (by decide), ma_up_ck (by decide), hW]; simp [ma_up_rd]
        have a74 : ∀ i : Int, μ3 74 0 i = if i = v1 then v2 else μ 74 0 i := fun i => by rw [g1 74 (by decide) (by decide), hW]; simp [ma_up_rd]
        have gf : ∀ f : Int, f ≠ 26 → f ≠ 27 → f ≠ 28 → f ≠ 29 → f ≠ 50 → μ3 69 0 f = μ 69 0 f := fun f f1 f2 f3 f4 f5 => by rw [g2 f f1 f2 f3 f4, ma_up_ck (by decide), ma_up_ne (by omega), ma_up_ne (by omega), wk 69 (by decide) (by decide) (by decide)]
        refine Rel_zero ?_ (rl_z_congr (fun k hk => ?_) (fun f hf => ?_) H.2.2.1) (by rw [g1 2 (by decide) (by decide), ma_up_ck (by decide), ma_up_ck (by decide), ma_up_ck (by decide), hW]; rfl) g3 g4 g5 g6 g7
        · unfold rl_c
          simp only [gk 3 (by decide) (by decide) (by decide) (by decide) (by decide) (by decide), gk 4 (by decide) (by decide) (by decide) (by decide) (by decide) (by decide), gk 10 (by decide) (by decide) (by decide) (by decide) (by decide) (by decide), gk 11 (by decide) (by decide) (by decide) (by decide) (by decide) (by decide), gk 12 (by decide) (by decide) (by decide) (by decide) (by decide) (by decide), gk 13 (by decide) (by decide) (by decide) (by decide) (by decide) (by decide), gk 76 (by decide) (by decide) (by decide) (by decide) (by decide) (by decide), gf 8 (by decide) (by decide) (by decide) (by decide) (by decide), gf 9 (by decide) (by decide) (by decide) (by decide) (by decide), gf 10 (by decide) (by decide) (by decide) (by decide) (by decide), gf 11 (by decide) (by decide) (by decide) (by decide) (by decide)]
          refine ⟨n0, n1, i0, i1, r0, r1, o0, o1, m8, m9, m10, m11, fun i h0 h1 => ?_, Hi, Hr, Hr2, Hr3, Ho⟩
          have h := Hn i h0 h1
          unfold rl_n at h ⊢
          rw [a7, a74]
          simp only [gk 3 (by decide) (by decide) (by decide) (by decide) (by decide) (by decide), gk 4 (by decide) (by decide) (by decide) (by decide) (by decide) (by decide), gk 5 (by decide) (by decide) (by decide) (by decide) (by decide) (by decide), gk 6 (by decide) (by decide) (by decide) (by decide) (by decide) (by decide), gk 8 (by decide) (by decide) (by decide) (by decide) (by decide) (by decide), gk 9 (by decide) (by decide) (by decide) (by decide) (by decide) (by decide), gk 10 (by decide) (by decide) (by decide) (by decide) (by decide) (by decide), gk 11 (by decide) (by decide) (by decide) (by decide) (by decide) (by decide), gk 70 (by decide) (by decide) (by decide) (by decide) (by decide) (by decide), gk 71 (by decide) (by decide) (by decide) (by decide) (by decide) (by decide), gk 72 (by decide) (by decide) (by decide) (by decide) (by decide) (by decide), gk 73 (by decide) (by decide) (by decide) (by decide) (by decide) (by decide), gk 75 (by decide) (by decide) (by decide) (by decide) (by decide) (by decide), gk 77 (by decide) (by decide) (by decide) (by decide) (by decide) (by decide)]
          obtain ⟨d1, d2, d3, d4, d5⟩ := h
          refine ⟨d1, d2, d3, fun z => ?_, d5⟩
          obtain ⟨x1, x2, x3, x4⟩ := d4 z
          by_cases hi : i = v1
          · rw [if_pos hi, if_pos hi]
            exact ⟨rfl, a3, a4, x4⟩
          · rw [if_neg hi, if_neg hi]
            exact ⟨x1, x2, x3, x4⟩
        · simp only [List.mem_cons, List.not_mem_nil, or_false] at hk
          rcases hk with rfl | rfl | rfl <;> exact gk _ (by decide) (by decide) (by decide) (by decide) (by decide) (by decide)
        · simp only [List.mem_cons, List.not_mem_nil, or_false] at hf
          rcases hf with rfl | rfl <;> exact gf _ (by decide) (by decide) (by decide) (by decide) (by decide)
      · rw [g2 50 (by decide) (by decide) (by decide) (by decide)]; rfl
      · rw [g1 111 (by decide) (by decide), ma_up_ck (by decide), ma_up_ck (by decide), ma_up_ck (by decide), w74, hW]; rfl
    refine gi_LatticefitModel_feed (fun R hR => s_LatticefitModel_feed_0 (d := d + 9) hR ?_)
    have fin := fin R hR
    repeat' (first | with_reducible refine And.intro ?_ ?_ | intro _)
    all_goals first | omega | exact fin
  refine w_LatticefitLaw_feed (d := d + 9) ?_
  repeat' (first | with_reducible refine And.intro ?_ ?_ | intro _)
  all_goals first | omega | exact q1 (by omega) | exact ok (by omega) (by omega) (by omega) (by omega) (by assumption) | exact q2 (by omega) (by omega) (by omega) (by omega) (by assumption)
theorem pr_addOutput {LS d : Nat} {μ : ma_M} (H : Rel μ) {v1 : Int} : Pr LS d mi_LatticefitLaw_addOutput [ma_Rf 2 0, ma_I v1, ma_Rf 111 0] mi_LatticefitModel_addOutput [ma_Rf 69 0, ma_I v1] agI μ := by
  intro Post hP
  have Hc := H.1
  unfold rl_c at Hc
  obtain ⟨n0, n1, i0, i1, r0, r1, o0, o1, m8, m9, m10, m11, Hn, Hi, Hr, Hr2, Hr3, Ho⟩ := Hc
  have R1 := Rel_thrown H 1
  have R2 := Rel_thrown (Rel_thrown H 0) 2
  have q1 : (v1 < 0 ∨ μ 3 0 10 ≤ v1) → Post (.inl (some (ma_I 1))) μ := fun hc => hP 1 μ (fun Post2 h2 => by
    have fin := h2 (ma_I 0) _ R1 ma_up_eq (fun z => by omega)
    refine gi_LatticefitModel_addOutput (fun R hR => s_LatticefitModel_addOutput_0 (d := d + 9) hR ?_)
    repeat' (first | with_reducible refine And.intro ?_ ?_ | intro _)
    all_goals first | omega | exact fin)
  have q2 : 0 ≤ v1 → v1 < μ 3 0 10 → μ 3 0 13 = 6 → Post (.inl (some (ma_I 2))) μ := fun a1 a2 a5 => hP 2 μ (fun Post2 h2 => by
    have fin := h2 (ma_I 0) _ R2 ma_up_eq (fun z => by omega)
    refine gi_LatticefitModel_addOutput (fun R hR => s_LatticefitModel_addOutput_0 (d := d + 9) hR ?_)
    repeat' (first | with_reducible refine And.intro ?_ ?_ | intro _)
    all_goals first | omega | exact fin)
  have ok : 0 ≤ v1 → v1 < μ 3 0 10 → μ 3 0 13 < 6 → Post (.inl (some (ma_I 0))) (ma_up (ma_up (ma_up (ma_up μ 2 0 10 0) 13 0 (μ 3 0 13) v1) 3 0 13 ((μ 3 0 13) + 1)) 111 0 0 (μ 3 0 13)) := by
    intro a1 a2 a3
    refine hP 0 _ (fun Post2 h2 => ?_)
    obtain ⟨W, hW⟩ : ∃ W, W = ma_up (ma_up (ma_up (ma_up μ 2 0 10 0) 13 0 (μ 3 0 13) v1) 3 0 13 ((μ 3 0 13) + 1)) 111 0 0 (μ 3 0 13) := ⟨_, rfl⟩
    rw [← hW]
    have wk : ∀ k : Nat, k ≠ 2 → k ≠ 3 → k ≠ 13 → k ≠ 111 → W k = μ k := fun k k1 k2 k3 k4 => by rw [hW, ma_up_ck k4, ma_up_ck k2, ma_up_ck k3, ma_up_ck k1]
    have w8 : W 69 0 8 = μ 3 0 10 := by rw [wk 69 (by decide) (by decide) (by decide) (by decide)]; exact m8
    have w11 : W 69 0 11 = μ 3 0 13 := by rw [wk 69 (by decide) (by decide) (by decide) (by decide)]; exact m11
    have fin : ∀ R : ma_J, ma_cl (ma_Ox LS (d + 11)) (LS, [], 1, 0) (ma_at mb_LatticefitModel_addOutput) (ma_DD (LS, [], 1, 0) Post2) R → ma_Ox LS (d + 11) mi_LatticefitModel_changes [ma_Rf 69 0] (ma_up (ma_up (ma_up (ma_up W 69 0 50 0) 69 0 50 0) 76 0 (W 69 0 11) v1) 69 0 11 ((W 69 0 11) + 1)) (ma_ct (ma_Ox LS (d + 11)) (LS, [], 1, 0) 57 [ma_Rf 69 0, ma_I v1] [] 0 mt_LatticefitModel_addOutput_60 R (ma_DD (LS, [], 1, 0) Post2)) := fun R hR => by
      refine sp_changes (fun μ3 g1 g2 g3 g4 g5 g6 g7 => k_LatticefitModel_addOutput_57 (d := d + 9) hR ?_)
      have f11 : μ3 69 0 11 = μ 3 0 13 + 1 := by rw [g2 11 (by decide) (by decide) (by decide) (by decide), ← w11]; rfl
      refine ⟨by omega, h2 _ _ ?_ ?_ (fun _ => ⟨_, rfl, ?_⟩)⟩
      · have gk : ∀ k : Nat, k ≠ 2 → k ≠ 3 → k ≠ 13 → k ≠ 111 → k ≠ 69 → k ≠ 96 → k ≠ 76 → μ3 k = μ k := fun k k1 k2 k3 k4 k5 k6 k7 => by rw [g1 k k5 k6, ma_up_ck k5, ma_up_ck k7, ma_up_ck k5, ma_up_ck k5, wk k k1 k2 k3 k4]
        have a3' : ∀ f : Int, f ≠ 13 → μ3 3 0 f = μ 3 0 f := fun f hf => by rw [g1 3 (by decide) (by decide), ma_up_ck (by decide), ma_up_ck (by decide), ma_up_ck (by decide), ma_up_ck (by decide), hW]; simp [ma_up_rd, hf]
        have a313 : μ3 3 0 13 = μ 3 0 13 + 1 := by rw [g1 3 (by decide) (by decide), ma_up_ck (by decide), ma_up_ck (by decide), ma_up_ck (by decide), ma_up_ck (by decide), hW]; simp [ma_up_rd]
        have a13 : ∀ i : Int, μ3 13 0 i = if i = μ 3 0 13 then v1 else μ 13 0 i := fun i => by rw [g1 13 (by decide) (by decide), ma_up_ck (by decide), ma_up_ck (by decide), ma_up_ck (by decide), ma_up_ck (by decide), hW]; simp [ma_up_rd]
        have a76 : ∀ i : Int, μ3 76 0 i = if i = μ 3 0 13 then v1 else μ 76 0 i := fun i => by rw [g1 76 (by decide) (by decide), w11, hW]; simp [ma_up_rd]
        have gf : ∀ f : Int, f ≠ 11 → f ≠ 26 → f ≠ 27 → f ≠ 28 → f ≠ 29 → f ≠ 50 → μ3 69 0 f = μ 69 0 f := fun f f0 f1 f2 f3 f4 f5 => by rw [g2 f f1 f2 f3 f4, ma_up_ne (by omega), ma_up_ck (by decide), ma_up_ne (by omega), ma_up_ne (by omega), wk 69 (by decide) (by decide) (by decide) (by decide)]
        refine Rel_zero ?_ (rl_z_congr (fun k hk => ?_) (fun f hf => ?_) H.2.2.1) (by rw [g1 2 (by decide) (by decide), ma_up_ck (by decide), ma_up_ck (by decide), ma_up_ck (by decide), ma_up_ck (by decide), hW]; rfl) g3 g4 g5 g6 g7
        · unfold rl_c rl_n
          simp only [gk 4 (by decide) (by decide) (by decide) (by decide) (by decide) (by decide) (by decide), gk 5 (by decide) (by decide) (by decide) (by decide) (by decide) (by decide) (by decide), gk 6 (by decide) (by decide) (by decide) (by decide) (by decide) (by decide) (by decide), gk 7 (by decide) (by decide) (by decide) (by decide) (by decide) (by decide) (by decide), gk 8 (by decide) (by decide) (by decide) (by decide) (by decide) (by decide) (by decide), gk 9 (by decide) (by decide) (by decide) (by decide) (by decide) (by decide) (by decide), gk 10 (by decide) (by decide) (by decide) (by decide) (by decide) (by decide) (by decide), gk 11 (by decide) (by decide) (by decide) (by decide) (by decide) (by decide) (by decide), gk 12 (by decide) (by decide) (by decide) (by decide) (by decide) (by decide) (by decide), gk 70 (by decide) (by decide) (by decide) (by decide) (by decide) (by decide) (by decide), gk 71 (by decide) (by decide) (by decide) (by decide) (by decide) (by decide) (by decide), gk 72 (by decide) (by decide) (by decide) (by decide) (by decide) (by decide) (by decide), gk 73 (by decide) (by decide) (by decide) (by decide) (by decide) (by decide) (by decide), gk 74 (by decide) (by decide) (by decide) (by decide) (by decide) (by decide) (by decide), gk 75 (by decide) (by decide) (by decide) (by decide) (by decide) (by decide) (by decide), gk 77 (by decide) (by decide) (by decide) (by decide) (by decide) (by decide) (by decide), a3' 10 (by decide), a3' 11 (by decide), a3' 12 (by decide), a313, a13, a76, f11, gf 8 (by decide) (by decide) (by decide) (by decide) (by decide) (by decide), gf 9 (by decide) (by decide) (by decide) (by decide) (by decide) (by decide), gf 10 (by decide) (by decide) (by decide) (by decide) (by decide) (by decide)]
          refine ⟨n0, n1, i0, i1, r0, r1, by omega, by omega, m8, m9, m10, trivial, Hn, Hi, Hr, Hr2, Hr3, fun j h0 h1 => ?_⟩
          by_cases hj : j = μ 3 0 13
          · rw [if_pos hj, if_pos hj]
            exact ⟨rfl, a1, a2⟩
          · rw [if_neg hj, if_neg hj]
            exact Ho j h0 (by omega)
        · simp only [List.mem_cons, List.not_mem_nil, or_false] at hk
          rcases hk with rfl | rfl | rfl <;> exact gk _ (by decide) (by decide) (by decide) (by decide) (by decide) (by decide) (by decide)
        · simp only [List.mem_cons, List.not_mem_nil, or_false] at hf
          rcases hf with rfl | rfl <;> exact gf _ (by decide) (by decide) (by decide) (by decide) (by decide) (by decide)
      · rw [g2 50 (by decide) (by decide) (by decide) (by decide)]; rfl
      · rw [g1 111 (by decide) (by decide), ma_up_ck (by decide), ma_up_ck (by decide), ma_up_ck (by decide), ma_up_ck (by decide), f11, hW]
        show μ 3 0 13 = _
        omega
    refine gi_LatticefitModel_addOutput (fun R hR => s_LatticefitModel_addOutput_0 (d := d + 9) hR ?_)
    have fin := fin R hR
    repeat' (first | with_reducible refine And.intro ?_ ?_ | intro _)
    all_goals first | omega | exact fin
  refine w_LatticefitLaw_addOutput (d := d + 9) ?_
  repeat' (first | with_reducible refine And.intro ?_ ?_ | intro _)
  all_goals first | omega | exact q1 (by omega) | exact ok (by omega) (by omega) (by omega) | exact q2 (by omega) (by omega) (by omega)
