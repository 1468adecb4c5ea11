/-! addRegister, addGate, feed, addOutput -/
theorem Rel_add {μ μ3 : ma_M} (H : Rel μ) (hn : μ 3 0 10 < 48) (h2 : μ3 2 0 10 = 0) (s26 : μ3 69 0 26 = 0) (s27 : μ3 69 0 27 = 0) (s28 : μ3 69 0 28 = 0) (s29 : μ3 69 0 29 = 0) (hz0 : ∀ e : Int, 0 ≤ e → e < 84 → μ3 96 0 e = 0) (z1 : μ3 1 = μ 1) (z109 : μ3 109 = μ 109) (z77 : μ3 77 0 (μ 3 0 10) = 0 ∨ μ3 77 0 (μ 3 0 10) = 1) (z46 : μ3 69 0 46 = μ 69 0 46) (z47 : μ3 69 0 47 = μ 69 0 47)
    (e10 : μ3 3 0 10 = μ 3 0 10 + 1) (e13 : μ3 3 0 13 = μ 3 0 13) (f8 : μ3 69 0 8 = μ3 3 0 10) (f9 : μ3 69 0 9 = μ3 3 0 11) (f10 : μ3 69 0 10 = μ3 3 0 12) (f11 : μ3 69 0 11 = μ 69 0 11)
    (h13 : ∀ j : Int, μ3 13 0 j = μ 13 0 j) (h76 : ∀ j : Int, μ3 76 0 j = μ 76 0 j) (ha : ∀ k ∈ ([4, 5, 6, 7, 8, 9, 10, 70, 71, 72, 73, 74, 75, 77] : List Nat), ∀ i : Int, i ≠ μ 3 0 10 → μ3 k 0 i = μ k 0 i)
    (hI : (μ3 3 0 11 = μ 3 0 11 ∧ μ3 4 0 (μ 3 0 10) ≠ 105 ∧ ∀ j : Int, μ3 11 0 j = μ 11 0 j) ∨ (μ 3 0 11 < 6 ∧ μ3 3 0 11 = μ 3 0 11 + 1 ∧ μ3 4 0 (μ 3 0 10) = 105 ∧ μ3 10 0 (μ 3 0 10) = μ 3 0 11 ∧ ∀ j : Int, μ3 11 0 j = if j = μ 3 0 11 then μ 3 0 10 else μ 11 0 j))
    (hR : (μ3 3 0 12 = μ 3 0 12 ∧ μ3 4 0 (μ 3 0 10) ≠ 114 ∧ ∀ j : Int, μ3 12 0 j = μ 12 0 j) ∨ (μ 3 0 12 < 8 ∧ μ3 3 0 12 = μ 3 0 12 + 1 ∧ μ3 4 0 (μ 3 0 10) = 114 ∧ ∀ j : Int, μ3 12 0 j = if j = μ 3 0 12 then μ 3 0 10 else μ 12 0 j))
    (hN : rl_n μ3 (μ 3 0 10)) : Rel μ3 := by
  refine Rel_zero (rl_c_add H.1 hn e10 e13 f8 f9 f10 f11 h13 h76 ha hI hR hN) ?_ h2 s26 s27 s28 s29 hz0
  obtain ⟨q1, q2, q3, q4, q5, q6, q7⟩ := H.2.2.1
  unfold rl_z
  rw [z1, z109, z46, z47]
  refine ⟨q1, q2, q3, q4, q5, q6, fun i i0 i1 => ?_⟩
  by_cases e : i = μ 3 0 10
  · rw [e]; exact z77
  · rw [ha 77 (by decide) i e]; exact q7 i i0 i1
/-- the reference's addGate where nothing is refused -/
theorem mq_addGate {LS d : Nat} {W : ma_M} {v1 v2 v3 : Int} (hk : v1 = 97 ∨ v1 = 111 ∨ v1 = 120 ∨ v1 = 110) (hn : 0 ≤ W 69 0 8 ∧ W 69 0 8 < 48) (hv2 : 0 ≤ v2 ∧ v2 < W 69 0 8) (hv3 : v1 ≠ 110 → 0 ≤ v3 ∧ v3 < W 69 0 8) {Post : ma_R → ma_M → Prop}
    (h : ∀ (μ3 : ma_M) (w : Int), (v1 = 110 → w = v2) → (v1 ≠ 110 → w = v3) → (∀ k : Nat, k ≠ 69 → k ≠ 96 → μ3 k = ma_up (ma_up (ma_up (ma_up W 71 0 (W 69 0 8) v2) 72 0 (W 69 0 8) w) 70 0 (W 69 0 8) v1) 74 0 (W 69 0 8) (W 69 0 8) k) → (∀ f : Int, f ≠ 8 → f ≠ 26 → f ≠ 27 → f ≠ 28 → f ≠ 29 → f ≠ 50 → μ3 69 0 f = W 69 0 f) → μ3 69 0 50 = 0 → μ3 69 0 8 = W 69 0 8 + 1 → μ3 69 0 26 = 0 → μ3 69 0 27 = 0 → μ3 69 0 28 = 0 → μ3 69 0 29 = 0 → (∀ e : Int, 0 ≤ e → e < 84 → μ3 96 0 e = 0) → Post (.inl (some (ma_I (W 69 0 8)))) μ3) :
    ma_Ox LS (d + 4) mi_LatticefitModel_addGate [ma_Rf 69 0, ma_I v1, ma_I v2, ma_I v3] W Post := by
  refine gi_LatticefitModel_addGate (fun R hR => s_LatticefitModel_addGate_0 (d := d) hR ?_)
  have fin : ∀ w : Int, (v1 = 110 → w = v2) → (v1 ≠ 110 → w = v3) → ma_Ox LS (d + 3) mi_LatticefitModel_newNode [ma_Rf 69 0, ma_I v1] (ma_up (ma_up (ma_up (ma_up (ma_up W 69 0 50 0) 69 0 50 0) 69 0 50 0) 71 0 (W 69 0 8) v2) 72 0 (W 69 0 8) w) (ma_ct (ma_Ox LS (d + 3)) (LS, [], 1, 0) 152 [ma_Rf 69 0, ma_I v1, ma_U, ma_U, ma_U] [] 0 mt_LatticefitModel_addGate_155 R (ma_DD (LS, [], 1, 0) Post)) := fun w w1 w2 => by
    refine sp_newNode hn (by omega) (fun μ3 g1 g2 g3 g4 g5 g6 g7 g8 => k_LatticefitModel_addGate_152 hR (h μ3 w w1 w2 (fun k k1 k2 => ?_) (fun f f1 f2 f3 f4 f5 f6 => ?_) ?_ g3 g4 g5 g6 g7 g8))
    · rw [g1 k k1 k2]
      by_cases e70 : k = 70
      · subst e70; funext r i; simp [ma_up_rd]
      · by_cases e74 : k = 74
        · subst e74; funext r i; simp [ma_up_rd]
        · rw [ma_up_ck e74, ma_up_ck e70, ma_up_ck e74, ma_up_ck e70]
          by_cases e72 : k = 72
          · subst e72; funext r i; simp [ma_up_rd]
          · rw [ma_up_ck e72, ma_up_ck e72]
            by_cases e71 : k = 71
            · subst e71; funext r i; simp [ma_up_rd]
            · rw [ma_up_ck e71, ma_up_ck e71, ma_up_ck k1, ma_up_ck k1, ma_up_ck k1]
    · rw [g2 f f1 f2 f3 f4 f5, ma_up_ck (by decide), ma_up_ck (by decide), ma_up_ne (by omega), ma_up_ne (by omega), ma_up_ne (by omega)]
    · rw [g2 50 (by decide) (by decide) (by decide) (by decide) (by decide)]; rfl
  have fin2 := fin v2
  have fin3 := fin v3
  repeat' (first | with_reducible refine And.intro ?_ ?_ | intro _)
  all_goals first | omega | exact fin2 (by omega) (by omega) | exact fin3 (by omega) (by omega)
theorem pr_addGate {LS d : Nat} {μ : ma_M} (H : Rel μ) {v1 v2 v3 : Int} : Pr LS d mi_LatticefitLaw_addGate [ma_Rf 2 0, ma_I v1, ma_I v2, ma_I v3, ma_Rf 111 0] mi_LatticefitModel_addGate [ma_Rf 69 0, ma_I v1, ma_I v2, ma_I v3] agI μ := by
  intro Post hP
  have Hc := H.1
  unfold rl_c at Hc
  obtain ⟨n0, n1, i0, i1, r0, r1, o0, o1, m8, m9, m10, m11, Hn, Hi, Hr, Hr2, Hr3, Ho⟩ := Hc
  have R1 := Rel_thrown H 1
  have R2 := Rel_thrown (Rel_thrown H 0) 2
  have R3 := Rel_thrown (Rel_thrown (Rel_thrown H 0) 0) 3
  have q1 : (v1 ≠ 97 ∧ v1 ≠ 111 ∧ v1 ≠ 120 ∧ v1 ≠ 110) → Post (.inl (some (ma_I 1))) μ := fun hc => hP 1 μ (fun Post2 h2 => by
    have fin := h2 (ma_I 0) _ R1 ma_up_eq (fun z => by omega)
    refine gi_LatticefitModel_addGate (fun R hR => s_LatticefitModel_addGate_0 (d := d + 8) hR ?_)
    repeat' (first | with_reducible refine And.intro ?_ ?_ | intro _)
    all_goals first | omega | exact fin)
  have q2 : (v1 = 97 ∨ v1 = 111 ∨ v1 = 120 ∨ v1 = 110) → (v2 < 0 ∨ μ 3 0 10 ≤ v2 ∨ v1 ≠ 110 ∧ (v3 < 0 ∨ μ 3 0 10 ≤ v3)) → Post (.inl (some (ma_I 2))) μ := fun hc hc2 => hP 2 μ (fun Post2 h2 => by
    have fin := h2 (ma_I 0) _ R2 ma_up_eq (fun z => by omega)
    refine gi_LatticefitModel_addGate (fun R hR => s_LatticefitModel_addGate_0 (d := d + 8) hR ?_)
    repeat' (first | with_reducible refine And.intro ?_ ?_ | intro _)
    all_goals first | omega | exact fin)
  have q3 : (v1 = 97 ∨ v1 = 111 ∨ v1 = 120 ∨ v1 = 110) → 0 ≤ v2 ∧ v2 < μ 3 0 10 → (v1 ≠ 110 → 0 ≤ v3 ∧ v3 < μ 3 0 10) → μ 3 0 10 = 48 → Post (.inl (some (ma_I 3))) μ := fun hc hc2 hc3 hc4 => hP 3 μ (fun Post2 h2 => by
    have fin := h2 (ma_I 0) _ R3 ma_up_eq (fun z => by omega)
    refine gi_LatticefitModel_addGate (fun R hR => s_LatticefitModel_addGate_0 (d := d + 8) hR ?_)
    repeat' (first | with_reducible refine And.intro ?_ ?_ | intro _)
    all_goals first | omega | exact fin)
  have ok : ∀ w : Int, (v1 = 97 ∨ v1 = 111 ∨ v1 = 120 ∨ v1 = 110) → 0 ≤ v2 ∧ v2 < μ 3 0 10 → (v1 ≠ 110 → 0 ≤ v3 ∧ v3 < μ 3 0 10) → μ 3 0 10 < 48 → (v1 = 110 → w = v2) → (v1 ≠ 110 → w = v3) → Post (.inl (some (ma_I 0))) (ma_up (ma_up (ma_up (ma_up (ma_up (ma_up μ 2 0 10 0) 4 0 (μ 3 0 10) v1) 5 0 (μ 3 0 10) v2) 6 0 (μ 3 0 10) w) 3 0 10 ((μ 3 0 10) + 1)) 111 0 0 (μ 3 0 10)) := by
    intro w hc hv2 hv3 hn hw1 hw2
    refine hP 0 _ (fun Post2 h2 => ?_)
    obtain ⟨W, hW⟩ : ∃ W, W = ma_up (ma_up (ma_up (ma_up (ma_up (ma_up μ 2 0 10 0) 4 0 (μ 3 0 10) v1) 5 0 (μ 3 0 10) v2) 6 0 (μ 3 0 10) w) 3 0 10 ((μ 3 0 10) + 1)) 111 0 0 (μ 3 0 10) := ⟨_, rfl⟩
    rw [← hW]
    have w69 : ∀ f : Int, W 69 0 f = μ 69 0 f := fun f => by rw [hW]; simp [ma_up_rd]
    have w8 : W 69 0 8 = μ 3 0 10 := (w69 8).trans m8
    refine mq_addGate (d := d + 8) hc (by omega) (by omega) (fun z => by have := hv3 z; omega) (fun μ3 w' w1 w2 g1 g2 g50 g8 g26 g27 g28 g29 gn => ?_)
    have ew : w' = w := by
      by_cases z : v1 = 110
      · rw [w1 z, hw1 z]
      · rw [w2 z, hw2 z]
    subst ew
    rw [w8] at g1 g8 ⊢
    have gk : ∀ k : Nat, k ≠ 69 → k ≠ 96 → ∀ r i : Int, μ3 k r i = ma_up (ma_up (ma_up (ma_up W 71 0 (μ 3 0 10) v2) 72 0 (μ 3 0 10) w') 70 0 (μ 3 0 10) v1) 74 0 (μ 3 0 10) (μ 3 0 10) k r i := fun k k1 k2 r i => by rw [g1 k k1 k2]
    have e3 : ∀ f : Int, f ≠ 10 → μ3 3 0 f = μ 3 0 f := fun f hf => by rw [gk 3 (by decide) (by decide), hW]; simp [ma_up_rd, hf]
    have e310 : μ3 3 0 10 = μ 3 0 10 + 1 := by rw [gk 3 (by decide) (by decide), hW]; simp [ma_up_rd]
    have a4 : ∀ i : Int, μ3 4 0 i = if i = μ 3 0 10 then v1 else μ 4 0 i := fun i => by rw [gk 4 (by decide) (by decide), hW]; simp [ma_up_rd]
    have a5 : ∀ i : Int, μ3 5 0 i = if i = μ 3 0 10 then v2 else μ 5 0 i := fun i => by rw [gk 5 (by decide) (by decide), hW]; simp [ma_up_rd]
    have a6 : ∀ i : Int, μ3 6 0 i = if i = μ 3 0 10 then w' else μ 6 0 i := fun i => by rw [gk 6 (by decide) (by decide), hW]; simp [ma_up_rd]
    have a70 : ∀ i : Int, μ3 70 0 i = if i = μ 3 0 10 then v1 else μ 70 0 i := fun i => by rw [gk 70 (by decide) (by decide), hW]; simp [ma_up_rd]
    have a71 : ∀ i : Int, μ3 71 0 i = if i = μ 3 0 10 then v2 else μ 71 0 i := fun i => by rw [gk 71 (by decide) (by decide), hW]; simp [ma_up_rd]
    have a72 : ∀ i : Int, μ3 72 0 i = if i = μ 3 0 10 then w' else μ 72 0 i := fun i => by rw [gk 72 (by decide) (by decide), hW]; simp [ma_up_rd]
    have a74 : ∀ i : Int, μ3 74 0 i = if i = μ 3 0 10 then μ 3 0 10 else μ 74 0 i := fun i => by rw [gk 74 (by decide) (by decide), hW]; simp [ma_up_rd]
    have eo : ∀ k ∈ ([1, 7, 8, 9, 10, 11, 12, 13, 73, 75, 76, 77, 109] : List Nat), μ3 k = μ k := fun k hk => by
      simp only [List.mem_cons, List.not_mem_nil, or_false] at hk
      rcases hk with rfl | rfl | rfl | rfl | rfl | rfl | rfl | rfl | rfl | rfl | rfl | rfl | rfl <;> (rw [g1 _ (by decide) (by decide), hW]; rfl)
    refine h2 _ _ ?_ g50 (fun _ => ⟨_, rfl, by rw [gk 111 (by decide) (by decide), hW]; rfl⟩)
    have gf : ∀ f : Int, f ≠ 8 → f ≠ 26 → f ≠ 27 → f ≠ 28 → f ≠ 29 → f ≠ 50 → μ3 69 0 f = μ 69 0 f := fun f f1 f2 f3 f4 f5 f6 => (g2 f f1 f2 f3 f4 f5 f6).trans (w69 f)
    refine Rel_add H hn (by rw [gk 2 (by decide) (by decide), hW]; rfl) g26 g27 g28 g29 gn (eo 1 (by decide)) (eo 109 (by decide)) (by rw [eo 77 (by decide)]; exact H.2.2.1.2.2.2.2.2.2 _ (by omega) (by omega)) (gf 46 (by decide) (by decide) (by decide) (by decide) (by decide) (by decide)) (gf 47 (by decide) (by decide) (by decide) (by decide) (by decide) (by decide)) e310 (e3 13 (by decide)) (by rw [g8, e310]) (by rw [e3 11 (by decide), gf 9 (by decide) (by decide) (by decide) (by decide) (by decide) (by decide), m9]) (by rw [e3 12 (by decide), gf 10 (by decide) (by decide) (by decide) (by decide) (by decide) (by decide), m10]) (gf 11 (by decide) (by decide) (by decide) (by decide) (by decide) (by decide)) (fun j => by rw [eo 13 (by decide)]) (fun j => by rw [eo 76 (by decide)]) ?_ (Or.inl ⟨e3 11 (by decide), by rw [a4, if_pos rfl]; omega, fun j => by rw [eo 11 (by decide)]⟩) (Or.inl ⟨e3 12 (by decide), by rw [a4, if_pos rfl]; omega, fun j => by rw [eo 12 (by decide)]⟩) ?_
    · intro k hk i hi
      simp only [List.mem_cons, List.not_mem_nil, or_false] at hk
      rcases hk with rfl | rfl | rfl | rfl | rfl | rfl | rfl | rfl | rfl | rfl | rfl | rfl | rfl | rfl
      · rw [a4, if_neg hi]
      · rw [a5, if_neg hi]
      · rw [a6, if_neg hi]
      · rw [eo 7 (by decide)]
      · rw [eo 8 (by decide)]
      · rw [eo 9 (by decide)]
      · rw [eo 10 (by decide)]
      · rw [a70, if_neg hi]
      · rw [a71, if_neg hi]
      · rw [a72, if_neg hi]
      · rw [eo 73 (by decide)]
      · rw [a74, if_neg hi]
      · rw [eo 75 (by decide)]
      · rw [eo 77 (by decide)]
    · unfold rl_n
      rw [a4, if_pos rfl, a70, if_pos rfl, a71, if_pos rfl, a72, if_pos rfl, a5, if_pos rfl, a6, if_pos rfl]
      refine ⟨rfl, by omega, fun z => by omega, fun z => by omega, fun _ _ => ⟨rfl, by omega, by omega, rfl, ?_, ?_⟩⟩
      · by_cases z : v1 = 110
        · rw [hw1 z]; omega
        · rw [hw2 z]; have := hv3 z; omega
      · by_cases z : v1 = 110
        · rw [hw1 z]; omega
        · rw [hw2 z]; have := hv3 z; omega
  refine w_LatticefitLaw_addGate (d := d + 9) ?_
  have ok2 := ok v2
  have ok3 := ok v3
  repeat' (first | with_reducible refine And.intro ?_ ?_ | intro _)
  all_goals first | omega | exact q1 (by omega) | exact q2 (by omega) (by omega) | exact q3 (by omega) (by omega) (by omega) (by omega) | exact ok2 (by omega) (by omega) (by omega) (by omega) (by omega) (by omega) | exact ok3 (by omega) (by omega) (by omega) (by omega) (by omega) (by omega)
