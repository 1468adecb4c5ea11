/-! addInput, addRegister, addGate, feed, addOutput -/
theorem Rel_zero {μ : ma_M} (hc : rl_c μ) (hz : rl_z μ) (h2 : μ 2 0 10 = 0) (h26 : μ 69 0 26 = 0) (h27 : μ 69 0 27 = 0) (h28 : μ 69 0 28 = 0) (h29 : μ 69 0 29 = 0) (hn : ∀ e : Int, 0 ≤ e → e < 84 → μ 96 0 e = 0) : Rel μ := by
  refine ⟨hc, ?_, hz, ?_, fun z => by omega, fun z => by omega, fun z => by omega, fun z => by omega⟩
  · unfold rl_s
    rw [h2, h26, h27, h28, h29]
    decide
  · intro e h0 h1
    rw [h2, hn e h0 h1, if_neg (by decide)]
    decide
/-- the reference's new node -/
theorem sp_newNode {LS d : Nat} {Post : ma_R → ma_M → Prop} {μ : ma_M} {v : Int} (h0 : 0 ≤ μ 69 0 8 ∧ μ 69 0 8 < 48) (hv : 0 ≤ v ∧ v < 65536) (h : ∀ μ' : ma_M, (∀ k : Nat, k ≠ 69 → k ≠ 96 → μ' k = ma_up (ma_up μ 70 0 (μ 69 0 8) v) 74 0 (μ 69 0 8) (μ 69 0 8) k) → (∀ f : Int, f ≠ 8 → f ≠ 26 → f ≠ 27 → f ≠ 28 → f ≠ 29 → μ' 69 0 f = μ 69 0 f) → μ' 69 0 8 = μ 69 0 8 + 1 → μ' 69 0 26 = 0 → μ' 69 0 27 = 0 → μ' 69 0 28 = 0 → μ' 69 0 29 = 0 → (∀ e : Int, 0 ≤ e → e < 84 → μ' 96 0 e = 0) → Post (.inl (some (ma_I (μ 69 0 8)))) μ') :
    ma_Ox LS (d + 3) mi_LatticefitModel_newNode [ma_Rf 69 0, ma_I v] μ Post := by
  refine gi_LatticefitModel_newNode (fun R hR => s_LatticefitModel_newNode_0 (d := d) hR ⟨h0, hv, by omega, ?_⟩)
  refine sp_changes (fun μ' g1 g2 g3 g4 g5 g6 g7 => k_LatticefitModel_newNode_34 hR ?_)
  have e8 : μ' 69 0 8 = μ 69 0 8 + 1 := (g2 8 (by decide) (by decide) (by decide) (by decide)).trans rfl
  refine ⟨by omega, ?_⟩
  have e : μ' 69 0 8 - 1 = μ 69 0 8 := by omega
  rw [e]
  refine h μ' (fun k k1 k2 => ?_) (fun f f1 f2 f3 f4 f5 => ?_) e8 g3 g4 g5 g6 g7
  · rw [g1 k k1 k2, ma_up_ck k1]
  · rw [g2 f f2 f3 f4 f5, ma_up_ne (by omega)]
    rfl
/-- a node more -/
theorem rl_c_add {μ μ3 : ma_M} (H : rl_c μ) (hn : μ 3 0 10 < 48) (e10 : μ3 3 0 10 = μ 3 0 10 + 1) (e13 : μ3 3 0 13 = μ 3 0 13) (f8 : μ3 69 0 8 = μ3 3 0 10) (f9 : μ3 69 0 9 = μ3 3 0 11) (f10 : μ3 69 0 10 = μ3 3 0 12) (f11 : μ3 69 0 11 = μ 69 0 11)
    (h13 : ∀ j : Int, μ3 13 0 j = μ 13 0 j) (h76 : ∀ j : Int, μ3 76 0 j = μ 76 0 j) (ha : ∀ k ∈ ([4, 5, 6, 7, 8, 9, 10, 70, 71, 72, 73, 74, 75, 77] : List Nat), ∀ i : Int, i ≠ μ 3 0 10 → μ3 k 0 i = μ k 0 i)
    (hI : (μ3 3 0 11 = μ 3 0 11 ∧ μ3 4 0 (μ 3 0 10) ≠ 105 ∧ ∀ j : Int, μ3 11 0 j = μ 11 0 j) ∨ (μ 3 0 11 < 6 ∧ μ3 3 0 11 = μ 3 0 11 + 1 ∧ μ3 4 0 (μ 3 0 10) = 105 ∧ μ3 10 0 (μ 3 0 10) = μ 3 0 11 ∧ ∀ j : Int, μ3 11 0 j = if j = μ 3 0 11 then μ 3 0 10 else μ 11 0 j))
    (hR : (μ3 3 0 12 = μ 3 0 12 ∧ μ3 4 0 (μ 3 0 10) ≠ 114 ∧ ∀ j : Int, μ3 12 0 j = μ 12 0 j) ∨ (μ 3 0 12 < 8 ∧ μ3 3 0 12 = μ 3 0 12 + 1 ∧ μ3 4 0 (μ 3 0 10) = 114 ∧ ∀ j : Int, μ3 12 0 j = if j = μ 3 0 12 then μ 3 0 10 else μ 12 0 j))
    (hN : rl_n μ3 (μ 3 0 10)) : rl_c μ3 := by
  have a4 := ha 4 (by decide)
  have a5 := ha 5 (by decide)
  have a6 := ha 6 (by decide)
  have a7 := ha 7 (by decide)
  have a8 := ha 8 (by decide)
  have a9 := ha 9 (by decide)
  have a10 := ha 10 (by decide)
  have a70 := ha 70 (by decide)
  have a71 := ha 71 (by decide)
  have a72 := ha 72 (by decide)
  have a73 := ha 73 (by decide)
  have a74 := ha 74 (by decide)
  have a75 := ha 75 (by decide)
  have a77 := ha 77 (by decide)
  unfold rl_c at H
  obtain ⟨n0, n1, i0, i1, r0, r1, o0, o1, m8, m9, m10, m11, Hn, Hi, Hr, Hr2, Hr3, Ho⟩ := H
  refine ⟨by omega, by omega, by omega, by omega, by omega, by omega, by omega, by omega, f8, f9, f10, by omega, ?_, ?_, ?_, ?_, ?_, ?_⟩
  · intro i h0 h1
    by_cases hi : i = μ 3 0 10
    · rw [hi]; exact hN
    · have h := Hn i h0 (by omega)
      unfold rl_n at h ⊢
      rw [a4 i hi, a5 i hi, a6 i hi, a7 i hi, a8 i hi, a9 i hi, a10 i hi, a70 i hi, a71 i hi, a72 i hi, a73 i hi, a74 i hi, a75 i hi, a77 i hi]
      obtain ⟨b1, b2, b3, b4, b5⟩ := h
      refine ⟨b1, b2, fun z => ?_, fun z => ?_, b5⟩
      · obtain ⟨c1, c2, c3, c4⟩ := b3 z
        rcases hI with ⟨d1, d2, d3⟩ | ⟨d0, d1, d2, d3, d4⟩
        · exact ⟨c1, c2, by omega, by rw [d3]; exact c4⟩
        · exact ⟨c1, c2, by omega, by rw [d4, if_neg (by omega)]; exact c4⟩
      · obtain ⟨c1, c2, c3, c4⟩ := b4 z
        exact ⟨c1, c2, by omega, c4⟩
  · intro j h0 h1
    rcases hI with ⟨d1, d2, d3⟩ | ⟨d0, d1, d2, d3, d4⟩
    · obtain ⟨b1, b2, b3, b4⟩ := Hi j h0 (by omega)
      rw [d3, a4 _ (by omega), a10 _ (by omega)]
      exact ⟨b1, by omega, b3, b4⟩
    · by_cases hj : j = μ 3 0 11
      · rw [d4, if_pos hj]
        exact ⟨n0, by omega, d2, by rw [d3, hj]⟩
      · obtain ⟨b1, b2, b3, b4⟩ := Hi j h0 (by omega)
        rw [d4, if_neg hj, a4 _ (by omega), a10 _ (by omega)]
        exact ⟨b1, by omega, b3, b4⟩
  · intro j h0 h1
    rcases hR with ⟨d1, d2, d3⟩ | ⟨d0, d1, d2, d3⟩
    · obtain ⟨b1, b2, b3⟩ := Hr j h0 (by omega)
      rw [d3, a4 _ (by omega)]
      exact ⟨b1, by omega, b3⟩
    · by_cases hj : j = μ 3 0 12
      · rw [d3, if_pos hj]
        exact ⟨n0, by omega, d2⟩
      · obtain ⟨b1, b2, b3⟩ := Hr j h0 (by omega)
        rw [d3, if_neg hj, a4 _ (by omega)]
        exact ⟨b1, by omega, b3⟩
  · intro j h0 h1
    rcases hR with ⟨d1, d2, d3⟩ | ⟨d0, d1, d2, d3⟩
    · rw [d3, d3]
      exact Hr2 j h0 (by omega)
    · rw [d3, d3, if_neg (by omega)]
      by_cases hj : j + 1 = μ 3 0 12
      · rw [if_pos hj]
        exact (Hr j h0 (by omega)).2.1
      · rw [if_neg hj]
        exact Hr2 j h0 (by omega)
  · intro i h0 h1 h2
    rcases hR with ⟨d1, d2, d3⟩ | ⟨d0, d1, d2, d3⟩
    · by_cases hi : i = μ 3 0 10
      · rw [hi] at h2
        exact absurd h2 d2
      · rw [a4 i hi] at h2
        obtain ⟨j, c1, c2, c3⟩ := Hr3 i h0 (by omega) h2
        exact ⟨j, c1, by omega, by rw [d3]; exact c3⟩
    · by_cases hi : i = μ 3 0 10
      · exact ⟨μ 3 0 12, r0, by omega, by rw [d3, if_pos rfl, hi]⟩
      · rw [a4 i hi] at h2
        obtain ⟨j, c1, c2, c3⟩ := Hr3 i h0 (by omega) h2
        exact ⟨j, c1, by omega, by rw [d3, if_neg (by omega)]; exact c3⟩
  · intro j h0 h1
    obtain ⟨b1, b2, b3⟩ := Ho j h0 (by omega)
    rw [h13, h76]
    exact ⟨b1, b2, by omega⟩
set_option maxHeartbeats 1000000 in
theorem pr_addInput {LS d : Nat} {μ : ma_M} (H : Rel μ) : Pr LS d mi_LatticefitLaw_addInput [ma_Rf 2 0, ma_Rf 111 0] mi_LatticefitModel_addInput [ma_Rf 69 0] agI μ := by
  intro Post hP
  have Hc := H.1
  unfold rl_c at Hc
  obtain ⟨n0, n1, i0, i1, r0, r1, o0, o1, m8, m9, m10, m11, Hn, Hi, Hr, Hr2, Hr3, Ho⟩ := Hc
  have ref : (μ 3 0 10 = 48 ∨ μ 3 0 11 = 6) → Post (.inl (some (ma_I 1))) μ := fun hc => by
    refine hP 1 μ (fun Post2 h2 => ?_)
    have fin := h2 (ma_I 0) _ (Rel_thrown H 1) ma_up_eq (fun z => by omega)
    refine gi_LatticefitModel_addInput (fun R hR => s_LatticefitModel_addInput_0 (d := d + 8) hR ⟨fun c3 => fin, fun c3 => ⟨fun c4 => by omega, fun c4 => fin⟩⟩)
  refine w_LatticefitLaw_addInput (d := d + 9) ⟨fun c => ref (by omega), fun c => ⟨fun c2 => ⟨by omega, by omega, by omega, by omega, hP 0 _ (fun Post2 h2 => ?_)⟩, fun c2 => ref (by omega)⟩⟩
  refine gi_LatticefitModel_addInput (fun R hR => s_LatticefitModel_addInput_0 (d := d + 8) hR ?_)
  show (μ 69 0 8 = 48 → _) ∧ (¬ μ 69 0 8 = 48 → (¬ μ 69 0 9 = 6 → (0 ≤ μ 69 0 8 ∧ μ 69 0 8 < 48) ∧ (-2147483648 ≤ μ 69 0 9 + 1 ∧ μ 69 0 9 + 1 < 2147483648) ∧ _) ∧ (μ 69 0 9 = 6 → _))
  refine ⟨fun c3 => by omega, fun c3 => ⟨fun c4 => ⟨by omega, by omega, ?_⟩, fun c4 => by omega⟩⟩
  refine sp_newNode (d := d + 8) (by show 0 ≤ μ 69 0 8 ∧ μ 69 0 8 < 48; omega) (by decide) (fun μ3 g1 g2 g3 g4 g5 g6 g7 g8 => k_LatticefitModel_addInput_59 hR (h2 _ _ ?_ ?_ ?_))
  · have a8 : μ3 69 0 8 = μ 3 0 10 + 1 := by rw [g3, ← m8]; rfl
    have e2 : μ3 2 0 10 = 0 := by rw [g1 2 (by decide) (by decide)]; rfl
    have e3 : ∀ f : Int, μ3 3 0 f = if f = 10 then μ 3 0 10 + 1 else if f = 11 then μ 3 0 11 + 1 else μ 3 0 f := fun f => by
      rw [g1 3 (by decide) (by decide)]; simp [ma_up_rd]
    have e4 : ∀ i : Int, μ3 4 0 i = if i = μ 3 0 10 then 105 else μ 4 0 i := fun i => by rw [g1 4 (by decide) (by decide)]; simp [ma_up_rd]
    have e10 : ∀ i : Int, μ3 10 0 i = if i = μ 3 0 10 then μ 3 0 11 else μ 10 0 i := fun i => by rw [g1 10 (by decide) (by decide)]; simp [ma_up_rd]
    have e11 : ∀ i : Int, μ3 11 0 i = if i = μ 3 0 11 then μ 3 0 10 else μ 11 0 i := fun i => by rw [g1 11 (by decide) (by decide)]; simp [ma_up_rd]
    have e70 : ∀ i : Int, μ3 70 0 i = if i = μ 3 0 10 then 105 else μ 70 0 i := fun i => by rw [g1 70 (by decide) (by decide)]; simp [ma_up_rd, m8]
    have e74 : ∀ i : Int, μ3 74 0 i = if i = μ 3 0 10 then μ 3 0 10 else μ 74 0 i := fun i => by rw [g1 74 (by decide) (by decide)]; simp [ma_up_rd, m8]
    have e75 : ∀ i : Int, μ3 75 0 i = if i = μ 3 0 10 then μ 3 0 11 else μ 75 0 i := fun i => by rw [g1 75 (by decide) (by decide)]; simp [ma_up_rd, m8, m9]
    have eo : ∀ k ∈ ([1, 5, 6, 7, 8, 9, 12, 13, 71, 72, 73, 76, 77, 109] : List Nat), μ3 k = μ k := fun k hk => by
      rw [g1 k (by rintro rfl; revert hk; decide) (by rintro rfl; revert hk; decide)]
      funext r i
      simp only [List.mem_cons, List.not_mem_nil, or_false] at hk
      rcases hk with rfl | rfl | rfl | rfl | rfl | rfl | rfl | rfl | rfl | rfl | rfl | rfl | rfl | rfl <;> rfl
    have q := fun k hk => eo k hk
    have e10' : μ3 3 0 10 = μ 3 0 10 + 1 := by rw [e3]; rfl
    have e11' : μ3 3 0 11 = μ 3 0 11 + 1 := by rw [e3]; rfl
    have e12' : μ3 3 0 12 = μ 3 0 12 := by rw [e3]; rfl
    have e13' : μ3 3 0 13 = μ 3 0 13 := by rw [e3]; rfl
    refine Rel_zero ?_ (rl_z_congr (fun k hk => eo k (by revert hk; revert k; decide)) (fun f hf => by
      simp only [List.mem_cons, List.not_mem_nil, or_false] at hf
      rcases hf with rfl | rfl <;> (rw [g2 _ (by decide) (by decide) (by decide) (by decide) (by decide)]; rfl)) H.2.2.1) e2 g4 g5 g6 g7 g8
    · refine rl_c_add H.1 c e10' e13' (by rw [a8, e10']) ?_ ?_ ?_ (fun j => by rw [q 13 (by decide)]) (fun j => by rw [q 76 (by decide)]) ?_ ?_ ?_ ?_
      · rw [e11', g2 9 (by decide) (by decide) (by decide) (by decide) (by decide), ← m9]; rfl
      · rw [e12', g2 10 (by decide) (by decide) (by decide) (by decide) (by decide), ← m10]; rfl
      · rw [g2 11 (by decide) (by decide) (by decide) (by decide) (by decide)]; rfl
      · intro k hk i hi
        simp only [List.mem_cons, List.not_mem_nil, or_false] at hk
        rcases hk with rfl | rfl | rfl | rfl | rfl | rfl | rfl | rfl | rfl | rfl | rfl | rfl | rfl | rfl
        · rw [e4, if_neg hi]
        · rw [q 5 (by decide)]
        · rw [q 6 (by decide)]
        · rw [q 7 (by decide)]
        · rw [q 8 (by decide)]
        · rw [q 9 (by decide)]
        · rw [e10, if_neg hi]
        · rw [e70, if_neg hi]
        · rw [q 71 (by decide)]
        · rw [q 72 (by decide)]
        · rw [q 73 (by decide)]
        · rw [e74, if_neg hi]
        · rw [e75, if_neg hi]
        · rw [q 77 (by decide)]
      · exact Or.inr ⟨c2, e11', by rw [e4, if_pos rfl], by rw [e10, if_pos rfl], e11⟩
      · exact Or.inl ⟨e12', by rw [e4, if_pos rfl]; decide, fun j => by rw [q 12 (by decide)]⟩
      · unfold rl_n
        rw [e4, if_pos rfl, e70, if_pos rfl, e75, if_pos rfl, e10, if_pos rfl, e11', e11, if_pos rfl]
        exact ⟨rfl, by decide, fun _ => ⟨rfl, i0, by omega, rfl⟩, fun z => by omega, fun z => by omega⟩
  · rw [g2 50 (by decide) (by decide) (by decide) (by decide) (by decide)]; rfl
  · intro _
    refine ⟨_, rfl, ?_⟩
    rw [g1 111 (by decide) (by decide)]
    show μ 3 0 10 = μ 69 0 8
    exact m8.symm
