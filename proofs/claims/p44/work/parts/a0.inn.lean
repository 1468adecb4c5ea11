/-! the script's numbers -/
theorem lw_and31 (x : Int) : 0 ≤ ma_and x 2147483647 := by
  have h : (Int32.ofInt x &&& Int32.ofInt 2147483647).toBitVec.toNat < 2147483648 := by
    rw [Int32.toBitVec_and, BitVec.toNat_and]
    exact Nat.lt_of_le_of_lt Nat.and_le_right (by decide)
  show 0 ≤ (Int32.ofInt x &&& Int32.ofInt 2147483647).toBitVec.toInt
  rw [bt_toInt _ h]
  omega
def lw_c (x i : Int) : Int := (ma_xor (ma_wI ((ma_xor (ma_wI ((ma_wI (69069 * (ma_wI (x + (ma_wI (1009 * i)))))) + 12345)) (ma_ushr (ma_wI ((ma_wI (69069 * (ma_wI (x + (ma_wI (1009 * i)))))) + 12345)) 13)) * 1103515245)) (ma_ushr (ma_wI ((ma_xor (ma_wI ((ma_wI (69069 * (ma_wI (x + (ma_wI (1009 * i)))))) + 12345)) (ma_ushr (ma_wI ((ma_wI (69069 * (ma_wI (x + (ma_wI (1009 * i)))))) + 12345)) 13)) * 1103515245)) 16))
def lw_in (LS : Nat) (f : Int → Int) (i n : Int) : Int := Int.tmod (ma_and (lw_c (if i < (LS : Int) then f i else 0) i) 2147483647) n
theorem lw_in_rng {LS : Nat} {f : Int → Int} {i n : Int} (hn : 0 < n) : 0 ≤ lw_in LS f i n ∧ lw_in LS f i n < n := ⟨Int.tmod_nonneg _ (lw_and31 _), Int.tmod_lt_of_pos _ hn⟩
theorem sp_cell {LS d : Nat} {Post : ma_R → ma_M → Prop} {μ : ma_M} {v1 : Int} (h0 : 0 ≤ v1) (h : Post (.inl (some (ma_I (lw_c (if v1 < (LS : Int) then μ 0 0 v1 else 0) v1)))) μ) : ma_Ox LS (d + 1) mi_LatticefitLaw_cell [ma_Rf 0 0, ma_I v1] μ Post := by
  refine gi_LatticefitLaw_cell (fun R hR => g_LatticefitLaw_cell_0 hR ⟨fun c => ?_, fun c => ⟨⟨h0, c⟩, fun _ => ?_⟩⟩)
  · refine g_LatticefitLaw_cell_14 hR (g_LatticefitLaw_cell_15 hR ⟨ma_leb rfl, ?_⟩)
    rw [if_neg (by omega)] at h
    exact h
  · refine g_LatticefitLaw_cell_15 hR ⟨ma_leb rfl, ?_⟩
    rw [if_pos c] at h
    exact h
theorem sp_in {LS d : Nat} {Post : ma_R → ma_M → Prop} {μ : ma_M} {v1 v2 : Int} (h0 : 0 ≤ v1) (h2 : 0 < v2) (h : ∀ v : Int, v = lw_in LS (μ 0 0) v1 v2 → 0 ≤ v → v < v2 → Post (.inl (some (ma_I v))) μ) : ma_Ox LS (d + 2) mi_LatticefitLaw_in [ma_Rf 0 0, ma_I v1, ma_I v2] μ Post :=
  gi_LatticefitLaw_in (fun _ hR => s_LatticefitLaw_in_0 (d := d) hR (sp_cell h0 (k_LatticefitLaw_in_2 (d := d) hR ⟨by omega, h _ rfl (lw_in_rng h2).1 (lw_in_rng h2).2⟩)))
/-! the net mirrors the circuit -/
def ln_n (μ : ma_M) (i : Int) : Prop := μ 69 0 (10 + 8 * i) = μ 4 0 i ∧ (μ 4 0 i = 105 → μ 69 0 (10 + 8 * i + 7) = μ 10 0 i) ∧ (μ 4 0 i = 114 → μ 69 0 (10 + 8 * i + 3) = μ 8 0 i ∧ μ 69 0 (10 + 8 * i + 4) = μ 9 0 i ∧ μ 69 0 (10 + 8 * i + 5) = μ 7 0 i) ∧ (μ 4 0 i ≠ 105 → μ 4 0 i ≠ 114 → μ 69 0 (10 + 8 * i + 1) = μ 5 0 i ∧ μ 69 0 (10 + 8 * i + 2) = μ 6 0 i)
def ln (μ : ma_M) : Prop := μ 69 0 0 = μ 3 0 10 ∧ μ 69 0 1 = μ 3 0 11 ∧ μ 69 0 2 = μ 3 0 12 ∧ μ 69 0 3 = μ 3 0 13 ∧ (∀ i : Int, 0 ≤ i → i < μ 3 0 10 → ln_n μ i) ∧ (∀ j : Int, 0 ≤ j → j < μ 3 0 13 → μ 69 0 (400 + j) = μ 13 0 j)
/-- between the steps of begun -/
def bg_I (μ : ma_M) : Prop := rl_c μ ∧ rl_z μ ∧ μ 2 0 10 = 0 ∧ ln μ ∧ (∀ k : Nat, 14 ≤ k → k ≠ 69 → ∀ r i : Int, μ k r i = 0)
theorem ln_add {μ μ3 : ma_M} (H : ln μ) (n0 : 0 ≤ μ 3 0 10) (n1 : μ 3 0 10 < 24) (e10 : μ3 3 0 10 = μ 3 0 10 + 1) (e13 : μ3 3 0 13 = μ 3 0 13) (ho : μ 3 0 13 ≤ 6) (ha : ∀ k ∈ ([4, 5, 6, 7, 8, 9, 10] : List Nat), ∀ i : Int, i ≠ μ 3 0 10 → μ3 k 0 i = μ k 0 i) (h13 : ∀ j : Int, μ3 13 0 j = μ 13 0 j)
    (hj : ∀ j : Int, 10 ≤ j → (j < 10 + 8 * μ 3 0 10 ∨ 400 ≤ j) → μ3 69 0 j = μ 69 0 j) (f0 : μ3 69 0 0 = μ 3 0 10 + 1) (f1 : μ3 69 0 1 = μ3 3 0 11) (f2 : μ3 69 0 2 = μ3 3 0 12) (f3 : μ3 69 0 3 = μ 69 0 3) (hN : ln_n μ3 (μ 3 0 10)) : ln μ3 := by
  obtain ⟨l0, l1, l2, l3, Ln, Lo⟩ := H
  refine ⟨by omega, f1, f2, by omega, fun i h0 h1 => ?_, fun j h0 h1 => ?_⟩
  · by_cases hi : i = μ 3 0 10
    · rw [hi]; exact hN
    · have h := Ln i h0 (by omega)
      unfold ln_n at h ⊢
      rw [ha 4 (by decide) i hi, ha 5 (by decide) i hi, ha 6 (by decide) i hi, ha 7 (by decide) i hi, ha 8 (by decide) i hi, ha 9 (by decide) i hi, ha 10 (by decide) i hi, hj _ (by omega) (.inl (by omega)), hj _ (by omega) (.inl (by omega)), hj _ (by omega) (.inl (by omega)), hj _ (by omega) (.inl (by omega)), hj _ (by omega) (.inl (by omega)), hj _ (by omega) (.inl (by omega)), hj _ (by omega) (.inl (by omega))]
      exact h
  · rw [hj _ (by omega) (.inr (by omega)), h13]
    exact Lo j h0 (by omega)
theorem bg_add {μ μ3 : ma_M} (H : bg_I μ) (n1 : μ 3 0 10 < 24) (e2 : μ3 2 0 10 = 0) (e1 : μ3 1 = μ 1) (ek : ∀ k : Nat, 14 ≤ k → k ≠ 69 → μ3 k = μ k) (e10 : μ3 3 0 10 = μ 3 0 10 + 1) (e13 : μ3 3 0 13 = μ 3 0 13) (ha : ∀ k ∈ ([4, 5, 6, 7, 8, 9, 10] : List Nat), ∀ i : Int, i ≠ μ 3 0 10 → μ3 k 0 i = μ k 0 i) (h13 : ∀ j : Int, μ3 13 0 j = μ 13 0 j)
    (hI : (μ3 3 0 11 = μ 3 0 11 ∧ μ3 4 0 (μ 3 0 10) ≠ 105 ∧ ∀ j : Int, μ3 11 0 j = μ 11 0 j) ∨ (μ 3 0 11 < 6 ∧ μ3 3 0 11 = μ 3 0 11 + 1 ∧ μ3 4 0 (μ 3 0 10) = 105 ∧ μ3 10 0 (μ 3 0 10) = μ 3 0 11 ∧ ∀ j : Int, μ3 11 0 j = if j = μ 3 0 11 then μ 3 0 10 else μ 11 0 j))
    (hR : (μ3 3 0 12 = μ 3 0 12 ∧ μ3 4 0 (μ 3 0 10) ≠ 114 ∧ ∀ j : Int, μ3 12 0 j = μ 12 0 j) ∨ (μ 3 0 12 < 8 ∧ μ3 3 0 12 = μ 3 0 12 + 1 ∧ μ3 4 0 (μ 3 0 10) = 114 ∧ ∀ j : Int, μ3 12 0 j = if j = μ 3 0 12 then μ 3 0 10 else μ 12 0 j))
    (hj : ∀ j : Int, 10 ≤ j → (j < 10 + 8 * μ 3 0 10 ∨ 400 ≤ j) → μ3 69 0 j = μ 69 0 j) (f0 : μ3 69 0 0 = μ 3 0 10 + 1) (f1 : μ3 69 0 1 = μ3 3 0 11) (f2 : μ3 69 0 2 = μ3 3 0 12) (f3 : μ3 69 0 3 = μ 69 0 3) (hN : rl_n μ3 (μ 3 0 10)) (hL : ln_n μ3 (μ 3 0 10)) : bg_I μ3 := by
  obtain ⟨Hc, Hz, Hs, Hl, H0⟩ := H
  have Hc' := Hc
  obtain ⟨n0, n2, i0, i1, r0, r1, o0, o1, m8, m9, m10, m11, -⟩ := Hc'
  refine ⟨rl_c_add Hc (by omega) e10 e13 rfl rfl rfl e13 h13 h13 (fun k hk i hi => ?_) hI hR hN, rl_z_congr (fun k hk => by cases (List.mem_singleton.mp hk); exact e1) Hz, e2, ln_add Hl n0 n1 e10 e13 o1 ha h13 hj f0 f1 f2 f3 hL, fun k h1 h2 r i => by rw [ek k h1 h2]; exact H0 k h1 h2 r i⟩
  by_cases hk2 : k ∈ ([4, 5, 6, 7, 8, 9, 10] : List Nat)
  · exact ha k hk2 i hi
  · rw [ek k (by revert hk hk2; simp; omega) (by rintro rfl; revert hk; decide)]
theorem sp_isNode_i {LS d : Nat} {Post : ma_R → ma_M → Prop} {μ : ma_M} (H : bg_I μ) (hN : μ 3 0 10 < 24) (hi : μ 3 0 11 < 6) (h : ∀ μ' : ma_M, bg_I μ' → μ' 3 0 10 = μ 3 0 10 + 1 → μ' 3 0 11 = μ 3 0 11 + 1 → μ' 3 0 12 = μ 3 0 12 → μ' 3 0 13 = μ 3 0 13 → Post (.inl (some (ma_I 1))) μ') : ma_Ox LS (d + 4) mi_LatticefitLaw_isNode [ma_Rf 2 0, ma_Rf 69 0, ma_I 105, ma_I 0, ma_I 0] μ Post := by
  obtain ⟨Hc, Hz, Hs, Hl, H0⟩ := id H
  obtain ⟨l0, l1, l2, l3, Ln, Lo⟩ := id Hl
  have Hc' := Hc
  obtain ⟨n0, n1, i0, i1, r0, r1, o0, o1, m8, m9, m10, m11, -⟩ := Hc'
  refine gi_LatticefitLaw_isNode (fun R hR => s_LatticefitLaw_isNode_0 (d := d) hR ?_)
  have fin : ∀ (W : ma_M) (v6 : Int), (∀ j : Int, W 69 0 j = if j = 1 then μ 3 0 11 + 1 else if j = 10 + 8 * μ 3 0 10 + 7 then μ 3 0 11 else if j = 0 then μ 3 0 10 + 1 else if j = 10 + 8 * μ 3 0 10 + 5 then μ 3 0 10 else if j = 10 + 8 * μ 3 0 10 + 2 then 0 else if j = 10 + 8 * μ 3 0 10 + 1 then 0 else if j = 10 + 8 * μ 3 0 10 then 105 else μ 69 0 j) → (∀ k : Nat, k ≠ 69 → W k = μ k) → ma_Ox LS (d + 3) mi_LatticefitLaw_addInput [ma_Rf 2 0] W (ma_ct (ma_Ox LS (d + 3)) (LS, [], 2, 3) 81 [ma_Rf 2 0, ma_Rf 69 0, ma_I 105, ma_I 0, ma_I 0, ma_I (μ 69 0 0), ma_I v6] [] 1 mt_LatticefitLaw_isNode_84 R (ma_DD (LS, [], 2, 3) Post)) := by
    intro W v6 w69 wk
    have w3 := wk 3 (by decide)
    refine w_LatticefitLaw_addInput (d := d) ?_
    rw [w3]
    refine ⟨fun c => by omega, fun _ => ⟨fun _ => ⟨by omega, by omega, by omega, by omega, k_LatticefitLaw_isNode_81 (d := d) hR ⟨fun c => absurd l0.symm c, fun _ => ?_⟩⟩, fun c => by omega⟩⟩
    obtain ⟨V, hV⟩ : ∃ V, V = ma_up (ma_up (ma_up (ma_up (ma_up (ma_up W 2 0 10 0) 4 0 (μ 3 0 10) 105) 10 0 (μ 3 0 10) (μ 3 0 11)) 11 0 (μ 3 0 11) (μ 3 0 10)) 3 0 11 (μ 3 0 11 + 1)) 3 0 10 (μ 3 0 10 + 1) := ⟨_, rfl⟩
    rw [← hV]
    have eo : ∀ k : Nat, k ≠ 2 → k ≠ 3 → k ≠ 4 → k ≠ 10 → k ≠ 11 → V k = W k := fun k k1 k2 k3 k4 k5 => by
      rw [hV, ma_up_ck k2, ma_up_ck k2, ma_up_ck k5, ma_up_ck k4, ma_up_ck k3, ma_up_ck k1]
    have e3 : ∀ f : Int, V 3 0 f = if f = 10 then μ 3 0 10 + 1 else if f = 11 then μ 3 0 11 + 1 else μ 3 0 f := fun f => by rw [hV, ← w3]; simp [ma_up_rd]
    have e4 : ∀ i : Int, V 4 0 i = if i = μ 3 0 10 then 105 else μ 4 0 i := fun i => by rw [hV, ← wk 4 (by decide)]; simp [ma_up_rd]
    have e10 : ∀ i : Int, V 10 0 i = if i = μ 3 0 10 then μ 3 0 11 else μ 10 0 i := fun i => by rw [hV, ← wk 10 (by decide)]; simp [ma_up_rd]
    have e11 : ∀ i : Int, V 11 0 i = if i = μ 3 0 11 then μ 3 0 10 else μ 11 0 i := fun i => by rw [hV, ← wk 11 (by decide)]; simp [ma_up_rd]
    have e69 : ∀ j : Int, V 69 0 j = W 69 0 j := fun j => by rw [eo 69 (by decide) (by decide) (by decide) (by decide) (by decide)]
    have ek : ∀ k : Nat, k ≠ 2 → k ≠ 3 → k ≠ 4 → k ≠ 10 → k ≠ 11 → k ≠ 69 → V k = μ k := fun k k1 k2 k3 k4 k5 k6 => by rw [eo k k1 k2 k3 k4 k5, wk k k6]
    have e310 : V 3 0 10 = μ 3 0 10 + 1 := by rw [e3]; rfl
    have e311 : V 3 0 11 = μ 3 0 11 + 1 := by rw [e3]; rfl
    have e312 : V 3 0 12 = μ 3 0 12 := by rw [e3]; rfl
    have e313 : V 3 0 13 = μ 3 0 13 := by rw [e3]; rfl
    have e4N : V 4 0 (μ 3 0 10) = 105 := by rw [e4, if_pos rfl]
    have e10N : V 10 0 (μ 3 0 10) = μ 3 0 11 := by rw [e10, if_pos rfl]
    refine h V (bg_add H hN (by rw [hV]; rfl) (ek 1 (by decide) (by decide) (by decide) (by decide) (by decide) (by decide)) (fun k k1 k2 => ek k (by omega) (by omega) (by omega) (by omega) (by omega) k2) e310 e313 (fun k hk i hi => ?_) (fun j => by rw [ek 13 (by decide) (by decide) (by decide) (by decide) (by decide) (by decide)]) (.inr ⟨hi, e311, e4N, e10N, e11⟩) (.inl ⟨e312, by rw [e4N]; decide, fun j => by rw [ek 12 (by decide) (by decide) (by decide) (by decide) (by decide) (by decide)]⟩) (fun j j0 j1 => ?_) ?_ ?_ ?_ ?_ ?_ ?_) e310 e311 e312 e313
    · simp only [List.mem_cons, List.not_mem_nil, or_false] at hk
      rcases hk with rfl | rfl | rfl | rfl | rfl | rfl | rfl
      · rw [e4, if_neg hi]
      · rw [ek 5 (by decide) (by decide) (by decide) (by decide) (by decide) (by decide)]
      · rw [ek 6 (by decide) (by decide) (by decide) (by decide) (by decide) (by decide)]
      · rw [ek 7 (by decide) (by decide) (by decide) (by decide) (by decide) (by decide)]
      · rw [ek 8 (by decide) (by decide) (by decide) (by decide) (by decide) (by decide)]
      · rw [ek 9 (by decide) (by decide) (by decide) (by decide) (by decide) (by decide)]
      · rw [e10, if_neg hi]
    · rw [e69, w69]; repeat' split
      all_goals omega
    · rw [e69, w69]; repeat' split
      all_goals omega
    · rw [e69, w69]; repeat' split
      all_goals omega
    · rw [e69, w69]; repeat' split
      all_goals omega
    · rw [e69, w69]; repeat' split
      all_goals omega
    · unfold rl_n
      rw [e4N, e10N, e311, e11, if_pos rfl]
      exact ⟨rfl, by decide, fun _ => ⟨rfl, by omega, by omega, rfl⟩, fun z => by omega, fun z => absurd rfl z⟩
    · unfold ln_n
      rw [e4N, e10N, e69, w69, e69, w69]
      refine ⟨by repeat' split
                 all_goals omega, fun _ => by repeat' split
                                              all_goals omega, fun z => by omega, fun z => absurd rfl z⟩
  refine ⟨by omega, by omega, by omega, by omega, by omega, by omega, fun _ => ⟨by omega, by omega, by omega, ?_, fun c => absurd rfl c, fun _ => ⟨by omega, by omega, ?_, fin _ _ (fun j => ?_) (fun k hk => ?_)⟩⟩, fun c => absurd c (by decide)⟩
  · simp only [ma_up_rd]
    repeat' split
    all_goals omega
  · simp only [ma_up_rd]
    repeat' split
    all_goals omega
  · simp only [ma_up_rd, true_and]
    repeat' split
    all_goals omega
  · rw [ma_up_ck hk, ma_up_ck hk, ma_up_ck hk, ma_up_ck hk, ma_up_ck hk, ma_up_ck hk, ma_up_ck hk]
