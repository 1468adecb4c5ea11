/-! what the relation looks at; excess, both -/
def cu_used : List Nat := [1, 2, 3, 4, 5, 6, 7, 8, 9, 10, 11, 12, 13, 20, 21, 22, 23, 24, 25, 27, 28, 29, 32, 33, 34, 42, 44, 55, 57, 60, 61, 62, 67, 70, 71, 72, 73, 74, 75, 76, 77, 80, 81, 82, 83, 84, 85, 86, 87, 88, 89, 90, 91, 92, 95, 96, 101, 102, 103, 104, 105, 109]
def cu_usedf : List Int := [8, 9, 10, 11, 25, 26, 27, 28, 29, 46, 47, 49]
theorem Rel_scr {μ m : ma_M} (H : Rel μ) (hf : ∀ c ∈ cu_used, m c = μ c) (h69 : ∀ f ∈ cu_usedf, m 69 0 f = μ 69 0 f) : Rel m := by
  obtain ⟨h1, h2, h3, h4, h5, h6, h7, h8⟩ := H
  have e2 : m 2 = μ 2 := hf 2 (by decide)
  have hc : ∀ (l : List Nat), (∀ c ∈ l, c ∈ cu_used) → ∀ c ∈ l, m c = μ c := fun l hl c hc => hf c (hl c hc)
  have hg : ∀ (l : List Int), (∀ c ∈ l, c ∈ cu_usedf) → ∀ c ∈ l, m 69 0 c = μ 69 0 c := fun l hl c hc => h69 c (hl c hc)
  refine ⟨rl_c_congr (hc _ (by decide)) (hg _ (by decide)) h1, rl_s_congr (hc _ (by decide)) (hg _ (by decide)) h2, rl_z_congr (hc _ (by decide)) (hg _ (by decide)) h3, rl_u_congr (hc _ (by decide)) h4, fun z => ?_, fun z => ?_, fun z => ?_, fun z => ?_⟩
  · rw [e2] at z; exact ⟨rl_m_congr (hc _ (by decide)) (hg _ (by decide)) (h5 z).1, rl_p_congr (hc _ (by decide)) (h5 z).2⟩
  · rw [e2] at z; exact rl_r_congr (hc _ (by decide)) (h6 z)
  · rw [e2] at z; exact rl_f_congr (hc _ (by decide)) (h7 z)
  · rw [e2] at z; exact rl_k_congr (hc _ (by decide)) (hg _ (by decide)) (h8 z)
theorem pr_excess {LS d : Nat} {μ : ma_M} (H : Rel μ) : Pr LS d mi_LatticefitLaw_excess [ma_Rf 2 0, ma_Rf 111 0] mi_LatticefitModel_excess [ma_Rf 69 0] agI μ := by
  intro Post hP
  obtain ⟨Hc, Hs, Hz, Hu, Hm, Hr, Hf, Hk⟩ := id H
  have s26 := Hs.2.2.1
  refine gi_LatticefitLaw_excess (fun R hR => s_LatticefitLaw_excess_0 (d := d + 8) hR ?_)
  refine gi_Latticefit_excess (fun R2 hR2 => s_Latticefit_excess_0 (d := d + 8) hR2 ⟨fun st => ?_, fun st => ?_⟩)
  · obtain ⟨Hmm, Hpp⟩ := Hm st
    refine sp_clockExcess (d := d + 8) Hc Hmm (cu_q_of Hpp) (fun v m1 a1 a2 => k_Latticefit_excess_9 hR2 (k_LatticefitLaw_excess_3 hR ⟨by omega, hP 0 _ (fun Post2 h2 => ?_)⟩))
    have b1 : ∀ c : Nat, c ≠ 39 → c ≠ 111 → (ma_up m1 111 0 0 v) c = μ c := fun c c1 c5 => by rw [ma_up_ck c5]; exact a1 c c1
    have b2 : (ma_up m1 111 0 0 v) 111 0 0 = v := ma_up_eq
    generalize ma_up m1 111 0 0 v = M at b1 b2 ⊢
    have M69 : M 69 = μ 69 := b1 69 (by decide) (by decide)
    have RM : Rel M := Rel_scr H (fun c hc => b1 c (by rintro rfl; revert hc; decide) (by rintro rfl; revert hc; decide)) (fun f _ => by rw [M69])
    have RM0 := Rel_thrown RM 0
    refine gi_LatticefitModel_excess (fun R3 hR3 => s_LatticefitModel_excess_0 (d := d + 9) hR3 ⟨fun _ => ?_, fun q => by rw [M69, s26, if_pos st] at q; omega⟩)
    have e2 : (ma_up M 69 0 50 0) 2 0 10 = μ 2 0 10 := by rw [ma_up_ck (by decide), b1 2 (by decide) (by decide)]
    have mp := RM0.2.2.2.2.1 (by rw [e2]; exact st)
    refine sp_excessNow (d := d + 9) (fun _ _ => rfl) RM0.1 mp.1 mp.2 (fun w hw => k_LatticefitModel_excess_25 hR3 ?_)
    have ew : w = v := cu_ex_uniq (cu_ex_congr (fun c hc => by
      rw [ma_up_ck (by rintro rfl; revert hc; decide)]
      exact (b1 c (by rintro rfl; revert hc; decide) (by rintro rfl; revert hc; decide)).symm) hw) a2
    rw [ew]
    exact h2 _ _ RM0 ma_up_eq (fun _ => ⟨v, rfl, by rw [ma_up_ck (by decide)]; exact b2⟩)
  · show R 11 [ma_Rf 2 0, ma_Rf 111 0, ma_U] [ma_X 0] 1 μ
    refine g_LatticefitLaw_excess_11 hR ⟨Nat.le_refl 1, hP 1 μ (fun Post2 h2 => ?_)⟩
    exact gi_LatticefitModel_excess (fun R3 hR3 => s_LatticefitModel_excess_0 (d := d + 9) hR3 ⟨fun q => absurd (by rw [s26, if_neg (by omega)]) q, fun _ => h2 (ma_I 0) _ (Rel_thrown H 1) ma_up_eq (fun z => by omega)⟩)
