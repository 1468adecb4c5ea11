/-! the simple reads -/
theorem rl_s_cases {μ : ma_M} (h : rl_s μ) : 0 ≤ μ 2 0 10 ∧ μ 2 0 10 ≤ 4 ∧ (1 ≤ μ 2 0 10 ∧ μ 69 0 26 = 1 ∨ μ 2 0 10 < 1 ∧ μ 69 0 26 = 0) ∧ (2 ≤ μ 2 0 10 ∧ μ 69 0 27 = 1 ∨ μ 2 0 10 < 2 ∧ μ 69 0 27 = 0) ∧ (3 ≤ μ 2 0 10 ∧ μ 69 0 28 = 1 ∨ μ 2 0 10 < 3 ∧ μ 69 0 28 = 0) ∧ (4 ≤ μ 2 0 10 ∧ μ 69 0 29 = 1 ∨ μ 2 0 10 < 4 ∧ μ 69 0 29 = 0) := by
  obtain ⟨h0, h1, h2, h3, h4, h5⟩ := h
  refine ⟨h0, h1, ?_, ?_, ?_, ?_⟩
  · split at h2 <;> omega
  · split at h3 <;> omega
  · split at h4 <;> omega
  · split at h5 <;> omega
/-- the law's array of answers is no part of the relation -/
theorem Rel_off {μ μ' : ma_M} (hc : ∀ k : Nat, k ≠ 111 → k ≠ 112 → μ' k = μ k) (H : Rel μ) : Rel μ' := by
  obtain ⟨h1, h2, h3, h4, h5, h6, h7, h8⟩ := H
  have e2 : μ' 2 = μ 2 := hc 2 (by decide) (by decide)
  have e69 : μ' 69 = μ 69 := hc 69 (by decide) (by decide)
  unfold Rel
  rw [e2]
  refine ⟨rl_c_congr (fun k hk => hc k ?_ ?_) (fun f hf' => by rw [e69]) h1, rl_s_congr (fun k hk => hc k ?_ ?_) (fun f hf' => by rw [e69]) h2, rl_z_congr (fun k hk => hc k ?_ ?_) (fun f hf' => by rw [e69]) h3, rl_u_congr (fun k hk => hc k ?_ ?_) h4, fun z => ⟨rl_m_congr (fun k hk => hc k ?_ ?_) (fun f hf' => by rw [e69]) (h5 z).1, rl_p_congr (fun k hk => hc k ?_ ?_) (h5 z).2⟩, fun z => rl_r_congr (fun k hk => hc k ?_ ?_) (h6 z), fun z => rl_f_congr (fun k hk => hc k ?_ ?_) (h7 z), fun z => rl_k_congr (fun k hk => hc k ?_ ?_) (fun f hf' => by rw [e69]) (h8 z)⟩
  all_goals (rintro rfl; revert hk; decide)
theorem Rel_out {μ : ma_M} (H : Rel μ) (v : Int) : Rel (ma_up μ 111 0 0 v) := Rel_off (fun k h _ => ma_up_ck h) H
/-- what the reference's call has to say -/
def H2 (ag : ma_V → ma_M → Prop) (kk : Int) (Post2 : ma_R → ma_M → Prop) : Prop := ∀ (v : ma_V) (μ2 : ma_M), Rel μ2 → μ2 69 0 50 = kk → (kk = 0 → ag v μ2) → Post2 (.inl (some v)) μ2
theorem x1_I {kk : Int} {Post2 : ma_R → ma_M → Prop} (h2 : H2 agI kk Post2) {W : ma_M} {b t : Int} (R : Rel W) (ht : t = kk) (hv : kk = 0 → W 111 0 0 = b) : Post2 (.inl (some (ma_I b))) (ma_up W 69 0 50 t) :=
  h2 _ _ (Rel_thrown R t) (ma_up_eq.trans ht) (fun z => ⟨b, rfl, by rw [ma_up_ck (by decide)]; exact hv z⟩)
theorem x1_L {kk : Int} {Post2 : ma_R → ma_M → Prop} (h2 : H2 agL kk Post2) {W : ma_M} {b t : Int} (R : Rel W) (ht : t = kk) (hv : kk = 0 → W 111 0 0 = b) : Post2 (.inl (some (ma_L b))) (ma_up W 69 0 50 t) :=
  h2 _ _ (Rel_thrown R t) (ma_up_eq.trans ht) (fun z => ⟨b, rfl, by rw [ma_up_ck (by decide)]; exact hv z⟩)
theorem x1_Z {kk : Int} {Post2 : ma_R → ma_M → Prop} (h2 : H2 agZ kk Post2) {W : ma_M} {b t : Int} (R : Rel W) (ht : t = kk) (hv : kk = 0 → W 111 0 0 = b ∧ (b = 0 ∨ b = 1)) : Post2 (.inl (some (ma_I b))) (ma_up W 69 0 50 t) :=
  h2 _ _ (Rel_thrown R t) (ma_up_eq.trans ht) (fun z => ⟨b, rfl, (hv z).2, by rw [ma_up_ck (by decide)]; exact (hv z).1⟩)
theorem x2_I {kk : Int} {Post2 : ma_R → ma_M → Prop} (h2 : H2 agI kk Post2) {W : ma_M} {b s t : Int} (R : Rel W) (ht : t = kk) (hv : kk = 0 → W 111 0 0 = b) : Post2 (.inl (some (ma_I b))) (ma_up (ma_up W 69 0 50 s) 69 0 50 t) :=
  x1_I h2 (Rel_thrown R s) ht (fun z => by rw [ma_up_ck (by decide)]; exact hv z)
theorem x3_I {kk : Int} {Post2 : ma_R → ma_M → Prop} (h2 : H2 agI kk Post2) {W : ma_M} {b r s t : Int} (R : Rel W) (ht : t = kk) (hv : kk = 0 → W 111 0 0 = b) : Post2 (.inl (some (ma_I b))) (ma_up (ma_up (ma_up W 69 0 50 r) 69 0 50 s) 69 0 50 t) :=
  x2_I h2 (Rel_thrown R r) ht (fun z => by rw [ma_up_ck (by decide)]; exact hv z)
theorem x2_L {kk : Int} {Post2 : ma_R → ma_M → Prop} (h2 : H2 agL kk Post2) {W : ma_M} {b s t : Int} (R : Rel W) (ht : t = kk) (hv : kk = 0 → W 111 0 0 = b) : Post2 (.inl (some (ma_L b))) (ma_up (ma_up W 69 0 50 s) 69 0 50 t) :=
  x1_L h2 (Rel_thrown R s) ht (fun z => by rw [ma_up_ck (by decide)]; exact hv z)
theorem x3_L {kk : Int} {Post2 : ma_R → ma_M → Prop} (h2 : H2 agL kk Post2) {W : ma_M} {b r s t : Int} (R : Rel W) (ht : t = kk) (hv : kk = 0 → W 111 0 0 = b) : Post2 (.inl (some (ma_L b))) (ma_up (ma_up (ma_up W 69 0 50 r) 69 0 50 s) 69 0 50 t) :=
  x2_L h2 (Rel_thrown R r) ht (fun z => by rw [ma_up_ck (by decide)]; exact hv z)
theorem x2_Z {kk : Int} {Post2 : ma_R → ma_M → Prop} (h2 : H2 agZ kk Post2) {W : ma_M} {b s t : Int} (R : Rel W) (ht : t = kk) (hv : kk = 0 → W 111 0 0 = b ∧ (b = 0 ∨ b = 1)) : Post2 (.inl (some (ma_I b))) (ma_up (ma_up W 69 0 50 s) 69 0 50 t) :=
  x1_Z h2 (Rel_thrown R s) ht (fun z => by rw [ma_up_ck (by decide)]; exact hv z)
theorem x3_Z {kk : Int} {Post2 : ma_R → ma_M → Prop} (h2 : H2 agZ kk Post2) {W : ma_M} {b r s t : Int} (R : Rel W) (ht : t = kk) (hv : kk = 0 → W 111 0 0 = b ∧ (b = 0 ∨ b = 1)) : Post2 (.inl (some (ma_I b))) (ma_up (ma_up (ma_up W 69 0 50 r) 69 0 50 s) 69 0 50 t) :=
  x2_Z h2 (Rel_thrown R r) ht (fun z => by rw [ma_up_ck (by decide)]; exact hv z)
theorem pr_kindOf_0 {LS d : Nat} {μ : ma_M} (H : Rel μ) {v1 : Int} (c0 : v1 < 0 ∨ μ 3 0 10 ≤ v1) : Pr LS d mi_LatticefitLaw_kindOf [ma_Rf 2 0, ma_I v1, ma_Rf 111 0] mi_LatticefitModel_kindOf [ma_Rf 69 0, ma_I v1] agI μ := by
  intro Post hP
  obtain ⟨Hc, Hs, Hz, Hu, Hm, Hr, Hf, Hk⟩ := id H
  replace Hs := rl_s_cases Hs
  obtain ⟨n0, n1, i0, i1, r0, r1, o0, o1, m8, m9, m10, m11, Hn, -⟩ := Hc
  replace Hc := Hn
  clear Hc Hs Hz Hu Hm Hr Hf Hk
  have M : ∀ (W : ma_M), (∀ k : Nat, k ≠ 111 → W k = μ k) → Rel W → True → ∀ Post2, H2 agI 1 Post2 → ma_Ox LS (d + 12) mi_LatticefitModel_kindOf [ma_Rf 69 0, ma_I v1] W Post2 := by
    intro W hW RW hv Post2 h2
    have : W 69 0 8 = μ 69 0 8 := by rw [hW 69 (by decide)]
    have : W 70 0 v1 = μ 70 0 v1 := by rw [hW 70 (by decide)]
    refine w_LatticefitModel_kindOf (d := d + 9) ?_
    repeat' (first | with_reducible refine And.intro ?_ ?_ | intro _)
    all_goals first | (with_reducible refine x3_I h2 RW rfl ?_); exact (fun z => absurd z (by decide)) | (with_reducible refine x2_I h2 RW rfl ?_); exact (fun z => absurd z (by decide)) | (with_reducible refine x1_I h2 RW rfl ?_); exact (fun z => absurd z (by decide)) | omega
  refine w_LatticefitLaw_kindOf (d := d + 9) ?_
  repeat' (first | with_reducible refine And.intro ?_ ?_ | intro _)
  all_goals first | exact hP 1 μ (fun Post2 h2 => M μ (fun k hk => rfl) H trivial Post2 h2) | omega
theorem pr_kindOf_1 {LS d : Nat} {μ : ma_M} (H : Rel μ) {v1 : Int} (c0 : 0 ≤ v1) (c1 : v1 < μ 3 0 10) : Pr LS d mi_LatticefitLaw_kindOf [ma_Rf 2 0, ma_I v1, ma_Rf 111 0] mi_LatticefitModel_kindOf [ma_Rf 69 0, ma_I v1] agI μ := by
  intro Post hP
  obtain ⟨Hc, Hs, Hz, Hu, Hm, Hr, Hf, Hk⟩ := id H
  replace Hs := rl_s_cases Hs
  obtain ⟨n0, n1, i0, i1, r0, r1, o0, o1, m8, m9, m10, m11, Hn, -⟩ := Hc
  replace Hc := Hn
  have q0 : μ 70 0 v1 = μ 4 0 v1 := (Hn v1 c0 c1).1
  have q1 : 0 ≤ μ 4 0 v1 ∧ μ 4 0 v1 < 65536 := by have := (Hn v1 c0 c1).2.1; omega
  clear Hc Hs Hz Hu Hm Hr Hf Hk
  have M : ∀ (W : ma_M), (∀ k : Nat, k ≠ 111 → W k = μ k) → Rel W → W 111 0 0 = μ 4 0 v1 → ∀ Post2, H2 agI 0 Post2 → ma_Ox LS (d + 12) mi_LatticefitModel_kindOf [ma_Rf 69 0, ma_I v1] W Post2 := by
    intro W hW RW hv Post2 h2
    have : W 69 0 8 = μ 69 0 8 := by rw [hW 69 (by decide)]
    have : W 70 0 v1 = μ 70 0 v1 := by rw [hW 70 (by decide)]
    refine w_LatticefitModel_kindOf (d := d + 9) ?_
    repeat' (first | with_reducible refine And.intro ?_ ?_ | intro _)
    all_goals first | (with_reducible refine x3_I h2 RW rfl ?_); exact (fun z => (by omega)) | (with_reducible refine x2_I h2 RW rfl ?_); exact (fun z => (by omega)) | (with_reducible refine x1_I h2 RW rfl ?_); exact (fun z => (by omega)) | omega
  refine w_LatticefitLaw_kindOf (d := d + 9) ?_
  repeat' (first | with_reducible refine And.intro ?_ ?_ | intro _)
  all_goals first | exact hP 0 (ma_up μ 111 0 0 _) (fun Post2 h2 => M _ (fun k hk => ma_up_ck hk) (Rel_out H _) (ma_up_eq.trans (by omega)) Post2 h2) | omega
theorem pr_kindOf {LS d : Nat} {μ : ma_M} (H : Rel μ) {v1 : Int} : Pr LS d mi_LatticefitLaw_kindOf [ma_Rf 2 0, ma_I v1, ma_Rf 111 0] mi_LatticefitModel_kindOf [ma_Rf 69 0, ma_I v1] agI μ := by
  obtain ⟨Hc, Hs, Hz, Hu, Hm, Hr, Hf, Hk⟩ := id H
  rcases (by omega : (v1 < 0 ∨ μ 3 0 10 ≤ v1) ∨ (0 ≤ v1) ∧ (v1 < μ 3 0 10)) with c0 | ⟨c0, c1⟩
  · exact pr_kindOf_0 H c0
  · exact pr_kindOf_1 H c0 c1
theorem pr_depth_0 {LS d : Nat} {μ : ma_M} (H : Rel μ) {v1 : Int} (c0 : v1 < 0 ∨ μ 3 0 10 ≤ v1) : Pr LS d mi_LatticefitLaw_depth [ma_Rf 2 0, ma_I v1, ma_Rf 111 0] mi_LatticefitModel_depth [ma_Rf 69 0, ma_I v1] agI μ := by
  intro Post hP
  obtain ⟨Hc, Hs, Hz, Hu, Hm, Hr, Hf, Hk⟩ := id H
  replace Hs := rl_s_cases Hs
  obtain ⟨n0, n1, i0, i1, r0, r1, o0, o1, m8, m9, m10, m11, Hn, -⟩ := Hc
  replace Hc := Hn
  clear Hc Hs Hz Hu Hm Hr Hf Hk
  have M : ∀ (W : ma_M), (∀ k : Nat, k ≠ 111 → W k = μ k) → Rel W → True → ∀ Post2, H2 agI 1 Post2 → ma_Ox LS (d + 12) mi_LatticefitModel_depth [ma_Rf 69 0, ma_I v1] W Post2 := by
    intro W hW RW hv Post2 h2
    have : W 69 0 8 = μ 69 0 8 := by rw [hW 69 (by decide)]
    have : W 69 0 26 = μ 69 0 26 := by rw [hW 69 (by decide)]
    have : W 80 0 v1 = μ 80 0 v1 := by rw [hW 80 (by decide)]
    refine w_LatticefitModel_depth (d := d + 8) ?_
    repeat' (first | with_reducible refine And.intro ?_ ?_ | intro _)
    all_goals first | (with_reducible refine x3_I h2 RW rfl ?_); exact (fun z => absurd z (by decide)) | (with_reducible refine x2_I h2 RW rfl ?_); exact (fun z => absurd z (by decide)) | (with_reducible refine x1_I h2 RW rfl ?_); exact (fun z => absurd z (by decide)) | omega
  refine w_LatticefitLaw_depth (d := d + 9) ?_
  repeat' (first | with_reducible refine And.intro ?_ ?_ | intro _)
  all_goals first | exact hP 1 μ (fun Post2 h2 => M μ (fun k hk => rfl) H trivial Post2 h2) | omega
theorem pr_depth_1 {LS d : Nat} {μ : ma_M} (H : Rel μ) {v1 : Int} (c0 : 0 ≤ v1) (c1 : v1 < μ 3 0 10) (c2 : μ 2 0 10 < 1) : Pr LS d mi_LatticefitLaw_depth [ma_Rf 2 0, ma_I v1, ma_Rf 111 0] mi_LatticefitModel_depth [ma_Rf 69 0, ma_I v1] agI μ := by
  intro Post hP
  obtain ⟨Hc, Hs, Hz, Hu, Hm, Hr, Hf, Hk⟩ := id H
  replace Hs := rl_s_cases Hs
  obtain ⟨n0, n1, i0, i1, r0, r1, o0, o1, m8, m9, m10, m11, Hn, -⟩ := Hc
  replace Hc := Hn
  have q0 : μ 69 0 26 = 0 := by omega
  clear Hc Hs Hz Hu Hm Hr Hf Hk
  have M : ∀ (W : ma_M), (∀ k : Nat, k ≠ 111 → W k = μ k) → Rel W → True → ∀ Post2, H2 agI 2 Post2 → ma_Ox LS (d + 12) mi_LatticefitModel_depth [ma_Rf 69 0, ma_I v1] W Post2 := by
    intro W hW RW hv Post2 h2
    have : W 69 0 8 = μ 69 0 8 := by rw [hW 69 (by decide)]
    have : W 69 0 26 = μ 69 0 26 := by rw [hW 69 (by decide)]
    have : W 80 0 v1 = μ 80 0 v1 := by rw [hW 80 (by decide)]
    refine w_LatticefitModel_depth (d := d + 8) ?_
    repeat' (first | with_reducible refine And.intro ?_ ?_ | intro _)
    all_goals first | (with_reducible refine x3_I h2 RW rfl ?_); exact (fun z => absurd z (by decide)) | (with_reducible refine x2_I h2 RW rfl ?_); exact (fun z => absurd z (by decide)) | (with_reducible refine x1_I h2 RW rfl ?_); exact (fun z => absurd z (by decide)) | omega
  refine w_LatticefitLaw_depth (d := d + 9) ?_
  repeat' (first | with_reducible refine And.intro ?_ ?_ | intro _)
  all_goals first | exact hP 2 μ (fun Post2 h2 => M μ (fun k hk => rfl) H trivial Post2 h2) | omega
theorem pr_depth_2 {LS d : Nat} {μ : ma_M} (H : Rel μ) {v1 : Int} (c0 : 0 ≤ v1) (c1 : v1 < μ 3 0 10) (c2 : 1 ≤ μ 2 0 10) : Pr LS d mi_LatticefitLaw_depth [ma_Rf 2 0, ma_I v1, ma_Rf 111 0] mi_LatticefitModel_depth [ma_Rf 69 0, ma_I v1] agI μ := by
  intro Post hP
  obtain ⟨Hc, Hs, Hz, Hu, Hm, Hr, Hf, Hk⟩ := id H
  replace Hs := rl_s_cases Hs
  obtain ⟨n0, n1, i0, i1, r0, r1, o0, o1, m8, m9, m10, m11, Hn, -⟩ := Hc
  replace Hc := Hn
  have q0 : μ 69 0 26 = 1 := by omega
  have q1 : μ 80 0 v1 = μ 20 0 v1 := ((Hm c2).1.2.2.2.1 v1 c0 c1).1
  clear Hc Hs Hz Hu Hm Hr Hf Hk
  have M : ∀ (W : ma_M), (∀ k : Nat, k ≠ 111 → W k = μ k) → Rel W → W 111 0 0 = μ 20 0 v1 → ∀ Post2, H2 agI 0 Post2 → ma_Ox LS (d + 12) mi_LatticefitModel_depth [ma_Rf 69 0, ma_I v1] W Post2 := by
    intro W hW RW hv Post2 h2
    have : W 69 0 8 = μ 69 0 8 := by rw [hW 69 (by decide)]
    have : W 69 0 26 = μ 69 0 26 := by rw [hW 69 (by decide)]
    have : W 80 0 v1 = μ 80 0 v1 := by rw [hW 80 (by decide)]
    refine w_LatticefitModel_depth (d := d + 8) ?_
    repeat' (first | with_reducible refine And.intro ?_ ?_ | intro _)
    all_goals first | (with_reducible refine x3_I h2 RW rfl ?_); exact (fun z => (by omega)) | (with_reducible refine x2_I h2 RW rfl ?_); exact (fun z => (by omega)) | (with_reducible refine x1_I h2 RW rfl ?_); exact (fun z => (by omega)) | omega
  refine w_LatticefitLaw_depth (d := d + 9) ?_
  repeat' (first | with_reducible refine And.intro ?_ ?_ | intro _)
  all_goals first | exact hP 0 (ma_up μ 111 0 0 _) (fun Post2 h2 => M _ (fun k hk => ma_up_ck hk) (Rel_out H _) (ma_up_eq.trans (by omega)) Post2 h2) | omega
theorem pr_depth {LS d : Nat} {μ : ma_M} (H : Rel μ) {v1 : Int} : Pr LS d mi_LatticefitLaw_depth [ma_Rf 2 0, ma_I v1, ma_Rf 111 0] mi_LatticefitModel_depth [ma_Rf 69 0, ma_I v1] agI μ := by
  obtain ⟨Hc, Hs, Hz, Hu, Hm, Hr, Hf, Hk⟩ := id H
  rcases (by omega : (v1 < 0 ∨ μ 3 0 10 ≤ v1) ∨ (0 ≤ v1) ∧ (v1 < μ 3 0 10) ∧ (μ 2 0 10 < 1) ∨ (0 ≤ v1) ∧ (v1 < μ 3 0 10) ∧ (1 ≤ μ 2 0 10)) with c0 | ⟨c0, c1, c2⟩ | ⟨c0, c1, c2⟩
  · exact pr_depth_0 H c0
  · exact pr_depth_1 H c0 c1 c2
  · exact pr_depth_2 H c0 c1 c2
theorem pr_isNeeded_0 {LS d : Nat} {μ : ma_M} (H : Rel μ) {v1 : Int} (c0 : v1 < 0 ∨ μ 3 0 10 ≤ v1) : Pr LS d mi_LatticefitLaw_isNeeded [ma_Rf 2 0, ma_I v1, ma_Rf 111 0] mi_LatticefitModel_isNeeded [ma_Rf 69 0, ma_I v1] agZ μ := by
  intro Post hP
  obtain ⟨Hc, Hs, Hz, Hu, Hm, Hr, Hf, Hk⟩ := id H
  replace Hs := rl_s_cases Hs
  obtain ⟨n0, n1, i0, i1, r0, r1, o0, o1, m8, m9, m10, m11, Hn, -⟩ := Hc
  replace Hc := Hn
  clear Hc Hs Hz Hu Hm Hr Hf Hk
  have M : ∀ (W : ma_M), (∀ k : Nat, k ≠ 111 → W k = μ k) → Rel W → True → ∀ Post2, H2 agZ 1 Post2 → ma_Ox LS (d + 12) mi_LatticefitModel_isNeeded [ma_Rf 69 0, ma_I v1] W Post2 := by
    intro W hW RW hv Post2 h2
    have : W 69 0 8 = μ 69 0 8 := by rw [hW 69 (by decide)]
    have : W 69 0 26 = μ 69 0 26 := by rw [hW 69 (by decide)]
    have : W 82 0 v1 = μ 82 0 v1 := by rw [hW 82 (by decide)]
    refine w_LatticefitModel_isNeeded (d := d + 8) ?_
    repeat' (first | with_reducible refine And.intro ?_ ?_ | intro _)
    all_goals first | (with_reducible refine x3_Z h2 RW rfl ?_); exact (fun z => absurd z (by decide)) | (with_reducible refine x2_Z h2 RW rfl ?_); exact (fun z => absurd z (by decide)) | (with_reducible refine x1_Z h2 RW rfl ?_); exact (fun z => absurd z (by decide)) | omega
  refine w_LatticefitLaw_isNeeded (d := d + 9) ?_
  repeat' (first | with_reducible refine And.intro ?_ ?_ | intro _)
  all_goals first | exact hP 1 μ (fun Post2 h2 => M μ (fun k hk => rfl) H trivial Post2 h2) | omega
theorem pr_isNeeded_1 {LS d : Nat} {μ : ma_M} (H : Rel μ) {v1 : Int} (c0 : 0 ≤ v1) (c1 : v1 < μ 3 0 10) (c2 : μ 2 0 10 < 1) : Pr LS d mi_LatticefitLaw_isNeeded [ma_Rf 2 0, ma_I v1, ma_Rf 111 0] mi_LatticefitModel_isNeeded [ma_Rf 69 0, ma_I v1] agZ μ := by
  intro Post hP
  obtain ⟨Hc, Hs, Hz, Hu, Hm, Hr, Hf, Hk⟩ := id H
  replace Hs := rl_s_cases Hs
  obtain ⟨n0, n1, i0, i1, r0, r1, o0, o1, m8, m9, m10, m11, Hn, -⟩ := Hc
  replace Hc := Hn
  have q0 : μ 69 0 26 = 0 := by omega
  clear Hc Hs Hz Hu Hm Hr Hf Hk
  have M : ∀ (W : ma_M), (∀ k : Nat, k ≠ 111 → W k = μ k) → Rel W → True → ∀ Post2, H2 agZ 2 Post2 → ma_Ox LS (d + 12) mi_LatticefitModel_isNeeded [ma_Rf 69 0, ma_I v1] W Post2 := by
    intro W hW RW hv Post2 h2
    have : W 69 0 8 = μ 69 0 8 := by rw [hW 69 (by decide)]
    have : W 69 0 26 = μ 69 0 26 := by rw [hW 69 (by decide)]
    have : W 82 0 v1 = μ 82 0 v1 := by rw [hW 82 (by decide)]
    refine w_LatticefitModel_isNeeded (d := d + 8) ?_
    repeat' (first | with_reducible refine And.intro ?_ ?_ | intro _)
    all_goals first | (with_reducible refine x3_Z h2 RW rfl ?_); exact (fun z => absurd z (by decide)) | (with_reducible refine x2_Z h2 RW rfl ?_); exact (fun z => absurd z (by decide)) | (with_reducible refine x1_Z h2 RW rfl ?_); exact (fun z => absurd z (by decide)) | omega
  refine w_LatticefitLaw_isNeeded (d := d + 9) ?_
  repeat' (first | with_reducible refine And.intro ?_ ?_ | intro _)
  all_goals first | exact hP 2 μ (fun Post2 h2 => M μ (fun k hk => rfl) H trivial Post2 h2) | omega
theorem pr_isNeeded_2 {LS d : Nat} {μ : ma_M} (H : Rel μ) {v1 : Int} (c0 : 0 ≤ v1) (c1 : v1 < μ 3 0 10) (c2 : 1 ≤ μ 2 0 10) : Pr LS d mi_LatticefitLaw_isNeeded [ma_Rf 2 0, ma_I v1, ma_Rf 111 0] mi_LatticefitModel_isNeeded [ma_Rf 69 0, ma_I v1] agZ μ := by
  intro Post hP
  obtain ⟨Hc, Hs, Hz, Hu, Hm, Hr, Hf, Hk⟩ := id H
  replace Hs := rl_s_cases Hs
  obtain ⟨n0, n1, i0, i1, r0, r1, o0, o1, m8, m9, m10, m11, Hn, -⟩ := Hc
  replace Hc := Hn
  have q0 : μ 69 0 26 = 1 := by omega
  have q1 : μ 82 0 v1 = μ 29 0 v1 ∧ (μ 29 0 v1 = 0 ∨ μ 29 0 v1 = 1) := ⟨((Hm c2).1.2.2.2.1 v1 c0 c1).2.1, ((Hm c2).1.2.2.2.1 v1 c0 c1).2.2.1⟩
  clear Hc Hs Hz Hu Hm Hr Hf Hk
  have M : ∀ (W : ma_M), (∀ k : Nat, k ≠ 111 → W k = μ k) → Rel W → W 111 0 0 = μ 29 0 v1 → ∀ Post2, H2 agZ 0 Post2 → ma_Ox LS (d + 12) mi_LatticefitModel_isNeeded [ma_Rf 69 0, ma_I v1] W Post2 := by
    intro W hW RW hv Post2 h2
    have : W 69 0 8 = μ 69 0 8 := by rw [hW 69 (by decide)]
    have : W 69 0 26 = μ 69 0 26 := by rw [hW 69 (by decide)]
    have : W 82 0 v1 = μ 82 0 v1 := by rw [hW 82 (by decide)]
    refine w_LatticefitModel_isNeeded (d := d + 8) ?_
    repeat' (first | with_reducible refine And.intro ?_ ?_ | intro _)
    all_goals first | (with_reducible refine x3_Z h2 RW rfl ?_); exact (fun z => (by omega)) | (with_reducible refine x2_Z h2 RW rfl ?_); exact (fun z => (by omega)) | (with_reducible refine x1_Z h2 RW rfl ?_); exact (fun z => (by omega)) | omega
  refine w_LatticefitLaw_isNeeded (d := d + 9) ?_
  repeat' (first | with_reducible refine And.intro ?_ ?_ | intro _)
  all_goals first | exact hP 0 (ma_up μ 111 0 0 _) (fun Post2 h2 => M _ (fun k hk => ma_up_ck hk) (Rel_out H _) (ma_up_eq.trans (by omega)) Post2 h2) | omega
theorem pr_isNeeded {LS d : Nat} {μ : ma_M} (H : Rel μ) {v1 : Int} : Pr LS d mi_LatticefitLaw_isNeeded [ma_Rf 2 0, ma_I v1, ma_Rf 111 0] mi_LatticefitModel_isNeeded [ma_Rf 69 0, ma_I v1] agZ μ := by
  obtain ⟨Hc, Hs, Hz, Hu, Hm, Hr, Hf, Hk⟩ := id H
  rcases (by omega : (v1 < 0 ∨ μ 3 0 10 ≤ v1) ∨ (0 ≤ v1) ∧ (v1 < μ 3 0 10) ∧ (μ 2 0 10 < 1) ∨ (0 ≤ v1) ∧ (v1 < μ 3 0 10) ∧ (1 ≤ μ 2 0 10)) with c0 | ⟨c0, c1, c2⟩ | ⟨c0, c1, c2⟩
  · exact pr_isNeeded_0 H c0
  · exact pr_isNeeded_1 H c0 c1 c2
  · exact pr_isNeeded_2 H c0 c1 c2
theorem pr_word_0 {LS d : Nat} {μ : ma_M} (H : Rel μ) {v1 : Int} (c0 : μ 2 0 10 < 1) : Pr LS d mi_LatticefitLaw_word [ma_Rf 2 0, ma_I v1, ma_Rf 111 0] mi_LatticefitModel_word [ma_Rf 69 0, ma_I v1] agI μ := by
  intro Post hP
  obtain ⟨Hc, Hs, Hz, Hu, Hm, Hr, Hf, Hk⟩ := id H
  replace Hs := rl_s_cases Hs
  have q0 : μ 69 0 26 = 0 := by omega
  clear Hc Hs Hz Hu Hm Hr Hf Hk
  have M : ∀ (W : ma_M), (∀ k : Nat, k ≠ 111 → W k = μ k) → Rel W → True → ∀ Post2, H2 agI 2 Post2 → ma_Ox LS (d + 12) mi_LatticefitModel_word [ma_Rf 69 0, ma_I v1] W Post2 := by
    intro W hW RW hv Post2 h2
    have : W 69 0 25 = μ 69 0 25 := by rw [hW 69 (by decide)]
    have : W 69 0 26 = μ 69 0 26 := by rw [hW 69 (by decide)]
    have : W 86 0 v1 = μ 86 0 v1 := by rw [hW 86 (by decide)]
    refine w_LatticefitModel_word (d := d + 9) ?_
    repeat' (first | with_reducible refine And.intro ?_ ?_ | intro _)
    all_goals first | (with_reducible refine x3_I h2 RW rfl ?_); exact (fun z => absurd z (by decide)) | (with_reducible refine x2_I h2 RW rfl ?_); exact (fun z => absurd z (by decide)) | (with_reducible refine x1_I h2 RW rfl ?_); exact (fun z => absurd z (by decide)) | omega
  refine w_LatticefitLaw_word (d := d + 9) ?_
  repeat' (first | with_reducible refine And.intro ?_ ?_ | intro _)
  all_goals first | exact hP 2 μ (fun Post2 h2 => M μ (fun k hk => rfl) H trivial Post2 h2) | omega
theorem pr_word_1 {LS d : Nat} {μ : ma_M} (H : Rel μ) {v1 : Int} (c0 : 1 ≤ μ 2 0 10) (c1 : (v1 < 0 ∨ μ 21 0 7 ≤ v1)) : Pr LS d mi_LatticefitLaw_word [ma_Rf 2 0, ma_I v1, ma_Rf 111 0] mi_LatticefitModel_word [ma_Rf 69 0, ma_I v1] agI μ := by
  intro Post hP
  obtain ⟨Hc, Hs, Hz, Hu, Hm, Hr, Hf, Hk⟩ := id H
  replace Hs := rl_s_cases Hs
  have q0 : μ 69 0 26 = 1 := by omega
  have q1 : 0 ≤ μ 21 0 7 ∧ μ 21 0 7 ≤ 36 ∧ μ 69 0 25 = μ 21 0 7 := ⟨(Hm c0).1.1, (Hm c0).1.2.1, (Hm c0).1.2.2.1⟩
  clear Hc Hs Hz Hu Hm Hr Hf Hk
  have M : ∀ (W : ma_M), (∀ k : Nat, k ≠ 111 → W k = μ k) → Rel W → True → ∀ Post2, H2 agI 1 Post2 → ma_Ox LS (d + 12) mi_LatticefitModel_word [ma_Rf 69 0, ma_I v1] W Post2 := by
    intro W hW RW hv Post2 h2
    have : W 69 0 25 = μ 69 0 25 := by rw [hW 69 (by decide)]
    have : W 69 0 26 = μ 69 0 26 := by rw [hW 69 (by decide)]
    have : W 86 0 v1 = μ 86 0 v1 := by rw [hW 86 (by decide)]
    refine w_LatticefitModel_word (d := d + 9) ?_
    repeat' (first | with_reducible refine And.intro ?_ ?_ | intro _)
    all_goals first | (with_reducible refine x3_I h2 RW rfl ?_); exact (fun z => absurd z (by decide)) | (with_reducible refine x2_I h2 RW rfl ?_); exact (fun z => absurd z (by decide)) | (with_reducible refine x1_I h2 RW rfl ?_); exact (fun z => absurd z (by decide)) | omega
  refine w_LatticefitLaw_word (d := d + 9) ?_
  repeat' (first | with_reducible refine And.intro ?_ ?_ | intro _)
  all_goals first | exact hP 1 μ (fun Post2 h2 => M μ (fun k hk => rfl) H trivial Post2 h2) | omega
theorem pr_word_2 {LS d : Nat} {μ : ma_M} (H : Rel μ) {v1 : Int} (c0 : 1 ≤ μ 2 0 10) (c1 : 0 ≤ v1) (c2 : v1 < μ 21 0 7) : Pr LS d mi_LatticefitLaw_word [ma_Rf 2 0, ma_I v1, ma_Rf 111 0] mi_LatticefitModel_word [ma_Rf 69 0, ma_I v1] agI μ := by
  intro Post hP
  obtain ⟨Hc, Hs, Hz, Hu, Hm, Hr, Hf, Hk⟩ := id H
  replace Hs := rl_s_cases Hs
  have q0 : μ 69 0 26 = 1 := by omega
  have q1 : 0 ≤ μ 21 0 7 ∧ μ 21 0 7 ≤ 36 ∧ μ 69 0 25 = μ 21 0 7 := ⟨(Hm c0).1.1, (Hm c0).1.2.1, (Hm c0).1.2.2.1⟩
  have q2 : μ 86 0 v1 = μ 24 0 v1 := by obtain ⟨g1, g2, g3, g4, g5, g6, g7, g8, g9, g10, g11⟩ := (Hm c0).1.2.2.2.2.1 v1 c1 c2; exact g3
  clear Hc Hs Hz Hu Hm Hr Hf Hk
  have M : ∀ (W : ma_M), (∀ k : Nat, k ≠ 111 → W k = μ k) → Rel W → W 111 0 0 = μ 24 0 v1 → ∀ Post2, H2 agI 0 Post2 → ma_Ox LS (d + 12) mi_LatticefitModel_word [ma_Rf 69 0, ma_I v1] W Post2 := by
    intro W hW RW hv Post2 h2
    have : W 69 0 25 = μ 69 0 25 := by rw [hW 69 (by decide)]
    have : W 69 0 26 = μ 69 0 26 := by rw [hW 69 (by decide)]
    have : W 86 0 v1 = μ 86 0 v1 := by rw [hW 86 (by decide)]
    refine w_LatticefitModel_word (d := d + 9) ?_
    repeat' (first | with_reducible refine And.intro ?_ ?_ | intro _)
    all_goals first | (with_reducible refine x3_I h2 RW rfl ?_); exact (fun z => (by omega)) | (with_reducible refine x2_I h2 RW rfl ?_); exact (fun z => (by omega)) | (with_reducible refine x1_I h2 RW rfl ?_); exact (fun z => (by omega)) | omega
  refine w_LatticefitLaw_word (d := d + 9) ?_
  repeat' (first | with_reducible refine And.intro ?_ ?_ | intro _)
  all_goals first | exact hP 0 (ma_up μ 111 0 0 _) (fun Post2 h2 => M _ (fun k hk => ma_up_ck hk) (Rel_out H _) (ma_up_eq.trans (by omega)) Post2 h2) | omega
theorem pr_word {LS d : Nat} {μ : ma_M} (H : Rel μ) {v1 : Int} : Pr LS d mi_LatticefitLaw_word [ma_Rf 2 0, ma_I v1, ma_Rf 111 0] mi_LatticefitModel_word [ma_Rf 69 0, ma_I v1] agI μ := by
  obtain ⟨Hc, Hs, Hz, Hu, Hm, Hr, Hf, Hk⟩ := id H
  rcases (by omega : (μ 2 0 10 < 1) ∨ (1 ≤ μ 2 0 10) ∧ ((v1 < 0 ∨ μ 21 0 7 ≤ v1)) ∨ (1 ≤ μ 2 0 10) ∧ (0 ≤ v1) ∧ (v1 < μ 21 0 7)) with c0 | ⟨c0, c1⟩ | ⟨c0, c1, c2⟩
  · exact pr_word_0 H c0
  · exact pr_word_1 H c0 c1
  · exact pr_word_2 H c0 c1 c2
theorem pr_gateOf_0 {LS d : Nat} {μ : ma_M} (H : Rel μ) {v1 : Int} (c0 : μ 2 0 10 < 1) : Pr LS d mi_LatticefitLaw_gateOf [ma_Rf 2 0, ma_I v1, ma_Rf 111 0] mi_LatticefitModel_gateOf [ma_Rf 69 0, ma_I v1] agI μ := by
  intro Post hP
  obtain ⟨Hc, Hs, Hz, Hu, Hm, Hr, Hf, Hk⟩ := id H
  replace Hs := rl_s_cases Hs
  have q0 : μ 69 0 26 = 0 := by omega
  clear Hc Hs Hz Hu Hm Hr Hf Hk
  have M : ∀ (W : ma_M), (∀ k : Nat, k ≠ 111 → W k = μ k) → Rel W → True → ∀ Post2, H2 agI 2 Post2 → ma_Ox LS (d + 12) mi_LatticefitModel_gateOf [ma_Rf 69 0, ma_I v1] W Post2 := by
    intro W hW RW hv Post2 h2
    have : W 69 0 25 = μ 69 0 25 := by rw [hW 69 (by decide)]
    have : W 69 0 26 = μ 69 0 26 := by rw [hW 69 (by decide)]
    have : W 83 0 v1 = μ 83 0 v1 := by rw [hW 83 (by decide)]
    refine w_LatticefitModel_gateOf (d := d + 9) ?_
    repeat' (first | with_reducible refine And.intro ?_ ?_ | intro _)
    all_goals first | (with_reducible refine x3_I h2 RW rfl ?_); exact (fun z => absurd z (by decide)) | (with_reducible refine x2_I h2 RW rfl ?_); exact (fun z => absurd z (by decide)) | (with_reducible refine x1_I h2 RW rfl ?_); exact (fun z => absurd z (by decide)) | omega
  refine w_LatticefitLaw_gateOf (d := d + 9) ?_
  repeat' (first | with_reducible refine And.intro ?_ ?_ | intro _)
  all_goals first | exact hP 2 μ (fun Post2 h2 => M μ (fun k hk => rfl) H trivial Post2 h2) | omega
theorem pr_gateOf_1 {LS d : Nat} {μ : ma_M} (H : Rel μ) {v1 : Int} (c0 : 1 ≤ μ 2 0 10) (c1 : (v1 < 0 ∨ μ 21 0 7 ≤ v1)) : Pr LS d mi_LatticefitLaw_gateOf [ma_Rf 2 0, ma_I v1, ma_Rf 111 0] mi_LatticefitModel_gateOf [ma_Rf 69 0, ma_I v1] agI μ := by
  intro Post hP
  obtain ⟨Hc, Hs, Hz, Hu, Hm, Hr, Hf, Hk⟩ := id H
  replace Hs := rl_s_cases Hs
  have q0 : μ 69 0 26 = 1 := by omega
  have q1 : 0 ≤ μ 21 0 7 ∧ μ 21 0 7 ≤ 36 ∧ μ 69 0 25 = μ 21 0 7 := ⟨(Hm c0).1.1, (Hm c0).1.2.1, (Hm c0).1.2.2.1⟩
  clear Hc Hs Hz Hu Hm Hr Hf Hk
  have M : ∀ (W : ma_M), (∀ k : Nat, k ≠ 111 → W k = μ k) → Rel W → True → ∀ Post2, H2 agI 1 Post2 → ma_Ox LS (d + 12) mi_LatticefitModel_gateOf [ma_Rf 69 0, ma_I v1] W Post2 := by
    intro W hW RW hv Post2 h2
    have : W 69 0 25 = μ 69 0 25 := by rw [hW 69 (by decide)]
    have : W 69 0 26 = μ 69 0 26 := by rw [hW 69 (by decide)]
    have : W 83 0 v1 = μ 83 0 v1 := by rw [hW 83 (by decide)]
    refine w_LatticefitModel_gateOf (d := d + 9) ?_
    repeat' (first | with_reducible refine And.intro ?_ ?_ | intro _)
    all_goals first | (with_reducible refine x3_I h2 RW rfl ?_); exact (fun z => absurd z (by decide)) | (with_reducible refine x2_I h2 RW rfl ?_); exact (fun z => absurd z (by decide)) | (with_reducible refine x1_I h2 RW rfl ?_); exact (fun z => absurd z (by decide)) | omega
  refine w_LatticefitLaw_gateOf (d := d + 9) ?_
  repeat' (first | with_reducible refine And.intro ?_ ?_ | intro _)
  all_goals first | exact hP 1 μ (fun Post2 h2 => M μ (fun k hk => rfl) H trivial Post2 h2) | omega
theorem pr_gateOf_2 {LS d : Nat} {μ : ma_M} (H : Rel μ) {v1 : Int} (c0 : 1 ≤ μ 2 0 10) (c1 : 0 ≤ v1) (c2 : v1 < μ 21 0 7) (c3 : μ 22 0 v1 < 0) : Pr LS d mi_LatticefitLaw_gateOf [ma_Rf 2 0, ma_I v1, ma_Rf 111 0] mi_LatticefitModel_gateOf [ma_Rf 69 0, ma_I v1] agI μ := by
  intro Post hP
  obtain ⟨Hc, Hs, Hz, Hu, Hm, Hr, Hf, Hk⟩ := id H
  replace Hs := rl_s_cases Hs
  have q0 : μ 69 0 26 = 1 := by omega
  have q1 : 0 ≤ μ 21 0 7 ∧ μ 21 0 7 ≤ 36 ∧ μ 69 0 25 = μ 21 0 7 := ⟨(Hm c0).1.1, (Hm c0).1.2.1, (Hm c0).1.2.2.1⟩
  have q2 : μ 83 0 v1 = μ 22 0 v1 := by obtain ⟨g1, g2, g3, g4, g5, g6, g7, g8, g9, g10, g11⟩ := (Hm c0).1.2.2.2.2.1 v1 c1 c2; exact g1
  clear Hc Hs Hz Hu Hm Hr Hf Hk
  have M : ∀ (W : ma_M), (∀ k : Nat, k ≠ 111 → W k = μ k) → Rel W → True → ∀ Post2, H2 agI 3 Post2 → ma_Ox LS (d + 12) mi_LatticefitModel_gateOf [ma_Rf 69 0, ma_I v1] W Post2 := by
    intro W hW RW hv Post2 h2
    have : W 69 0 25 = μ 69 0 25 := by rw [hW 69 (by decide)]
    have : W 69 0 26 = μ 69 0 26 := by rw [hW 69 (by decide)]
    have : W 83 0 v1 = μ 83 0 v1 := by rw [hW 83 (by decide)]
    refine w_LatticefitModel_gateOf (d := d + 9) ?_
    repeat' (first | with_reducible refine And.intro ?_ ?_ | intro _)
    all_goals first | (with_reducible refine x3_I h2 RW rfl ?_); exact (fun z => absurd z (by decide)) | (with_reducible refine x2_I h2 RW rfl ?_); exact (fun z => absurd z (by decide)) | (with_reducible refine x1_I h2 RW rfl ?_); exact (fun z => absurd z (by decide)) | omega
  refine w_LatticefitLaw_gateOf (d := d + 9) ?_
  repeat' (first | with_reducible refine And.intro ?_ ?_ | intro _)
  all_goals first | exact hP 3 μ (fun Post2 h2 => M μ (fun k hk => rfl) H trivial Post2 h2) | omega
theorem pr_gateOf_3 {LS d : Nat} {μ : ma_M} (H : Rel μ) {v1 : Int} (c0 : 1 ≤ μ 2 0 10) (c1 : 0 ≤ v1) (c2 : v1 < μ 21 0 7) (c3 : 0 ≤ μ 22 0 v1) : Pr LS d mi_LatticefitLaw_gateOf [ma_Rf 2 0, ma_I v1, ma_Rf 111 0] mi_LatticefitModel_gateOf [ma_Rf 69 0, ma_I v1] agI μ := by
  intro Post hP
  obtain ⟨Hc, Hs, Hz, Hu, Hm, Hr, Hf, Hk⟩ := id H
  replace Hs := rl_s_cases Hs
  have q0 : μ 69 0 26 = 1 := by omega
  have q1 : 0 ≤ μ 21 0 7 ∧ μ 21 0 7 ≤ 36 ∧ μ 69 0 25 = μ 21 0 7 := ⟨(Hm c0).1.1, (Hm c0).1.2.1, (Hm c0).1.2.2.1⟩
  have q2 : μ 83 0 v1 = μ 22 0 v1 := by obtain ⟨g1, g2, g3, g4, g5, g6, g7, g8, g9, g10, g11⟩ := (Hm c0).1.2.2.2.2.1 v1 c1 c2; exact g1
  clear Hc Hs Hz Hu Hm Hr Hf Hk
  have M : ∀ (W : ma_M), (∀ k : Nat, k ≠ 111 → W k = μ k) → Rel W → W 111 0 0 = μ 22 0 v1 → ∀ Post2, H2 agI 0 Post2 → ma_Ox LS (d + 12) mi_LatticefitModel_gateOf [ma_Rf 69 0, ma_I v1] W Post2 := by
    intro W hW RW hv Post2 h2
    have : W 69 0 25 = μ 69 0 25 := by rw [hW 69 (by decide)]
    have : W 69 0 26 = μ 69 0 26 := by rw [hW 69 (by decide)]
    have : W 83 0 v1 = μ 83 0 v1 := by rw [hW 83 (by decide)]
    refine w_LatticefitModel_gateOf (d := d + 9) ?_
    repeat' (first | with_reducible refine And.intro ?_ ?_ | intro _)
    all_goals first | (with_reducible refine x3_I h2 RW rfl ?_); exact (fun z => (by omega)) | (with_reducible refine x2_I h2 RW rfl ?_); exact (fun z => (by omega)) | (with_reducible refine x1_I h2 RW rfl ?_); exact (fun z => (by omega)) | omega
  refine w_LatticefitLaw_gateOf (d := d + 9) ?_
  repeat' (first | with_reducible refine And.intro ?_ ?_ | intro _)
  all_goals first | exact hP 0 (ma_up μ 111 0 0 _) (fun Post2 h2 => M _ (fun k hk => ma_up_ck hk) (Rel_out H _) (ma_up_eq.trans (by omega)) Post2 h2) | omega
theorem pr_gateOf {LS d : Nat} {μ : ma_M} (H : Rel μ) {v1 : Int} : Pr LS d mi_LatticefitLaw_gateOf [ma_Rf 2 0, ma_I v1, ma_Rf 111 0] mi_LatticefitModel_gateOf [ma_Rf 69 0, ma_I v1] agI μ := by
  obtain ⟨Hc, Hs, Hz, Hu, Hm, Hr, Hf, Hk⟩ := id H
  rcases (by omega : (μ 2 0 10 < 1) ∨ (1 ≤ μ 2 0 10) ∧ ((v1 < 0 ∨ μ 21 0 7 ≤ v1)) ∨ (1 ≤ μ 2 0 10) ∧ (0 ≤ v1) ∧ (v1 < μ 21 0 7) ∧ (μ 22 0 v1 < 0) ∨ (1 ≤ μ 2 0 10) ∧ (0 ≤ v1) ∧ (v1 < μ 21 0 7) ∧ (0 ≤ μ 22 0 v1)) with c0 | ⟨c0, c1⟩ | ⟨c0, c1, c2, c3⟩ | ⟨c0, c1, c2, c3⟩
  · exact pr_gateOf_0 H c0
  · exact pr_gateOf_1 H c0 c1
  · exact pr_gateOf_2 H c0 c1 c2 c3
  · exact pr_gateOf_3 H c0 c1 c2 c3
theorem pr_registerOf_0 {LS d : Nat} {μ : ma_M} (H : Rel μ) {v1 : Int} (c0 : μ 2 0 10 < 1) : Pr LS d mi_LatticefitLaw_registerOf [ma_Rf 2 0, ma_I v1, ma_Rf 111 0] mi_LatticefitModel_registerOf [ma_Rf 69 0, ma_I v1] agI μ := by
  intro Post hP
  obtain ⟨Hc, Hs, Hz, Hu, Hm, Hr, Hf, Hk⟩ := id H
  replace Hs := rl_s_cases Hs
  have q0 : μ 69 0 26 = 0 := by omega
  clear Hc Hs Hz Hu Hm Hr Hf Hk
  have M : ∀ (W : ma_M), (∀ k : Nat, k ≠ 111 → W k = μ k) → Rel W → True → ∀ Post2, H2 agI 2 Post2 → ma_Ox LS (d + 12) mi_LatticefitModel_registerOf [ma_Rf 69 0, ma_I v1] W Post2 := by
    intro W hW RW hv Post2 h2
    have : W 69 0 25 = μ 69 0 25 := by rw [hW 69 (by decide)]
    have : W 69 0 26 = μ 69 0 26 := by rw [hW 69 (by decide)]
    have : W 84 0 v1 = μ 84 0 v1 := by rw [hW 84 (by decide)]
    refine w_LatticefitModel_registerOf (d := d + 9) ?_
    repeat' (first | with_reducible refine And.intro ?_ ?_ | intro _)
    all_goals first | (with_reducible refine x3_I h2 RW rfl ?_); exact (fun z => absurd z (by decide)) | (with_reducible refine x2_I h2 RW rfl ?_); exact (fun z => absurd z (by decide)) | (with_reducible refine x1_I h2 RW rfl ?_); exact (fun z => absurd z (by decide)) | omega
  refine w_LatticefitLaw_registerOf (d := d + 9) ?_
  repeat' (first | with_reducible refine And.intro ?_ ?_ | intro _)
  all_goals first | exact hP 2 μ (fun Post2 h2 => M μ (fun k hk => rfl) H trivial Post2 h2) | omega
theorem pr_registerOf_1 {LS d : Nat} {μ : ma_M} (H : Rel μ) {v1 : Int} (c0 : 1 ≤ μ 2 0 10) (c1 : (v1 < 0 ∨ μ 21 0 7 ≤ v1)) : Pr LS d mi_LatticefitLaw_registerOf [ma_Rf 2 0, ma_I v1, ma_Rf 111 0] mi_LatticefitModel_registerOf [ma_Rf 69 0, ma_I v1] agI μ := by
  intro Post hP
  obtain ⟨Hc, Hs, Hz, Hu, Hm, Hr, Hf, Hk⟩ := id H
  replace Hs := rl_s_cases Hs
  have q0 : μ 69 0 26 = 1 := by omega
  have q1 : 0 ≤ μ 21 0 7 ∧ μ 21 0 7 ≤ 36 ∧ μ 69 0 25 = μ 21 0 7 := ⟨(Hm c0).1.1, (Hm c0).1.2.1, (Hm c0).1.2.2.1⟩
  clear Hc Hs Hz Hu Hm Hr Hf Hk
  have M : ∀ (W : ma_M), (∀ k : Nat, k ≠ 111 → W k = μ k) → Rel W → True → ∀ Post2, H2 agI 1 Post2 → ma_Ox LS (d + 12) mi_LatticefitModel_registerOf [ma_Rf 69 0, ma_I v1] W Post2 := by
    intro W hW RW hv Post2 h2
    have : W 69 0 25 = μ 69 0 25 := by rw [hW 69 (by decide)]
    have : W 69 0 26 = μ 69 0 26 := by rw [hW 69 (by decide)]
    have : W 84 0 v1 = μ 84 0 v1 := by rw [hW 84 (by decide)]
    refine w_LatticefitModel_registerOf (d := d + 9) ?_
    repeat' (first | with_reducible refine And.intro ?_ ?_ | intro _)
    all_goals first | (with_reducible refine x3_I h2 RW rfl ?_); exact (fun z => absurd z (by decide)) | (with_reducible refine x2_I h2 RW rfl ?_); exact (fun z => absurd z (by decide)) | (with_reducible refine x1_I h2 RW rfl ?_); exact (fun z => absurd z (by decide)) | omega
  refine w_LatticefitLaw_registerOf (d := d + 9) ?_
  repeat' (first | with_reducible refine And.intro ?_ ?_ | intro _)
  all_goals first | exact hP 1 μ (fun Post2 h2 => M μ (fun k hk => rfl) H trivial Post2 h2) | omega
theorem pr_registerOf_2 {LS d : Nat} {μ : ma_M} (H : Rel μ) {v1 : Int} (c0 : 1 ≤ μ 2 0 10) (c1 : 0 ≤ v1) (c2 : v1 < μ 21 0 7) (c3 : μ 23 0 v1 < 0) : Pr LS d mi_LatticefitLaw_registerOf [ma_Rf 2 0, ma_I v1, ma_Rf 111 0] mi_LatticefitModel_registerOf [ma_Rf 69 0, ma_I v1] agI μ := by
  intro Post hP
  obtain ⟨Hc, Hs, Hz, Hu, Hm, Hr, Hf, Hk⟩ := id H
  replace Hs := rl_s_cases Hs
  have q0 : μ 69 0 26 = 1 := by omega
  have q1 : 0 ≤ μ 21 0 7 ∧ μ 21 0 7 ≤ 36 ∧ μ 69 0 25 = μ 21 0 7 := ⟨(Hm c0).1.1, (Hm c0).1.2.1, (Hm c0).1.2.2.1⟩
  have q2 : μ 84 0 v1 = μ 23 0 v1 := by obtain ⟨g1, g2, g3, g4, g5, g6, g7, g8, g9, g10, g11⟩ := (Hm c0).1.2.2.2.2.1 v1 c1 c2; exact g2
  clear Hc Hs Hz Hu Hm Hr Hf Hk
  have M : ∀ (W : ma_M), (∀ k : Nat, k ≠ 111 → W k = μ k) → Rel W → True → ∀ Post2, H2 agI 3 Post2 → ma_Ox LS (d + 12) mi_LatticefitModel_registerOf [ma_Rf 69 0, ma_I v1] W Post2 := by
    intro W hW RW hv Post2 h2
    have : W 69 0 25 = μ 69 0 25 := by rw [hW 69 (by decide)]
    have : W 69 0 26 = μ 69 0 26 := by rw [hW 69 (by decide)]
    have : W 84 0 v1 = μ 84 0 v1 := by rw [hW 84 (by decide)]
    refine w_LatticefitModel_registerOf (d := d + 9) ?_
    repeat' (first | with_reducible refine And.intro ?_ ?_ | intro _)
    all_goals first | (with_reducible refine x3_I h2 RW rfl ?_); exact (fun z => absurd z (by decide)) | (with_reducible refine x2_I h2 RW rfl ?_); exact (fun z => absurd z (by decide)) | (with_reducible refine x1_I h2 RW rfl ?_); exact (fun z => absurd z (by decide)) | omega
  refine w_LatticefitLaw_registerOf (d := d + 9) ?_
  repeat' (first | with_reducible refine And.intro ?_ ?_ | intro _)
  all_goals first | exact hP 3 μ (fun Post2 h2 => M μ (fun k hk => rfl) H trivial Post2 h2) | omega
theorem pr_registerOf_3 {LS d : Nat} {μ : ma_M} (H : Rel μ) {v1 : Int} (c0 : 1 ≤ μ 2 0 10) (c1 : 0 ≤ v1) (c2 : v1 < μ 21 0 7) (c3 : 0 ≤ μ 23 0 v1) : Pr LS d mi_LatticefitLaw_registerOf [ma_Rf 2 0, ma_I v1, ma_Rf 111 0] mi_LatticefitModel_registerOf [ma_Rf 69 0, ma_I v1] agI μ := by
  intro Post hP
  obtain ⟨Hc, Hs, Hz, Hu, Hm, Hr, Hf, Hk⟩ := id H
  replace Hs := rl_s_cases Hs
  have q0 : μ 69 0 26 = 1 := by omega
  have q1 : 0 ≤ μ 21 0 7 ∧ μ 21 0 7 ≤ 36 ∧ μ 69 0 25 = μ 21 0 7 := ⟨(Hm c0).1.1, (Hm c0).1.2.1, (Hm c0).1.2.2.1⟩
  have q2 : μ 84 0 v1 = μ 23 0 v1 := by obtain ⟨g1, g2, g3, g4, g5, g6, g7, g8, g9, g10, g11⟩ := (Hm c0).1.2.2.2.2.1 v1 c1 c2; exact g2
  clear Hc Hs Hz Hu Hm Hr Hf Hk
  have M : ∀ (W : ma_M), (∀ k : Nat, k ≠ 111 → W k = μ k) → Rel W → W 111 0 0 = μ 23 0 v1 → ∀ Post2, H2 agI 0 Post2 → ma_Ox LS (d + 12) mi_LatticefitModel_registerOf [ma_Rf 69 0, ma_I v1] W Post2 := by
    intro W hW RW hv Post2 h2
    have : W 69 0 25 = μ 69 0 25 := by rw [hW 69 (by decide)]
    have : W 69 0 26 = μ 69 0 26 := by rw [hW 69 (by decide)]
    have : W 84 0 v1 = μ 84 0 v1 := by rw [hW 84 (by decide)]
    refine w_LatticefitModel_registerOf (d := d + 9) ?_
    repeat' (first | with_reducible refine And.intro ?_ ?_ | intro _)
    all_goals first | (with_reducible refine x3_I h2 RW rfl ?_); exact (fun z => (by omega)) | (with_reducible refine x2_I h2 RW rfl ?_); exact (fun z => (by omega)) | (with_reducible refine x1_I h2 RW rfl ?_); exact (fun z => (by omega)) | omega
  refine w_LatticefitLaw_registerOf (d := d + 9) ?_
  repeat' (first | with_reducible refine And.intro ?_ ?_ | intro _)
  all_goals first | exact hP 0 (ma_up μ 111 0 0 _) (fun Post2 h2 => M _ (fun k hk => ma_up_ck hk) (Rel_out H _) (ma_up_eq.trans (by omega)) Post2 h2) | omega
theorem pr_registerOf {LS d : Nat} {μ : ma_M} (H : Rel μ) {v1 : Int} : Pr LS d mi_LatticefitLaw_registerOf [ma_Rf 2 0, ma_I v1, ma_Rf 111 0] mi_LatticefitModel_registerOf [ma_Rf 69 0, ma_I v1] agI μ := by
  obtain ⟨Hc, Hs, Hz, Hu, Hm, Hr, Hf, Hk⟩ := id H
  rcases (by omega : (μ 2 0 10 < 1) ∨ (1 ≤ μ 2 0 10) ∧ ((v1 < 0 ∨ μ 21 0 7 ≤ v1)) ∨ (1 ≤ μ 2 0 10) ∧ (0 ≤ v1) ∧ (v1 < μ 21 0 7) ∧ (μ 23 0 v1 < 0) ∨ (1 ≤ μ 2 0 10) ∧ (0 ≤ v1) ∧ (v1 < μ 21 0 7) ∧ (0 ≤ μ 23 0 v1)) with c0 | ⟨c0, c1⟩ | ⟨c0, c1, c2, c3⟩ | ⟨c0, c1, c2, c3⟩
  · exact pr_registerOf_0 H c0
  · exact pr_registerOf_1 H c0 c1
  · exact pr_registerOf_2 H c0 c1 c2 c3
  · exact pr_registerOf_3 H c0 c1 c2 c3
theorem pr_inputOf_0 {LS d : Nat} {μ : ma_M} (H : Rel μ) {v1 v2 : Int} (c0 : μ 2 0 10 < 1) : Pr LS d mi_LatticefitLaw_inputOf [ma_Rf 2 0, ma_I v1, ma_I v2, ma_Rf 111 0] mi_LatticefitModel_inputOf [ma_Rf 69 0, ma_I v1, ma_I v2] agI μ := by
  intro Post hP
  obtain ⟨Hc, Hs, Hz, Hu, Hm, Hr, Hf, Hk⟩ := id H
  replace Hs := rl_s_cases Hs
  have q0 : μ 69 0 26 = 0 := by omega
  clear Hc Hs Hz Hu Hm Hr Hf Hk
  have M : ∀ (W : ma_M), (∀ k : Nat, k ≠ 111 → W k = μ k) → Rel W → True → ∀ Post2, H2 agI 2 Post2 → ma_Ox LS (d + 12) mi_LatticefitModel_inputOf [ma_Rf 69 0, ma_I v1, ma_I v2] W Post2 := by
    intro W hW RW hv Post2 h2
    have : W 69 0 25 = μ 69 0 25 := by rw [hW 69 (by decide)]
    have : W 69 0 26 = μ 69 0 26 := by rw [hW 69 (by decide)]
    have : W 87 0 v1 = μ 87 0 v1 := by rw [hW 87 (by decide)]
    have : W 88 0 (4 * v1 + v2) = μ 88 0 (4 * v1 + v2) := by rw [hW 88 (by decide)]
    refine w_LatticefitModel_inputOf (d := d + 9) ?_
    repeat' (first | with_reducible refine And.intro ?_ ?_ | intro _)
    all_goals first | (with_reducible refine x3_I h2 RW rfl ?_); exact (fun z => absurd z (by decide)) | (with_reducible refine x2_I h2 RW rfl ?_); exact (fun z => absurd z (by decide)) | (with_reducible refine x1_I h2 RW rfl ?_); exact (fun z => absurd z (by decide)) | omega
  refine w_LatticefitLaw_inputOf (d := d + 9) ?_
  repeat' (first | with_reducible refine And.intro ?_ ?_ | intro _)
  all_goals first | exact hP 2 μ (fun Post2 h2 => M μ (fun k hk => rfl) H trivial Post2 h2) | omega
theorem pr_inputOf_1 {LS d : Nat} {μ : ma_M} (H : Rel μ) {v1 v2 : Int} (c0 : 1 ≤ μ 2 0 10) (c1 : (v1 < 0 ∨ μ 21 0 7 ≤ v1)) : Pr LS d mi_LatticefitLaw_inputOf [ma_Rf 2 0, ma_I v1, ma_I v2, ma_Rf 111 0] mi_LatticefitModel_inputOf [ma_Rf 69 0, ma_I v1, ma_I v2] agI μ := by
  intro Post hP
  obtain ⟨Hc, Hs, Hz, Hu, Hm, Hr, Hf, Hk⟩ := id H
  replace Hs := rl_s_cases Hs
  have q0 : μ 69 0 26 = 1 := by omega
  have q1 : 0 ≤ μ 21 0 7 ∧ μ 21 0 7 ≤ 36 ∧ μ 69 0 25 = μ 21 0 7 := ⟨(Hm c0).1.1, (Hm c0).1.2.1, (Hm c0).1.2.2.1⟩
  clear Hc Hs Hz Hu Hm Hr Hf Hk
  have M : ∀ (W : ma_M), (∀ k : Nat, k ≠ 111 → W k = μ k) → Rel W → True → ∀ Post2, H2 agI 1 Post2 → ma_Ox LS (d + 12) mi_LatticefitModel_inputOf [ma_Rf 69 0, ma_I v1, ma_I v2] W Post2 := by
    intro W hW RW hv Post2 h2
    have : W 69 0 25 = μ 69 0 25 := by rw [hW 69 (by decide)]
    have : W 69 0 26 = μ 69 0 26 := by rw [hW 69 (by decide)]
    have : W 87 0 v1 = μ 87 0 v1 := by rw [hW 87 (by decide)]
    have : W 88 0 (4 * v1 + v2) = μ 88 0 (4 * v1 + v2) := by rw [hW 88 (by decide)]
    refine w_LatticefitModel_inputOf (d := d + 9) ?_
    repeat' (first | with_reducible refine And.intro ?_ ?_ | intro _)
    all_goals first | (with_reducible refine x3_I h2 RW rfl ?_); exact (fun z => absurd z (by decide)) | (with_reducible refine x2_I h2 RW rfl ?_); exact (fun z => absurd z (by decide)) | (with_reducible refine x1_I h2 RW rfl ?_); exact (fun z => absurd z (by decide)) | omega
  refine w_LatticefitLaw_inputOf (d := d + 9) ?_
  repeat' (first | with_reducible refine And.intro ?_ ?_ | intro _)
  all_goals first | exact hP 1 μ (fun Post2 h2 => M μ (fun k hk => rfl) H trivial Post2 h2) | omega
theorem pr_inputOf_2 {LS d : Nat} {μ : ma_M} (H : Rel μ) {v1 v2 : Int} (c0 : 1 ≤ μ 2 0 10) (c1 : 0 ≤ v1) (c2 : v1 < μ 21 0 7) (c3 : (v2 < 0 ∨ μ 25 0 v1 ≤ v2)) : Pr LS d mi_LatticefitLaw_inputOf [ma_Rf 2 0, ma_I v1, ma_I v2, ma_Rf 111 0] mi_LatticefitModel_inputOf [ma_Rf 69 0, ma_I v1, ma_I v2] agI μ := by
  intro Post hP
  obtain ⟨Hc, Hs, Hz, Hu, Hm, Hr, Hf, Hk⟩ := id H
  replace Hs := rl_s_cases Hs
  have q0 : μ 69 0 26 = 1 := by omega
  have q1 : 0 ≤ μ 21 0 7 ∧ μ 21 0 7 ≤ 36 ∧ μ 69 0 25 = μ 21 0 7 := ⟨(Hm c0).1.1, (Hm c0).1.2.1, (Hm c0).1.2.2.1⟩
  have q2 : μ 87 0 v1 = μ 25 0 v1 ∧ 0 ≤ μ 25 0 v1 ∧ μ 25 0 v1 ≤ 4 := by obtain ⟨g1, g2, g3, g4, g5, g6, g7, g8, g9, g10, g11⟩ := (Hm c0).1.2.2.2.2.1 v1 c1 c2; exact ⟨g6, g7, g8⟩
  clear Hc Hs Hz Hu Hm Hr Hf Hk
  have M : ∀ (W : ma_M), (∀ k : Nat, k ≠ 111 → W k = μ k) → Rel W → True → ∀ Post2, H2 agI 3 Post2 → ma_Ox LS (d + 12) mi_LatticefitModel_inputOf [ma_Rf 69 0, ma_I v1, ma_I v2] W Post2 := by
    intro W hW RW hv Post2 h2
    have : W 69 0 25 = μ 69 0 25 := by rw [hW 69 (by decide)]
    have : W 69 0 26 = μ 69 0 26 := by rw [hW 69 (by decide)]
    have : W 87 0 v1 = μ 87 0 v1 := by rw [hW 87 (by decide)]
    have : W 88 0 (4 * v1 + v2) = μ 88 0 (4 * v1 + v2) := by rw [hW 88 (by decide)]
    refine w_LatticefitModel_inputOf (d := d + 9) ?_
    repeat' (first | with_reducible refine And.intro ?_ ?_ | intro _)
    all_goals first | (with_reducible refine x3_I h2 RW rfl ?_); exact (fun z => absurd z (by decide)) | (with_reducible refine x2_I h2 RW rfl ?_); exact (fun z => absurd z (by decide)) | (with_reducible refine x1_I h2 RW rfl ?_); exact (fun z => absurd z (by decide)) | omega
  refine w_LatticefitLaw_inputOf (d := d + 9) ?_
  repeat' (first | with_reducible refine And.intro ?_ ?_ | intro _)
  all_goals first | exact hP 3 μ (fun Post2 h2 => M μ (fun k hk => rfl) H trivial Post2 h2) | omega
theorem pr_inputOf_3 {LS d : Nat} {μ : ma_M} (H : Rel μ) {v1 v2 : Int} (c0 : 1 ≤ μ 2 0 10) (c1 : 0 ≤ v1) (c2 : v1 < μ 21 0 7) (c3 : 0 ≤ v2) (c4 : v2 < μ 25 0 v1) : Pr LS d mi_LatticefitLaw_inputOf [ma_Rf 2 0, ma_I v1, ma_I v2, ma_Rf 111 0] mi_LatticefitModel_inputOf [ma_Rf 69 0, ma_I v1, ma_I v2] agI μ := by
  intro Post hP
  obtain ⟨Hc, Hs, Hz, Hu, Hm, Hr, Hf, Hk⟩ := id H
  replace Hs := rl_s_cases Hs
  have q0 : μ 69 0 26 = 1 := by omega
  have q1 : 0 ≤ μ 21 0 7 ∧ μ 21 0 7 ≤ 36 ∧ μ 69 0 25 = μ 21 0 7 := ⟨(Hm c0).1.1, (Hm c0).1.2.1, (Hm c0).1.2.2.1⟩
  have q2 : μ 87 0 v1 = μ 25 0 v1 ∧ 0 ≤ μ 25 0 v1 ∧ μ 25 0 v1 ≤ 4 := by obtain ⟨g1, g2, g3, g4, g5, g6, g7, g8, g9, g10, g11⟩ := (Hm c0).1.2.2.2.2.1 v1 c1 c2; exact ⟨g6, g7, g8⟩
  have q3 : μ 88 0 (4 * v1 + v2) = μ 27 v1 v2 := by obtain ⟨g1, g2, g3, g4, g5, g6, g7, g8, g9, g10, g11⟩ := (Hm c0).1.2.2.2.2.1 v1 c1 c2; exact (g9 v2 c3 c4).1
  clear Hc Hs Hz Hu Hm Hr Hf Hk
  have M : ∀ (W : ma_M), (∀ k : Nat, k ≠ 111 → W k = μ k) → Rel W → W 111 0 0 = μ 27 v1 v2 → ∀ Post2, H2 agI 0 Post2 → ma_Ox LS (d + 12) mi_LatticefitModel_inputOf [ma_Rf 69 0, ma_I v1, ma_I v2] W Post2 := by
    intro W hW RW hv Post2 h2
    have : W 69 0 25 = μ 69 0 25 := by rw [hW 69 (by decide)]
    have : W 69 0 26 = μ 69 0 26 := by rw [hW 69 (by decide)]
    have : W 87 0 v1 = μ 87 0 v1 := by rw [hW 87 (by decide)]
    have : W 88 0 (4 * v1 + v2) = μ 88 0 (4 * v1 + v2) := by rw [hW 88 (by decide)]
    refine w_LatticefitModel_inputOf (d := d + 9) ?_
    repeat' (first | with_reducible refine And.intro ?_ ?_ | intro _)
    all_goals first | (with_reducible refine x3_I h2 RW rfl ?_); exact (fun z => (by omega)) | (with_reducible refine x2_I h2 RW rfl ?_); exact (fun z => (by omega)) | (with_reducible refine x1_I h2 RW rfl ?_); exact (fun z => (by omega)) | omega
  refine w_LatticefitLaw_inputOf (d := d + 9) ?_
  repeat' (first | with_reducible refine And.intro ?_ ?_ | intro _)
  all_goals first | exact hP 0 (ma_up μ 111 0 0 _) (fun Post2 h2 => M _ (fun k hk => ma_up_ck hk) (Rel_out H _) (ma_up_eq.trans (by omega)) Post2 h2) | omega
theorem pr_inputOf {LS d : Nat} {μ : ma_M} (H : Rel μ) {v1 v2 : Int} : Pr LS d mi_LatticefitLaw_inputOf [ma_Rf 2 0, ma_I v1, ma_I v2, ma_Rf 111 0] mi_LatticefitModel_inputOf [ma_Rf 69 0, ma_I v1, ma_I v2] agI μ := by
  obtain ⟨Hc, Hs, Hz, Hu, Hm, Hr, Hf, Hk⟩ := id H
  rcases (by omega : (μ 2 0 10 < 1) ∨ (1 ≤ μ 2 0 10) ∧ ((v1 < 0 ∨ μ 21 0 7 ≤ v1)) ∨ (1 ≤ μ 2 0 10) ∧ (0 ≤ v1) ∧ (v1 < μ 21 0 7) ∧ ((v2 < 0 ∨ μ 25 0 v1 ≤ v2)) ∨ (1 ≤ μ 2 0 10) ∧ (0 ≤ v1) ∧ (v1 < μ 21 0 7) ∧ (0 ≤ v2) ∧ (v2 < μ 25 0 v1)) with c0 | ⟨c0, c1⟩ | ⟨c0, c1, c2, c3⟩ | ⟨c0, c1, c2, c3, c4⟩
  · exact pr_inputOf_0 H c0
  · exact pr_inputOf_1 H c0 c1
  · exact pr_inputOf_2 H c0 c1 c2 c3
  · exact pr_inputOf_3 H c0 c1 c2 c3 c4
theorem pr_cellOf_0 {LS d : Nat} {μ : ma_M} (H : Rel μ) {v1 : Int} (c0 : μ 2 0 10 < 1) : Pr LS d mi_LatticefitLaw_cellOf [ma_Rf 2 0, ma_I v1, ma_Rf 111 0] mi_LatticefitModel_cellOf [ma_Rf 69 0, ma_I v1] agI μ := by
  intro Post hP
  obtain ⟨Hc, Hs, Hz, Hu, Hm, Hr, Hf, Hk⟩ := id H
  replace Hs := rl_s_cases Hs
  have q0 : μ 69 0 26 = 0 := by omega
  clear Hc Hs Hz Hu Hm Hr Hf Hk
  have M : ∀ (W : ma_M), (∀ k : Nat, k ≠ 111 → W k = μ k) → Rel W → True → ∀ Post2, H2 agI 2 Post2 → ma_Ox LS (d + 12) mi_LatticefitModel_cellOf [ma_Rf 69 0, ma_I v1] W Post2 := by
    intro W hW RW hv Post2 h2
    have : W 69 0 25 = μ 69 0 25 := by rw [hW 69 (by decide)]
    have : W 69 0 26 = μ 69 0 26 := by rw [hW 69 (by decide)]
    have : W 85 0 v1 = μ 85 0 v1 := by rw [hW 85 (by decide)]
    refine w_LatticefitModel_cellOf (d := d + 9) ?_
    repeat' (first | with_reducible refine And.intro ?_ ?_ | intro _)
    all_goals first | (with_reducible refine x3_I h2 RW rfl ?_); exact (fun z => absurd z (by decide)) | (with_reducible refine x2_I h2 RW rfl ?_); exact (fun z => absurd z (by decide)) | (with_reducible refine x1_I h2 RW rfl ?_); exact (fun z => absurd z (by decide)) | omega
  refine w_LatticefitLaw_cellOf (d := d + 9) ?_
  repeat' (first | with_reducible refine And.intro ?_ ?_ | intro _)
  all_goals first | exact hP 2 μ (fun Post2 h2 => M μ (fun k hk => rfl) H trivial Post2 h2) | omega
theorem pr_cellOf_1 {LS d : Nat} {μ : ma_M} (H : Rel μ) {v1 : Int} (c0 : 1 ≤ μ 2 0 10) (c1 : (v1 < 0 ∨ μ 21 0 7 ≤ v1)) : Pr LS d mi_LatticefitLaw_cellOf [ma_Rf 2 0, ma_I v1, ma_Rf 111 0] mi_LatticefitModel_cellOf [ma_Rf 69 0, ma_I v1] agI μ := by
  intro Post hP
  obtain ⟨Hc, Hs, Hz, Hu, Hm, Hr, Hf, Hk⟩ := id H
  replace Hs := rl_s_cases Hs
  have q0 : μ 69 0 26 = 1 := by omega
  have q1 : 0 ≤ μ 21 0 7 ∧ μ 21 0 7 ≤ 36 ∧ μ 69 0 25 = μ 21 0 7 := ⟨(Hm c0).1.1, (Hm c0).1.2.1, (Hm c0).1.2.2.1⟩
  clear Hc Hs Hz Hu Hm Hr Hf Hk
  have M : ∀ (W : ma_M), (∀ k : Nat, k ≠ 111 → W k = μ k) → Rel W → True → ∀ Post2, H2 agI 1 Post2 → ma_Ox LS (d + 12) mi_LatticefitModel_cellOf [ma_Rf 69 0, ma_I v1] W Post2 := by
    intro W hW RW hv Post2 h2
    have : W 69 0 25 = μ 69 0 25 := by rw [hW 69 (by decide)]
    have : W 69 0 26 = μ 69 0 26 := by rw [hW 69 (by decide)]
    have : W 85 0 v1 = μ 85 0 v1 := by rw [hW 85 (by decide)]
    refine w_LatticefitModel_cellOf (d := d + 9) ?_
    repeat' (first | with_reducible refine And.intro ?_ ?_ | intro _)
    all_goals first | (with_reducible refine x3_I h2 RW rfl ?_); exact (fun z => absurd z (by decide)) | (with_reducible refine x2_I h2 RW rfl ?_); exact (fun z => absurd z (by decide)) | (with_reducible refine x1_I h2 RW rfl ?_); exact (fun z => absurd z (by decide)) | omega
  refine w_LatticefitLaw_cellOf (d := d + 9) ?_
  repeat' (first | with_reducible refine And.intro ?_ ?_ | intro _)
  all_goals first | exact hP 1 μ (fun Post2 h2 => M μ (fun k hk => rfl) H trivial Post2 h2) | omega
theorem pr_cellOf_2 {LS d : Nat} {μ : ma_M} (H : Rel μ) {v1 : Int} (c0 : 1 ≤ μ 2 0 10) (c1 : 0 ≤ v1) (c2 : v1 < μ 21 0 7) : Pr LS d mi_LatticefitLaw_cellOf [ma_Rf 2 0, ma_I v1, ma_Rf 111 0] mi_LatticefitModel_cellOf [ma_Rf 69 0, ma_I v1] agI μ := by
  intro Post hP
  obtain ⟨Hc, Hs, Hz, Hu, Hm, Hr, Hf, Hk⟩ := id H
  replace Hs := rl_s_cases Hs
  have q0 : μ 69 0 26 = 1 := by omega
  have q1 : 0 ≤ μ 21 0 7 ∧ μ 21 0 7 ≤ 36 ∧ μ 69 0 25 = μ 21 0 7 := ⟨(Hm c0).1.1, (Hm c0).1.2.1, (Hm c0).1.2.2.1⟩
  have q2 : μ 85 0 v1 = μ 32 0 v1 := ((Hm c0).2.1 v1 c1 c2).1
  clear Hc Hs Hz Hu Hm Hr Hf Hk
  have M : ∀ (W : ma_M), (∀ k : Nat, k ≠ 111 → W k = μ k) → Rel W → W 111 0 0 = μ 32 0 v1 → ∀ Post2, H2 agI 0 Post2 → ma_Ox LS (d + 12) mi_LatticefitModel_cellOf [ma_Rf 69 0, ma_I v1] W Post2 := by
    intro W hW RW hv Post2 h2
    have : W 69 0 25 = μ 69 0 25 := by rw [hW 69 (by decide)]
    have : W 69 0 26 = μ 69 0 26 := by rw [hW 69 (by decide)]
    have : W 85 0 v1 = μ 85 0 v1 := by rw [hW 85 (by decide)]
    refine w_LatticefitModel_cellOf (d := d + 9) ?_
    repeat' (first | with_reducible refine And.intro ?_ ?_ | intro _)
    all_goals first | (with_reducible refine x3_I h2 RW rfl ?_); exact (fun z => (by omega)) | (with_reducible refine x2_I h2 RW rfl ?_); exact (fun z => (by omega)) | (with_reducible refine x1_I h2 RW rfl ?_); exact (fun z => (by omega)) | omega
  refine w_LatticefitLaw_cellOf (d := d + 9) ?_
  repeat' (first | with_reducible refine And.intro ?_ ?_ | intro _)
  all_goals first | exact hP 0 (ma_up μ 111 0 0 _) (fun Post2 h2 => M _ (fun k hk => ma_up_ck hk) (Rel_out H _) (ma_up_eq.trans (by omega)) Post2 h2) | omega
theorem pr_cellOf {LS d : Nat} {μ : ma_M} (H : Rel μ) {v1 : Int} : Pr LS d mi_LatticefitLaw_cellOf [ma_Rf 2 0, ma_I v1, ma_Rf 111 0] mi_LatticefitModel_cellOf [ma_Rf 69 0, ma_I v1] agI μ := by
  obtain ⟨Hc, Hs, Hz, Hu, Hm, Hr, Hf, Hk⟩ := id H
  rcases (by omega : (μ 2 0 10 < 1) ∨ (1 ≤ μ 2 0 10) ∧ ((v1 < 0 ∨ μ 21 0 7 ≤ v1)) ∨ (1 ≤ μ 2 0 10) ∧ (0 ≤ v1) ∧ (v1 < μ 21 0 7)) with c0 | ⟨c0, c1⟩ | ⟨c0, c1, c2⟩
  · exact pr_cellOf_0 H c0
  · exact pr_cellOf_1 H c0 c1
  · exact pr_cellOf_2 H c0 c1 c2
theorem pr_netsOn_0 {LS d : Nat} {μ : ma_M} (H : Rel μ) {v1 : Int} (c0 : v1 < 0 ∨ 84 ≤ v1) : Pr LS d mi_LatticefitLaw_netsOn [ma_Rf 2 0, ma_I v1, ma_Rf 111 0] mi_LatticefitModel_netsOn [ma_Rf 69 0, ma_I v1] agI μ := by
  intro Post hP
  obtain ⟨Hc, Hs, Hz, Hu, Hm, Hr, Hf, Hk⟩ := id H
  replace Hs := rl_s_cases Hs
  clear Hc Hs Hz Hu Hm Hr Hf Hk
  have M : ∀ (W : ma_M), (∀ k : Nat, k ≠ 111 → W k = μ k) → Rel W → True → ∀ Post2, H2 agI 1 Post2 → ma_Ox LS (d + 12) mi_LatticefitModel_netsOn [ma_Rf 69 0, ma_I v1] W Post2 := by
    intro W hW RW hv Post2 h2
    have : W 96 0 v1 = μ 96 0 v1 := by rw [hW 96 (by decide)]
    refine w_LatticefitModel_netsOn (d := d + 9) ?_
    repeat' (first | with_reducible refine And.intro ?_ ?_ | intro _)
    all_goals first | (with_reducible refine x3_I h2 RW rfl ?_); exact (fun z => absurd z (by decide)) | (with_reducible refine x2_I h2 RW rfl ?_); exact (fun z => absurd z (by decide)) | (with_reducible refine x1_I h2 RW rfl ?_); exact (fun z => absurd z (by decide)) | omega
  refine w_LatticefitLaw_netsOn (d := d + 9) ?_
  repeat' (first | with_reducible refine And.intro ?_ ?_ | intro _)
  all_goals first | exact hP 1 μ (fun Post2 h2 => M μ (fun k hk => rfl) H trivial Post2 h2) | omega
theorem pr_netsOn_1 {LS d : Nat} {μ : ma_M} (H : Rel μ) {v1 : Int} (c0 : 0 ≤ v1) (c1 : v1 < 84) (c2 : 1 ≤ μ 2 0 10) : Pr LS d mi_LatticefitLaw_netsOn [ma_Rf 2 0, ma_I v1, ma_Rf 111 0] mi_LatticefitModel_netsOn [ma_Rf 69 0, ma_I v1] agI μ := by
  intro Post hP
  obtain ⟨Hc, Hs, Hz, Hu, Hm, Hr, Hf, Hk⟩ := id H
  replace Hs := rl_s_cases Hs
  have q0 : μ 96 0 v1 = μ 44 0 v1 := by rw [(Hu v1 c0 c1).1, if_pos c2]
  clear Hc Hs Hz Hu Hm Hr Hf Hk
  have M : ∀ (W : ma_M), (∀ k : Nat, k ≠ 111 → W k = μ k) → Rel W → W 111 0 0 = μ 96 0 v1 → ∀ Post2, H2 agI 0 Post2 → ma_Ox LS (d + 12) mi_LatticefitModel_netsOn [ma_Rf 69 0, ma_I v1] W Post2 := by
    intro W hW RW hv Post2 h2
    have : W 96 0 v1 = μ 96 0 v1 := by rw [hW 96 (by decide)]
    refine w_LatticefitModel_netsOn (d := d + 9) ?_
    repeat' (first | with_reducible refine And.intro ?_ ?_ | intro _)
    all_goals first | (with_reducible refine x3_I h2 RW rfl ?_); exact (fun z => (by omega)) | (with_reducible refine x2_I h2 RW rfl ?_); exact (fun z => (by omega)) | (with_reducible refine x1_I h2 RW rfl ?_); exact (fun z => (by omega)) | omega
  refine w_LatticefitLaw_netsOn (d := d + 9) ?_
  repeat' (first | with_reducible refine And.intro ?_ ?_ | intro _)
  all_goals first | exact hP 0 (ma_up μ 111 0 0 _) (fun Post2 h2 => M _ (fun k hk => ma_up_ck hk) (Rel_out H _) (ma_up_eq.trans (by omega)) Post2 h2) | omega
theorem pr_netsOn_2 {LS d : Nat} {μ : ma_M} (H : Rel μ) {v1 : Int} (c0 : 0 ≤ v1) (c1 : v1 < 84) (c2 : μ 2 0 10 < 1) : Pr LS d mi_LatticefitLaw_netsOn [ma_Rf 2 0, ma_I v1, ma_Rf 111 0] mi_LatticefitModel_netsOn [ma_Rf 69 0, ma_I v1] agI μ := by
  intro Post hP
  obtain ⟨Hc, Hs, Hz, Hu, Hm, Hr, Hf, Hk⟩ := id H
  replace Hs := rl_s_cases Hs
  have q0 : μ 96 0 v1 = 0 := by rw [(Hu v1 c0 c1).1, if_neg (by omega)]
  clear Hc Hs Hz Hu Hm Hr Hf Hk
  have M : ∀ (W : ma_M), (∀ k : Nat, k ≠ 111 → W k = μ k) → Rel W → W 111 0 0 = μ 96 0 v1 → ∀ Post2, H2 agI 0 Post2 → ma_Ox LS (d + 12) mi_LatticefitModel_netsOn [ma_Rf 69 0, ma_I v1] W Post2 := by
    intro W hW RW hv Post2 h2
    have : W 96 0 v1 = μ 96 0 v1 := by rw [hW 96 (by decide)]
    refine w_LatticefitModel_netsOn (d := d + 9) ?_
    repeat' (first | with_reducible refine And.intro ?_ ?_ | intro _)
    all_goals first | (with_reducible refine x3_I h2 RW rfl ?_); exact (fun z => (by omega)) | (with_reducible refine x2_I h2 RW rfl ?_); exact (fun z => (by omega)) | (with_reducible refine x1_I h2 RW rfl ?_); exact (fun z => (by omega)) | omega
  refine w_LatticefitLaw_netsOn (d := d + 9) ?_
  repeat' (first | with_reducible refine And.intro ?_ ?_ | intro _)
  all_goals first | exact hP 0 (ma_up μ 111 0 0 _) (fun Post2 h2 => M _ (fun k hk => ma_up_ck hk) (Rel_out H _) (ma_up_eq.trans (by omega)) Post2 h2) | omega
theorem pr_netsOn {LS d : Nat} {μ : ma_M} (H : Rel μ) {v1 : Int} : Pr LS d mi_LatticefitLaw_netsOn [ma_Rf 2 0, ma_I v1, ma_Rf 111 0] mi_LatticefitModel_netsOn [ma_Rf 69 0, ma_I v1] agI μ := by
  obtain ⟨Hc, Hs, Hz, Hu, Hm, Hr, Hf, Hk⟩ := id H
  rcases (by omega : (v1 < 0 ∨ 84 ≤ v1) ∨ (0 ≤ v1) ∧ (v1 < 84) ∧ (1 ≤ μ 2 0 10) ∨ (0 ≤ v1) ∧ (v1 < 84) ∧ (μ 2 0 10 < 1)) with c0 | ⟨c0, c1, c2⟩ | ⟨c0, c1, c2⟩
  · exact pr_netsOn_0 H c0
  · exact pr_netsOn_1 H c0 c1 c2
  · exact pr_netsOn_2 H c0 c1 c2
theorem pr_wordAt_0 {LS d : Nat} {μ : ma_M} (H : Rel μ) {v1 v2 : Int} (c0 : v1 < 0 ∨ 14 ≤ v1) : Pr LS d mi_LatticefitLaw_wordAt [ma_Rf 2 0, ma_I v1, ma_I v2, ma_Rf 111 0] mi_LatticefitModel_wordAt [ma_Rf 69 0, ma_I v1, ma_I v2] agI μ := by
  intro Post hP
  obtain ⟨Hc, Hs, Hz, Hu, Hm, Hr, Hf, Hk⟩ := id H
  replace Hs := rl_s_cases Hs
  clear Hc Hs Hz Hu Hm Hr Hf Hk
  have M : ∀ (W : ma_M), (∀ k : Nat, k ≠ 111 → W k = μ k) → Rel W → True → ∀ Post2, H2 agI 1 Post2 → ma_Ox LS (d + 12) mi_LatticefitModel_wordAt [ma_Rf 69 0, ma_I v1, ma_I v2] W Post2 := by
    intro W hW RW hv Post2 h2
    have : W 69 0 28 = μ 69 0 28 := by rw [hW 69 (by decide)]
    have : W 101 0 (36 * v1 + v2) = μ 101 0 (36 * v1 + v2) := by rw [hW 101 (by decide)]
    refine w_LatticefitModel_wordAt (d := d + 9) ?_
    repeat' (first | with_reducible refine And.intro ?_ ?_ | intro _)
    all_goals first | (with_reducible refine x3_I h2 RW rfl ?_); exact (fun z => absurd z (by decide)) | (with_reducible refine x2_I h2 RW rfl ?_); exact (fun z => absurd z (by decide)) | (with_reducible refine x1_I h2 RW rfl ?_); exact (fun z => absurd z (by decide)) | omega
  refine w_LatticefitLaw_wordAt (d := d + 8) ?_
  repeat' (first | with_reducible refine And.intro ?_ ?_ | intro _)
  all_goals first | exact hP 1 μ (fun Post2 h2 => M μ (fun k hk => rfl) H trivial Post2 h2) | omega
theorem pr_wordAt_1 {LS d : Nat} {μ : ma_M} (H : Rel μ) {v1 v2 : Int} (c0 : 0 ≤ v1) (c1 : v1 < 14) (c2 : μ 2 0 10 < 3) : Pr LS d mi_LatticefitLaw_wordAt [ma_Rf 2 0, ma_I v1, ma_I v2, ma_Rf 111 0] mi_LatticefitModel_wordAt [ma_Rf 69 0, ma_I v1, ma_I v2] agI μ := by
  intro Post hP
  obtain ⟨Hc, Hs, Hz, Hu, Hm, Hr, Hf, Hk⟩ := id H
  replace Hs := rl_s_cases Hs
  have q0 : μ 69 0 28 = 0 := by omega
  clear Hc Hs Hz Hu Hm Hr Hf Hk
  have M : ∀ (W : ma_M), (∀ k : Nat, k ≠ 111 → W k = μ k) → Rel W → True → ∀ Post2, H2 agI 2 Post2 → ma_Ox LS (d + 12) mi_LatticefitModel_wordAt [ma_Rf 69 0, ma_I v1, ma_I v2] W Post2 := by
    intro W hW RW hv Post2 h2
    have : W 69 0 28 = μ 69 0 28 := by rw [hW 69 (by decide)]
    have : W 101 0 (36 * v1 + v2) = μ 101 0 (36 * v1 + v2) := by rw [hW 101 (by decide)]
    refine w_LatticefitModel_wordAt (d := d + 9) ?_
    repeat' (first | with_reducible refine And.intro ?_ ?_ | intro _)
    all_goals first | (with_reducible refine x3_I h2 RW rfl ?_); exact (fun z => absurd z (by decide)) | (with_reducible refine x2_I h2 RW rfl ?_); exact (fun z => absurd z (by decide)) | (with_reducible refine x1_I h2 RW rfl ?_); exact (fun z => absurd z (by decide)) | omega
  refine w_LatticefitLaw_wordAt (d := d + 8) ?_
  repeat' (first | with_reducible refine And.intro ?_ ?_ | intro _)
  all_goals first | exact hP 2 μ (fun Post2 h2 => M μ (fun k hk => rfl) H trivial Post2 h2) | omega
theorem pr_wordAt_2 {LS d : Nat} {μ : ma_M} (H : Rel μ) {v1 v2 : Int} (c0 : 0 ≤ v1) (c1 : v1 < 14) (c2 : 3 ≤ μ 2 0 10) (c3 : v2 < 0) : Pr LS d mi_LatticefitLaw_wordAt [ma_Rf 2 0, ma_I v1, ma_I v2, ma_Rf 111 0] mi_LatticefitModel_wordAt [ma_Rf 69 0, ma_I v1, ma_I v2] agI μ := by
  intro Post hP
  obtain ⟨Hc, Hs, Hz, Hu, Hm, Hr, Hf, Hk⟩ := id H
  replace Hs := rl_s_cases Hs
  have q0 : μ 69 0 28 = 1 := by omega
  clear Hc Hs Hz Hu Hm Hr Hf Hk
  have M : ∀ (W : ma_M), (∀ k : Nat, k ≠ 111 → W k = μ k) → Rel W → True → ∀ Post2, H2 agI 3 Post2 → ma_Ox LS (d + 12) mi_LatticefitModel_wordAt [ma_Rf 69 0, ma_I v1, ma_I v2] W Post2 := by
    intro W hW RW hv Post2 h2
    have : W 69 0 28 = μ 69 0 28 := by rw [hW 69 (by decide)]
    have : W 101 0 (36 * v1 + v2) = μ 101 0 (36 * v1 + v2) := by rw [hW 101 (by decide)]
    refine w_LatticefitModel_wordAt (d := d + 9) ?_
    repeat' (first | with_reducible refine And.intro ?_ ?_ | intro _)
    all_goals first | (with_reducible refine x3_I h2 RW rfl ?_); exact (fun z => absurd z (by decide)) | (with_reducible refine x2_I h2 RW rfl ?_); exact (fun z => absurd z (by decide)) | (with_reducible refine x1_I h2 RW rfl ?_); exact (fun z => absurd z (by decide)) | omega
  refine w_LatticefitLaw_wordAt (d := d + 8) ?_
  repeat' (first | with_reducible refine And.intro ?_ ?_ | intro _)
  all_goals first | exact hP 3 μ (fun Post2 h2 => M μ (fun k hk => rfl) H trivial Post2 h2) | omega
theorem pr_wordAt_3 {LS d : Nat} {μ : ma_M} (H : Rel μ) {v1 v2 : Int} (c0 : 0 ≤ v1) (c1 : v1 < 14) (c2 : 3 ≤ μ 2 0 10) (c3 : (v1 < 6)) (c4 : 36 ≤ v2) : Pr LS d mi_LatticefitLaw_wordAt [ma_Rf 2 0, ma_I v1, ma_I v2, ma_Rf 111 0] mi_LatticefitModel_wordAt [ma_Rf 69 0, ma_I v1, ma_I v2] agI μ := by
  intro Post hP
  obtain ⟨Hc, Hs, Hz, Hu, Hm, Hr, Hf, Hk⟩ := id H
  replace Hs := rl_s_cases Hs
  have q0 : μ 69 0 28 = 1 := by omega
  clear Hc Hs Hz Hu Hm Hr Hf Hk
  have M : ∀ (W : ma_M), (∀ k : Nat, k ≠ 111 → W k = μ k) → Rel W → True → ∀ Post2, H2 agI 3 Post2 → ma_Ox LS (d + 12) mi_LatticefitModel_wordAt [ma_Rf 69 0, ma_I v1, ma_I v2] W Post2 := by
    intro W hW RW hv Post2 h2
    have : W 69 0 28 = μ 69 0 28 := by rw [hW 69 (by decide)]
    have : W 101 0 (36 * v1 + v2) = μ 101 0 (36 * v1 + v2) := by rw [hW 101 (by decide)]
    refine w_LatticefitModel_wordAt (d := d + 9) ?_
    repeat' (first | with_reducible refine And.intro ?_ ?_ | intro _)
    all_goals first | (with_reducible refine x3_I h2 RW rfl ?_); exact (fun z => absurd z (by decide)) | (with_reducible refine x2_I h2 RW rfl ?_); exact (fun z => absurd z (by decide)) | (with_reducible refine x1_I h2 RW rfl ?_); exact (fun z => absurd z (by decide)) | omega
  refine w_LatticefitLaw_wordAt (d := d + 8) ?_
  repeat' (first | with_reducible refine And.intro ?_ ?_ | intro _)
  all_goals first | exact hP 3 μ (fun Post2 h2 => M μ (fun k hk => rfl) H trivial Post2 h2) | omega
theorem pr_wordAt_4 {LS d : Nat} {μ : ma_M} (H : Rel μ) {v1 v2 : Int} (c0 : 0 ≤ v1) (c1 : v1 < 14) (c2 : 3 ≤ μ 2 0 10) (c3 : (6 ≤ v1 ∧ v1 < 12)) (c4 : 26 ≤ v2) : Pr LS d mi_LatticefitLaw_wordAt [ma_Rf 2 0, ma_I v1, ma_I v2, ma_Rf 111 0] mi_LatticefitModel_wordAt [ma_Rf 69 0, ma_I v1, ma_I v2] agI μ := by
  intro Post hP
  obtain ⟨Hc, Hs, Hz, Hu, Hm, Hr, Hf, Hk⟩ := id H
  replace Hs := rl_s_cases Hs
  have q0 : μ 69 0 28 = 1 := by omega
  clear Hc Hs Hz Hu Hm Hr Hf Hk
  have M : ∀ (W : ma_M), (∀ k : Nat, k ≠ 111 → W k = μ k) → Rel W → True → ∀ Post2, H2 agI 3 Post2 → ma_Ox LS (d + 12) mi_LatticefitModel_wordAt [ma_Rf 69 0, ma_I v1, ma_I v2] W Post2 := by
    intro W hW RW hv Post2 h2
    have : W 69 0 28 = μ 69 0 28 := by rw [hW 69 (by decide)]
    have : W 101 0 (36 * v1 + v2) = μ 101 0 (36 * v1 + v2) := by rw [hW 101 (by decide)]
    refine w_LatticefitModel_wordAt (d := d + 9) ?_
    repeat' (first | with_reducible refine And.intro ?_ ?_ | intro _)
    all_goals first | (with_reducible refine x3_I h2 RW rfl ?_); exact (fun z => absurd z (by decide)) | (with_reducible refine x2_I h2 RW rfl ?_); exact (fun z => absurd z (by decide)) | (with_reducible refine x1_I h2 RW rfl ?_); exact (fun z => absurd z (by decide)) | omega
  refine w_LatticefitLaw_wordAt (d := d + 8) ?_
  repeat' (first | with_reducible refine And.intro ?_ ?_ | intro _)
  all_goals first | exact hP 3 μ (fun Post2 h2 => M μ (fun k hk => rfl) H trivial Post2 h2) | omega
theorem pr_wordAt_5 {LS d : Nat} {μ : ma_M} (H : Rel μ) {v1 v2 : Int} (c0 : 0 ≤ v1) (c1 : v1 < 14) (c2 : 3 ≤ μ 2 0 10) (c3 : (v1 = 12)) (c4 : 12 ≤ v2) : Pr LS d mi_LatticefitLaw_wordAt [ma_Rf 2 0, ma_I v1, ma_I v2, ma_Rf 111 0] mi_LatticefitModel_wordAt [ma_Rf 69 0, ma_I v1, ma_I v2] agI μ := by
  intro Post hP
  obtain ⟨Hc, Hs, Hz, Hu, Hm, Hr, Hf, Hk⟩ := id H
  replace Hs := rl_s_cases Hs
  have q0 : μ 69 0 28 = 1 := by omega
  clear Hc Hs Hz Hu Hm Hr Hf Hk
  have M : ∀ (W : ma_M), (∀ k : Nat, k ≠ 111 → W k = μ k) → Rel W → True → ∀ Post2, H2 agI 3 Post2 → ma_Ox LS (d + 12) mi_LatticefitModel_wordAt [ma_Rf 69 0, ma_I v1, ma_I v2] W Post2 := by
    intro W hW RW hv Post2 h2
    have : W 69 0 28 = μ 69 0 28 := by rw [hW 69 (by decide)]
    have : W 101 0 (36 * v1 + v2) = μ 101 0 (36 * v1 + v2) := by rw [hW 101 (by decide)]
    refine w_LatticefitModel_wordAt (d := d + 9) ?_
    repeat' (first | with_reducible refine And.intro ?_ ?_ | intro _)
    all_goals first | (with_reducible refine x3_I h2 RW rfl ?_); exact (fun z => absurd z (by decide)) | (with_reducible refine x2_I h2 RW rfl ?_); exact (fun z => absurd z (by decide)) | (with_reducible refine x1_I h2 RW rfl ?_); exact (fun z => absurd z (by decide)) | omega
  refine w_LatticefitLaw_wordAt (d := d + 8) ?_
  repeat' (first | with_reducible refine And.intro ?_ ?_ | intro _)
  all_goals first | exact hP 3 μ (fun Post2 h2 => M μ (fun k hk => rfl) H trivial Post2 h2) | omega
theorem pr_wordAt_6 {LS d : Nat} {μ : ma_M} (H : Rel μ) {v1 v2 : Int} (c0 : 0 ≤ v1) (c1 : v1 < 14) (c2 : 3 ≤ μ 2 0 10) (c3 : (v1 = 13)) (c4 : 6 ≤ v2) : Pr LS d mi_LatticefitLaw_wordAt [ma_Rf 2 0, ma_I v1, ma_I v2, ma_Rf 111 0] mi_LatticefitModel_wordAt [ma_Rf 69 0, ma_I v1, ma_I v2] agI μ := by
  intro Post hP
  obtain ⟨Hc, Hs, Hz, Hu, Hm, Hr, Hf, Hk⟩ := id H
  replace Hs := rl_s_cases Hs
  have q0 : μ 69 0 28 = 1 := by omega
  clear Hc Hs Hz Hu Hm Hr Hf Hk
  have M : ∀ (W : ma_M), (∀ k : Nat, k ≠ 111 → W k = μ k) → Rel W → True → ∀ Post2, H2 agI 3 Post2 → ma_Ox LS (d + 12) mi_LatticefitModel_wordAt [ma_Rf 69 0, ma_I v1, ma_I v2] W Post2 := by
    intro W hW RW hv Post2 h2
    have : W 69 0 28 = μ 69 0 28 := by rw [hW 69 (by decide)]
    have : W 101 0 (36 * v1 + v2) = μ 101 0 (36 * v1 + v2) := by rw [hW 101 (by decide)]
    refine w_LatticefitModel_wordAt (d := d + 9) ?_
    repeat' (first | with_reducible refine And.intro ?_ ?_ | intro _)
    all_goals first | (with_reducible refine x3_I h2 RW rfl ?_); exact (fun z => absurd z (by decide)) | (with_reducible refine x2_I h2 RW rfl ?_); exact (fun z => absurd z (by decide)) | (with_reducible refine x1_I h2 RW rfl ?_); exact (fun z => absurd z (by decide)) | omega
  refine w_LatticefitLaw_wordAt (d := d + 8) ?_
  repeat' (first | with_reducible refine And.intro ?_ ?_ | intro _)
  all_goals first | exact hP 3 μ (fun Post2 h2 => M μ (fun k hk => rfl) H trivial Post2 h2) | omega
theorem pr_wordAt_7 {LS d : Nat} {μ : ma_M} (H : Rel μ) {v1 v2 : Int} (c0 : 0 ≤ v1) (c1 : v1 < 14) (c2 : 3 ≤ μ 2 0 10) (c3 : (v1 < 6)) (c4 : 0 ≤ v2) (c5 : v2 < 36) : Pr LS d mi_LatticefitLaw_wordAt [ma_Rf 2 0, ma_I v1, ma_I v2, ma_Rf 111 0] mi_LatticefitModel_wordAt [ma_Rf 69 0, ma_I v1, ma_I v2] agI μ := by
  intro Post hP
  obtain ⟨Hc, Hs, Hz, Hu, Hm, Hr, Hf, Hk⟩ := id H
  replace Hs := rl_s_cases Hs
  have q0 : μ 69 0 28 = 1 := by omega
  have q1 : μ 101 0 (36 * v1 + v2) = μ 55 v1 v2 := (Hf c2 v1 v2 c0 c1 c4 (by omega)).1
  clear Hc Hs Hz Hu Hm Hr Hf Hk
  have M : ∀ (W : ma_M), (∀ k : Nat, k ≠ 111 → W k = μ k) → Rel W → W 111 0 0 = μ 55 v1 v2 → ∀ Post2, H2 agI 0 Post2 → ma_Ox LS (d + 12) mi_LatticefitModel_wordAt [ma_Rf 69 0, ma_I v1, ma_I v2] W Post2 := by
    intro W hW RW hv Post2 h2
    have : W 69 0 28 = μ 69 0 28 := by rw [hW 69 (by decide)]
    have : W 101 0 (36 * v1 + v2) = μ 101 0 (36 * v1 + v2) := by rw [hW 101 (by decide)]
    refine w_LatticefitModel_wordAt (d := d + 9) ?_
    repeat' (first | with_reducible refine And.intro ?_ ?_ | intro _)
    all_goals first | (with_reducible refine x3_I h2 RW rfl ?_); exact (fun z => (by omega)) | (with_reducible refine x2_I h2 RW rfl ?_); exact (fun z => (by omega)) | (with_reducible refine x1_I h2 RW rfl ?_); exact (fun z => (by omega)) | omega
  refine w_LatticefitLaw_wordAt (d := d + 8) ?_
  repeat' (first | with_reducible refine And.intro ?_ ?_ | intro _)
  all_goals first | exact hP 0 (ma_up μ 111 0 0 _) (fun Post2 h2 => M _ (fun k hk => ma_up_ck hk) (Rel_out H _) (ma_up_eq.trans (by omega)) Post2 h2) | omega
theorem pr_wordAt_8 {LS d : Nat} {μ : ma_M} (H : Rel μ) {v1 v2 : Int} (c0 : 0 ≤ v1) (c1 : v1 < 14) (c2 : 3 ≤ μ 2 0 10) (c3 : (6 ≤ v1 ∧ v1 < 12)) (c4 : 0 ≤ v2) (c5 : v2 < 26) : Pr LS d mi_LatticefitLaw_wordAt [ma_Rf 2 0, ma_I v1, ma_I v2, ma_Rf 111 0] mi_LatticefitModel_wordAt [ma_Rf 69 0, ma_I v1, ma_I v2] agI μ := by
  intro Post hP
  obtain ⟨Hc, Hs, Hz, Hu, Hm, Hr, Hf, Hk⟩ := id H
  replace Hs := rl_s_cases Hs
  have q0 : μ 69 0 28 = 1 := by omega
  have q1 : μ 101 0 (36 * v1 + v2) = μ 55 v1 v2 := (Hf c2 v1 v2 c0 c1 c4 (by omega)).1
  clear Hc Hs Hz Hu Hm Hr Hf Hk
  have M : ∀ (W : ma_M), (∀ k : Nat, k ≠ 111 → W k = μ k) → Rel W → W 111 0 0 = μ 55 v1 v2 → ∀ Post2, H2 agI 0 Post2 → ma_Ox LS (d + 12) mi_LatticefitModel_wordAt [ma_Rf 69 0, ma_I v1, ma_I v2] W Post2 := by
    intro W hW RW hv Post2 h2
    have : W 69 0 28 = μ 69 0 28 := by rw [hW 69 (by decide)]
    have : W 101 0 (36 * v1 + v2) = μ 101 0 (36 * v1 + v2) := by rw [hW 101 (by decide)]
    refine w_LatticefitModel_wordAt (d := d + 9) ?_
    repeat' (first | with_reducible refine And.intro ?_ ?_ | intro _)
    all_goals first | (with_reducible refine x3_I h2 RW rfl ?_); exact (fun z => (by omega)) | (with_reducible refine x2_I h2 RW rfl ?_); exact (fun z => (by omega)) | (with_reducible refine x1_I h2 RW rfl ?_); exact (fun z => (by omega)) | omega
  refine w_LatticefitLaw_wordAt (d := d + 8) ?_
  repeat' (first | with_reducible refine And.intro ?_ ?_ | intro _)
  all_goals first | exact hP 0 (ma_up μ 111 0 0 _) (fun Post2 h2 => M _ (fun k hk => ma_up_ck hk) (Rel_out H _) (ma_up_eq.trans (by omega)) Post2 h2) | omega
theorem pr_wordAt_9 {LS d : Nat} {μ : ma_M} (H : Rel μ) {v1 v2 : Int} (c0 : 0 ≤ v1) (c1 : v1 < 14) (c2 : 3 ≤ μ 2 0 10) (c3 : (v1 = 12)) (c4 : 0 ≤ v2) (c5 : v2 < 12) : Pr LS d mi_LatticefitLaw_wordAt [ma_Rf 2 0, ma_I v1, ma_I v2, ma_Rf 111 0] mi_LatticefitModel_wordAt [ma_Rf 69 0, ma_I v1, ma_I v2] agI μ := by
  intro Post hP
  obtain ⟨Hc, Hs, Hz, Hu, Hm, Hr, Hf, Hk⟩ := id H
  replace Hs := rl_s_cases Hs
  have q0 : μ 69 0 28 = 1 := by omega
  have q1 : μ 101 0 (36 * v1 + v2) = μ 55 v1 v2 := (Hf c2 v1 v2 c0 c1 c4 (by omega)).1
  clear Hc Hs Hz Hu Hm Hr Hf Hk
  have M : ∀ (W : ma_M), (∀ k : Nat, k ≠ 111 → W k = μ k) → Rel W → W 111 0 0 = μ 55 v1 v2 → ∀ Post2, H2 agI 0 Post2 → ma_Ox LS (d + 12) mi_LatticefitModel_wordAt [ma_Rf 69 0, ma_I v1, ma_I v2] W Post2 := by
    intro W hW RW hv Post2 h2
    have : W 69 0 28 = μ 69 0 28 := by rw [hW 69 (by decide)]
    have : W 101 0 (36 * v1 + v2) = μ 101 0 (36 * v1 + v2) := by rw [hW 101 (by decide)]
    refine w_LatticefitModel_wordAt (d := d + 9) ?_
    repeat' (first | with_reducible refine And.intro ?_ ?_ | intro _)
    all_goals first | (with_reducible refine x3_I h2 RW rfl ?_); exact (fun z => (by omega)) | (with_reducible refine x2_I h2 RW rfl ?_); exact (fun z => (by omega)) | (with_reducible refine x1_I h2 RW rfl ?_); exact (fun z => (by omega)) | omega
  refine w_LatticefitLaw_wordAt (d := d + 8) ?_
  repeat' (first | with_reducible refine And.intro ?_ ?_ | intro _)
  all_goals first | exact hP 0 (ma_up μ 111 0 0 _) (fun Post2 h2 => M _ (fun k hk => ma_up_ck hk) (Rel_out H _) (ma_up_eq.trans (by omega)) Post2 h2) | omega
theorem pr_wordAt_10 {LS d : Nat} {μ : ma_M} (H : Rel μ) {v1 v2 : Int} (c0 : 0 ≤ v1) (c1 : v1 < 14) (c2 : 3 ≤ μ 2 0 10) (c3 : (v1 = 13)) (c4 : 0 ≤ v2) (c5 : v2 < 6) : Pr LS d mi_LatticefitLaw_wordAt [ma_Rf 2 0, ma_I v1, ma_I v2, ma_Rf 111 0] mi_LatticefitModel_wordAt [ma_Rf 69 0, ma_I v1, ma_I v2] agI μ := by
  intro Post hP
  obtain ⟨Hc, Hs, Hz, Hu, Hm, Hr, Hf, Hk⟩ := id H
  replace Hs := rl_s_cases Hs
  have q0 : μ 69 0 28 = 1 := by omega
  have q1 : μ 101 0 (36 * v1 + v2) = μ 55 v1 v2 := (Hf c2 v1 v2 c0 c1 c4 (by omega)).1
  clear Hc Hs Hz Hu Hm Hr Hf Hk
  have M : ∀ (W : ma_M), (∀ k : Nat, k ≠ 111 → W k = μ k) → Rel W → W 111 0 0 = μ 55 v1 v2 → ∀ Post2, H2 agI 0 Post2 → ma_Ox LS (d + 12) mi_LatticefitModel_wordAt [ma_Rf 69 0, ma_I v1, ma_I v2] W Post2 := by
    intro W hW RW hv Post2 h2
    have : W 69 0 28 = μ 69 0 28 := by rw [hW 69 (by decide)]
    have : W 101 0 (36 * v1 + v2) = μ 101 0 (36 * v1 + v2) := by rw [hW 101 (by decide)]
    refine w_LatticefitModel_wordAt (d := d + 9) ?_
    repeat' (first | with_reducible refine And.intro ?_ ?_ | intro _)
    all_goals first | (with_reducible refine x3_I h2 RW rfl ?_); exact (fun z => (by omega)) | (with_reducible refine x2_I h2 RW rfl ?_); exact (fun z => (by omega)) | (with_reducible refine x1_I h2 RW rfl ?_); exact (fun z => (by omega)) | omega
  refine w_LatticefitLaw_wordAt (d := d + 8) ?_
  repeat' (first | with_reducible refine And.intro ?_ ?_ | intro _)
  all_goals first | exact hP 0 (ma_up μ 111 0 0 _) (fun Post2 h2 => M _ (fun k hk => ma_up_ck hk) (Rel_out H _) (ma_up_eq.trans (by omega)) Post2 h2) | omega
theorem pr_wordAt {LS d : Nat} {μ : ma_M} (H : Rel μ) {v1 v2 : Int} : Pr LS d mi_LatticefitLaw_wordAt [ma_Rf 2 0, ma_I v1, ma_I v2, ma_Rf 111 0] mi_LatticefitModel_wordAt [ma_Rf 69 0, ma_I v1, ma_I v2] agI μ := by
  obtain ⟨Hc, Hs, Hz, Hu, Hm, Hr, Hf, Hk⟩ := id H
  clear Hc Hs Hz Hu Hm Hr Hf Hk
  all_goals rcases Int.lt_or_le (v1) (0) with _ | _
  all_goals try first | exact pr_wordAt_0 H (by omega) | exact pr_wordAt_1 H (by omega) (by omega) (by omega) | exact pr_wordAt_2 H (by omega) (by omega) (by omega) (by omega) | exact pr_wordAt_3 H (by omega) (by omega) (by omega) (by omega) (by omega) | exact pr_wordAt_4 H (by omega) (by omega) (by omega) (by omega) (by omega) | exact pr_wordAt_5 H (by omega) (by omega) (by omega) (by omega) (by omega) | exact pr_wordAt_6 H (by omega) (by omega) (by omega) (by omega) (by omega) | exact pr_wordAt_7 H (by omega) (by omega) (by omega) (by omega) (by omega) (by omega) | exact pr_wordAt_8 H (by omega) (by omega) (by omega) (by omega) (by omega) (by omega) | exact pr_wordAt_9 H (by omega) (by omega) (by omega) (by omega) (by omega) (by omega) | exact pr_wordAt_10 H (by omega) (by omega) (by omega) (by omega) (by omega) (by omega)
  all_goals rcases Int.lt_or_le (13) (v1) with _ | _
  all_goals try first | exact pr_wordAt_0 H (by omega) | exact pr_wordAt_1 H (by omega) (by omega) (by omega) | exact pr_wordAt_2 H (by omega) (by omega) (by omega) (by omega) | exact pr_wordAt_3 H (by omega) (by omega) (by omega) (by omega) (by omega) | exact pr_wordAt_4 H (by omega) (by omega) (by omega) (by omega) (by omega) | exact pr_wordAt_5 H (by omega) (by omega) (by omega) (by omega) (by omega) | exact pr_wordAt_6 H (by omega) (by omega) (by omega) (by omega) (by omega) | exact pr_wordAt_7 H (by omega) (by omega) (by omega) (by omega) (by omega) (by omega) | exact pr_wordAt_8 H (by omega) (by omega) (by omega) (by omega) (by omega) (by omega) | exact pr_wordAt_9 H (by omega) (by omega) (by omega) (by omega) (by omega) (by omega) | exact pr_wordAt_10 H (by omega) (by omega) (by omega) (by omega) (by omega) (by omega)
  all_goals rcases Int.lt_or_le (μ 2 0 10) (3) with _ | _
  all_goals try first | exact pr_wordAt_0 H (by omega) | exact pr_wordAt_1 H (by omega) (by omega) (by omega) | exact pr_wordAt_2 H (by omega) (by omega) (by omega) (by omega) | exact pr_wordAt_3 H (by omega) (by omega) (by omega) (by omega) (by omega) | exact pr_wordAt_4 H (by omega) (by omega) (by omega) (by omega) (by omega) | exact pr_wordAt_5 H (by omega) (by omega) (by omega) (by omega) (by omega) | exact pr_wordAt_6 H (by omega) (by omega) (by omega) (by omega) (by omega) | exact pr_wordAt_7 H (by omega) (by omega) (by omega) (by omega) (by omega) (by omega) | exact pr_wordAt_8 H (by omega) (by omega) (by omega) (by omega) (by omega) (by omega) | exact pr_wordAt_9 H (by omega) (by omega) (by omega) (by omega) (by omega) (by omega) | exact pr_wordAt_10 H (by omega) (by omega) (by omega) (by omega) (by omega) (by omega)
  all_goals rcases Int.lt_or_le (v2) (0) with _ | _
  all_goals try first | exact pr_wordAt_0 H (by omega) | exact pr_wordAt_1 H (by omega) (by omega) (by omega) | exact pr_wordAt_2 H (by omega) (by omega) (by omega) (by omega) | exact pr_wordAt_3 H (by omega) (by omega) (by omega) (by omega) (by omega) | exact pr_wordAt_4 H (by omega) (by omega) (by omega) (by omega) (by omega) | exact pr_wordAt_5 H (by omega) (by omega) (by omega) (by omega) (by omega) | exact pr_wordAt_6 H (by omega) (by omega) (by omega) (by omega) (by omega) | exact pr_wordAt_7 H (by omega) (by omega) (by omega) (by omega) (by omega) (by omega) | exact pr_wordAt_8 H (by omega) (by omega) (by omega) (by omega) (by omega) (by omega) | exact pr_wordAt_9 H (by omega) (by omega) (by omega) (by omega) (by omega) (by omega) | exact pr_wordAt_10 H (by omega) (by omega) (by omega) (by omega) (by omega) (by omega)
  all_goals rcases Int.lt_or_le (v1) (6) with _ | _
  all_goals try first | exact pr_wordAt_0 H (by omega) | exact pr_wordAt_1 H (by omega) (by omega) (by omega) | exact pr_wordAt_2 H (by omega) (by omega) (by omega) (by omega) | exact pr_wordAt_3 H (by omega) (by omega) (by omega) (by omega) (by omega) | exact pr_wordAt_4 H (by omega) (by omega) (by omega) (by omega) (by omega) | exact pr_wordAt_5 H (by omega) (by omega) (by omega) (by omega) (by omega) | exact pr_wordAt_6 H (by omega) (by omega) (by omega) (by omega) (by omega) | exact pr_wordAt_7 H (by omega) (by omega) (by omega) (by omega) (by omega) (by omega) | exact pr_wordAt_8 H (by omega) (by omega) (by omega) (by omega) (by omega) (by omega) | exact pr_wordAt_9 H (by omega) (by omega) (by omega) (by omega) (by omega) (by omega) | exact pr_wordAt_10 H (by omega) (by omega) (by omega) (by omega) (by omega) (by omega)
  all_goals rcases Int.lt_or_le (v2) (36) with _ | _
  all_goals try first | exact pr_wordAt_0 H (by omega) | exact pr_wordAt_1 H (by omega) (by omega) (by omega) | exact pr_wordAt_2 H (by omega) (by omega) (by omega) (by omega) | exact pr_wordAt_3 H (by omega) (by omega) (by omega) (by omega) (by omega) | exact pr_wordAt_4 H (by omega) (by omega) (by omega) (by omega) (by omega) | exact pr_wordAt_5 H (by omega) (by omega) (by omega) (by omega) (by omega) | exact pr_wordAt_6 H (by omega) (by omega) (by omega) (by omega) (by omega) | exact pr_wordAt_7 H (by omega) (by omega) (by omega) (by omega) (by omega) (by omega) | exact pr_wordAt_8 H (by omega) (by omega) (by omega) (by omega) (by omega) (by omega) | exact pr_wordAt_9 H (by omega) (by omega) (by omega) (by omega) (by omega) (by omega) | exact pr_wordAt_10 H (by omega) (by omega) (by omega) (by omega) (by omega) (by omega)
  all_goals rcases Int.lt_or_le (v1) (12) with _ | _
  all_goals try first | exact pr_wordAt_0 H (by omega) | exact pr_wordAt_1 H (by omega) (by omega) (by omega) | exact pr_wordAt_2 H (by omega) (by omega) (by omega) (by omega) | exact pr_wordAt_3 H (by omega) (by omega) (by omega) (by omega) (by omega) | exact pr_wordAt_4 H (by omega) (by omega) (by omega) (by omega) (by omega) | exact pr_wordAt_5 H (by omega) (by omega) (by omega) (by omega) (by omega) | exact pr_wordAt_6 H (by omega) (by omega) (by omega) (by omega) (by omega) | exact pr_wordAt_7 H (by omega) (by omega) (by omega) (by omega) (by omega) (by omega) | exact pr_wordAt_8 H (by omega) (by omega) (by omega) (by omega) (by omega) (by omega) | exact pr_wordAt_9 H (by omega) (by omega) (by omega) (by omega) (by omega) (by omega) | exact pr_wordAt_10 H (by omega) (by omega) (by omega) (by omega) (by omega) (by omega)
  all_goals rcases Int.lt_or_le (v2) (26) with _ | _
  all_goals try first | exact pr_wordAt_0 H (by omega) | exact pr_wordAt_1 H (by omega) (by omega) (by omega) | exact pr_wordAt_2 H (by omega) (by omega) (by omega) (by omega) | exact pr_wordAt_3 H (by omega) (by omega) (by omega) (by omega) (by omega) | exact pr_wordAt_4 H (by omega) (by omega) (by omega) (by omega) (by omega) | exact pr_wordAt_5 H (by omega) (by omega) (by omega) (by omega) (by omega) | exact pr_wordAt_6 H (by omega) (by omega) (by omega) (by omega) (by omega) | exact pr_wordAt_7 H (by omega) (by omega) (by omega) (by omega) (by omega) (by omega) | exact pr_wordAt_8 H (by omega) (by omega) (by omega) (by omega) (by omega) (by omega) | exact pr_wordAt_9 H (by omega) (by omega) (by omega) (by omega) (by omega) (by omega) | exact pr_wordAt_10 H (by omega) (by omega) (by omega) (by omega) (by omega) (by omega)
  all_goals rcases Int.lt_or_le (v1) (13) with _ | _
  all_goals try first | exact pr_wordAt_0 H (by omega) | exact pr_wordAt_1 H (by omega) (by omega) (by omega) | exact pr_wordAt_2 H (by omega) (by omega) (by omega) (by omega) | exact pr_wordAt_3 H (by omega) (by omega) (by omega) (by omega) (by omega) | exact pr_wordAt_4 H (by omega) (by omega) (by omega) (by omega) (by omega) | exact pr_wordAt_5 H (by omega) (by omega) (by omega) (by omega) (by omega) | exact pr_wordAt_6 H (by omega) (by omega) (by omega) (by omega) (by omega) | exact pr_wordAt_7 H (by omega) (by omega) (by omega) (by omega) (by omega) (by omega) | exact pr_wordAt_8 H (by omega) (by omega) (by omega) (by omega) (by omega) (by omega) | exact pr_wordAt_9 H (by omega) (by omega) (by omega) (by omega) (by omega) (by omega) | exact pr_wordAt_10 H (by omega) (by omega) (by omega) (by omega) (by omega) (by omega)
  all_goals rcases Int.lt_or_le (v2) (12) with _ | _
  all_goals try first | exact pr_wordAt_0 H (by omega) | exact pr_wordAt_1 H (by omega) (by omega) (by omega) | exact pr_wordAt_2 H (by omega) (by omega) (by omega) (by omega) | exact pr_wordAt_3 H (by omega) (by omega) (by omega) (by omega) (by omega) | exact pr_wordAt_4 H (by omega) (by omega) (by omega) (by omega) (by omega) | exact pr_wordAt_5 H (by omega) (by omega) (by omega) (by omega) (by omega) | exact pr_wordAt_6 H (by omega) (by omega) (by omega) (by omega) (by omega) | exact pr_wordAt_7 H (by omega) (by omega) (by omega) (by omega) (by omega) (by omega) | exact pr_wordAt_8 H (by omega) (by omega) (by omega) (by omega) (by omega) (by omega) | exact pr_wordAt_9 H (by omega) (by omega) (by omega) (by omega) (by omega) (by omega) | exact pr_wordAt_10 H (by omega) (by omega) (by omega) (by omega) (by omega) (by omega)
  all_goals rcases Int.lt_or_le (v2) (6) with _ | _
  all_goals try first | exact pr_wordAt_0 H (by omega) | exact pr_wordAt_1 H (by omega) (by omega) (by omega) | exact pr_wordAt_2 H (by omega) (by omega) (by omega) (by omega) | exact pr_wordAt_3 H (by omega) (by omega) (by omega) (by omega) (by omega) | exact pr_wordAt_4 H (by omega) (by omega) (by omega) (by omega) (by omega) | exact pr_wordAt_5 H (by omega) (by omega) (by omega) (by omega) (by omega) | exact pr_wordAt_6 H (by omega) (by omega) (by omega) (by omega) (by omega) | exact pr_wordAt_7 H (by omega) (by omega) (by omega) (by omega) (by omega) (by omega) | exact pr_wordAt_8 H (by omega) (by omega) (by omega) (by omega) (by omega) (by omega) | exact pr_wordAt_9 H (by omega) (by omega) (by omega) (by omega) (by omega) (by omega) | exact pr_wordAt_10 H (by omega) (by omega) (by omega) (by omega) (by omega) (by omega)
theorem pr_chipRegister_0 {LS d : Nat} {μ : ma_M} (H : Rel μ) {v1 : Int} (c0 : v1 < 0 ∨ 36 ≤ v1) : Pr LS d mi_LatticefitLaw_chipRegister [ma_Rf 2 0, ma_I v1, ma_Rf 111 0] mi_LatticefitModel_chipRegister [ma_Rf 69 0, ma_I v1] agZ μ := by
  intro Post hP
  obtain ⟨Hc, Hs, Hz, Hu, Hm, Hr, Hf, Hk⟩ := id H
  replace Hs := rl_s_cases Hs
  clear Hc Hs Hz Hu Hm Hr Hf Hk
  have M : ∀ (W : ma_M), (∀ k : Nat, k ≠ 111 → W k = μ k) → Rel W → True → ∀ Post2, H2 agZ 1 Post2 → ma_Ox LS (d + 12) mi_LatticefitModel_chipRegister [ma_Rf 69 0, ma_I v1] W Post2 := by
    intro W hW RW hv Post2 h2
    have : W 69 0 29 = μ 69 0 29 := by rw [hW 69 (by decide)]
    have : W 104 0 v1 = μ 104 0 v1 := by rw [hW 104 (by decide)]
    refine w_LatticefitModel_chipRegister (d := d + 8) ?_
    repeat' (first | with_reducible refine And.intro ?_ ?_ | intro _)
    all_goals first | (with_reducible refine x3_Z h2 RW rfl ?_); exact (fun z => absurd z (by decide)) | (with_reducible refine x2_Z h2 RW rfl ?_); exact (fun z => absurd z (by decide)) | (with_reducible refine x1_Z h2 RW rfl ?_); exact (fun z => absurd z (by decide)) | omega
  refine w_LatticefitLaw_chipRegister (d := d + 9) ?_
  repeat' (first | with_reducible refine And.intro ?_ ?_ | intro _)
  all_goals first | exact hP 1 μ (fun Post2 h2 => M μ (fun k hk => rfl) H trivial Post2 h2) | omega
theorem pr_chipRegister_1 {LS d : Nat} {μ : ma_M} (H : Rel μ) {v1 : Int} (c0 : 0 ≤ v1) (c1 : v1 < 36) (c2 : μ 2 0 10 < 4) : Pr LS d mi_LatticefitLaw_chipRegister [ma_Rf 2 0, ma_I v1, ma_Rf 111 0] mi_LatticefitModel_chipRegister [ma_Rf 69 0, ma_I v1] agZ μ := by
  intro Post hP
  obtain ⟨Hc, Hs, Hz, Hu, Hm, Hr, Hf, Hk⟩ := id H
  replace Hs := rl_s_cases Hs
  have q0 : μ 69 0 29 = 0 := by omega
  clear Hc Hs Hz Hu Hm Hr Hf Hk
  have M : ∀ (W : ma_M), (∀ k : Nat, k ≠ 111 → W k = μ k) → Rel W → True → ∀ Post2, H2 agZ 2 Post2 → ma_Ox LS (d + 12) mi_LatticefitModel_chipRegister [ma_Rf 69 0, ma_I v1] W Post2 := by
    intro W hW RW hv Post2 h2
    have : W 69 0 29 = μ 69 0 29 := by rw [hW 69 (by decide)]
    have : W 104 0 v1 = μ 104 0 v1 := by rw [hW 104 (by decide)]
    refine w_LatticefitModel_chipRegister (d := d + 8) ?_
    repeat' (first | with_reducible refine And.intro ?_ ?_ | intro _)
    all_goals first | (with_reducible refine x3_Z h2 RW rfl ?_); exact (fun z => absurd z (by decide)) | (with_reducible refine x2_Z h2 RW rfl ?_); exact (fun z => absurd z (by decide)) | (with_reducible refine x1_Z h2 RW rfl ?_); exact (fun z => absurd z (by decide)) | omega
  refine w_LatticefitLaw_chipRegister (d := d + 9) ?_
  repeat' (first | with_reducible refine And.intro ?_ ?_ | intro _)
  all_goals first | exact hP 2 μ (fun Post2 h2 => M μ (fun k hk => rfl) H trivial Post2 h2) | omega
theorem pr_chipRegister_2 {LS d : Nat} {μ : ma_M} (H : Rel μ) {v1 : Int} (c0 : 0 ≤ v1) (c1 : v1 < 36) (c2 : 4 ≤ μ 2 0 10) : Pr LS d mi_LatticefitLaw_chipRegister [ma_Rf 2 0, ma_I v1, ma_Rf 111 0] mi_LatticefitModel_chipRegister [ma_Rf 69 0, ma_I v1] agZ μ := by
  intro Post hP
  obtain ⟨Hc, Hs, Hz, Hu, Hm, Hr, Hf, Hk⟩ := id H
  replace Hs := rl_s_cases Hs
  have q0 : μ 69 0 29 = 1 := by omega
  have q1 : μ 104 0 v1 = μ 62 0 v1 ∧ (μ 62 0 v1 = 0 ∨ μ 62 0 v1 = 1) := (Hk c2).2.2.1 v1 c0 c1
  clear Hc Hs Hz Hu Hm Hr Hf Hk
  have M : ∀ (W : ma_M), (∀ k : Nat, k ≠ 111 → W k = μ k) → Rel W → W 111 0 0 = μ 62 0 v1 → ∀ Post2, H2 agZ 0 Post2 → ma_Ox LS (d + 12) mi_LatticefitModel_chipRegister [ma_Rf 69 0, ma_I v1] W Post2 := by
    intro W hW RW hv Post2 h2
    have : W 69 0 29 = μ 69 0 29 := by rw [hW 69 (by decide)]
    have : W 104 0 v1 = μ 104 0 v1 := by rw [hW 104 (by decide)]
    refine w_LatticefitModel_chipRegister (d := d + 8) ?_
    repeat' (first | with_reducible refine And.intro ?_ ?_ | intro _)
    all_goals first | (with_reducible refine x3_Z h2 RW rfl ?_); exact (fun z => (by omega)) | (with_reducible refine x2_Z h2 RW rfl ?_); exact (fun z => (by omega)) | (with_reducible refine x1_Z h2 RW rfl ?_); exact (fun z => (by omega)) | omega
  refine w_LatticefitLaw_chipRegister (d := d + 9) ?_
  repeat' (first | with_reducible refine And.intro ?_ ?_ | intro _)
  all_goals first | exact hP 0 (ma_up μ 111 0 0 _) (fun Post2 h2 => M _ (fun k hk => ma_up_ck hk) (Rel_out H _) (ma_up_eq.trans (by omega)) Post2 h2) | omega
theorem pr_chipRegister {LS d : Nat} {μ : ma_M} (H : Rel μ) {v1 : Int} : Pr LS d mi_LatticefitLaw_chipRegister [ma_Rf 2 0, ma_I v1, ma_Rf 111 0] mi_LatticefitModel_chipRegister [ma_Rf 69 0, ma_I v1] agZ μ := by
  obtain ⟨Hc, Hs, Hz, Hu, Hm, Hr, Hf, Hk⟩ := id H
  rcases (by omega : (v1 < 0 ∨ 36 ≤ v1) ∨ (0 ≤ v1) ∧ (v1 < 36) ∧ (μ 2 0 10 < 4) ∨ (0 ≤ v1) ∧ (v1 < 36) ∧ (4 ≤ μ 2 0 10)) with c0 | ⟨c0, c1, c2⟩ | ⟨c0, c1, c2⟩
  · exact pr_chipRegister_0 H c0
  · exact pr_chipRegister_1 H c0 c1 c2
  · exact pr_chipRegister_2 H c0 c1 c2
