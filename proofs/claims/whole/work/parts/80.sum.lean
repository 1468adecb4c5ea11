/-! sums of frames; check, isBad, scrub -/
def fl_len (f : Int) : Int := if f < 6 then 36 else if f < 12 then 26 else if f = 12 then 12 else 6
theorem fl_len_rng (f : Int) : 6 ≤ fl_len f ∧ fl_len f ≤ 36 := by unfold fl_len; repeat' split
                                                                  all_goals omega
def ck_sum (w : Int → Int) : Nat → Int
  | 0 => 1
  | i + 1 => (31 * ck_sum w i + w i) % 65521
theorem ck_sum_rng (w : Int → Int) : ∀ i, 0 ≤ ck_sum w i ∧ ck_sum w i < 65521
  | 0 => by show (0 : Int) ≤ 1 ∧ (1 : Int) < 65521; decide
  | i + 1 => by show 0 ≤ (31 * ck_sum w i + w i) % 65521 ∧ (31 * ck_sum w i + w i) % 65521 < 65521; omega
theorem ck_sum_cg {w v : Int → Int} : ∀ n : Nat, (∀ i : Int, 0 ≤ i → i < n → w i = v i) → ck_sum w n = ck_sum v n
  | 0, _ => rfl
  | n + 1, h => by
    show (31 * ck_sum w n + w n) % 65521 = (31 * ck_sum v n + v n) % 65521
    rw [ck_sum_cg n (fun i a b => h i a (by omega)), h n (by omega) (by omega)]
theorem sp_sum53 {LS d : Nat} {Post : ma_R → ma_M → Prop} {μ : ma_M} {f : Int} (f0 : 0 ≤ f) (f1 : f < 14) (hw : ∀ i : Int, 0 ≤ i → i < 36 → 0 ≤ μ 55 f i ∧ μ 55 f i ≤ 65535) (h : Post (.inl (some (ma_I (ck_sum (μ 55 f) (fl_len f).toNat)))) μ) :
    ma_Ox LS (d + 2) mi_Frames_sumOf [ma_Rf 53 0, ma_I f] μ Post := by
  have fr := fl_len_rng f
  refine gi_Frames_sumOf53 (fun R hR => ?_)
  have lp : ∀ (k i : Nat), (i : Int) + k = fl_len f → R 10 [ma_Rf 53 0, ma_I f, ma_I (ck_sum (μ 55 f) i), ma_I (fl_len f), ma_I i] [] 0 μ := by
    intro k
    induction k with
    | zero =>
      intro i hi
      refine s_Frames_sumOf53_10 hR ⟨fun _ => ?_, fun q => by omega⟩
      rw [show (fl_len f).toNat = i from by omega] at h; exact h
    | succ k ih =>
      intro i hi
      have r := ck_sum_rng (μ 55 f) i
      have w := hw i (by omega) (by omega)
      refine s_Frames_sumOf53_10 hR ⟨fun q => by omega, fun _ => ⟨by omega, by omega, by omega, by omega, by omega, ?_⟩⟩
      rw [tm_nn (by omega), show ((i : Nat) : Int) + 1 = ((i + 1 : Nat) : Int) from by omega]
      exact ih (i + 1) (by omega)
  have go := lp (fl_len f).toNat 0 (by omega)
  refine s_Frames_sumOf53_0 hR ⟨fun a => ⟨fun b => ⟨fun c => ?_, fun c => ?_⟩, fun b => ?_⟩, fun a => ?_⟩
  · rw [show fl_len f = 26 from by unfold fl_len; rw [if_neg (by omega), if_pos (by omega)]] at go; exact go
  · rw [show fl_len f = 12 from by unfold fl_len; rw [if_neg (by omega), if_neg (by omega), if_pos c]] at go; exact go
  · rw [show fl_len f = 6 from by unfold fl_len; rw [if_neg (by omega), if_neg (by omega), if_neg (by omega)]] at go; exact go
  · rw [show fl_len f = 36 from by unfold fl_len; rw [if_pos a]] at go; exact go
theorem sp_sum58 {LS d : Nat} {Post : ma_R → ma_M → Prop} {μ : ma_M} {f : Int} (f0 : 0 ≤ f) (f1 : f < 14) (hw : ∀ i : Int, 0 ≤ i → i < 36 → 0 ≤ μ 60 f i ∧ μ 60 f i ≤ 65535) (h : Post (.inl (some (ma_I (ck_sum (μ 60 f) (fl_len f).toNat)))) μ) :
    ma_Ox LS (d + 2) mi_Frames_sumOf [ma_Rf 58 0, ma_I f] μ Post := by
  have fr := fl_len_rng f
  refine gi_Frames_sumOf58 (fun R hR => ?_)
  have lp : ∀ (k i : Nat), (i : Int) + k = fl_len f → R 10 [ma_Rf 58 0, ma_I f, ma_I (ck_sum (μ 60 f) i), ma_I (fl_len f), ma_I i] [] 0 μ := by
    intro k
    induction k with
    | zero =>
      intro i hi
      refine s_Frames_sumOf58_10 hR ⟨fun _ => ?_, fun q => by omega⟩
      rw [show (fl_len f).toNat = i from by omega] at h; exact h
    | succ k ih =>
      intro i hi
      have r := ck_sum_rng (μ 60 f) i
      have w := hw i (by omega) (by omega)
      refine s_Frames_sumOf58_10 hR ⟨fun q => by omega, fun _ => ⟨by omega, by omega, by omega, by omega, by omega, ?_⟩⟩
      rw [tm_nn (by omega), show ((i : Nat) : Int) + 1 = ((i + 1 : Nat) : Int) from by omega]
      exact ih (i + 1) (by omega)
  have go := lp (fl_len f).toNat 0 (by omega)
  refine s_Frames_sumOf58_0 hR ⟨fun a => ⟨fun b => ⟨fun c => ?_, fun c => ?_⟩, fun b => ?_⟩, fun a => ?_⟩
  · rw [show fl_len f = 26 from by unfold fl_len; rw [if_neg (by omega), if_pos (by omega)]] at go; exact go
  · rw [show fl_len f = 12 from by unfold fl_len; rw [if_neg (by omega), if_neg (by omega), if_pos c]] at go; exact go
  · rw [show fl_len f = 6 from by unfold fl_len; rw [if_neg (by omega), if_neg (by omega), if_neg (by omega)]] at go; exact go
  · rw [show fl_len f = 36 from by unfold fl_len; rw [if_pos a]] at go; exact go
theorem sp_sum101 {LS d : Nat} {Post : ma_R → ma_M → Prop} {μ : ma_M} {f : Int} (f0 : 0 ≤ f) (f1 : f < 14) (hw : ∀ i : Int, 0 ≤ i → i < 36 → 0 ≤ μ 101 0 (36 * f + i) ∧ μ 101 0 (36 * f + i) ≤ 65535) (h : Post (.inl (some (ma_I (ck_sum (fun i => μ 101 0 (36 * f + i)) (fl_len f).toNat)))) μ) :
    ma_Ox LS (d + 2) mi_LatticefitModel_checkOf [ma_Rf 101 0, ma_I f] μ Post := by
  have fr := fl_len_rng f
  refine gi_LatticefitModel_checkOf101 (fun R hR => s_LatticefitModel_checkOf101_0 hR ?_)
  have lp : ∀ (k i : Nat) (u3 : ma_V), (i : Int) + k = fl_len f → R 5 [ma_Rf 101 0, ma_I f, ma_L (ck_sum (fun i => μ 101 0 (36 * f + i)) i), u3, ma_I i] [] 0 μ := by
    intro k
    induction k with
    | zero =>
      intro i u3 hi
      have r := ck_sum_rng (fun i => μ 101 0 (36 * f + i)) i
      have fin : Post (.inl (some (ma_I (ma_wI (ck_sum (fun i => μ 101 0 (36 * f + i)) i))))) μ := by
        rw [lg_wI_id (by omega)]
        rw [show (fl_len f).toNat = i from by omega] at h; exact h
      unfold fl_len at hi
      refine s_LatticefitModel_checkOf101_5 hR ⟨fun a => ⟨fun b => ⟨fun c => ⟨fun _ => fin, fun q => ?_⟩, fun c => ⟨fun _ => fin, fun q => ?_⟩⟩, fun b => ⟨fun _ => fin, fun q => ?_⟩⟩, fun a => ⟨fun _ => fin, fun q => ?_⟩⟩
      all_goals (exfalso; revert hi; repeat' split; all_goals omega)
    | succ k ih =>
      intro i u3 hi
      have r := ck_sum_rng (fun i => μ 101 0 (36 * f + i)) i
      have w := hw i (by omega) (by omega)
      have nx : R 5 [ma_Rf 101 0, ma_I f, ma_L (Int.tmod (ma_wL ((ma_wL (31 * ck_sum (fun i => μ 101 0 (36 * f + i)) i)) + (μ 101 0 ((36 * f) + i)))) 65521), ma_U, ma_I ((i : Int) + 1)] [] 0 μ := by
        rw [lg_wL_id (n := 31 * ck_sum (fun i => μ 101 0 (36 * f + i)) i) (by omega), lg_wL_id (by omega), tm_nn (by omega), show ((i : Nat) : Int) + 1 = ((i + 1 : Nat) : Int) from by omega]
        exact ih (i + 1) _ (by omega)
      unfold fl_len at hi
      refine s_LatticefitModel_checkOf101_5 hR ⟨fun a => ⟨fun b => ⟨fun c => ⟨fun q => ?_, fun _ => ⟨by omega, by omega, ⟨by omega, ?_⟩, by omega, nx⟩⟩, fun c => ⟨fun q => ?_, fun _ => ⟨by omega, by omega, ⟨by omega, ?_⟩, by omega, nx⟩⟩⟩, fun b => ⟨fun q => ?_, fun _ => ⟨by omega, by omega, ⟨by omega, ?_⟩, by omega, nx⟩⟩⟩, fun a => ⟨fun q => ?_, fun _ => ⟨by omega, by omega, ⟨by omega, ?_⟩, by omega, nx⟩⟩⟩
      all_goals first | omega | (exfalso; revert hi; repeat' split; all_goals omega)
  exact lp (fl_len f).toNat 0 _ (by omega)
theorem sp_sum102 {LS d : Nat} {Post : ma_R → ma_M → Prop} {μ : ma_M} {f : Int} (f0 : 0 ≤ f) (f1 : f < 14) (hw : ∀ i : Int, 0 ≤ i → i < 36 → 0 ≤ μ 102 0 (36 * f + i) ∧ μ 102 0 (36 * f + i) ≤ 65535) (h : Post (.inl (some (ma_I (ck_sum (fun i => μ 102 0 (36 * f + i)) (fl_len f).toNat)))) μ) :
    ma_Ox LS (d + 2) mi_LatticefitModel_checkOf [ma_Rf 102 0, ma_I f] μ Post := by
  have fr := fl_len_rng f
  refine gi_LatticefitModel_checkOf102 (fun R hR => s_LatticefitModel_checkOf102_0 hR ?_)
  have lp : ∀ (k i : Nat) (u3 : ma_V), (i : Int) + k = fl_len f → R 5 [ma_Rf 102 0, ma_I f, ma_L (ck_sum (fun i => μ 102 0 (36 * f + i)) i), u3, ma_I i] [] 0 μ := by
    intro k
    induction k with
    | zero =>
      intro i u3 hi
      have r := ck_sum_rng (fun i => μ 102 0 (36 * f + i)) i
      have fin : Post (.inl (some (ma_I (ma_wI (ck_sum (fun i => μ 102 0 (36 * f + i)) i))))) μ := by
        rw [lg_wI_id (by omega)]
        rw [show (fl_len f).toNat = i from by omega] at h; exact h
      unfold fl_len at hi
      refine s_LatticefitModel_checkOf102_5 hR ⟨fun a => ⟨fun b => ⟨fun c => ⟨fun _ => fin, fun q => ?_⟩, fun c => ⟨fun _ => fin, fun q => ?_⟩⟩, fun b => ⟨fun _ => fin, fun q => ?_⟩⟩, fun a => ⟨fun _ => fin, fun q => ?_⟩⟩
      all_goals (exfalso; revert hi; repeat' split; all_goals omega)
    | succ k ih =>
      intro i u3 hi
      have r := ck_sum_rng (fun i => μ 102 0 (36 * f + i)) i
      have w := hw i (by omega) (by omega)
      have nx : R 5 [ma_Rf 102 0, ma_I f, ma_L (Int.tmod (ma_wL ((ma_wL (31 * ck_sum (fun i => μ 102 0 (36 * f + i)) i)) + (μ 102 0 ((36 * f) + i)))) 65521), ma_U, ma_I ((i : Int) + 1)] [] 0 μ := by
        rw [lg_wL_id (n := 31 * ck_sum (fun i => μ 102 0 (36 * f + i)) i) (by omega), lg_wL_id (by omega), tm_nn (by omega), show ((i : Nat) : Int) + 1 = ((i + 1 : Nat) : Int) from by omega]
        exact ih (i + 1) _ (by omega)
      unfold fl_len at hi
      refine s_LatticefitModel_checkOf102_5 hR ⟨fun a => ⟨fun b => ⟨fun c => ⟨fun q => ?_, fun _ => ⟨by omega, by omega, ⟨by omega, ?_⟩, by omega, nx⟩⟩, fun c => ⟨fun q => ?_, fun _ => ⟨by omega, by omega, ⟨by omega, ?_⟩, by omega, nx⟩⟩⟩, fun b => ⟨fun q => ?_, fun _ => ⟨by omega, by omega, ⟨by omega, ?_⟩, by omega, nx⟩⟩⟩, fun a => ⟨fun q => ?_, fun _ => ⟨by omega, by omega, ⟨by omega, ?_⟩, by omega, nx⟩⟩⟩
      all_goals first | omega | (exfalso; revert hi; repeat' split; all_goals omega)
  exact lp (fl_len f).toNat 0 _ (by omega)
theorem pr_check {LS d : Nat} {μ : ma_M} (H : Rel μ) {v1 : Int} : Pr LS d mi_LatticefitLaw_check [ma_Rf 2 0, ma_I v1, ma_Rf 111 0] mi_LatticefitModel_check [ma_Rf 69 0, ma_I v1] agI μ := by
  intro Post hP
  obtain ⟨Hc, Hs, Hz, Hu, Hm, Hr, Hf, Hk⟩ := id H
  have s28 := Hs.2.2.2.2.1
  have T1 := Rel_thrown H 1
  have T2 := Rel_thrown (Rel_thrown H 0) 2
  refine gi_LatticefitLaw_check (fun R hR => s_LatticefitLaw_check_0 (d := d + 8) hR ?_)
  refine gi_Latticefit_check (fun R2 hR2 => s_Latticefit_check_0 (d := d + 8) hR2 ?_)
  have L2 : (v1 < 0 ∨ 14 ≤ v1) → ma_ct (ma_Ox LS (d + 8 + 3)) (LS, [(0, 9, 12, 2), (0, 9, 15, 0)], 1, 2) 4 [ma_Rf 2 0, ma_I v1, ma_Rf 111 0, ma_U] [ma_I 0, ma_Rf 111 0] 2 mt_LatticefitLaw_check_7 R (ma_DD (LS, [(0, 9, 12, 2), (0, 9, 15, 0)], 1, 2) Post) (.inr 2) μ := by
    intro hc
    show R 12 [ma_Rf 2 0, ma_I v1, ma_Rf 111 0, ma_U] [ma_X 2] 2 μ
    refine g_LatticefitLaw_check_12 hR ⟨Nat.le_refl 2, hP 1 μ (fun Post2 h2 => ?_)⟩
    have fin := h2 (ma_I 0) _ T1 ma_up_eq (fun z => by omega)
    exact gi_LatticefitModel_check (fun R3 hR3 => s_LatticefitModel_check_0 (d := d + 9) hR3 ⟨fun _ => fin, fun _ => ⟨fun _ => fin, fun _ => by omega⟩⟩)
  refine ⟨fun a => L2 (.inl a), fun a => ⟨fun b => ⟨fun st => ?_, fun st => ?_⟩, fun b => L2 (.inr b)⟩⟩
  · have F := Hf st
    refine sp_sum53 (d := d + 8) a b (fun i i0 i1 => (F v1 i a b i0 i1).2) (k_Latticefit_check_11 hR2 (k_LatticefitLaw_check_4 hR ⟨by omega, hP 0 _ (fun Post2 h2 => ?_)⟩))
    have b1 : ∀ c : Nat, c ≠ 111 → (ma_up μ 111 0 0 (ck_sum (μ 55 v1) (fl_len v1).toNat)) c = μ c := fun c hc => ma_up_ck hc
    have b2 : (ma_up μ 111 0 0 (ck_sum (μ 55 v1) (fl_len v1).toNat)) 111 0 0 = ck_sum (μ 55 v1) (fl_len v1).toNat := ma_up_eq
    generalize ma_up μ 111 0 0 (ck_sum (μ 55 v1) (fl_len v1).toNat) = M at b1 b2 ⊢
    have RM : Rel M := Rel_scr H (fun c hc => b1 c (by rintro rfl; revert hc; decide)) (fun f _ => by rw [b1 69 (by decide)])
    have RM0 := Rel_thrown (Rel_thrown RM 0) 0
    have e101 : ∀ i : Int, (ma_up (ma_up M 69 0 50 0) 69 0 50 0) 101 0 i = μ 101 0 i := fun i => by rw [ma_up_ck (by decide), ma_up_ck (by decide), b1 101 (by decide)]
    refine gi_LatticefitModel_check (fun R3 hR3 => s_LatticefitModel_check_0 (d := d + 9) hR3 ⟨fun _ => by omega, fun _ => ⟨fun _ => by omega, fun _ => ⟨fun _ => ?_, fun q => by rw [b1 69 (by decide), s28, if_pos st] at q; omega⟩⟩⟩)
    refine sp_sum101 (d := d + 9) a b (fun i i0 i1 => by rw [e101, (F v1 i a b i0 i1).1]; exact (F v1 i a b i0 i1).2) (k_LatticefitModel_check_39 hR3 ?_)
    have fr := fl_len_rng v1
    have ec : ck_sum (fun i => (ma_up (ma_up M 69 0 50 0) 69 0 50 0) 101 0 (36 * v1 + i)) (fl_len v1).toNat = ck_sum (μ 55 v1) (fl_len v1).toNat := ck_sum_cg _ (fun i i0 i1 => by
      show (ma_up (ma_up M 69 0 50 0) 69 0 50 0) 101 0 (36 * v1 + i) = _
      rw [e101]; exact (F v1 i a b i0 (by omega)).1)
    rw [ec]
    exact h2 _ _ RM0 ma_up_eq (fun _ => ⟨_, rfl, by rw [ma_up_ck (by decide), ma_up_ck (by decide)]; exact b2⟩)
  · show R 15 [ma_Rf 2 0, ma_I v1, ma_Rf 111 0, ma_U] [ma_X 0] 2 μ
    refine g_LatticefitLaw_check_15 hR ⟨Nat.le_refl 2, hP 2 μ (fun Post2 h2 => ?_)⟩
    have fin := h2 (ma_I 0) _ T2 ma_up_eq (fun z => by omega)
    exact gi_LatticefitModel_check (fun R3 hR3 => s_LatticefitModel_check_0 (d := d + 9) hR3 ⟨fun _ => by omega, fun _ => ⟨fun _ => by omega, fun _ => ⟨fun q => absurd (by rw [s28, if_neg (by omega)]) q, fun _ => fin⟩⟩⟩)
/-- whether a frame is bad, the reference -/
theorem sp_bad {LS d : Nat} {Post : ma_R → ma_M → Prop} {μ : ma_M} {f : Int} (f0 : 0 ≤ f) (f1 : f < 14) (h1 : ∀ i : Int, 0 ≤ i → i < 36 → μ 101 0 (36 * f + i) = μ 55 f i ∧ 0 ≤ μ 55 f i ∧ μ 55 f i ≤ 65535) (w : Int → Int) (h2 : ∀ i : Int, 0 ≤ i → i < 36 → μ 102 0 (36 * f + i) = w i ∧ 0 ≤ w i ∧ w i ≤ 65535)
    (hz : ck_sum w (fl_len f).toNat = ck_sum (μ 55 f) (fl_len f).toNat → Post (.inl (some (ma_I 0))) μ) (ho : ¬ ck_sum w (fl_len f).toNat = ck_sum (μ 55 f) (fl_len f).toNat → Post (.inl (some (ma_I 1))) μ) :
    ma_Ox LS (d + 3) mi_LatticefitModel_bad [ma_Rf 69 0, ma_I f] μ Post := by
  have fr := fl_len_rng f
  have e1 : ck_sum (fun i => μ 101 0 (36 * f + i)) (fl_len f).toNat = ck_sum (μ 55 f) (fl_len f).toNat := ck_sum_cg _ (fun i i0 i1 => (h1 i i0 (by omega)).1)
  have e2 : ck_sum (fun i => μ 102 0 (36 * f + i)) (fl_len f).toNat = ck_sum w (fl_len f).toNat := ck_sum_cg _ (fun i i0 i1 => (h2 i i0 (by omega)).1)
  refine gi_LatticefitModel_bad (fun R hR => s_LatticefitModel_bad_0 (d := d) hR (sp_sum102 f0 f1 (fun i i0 i1 => by rw [(h2 i i0 i1).1]; exact (h2 i i0 i1).2) (k_LatticefitModel_bad_5 hR (sp_sum101 f0 f1 (fun i i0 i1 => by rw [(h1 i i0 i1).1]; exact (h1 i i0 i1).2) (k_LatticefitModel_bad_13 hR ?_)))))
  rw [e1, e2]
  exact ⟨hz, ho⟩
theorem pr_isBad {LS d : Nat} {μ : ma_M} (H : Rel μ) {v1 : Int} : Pr LS d mi_LatticefitLaw_isBad [ma_Rf 2 0, ma_I v1, ma_Rf 111 0] mi_LatticefitModel_isBad [ma_Rf 69 0, ma_I v1] agZ μ := by
  intro Post hP
  obtain ⟨Hc, Hs, Hz, Hu, Hm, Hr, Hf, Hk⟩ := id H
  have s29 := Hs.2.2.2.2.2
  have T1 := Rel_thrown H 1
  have T2 := Rel_thrown (Rel_thrown H 0) 2
  refine gi_LatticefitLaw_isBad (fun R hR => s_LatticefitLaw_isBad_0 (d := d + 8) hR ?_)
  refine gi_Latticefit_isBad (fun R2 hR2 => s_Latticefit_isBad_0 (d := d + 8) hR2 ?_)
  have L2 : (v1 < 0 ∨ 14 ≤ v1) → ma_ct (ma_Ox LS (d + 8 + 3)) (LS, [(0, 16, 19, 2), (0, 16, 22, 0)], 1, 2) 4 [ma_Rf 2 0, ma_I v1, ma_Rf 111 0, ma_U] [ma_I 0, ma_Rf 111 0] 2 mt_LatticefitLaw_isBad_7 R (ma_DD (LS, [(0, 16, 19, 2), (0, 16, 22, 0)], 1, 2) Post) (.inr 2) μ := by
    intro hc
    show R 19 [ma_Rf 2 0, ma_I v1, ma_Rf 111 0, ma_U] [ma_X 2] 2 μ
    refine g_LatticefitLaw_isBad_19 hR ⟨Nat.le_refl 2, hP 1 μ (fun Post2 h2 => ?_)⟩
    have fin := h2 (ma_I 0) _ T1 ma_up_eq (fun z => by omega)
    exact gi_LatticefitModel_isBad (fun R3 hR3 => s_LatticefitModel_isBad_0 (d := d + 8) hR3 ⟨fun _ => fin, fun _ => ⟨fun _ => fin, fun _ => by omega⟩⟩)
  refine ⟨fun a => L2 (.inl a), fun a => ⟨fun b => ⟨fun st => ?_, fun st => ?_⟩, fun b => L2 (.inr b)⟩⟩
  · have F := Hf (by omega)
    have K := (Hk st).1
    have key : ∀ x : Int, (x = 0 ∨ x = 1) → (x = 0 ↔ ck_sum (μ 60 v1) (fl_len v1).toNat = ck_sum (μ 55 v1) (fl_len v1).toNat) → Post (.inl (some (ma_I 0))) (ma_up μ 111 0 0 x) := by
      intro x hx hx2
      refine hP 0 _ (fun Post2 h2 => ?_)
      have b1 : ∀ c : Nat, c ≠ 111 → (ma_up μ 111 0 0 x) c = μ c := fun c hc => ma_up_ck hc
      have b2 : (ma_up μ 111 0 0 x) 111 0 0 = x := ma_up_eq
      generalize ma_up μ 111 0 0 x = M at b1 b2 ⊢
      have RM : Rel M := Rel_scr H (fun c hc => b1 c (by rintro rfl; revert hc; decide)) (fun f _ => by rw [b1 69 (by decide)])
      have RM0 := Rel_thrown (Rel_thrown RM 0) 0
      have em : ∀ c : Nat, c ≠ 69 → c ≠ 111 → (ma_up (ma_up M 69 0 50 0) 69 0 50 0) c = μ c := fun c c1 c2 => by rw [ma_up_ck c1, ma_up_ck c1, b1 c c2]
      have fin : ∀ y : Int, (y = 0 ∨ y = 1) → y = x → Post2 (.inl (some (ma_I y))) (ma_up (ma_up M 69 0 50 0) 69 0 50 0) := fun y hy e => h2 _ _ RM0 ma_up_eq (fun _ => ⟨y, rfl, hy, by rw [ma_up_ck (by decide), ma_up_ck (by decide), b2, e]⟩)
      refine gi_LatticefitModel_isBad (fun R3 hR3 => s_LatticefitModel_isBad_0 (d := d + 8) hR3 ⟨fun _ => by omega, fun _ => ⟨fun _ => by omega, fun _ => ⟨fun _ => ?_, fun q => by rw [b1 69 (by decide), s29, if_pos st] at q; omega⟩⟩⟩)
      refine sp_bad (d := d + 8) a b (fun i i0 i1 => by rw [em 101 (by decide) (by decide), em 55 (by decide) (by decide)]; exact F v1 i a b i0 i1) (μ 60 v1) (fun i i0 i1 => by rw [em 102 (by decide) (by decide)]; exact K v1 i a b i0 i1) (fun e => ?_) (fun e => ?_)
      · rw [em 55 (by decide) (by decide)] at e
        exact k_LatticefitModel_isBad_12 hR3 ⟨fun _ => fin 0 (.inl rfl) (hx2.2 e).symm, fun q => absurd rfl q⟩
      · rw [em 55 (by decide) (by decide)] at e
        exact k_LatticefitModel_isBad_12 hR3 ⟨fun q => absurd q (by decide), fun _ => fin 1 (.inr rfl) (by rcases hx with z | z; exact absurd (hx2.1 z) e; exact z.symm)⟩
    refine sp_sum58 (d := d + 8) a b (fun i i0 i1 => (K v1 i a b i0 i1).2) (k_Latticefit_isBad_14 hR2 (sp_sum53 (d := d + 8) a b (fun i i0 i1 => (F v1 i a b i0 i1).2) (k_Latticefit_isBad_22 hR2 ⟨fun e => ?_, fun e => ?_⟩)))
    · exact k_LatticefitLaw_isBad_4 hR ⟨fun _ => ⟨by omega, key 0 (.inl rfl) ⟨fun _ => e, fun _ => rfl⟩⟩, fun q => absurd rfl q⟩
    · exact k_LatticefitLaw_isBad_4 hR ⟨fun q => absurd q (by decide), fun _ => ⟨by omega, key 1 (.inr rfl) ⟨fun q => absurd q (by decide), fun q => absurd q e⟩⟩⟩
  · show R 22 [ma_Rf 2 0, ma_I v1, ma_Rf 111 0, ma_U] [ma_X 0] 2 μ
    refine g_LatticefitLaw_isBad_22 hR ⟨Nat.le_refl 2, hP 2 μ (fun Post2 h2 => ?_)⟩
    have fin := h2 (ma_I 0) _ T2 ma_up_eq (fun z => by omega)
    exact gi_LatticefitModel_isBad (fun R3 hR3 => s_LatticefitModel_isBad_0 (d := d + 8) hR3 ⟨fun _ => by omega, fun _ => ⟨fun _ => by omega, fun _ => ⟨fun q => absurd (by rw [s29, if_neg (by omega)]) q, fun _ => fin⟩⟩⟩)
