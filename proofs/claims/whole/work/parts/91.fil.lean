/-! fill -/
theorem fi_dec : ∀ n : Fin 169, vf_n32 (FP.fdiv (FP.i2f (Int32.ofInt ((n.1 : Nat) : Int))) (UInt32.ofNat (Int.toNat 1126694912))) ∧ vf_n64 (FP.f2d (FP.fdiv (FP.i2f (Int32.ofInt ((n.1 : Nat) : Int))) (UInt32.ofNat (Int.toNat 1126694912)))) := by
  unfold vf_n32 vf_n64
  decide +kernel
/-- the values that a float and a double bring -/
def agF (v : ma_V) (μ : ma_M) : Prop := ∃ b : UInt32, v = ma_F b ∧ vf_n64 (FP.f2d b) ∧ μ 112 0 0 = (((FP.f2d b).toNat : Nat) : Int)
def agD (v : ma_V) (μ : ma_M) : Prop := ∃ b : UInt64, v = ma_D b ∧ vf_n64 b ∧ μ 112 0 0 = ((b.toNat : Nat) : Int)
def fi_e (μ : ma_M) (n : Int) : Int := ma_sum (fun x => if 0 ≤ μ 42 n x then 1 else 0) 49
theorem rl_hi_rng {e : Int} (h0 : 0 ≤ e) (h1 : e < 84) : 0 ≤ rl_hi e ∧ rl_hi e < 49 ∧ rl_lo e < rl_hi e := by
  unfold rl_hi rl_lo
  by_cases h : e < 42
  · rw [if_pos h, if_pos h]; omega
  · rw [if_neg h, if_neg h]; omega
theorem fi_net {μ : ma_M} {n : Int} (H : rl_t μ n) : fi_e μ n = ma_sum (fun e => if μ 42 n (rl_lo e) = e ∨ μ 42 n (rl_hi e) = e then 1 else 0) 84 := by
  obtain ⟨-, -, hx, he, -⟩ := H
  have e1 : fi_e μ n = ma_sum (fun x => ma_sum (fun e => if μ 42 n x = e then 1 else 0) 84) 49 := by
    refine ma_sum_cong 49 (fun x x0 x1 => ?_)
    rw [ma_sum_single]
    have := hx x x0 (by omega)
    by_cases h : 0 ≤ μ 42 n x
    · rw [if_pos h, if_pos ⟨h, by omega⟩]
    · rw [if_neg h, if_neg (fun z => h z.1)]
  rw [e1, ma_sum_swap]
  refine ma_sum_cong 84 (fun e e0 e1 => ?_)
  have lo := rl_lo_rng e0 (by omega)
  have hi := rl_hi_rng e0 (by omega)
  have at2 : ∀ x : Int, 0 ≤ x → x < 49 → μ 42 n x = e → x = rl_lo e ∨ x = rl_hi e := fun x x0 x1 z => by
    have := (hx x x0 x1).2.2.2.2 (by omega)
    rw [z] at this; exact this
  have nb := (he e e0 (by omega)).2.2.2
  by_cases p : μ 42 n (rl_lo e) = e
  · rw [if_pos (.inl p)]
    have : ma_sum (fun x => if μ 42 n x = e then 1 else 0) 49 = ma_sum (fun x => if rl_lo e = x then 1 else 0) 49 := by
      refine ma_sum_cong 49 (fun x x0 x1 => ?_)
      by_cases q : rl_lo e = x
      · rw [if_pos q, if_pos (by rw [← q]; exact p)]
      · rw [if_neg q, if_neg (fun z => by
          rcases at2 x x0 (by omega) z with y | y
          · exact q y.symm
          · exact nb ⟨p, by rw [← y]; exact z⟩)]
    rw [this, ma_sum_single, if_pos (by omega)]
  · by_cases p2 : μ 42 n (rl_hi e) = e
    · rw [if_pos (.inr p2)]
      have : ma_sum (fun x => if μ 42 n x = e then 1 else 0) 49 = ma_sum (fun x => if rl_hi e = x then 1 else 0) 49 := by
        refine ma_sum_cong 49 (fun x x0 x1 => ?_)
        by_cases q : rl_hi e = x
        · rw [if_pos q, if_pos (by rw [← q]; exact p2)]
        · rw [if_neg q, if_neg (fun z => by
            rcases at2 x x0 (by omega) z with y | y
            · exact p (by rw [← y]; exact z)
            · exact q y.symm)]
      rw [this, ma_sum_single, if_pos (by omega)]
    · rw [if_neg (fun z => by rcases z with y | y; exact p y; exact p2 y)]
      have : ma_sum (fun x => if μ 42 n x = e then 1 else 0) 49 = ma_sum (fun _ => 0) 49 := by
        refine ma_sum_cong 49 (fun x x0 x1 => ?_)
        rw [if_neg (fun z => by
          rcases at2 x x0 (by omega) z with y | y
          · exact p (by rw [← y]; exact z)
          · exact p2 (by rw [← y]; exact z))]
      rw [this, ma_sum_zero]
theorem fi_all {μ : ma_M} (N : Nat) (h : ∀ n : Int, 0 ≤ n → n < N → rl_t μ n) : ma_sum (fi_e μ) N = ma_sum (fun e => rl_ct μ e N) 84 := by
  rw [ma_sum_cong N (fun n n0 n1 => fi_net (h n n0 n1)), ma_sum_swap]
  rfl
theorem sp_edgesOf {LS d : Nat} {Post : ma_R → ma_M → Prop} {μ : ma_M} {n : Int} (n0 : 0 ≤ n) (n1 : n < 48) (h : Post (.inl (some (ma_I (fi_e μ n)))) μ) : ma_Ox LS (d + 1) mi_Routes_edgesOf [ma_Rf 40 0, ma_I n] μ Post := by
  refine gi_Routes_edgesOf (fun R hR => s_Routes_edgesOf_0 (d := d) hR ?_)
  have lp : ∀ (k x : Nat), x + k = 49 → R 4 [ma_Rf 40 0, ma_I n, ma_I (ma_sum (fun x => if 0 ≤ μ 42 n x then 1 else 0) x), ma_I x] [] 0 μ := by
    intro k
    induction k with
    | zero =>
      intro x hx
      refine s_Routes_edgesOf_4 hR ⟨fun _ => ?_, fun q => by omega⟩
      unfold fi_e at h
      rw [show x = 49 from by omega]; exact h
    | succ k ih =>
      intro x hx
      have r := ma_sum_rng (f := fun x => if 0 ≤ μ 42 n x then 1 else 0) (b := 1) x (fun i _ _ => by
        show 0 ≤ (if 0 ≤ μ 42 n i then 1 else 0) ∧ _ ≤ _
        split <;> omega)
      have nx := ih (x + 1) (by omega)
      have un : ma_sum (fun x => if 0 ≤ μ 42 n x then 1 else 0) (x + 1) = ma_sum (fun x => if 0 ≤ μ 42 n x then 1 else 0) x + (if 0 ≤ μ 42 n x then 1 else 0) := rfl
      rw [un] at nx
      refine s_Routes_edgesOf_4 hR ⟨fun q => by omega, fun _ => ⟨by omega, by omega, fun p => ⟨by omega, by omega, ?_⟩, fun p => ⟨by omega, by omega, ?_⟩⟩⟩
      · rw [if_neg (by omega)] at nx; exact nx
      · rw [if_pos p] at nx; exact nx
  exact lp 49 0 (by omega)
theorem pr_fill {LS d : Nat} {μ : ma_M} (H : Rel μ) : Pr LS d mi_LatticefitLaw_fill [ma_Rf 2 0, ma_Rf 112 0] mi_LatticefitModel_fill [ma_Rf 69 0] agF μ := by
  intro Post hP
  obtain ⟨Hc, Hs, Hz, Hu, Hm, Hr, Hf, Hk⟩ := id H
  have s27 := Hs.2.2.2.1
  have T1 := Rel_thrown H 1
  have N0 := Hc.1
  have N1 := Hc.2.1
  refine gi_LatticefitLaw_fill (fun R hR => s_LatticefitLaw_fill_0 (d := d + 9) hR ?_)
  refine gi_Latticefit_fill (fun R2 hR2 => s_Latticefit_fill_0 (d := d + 9) hR2 ⟨fun st => ?_, fun st => ?_⟩)
  · obtain ⟨hr1, hr2⟩ := Hr st
    obtain ⟨N, hN⟩ : ∃ N : Nat, μ 3 0 10 = (N : Int) := ⟨(μ 3 0 10).toNat, by omega⟩
    have tot : ma_sum (fi_e μ) N = ma_sum (μ 44 0) 84 := by
      rw [fi_all N (fun n n0 n1 => hr1 n n0 (by omega))]
      refine (ma_sum_cong 84 (fun e e0 e1 => ?_)).symm
      rw [(hr2 e e0 (by omega)).1, hN, Int.toNat_natCast]
    have u44 : ∀ e : Int, 0 ≤ e → e < 84 → μ 96 0 e = μ 44 0 e ∧ 0 ≤ μ 44 0 e ∧ μ 44 0 e ≤ 2 := fun e e0 e1 => by
      have u := Hu e e0 e1
      rw [if_pos (show 1 ≤ μ 2 0 10 from by omega)] at u
      have := (hr2 e e0 e1).2
      omega
    have rng : ∀ k : Nat, k ≤ 84 → 0 ≤ ma_sum (μ 44 0) k ∧ ma_sum (μ 44 0) k ≤ 2 * k := fun k hk => ma_sum_rng (b := 2) k (fun i i0 i1 => (u44 i i0 (by omega)).2)
    obtain ⟨w, hw⟩ : ∃ w : Nat, ma_sum (μ 44 0) 84 = (w : Int) := ⟨(ma_sum (μ 44 0) 84).toNat, by have := rng 84 (by omega); omega⟩
    have wl : w < 169 := by have := rng 84 (by omega); omega
    have dd := fi_dec ⟨w, wl⟩
    have lp : ∀ (k n : Nat), n + k = N → R2 9 [ma_Rf 2 0, ma_I (ma_sum (fi_e μ) n), ma_I n] [] 1 μ := by
      intro k
      induction k with
      | zero =>
        intro n hn
        refine s_Latticefit_fill_9 hR2 ⟨fun _ => ?_, fun q => by omega⟩
        rw [show n = N from by omega, tot, hw]
        refine ⟨dd.1, k_LatticefitLaw_fill_3 hR ⟨dd.2, by omega, hP 0 _ (fun Post2 h2 => ?_)⟩⟩
        have g1 : ∀ c : Nat, c ≠ 112 → (ma_up μ 112 0 0 (((FP.f2d (FP.fdiv (FP.i2f (Int32.ofInt ((w : Nat) : Int))) (UInt32.ofNat (Int.toNat 1126694912)))).toNat : Nat) : Int)) c = μ c := fun c hc => ma_up_ck hc
        have g2 : (ma_up μ 112 0 0 (((FP.f2d (FP.fdiv (FP.i2f (Int32.ofInt ((w : Nat) : Int))) (UInt32.ofNat (Int.toNat 1126694912)))).toNat : Nat) : Int)) 112 0 0 = (((FP.f2d (FP.fdiv (FP.i2f (Int32.ofInt ((w : Nat) : Int))) (UInt32.ofNat (Int.toNat 1126694912)))).toNat : Nat) : Int) := ma_up_eq
        generalize ma_up μ 112 0 0 (((FP.f2d (FP.fdiv (FP.i2f (Int32.ofInt ((w : Nat) : Int))) (UInt32.ofNat (Int.toNat 1126694912)))).toNat : Nat) : Int) = M at g1 g2 ⊢
        have RM : Rel M := Rel_scr H (fun c hc => g1 c (by rintro rfl; revert hc; decide)) (fun f _ => by rw [g1 69 (by decide)])
        have RM0 := Rel_thrown RM 0
        refine gi_LatticefitModel_fill (fun R3 hR3 => s_LatticefitModel_fill_0 (d := d + 10) hR3 ⟨fun _ => ?_, fun q => by rw [g1 69 (by decide), s27, if_pos st] at q; omega⟩)
        have e96 : (ma_up M 69 0 50 0) 96 = μ 96 := by rw [ma_up_ck (by decide)]; exact g1 96 (by decide)
        have lp2 : ∀ (k e : Nat), e + k = 84 → R3 26 [ma_Rf 69 0, ma_I (ma_sum (μ 44 0) e), ma_I e] [] 0 (ma_up M 69 0 50 0) := by
          intro k
          induction k with
          | zero =>
            intro e he
            refine s_LatticefitModel_fill_26 hR3 ⟨fun _ => ?_, fun q => by omega⟩
            rw [show e = 84 from by omega, hw]
            exact ⟨dd.1, h2 _ _ RM0 ma_up_eq (fun _ => ⟨_, rfl, dd.2, by rw [ma_up_ck (by decide)]; exact g2⟩)⟩
          | succ k ih =>
            intro e he
            have r := rng e (by omega)
            have u := u44 e (by omega) (by omega)
            refine s_LatticefitModel_fill_26 hR3 ⟨fun q => by omega, fun _ => ?_⟩
            rw [e96, u.1]
            exact ⟨by omega, by omega, by omega, ih (e + 1) (by omega)⟩
        exact lp2 84 0 (by omega)
      | succ k ih =>
        intro n hn
        have r := ma_sum_rng (f := fi_e μ) (b := 49) n (fun i _ _ => ma_sum_rng (b := 1) 49 (fun j _ _ => by
          show 0 ≤ (if 0 ≤ μ 42 i j then 1 else 0) ∧ _ ≤ _
          split <;> omega))
        have r2 := ma_sum_rng (f := fun x => if 0 ≤ μ 42 n x then 1 else 0) (b := 1) 49 (fun j _ _ => by
          show 0 ≤ (if 0 ≤ μ 42 n j then 1 else 0) ∧ _ ≤ _
          split <;> omega)
        have r3 : 0 ≤ fi_e μ n ∧ fi_e μ n ≤ 1 * 49 := r2
        refine s_Latticefit_fill_9 hR2 ⟨fun q => by omega, fun _ => sp_edgesOf (d := d + 9) (by omega) (by omega) (k_Latticefit_fill_26 hR2 ⟨by omega, by omega, ih (n + 1) (by omega)⟩)⟩
    exact lp N 0 (by omega)
  · show R 11 [ma_Rf 2 0, ma_Rf 112 0, ma_U] [ma_X 0] 1 μ
    refine g_LatticefitLaw_fill_11 hR ⟨Nat.le_refl 1, hP 1 μ (fun Post2 h2 => ?_)⟩
    exact gi_LatticefitModel_fill (fun R3 hR3 => s_LatticefitModel_fill_0 (d := d + 10) hR3 ⟨fun q => absurd (by rw [s27, if_neg (by omega)]) q, fun _ => h2 (ma_F 0) _ T1 ma_up_eq (fun z => by omega)⟩)
