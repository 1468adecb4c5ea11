/-! agrees -/
theorem ag_and {s : Int} (h : s = 0 ∨ s = 1) : ma_and s 0 = 0 ∧ ma_and s 1 = s := by
  rcases h with rfl | rfl <;> decide
/-- an output's value on the chip; whether the outputs agree, the registers -/
def ag_v (μ : ma_M) (o : Int) : Int := ch_val (μ 61 0) (μ 62 0) (ch_T (μ 60) (μ 61 0) (μ 62 0) 40) (ch_end (μ 60) (μ 60 13 o))
def ag_g (μ : ma_M) (v : Int → Int) : Prop := (∀ o : Int, 0 ≤ o → o < μ 3 0 13 → v (μ 13 0 o) = ag_v μ o) ∧ (∀ i : Int, 0 ≤ i → i < μ 3 0 10 → μ 4 0 i = 114 → μ 67 0 i = μ 62 0 (μ 32 0 (μ 28 0 i)))
theorem pr_agrees {LS d : Nat} {μ : ma_M} (H : Rel μ) : Pr LS d mi_LatticefitLaw_agrees [ma_Rf 2 0, ma_Rf 111 0] mi_LatticefitModel_agrees [ma_Rf 69 0] agZ μ := by
  intro Post hP
  obtain ⟨Hc, Hs, Hz, Hu, Hm, Hr, Hf, Hk⟩ := id H
  have s29 := Hs.2.2.2.2.2
  have T1 := Rel_thrown H 1
  have HC := Hc
  obtain ⟨N0, N1, I0, I1, R0, R1, O0, O1, n8, n9, n10, n11, hn, hin, hr, _, hrj, hoo⟩ := HC
  refine gi_LatticefitLaw_agrees (fun R hR => s_LatticefitLaw_agrees_0 (d := d + 4) hR ?_)
  refine gi_Latticefit_agrees (fun R2 hR2 => s_Latticefit_agrees_0 (d := d + 4) hR2 ⟨fun st => ?_, fun st => ?_⟩)
  · have K := Hk st
    obtain ⟨Hmm, Hpp⟩ := Hm (by omega)
    have ci := ch_in_of H K
    have M7 := Hmm.2.1
    -- a register's block and cell
    have rc : ∀ i : Int, 0 ≤ i → i < μ 3 0 10 → μ 4 0 i = 114 → 0 ≤ μ 28 0 i ∧ μ 28 0 i < μ 21 0 7 ∧ 0 ≤ μ 32 0 (μ 28 0 i) ∧ μ 32 0 (μ 28 0 i) < 36 ∧ μ 81 0 i = μ 28 0 i ∧ μ 85 0 (μ 28 0 i) = μ 32 0 (μ 28 0 i) := by
      intro i i0 i1 k
      have mm := Hmm.2.2.2.1 i i0 i1
      have b0 : 0 ≤ μ 28 0 i := mm.2.2.2.2.2.2.2.1.2 (.inl k)
      have pp := Hpp.1 _ b0 mm.2.2.2.2.2.2.1
      exact ⟨b0, mm.2.2.2.2.2.2.1, pp.2.1, pp.2.2.1, mm.2.2.2.2.1, pp.1⟩
    refine sp_findValues (d := d + 8) Hc (cv_in_of K) (fun m1 a1 a2 => k_Latticefit_agrees_16 hR2 ?_)
    refine sp_findTables (d := d + 4) (fun m2 b1 b2 => k_Latticefit_agrees_23 hR2 ?_)
    rw [a1 60 (by decide), a1 61 (by decide), a1 62 (by decide)] at b2
    have em : ∀ c : Nat, c ≠ 63 → c ≠ 64 → c ≠ 65 → c ≠ 68 → m2 c = μ c := fun c k1 k2 k3 k4 => by rw [b1 c k1 k2 k3]; exact a1 c k4
    have e68 : m2 68 = m1 68 := b1 68 (by decide) (by decide) (by decide)
    have v01 : ∀ o : Int, ag_v μ o = 0 ∨ ag_v μ o = 1 := fun o => ch_val_01 (fun j j0 j1 => (ci.2.1 j j0 j1).2.1) (fun c c0 c1 => (ci.2.2.1 c c0 c1).2) (fun c _ _ => ch_T_01 40 c) _
    have key : ∀ x : Int, (x = 0 ∨ x = 1) → (x = 1 ↔ ag_g μ (m1 68 0)) → Post (.inl (some (ma_I 0))) (ma_up m2 111 0 0 x) := by
      intro x hx hg
      refine hP 0 _ (fun Post2 h2 => ?_)
      have g1 : ∀ c : Nat, c ≠ 63 → c ≠ 64 → c ≠ 65 → c ≠ 68 → c ≠ 111 → (ma_up m2 111 0 0 x) c = μ c := fun c k1 k2 k3 k4 k5 => by rw [ma_up_ck k5]; exact em c k1 k2 k3 k4
      have g2 : (ma_up m2 111 0 0 x) 111 0 0 = x := ma_up_eq
      generalize ma_up m2 111 0 0 x = M at g1 g2 ⊢
      have RM : Rel M := Rel_scr H (fun c hc => g1 c (by rintro rfl; revert hc; decide) (by rintro rfl; revert hc; decide) (by rintro rfl; revert hc; decide) (by rintro rfl; revert hc; decide) (by rintro rfl; revert hc; decide)) (fun f _ => by rw [g1 69 (by decide) (by decide) (by decide) (by decide) (by decide)])
      have RM0 := Rel_thrown RM 0
      have M69 : M 69 = μ 69 := g1 69 (by decide) (by decide) (by decide) (by decide) (by decide)
      have n50 : ∀ f : Int, f ≠ 50 → (ma_up M 69 0 50 0) 69 0 f = μ 69 0 f := fun f hf => by rw [ma_up_ne (by omega), M69]
      have q50 : (ma_up M 69 0 50 0) 69 0 50 = 0 := ma_up_eq
      have ec : ∀ c : Nat, c ≠ 69 → (ma_up M 69 0 50 0) c = M c := fun c hc => ma_up_ck hc
      refine gi_LatticefitModel_agrees (fun R3 hR3 => s_LatticefitModel_agrees_0 (d := d + 7) hR3 ⟨fun _ => ?_, fun q => by rw [M69, s29, if_pos st] at q; omega⟩)
      generalize ma_up M 69 0 50 0 = A at RM0 n50 q50 ec ⊢
      have eA : ∀ c : Nat, c ≠ 63 → c ≠ 64 → c ≠ 65 → c ≠ 68 → c ≠ 69 → c ≠ 111 → A c = μ c := fun c k1 k2 k3 k4 k5 k6 => by rw [ec c k5]; exact g1 c k1 k2 k3 k4 k6
      refine sp_runs (d := d + 9) (μ := μ) (fun c k1 k2 => eA c (by omega) (by omega) (by omega) (by omega) (by omega) (by omega)) (n50 8 (by decide)) Hc K (fun B d1 d2 => k_LatticefitModel_agrees_23 hR3 ?_)
      have RB : Rel B := Rel_scr RM0 (fun c hc => d1 c (by rintro rfl; revert hc; decide)) (fun f _ => by rw [d1 69 (by decide)])
      have ciB : ch_in B (μ 60) (μ 61 0) (μ 62 0) := ch_in_cg (fun c hc => by rw [d1 c (by omega)]; exact eA c (by omega) (by omega) (by omega) (by omega) (by omega) (by omega)) (by rw [d1 69 (by decide)]; exact n50 9 (by decide)) ci
      refine sp_settles (d := d + 7) ciB (by rw [d1 69 (by decide), n50 46 (by decide), n50 47 (by decide)]; exact Hz.2.2.2.2.1) (fun C k k' e1 hK e46 e47 e2 => k_LatticefitModel_agrees_27 hR3 ?_)
      have RC : Rel C := Rel_st RB e1 hK e46 e47
      have ciC : ch_in C (μ 60) (μ 61 0) (μ 62 0) := ch_in_cg (fun c hc => e1.1 c (by omega) (by omega) (by omega)) (e1.2 9 (by decide) (by decide)) ciB
      have cu : ∀ c : Nat, c ≠ 63 → c ≠ 64 → c ≠ 65 → c ≠ 68 → c ≠ 69 → c ≠ 106 → c ≠ 107 → c ≠ 108 → c ≠ 111 → C c = μ c := fun c k1 k2 k3 k4 k5 k6 k7 k8 k9 => by rw [e1.1 c k5 k7 k8, d1 c k6]; exact eA c k1 k2 k3 k4 k5 k9
      have c69 : ∀ f : Int, f ≠ 46 → f ≠ 47 → f ≠ 50 → C 69 0 f = μ 69 0 f := fun f f1 f2 f3 => by rw [e1.2 f f1 f2, d1 69 (by decide)]; exact n50 f f3
      have c50 : C 69 0 50 = 0 := by rw [e1.2 50 (by decide) (by decide), d1 69 (by decide)]; exact q50
      have c111 : C 111 0 0 = x := by rw [e1.1 111 (by decide) (by decide) (by decide), d1 111 (by decide), ec 111 (by decide)]; exact g2
      have c106 : ∀ n : Int, 0 ≤ n → n < μ 3 0 10 → C 106 0 n = m1 68 0 n := fun n x0 x1 => by
        rw [e1.1 106 (by decide) (by decide) (by decide)]
        have := cv_uniq Hc d2 a2 n.toNat (by omega)
        rw [show ((n.toNat : Nat) : Int) = n from by omega] at this
        exact this
      have hk : ch_kk k := by rcases hK with z | z; exact .inl z.1; exact .inr z.1
      refine ma_cnt (σ := Int) (N := μ 3 0 13) (P := fun o s => R3 34 [ma_Rf 69 0, ma_I s, ma_I o] [] 0 C) (I := fun n s => (s = 0 ∨ s = 1) ∧ (s = 1 ↔ ∀ o : Int, 0 ≤ o → o < n → m1 68 0 (μ 13 0 o) = ag_v μ o)) ?_ ?_ 0 1 (by omega) (by omega) ⟨.inr rfl, ⟨fun _ o a b => by omega, fun _ => rfl⟩⟩
      · intro o s o0 o1 ⟨s1, s2⟩ ih
        have oo := hoo o o0 o1
        refine s_LatticefitModel_agrees_34 hR3 ⟨fun q => by rw [c69 11 (by decide) (by decide) (by decide), n11] at q; omega, fun _ => ?_⟩
        have e76 : C 76 0 o = μ 13 0 o := by rw [cu 76 (by decide) (by decide) (by decide) (by decide) (by decide) (by decide) (by decide) (by decide) (by decide)]; exact oo.1
        rw [e76, c106 _ oo.2.1 oo.2.2, show 468 + o = 36 * 13 + o from by omega, (ciC.1.2 13 o (by omega) (by omega) o0 (by omega)).1]
        refine ⟨by omega, by omega, by omega, by omega, sp_valueOf (d := d + 8) ciC hk e46 (fun c c0 c1 => ⟨e2 c c0 c1, ch_T_01 40 c⟩) (k_LatticefitModel_agrees_65 hR3 ?_)⟩
        have sa := ag_and s1
        show (¬ m1 68 0 (μ 13 0 o) = ag_v μ o → _) ∧ (m1 68 0 (μ 13 0 o) = ag_v μ o → _)
        refine ⟨fun q => ⟨by omega, ?_⟩, fun q => ⟨by omega, ?_⟩⟩
        · rw [sa.1]
          exact ih 0 ⟨.inl rfl, ⟨fun z => by omega, fun z => absurd (z o o0 (by omega)) q⟩⟩
        · rw [sa.2]
          refine ih s ⟨s1, ⟨fun z j j0 j1 => ?_, fun z => s2.2 (fun j j0 j1 => z j j0 (by omega))⟩⟩
          by_cases e : j = o
          · rw [e]; exact q
          · exact s2.1 z j j0 (by omega)
      · intro s ⟨s1, s2⟩
        refine s_LatticefitModel_agrees_34 hR3 ⟨fun _ => ?_, fun q => by rw [c69 11 (by decide) (by decide) (by decide), n11] at q; omega⟩
        refine ma_cnt (σ := Int) (N := μ 3 0 10) (P := fun i s => R3 86 [ma_Rf 69 0, ma_I s, ma_I i] [] 0 C) (I := fun n t => (t = 0 ∨ t = 1) ∧ (t = 1 ↔ s = 1 ∧ ∀ i : Int, 0 ≤ i → i < n → μ 4 0 i = 114 → μ 67 0 i = μ 62 0 (μ 32 0 (μ 28 0 i)))) ?_ ?_ 0 s (by omega) (by omega) ⟨s1, ⟨fun z => ⟨z, fun i a b => by omega⟩, fun z => z.1⟩⟩
        · intro i t i0 i1 ⟨t1, t2⟩ ih
          have ta := ag_and t1
          refine s_LatticefitModel_agrees_86 hR3 ⟨fun q => by rw [c69 8 (by decide) (by decide) (by decide), n8] at q; omega, fun _ => ?_⟩
          rw [ta.1, ta.2, cu 70 (by decide) (by decide) (by decide) (by decide) (by decide) (by decide) (by decide) (by decide) (by decide), cu 81 (by decide) (by decide) (by decide) (by decide) (by decide) (by decide) (by decide) (by decide) (by decide), cu 85 (by decide) (by decide) (by decide) (by decide) (by decide) (by decide) (by decide) (by decide) (by decide), cu 103 (by decide) (by decide) (by decide) (by decide) (by decide) (by decide) (by decide) (by decide) (by decide), cu 104 (by decide) (by decide) (by decide) (by decide) (by decide) (by decide) (by decide) (by decide) (by decide), (hn i i0 i1).1]
          have keep : (μ 4 0 i = 114 → μ 67 0 i = μ 62 0 (μ 32 0 (μ 28 0 i))) → R3 86 [ma_Rf 69 0, ma_I t, ma_I (i + 1)] [] 0 C := fun q => by
            refine ih t ⟨t1, ⟨fun z => ⟨(t2.1 z).1, fun j j0 j1 kj => ?_⟩, fun z => t2.2 ⟨z.1, fun j j0 j1 => z.2 j j0 (by omega)⟩⟩⟩
            by_cases e : j = i
            · rw [e]; rw [e] at kj; exact q kj
            · exact (t2.1 z).2 j j0 (by omega) kj
          refine ⟨by omega, fun p => ⟨by omega, keep (fun z => absurd z p)⟩, fun p => ?_⟩
          have r := rc i i0 i1 p
          rw [r.2.2.2.2.1, r.2.2.2.2.2, ((K.2.2.2.1 i i0 i1).2 p).1, (K.2.2.1 _ r.2.2.1 r.2.2.2.1).1]
          refine ⟨by omega, by omega, fun q => ⟨by omega, ih 0 ⟨.inl rfl, ⟨fun z => by omega, fun z => absurd (z.2 i i0 (by omega) p) q⟩⟩⟩, fun q => ⟨by omega, keep (fun _ => q)⟩⟩
        · intro t ⟨t1, t2⟩
          refine s_LatticefitModel_agrees_86 hR3 ⟨fun _ => ⟨t1, h2 _ C RC c50 (fun _ => ⟨_, rfl, t1, ?_⟩)⟩, fun q => by rw [c69 8 (by decide) (by decide) (by decide), n8] at q; omega⟩
          rw [c111]
          have tg : t = 1 ↔ ag_g μ (m1 68 0) := ⟨fun z => ⟨s2.1 (t2.1 z).1, (t2.1 z).2⟩, fun z => t2.2 ⟨s2.2 z.1, z.2⟩⟩
          have := hg.trans tg.symm
          omega
    -- the class's answer
    have f0 : ¬ ag_g μ (m1 68 0) → ma_ct (ma_Ox LS (d + 4 + 7)) (LS, [(0, 15, 18, 0)], 1, 1) 3 [ma_Rf 2 0, ma_Rf 111 0, ma_U] [ma_I 0, ma_Rf 111 0] 1 mt_LatticefitLaw_agrees_6 R (ma_DD (LS, [(0, 15, 18, 0)], 1, 1) Post) (.inl (some (ma_I 0))) m2 := fun q =>
      k_LatticefitLaw_agrees_3 hR ⟨fun _ => ⟨by omega, key 0 (.inl rfl) ⟨fun z => by omega, fun z => absurd z q⟩⟩, fun z => absurd rfl z⟩
    have f1 : ag_g μ (m1 68 0) → ma_ct (ma_Ox LS (d + 4 + 7)) (LS, [(0, 15, 18, 0)], 1, 1) 3 [ma_Rf 2 0, ma_Rf 111 0, ma_U] [ma_I 0, ma_Rf 111 0] 1 mt_LatticefitLaw_agrees_6 R (ma_DD (LS, [(0, 15, 18, 0)], 1, 1) Post) (.inl (some (ma_I 1))) m2 := fun q =>
      k_LatticefitLaw_agrees_3 hR ⟨fun z => absurd z (by decide), fun _ => ⟨by omega, key 1 (.inr rfl) ⟨fun _ => q, fun _ => rfl⟩⟩⟩
    have e3 : m2 3 = μ 3 := em 3 (by decide) (by decide) (by decide) (by decide)
    have e13 : m2 13 = μ 13 := em 13 (by decide) (by decide) (by decide) (by decide)
    refine ma_cnt (σ := Unit) (N := μ 3 0 13) (P := fun o _ => ∀ u : ma_V, R2 28 [ma_Rf 2 0, ma_I o, u] [] 1 m2) (I := fun n _ => ∀ o : Int, 0 ≤ o → o < n → m1 68 0 (μ 13 0 o) = ag_v μ o) ?_ ?_ 0 () (by omega) (by omega) (fun o a b => by omega) _
    · intro o _ o0 o1 hI ih u
      have oo := hoo o o0 o1
      refine s_Latticefit_agrees_28 hR2 ⟨fun q => by rw [e3] at q; omega, fun _ => ?_⟩
      rw [e13, e68]
      refine ⟨by omega, by omega, sp_outputValue (d := d + 5) o0 (by omega) b2 (k_Latticefit_agrees_52 hR2 ?_)⟩
      rw [em 60 (by decide) (by decide) (by decide) (by decide), em 61 (by decide) (by decide) (by decide) (by decide), em 62 (by decide) (by decide) (by decide) (by decide)]
      show (m1 68 0 (μ 13 0 o) = ag_v μ o → _) ∧ (¬ m1 68 0 (μ 13 0 o) = ag_v μ o → _)
      refine ⟨fun q => ⟨by omega, ih () (fun j j0 j1 => ?_) _⟩, fun q => f0 (fun z => q (z.1 o o0 o1))⟩
      by_cases e : j = o
      · rw [e]; exact q
      · exact hI j j0 (by omega)
    · intro _ hI u
      refine s_Latticefit_agrees_28 hR2 ⟨fun _ => ?_, fun q => by rw [e3] at q; omega⟩
      refine ma_cnt (σ := Unit) (N := μ 3 0 12) (P := fun j _ => ∀ u : ma_V, R2 68 [ma_Rf 2 0, ma_I j, u] [] 1 m2) (I := fun n _ => ∀ j : Int, 0 ≤ j → j < n → μ 67 0 (μ 12 0 j) = μ 62 0 (μ 32 0 (μ 28 0 (μ 12 0 j)))) ?_ ?_ 0 () (by omega) (by omega) (fun o a b => by omega) _
      · intro j _ j0 j1 hJ ih u
        have t := hr j j0 j1
        have r := rc _ t.1 t.2.1 t.2.2
        refine s_Latticefit_agrees_68 hR2 ⟨fun q => by rw [e3] at q; omega, fun _ => ?_⟩
        rw [em 12 (by decide) (by decide) (by decide) (by decide), em 28 (by decide) (by decide) (by decide) (by decide), em 32 (by decide) (by decide) (by decide) (by decide), em 62 (by decide) (by decide) (by decide) (by decide), em 67 (by decide) (by decide) (by decide) (by decide)]
        refine ⟨by omega, by omega, fun _ => ⟨by omega, by omega, fun q => ⟨by omega, ih () (fun i i0 i1 => ?_) _⟩, fun q => f0 (fun z => q (z.2 _ t.1 t.2.1 t.2.2))⟩, fun q => by omega⟩
        by_cases e : i = j
        · rw [e]; exact q
        · exact hJ i i0 (by omega)
      · intro _ hJ u
        refine s_Latticefit_agrees_68 hR2 ⟨fun _ => f1 ⟨hI, fun i i0 i1 k => ?_⟩, fun q => by rw [e3] at q; omega⟩
        obtain ⟨j, j0, j1, ej⟩ := hrj i i0 i1 k
        have := hJ j j0 j1
        rw [ej] at this; exact this
  · show R 18 [ma_Rf 2 0, ma_Rf 111 0, ma_U] [ma_X 0] 1 μ
    refine g_LatticefitLaw_agrees_18 hR ⟨Nat.le_refl 1, hP 1 μ (fun Post2 h2 => ?_)⟩
    exact gi_LatticefitModel_agrees (fun R3 hR3 => s_LatticefitModel_agrees_0 (d := d + 7) hR3 ⟨fun q => absurd (by rw [s29, if_neg (by omega)]) q, fun _ => h2 (ma_I 0) _ T1 ma_up_eq (fun z => by omega)⟩)
