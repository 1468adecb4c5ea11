/-! route: both -/
theorem rt_rl_r {m : ma_M} {N : Nat} {s : rt_st} {src : Int → Int} {pin : Int → Int → Int} (Hc : rl_c m) (Hm : rl_m m) (Hp : rl_p m) (hN : m 3 0 10 = N) (G : rt_G N src pin s N) (h42 : ∀ n x : Int, 0 ≤ n → n < N → 0 ≤ x → x < 49 → m 42 n x = s.1 n x) (h44 : ∀ e : Int, 0 ≤ e → e < 84 → m 44 0 e = s.2 e) (h91 : ∀ n e : Int, 0 ≤ n → n < N → 0 ≤ e → e < 84 → m 91 0 (n * 84 + e) = rt_i (s.1 n) e) (X : rt_X m N s N) (nets : cu_nets m m) (hpin : ∀ n x : Int, 0 ≤ n → n < N → 0 ≤ x → x < 49 → (¬ pin n x = 0 ↔ rl_pin m n x)) (hsrc : ∀ n : Int, 0 ≤ n → n < N → (m 4 0 n = 105 ∨ 0 ≤ m 28 0 n) → src n = rl_src m n) (cr : rt_cr s.2 = 0) : rl_r m := by
  refine ⟨fun n n0 n1 => ?_, fun e e0 e1 => ⟨?_, ?_⟩⟩
  · rw [hN] at n1
    have nt := (nets n n0 (by omega)).1
    have row : ∀ x : Int, 0 ≤ x → x < 49 → m 42 n x = s.1 n x := fun x x0 x1 => h42 n x n0 n1 x0 x1
    have g3 := G.2.2 n n0 n1 n1
    have one : m 92 0 n = 1 → rt_S (rl_src m n) (s.1 n) ∧ ∀ x, rl_pin m n x → rt_A (rl_src m n) (s.1 n) x := fun z => by
      obtain ⟨x, hx⟩ := nt.2.1 z
      have hk := cu_pin_node Hm hx
      have es := hsrc n n0 n1 hk
      have xr := cu_pin_rng Hc (cu_q_of Hp) hx
      rw [← es]
      refine ⟨(g3.2 x xr.1 xr.2 ((hpin n x n0 n1 xr.1 xr.2).2 hx)).1, fun y hy => ?_⟩
      have yr := cu_pin_rng Hc (cu_q_of Hp) hy
      exact (g3.2 y yr.1 yr.2 ((hpin n y n0 n1 yr.1 yr.2).2 hy)).2
    have zero : m 92 0 n = 0 → ∀ x : Int, 0 ≤ x → x < 49 → s.1 n x = -1 := fun z => g3.1 (fun x x0 x1 => by
      apply Classical.byContradiction
      intro w
      have := nt.2.2 ⟨x, (hpin n x n0 n1 x0 x1).1 w⟩
      omega)
    refine ⟨nt.1, nt.2, fun x x0 x1 => ?_, fun e e0 e1 => ?_, ?_, fun x hx => ?_, fun z => ?_⟩
    · rw [row x x0 x1]
      rcases nt.1 with z | z
      · have := zero z x x0 x1
        exact ⟨by omega, by omega, fun _ => this, fun w => by omega, fun w => by omega⟩
      · have := (one z).1.2.2.2.1 x x0 x1
        exact ⟨this.1, this.2.1, fun w => by omega, fun w => X n x n0 n1 n1 w x0 x1, this.2.2⟩
    · have lo := rl_lo_rng e0 e1
      have hi := rl_hi_rng e0 e1
      rw [row _ lo.1 lo.2.1, row _ hi.1 hi.2.1, h91 n e n0 n1 e0 e1]
      have ii := rt_i_rng (b := s.1 n) (e := e)
      refine ⟨ii, fun _ => ?_, fun z => rt_i_no e0 e1 (zero z), fun w => ?_⟩
      · unfold rt_i
        by_cases c : s.1 n (rl_lo e) = e ∨ s.1 n (rl_hi e) = e
        · rw [if_pos c]; exact ⟨fun _ => c, fun _ => rfl⟩
        · rw [if_neg c]; exact ⟨fun z => by omega, fun z => absurd z c⟩
      · rcases nt.1 with z | z
        · have := zero z _ lo.1 lo.2.1; omega
        · obtain ⟨f, hf⟩ := (one z).1.2.2.2.2
          have a := (hf _ lo.1 lo.2.1).2.2 (by omega)
          have c := (hf _ hi.1 hi.2.1).2.2 (by omega)
          rw [w.1, show wy_o e (rl_lo e) = rl_hi e from by unfold wy_o; omega] at a
          rw [w.2, show wy_o e (rl_hi e) = rl_lo e from by unfold wy_o; omega] at c
          omega
    · rcases nt.1 with z | z
      · refine ⟨fun _ => 0, fun x x0 x1 => ⟨Int.le_refl _, by show (0 : Int) < 49; decide, fun w => ?_⟩⟩
        rw [row x x0 x1, zero z x x0 x1] at w; omega
      · obtain ⟨f, hf⟩ := (one z).1.2.2.2.2
        refine ⟨f, fun x x0 x1 => ?_⟩
        have a := hf x x0 x1
        refine ⟨a.1, a.2.1, fun w => ?_⟩
        rw [row x x0 x1] at w ⊢
        have v := (one z).1.2.2.2.1 x x0 x1
        have ot := rt_oth w v.2.1 (v.2.2 w)
        have c := a.2.2 w
        unfold wy_o at c ot
        refine ⟨c.1, ?_⟩
        rw [row _ ot.1 ot.2.1]
        rcases c.2 with q | q
        · exact .inr q
        · exact .inl q
    · have z := nt.2.2 ⟨x, hx⟩
      have xr := cu_pin_rng Hc (cu_q_of Hp) hx
      rw [row x xr.1 xr.2]
      exact (one z).2 x hx
    · have S := (one z).1
      rw [row _ S.1 S.2.1]; exact S.2.2.1
  · have lo := rl_lo_rng e0 e1
    have hi := rl_hi_rng e0 e1
    rw [h44 e e0 e1, G.2.1 e e0 e1, hN, Int.toNat_natCast]
    unfold rl_ct
    exact ma_sum_cong N (fun i i0 i1 => by
      show rt_i (s.1 i) e = if m 42 i (rl_lo e) = e ∨ m 42 i (rl_hi e) = e then 1 else 0
      rw [h42 i _ i0 i1 lo.1 lo.2.1, h42 i _ i0 i1 hi.1 hi.2.1]; rfl)
  · rw [h44 e e0 e1]; exact rt_cr_0.1 cr e e0 e1
def rt_no : List Nat := [2, 40, 42, 43, 44, 45, 46, 47, 48, 49, 50, 69, 91, 92, 93, 94, 95, 96, 97, 98, 99, 100, 111]
theorem Rel_route {μ m : ma_M} (H : Rel μ) (st : 1 ≤ μ 2 0 10) (hc : ∀ c : Nat, c ∉ rt_no → m c = μ c) (h69 : ∀ f : Int, f ≠ 27 → f ≠ 28 → f ≠ 29 → f ≠ 50 → m 69 0 f = μ 69 0 f) (h28 : m 69 0 28 = 0) (h29 : m 69 0 29 = 0) (hst : m 2 0 10 = 1 ∧ m 69 0 27 = 0 ∨ m 2 0 10 = 2 ∧ m 69 0 27 = 1 ∧ rl_r m) (hu : ∀ e : Int, 0 ≤ e → e < 84 → m 96 0 e = m 44 0 e ∧ 0 ≤ m 96 0 e ∧ m 96 0 e ≤ 48) : Rel m := by
  obtain ⟨h1, h2', h3, h4, h5, h6, h7, h8⟩ := H
  have hl : ∀ (l : List Nat), (∀ c ∈ l, c ∉ rt_no) → ∀ c ∈ l, m c = μ c := fun l hl c hc' => hc c (hl c hc')
  have hg : ∀ (l : List Int), (∀ c ∈ l, c ≠ 27 ∧ c ≠ 28 ∧ c ≠ 29 ∧ c ≠ 50) → ∀ c ∈ l, m 69 0 c = μ 69 0 c := fun l hl c hc => h69 c (hl c hc).1 (hl c hc).2.1 (hl c hc).2.2.1 (hl c hc).2.2.2
  have s26 := h2'.2.2.1
  rw [if_pos st] at s26
  refine ⟨rl_c_congr (hl _ (by decide)) (hg _ (by decide)) h1, ?_, rl_z_congr (hl _ (by decide)) (hg _ (by decide)) h3, fun e e0 e1 => ?_, fun _ => ⟨rl_m_congr (hl _ (by decide)) (hg _ (by decide)) (h5 st).1, rl_p_congr (hl _ (by decide)) (h5 st).2⟩, fun z => ?_, fun z => by omega, fun z => by omega⟩
  · unfold rl_s
    rw [h69 26 (by decide) (by decide) (by decide) (by decide), h28, h29, s26]
    rcases hst with z | z
    · rw [z.1, z.2]; decide
    · rw [z.1, z.2.1]; decide
  · rw [if_pos (by omega)]; exact hu e e0 e1
  · rcases hst with w | w
    · omega
    · exact w.2.2
theorem pr_route {LS d : Nat} {μ : ma_M} (H : Rel μ) {v1 : Int} : Pr LS d mi_LatticefitLaw_route [ma_Rf 2 0, ma_I v1, ma_Rf 111 0] mi_LatticefitModel_route [ma_Rf 69 0, ma_I v1] agI μ := by
  intro Post hP
  obtain ⟨Hc, Hs, Hz, Hu, Hm, Hr, Hf, Hk⟩ := id H
  have s26 := Hs.2.2.1
  have T1 := Rel_thrown H 1
  have T2 := Rel_thrown (Rel_thrown H 0) 2
  refine gi_LatticefitLaw_route (fun R hR => s_LatticefitLaw_route_0 (d := d + 4) hR ?_)
  refine gi_Latticefit_route (fun R2 hR2 => s_Latticefit_route_0 (d := d + 4) hR2 ?_)
  have L1 : (v1 < 1 ∨ 20 < v1) → ma_ct (ma_Ox LS (d + 4 + 7)) (LS, [(0, 9, 12, 1), (0, 9, 15, 0)], 1, 2) 4 [ma_Rf 2 0, ma_I v1, ma_Rf 111 0, ma_U] [ma_I 0, ma_Rf 111 0] 2 mt_LatticefitLaw_route_7 R (ma_DD (LS, [(0, 9, 12, 1), (0, 9, 15, 0)], 1, 2) Post) (.inr 1) μ := by
    intro hc
    show R 12 [ma_Rf 2 0, ma_I v1, ma_Rf 111 0, ma_U] [ma_X 1] 2 μ
    refine g_LatticefitLaw_route_12 hR ⟨Nat.le_refl 2, hP 1 μ (fun Post2 h2 => ?_)⟩
    have fin := h2 (ma_I 0) _ T1 ma_up_eq (fun z => by omega)
    exact gi_LatticefitModel_route (fun R3 hR3 => s_LatticefitModel_route_0 (d := d + 7) hR3 ⟨fun _ => fin, fun _ => ⟨fun _ => fin, fun _ => by omega⟩⟩)
  refine ⟨fun a => L1 (.inl a), fun a => ⟨fun b => ⟨fun st => ?_, fun st => ?_⟩, fun b => L1 (.inr b)⟩⟩
  · obtain ⟨Hmm, Hpp⟩ := Hm st
    rw [if_pos st] at s26
    obtain ⟨N, hN⟩ : ∃ N : Nat, μ 3 0 10 = (N : Int) := ⟨(μ 3 0 10).toNat, by have := Hc.1; omega⟩
    obtain ⟨rr, rfl⟩ : ∃ rr : Nat, v1 = (rr : Int) := ⟨v1.toNat, by omega⟩
    have N1 : N ≤ 48 := by have := Hc.2.1; omega
    refine sp_clearR (d := d + 8) (fun m1 f1 r1 u1 p1 => k_Latticefit_route_33 hR2 ?_)
    refine sp_putPins (d := d + 7) (μ := μ) Hc Hmm Hpp (fun c c1 c2 c3 c4 c5 => by rw [f1 c c2 c3 c4 c5, ma_up_ck c1]) p1 (fun m2 f2 sr2 bs2 => k_Latticefit_route_44 hR2 ?_)
    have g2 : ∀ c : Nat, c ≠ 2 → c ≠ 42 → c ≠ 43 → c ≠ 44 → c ≠ 45 → c ≠ 46 → m2 c = μ c := fun c c1 c2 c3 c4 c5 c6 => by rw [f2 c c3 c5, f1 c c2 c4 c5 c6, ma_up_ck c1]
    have g22 : m2 2 = (ma_up μ 2 0 10 1) 2 := by rw [f2 2 (by decide) (by decide), f1 2 (by decide) (by decide) (by decide) (by decide)]
    have hpin : ∀ n x : Int, 0 ≤ n → n < N → 0 ≤ x → x < 49 → (¬ (fun n x => ma_land (ma_lshr (m2 45 0 n) x) 1) n x = 0 ↔ rl_pin μ n x) := fun n x n0 n1 x0 x1 => rt_bs_pin bs2 n0 (by omega) x0 x1
    have hsrc : ∀ n : Int, 0 ≤ n → n < N → (μ 4 0 n = 105 ∨ 0 ≤ μ 28 0 n) → m2 43 0 n = rl_src μ n := fun n n0 n1 hk => sr2 n n0 (by omega) hk
    have hs : ∀ n : Int, 0 ≤ n → n < N → rt_ns (m2 43 0) (fun n x => ma_land (ma_lshr (m2 45 0 n) x) 1) n := fun n n0 n1 x x0 x1 hx => by
      have hk := cu_pin_node Hmm ((hpin n x n0 n1 x0 x1).1 hx)
      rw [hsrc n n0 n1 hk]
      exact rt_src_rng Hc Hmm Hpp n0 (by omega) hk
    have q2 : rt_M m2 N rt_s0 (fun _ => 0) := ⟨fun n x n0 n1 x0 x1 => by rw [f2 42 (by decide) (by decide)]; exact r1 n x n0 (by omega) x0 x1, fun e e0 e1 => by rw [f2 44 (by decide) (by decide), f2 46 (by decide) (by decide)]; exact u1 e e0 e1⟩
    have RS := rt_rs_ok (N := N) (src := m2 43 0) (pin := fun n x => ma_land (ma_lshr (m2 45 0 n) x) 1) N1 hs rr 0 (fun _ => 0) rt_s0 0 (.inl ⟨rfl, by omega⟩) rt_G0 (Int.le_refl 0) (by omega) (fun e _ _ => by show (0 : Int) ≤ 0 ∧ (0 : Int) ≤ 46 * 0; decide)
    have REF := fun (Post2 : ma_R → ma_M → Prop) (M : ma_M) (c : rl_c M) (m : rl_m M) (p : rl_p M) (t : ¬ M 69 0 26 = 0) (n : M 3 0 10 = N) (s : ∀ n : Int, 0 ≤ n → n < N → (M 4 0 n = 105 ∨ 0 ≤ M 28 0 n) → m2 43 0 n = rl_src M n) (i : ∀ n x : Int, 0 ≤ n → n < N → 0 ≤ x → x < 49 → (¬ (fun n x => ma_land (ma_lshr (m2 45 0 n) x) 1) n x = 0 ↔ rl_pin M n x)) => sp_routeR (LS := LS) (d := d + 7) (Post := Post2) (rounds := rr) c m p t (by omega) (by omega) n s i hs
    refine sp_makeRounds (d := d + 4) (src := m2 43 0) (pin := fun n x => ma_land (ma_lshr (m2 45 0 n) x) 1) (by rw [g2 3 (by decide) (by decide) (by decide) (by decide) (by decide) (by decide)]; exact hN) N1 (by omega) (by omega) (fun _ _ _ => rfl) (fun _ _ _ _ _ _ => rfl) hs rt_G0 q2 (fun _ _ _ => rfl) (fun m3 f3 b3 u3 => k_Latticefit_route_52 hR2 ?_)
    generalize rt_rs N (m2 43 0) (fun n x => ma_land (ma_lshr (m2 45 0 n) x) 1) rr 0 (fun _ => 0) rt_s0 = RR at RS REF b3 u3 ⊢
    obtain ⟨made, s⟩ := RR
    refine sp_crowded (d := d + 9) (u := s.2) u3 (fun v hv => k_Latticefit_route_60 hR2 ?_)
    -- then the reference
    have TH : ∀ m4 : ma_M, (∀ c : Nat, c ≠ 2 → m4 c = m3 c) → (m4 2 0 10 = 1 ∧ ¬ rt_cr s.2 = 0 ∨ m4 2 0 10 = 2 ∧ rt_cr s.2 = 0) → ma_ct (ma_Ox LS (d + 4 + 7)) (LS, [(0, 9, 12, 1), (0, 9, 15, 0)], 1, 2) 4 [ma_Rf 2 0, ma_I rr, ma_Rf 111 0, ma_U] [ma_I 0, ma_Rf 111 0] 2 mt_LatticefitLaw_route_7 R (ma_DD (LS, [(0, 9, 12, 1), (0, 9, 15, 0)], 1, 2) Post) (.inl (some (ma_I made))) m4 := by
      intro m4 f4 s4
      refine k_LatticefitLaw_route_4 hR ⟨by omega, hP 0 _ (fun Post2 h2 => ?_)⟩
      have e0 : ∀ c : Nat, c ∉ [2, 40, 42, 43, 44, 45, 46, 47, 48, 49, 50, 111] → (ma_up m4 111 0 0 made) c = μ c := fun c hc => by
        have ne : ∀ k : Nat, k ∈ [2, 40, 42, 43, 44, 45, 46, 47, 48, 49, 50, 111] → c ≠ k := fun k hk e => hc (e ▸ hk)
        rw [ma_up_ck (ne 111 (by decide)), f4 c (ne 2 (by decide)), f3 c (ne 40 (by decide)) (ne 42 (by decide)) (ne 44 (by decide)) (ne 46 (by decide)) (ne 47 (by decide)) (ne 48 (by decide)) (ne 49 (by decide)) (ne 50 (by decide))]
        exact g2 c (ne 2 (by decide)) (ne 42 (by decide)) (ne 43 (by decide)) (ne 44 (by decide)) (ne 45 (by decide)) (ne 46 (by decide))
      have e42 : ∀ n x : Int, 0 ≤ n → n < N → 0 ≤ x → x < 49 → (ma_up m4 111 0 0 made) 42 n x = s.1 n x := fun n x a b c e => by rw [ma_up_ck (by decide), f4 42 (by decide)]; exact b3 n x a b c e
      have e44 : ∀ e : Int, 0 ≤ e → e < 84 → (ma_up m4 111 0 0 made) 44 0 e = s.2 e := fun e a b => by rw [ma_up_ck (by decide), f4 44 (by decide)]; exact u3 e a b
      have e2 : (ma_up m4 111 0 0 made) 2 0 10 = 1 ∧ ¬ rt_cr s.2 = 0 ∨ (ma_up m4 111 0 0 made) 2 0 10 = 2 ∧ rt_cr s.2 = 0 := by rw [ma_up_ck (by decide)]; exact s4
      have e111 : (ma_up m4 111 0 0 made) 111 0 0 = made := ma_up_eq
      generalize ma_up m4 111 0 0 made = M at e0 e42 e44 e2 e111 ⊢
      have hl : ∀ (l : List Nat), (∀ c ∈ l, c ∉ [2, 40, 42, 43, 44, 45, 46, 47, 48, 49, 50, 111]) → ∀ c ∈ l, M c = μ c := fun l hl c hc => e0 c (hl c hc)
      have e69 : M 69 = μ 69 := e0 69 (by decide)
      have cM : rl_c M := rl_c_congr (hl _ (by decide)) (fun f _ => by rw [e69]) Hc
      have mM : rl_m M := rl_m_congr (hl _ (by decide)) (fun f _ => by rw [e69]) Hmm
      have pM : rl_p M := rl_p_congr (hl _ (by decide)) Hpp
      have srcM : ∀ n : Int, 0 ≤ n → n < N → (M 4 0 n = 105 ∨ 0 ≤ M 28 0 n) → m2 43 0 n = rl_src M n := fun n n0 n1 hk => by
        rw [e0 4 (by decide), e0 28 (by decide)] at hk
        rw [hsrc n n0 n1 hk]
        unfold rl_src
        rw [e0 4 (by decide), e0 28 (by decide), e0 10 (by decide), e0 32 (by decide)]
      have pinM : ∀ n x : Int, 0 ≤ n → n < N → 0 ≤ x → x < 49 → (¬ (fun n x => ma_land (ma_lshr (m2 45 0 n) x) 1) n x = 0 ↔ rl_pin M n x) := fun n x n0 n1 x0 x1 => by
        rw [hpin n x n0 n1 x0 x1]
        unfold rl_pin
        rw [e0 21 (by decide), e0 25 (by decide), e0 27 (by decide), e0 32 (by decide), e0 3 (by decide), e0 13 (by decide)]
      refine REF Post2 M cM mM pM (by rw [e69, s26]; decide) (by rw [e0 3 (by decide)]; exact hN) srcM pinM (fun m' x1 x2 x3 x4 x5 x6 x7 x8 => ?_)
      have y0 : ∀ c : Nat, c ∉ rt_no → m' c = μ c := fun c hc => by
        have ne : ∀ k : Nat, k ∈ rt_no → c ≠ k := fun k hk e => hc (e ▸ hk)
        rw [x1 c (ne 69 (by decide)) (ne 91 (by decide)) (ne 92 (by decide)) (ne 93 (by decide)) (ne 94 (by decide)) (ne 95 (by decide)) (ne 96 (by decide)) (ne 97 (by decide)) (ne 98 (by decide)) (ne 99 (by decide)) (ne 100 (by decide))]
        refine e0 c (fun w => hc ?_)
        revert w
        exact (show ∀ k : Nat, k ∈ [2, 40, 42, 43, 44, 45, 46, 47, 48, 49, 50, 111] → k ∈ rt_no from by decide) c
      have xM : ∀ c : Nat, c ∈ [2, 3, 4, 10, 13, 21, 25, 27, 28, 32, 42, 44, 111] → m' c = M c := fun c hc => by
        have ne : ∀ k : Nat, k ∉ [2, 3, 4, 10, 13, 21, 25, 27, 28, 32, 42, 44, 111] → c ≠ k := fun k hk e => hk (e ▸ hc)
        exact x1 c (ne 69 (by decide)) (ne 91 (by decide)) (ne 92 (by decide)) (ne 93 (by decide)) (ne 94 (by decide)) (ne 95 (by decide)) (ne 96 (by decide)) (ne 97 (by decide)) (ne 98 (by decide)) (ne 99 (by decide)) (ne 100 (by decide))
      have h69 : ∀ f : Int, f ≠ 27 → f ≠ 28 → f ≠ 29 → f ≠ 50 → m' 69 0 f = μ 69 0 f := fun f a b c e => by rw [x2 f a b c e, e69]
      have hl' : ∀ (l : List Nat), (∀ c ∈ l, c ∉ rt_no) → ∀ c ∈ l, m' c = μ c := fun l hl c hc => y0 c (hl c hc)
      have hg' : ∀ (l : List Int), (∀ c ∈ l, c ≠ 27 ∧ c ≠ 28 ∧ c ≠ 29 ∧ c ≠ 50) → ∀ c ∈ l, m' 69 0 c = μ 69 0 c := fun l hl c hc => h69 c (hl c hc).1 (hl c hc).2.1 (hl c hc).2.2.1 (hl c hc).2.2.2
      have cM' : rl_c m' := rl_c_congr (hl' _ (by decide)) (hg' _ (by decide)) Hc
      have mM' : rl_m m' := rl_m_congr (hl' _ (by decide)) (hg' _ (by decide)) Hmm
      have pM' : rl_p m' := rl_p_congr (hl' _ (by decide)) Hpp
      refine h2 _ _ (Rel_route H st y0 h69 x3.1 x3.2.1 ?_ (fun e a b => ?_)) x3.2.2 (fun _ => ⟨_, rfl, by rw [xM 111 (by decide)]; exact e111⟩)
      · rw [xM 2 (by decide)]
        rcases x8 with z | z
        · rcases e2 with w | w
          · exact absurd z.2 w.2
          · refine .inr ⟨w.1, z.1, rt_rl_r (src := m2 43 0) (pin := fun n x => ma_land (ma_lshr (m2 45 0 n) x) 1) cM' mM' pM' (by rw [y0 3 (by decide)]; exact hN) RS.2.2 (fun n x a b c e => by rw [xM 42 (by decide)]; exact e42 n x a b c e) (fun e a b => by rw [xM 44 (by decide)]; exact e44 e a b) x5 x7 (cu_nets_congr (fun c hc => xM c (by revert hc; exact (show ∀ k : Nat, k ∈ ([3, 13, 21, 25, 27, 32] : List Nat) → k ∈ [2, 3, 4, 10, 13, 21, 25, 27, 28, 32, 42, 44, 111] from by decide) c)) x4) (fun n x a b c e => ?_) (fun n a b hk => ?_) z.2⟩
            · rw [pinM n x a b c e]
              unfold rl_pin
              rw [xM 21 (by decide), xM 25 (by decide), xM 27 (by decide), xM 32 (by decide), xM 3 (by decide), xM 13 (by decide)]
            · rw [xM 4 (by decide), xM 28 (by decide)] at hk
              rw [srcM n a b hk]
              unfold rl_src
              rw [xM 4 (by decide), xM 28 (by decide), xM 10 (by decide), xM 32 (by decide)]
        · rcases e2 with w | w
          · exact .inl ⟨w.1, z.1⟩
          · exact absurd w.2 z.2
      · have us := rt_G_u RS.2.2 N1 a b
        rw [x6 e a b, xM 44 (by decide), e44 e a b]
        exact ⟨rfl, us.1, us.2.1⟩
    have f32 : m3 2 0 10 = 1 := by rw [f3 2 (by decide) (by decide) (by decide) (by decide) (by decide) (by decide) (by decide) (by decide), g22]; exact ma_up_eq
    refine ⟨fun z => TH m3 (fun _ _ => rfl) (.inl ⟨f32, fun w => z (hv.2 w)⟩), fun z => TH _ (fun c hc => ma_up_ck hc) (.inr ⟨ma_up_eq, hv.1 z⟩)⟩
  · show R 15 [ma_Rf 2 0, ma_I v1, ma_Rf 111 0, ma_U] [ma_X 0] 2 μ
    refine g_LatticefitLaw_route_15 hR ⟨Nat.le_refl 2, hP 2 μ (fun Post2 h2 => ?_)⟩
    exact gi_LatticefitModel_route (fun R3 hR3 => s_LatticefitModel_route_0 (d := d + 7) hR3 ⟨fun _ => by omega, fun _ => ⟨fun _ => by omega, fun _ => ⟨fun q => absurd (by rw [s26, if_neg (by omega)]) q, fun _ => h2 (ma_I 0) _ T2 ma_up_eq (fun z => by omega)⟩⟩⟩)
