/-! anneal; route -/
def mp_l : List Nat := [1, 3, 4, 5, 6, 7, 8, 9, 10, 11, 12, 13, 20, 21, 22, 23, 24, 25, 27, 28, 29]
theorem mp_congr {μ μ' : ma_M} (h : ∀ k ∈ mp_l, μ' k = μ k) : mp μ → mp μ' := by
  intro ⟨Hc, Hz, Hm, u, ⟨F1, F2, F3, F4, F5⟩, Hr, e⟩
  have hl : ∀ (l : List Nat), (∀ c ∈ l, c ∈ mp_l) → ∀ c ∈ l, μ' c = μ c := fun l hl c hc => h c (hl c hc)
  have e3 := h 3 (by decide)
  have e21 := h 21 (by decide)
  refine ⟨rl_c_congr (hl _ (by decide)) Hc, rl_z_congr (hl _ (by decide)) Hz, rl_m_congr (hl _ (by decide)) Hm, u, ⟨rl_c_congr (hl _ (by decide)) F1, cu_blk_congr (hl _ (by decide)) F2, by rw [e3]; exact cu_P1_congr (hl _ (by decide)) (hl _ (by decide)) F3, by rw [e3]; exact cu_P2_congr (hl _ (by decide)) (hl _ (by decide)) F4, cu_P3_congr (hl _ (by decide)) (h 28 (by decide)) F5⟩, cu_row29_congr (hl _ (by decide)) (h 29 (by decide)) Hr, by rw [e3, e21]; exact e⟩
def an_l : List Nat := [2, 32, 33, 35, 36, 37, 38, 39]
theorem sp_anneal {LS d : Nat} {Post : ma_R → ma_M → Prop} {μ : ma_M} {v1 v2 v3 : Int} (H : mp μ) (Hp : rl_p μ) (st : μ 2 0 10 = 1) (a1 : 0 ≤ v1 ∧ v1 < 2147483648) (a2 : 1 ≤ v2 ∧ v2 ≤ 200) (a3 : 1 ≤ v3 ∧ v3 ≤ 50) (h : ∀ (s : Int) (m : ma_M), 0 ≤ s → mp m → rl_p m → (∀ c : Nat, c ∉ an_l → m c = μ c) → m 2 0 10 = 1 → Post (.inl (some (ma_I s))) m) : ma_Ox LS (d + 7) mi_LatticefitLaw_anneal [ma_Rf 2 0, ma_I v1, ma_I v2, ma_I v3] μ Post := by
  obtain ⟨Hc, Hz, Hm, -⟩ := id H
  refine gi_LatticefitLaw_anneal (fun R hR => s_LatticefitLaw_anneal_0 (d := d) hR ?_)
  refine gi_Latticefit_anneal (fun R2 hR2 => s_Latticefit_anneal_0 (d := d) hR2 ?_)
  refine ⟨fun q => by omega, fun _ => ⟨fun q => by omega, fun _ => ⟨fun q => by omega, fun _ => ⟨fun q => by omega, fun _ => ⟨fun _ => ⟨fun _ => ?_, fun q => by omega⟩, fun q => by omega⟩⟩⟩⟩⟩
  have Hl := cu_pl_of Hp
  obtain ⟨n, en⟩ : ∃ n : Nat, v2 = (n : Int) := ⟨v2.toNat, by omega⟩
  subst en
  refine sp_swapByChance (d := d) Hc Hm Hp a1.1 a1.2 a3.1 a3.2 (by omega) (fun g m ok hat => k_Latticefit_anneal_47 (d := d) hR2 ?_)
  have nr := an_N_rng μ v1 g n
  have pl := an_S_pl (g := g) a1.1 a1.2 Hl n
  obtain ⟨h1, h33, h32, h32r⟩ := hat
  have go : ∀ M : ma_M, (∀ k : Nat, k ≠ 2 → M k = m k) → M 2 0 10 = 1 → Post (.inl (some (ma_I (an_N μ v1 g n)))) M := by
    intro M hM hst
    have fr : ∀ c : Nat, c ∉ an_l → M c = μ c := fun c hc => by
      simp only [an_l, List.mem_cons, List.not_mem_nil, or_false, not_or] at hc
      rw [hM c hc.1, h1 c hc.2.1 hc.2.2.1 hc.2.2.2.1 hc.2.2.2.2.1 hc.2.2.2.2.2.1 hc.2.2.2.2.2.2.1 hc.2.2.2.2.2.2.2]
    refine h _ M nr.1 (mp_congr (fun k hk => fr k (by revert hk; revert k; decide)) H) ⟨fun k k0 k1 => ?_, fun x x0 x1 => ?_⟩ fr hst
    · rw [fr 21 (by decide)] at k1
      have p := pl.1 k k0 k1
      have h0 := Hp.1 k k0 k1
      rw [hM 32 (by decide), hM 33 (by decide), h33, h32, fr 34 (by decide)]
      exact ⟨rfl, p.1, p.2.1, p.2.2, h0.2.2.2.2⟩
    · have p := pl.2 x x0 x1
      rw [hM 32 (by decide), hM 33 (by decide), h33, h32, fr 21 (by decide)]
      exact ⟨rfl, p⟩
  have m2 : m 2 = μ 2 := h1 2 (by decide) (by decide) (by decide) (by decide) (by decide) (by decide) (by decide)
  exact ⟨fun z => k_LatticefitLaw_anneal_4 (d := d) hR (go m (fun _ _ => rfl) (by rw [m2]; exact st)), fun z => k_LatticefitLaw_anneal_4 (d := d) hR (go _ (fun k hk => ma_up_ck hk) ma_up_eq)⟩
theorem rt_rl_r {m : ma_M} {N : Nat} {s : rt_st} {src : Int → Int} {pin : Int → Int → Int} (Hc : rl_c m) (Hm : rl_m m) (Hp : rl_p m) (hN : m 3 0 10 = N) (G : rt_G N src pin s N) (h42 : ∀ n x : Int, 0 ≤ n → n < N → 0 ≤ x → x < 49 → m 42 n x = s.1 n x) (h44 : ∀ e : Int, 0 ≤ e → e < 84 → m 44 0 e = s.2 e) (hpin : ∀ n x : Int, 0 ≤ n → n < N → 0 ≤ x → x < 49 → (¬ pin n x = 0 ↔ rl_pin m n x)) (hsrc : ∀ n : Int, 0 ≤ n → n < N → (m 4 0 n = 105 ∨ 0 ≤ m 28 0 n) → src n = rl_src m n) (cr : rt_cr s.2 = 0) : rl_r m := by
  refine ⟨fun n n0 n1 => ?_, fun e e0 e1 => ⟨?_, ?_⟩⟩
  · rw [hN] at n1
    have nt := rl_ne_01 m n
    have row : ∀ x : Int, 0 ≤ x → x < 49 → m 42 n x = s.1 n x := fun x x0 x1 => h42 n x n0 n1 x0 x1
    have g3 := G.2.2 n n0 n1 n1
    have one : rl_ne m n = 1 → rt_S (rl_src m n) (s.1 n) ∧ ∀ x, rl_pin m n x → rt_A (rl_src m n) (s.1 n) x := fun z => by
      obtain ⟨x, hx⟩ := nt.2.1 z
      have hk := cu_pin_node Hm hx
      have es := hsrc n n0 n1 hk
      have xr := cu_pin_rng Hc (cu_q_of Hp) hx
      rw [← es]
      refine ⟨(g3.2 x xr.1 xr.2 ((hpin n x n0 n1 xr.1 xr.2).2 hx)).1, fun y hy => ?_⟩
      have yr := cu_pin_rng Hc (cu_q_of Hp) hy
      exact (g3.2 y yr.1 yr.2 ((hpin n y n0 n1 yr.1 yr.2).2 hy)).2
    have zero : rl_ne m n = 0 → ∀ x : Int, 0 ≤ x → x < 49 → s.1 n x = -1 := fun z => g3.1 (fun x x0 x1 => by
      apply Classical.byContradiction
      intro w
      have := nt.2.2 ⟨x, (hpin n x n0 n1 x0 x1).1 w⟩
      omega)
    refine ⟨nt.1, nt.2, fun x x0 x1 => ?_, fun e e0 e1 => ?_, ?_, fun x hx => ?_, fun z => ?_⟩
    · rw [row x x0 x1]
      rcases nt.1 with z | z
      · have := zero z x x0 x1
        exact ⟨by omega, by omega, fun _ => this, fun w => by omega, fun w => by omega⟩
      · have := (one z).1.2.2.2.1 x x0 x1
        exact ⟨this.1, this.2.1, fun w => by omega, fun _ => rfl, this.2.2⟩
    · have lo := rl_lo_rng e0 e1
      have hi := rl_hi_rng e0 e1
      have hed : rl_ed m n e = rt_i (s.1 n) e := by
        unfold rl_ed rt_i
        rw [row _ lo.1 lo.2.1, row _ hi.1 hi.2.1]
      rw [hed, row _ lo.1 lo.2.1, row _ hi.1 hi.2.1]
      have ii := rt_i_rng (b := s.1 n) (e := e)
      refine ⟨ii, fun _ => ?_, fun z => rt_i_no e0 e1 (zero z), fun w => ?_⟩
      · unfold rt_i
        by_cases c : s.1 n (rl_lo e) = e ∨ s.1 n (rl_hi e) = e
        · rw [if_pos c]; exact ⟨fun _ => c, fun _ => rfl⟩
        · rw [if_neg c]; exact ⟨fun z => by omega, fun z => absurd z c⟩
      · rcases nt.1 with z | z
        · have := zero z _ lo.1 lo.2.1; omega
        · obtain ⟨f, hf⟩ := (one z).1.2.2.2.2
          have a := (hf _ lo.1 lo.2.1).2.2 (by omega)
          have c := (hf _ hi.1 hi.2.1).2.2 (by omega)
          rw [w.1, show wy_o e (rl_lo e) = rl_hi e from by unfold wy_o; omega] at a
          rw [w.2, show wy_o e (rl_hi e) = rl_lo e from by unfold wy_o; omega] at c
          omega
    · rcases nt.1 with z | z
      · refine ⟨fun _ => 0, fun x x0 x1 => ⟨Int.le_refl _, by show (0 : Int) < 49; decide, fun w => ?_⟩⟩
        rw [row x x0 x1, zero z x x0 x1] at w; omega
      · obtain ⟨f, hf⟩ := (one z).1.2.2.2.2
        refine ⟨f, fun x x0 x1 => ?_⟩
        have a := hf x x0 x1
        refine ⟨a.1, a.2.1, fun w => ?_⟩
        rw [row x x0 x1] at w ⊢
        have v := (one z).1.2.2.2.1 x x0 x1
        have ot := rt_oth w v.2.1 (v.2.2 w)
        have c := a.2.2 w
        unfold wy_o at c ot
        refine ⟨c.1, ?_⟩
        rw [row _ ot.1 ot.2.1]
        rcases c.2 with q | q
        · exact .inr q
        · exact .inl q
    · have z := nt.2.2 ⟨x, hx⟩
      have xr := cu_pin_rng Hc (cu_q_of Hp) hx
      rw [row x xr.1 xr.2]
      exact (one z).2 x hx
    · have S := (one z).1
      rw [row _ S.1 S.2.1]; exact S.2.2.1
  · have lo := rl_lo_rng e0 e1
    have hi := rl_hi_rng e0 e1
    rw [h44 e e0 e1, G.2.1 e e0 e1, hN, Int.toNat_natCast]
    unfold rl_ct
    exact ma_sum_cong N (fun i i0 i1 => by
      show rt_i (s.1 i) e = if m 42 i (rl_lo e) = e ∨ m 42 i (rl_hi e) = e then 1 else 0
      rw [h42 i _ i0 i1 lo.1 lo.2.1, h42 i _ i0 i1 hi.1 hi.2.1]; rfl)
  · rw [h44 e e0 e1]; exact rt_cr_0.1 cr e e0 e1
theorem rt_rs_cr {N : Nat} {src : Int → Int} {pin : Int → Int → Int} : ∀ (k : Nat) (r : Int) (p : Int → Int) (s : rt_st), r ≤ (rt_rs N src pin k r p s).1 ∧ (1 ≤ k → r + 1 ≤ (rt_rs N src pin k r p s).1) ∧ (rt_rs N src pin k r p s).1 ≤ r + k ∧ (¬ rt_cr (rt_rs N src pin k r p s).2.2 = 0 → (rt_rs N src pin k r p s).1 = r + k)
  | 0, r, p, s => by
    show r ≤ r ∧ (1 ≤ 0 → r + 1 ≤ r) ∧ r ≤ r + ((0 : Nat) : Int) ∧ (_ → r = r + ((0 : Nat) : Int))
    exact ⟨by omega, fun z => by omega, by omega, fun _ => by omega⟩
  | k + 1, r, p, s => by
    rw [show rt_rs N src pin (k + 1) r p s = (if rt_cr (rt_nets (r + 1) p src pin s N).2 = 0 then (r + 1, rt_nets (r + 1) p src pin s N) else rt_rs N src pin k (r + 1) (rt_pr p (rt_nets (r + 1) p src pin s N).2) (rt_nets (r + 1) p src pin s N)) from rfl]
    by_cases c : rt_cr (rt_nets (r + 1) p src pin s N).2 = 0
    · rw [if_pos c]
      exact ⟨by show r ≤ r + 1; omega, fun _ => by show r + 1 ≤ r + 1; omega, by show r + 1 ≤ r + ((k + 1 : Nat) : Int); omega, fun z => absurd c z⟩
    · rw [if_neg c]
      obtain ⟨a1, a2, a3, a4⟩ := rt_rs_cr (N := N) (src := src) (pin := pin) k (r + 1) (rt_pr p (rt_nets (r + 1) p src pin s N).2) (rt_nets (r + 1) p src pin s N)
      exact ⟨by omega, fun _ => a1, by omega, fun z => by have := a4 z; omega⟩
def rt_l : List Nat := [2, 40, 42, 43, 44, 45, 46, 47, 48, 49, 50]
theorem sp_route {LS d : Nat} {Post : ma_R → ma_M → Prop} {μ : ma_M} (H : mp μ) (Hp : rl_p μ) (st : 1 ≤ μ 2 0 10) (h : ∀ (v : Int) (m : ma_M), 1 ≤ v → v ≤ 20 → mp m → rl_p m → (∀ c : Nat, c ∉ rt_l → m c = μ c) → (m 2 0 10 = 1 ∧ v = 20 ∨ m 2 0 10 = 2 ∧ rl_r m) → Post (.inl (some (ma_I v))) m) : ma_Ox LS (d + 8) mi_LatticefitLaw_route [ma_Rf 2 0, ma_I 20] μ Post := by
  obtain ⟨Hc, Hz, Hmm, -⟩ := id H
  refine gi_LatticefitLaw_route (fun R hR => s_LatticefitLaw_route_0 (d := d) hR ?_)
  refine gi_Latticefit_route (fun R2 hR2 => s_Latticefit_route_0 (d := d) hR2 ?_)
  refine ⟨fun a => by omega, fun _ => ⟨fun _ => ⟨fun _ => ?_, fun q => by omega⟩, fun a => by omega⟩⟩
  obtain ⟨N, hN⟩ : ∃ N : Nat, μ 3 0 10 = (N : Int) := ⟨(μ 3 0 10).toNat, by have := Hc.1; omega⟩
  have N1 : N ≤ 48 := by have := Hc.2.1; omega
  refine sp_clearR (d := d + 4) (fun m1 f1 r1 u1 p1 => k_Latticefit_route_33 (d := d) hR2 ?_)
  refine sp_putPins (d := d + 3) (μ := μ) Hc Hmm Hp (fun c c1 c2 c3 c4 c5 => by rw [f1 c c2 c3 c4 c5, ma_up_ck c1]) p1 (fun m2 f2 sr2 bs2 => k_Latticefit_route_44 (d := d) hR2 ?_)
  have g2 : ∀ c : Nat, c ≠ 2 → c ≠ 42 → c ≠ 43 → c ≠ 44 → c ≠ 45 → c ≠ 46 → m2 c = μ c := fun c c1 c2 c3 c4 c5 c6 => by rw [f2 c c3 c5, f1 c c2 c4 c5 c6, ma_up_ck c1]
  have g22 : m2 2 = (ma_up μ 2 0 10 1) 2 := by rw [f2 2 (by decide) (by decide), f1 2 (by decide) (by decide) (by decide) (by decide)]
  have hpin : ∀ n x : Int, 0 ≤ n → n < N → 0 ≤ x → x < 49 → (¬ (fun n x => ma_land (ma_lshr (m2 45 0 n) x) 1) n x = 0 ↔ rl_pin μ n x) := fun n x n0 n1 x0 x1 => rt_bs_pin bs2 n0 (by omega) x0 x1
  have hsrc : ∀ n : Int, 0 ≤ n → n < N → (μ 4 0 n = 105 ∨ 0 ≤ μ 28 0 n) → m2 43 0 n = rl_src μ n := fun n n0 n1 hk => sr2 n n0 (by omega) hk
  have hs : ∀ n : Int, 0 ≤ n → n < N → rt_ns (m2 43 0) (fun n x => ma_land (ma_lshr (m2 45 0 n) x) 1) n := fun n n0 n1 x x0 x1 hx => by
    have hk := cu_pin_node Hmm ((hpin n x n0 n1 x0 x1).1 hx)
    rw [hsrc n n0 n1 hk]
    exact rt_src_rng Hc Hmm Hp n0 (by omega) hk
  have q2 : rt_M m2 N rt_s0 (fun _ => 0) := ⟨fun n x n0 n1 x0 x1 => by rw [f2 42 (by decide) (by decide)]; exact r1 n x n0 (by omega) x0 x1, fun e e0 e1 => by rw [f2 44 (by decide) (by decide), f2 46 (by decide) (by decide)]; exact u1 e e0 e1⟩
  have RS := rt_rs_ok (N := N) (src := m2 43 0) (pin := fun n x => ma_land (ma_lshr (m2 45 0 n) x) 1) N1 hs 20 0 (fun _ => 0) rt_s0 0 (.inl ⟨rfl, by omega⟩) rt_G0 (Int.le_refl 0) (by omega) (fun e _ _ => by show (0 : Int) ≤ 0 ∧ (0 : Int) ≤ 46 * 0; decide)
  have CR := rt_rs_cr (N := N) (src := m2 43 0) (pin := fun n x => ma_land (ma_lshr (m2 45 0 n) x) 1) 20 0 (fun _ => 0) rt_s0
  refine sp_makeRounds (d := d) (allowed := 20) (src := m2 43 0) (pin := fun n x => ma_land (ma_lshr (m2 45 0 n) x) 1) (by rw [g2 3 (by decide) (by decide) (by decide) (by decide) (by decide) (by decide)]; exact hN) N1 (by omega) (by omega) (fun _ _ _ => rfl) (fun _ _ _ _ _ _ => rfl) hs rt_G0 q2 (fun _ _ _ => rfl) (fun m3 f3 b3 u3 => k_Latticefit_route_52 (d := d) hR2 ?_)
  generalize rt_rs N (m2 43 0) (fun n x => ma_land (ma_lshr (m2 45 0 n) x) 1) 20 0 (fun _ => 0) rt_s0 = RR at RS CR b3 u3 ⊢
  obtain ⟨made, s⟩ := RR
  obtain ⟨C1, C2, C3, C4⟩ := CR
  have C2 : 0 + 1 ≤ made := C2 (by omega)
  have C3 : made ≤ 0 + ((20 : Nat) : Int) := C3
  have C4 : ¬ rt_cr s.2 = 0 → made = 0 + ((20 : Nat) : Int) := C4
  refine sp_crowded (d := d + 5) (u := s.2) u3 (fun v hv => k_Latticefit_route_60 (d := d) hR2 ?_)
  have TH : ∀ m4 : ma_M, (∀ c : Nat, c ≠ 2 → m4 c = m3 c) → (m4 2 0 10 = 1 ∧ ¬ rt_cr s.2 = 0 ∨ m4 2 0 10 = 2 ∧ rt_cr s.2 = 0) → Post (.inl (some (ma_I made))) m4 := by
    intro m4 f4 s4
    have e0 : ∀ c : Nat, c ∉ rt_l → m4 c = μ c := fun c hc => by
      have ne : ∀ k : Nat, k ∈ rt_l → c ≠ k := fun k hk e => hc (e ▸ hk)
      rw [f4 c (ne 2 (by decide)), f3 c (ne 40 (by decide)) (ne 42 (by decide)) (ne 44 (by decide)) (ne 46 (by decide)) (ne 47 (by decide)) (ne 48 (by decide)) (ne 49 (by decide)) (ne 50 (by decide))]
      exact g2 c (ne 2 (by decide)) (ne 42 (by decide)) (ne 43 (by decide)) (ne 44 (by decide)) (ne 45 (by decide)) (ne 46 (by decide))
    have hl : ∀ (l : List Nat), (∀ c ∈ l, c ∉ rt_l) → ∀ c ∈ l, m4 c = μ c := fun l hl c hc => e0 c (hl c hc)
    have MM := mp_congr (μ' := m4) (hl _ (by decide)) H
    have PP : rl_p m4 := rl_p_congr (hl _ (by decide)) Hp
    refine h made m4 (by omega) (by omega) MM PP e0 ?_
    rcases s4 with w | w
    · exact .inl ⟨w.1, by have := C4 w.2; omega⟩
    · refine .inr ⟨w.1, rt_rl_r (src := m2 43 0) (pin := fun n x => ma_land (ma_lshr (m2 45 0 n) x) 1) MM.1 MM.2.2.1 PP (by rw [e0 3 (by decide)]; exact hN) RS.2.2 (fun n x a b c e => by rw [f4 42 (by decide)]; exact b3 n x a b c e) (fun e a b => by rw [f4 44 (by decide)]; exact u3 e a b) (fun n x a b c e => ?_) (fun n a b hk => ?_) w.2⟩
      · rw [rl_pin_congr (hl _ (by decide))]; exact hpin n x a b c e
      · rw [rl_src_congr (hl _ (by decide))]
        rw [e0 4 (by decide), e0 28 (by decide)] at hk
        exact hsrc n a b hk
  have m32 : m3 2 0 10 = 1 := by
    rw [f3 2 (by decide) (by decide) (by decide) (by decide) (by decide) (by decide) (by decide) (by decide), g22]; exact ma_up_eq
  exact ⟨fun q => k_LatticefitLaw_route_2 (d := d) hR (TH m3 (fun _ _ => rfl) (.inl ⟨m32, fun z => q (hv.2 z)⟩)), fun q => k_LatticefitLaw_route_2 (d := d) hR (TH _ (fun c hc => ma_up_ck hc) (.inr ⟨ma_up_eq, hv.1 q⟩))⟩
