/-! the cost: the reference; both -/
theorem cu_pin_node {μ : ma_M} (Hm : rl_m μ) {n x : Int} (h : rl_pin μ n x) : μ 4 0 n = 105 ∨ 0 ≤ μ 28 0 n := by
  obtain ⟨_, _, _, _, hb, ho, _⟩ := Hm
  rcases h with ⟨b, k, b0, b1, k0, k1, e, _⟩ | ⟨o, o0, o1, e, _⟩
  · have bi := hb b b0 b1
    unfold rl_b1 at bi
    have := (bi.2.2.2.2.2.2.2.2.1 k k0 k1).2.2.2.1
    rw [e] at this; exact this
  · have := ho o o0 o1
    rw [e] at this; exact this
theorem sp_length {LS d : Nat} {Post : ma_R → ma_M → Prop} {μ m : ma_M} (Hc : rl_c μ) (Hm : rl_m μ) (Hp : rl_p μ) (hf : ∀ c : Nat, 70 ≤ c → c ≠ 92 → c ≠ 93 → m c = μ c) (hn : cu_nets μ m) {n : Int} (n0 : 0 ≤ n) (n1 : n < μ 3 0 10) (hp : ∃ x, rl_pin μ n x)
    (h : ∀ L : Int, cu_len μ n L → Post (.inl (some (ma_I L))) m) :
    ma_Ox LS (d + 3) mi_LatticefitModel_length [ma_Rf 69 0, ma_I n] m Post := by
  have N1 := Hc.2.1
  have sr := cu_src_rng Hc Hm (cu_q_of Hp) n0 n1
  have Sr : ∀ x, cu_S μ n x → 0 ≤ x ∧ x < 49 := fun x hx => by
    rcases hx with hx | hx
    · rw [hx]; exact sr
    · exact cu_pin_rng Hc (cu_q_of Hp) hx
  refine gi_LatticefitModel_length (fun R hR => s_LatticefitModel_length_0 hR ?_)
  have lp : ∀ (k x : Nat) (w e s o : Int), x + k = 49 → (0 ≤ w ∧ w ≤ 6 ∧ 0 ≤ e ∧ e ≤ 6 ∧ 0 ≤ s ∧ s ≤ 6 ∧ 0 ≤ o ∧ o ≤ 6) → (∀ z : Int, cu_S μ n z → z < x → w ≤ cu_col z ∧ cu_col z ≤ e ∧ s ≤ cu_rw z ∧ cu_rw z ≤ o) → (w = 6 ∨ ∃ z, cu_S μ n z ∧ cu_col z = w) → (e = 0 ∨ ∃ z, cu_S μ n z ∧ cu_col z = e) → (s = 6 ∨ ∃ z, cu_S μ n z ∧ cu_rw z = s) → (o = 0 ∨ ∃ z, cu_S μ n z ∧ cu_rw z = o) → R 15 [ma_Rf 69 0, ma_I n, ma_I w, ma_I e, ma_I s, ma_I o, ma_I x] [] 0 m := by
    intro k
    induction k with
    | zero =>
      intro x w e s o hx hr hb h1 h2 h3 h4
      have src : cu_S μ n (cu_src μ n) := .inl rfl
      have bs := hb _ src (by omega)
      have cr : 0 ≤ cu_col (cu_src μ n) ∧ cu_col (cu_src μ n) ≤ 6 ∧ 0 ≤ cu_rw (cu_src μ n) ∧ cu_rw (cu_src μ n) ≤ 6 := by unfold cu_col cu_rw; omega
      refine s_LatticefitModel_length_15 hR ⟨fun _ => ⟨by omega, by omega, by omega, h _ ⟨w, e, s, o, ⟨fun z hz => ?_, ?_, ?_⟩, ⟨fun z hz => ?_, ?_, ?_⟩, by omega⟩⟩, fun q => by omega⟩
      · have := Sr z hz; have := hb z hz (by omega); omega
      · rcases h1 with q | q
        · exact ⟨_, src, by omega⟩
        · exact q
      · rcases h2 with q | q
        · exact ⟨_, src, by omega⟩
        · exact q
      · have := Sr z hz; have := hb z hz (by omega); omega
      · rcases h3 with q | q
        · exact ⟨_, src, by omega⟩
        · exact q
      · rcases h4 with q | q
        · exact ⟨_, src, by omega⟩
        · exact q
    | succ k ih =>
      intro x w e s o hx hr hb h1 h2 h3 h4
      obtain ⟨a1, a2⟩ := hn n n0 n1
      obtain ⟨b1, b2⟩ := a2 x (by omega) (by omega)
      have xc : Int.tdiv (x : Int) 7 = cu_col x := td_nn (by omega)
      have xr : Int.tmod (x : Int) 7 = cu_rw x := tm_nn (by omega)
      have cr : 0 ≤ cu_col x ∧ cu_col x ≤ 6 ∧ 0 ≤ cu_rw x ∧ cu_rw x ≤ 6 := by unfold cu_col cu_rw; omega
      have inS : cu_S μ n x → R 15 [ma_Rf 69 0, ma_I n, ma_I (if cu_col x < w then cu_col x else w), ma_I (if e < cu_col x then cu_col x else e), ma_I (if cu_rw x < s then cu_rw x else s), ma_I (if o < cu_rw x then cu_rw x else o), ma_I ((x : Int) + 1)] [] 0 m := by
        intro hS
        rw [show ((x : Nat) : Int) + 1 = ((x + 1 : Nat) : Int) from by omega]
        refine ih (x + 1) _ _ _ _ (by omega) ?_ (fun z hz hz2 => ?_) ?_ ?_ ?_ ?_
        · refine ⟨?_, ?_, ?_, ?_, ?_, ?_, ?_, ?_⟩ <;> split <;> omega
        · by_cases q : z = x
          · rw [q]; refine ⟨?_, ?_, ?_, ?_⟩ <;> split <;> omega
          · have := hb z hz (by omega)
            refine ⟨?_, ?_, ?_, ?_⟩ <;> split <;> omega
        · split
          · exact .inr ⟨x, hS, rfl⟩
          · exact h1
        · split
          · exact .inr ⟨x, hS, rfl⟩
          · exact h2
        · split
          · exact .inr ⟨x, hS, rfl⟩
          · exact h3
        · split
          · exact .inr ⟨x, hS, rfl⟩
          · exact h4
      have outS : ¬ cu_S μ n x → R 15 [ma_Rf 69 0, ma_I n, ma_I w, ma_I e, ma_I s, ma_I o, ma_I ((x : Int) + 1)] [] 0 m := by
        intro hS
        rw [show ((x : Nat) : Int) + 1 = ((x + 1 : Nat) : Int) from by omega]
        refine ih (x + 1) _ _ _ _ (by omega) hr (fun z hz hz2 => ?_) h1 h2 h3 h4
        by_cases q : z = x
        · rw [q] at hz; exact absurd hz hS
        · exact hb z hz (by omega)
      have e70 : m 70 0 n = μ 4 0 n := by rw [hf 70 (by decide) (by decide) (by decide)]; exact (Hc.2.2.2.2.2.2.2.2.2.2.2.2.1 n n0 n1).1
      refine s_LatticefitModel_length_15 hR ⟨fun q => by omega, fun _ => ?_⟩
      rw [xc, xr, e70]
      refine ⟨by omega, by omega, by omega, fun q => ⟨by omega, by omega, inS (.inr (b2.1 (by omega)))⟩, fun q => ⟨by omega, fun q1 => ?_, fun q1 => ?_⟩⟩
      · obtain ⟨y, hy⟩ := hp
        have nd : 0 ≤ μ 28 0 n := by rcases cu_pin_node Hm hy with z | z; exact absurd z q1; exact z
        have mm := Hm.2.2.2.1 n n0 n1
        have pp := Hp.1 (μ 28 0 n) nd mm.2.2.2.2.2.2.1
        have e81 : m 81 0 n = μ 28 0 n := by rw [hf 81 (by decide) (by decide) (by decide)]; exact mm.2.2.2.2.1
        have e85 : m 85 0 (μ 28 0 n) = μ 32 0 (μ 28 0 n) := by rw [hf 85 (by decide) (by decide) (by decide)]; exact pp.1
        have xr2 := rl_x_rng pp.2.1 pp.2.2.1
        have es : cu_src μ n = rl_x (μ 32 0 (μ 28 0 n)) := by unfold cu_src; rw [if_neg q1, if_pos nd]
        have B1 := Hm.2.1
        rw [e81, e85, rl_x_t pp.2.1, ← es]
        refine ⟨by omega, by rw [td_nn pp.2.1]; omega, by rw [td_nn pp.2.1]; omega, by omega, fun q2 => ⟨by omega, outS ?_⟩, fun q2 => ⟨by omega, by omega, inS (.inl q2)⟩⟩
        intro z
        rcases z with z | z
        · exact q2 z
        · have := b2.2 z; omega
      · have e75 : m 75 0 n = μ 10 0 n := by rw [hf 75 (by decide) (by decide) (by decide)]; exact ((Hc.2.2.2.2.2.2.2.2.2.2.2.2.1 n n0 n1).2.2.1 q1).1
        have es : cu_src μ n = μ 10 0 n := by unfold cu_src; rw [if_pos q1]
        rw [e75, ← es]
        refine ⟨fun q2 => ⟨by omega, outS ?_⟩, fun q2 => ⟨by omega, by omega, inS (.inl q2)⟩⟩
        intro z
        rcases z with z | z
        · exact q2 z
        · have := b2.2 z; omega
  exact lp 49 0 6 0 6 0 (by omega) (by omega) (fun z hz hz2 => by have := Sr z hz; omega) (.inl rfl) (.inl rfl) (.inl rfl) (.inl rfl)
theorem sp_costNow {LS d : Nat} {Post : ma_R → ma_M → Prop} {μ m0 : ma_M} (hv : ∀ c : Nat, 69 ≤ c → m0 c = μ c) (Hc : rl_c μ) (Hm : rl_m μ) (Hp : rl_p μ)
    (h : ∀ (v : Int) (m : ma_M), (∀ c : Nat, c ≠ 92 → c ≠ 93 → m c = m0 c) → cu_nets μ m → cu_cost μ v → Post (.inl (some (ma_I v))) m) :
    ma_Ox LS (d + 4) mi_LatticefitModel_costNow [ma_Rf 69 0] m0 Post := by
  have N0 := Hc.1
  have N1 := Hc.2.1
  have n8 := Hc.2.2.2.2.2.2.2.2.1
  refine gi_LatticefitModel_costNow (fun R hR => s_LatticefitModel_costNow_0 hR (sp_findsNets (d := d + 1) hv Hc Hm Hp (fun m hf hn => k_LatticefitModel_costNow_1 hR ?_)))
  have e69 : m 69 = μ 69 := (hf 69 (by decide) (by decide)).trans (hv 69 (by decide))
  have lp : ∀ (k i : Nat) (v : Int), (i : Int) + k = μ 3 0 10 → (∃ f : Int → Int, (∀ n : Int, 0 ≤ n → n < i → cu_len μ n (f n)) ∧ v = ma_sum f i) → R 8 [ma_Rf 69 0, ma_I v, ma_I i] [] 0 m := by
    intro k
    induction k with
    | zero =>
      intro i v hi ⟨f, f1, f2⟩
      refine s_LatticefitModel_costNow_8 hR ⟨fun _ => h v m hf hn ⟨f, fun n n0 n1 => f1 n n0 (by omega), by rw [show (μ 3 0 10).toNat = i from by omega]; exact f2⟩, fun q => by rw [e69, n8] at q; omega⟩
    | succ k ih =>
      intro i v hi ⟨f, f1, f2⟩
      have iN : (i : Int) < μ 3 0 10 := by omega
      obtain ⟨⟨a1, a2⟩, _⟩ := hn i (by omega) iN
      have sr := ma_sum_rng (f := f) (b := 12) i (fun n n0 n1 => cu_len_rng Hc Hm (cu_q_of Hp) n0 (by omega) (f1 n n0 n1))
      have nx : ∀ L : Int, cu_len μ i L → R 8 [ma_Rf 69 0, ma_I (v + L), ma_I ((i : Int) + 1)] [] 0 m := by
        intro L hL
        rw [show ((i : Nat) : Int) + 1 = ((i + 1 : Nat) : Int) from by omega]
        refine ih (i + 1) _ (by omega) ⟨fun n => if n = i then L else f n, fun n n0 n1 => ?_, ?_⟩
        · by_cases e : n = i
          · show cu_len μ n (if n = i then L else f n)
            rw [if_pos e, e]; exact hL
          · show cu_len μ n (if n = i then L else f n)
            rw [if_neg e]; exact f1 n n0 (by omega)
        · show v + L = ma_sum (fun n => if n = i then L else f n) i + (if (i : Int) = i then L else f i)
          rw [if_pos rfl, f2, ma_sum_cong (f := fun n => if n = (i : Int) then L else f n) (g := f) i (fun n n0 n1 => if_neg (by omega))]
      refine s_LatticefitModel_costNow_8 hR ⟨fun q => by rw [e69, n8] at q; omega, fun _ => ⟨by omega, fun q => ⟨by omega, by omega, nx 0 ?_⟩, fun q => ?_⟩⟩
      · have none : ∀ x, ¬ rl_pin μ i x := fun x hx => by have := a2.2 ⟨x, hx⟩; omega
        have eq : ∀ x, cu_S μ i x ↔ x = cu_src μ i := fun x => ⟨fun w => by rcases w with w | w; exact w; exact absurd w (none x), .inl⟩
        exact ⟨_, _, _, _, cu_mm_one (f := cu_col) eq, cu_mm_one (f := cu_rw) eq, by omega⟩
      · refine sp_length (d := d) Hc Hm Hp (fun c c1 c2 c3 => (hf c c2 c3).trans (hv c (by omega))) hn (by omega) iN (a2.1 (by omega)) (fun L hL => ?_)
        have := cu_len_rng Hc Hm (cu_q_of Hp) (by omega) iN hL
        exact k_LatticefitModel_costNow_28 hR ⟨by omega, by omega, nx L hL⟩
  exact lp (μ 3 0 10).toNat 0 0 (by omega) ⟨fun _ => 0, fun n n0 n1 => by omega, rfl⟩
/-- a routed circuit stays routed when the nets are found anew -/
theorem cu_rl_r {μ m : ma_M} (H : rl_r μ) (hf : ∀ c ∈ ([3, 4, 10, 13, 21, 25, 27, 28, 32, 42, 44, 91, 95] : List Nat), m c = μ c) (h92 : ∀ n : Int, 0 ≤ n → n < μ 3 0 10 → m 92 0 n = μ 92 0 n) : rl_r m := by
  have e3 := hf 3 (by decide)
  have e4 := hf 4 (by decide)
  have e10 := hf 10 (by decide)
  have e13 := hf 13 (by decide)
  have e21 := hf 21 (by decide)
  have e25 := hf 25 (by decide)
  have e27 := hf 27 (by decide)
  have e28 := hf 28 (by decide)
  have e32 := hf 32 (by decide)
  have e42 := hf 42 (by decide)
  have e44 := hf 44 (by decide)
  have e91 := hf 91 (by decide)
  have e95 := hf 95 (by decide)
  refine ⟨fun n n0 n1 => ?_, fun e e0 e1 => ?_⟩
  · rw [e3] at n1
    have := H.1 n n0 n1
    unfold rl_t rl_pin rl_src at this ⊢
    simp only [e3, e4, e10, e13, e21, e25, e27, e28, e32, e42, e91, e95, h92 n n0 n1]
    exact this
  · have := H.2 e e0 e1
    unfold rl_ct at this ⊢
    simp only [e3, e42, e44]
    exact this
/-- the relation when the lengths were found -/
theorem Rel_len {μ m : ma_M} (H : Rel μ) (st : 1 ≤ μ 2 0 10) (hf : ∀ c : Nat, c ≠ 35 → c ≠ 36 → c ≠ 37 → c ≠ 38 → c ≠ 69 → c ≠ 92 → c ≠ 93 → c ≠ 111 → c ≠ 112 → m c = μ c) (h69 : ∀ f : Int, f ≠ 50 → m 69 0 f = μ 69 0 f) (hn : cu_nets μ m) : Rel m := by
  obtain ⟨h1, h2, h3, h4, h5, h6, h7, h8⟩ := H
  have e2 : m 2 = μ 2 := hf 2 (by decide) (by decide) (by decide) (by decide) (by decide) (by decide) (by decide) (by decide) (by decide)
  have hc : ∀ (l : List Nat), (∀ c ∈ l, c ≠ 35 ∧ c ≠ 36 ∧ c ≠ 37 ∧ c ≠ 38 ∧ c ≠ 69 ∧ c ≠ 92 ∧ c ≠ 93 ∧ c ≠ 111 ∧ c ≠ 112) → ∀ c ∈ l, m c = μ c := fun l hl c hc => by
    obtain ⟨a1, a2, a3, a4, a5, a6, a7, a8, a9⟩ := hl c hc
    exact hf c a1 a2 a3 a4 a5 a6 a7 a8 a9
  refine ⟨rl_c_congr (hc _ (by decide)) (fun f hff => h69 f (by rintro rfl; revert hff; decide)) h1, rl_s_congr (hc _ (by decide)) (fun f hff => h69 f (by rintro rfl; revert hff; decide)) h2, rl_z_congr (hc _ (by decide)) (fun f hff => h69 f (by rintro rfl; revert hff; decide)) h3, rl_u_congr (hc _ (by decide)) h4, fun z => ?_, fun z => ?_, fun z => ?_, fun z => ?_⟩
  · rw [e2] at z
    exact ⟨rl_m_congr (hc _ (by decide)) (fun f hff => h69 f (by rintro rfl; revert hff; decide)) (h5 z).1, rl_p_congr (hc _ (by decide)) (h5 z).2⟩
  · rw [e2] at z
    have r := h6 z
    refine cu_rl_r r (hc _ (by decide)) (fun n n0 n1 => ?_)
    have a := (r.1 n n0 n1)
    have b := (hn n n0 n1).1
    have c := a.2.1
    have d := b.2
    rcases a.1 with x | x
    · rcases b.1 with y | y
      · rw [x, y]
      · have := c.2 (d.1 y); omega
    · rw [x, d.2 (c.1 x)]
  · rw [e2] at z; exact rl_f_congr (hc _ (by decide)) (h7 z)
  · rw [e2] at z; exact rl_k_congr (hc _ (by decide)) (fun f hff => h69 f (by rintro rfl; revert hff; decide)) (h8 z)
theorem cu_nets_congr {μ μ' m : ma_M} (g : ∀ c ∈ ([3, 13, 21, 25, 27, 32] : List Nat), μ' c = μ c) (H : cu_nets μ m) : cu_nets μ' m := by
  have e3 := g 3 (by decide)
  have e13 := g 13 (by decide)
  have e21 := g 21 (by decide)
  have e25 := g 25 (by decide)
  have e27 := g 27 (by decide)
  have e32 := g 32 (by decide)
  unfold cu_nets rl_pin at H ⊢
  simp only [e3, e13, e21, e25, e27, e32]
  exact H
theorem cu_cost_congr {μ μ' : ma_M} {v : Int} (g : ∀ c ∈ ([3, 4, 10, 13, 21, 25, 27, 28, 32] : List Nat), μ' c = μ c) (H : cu_cost μ v) : cu_cost μ' v := by
  have e3 := g 3 (by decide)
  have e4 := g 4 (by decide)
  have e10 := g 10 (by decide)
  have e13 := g 13 (by decide)
  have e21 := g 21 (by decide)
  have e25 := g 25 (by decide)
  have e27 := g 27 (by decide)
  have e28 := g 28 (by decide)
  have e32 := g 32 (by decide)
  unfold cu_cost cu_len cu_S cu_src rl_pin at H ⊢
  simp only [e3, e4, e10, e13, e21, e25, e27, e28, e32]
  exact H
theorem pr_cost {LS d : Nat} {μ : ma_M} (H : Rel μ) : Pr LS d mi_LatticefitLaw_cost [ma_Rf 2 0, ma_Rf 111 0] mi_LatticefitModel_cost [ma_Rf 69 0] agI μ := by
  intro Post hP
  obtain ⟨Hc, Hs, Hz, Hu, Hm, Hr, Hf, Hk⟩ := id H
  have s26 := Hs.2.2.1
  refine gi_LatticefitLaw_cost (fun R hR => s_LatticefitLaw_cost_0 (d := d + 7) hR ?_)
  refine gi_Latticefit_cost (fun R2 hR2 => s_Latticefit_cost_0 (d := d + 7) hR2 ⟨fun st => ?_, fun st => ?_⟩)
  · obtain ⟨Hmm, Hpp⟩ := Hm st
    refine sp_findLengths (d := d + 7) Hc Hmm (cu_q_of Hpp) (fun m1 a1 a2 => k_Latticefit_cost_9 hR2 (k_LatticefitLaw_cost_3 hR ⟨by omega, hP 0 _ (fun Post2 h2 => ?_)⟩))
    have cst := cu_J_cost a2
    obtain ⟨v, ev⟩ : ∃ v : Int, v = ma_sum (fun n => m1 36 0 n - m1 35 0 n + m1 38 0 n - m1 37 0 n) (μ 3 0 10).toNat := ⟨_, rfl⟩
    rw [← ev] at cst ⊢
    have b1 : ∀ c : Nat, c ≠ 35 → c ≠ 36 → c ≠ 37 → c ≠ 38 → c ≠ 111 → (ma_up m1 111 0 0 v) c = μ c := fun c c1 c2 c3 c4 c5 => by rw [ma_up_ck c5]; exact a1 c c1 c2 c3 c4
    have b2 : (ma_up m1 111 0 0 v) 111 0 0 = v := ma_up_eq
    generalize ma_up m1 111 0 0 v = M at b1 b2 ⊢
    have M69 : M 69 = μ 69 := b1 69 (by decide) (by decide) (by decide) (by decide) (by decide)
    refine gi_LatticefitModel_cost (fun R3 hR3 => s_LatticefitModel_cost_0 (d := d + 7) hR3 ⟨fun _ => ?_, fun q => by rw [M69, s26, if_pos st] at q; omega⟩)
    have c0 : ∀ c : Nat, c ≠ 35 → c ≠ 36 → c ≠ 37 → c ≠ 38 → c ≠ 69 → c ≠ 111 → (ma_up M 69 0 50 0) c = μ c := fun c c1 c2 c3 c4 c5 c6 => by rw [ma_up_ck c5]; exact b1 c c1 c2 c3 c4 c6
    have c69 : ∀ f : Int, f ≠ 50 → (ma_up M 69 0 50 0) 69 0 f = μ 69 0 f := fun f hf => by rw [ma_up_ne (by omega), M69]
    have hc : ∀ (l : List Nat), (∀ c ∈ l, c ≠ 35 ∧ c ≠ 36 ∧ c ≠ 37 ∧ c ≠ 38 ∧ c ≠ 69 ∧ c ≠ 111) → ∀ c ∈ l, (ma_up M 69 0 50 0) c = μ c := fun l hl c hc => by
      obtain ⟨x1, x2, x3, x4, x5, x6⟩ := hl c hc
      exact c0 c x1 x2 x3 x4 x5 x6
    have hc' : ∀ (l : List Nat), (∀ c ∈ l, c ≠ 35 ∧ c ≠ 36 ∧ c ≠ 37 ∧ c ≠ 38 ∧ c ≠ 69 ∧ c ≠ 111) → ∀ c ∈ l, μ c = (ma_up M 69 0 50 0) c := fun l hl c hcc => (hc l hl c hcc).symm
    refine sp_costNow (d := d + 7) (fun _ _ => rfl) (rl_c_congr (hc _ (by decide)) (fun f hff => c69 f (by rintro rfl; revert hff; decide)) Hc) (rl_m_congr (hc _ (by decide)) (fun f hff => c69 f (by rintro rfl; revert hff; decide)) Hmm) (rl_p_congr (hc _ (by decide)) Hpp) (fun w m2 d1 d2 d3 => k_LatticefitModel_cost_25 hR3 ?_)
    have ew : w = v := cu_cost_uniq Hc.1 (cu_cost_congr (hc' _ (by decide)) d3) cst
    rw [ew]
    have d50 : m2 69 0 50 = 0 := by rw [d1 69 (by decide) (by decide), ma_up_eq]
    refine h2 _ m2 (Rel_len H st (fun c c1 c2 c3 c4 c5 c6 c7 c8 _ => by rw [d1 c c6 c7]; exact c0 c c1 c2 c3 c4 c5 c8) (fun f hff => by rw [d1 69 (by decide) (by decide)]; exact c69 f hff) (cu_nets_congr (hc' _ (by decide)) d2)) d50 (fun _ => ⟨v, rfl, ?_⟩)
    rw [d1 111 (by decide) (by decide), ma_up_ck (by decide)]; exact b2
  · show R 11 [ma_Rf 2 0, ma_Rf 111 0, ma_U] [ma_X 0] 1 μ
    refine g_LatticefitLaw_cost_11 hR ⟨Nat.le_refl 1, hP 1 μ (fun Post2 h2 => ?_)⟩
    exact gi_LatticefitModel_cost (fun R3 hR3 => s_LatticefitModel_cost_0 (d := d + 7) hR3 ⟨fun q => absurd (by rw [s26, if_neg (by omega)]) q, fun _ => h2 (ma_I 0) _ (Rel_thrown H 1) ma_up_eq (fun z => by omega)⟩)
