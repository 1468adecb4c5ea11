/-! anneal: the reference -/
/-- a memory of the reference on its way -/
def cu_ra (β : ma_M) (c : Int) (s : an_Pl) (m : ma_M) : Prop := (∀ k : Nat, k ≠ 85 → k ≠ 89 → k ≠ 92 → k ≠ 93 → m k = β k) ∧ (∀ x : Int, 0 ≤ x → x < 36 → m 89 0 x = s.1 x) ∧ (∀ b : Int, 0 ≤ b → b < c → m 85 0 b = s.2 b)
theorem cu_ra_x {β m : ma_M} {c : Int} {s : an_Pl} {a b : Int} (h : cu_ra β c s m) (a0 : 0 ≤ a) (a1 : a < 36) (b0 : 0 ≤ b) (b1 : b < 36) : cu_ra β c (an_x s a b) (cu_xm 89 85 m a b) := by
  obtain ⟨h1, h2, h3⟩ := h
  obtain ⟨x1, x2, x3, x4⟩ := cu_xm_rd (kp := 89) (kq := 85) (by decide) (μ := m) (a := a) (b := b)
  refine ⟨fun k k1 k2 k3 k4 => by rw [x3 k k2 k1]; exact h1 k k1 k2 k3 k4, fun x y0 y1 => ?_, fun k k0 k1 => ?_⟩
  · rw [x1]
    show cu_xp (m 89 0) a b x = cu_xp s.1 a b x
    unfold cu_xp
    rw [h2 a a0 a1, h2 b b0 b1, h2 x y0 y1]
  · rw [x2]
    show cu_xq (m 89 0) (m 85 0) a b k = cu_xq s.1 s.2 a b k
    unfold cu_xq
    rw [h2 a a0 a1, h2 b b0 b1, h3 k k0 k1]
theorem cu_ra_scr {β m m' : ma_M} {c : Int} {s : an_Pl} (h : cu_ra β c s m) (hf : ∀ c : Nat, c ≠ 92 → c ≠ 93 → m' c = m c) : cu_ra β c s m' :=
  ⟨fun k k1 k2 k3 k4 => by rw [hf k k3 k4]; exact h.1 k k1 k2 k3 k4, fun x x0 x1 => by rw [hf 89 (by decide) (by decide)]; exact h.2.1 x x0 x1, fun b b0 b1 => by rw [hf 85 (by decide) (by decide)]; exact h.2.2 b b0 b1⟩
/-- what the reference starts from -/
def cu_bs (μ β : ma_M) : Prop := (∀ c : Nat, c ≠ 2 → c ≠ 32 → c ≠ 33 → c ≠ 35 → c ≠ 36 → c ≠ 37 → c ≠ 38 → c ≠ 39 → c ≠ 69 → c ≠ 111 → β c = μ c) ∧ (∀ f : Int, f ≠ 50 → β 69 0 f = μ 69 0 f) ∧ (∀ r x : Int, r ≠ 0 → β 32 r x = μ 32 r x)
theorem cu_bs_cell {μ β : ma_M} (h : cu_bs μ β) (l : List Nat) (hl : ∀ c ∈ l, c ≠ 2 ∧ c ≠ 32 ∧ c ≠ 33 ∧ c ≠ 35 ∧ c ≠ 36 ∧ c ≠ 37 ∧ c ≠ 38 ∧ c ≠ 39 ∧ c ≠ 69 ∧ c ≠ 111) : ∀ c ∈ l, β c = μ c := fun c hc => by
  obtain ⟨a1, a2, a3, a4, a5, a6, a7, a8, a9, a10⟩ := hl c hc
  exact h.1 c a1 a2 a3 a4 a5 a6 a7 a8 a9 a10
/-- the view of a memory of the reference on its way -/
theorem cu_view {μ β m : ma_M} {s : an_Pl} (hb : cu_bs μ β) (Hc : rl_c μ) (Hm : rl_m μ) (Hp : rl_p μ) (Hl : cu_pl (μ 21 0 7) s.1 s.2) (h : cu_ra β (μ 21 0 7) s m) :
    rl_c (cu_vw m s.1 s.2) ∧ rl_m (cu_vw m s.1 s.2) ∧ rl_p (cu_vw m s.1 s.2) ∧ (∀ c : Nat, 69 ≤ c → m c = cu_vw m s.1 s.2 c) ∧ (∀ c ∈ ([3, 4, 9, 10, 13, 21, 25, 27, 28, 32] : List Nat), cu_vw μ (μ 33 0) s.2 c = cu_vw m s.1 s.2 c) := by
  obtain ⟨V32, V33, V⟩ := cu_vw_rd m s.1 s.2
  have mk : ∀ (l : List Nat), (∀ c ∈ l, c ≠ 2 ∧ c ≠ 32 ∧ c ≠ 33 ∧ c ≠ 35 ∧ c ≠ 36 ∧ c ≠ 37 ∧ c ≠ 38 ∧ c ≠ 39 ∧ c ≠ 69 ∧ c ≠ 111 ∧ c ≠ 85 ∧ c ≠ 89 ∧ c ≠ 92 ∧ c ≠ 93) → ∀ c ∈ l, cu_vw m s.1 s.2 c = μ c := fun l hl c hc => by
    obtain ⟨a1, a2, a3, a4, a5, a6, a7, a8, a9, a10, a11, a12, a13, a14⟩ := hl c hc
    rw [V c a2 a3, h.1 c a11 a12 a13 a14, hb.1 c a1 a2 a3 a4 a5 a6 a7 a8 a9 a10]
  have mf : ∀ f : Int, f ≠ 50 → cu_vw m s.1 s.2 69 0 f = μ 69 0 f := fun f hf => by
    rw [V 69 (by decide) (by decide), h.1 69 (by decide) (by decide) (by decide) (by decide), hb.2.1 f hf]
  have e21 : cu_vw m s.1 s.2 21 = μ 21 := mk [21] (by decide) 21 (by decide)
  have e34 : cu_vw m s.1 s.2 34 = μ 34 := mk [34] (by decide) 34 (by decide)
  have e90 : cu_vw m s.1 s.2 90 = μ 90 := mk [90] (by decide) 90 (by decide)
  refine ⟨rl_c_congr (mk _ (by decide)) (fun f hf => mf f (by rintro rfl; revert hf; decide)) Hc, rl_m_congr (mk _ (by decide)) (fun f hf => mf f (by rintro rfl; revert hf; decide)) Hm, ⟨fun b b0 b1 => ?_, fun x x0 x1 => ?_⟩, fun c hc => (V c (by omega) (by omega)).symm, fun c hc => ?_⟩
  · rw [e21] at b1
    have p := Hl.1 b b0 b1
    rw [V 85 (by decide) (by decide), V32, V33, e90, e34]
    exact ⟨h.2.2 b b0 b1, p.1, p.2.1, p.2.2, (Hp.1 b b0 b1).2.2.2.2⟩
  · have p := Hl.2 x x0 x1
    rw [V 89 (by decide) (by decide), V32, V33, e21]
    exact ⟨h.2.1 x x0 x1, p⟩
  · by_cases e : c = 32
    · subst e
      funext r x
      by_cases er : r = 0
      · rw [er, (cu_vw_rd μ (μ 33 0) s.2).1, V32]
      · simp only [cu_vw, er, and_false, if_false]
        rw [h.1 32 (by decide) (by decide) (by decide) (by decide), hb.2.2 r x er]
    · have e33 : c ≠ 33 := by rintro rfl; revert hc; decide
      rw [(cu_vw_rd μ (μ 33 0) s.2).2.2 c e e33]
      have := mk [3, 4, 9, 10, 13, 21, 25, 27, 28] (by decide) c (by revert hc; simp only [List.mem_cons, List.not_mem_nil, or_false]; omega)
      exact this.symm
theorem cu_pin_any {μ μ' : ma_M} (g : ∀ c ∈ ([3, 13, 21, 25, 27] : List Nat), μ' c = μ c) (n : Int) : (∃ x, rl_pin μ' n x) ↔ ∃ x, rl_pin μ n x := by
  have e3 := g 3 (by decide)
  have e13 := g 13 (by decide)
  have e21 := g 21 (by decide)
  have e25 := g 25 (by decide)
  have e27 := g 27 (by decide)
  unfold rl_pin
  rw [e3, e13, e21, e25, e27]
  refine ⟨fun ⟨x, hx⟩ => ?_, fun ⟨x, hx⟩ => ?_⟩
  · rcases hx with ⟨b, k, a1, a2, a3, a4, a5, _⟩ | ⟨o, a1, a2, a3, _⟩
    · exact ⟨_, .inl ⟨b, k, a1, a2, a3, a4, a5, rfl⟩⟩
    · exact ⟨_, .inr ⟨o, a1, a2, a3, rfl⟩⟩
  · rcases hx with ⟨b, k, a1, a2, a3, a4, a5, _⟩ | ⟨o, a1, a2, a3, _⟩
    · exact ⟨_, .inl ⟨b, k, a1, a2, a3, a4, a5, rfl⟩⟩
    · exact ⟨_, .inr ⟨o, a1, a2, a3, rfl⟩⟩
/-- which nodes have nets: as it was, or found anew -/
def cu_92 (μ m : ma_M) : Prop := m 92 = μ 92 ∨ ∀ n : Int, 0 ≤ n → n < μ 3 0 10 → (m 92 0 n = 0 ∨ m 92 0 n = 1) ∧ (m 92 0 n = 1 ↔ ∃ x, rl_pin μ n x)
theorem sp_refann {LS d : Nat} {Post : ma_R → ma_M → Prop} {μ M : ma_M} {x h : Int} {n : Nat} {g : Nat → Bool} (hb : cu_bs μ M) (Hc : rl_c μ) (Hm : rl_m μ) (Hp : rl_p μ) (e26 : μ 69 0 26 = 1) (x0 : 0 ≤ x) (x1 : x < 2147483648) (h0 : 1 ≤ h) (h1 : h ≤ 50) (hn1 : 1 ≤ n) (hn : n ≤ 200) (hok : an_ok μ x h g n)
    (hh : ∀ m : ma_M, (∀ c : Nat, c ≠ 69 → c ≠ 85 → c ≠ 89 → c ≠ 92 → c ≠ 93 → m c = M c) → (∀ f : Int, f ≠ 27 → f ≠ 28 → f ≠ 29 → f ≠ 50 → m 69 0 f = μ 69 0 f) → m 69 0 50 = 0 → (0 < an_N μ x g n → m 69 0 27 = 0 ∧ m 69 0 28 = 0 ∧ m 69 0 29 = 0) → (¬ 0 < an_N μ x g n → m 69 0 27 = μ 69 0 27 ∧ m 69 0 28 = μ 69 0 28 ∧ m 69 0 29 = μ 69 0 29) → cu_92 μ m → (∀ x' : Int, 0 ≤ x' → x' < 36 → m 89 0 x' = (an_S μ x g n).1 x') → (∀ b : Int, 0 ≤ b → b < μ 21 0 7 → m 85 0 b = (an_S μ x g n).2 b) → Post (.inl (some (ma_I (an_N μ x g n)))) m) :
    ma_Ox LS (d + 5) mi_LatticefitModel_anneal [ma_Rf 69 0, ma_I x, ma_I n, ma_I h] M Post := by
  have Hl := cu_pl_of Hp
  have B1 := Hm.2.1
  have N0 := Hc.1
  refine gi_LatticefitModel_anneal (fun R hR => s_LatticefitModel_anneal_0 hR ⟨fun q => by omega, fun _ => ⟨fun q => by omega, fun _ => ⟨fun q => by omega, fun _ => ⟨fun q => by omega, fun _ => ⟨fun q => by omega, fun _ => ⟨fun _ => ?_, fun q => by rw [hb.2.1 26 (by decide), e26] at q; omega⟩⟩⟩⟩⟩⟩)
  have hβ : cu_bs μ (ma_up (ma_up M 69 0 50 0) 69 0 50 0) := ⟨fun c c1 c2 c3 c4 c5 c6 c7 c8 c9 c10 => by rw [ma_up_ck c9, ma_up_ck c9]; exact hb.1 c c1 c2 c3 c4 c5 c6 c7 c8 c9 c10, fun f hf => by rw [ma_up_ne (by omega), ma_up_ne (by omega)]; exact hb.2.1 f hf, fun r x hr => by rw [ma_up_ck (by decide), ma_up_ck (by decide)]; exact hb.2.2 r x hr⟩
  have β50 : (ma_up (ma_up M 69 0 50 0) 69 0 50 0) 69 0 50 = 0 := ma_up_eq
  have βM : ∀ c : Nat, c ≠ 69 → (ma_up (ma_up M 69 0 50 0) 69 0 50 0) c = M c := fun c hc => by rw [ma_up_ck hc, ma_up_ck hc]
  have β92 : (ma_up (ma_up M 69 0 50 0) 69 0 50 0) 92 = μ 92 := by rw [βM 92 (by decide)]; exact hb.1 92 (by decide) (by decide) (by decide) (by decide) (by decide) (by decide) (by decide) (by decide) (by decide) (by decide)
  generalize hβe : ma_up (ma_up M 69 0 50 0) 69 0 50 0 = β at hβ β50 βM β92 ⊢
  have ini : cu_ra β (μ 21 0 7) (an_S μ x g 0) β := by
    refine ⟨fun _ _ _ _ _ => rfl, fun y y0 y1 => ?_, fun b b0 b1 => ?_⟩
    · rw [hβ.1 89 (by decide) (by decide) (by decide) (by decide) (by decide) (by decide) (by decide) (by decide) (by decide) (by decide)]
      exact (Hp.2 y y0 y1).1
    · rw [hβ.1 85 (by decide) (by decide) (by decide) (by decide) (by decide) (by decide) (by decide) (by decide) (by decide) (by decide)]
      exact (Hp.1 b b0 b1).1
  -- the nets found anew
  have n92 : ∀ (m m' : ma_M) (s : an_Pl), cu_ra β (μ 21 0 7) s m → cu_nets (cu_vw m s.1 s.2) m' → cu_92 μ m' := by
    intro m m' s hm hn'
    have V := (cu_vw_rd m s.1 s.2).2.2
    have vv : ∀ c ∈ ([3, 13, 21, 25, 27] : List Nat), cu_vw m s.1 s.2 c = μ c := fun c hc => by
      rw [V c (by rintro rfl; revert hc; decide) (by rintro rfl; revert hc; decide), hm.1 c (by rintro rfl; revert hc; decide) (by rintro rfl; revert hc; decide) (by rintro rfl; revert hc; decide) (by rintro rfl; revert hc; decide)]
      exact cu_bs_cell hβ [3, 13, 21, 25, 27] (by decide) c hc
    refine .inr (fun k k0 k1 => ?_)
    have := (hn' k k0 (by rw [vv 3 (by decide)]; exact k1)).1
    exact ⟨this.1, this.2.trans (cu_pin_any vv k)⟩
  have lp : ∀ (k i : Nat) (m : ma_M) (u1 u3 u5 u9 u10 u11 u12 u13 : ma_V), i + k = n → cu_ra β (μ 21 0 7) (an_S μ x g i) m → cu_92 μ m → R 73 [ma_Rf 69 0, u1, ma_I n, u3, ma_L (an_X x i), u5, ma_I (an_W h i), ma_I (an_N μ x g i), ma_I ((i : Int) + 1), u9, u10, u11, u12, u13] [] 0 m := by
    intro k
    induction k with
    | zero =>
      intro i m u1 u3 u5 u9 u10 u11 u12 u13 hi hat h92
      have ei : i = n := by omega
      subst ei
      have m69 : m 69 = β 69 := hat.1 69 (by decide) (by decide) (by decide) (by decide)
      have nr := an_N_rng μ x g i
      refine s_LatticefitModel_anneal_73 hR ⟨fun _ => ⟨fun z => hh m (fun c c1 c2 c3 c4 c5 => by rw [hat.1 c c2 c3 c4 c5]; exact βM c c1) (fun f f1 f2 f3 f4 => by rw [m69]; exact hβ.2.1 f f4) (by rw [m69]; exact β50) (fun y => by omega) (fun _ => by rw [m69]; exact ⟨hβ.2.1 27 (by decide), hβ.2.1 28 (by decide), hβ.2.1 29 (by decide)⟩) h92 hat.2.1 hat.2.2, fun z => ?_⟩, fun q => by omega⟩
      refine hh _ (fun c c1 c2 c3 c4 c5 => by rw [ma_up_ck c1, ma_up_ck c1, ma_up_ck c1, hat.1 c c2 c3 c4 c5]; exact βM c c1) (fun f f1 f2 f3 f4 => by rw [ma_up_ne (by omega), ma_up_ne (by omega), ma_up_ne (by omega), m69]; exact hβ.2.1 f f4) (by rw [ma_up_ne (by omega), ma_up_ne (by omega), ma_up_ne (by omega), m69]; exact β50) (fun _ => ⟨by rw [ma_up_ne (by omega), ma_up_ne (by omega), ma_up_eq], by rw [ma_up_ne (by omega), ma_up_eq], ma_up_eq⟩) (fun y => absurd z y) ?_ (fun y y0 y1 => by rw [ma_up_ck (by decide), ma_up_ck (by decide), ma_up_ck (by decide)]; exact hat.2.1 y y0 y1) (fun b b0 b1 => by rw [ma_up_ck (by decide), ma_up_ck (by decide), ma_up_ck (by decide)]; exact hat.2.2 b b0 b1)
      unfold cu_92
      rw [ma_up_ck (by decide), ma_up_ck (by decide), ma_up_ck (by decide)]
      exact h92
    | succ k ih =>
      intro i m u1 u3 u5 u9 u10 u11 u12 u13 hi hat h92
      have r := an_X_rng x0 x1 i
      have r1 := cu_nx_rng r.1 r.2
      have r2 := cu_nx_rng r1.1 r1.2
      have cr : 0 ≤ an_c x i ∧ an_c x i < 36 := cu_tl_rng r1.1 r1.2
      have dr : 0 ≤ an_d x i ∧ an_d x i < 36 := cu_tl_rng r2.1 r2.2
      have wr := an_W_rng h0 h1 i
      have nr := an_N_rng μ x g i
      have pl := an_S_pl (g := g) x0 x1 Hl i
      have pc := pl.2 _ cr.1 cr.2
      have pd := pl.2 _ dr.1 dr.2
      have m90 : ∀ b : Int, 0 ≤ b → b < μ 21 0 7 → m 90 0 b = μ 34 0 b := fun b b0 b1 => by
        rw [hat.1 90 (by decide) (by decide) (by decide) (by decide), hβ.1 90 (by decide) (by decide) (by decide) (by decide) (by decide) (by decide) (by decide) (by decide) (by decide) (by decide)]
        exact (Hp.1 b b0 b1).2.2.2.2.1
      have wn : an_W h (i + 1) = if Int.tmod ((i : Int) + 1) 8 = 0 ∧ 1 < an_W h i then an_W h i - 1 else an_W h i := rfl
      -- the end of a step
      have fin : ∀ (m' : ma_M) (N' : Int), N' = an_N μ x g (i + 1) → cu_ra β (μ 21 0 7) (an_S μ x g (i + 1)) m' → cu_92 μ m' →
          ((¬ (Int.tmod ((i : Int) + 1) 8) = 0 → (-2147483648 ≤ (((i : Int) + 1) + 1) ∧ (((i : Int) + 1) + 1) < 2147483648) ∧ R 73 [ma_Rf 69 0, ma_U, ma_I n, ma_U, ma_L (cu_nx (cu_nx (an_X x i))), ma_U, ma_I (an_W h i), ma_I N', ma_I (((i : Int) + 1) + 1), ma_U, ma_U, ma_U, ma_U, ma_U] [] 0 m') ∧ ((Int.tmod ((i : Int) + 1) 8) = 0 → (-2147483648 ≤ (an_W h i - 1) ∧ (an_W h i - 1) < 2147483648) ∧ (-2147483648 ≤ (((i : Int) + 1) + 1) ∧ (((i : Int) + 1) + 1) < 2147483648) ∧ R 73 [ma_Rf 69 0, ma_U, ma_I n, ma_U, ma_L (cu_nx (cu_nx (an_X x i))), ma_U, ma_I (if 1 < (an_W h i - 1) then (an_W h i - 1) else 1), ma_I N', ma_I (((i : Int) + 1) + 1), ma_U, ma_U, ma_U, ma_U, ma_U] [] 0 m')) := by
        intro m' N' hN at' h92'
        have nx := ih (i + 1) m' ma_U ma_U ma_U ma_U ma_U ma_U ma_U ma_U (by omega) at' h92'
        rw [← hN, show (((i + 1 : Nat) : Int)) = (i : Int) + 1 from by omega] at nx
        refine ⟨fun z => ⟨by omega, ?_⟩, fun z => ⟨by omega, by omega, ?_⟩⟩
        · rw [wn, if_neg (fun y => z y.1)] at nx; exact nx
        · have e : (if 1 < (an_W h i - 1) then (an_W h i - 1) else 1) = an_W h (i + 1) := by rw [wn]; split <;> split <;> omega
          rw [e]; exact nx
      have skip : ¬ an_can μ (an_S μ x g i).1 (an_c x i) (an_d x i) → _ := fun hno => fin m (an_N μ x g i) (by rw [an_N_succ, if_neg (fun z => hno z.1)]; omega) (by rw [an_S_succ, if_neg hno]; exact hat) h92
      have Hl1 := cu_pl_x pl cr.1 cr.2 dr.1 dr.2
      have vals : ∀ (m : ma_M) (s : an_Pl), cu_ra β (μ 21 0 7) s m → cu_pl (μ 21 0 7) s.1 s.2 → cu_x1 89 m (an_c x i) (an_d x i) 89 0 (an_c x i) < 48 ∧ cu_x1 89 m (an_c x i) (an_d x i) 89 0 (an_d x i) < 48 := by
        intro m s hm Hl
        have y := (cu_pl_x Hl cr.1 cr.2 dr.1 dr.2).2 _ cr.1 cr.2
        have z := (cu_pl_x Hl cr.1 cr.2 dr.1 dr.2).2 _ dr.1 dr.2
        rw [cu_x1_rd, cu_x1_rd]
        unfold cu_xp at y z ⊢
        rw [hm.2.1 _ cr.1 cr.2, hm.2.1 _ dr.1 dr.2]
        omega
      have good : an_can μ (an_S μ x g i).1 (an_c x i) (an_d x i) → ma_Ox LS (d + 4) mi_LatticefitModel_costNow [ma_Rf 69 0] m (ma_ct (ma_Ox LS (d + 4)) (LS, [], 1, 0) 149 [ma_Rf 69 0, ma_U, ma_I n, ma_U, ma_L (cu_nx (cu_nx (an_X x i))), ma_U, ma_I (an_W h i), ma_I (an_N μ x g i), ma_I ((i : Int) + 1), ma_I (an_c x i), ma_I (an_d x i), ma_U, ma_U, ma_U] [] 0 mt_LatticefitModel_anneal_152 R (ma_DD (LS, [], 1, 0) Post)) := by
        intro hc
        have G := hok i (by omega) hc
        obtain ⟨v1, v2, v3, v4, v5⟩ := cu_view hβ Hc Hm Hp pl hat
        refine sp_costNow (d := d) v4 v1 v2 v3 (fun cost m1 f1 j1 k1 => k_LatticefitModel_anneal_149 hR ?_)
        have at1 := cu_ra_scr hat f1
        have q1 := n92 m m1 _ hat j1
        have cv0 : cu_cq μ (an_S μ x g i).2 cost := cu_cost_congr (fun c hc => v5 c (by revert hc; simp only [List.mem_cons, List.not_mem_nil, or_false]; omega)) k1
        have cvr := cu_cost_rng v1 v2 (cu_q_of v3) k1
        obtain ⟨v1', v2', v3', v4', v5'⟩ := cu_view hβ Hc Hm Hp pl at1
        refine sp_excessNow (d := d + 2) v4' v1' v2' v3' (fun ex kx => k_LatticefitModel_anneal_155 hR ⟨cr, dr, ?_⟩)
        have ce0 : cu_eq μ (an_S μ x g i).2 ex := cu_ex_congr (fun c hc => v5' c (by revert hc; simp only [List.mem_cons, List.not_mem_nil, or_false]; omega)) kx
        have V1 := vals m1 _ at1 pl
        refine cu_xw (kp := 89) (kq := 85) (μ := m1) (a := an_c x i) (b := an_d x i) (Q := fun W => ma_Ox LS (d + 4) mi_LatticefitModel_excessNow [ma_Rf 69 0] W (ma_ct (ma_Ox LS (d + 4)) (LS, [], 1, 0) 169 [ma_Rf 69 0, ma_U, ma_I n, ma_U, ma_L (cu_nx (cu_nx (an_X x i))), ma_U, ma_I (an_W h i), ma_I (an_N μ x g i), ma_I ((i : Int) + 1), ma_I (an_c x i), ma_I (an_d x i), ma_I cost, ma_I ex, ma_U] [] 0 mt_LatticefitModel_anneal_172 R (ma_DD (LS, [], 1, 0) Post))) V1.1 V1.2 ?_
        have at2 := cu_ra_x at1 cr.1 cr.2 dr.1 dr.2
        have q2 : cu_92 μ (cu_xm 89 85 m1 (an_c x i) (an_d x i)) := by
          unfold cu_92
          rw [(cu_xm_rd (kp := 89) (kq := 85) (by decide) (μ := m1) (a := an_c x i) (b := an_d x i)).2.2.1 92 (by decide) (by decide)]
          exact q1
        obtain ⟨w1, w2, w3, w4, w5⟩ := cu_view hβ Hc Hm Hp Hl1 at2
        refine sp_excessNow (d := d + 2) w4 w1 w2 w3 (fun ex1 kx1 => k_LatticefitModel_anneal_169 hR ?_)
        have ce1 : cu_eq μ (an_x (an_S μ x g i) (an_c x i) (an_d x i)).2 ex1 := cu_ex_congr (fun c hc => w5 c (by revert hc; simp only [List.mem_cons, List.not_mem_nil, or_false]; omega)) kx1
        -- back again
        have bk : ∀ m' : ma_M, cu_ra β (μ 21 0 7) (an_x (an_S μ x g i) (an_c x i) (an_d x i)) m' → cu_92 μ m' → g i = false → _ := fun m' a1 a2 gi => fin (cu_xm 89 85 m' (an_c x i) (an_d x i)) (an_N μ x g i + 0) (by rw [an_N_succ, if_neg (by rw [gi]; exact fun z => absurd z.2 (by decide))]) (by rw [an_S_succ, if_pos hc, if_neg (by rw [gi]; decide)]; exact cu_ra_x a1 cr.1 cr.2 dr.1 dr.2) (by
          unfold cu_92
          rw [(cu_xm_rd (kp := 89) (kq := 85) (by decide) (μ := m') (a := an_c x i) (b := an_d x i)).2.2.1 92 (by decide) (by decide)]
          exact a2)
        refine ⟨fun lt => ⟨by omega, cr, dr, ?_⟩, fun le => ?_⟩
        · have gi : g i = false := by
            refine cu_G_uniq N0 G ⟨ex, cost, ex1, ce0, cv0, ce1, ⟨fun z => absurd z (by decide), fun z => by omega⟩⟩
          have V2 := vals _ _ at2 Hl1
          exact cu_xw (kp := 89) (kq := 85) (μ := cu_xm 89 85 m1 (an_c x i) (an_d x i)) (a := an_c x i) (b := an_d x i) (Q := fun W => ((¬ (Int.tmod ((i : Int) + 1) 8) = 0 → (-2147483648 ≤ (((i : Int) + 1) + 1) ∧ (((i : Int) + 1) + 1) < 2147483648) ∧ R 73 [ma_Rf 69 0, ma_U, ma_I n, ma_U, ma_L (cu_nx (cu_nx (an_X x i))), ma_U, ma_I (an_W h i), ma_I (an_N μ x g i + 0), ma_I (((i : Int) + 1) + 1), ma_U, ma_U, ma_U, ma_U, ma_U] [] 0 W) ∧ ((Int.tmod ((i : Int) + 1) 8) = 0 → (-2147483648 ≤ (an_W h i - 1) ∧ (an_W h i - 1) < 2147483648) ∧ (-2147483648 ≤ (((i : Int) + 1) + 1) ∧ (((i : Int) + 1) + 1) < 2147483648) ∧ R 73 [ma_Rf 69 0, ma_U, ma_I n, ma_U, ma_L (cu_nx (cu_nx (an_X x i))), ma_U, ma_I (if 1 < (an_W h i - 1) then (an_W h i - 1) else 1), ma_I (an_N μ x g i + 0), ma_I (((i : Int) + 1) + 1), ma_U, ma_U, ma_U, ma_U, ma_U] [] 0 W))) V2.1 V2.2 (bk _ at2 q2 gi)
        · refine sp_costNow (d := d) w4 w1 w2 w3 (fun cost1 m4 f4 j4 k4 => k_LatticefitModel_anneal_178 hR ?_)
          have at4 := cu_ra_scr at2 f4
          have q4 := n92 _ m4 _ at2 j4
          have cv1 : cu_cq μ (an_x (an_S μ x g i) (an_c x i) (an_d x i)).2 cost1 := cu_cost_congr (fun c hc => w5 c (by revert hc; simp only [List.mem_cons, List.not_mem_nil, or_false]; omega)) k4
          have cvr1 := cu_cost_rng w1 w2 (cu_q_of w3) k4
          refine ⟨by omega, fun ge => ⟨by omega, cr, dr, ?_⟩, fun lt => ⟨by omega, ?_⟩⟩
          · have gi : g i = false := by
              refine cu_G_uniq N0 G ⟨ex, cost, ex1, ce0, cv0, ce1, ⟨fun z => absurd z (by decide), fun ⟨_, v, hv, lt⟩ => ?_⟩⟩
              have N0' : 0 ≤ cu_vw μ (μ 33 0) (an_x (an_S μ x g i) (an_c x i) (an_d x i)).2 3 0 10 := by rw [(cu_vw_rd μ (μ 33 0) _).2.2 3 (by decide) (by decide)]; exact N0
              have := cu_cost_uniq N0' hv cv1
              omega
            have V4 := vals _ _ at4 Hl1
            exact cu_xw (kp := 89) (kq := 85) (μ := m4) (a := an_c x i) (b := an_d x i) (Q := fun W => ((¬ (Int.tmod ((i : Int) + 1) 8) = 0 → (-2147483648 ≤ (((i : Int) + 1) + 1) ∧ (((i : Int) + 1) + 1) < 2147483648) ∧ R 73 [ma_Rf 69 0, ma_U, ma_I n, ma_U, ma_L (cu_nx (cu_nx (an_X x i))), ma_U, ma_I (an_W h i), ma_I (an_N μ x g i + 0), ma_I (((i : Int) + 1) + 1), ma_U, ma_U, ma_U, ma_U, ma_U] [] 0 W) ∧ ((Int.tmod ((i : Int) + 1) 8) = 0 → (-2147483648 ≤ (an_W h i - 1) ∧ (an_W h i - 1) < 2147483648) ∧ (-2147483648 ≤ (((i : Int) + 1) + 1) ∧ (((i : Int) + 1) + 1) < 2147483648) ∧ R 73 [ma_Rf 69 0, ma_U, ma_I n, ma_U, ma_L (cu_nx (cu_nx (an_X x i))), ma_U, ma_I (if 1 < (an_W h i - 1) then (an_W h i - 1) else 1), ma_I (an_N μ x g i + 0), ma_I (((i : Int) + 1) + 1), ma_U, ma_U, ma_U, ma_U, ma_U] [] 0 W))) V4.1 V4.2 (bk _ at4 q4 gi)
          · have gi : g i = true := cu_G_uniq N0 G ⟨ex, cost, ex1, ce0, cv0, ce1, ⟨fun _ => ⟨le, cost1, cv1, lt⟩, fun _ => rfl⟩⟩
            exact fin m4 (an_N μ x g i + 1) (by rw [an_N_succ, if_pos ⟨hc, gi⟩]) (by rw [an_S_succ, if_pos hc, if_pos gi]; exact at4) q4
      have mc : m 89 0 (an_c x i) = (an_S μ x g i).1 (an_c x i) := hat.2.1 _ cr.1 cr.2
      have md : m 89 0 (an_d x i) = (an_S μ x g i).1 (an_d x i) := hat.2.1 _ dr.1 dr.2
      have tree := s_LatticefitModel_anneal_73 (μ := m) (u1 := u1) (v2 := n) (u3 := u3) (v4 := an_X x i) (u5 := u5) (v6 := an_W h i) (v7 := an_N μ x g i) (v8 := (i : Int) + 1) (u9 := u9) (u10 := u10) (u11 := u11) (u12 := u12) (u13 := u13) hR
      refine tree ⟨fun q => by omega, fun _ => ⟨cr, fun c0 => ⟨dr, fun d0 => ⟨fun e => skip (fun z => z.1 e), fun e => skip (fun z => ?_)⟩, fun d0 => ⟨⟨d0, ?_⟩, fun f1 => ⟨fun e => skip (fun z => z.1 e), fun e => good ⟨e, .inr ?_, .inl ?_, .inr ?_⟩⟩, fun f1 => ⟨fun e => skip (fun z => z.1 e), fun e => skip (fun z => ?_)⟩⟩⟩, fun c0 => ⟨⟨c0, ?_⟩, fun f0 => ⟨fun e => skip (fun z => z.1 e), fun e => skip (fun z => ?_)⟩, fun f0 => ⟨dr, fun d0 => ⟨fun e => skip (fun z => z.1 e), fun e => good ⟨e, .inl ?_, .inr ?_, .inl ?_⟩⟩, fun d0 => ⟨⟨d0, ?_⟩, fun f1 => ⟨fun e => skip (fun z => z.1 e), fun e => good ⟨e, .inl ?_, .inr ?_, .inr ?_⟩⟩, fun f1 => ⟨fun e => skip (fun z => z.1 e), fun e => skip (fun z => ?_)⟩⟩⟩⟩⟩⟩
      all_goals
        first
        | (replace c0 : m 89 0 (an_c x i) < 0 := c0; rw [mc] at c0)
        | (replace c0 : 0 ≤ m 89 0 (an_c x i) := c0; rw [mc] at c0)
      all_goals
        first
        | (replace d0 : m 89 0 (an_d x i) < 0 := d0; rw [md] at d0)
        | (replace d0 : 0 ≤ m 89 0 (an_d x i) := d0; rw [md] at d0)
        | skip
      all_goals
        first
        | (replace f0 : m 90 0 (m 89 0 (an_c x i)) = 0 := f0; rw [mc, m90 _ c0 pc.2.1] at f0)
        | (replace f0 : ¬ m 90 0 (m 89 0 (an_c x i)) = 0 := f0; rw [mc, m90 _ c0 pc.2.1] at f0)
        | skip
      all_goals
        first
        | (replace f1 : m 90 0 (m 89 0 (an_d x i)) = 0 := f1; rw [md, m90 _ d0 pd.2.1] at f1)
        | (replace f1 : ¬ m 90 0 (m 89 0 (an_d x i)) = 0 := f1; rw [md, m90 _ d0 pd.2.1] at f1)
        | skip
      all_goals
        first
        | exact c0
        | exact d0
        | exact f0
        | exact f1
        | (show m 89 0 (an_c x i) < 48; rw [mc]; omega)
        | (show m 89 0 (an_d x i) < 48; rw [md]; omega)
        | (obtain ⟨z1, z2, z3, z4⟩ := z; first | (rcases z2 with z2 | z2 <;> omega) | (rcases z3 with z3 | z3; omega; exact f0 z3) | (rcases z4 with z4 | z4; omega; exact f1 z4))
  exact lp n 0 β _ _ _ _ _ _ _ _ (by omega) ini (.inl β92)
