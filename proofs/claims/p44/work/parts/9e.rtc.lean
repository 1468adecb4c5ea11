/-! route, the class: a search -/
def rt_C (m : ma_M) (n src : Int) (b U p : Int → Int) (r : Int) : Prop := m 43 0 n = src ∧ m 40 0 10 = r ∧ (∀ x : Int, 0 ≤ x → x < 49 → m 42 n x = b x) ∧ ∀ e : Int, 0 ≤ e → e < 84 → m 44 0 e = U e + rt_i b e ∧ m 46 0 e = p e
def rt_D (m : ma_M) (τ ω δ : Int → Int) : Prop := rt_O 49 (m 50 0) (m 40 0 9) τ δ ∧ ∀ y : Int, 0 ≤ y → y < 49 → m 47 0 y = τ y ∧ m 48 0 y = ω y ∧ m 49 0 y = δ y
/-- what a search changes; what a net changes -/
def rt_f1 (m m' : ma_M) : Prop := (∀ c : Nat, c ≠ 40 → c ≠ 47 → c ≠ 48 → c ≠ 49 → c ≠ 50 → m' c = m c) ∧ m' 40 0 10 = m 40 0 10
def rt_fr (n : Int) (m m' : ma_M) : Prop := (∀ c : Nat, c ≠ 40 → c ≠ 42 → c ≠ 44 → c ≠ 47 → c ≠ 48 → c ≠ 49 → c ≠ 50 → m' c = m c) ∧ (∀ k x : Int, k ≠ n → m' 42 k x = m 42 k x) ∧ m' 40 0 10 = m 40 0 10
theorem rt_f1_rfl {m : ma_M} : rt_f1 m m := ⟨fun _ _ _ _ _ _ => rfl, rfl⟩
theorem rt_f1_t {m m' m'' : ma_M} (h : rt_f1 m m') (g : rt_f1 m' m'') : rt_f1 m m'' := ⟨fun c a1 a2 a3 a4 a5 => by rw [g.1 c a1 a2 a3 a4 a5, h.1 c a1 a2 a3 a4 a5], by rw [g.2, h.2]⟩
theorem rt_f1_fr {n : Int} {m m' : ma_M} (h : rt_f1 m m') : rt_fr n m m' := ⟨fun c a1 _ _ a4 a5 a6 a7 => h.1 c a1 a4 a5 a6 a7, fun k x _ => by rw [h.1 42 (by decide) (by decide) (by decide) (by decide) (by decide)], h.2⟩
theorem rt_fr_t {n : Int} {m m' m'' : ma_M} (h : rt_fr n m m') (g : rt_fr n m' m'') : rt_fr n m m'' := ⟨fun c a1 a2 a3 a4 a5 a6 a7 => by rw [g.1 c a1 a2 a3 a4 a5 a6 a7, h.1 c a1 a2 a3 a4 a5 a6 a7], fun k x hk => by rw [g.2.1 k x hk, h.2.1 k x hk], by rw [g.2.2, h.2.2]⟩
theorem rt_C_f1 {m m' : ma_M} {n src r : Int} {b U p : Int → Int} (C : rt_C m n src b U p r) (h : rt_f1 m m') : rt_C m' n src b U p r := by
  unfold rt_C
  rw [h.1 43 (by decide) (by decide) (by decide) (by decide) (by decide), h.1 42 (by decide) (by decide) (by decide) (by decide) (by decide), h.1 44 (by decide) (by decide) (by decide) (by decide) (by decide), h.1 46 (by decide) (by decide) (by decide) (by decide) (by decide), h.2]
  exact C
theorem rt_D_cg {m : ma_M} {τ ω δ τ' ω' : Int → Int} (h : rt_D m τ ω δ) (e : ∀ z : Int, 0 ≤ z → z < 49 → τ z = τ' z ∧ ω z = ω' z) : rt_D m τ' ω' δ := ⟨rt_O_cg h.1 (fun y y0 y1 => (e y y0 y1).1), fun y y0 y1 => by
  have a := h.2 y y0 y1
  have b := e y y0 y1
  rw [← b.1, ← b.2]; exact a⟩
theorem rt_mup {m : ma_M} {c : Nat} {k v : Int} : (ma_up m c 0 k v) c 0 = bd_up (m c 0) k v := by
  funext y
  unfold bd_up
  by_cases e : y = k
  · rw [e, ma_up_eq, if_pos rfl]
  · rw [ma_up_ne (fun z => e z.2), if_neg e]
theorem rt_nb_cs {x y : Int} (x0 : 0 ≤ x) (x1 : x < 49) (y0 : 0 ≤ y) (y1 : y < 49) : (y + 7 = x ∧ rt_nb x y = y) ∨ (y = x + 7 ∧ rt_nb x y = x) ∨ (y + 1 = x ∧ ¬ x % 7 = 0 ∧ rt_nb x y = 42 + 6 * (x / 7) + x % 7 - 1) ∨ (y = x + 1 ∧ x % 7 < 6 ∧ rt_nb x y = 42 + 6 * (x / 7) + x % 7) ∨ rt_nb x y = -1 := by
  unfold rt_nb
  split
  · omega
  · split
    · omega
    · split
      · omega
      · split <;> omega
theorem sp_offerWay {LS d : Nat} {Post : ma_R → ma_M → Prop} {m : ma_M} {n src r x y : Int} {b U p τ ω δ : Int → Int} (C : rt_C m n src b U p r) (S : rt_S src b) (hU : ∀ e : Int, 0 ≤ e → e < 84 → 0 ≤ U e ∧ U e ≤ 47) (hp : ∀ e : Int, 0 ≤ e → e < 84 → 0 ≤ p e ∧ p e ≤ 1000) (r0 : 1 ≤ r) (r1 : r ≤ 20) (hy : ∀ y : Int, 0 ≤ y → y < 49 → -1 ≤ τ y ∧ τ y ≤ 245000 ∧ (rt_A src b y ↔ τ y = 0)) (tx : 0 ≤ τ x) (x0 : 0 ≤ x) (x1 : x < 49) (y0 : 0 ≤ y) (y1 : y < 49) (hn : 0 ≤ rt_nb x y)
    (D : rt_D m (rt_T τ δ (rt_t U p r) x (rt_nb x y)) (rt_W τ δ ω (rt_t U p r) x (rt_nb x y)) δ)
    (h : ∀ m' : ma_M, rt_f1 m m' → rt_D m' (rt_T τ δ (rt_t U p r) x (rt_nb x y + 1)) (rt_W τ δ ω (rt_t U p r) x (rt_nb x y + 1)) δ → Post (.inl none) m') : ma_Ox LS (d + 2) mi_Routes_offerWay [ma_Rf 40 0, ma_I x, ma_I (rt_nb x y), ma_I y] m Post := by
  have nr := rt_nb_rng x0 x1 y0 y1
  have en := rt_nb_end x0 x1 y0 y1 hn
  have k := rt_O_K D.1
  have dy := D.2 y y0 y1
  have dx := D.2 x x0 x1
  rw [rt_T_at] at dy
  have nbx : rt_nb x x < 0 := by have := (rt_nb_rng x0 x1 x0 x1).2.2; omega
  have tx' : rt_T τ δ (rt_t U p r) x (rt_nb x y) x = τ x := by unfold rt_T; rw [if_neg (by omega)]
  rw [tx'] at dx
  have c44 := (C.2.2.2 _ hn nr.2.1).1
  have c46 := (C.2.2.2 _ hn nr.2.1).2
  have ii := rt_i_rng (b := b) (e := rt_nb x y)
  have bU := hU _ hn nr.2.1
  have bp := hp _ hn nr.2.1
  have hyy := hy y y0 y1
  have hyx := hy x x0 x1
  have tr := rt_t_rng (U := U) (p := p) (e := rt_nb x y) bU bp r0 r1
  have ni : ¬ rt_A src b y → rt_i b (rt_nb x y) = 0 := fun nA => by
    rcases ii with z | z
    · exact z
    · have := rt_i_A S hn nr.2.1 z
      rcases en with w | w
      · exact absurd (by rw [w.2]; exact this.2) nA
      · exact absurd (by rw [w.2]; exact this.1) nA
  refine w_Routes_offerWay (d := d) ⟨⟨y0, y1⟩, fun q => ?_, fun q => ?_⟩
  · have dy0 : δ y = 0 := by rw [← dy.2.2]; exact q
    have K : ∀ s : Int, (¬ rt_A src b y → s = τ x + rt_t U p r (rt_nb x y)) → 1 ≤ s → ((0 ≤ (m 47 0 y) → ((s < (m 47 0 y) → Post (.inl none) (ma_up (ma_up m 47 0 y s) 48 0 y (rt_nb x y))) ∧ ((m 47 0 y) ≤ s → Post (.inl none) m))) ∧ ((m 47 0 y) < 0 → (0 ≤ (m 40 0 9) ∧ (m 40 0 9) < 49) ∧ (-2147483648 ≤ ((m 40 0 9) + 1) ∧ ((m 40 0 9) + 1) < 2147483648) ∧ Post (.inl none) (ma_up (ma_up (ma_up (ma_up m 50 0 (m 40 0 9) y) 40 0 9 ((m 40 0 9) + 1)) 47 0 y s) 48 0 y (rt_nb x y)))) := by
      intro s hs s1
      rw [dy.1]
      have DD : ∀ m' : ma_M, (∀ z : Int, 0 ≤ z → z < 49 → m' 47 0 z = bd_up (rt_T τ δ (rt_t U p r) x (rt_nb x y)) y s z ∧ m' 48 0 z = bd_up (rt_W τ δ ω (rt_t U p r) x (rt_nb x y)) y (rt_nb x y) z ∧ m' 49 0 z = δ z) → rt_O 49 (m' 50 0) (m' 40 0 9) (bd_up (rt_T τ δ (rt_t U p r) x (rt_nb x y)) y s) δ → (δ y = 0 ∧ (τ y < 0 ∨ τ x + rt_t U p r (rt_nb x y) < τ y)) → s = τ x + rt_t U p r (rt_nb x y) → rt_D m' (rt_T τ δ (rt_t U p r) x (rt_nb x y + 1)) (rt_W τ δ ω (rt_t U p r) x (rt_nb x y + 1)) δ := by
        intro m' a c cc es
        refine rt_D_cg (τ := bd_up (rt_T τ δ (rt_t U p r) x (rt_nb x y)) y s) (ω := bd_up (rt_W τ δ ω (rt_t U p r) x (rt_nb x y)) y (rt_nb x y)) ⟨c, a⟩ (fun z z0 z1 => ?_)
        rw [es]
        exact rt_T_hit x0 x1 y0 y1 hn cc z z0 z1
      have up : ∀ (M : ma_M), (∀ z : Int, 0 ≤ z → z < 49 → M 47 0 z = m 47 0 z ∧ M 48 0 z = m 48 0 z ∧ M 49 0 z = m 49 0 z) → ∀ z : Int, 0 ≤ z → z < 49 → (ma_up (ma_up M 47 0 y s) 48 0 y (rt_nb x y)) 47 0 z = bd_up (rt_T τ δ (rt_t U p r) x (rt_nb x y)) y s z ∧ (ma_up (ma_up M 47 0 y s) 48 0 y (rt_nb x y)) 48 0 z = bd_up (rt_W τ δ ω (rt_t U p r) x (rt_nb x y)) y (rt_nb x y) z ∧ (ma_up (ma_up M 47 0 y s) 48 0 y (rt_nb x y)) 49 0 z = δ z := by
        intro M hM z z0 z1
        have a := hM z z0 z1
        have b := D.2 z z0 z1
        rw [ma_up_ck (by decide), ma_up_ck (k' := 49) (by decide), ma_up_ck (k' := 49) (by decide), rt_mup, rt_mup, ma_up_ck (k := 47) (by decide)]
        unfold bd_up
        rw [a.1, a.2.1, a.2.2, b.1, b.2.1, b.2.2]
        exact ⟨rfl, rfl, rfl⟩
      refine ⟨fun q0 => ⟨fun q1 => ?_, fun q1 => ?_⟩, fun q0 => ?_⟩
      · have nA : ¬ rt_A src b y := fun a => by have := hyy.2.2.1 a; omega
        have es := hs nA
        refine h _ ⟨fun c c1 c2 c3 c4 c5 => by rw [ma_up_ck c3, ma_up_ck c2], by rw [ma_up_ck (by decide), ma_up_ck (by decide)]⟩ (DD _ (up m (fun z _ _ => ⟨rfl, rfl, rfl⟩)) ?_ ⟨dy0, .inr (by omega)⟩ es)
        rw [ma_up_ck (by decide), ma_up_ck (by decide), ma_up_ck (by decide), ma_up_ck (by decide)]
        exact rt_O_keep D.1 (by rw [rt_T_at]; exact q0) (by omega)
      · refine h m rt_f1_rfl (rt_D_cg D (rt_T_mis x0 x1 y0 y1 hn (fun z => ?_)))
        by_cases a : rt_A src b y
        · have := hyy.2.2.1 a; omega
        · have := hs a; omega
      · have nA : ¬ rt_A src b y := fun a => by have := hyy.2.2.1 a; omega
        have es := hs nA
        have ad := rt_O_add (v := s) D.1 y0 y1 dy0 (by rw [rt_T_at]; exact q0) (by omega)
        refine ⟨by omega, by omega, h _ ⟨fun c c1 c2 c3 c4 c5 => by rw [ma_up_ck c3, ma_up_ck c2, ma_up_ck c1, ma_up_ck c5], by rw [ma_up_ck (by decide), ma_up_ck (by decide), ma_up_ne (by omega), ma_up_ck (by decide)]⟩ (DD _ (up _ (fun z _ _ => ⟨by rw [ma_up_ck (by decide), ma_up_ck (by decide)], by rw [ma_up_ck (by decide), ma_up_ck (by decide)], by rw [ma_up_ck (by decide), ma_up_ck (by decide)]⟩)) ?_ ⟨dy0, .inl q0⟩ es)⟩
        rw [ma_up_ck (k' := 50) (by decide), ma_up_ck (k' := 50) (by decide), ma_up_ck (k' := 50) (by decide), rt_mup, ma_up_ck (k' := 40) (by decide), ma_up_ck (k' := 40) (by decide), ma_up_eq]
        exact ad.2
    rw [c44, c46, dx.1, C.2.1]
    refine ⟨⟨x0, x1⟩, by omega, by omega, by omega, by omega, fun g => ?_, fun g => ?_⟩
    · refine ⟨by omega, by omega, K _ (fun nA => ?_) (by omega)⟩
      have := ni nA
      unfold rt_t
      rw [if_neg (by omega)]
    · have mm := rt_mul (r := r) (u := U (rt_nb x y) + rt_i b (rt_nb x y) + 1 - 2) r0 r1 (by omega) (by omega)
      refine ⟨by omega, by omega, by omega, by omega, K _ (fun nA => ?_) (by omega)⟩
      have := ni nA
      unfold rt_t
      rw [this, Int.add_zero] at g ⊢
      rw [if_pos g]
  · refine h m rt_f1_rfl (rt_D_cg D (rt_T_mis x0 x1 y0 y1 hn (fun z => q (by rw [dy.2.2]; exact z.1))))
theorem sp_openN {LS d : Nat} {Post : ma_R → ma_M → Prop} {m : ma_M} {n src r x : Int} {b U p τ ω δ : Int → Int} (C : rt_C m n src b U p r) (S : rt_S src b) (hU : ∀ e : Int, 0 ≤ e → e < 84 → 0 ≤ U e ∧ U e ≤ 47) (hp : ∀ e : Int, 0 ≤ e → e < 84 → 0 ≤ p e ∧ p e ≤ 1000) (r0 : 1 ≤ r) (r1 : r ≤ 20) (hy : ∀ y : Int, 0 ≤ y → y < 49 → -1 ≤ τ y ∧ τ y ≤ 245000 ∧ (rt_A src b y ↔ τ y = 0)) (tx : 0 ≤ τ x) (x0 : 0 ≤ x) (x1 : x < 49)
    (D : rt_D m τ ω δ)
    (h : ∀ m' : ma_M, rt_f1 m m' → rt_D m' (rt_T τ δ (rt_t U p r) x 84) (rt_W τ δ ω (rt_t U p r) x 84) δ → Post (.inl none) m') : ma_Ox LS (d + 3) mi_Routes_openNeighbours [ma_Rf 40 0, ma_I x] m Post := by
  refine gi_Routes_openNeighbours (fun R hR => s_Routes_openNeighbours_0 (d := d) hR ?_)
  rw [td_nn x0, tm_nn x0]
  obtain ⟨c, hc⟩ : ∃ c, x / 7 = c := ⟨_, rfl⟩
  obtain ⟨w, hw⟩ : ∃ w, x % 7 = w := ⟨_, rfl⟩
  rw [hc, hw]
  have off : ∀ (m' : ma_M) (y e B : Int) (Q : ma_R → ma_M → Prop), 0 ≤ y → y < 49 → rt_nb x y = e → 0 ≤ e → rt_f1 m m' → B ≤ e → (∀ z : Int, 0 ≤ z → z < 49 → ¬ (B ≤ rt_nb x z ∧ rt_nb x z < e)) → rt_D m' (rt_T τ δ (rt_t U p r) x B) (rt_W τ δ ω (rt_t U p r) x B) δ → (∀ m'' : ma_M, rt_f1 m m'' → rt_D m'' (rt_T τ δ (rt_t U p r) x (e + 1)) (rt_W τ δ ω (rt_t U p r) x (e + 1)) δ → Q (.inl none) m'') → ma_Ox LS (d + 2) mi_Routes_offerWay [ma_Rf 40 0, ma_I x, ma_I e, ma_I y] m' Q := by
    intro m' y e B Q y0 y1 en e0 f Be sk D' k
    subst en
    exact sp_offerWay (d := d) (rt_C_f1 C f) S hU hp r0 r1 hy tx x0 x1 y0 y1 e0 (rt_D_cg D' (rt_T_skip Be sk)) (fun m'' f'' D'' => k m'' (rt_f1_t f f'') D'')
  have D0 : rt_D m (rt_T τ δ (rt_t U p r) x 0) (rt_W τ δ ω (rt_t U p r) x 0) δ := by rw [(rt_T_0 (ω := ω)).1, (rt_T_0 (τ := τ)).2]; exact D
  have FIN : ∀ (m' : ma_M) (B : Int), rt_f1 m m' → B ≤ 84 → (∀ z : Int, 0 ≤ z → z < 49 → ¬ (B ≤ rt_nb x z ∧ rt_nb x z < 84)) → rt_D m' (rt_T τ δ (rt_t U p r) x B) (rt_W τ δ ω (rt_t U p r) x B) δ → Post (.inl none) m' := fun m' B f Be sk D' => h m' f (rt_D_cg D' (rt_T_skip Be sk))
  have DOWN : ∀ (m' : ma_M), rt_f1 m m' → rt_D m' (rt_T τ δ (rt_t U p r) x (42 + 6 * c + w)) (rt_W τ δ ω (rt_t U p r) x (42 + 6 * c + w)) δ → ((6 ≤ w → Post (.inl none) m') ∧ (w < 6 → (-2147483648 ≤ (x + 1) ∧ (x + 1) < 2147483648) ∧ ma_Ox LS (d + 2) mi_Routes_offerWay [ma_Rf 40 0, ma_I x, ma_I ((42 + (6 * c)) + w), ma_I (x + 1)] m' (ma_ct (ma_Ox LS (d + 2)) (LS, [], 0, 0) 83 [ma_Rf 40 0, ma_I x, ma_U, ma_I w, ma_I ((42 + (6 * c)) + w)] [] 0 [] R (ma_DD (LS, [], 0, 0) Post)))) := by
    intro m' f D'
    refine ⟨fun q => FIN m' _ f (by omega) (fun z z0 z1 => ?_) D', fun q => ⟨by omega, off m' (x + 1) _ _ _ (by omega) (by omega) (by unfold rt_nb; rw [if_neg (by omega), if_neg (by omega), if_neg (by omega), if_pos (by omega), hc, hw]) (by omega) f (Int.le_refl _) (fun z _ _ => by omega) D' (fun m2 f2 D2 => k_Routes_openNeighbours_83 hR (FIN m2 _ f2 (by omega) (fun z z0 z1 => ?_) D2))⟩⟩
    · have := rt_nb_cs x0 x1 z0 z1; omega
    · have := rt_nb_cs x0 x1 z0 z1; omega
  have UPW : ∀ (m' : ma_M) (B : Int), rt_f1 m m' → B ≤ x + 1 → (∀ z : Int, 0 ≤ z → z < 49 → ¬ (B ≤ rt_nb x z ∧ rt_nb x z < x + 1)) → rt_D m' (rt_T τ δ (rt_t U p r) x B) (rt_W τ δ ω (rt_t U p r) x B) δ → ((w ≤ 0 → ((6 ≤ w → Post (.inl none) m') ∧ (w < 6 → (-2147483648 ≤ (x + 1) ∧ (x + 1) < 2147483648) ∧ ma_Ox LS (d + 2) mi_Routes_offerWay [ma_Rf 40 0, ma_I x, ma_I ((42 + (6 * c)) + w), ma_I (x + 1)] m' (ma_ct (ma_Ox LS (d + 2)) (LS, [], 0, 0) 83 [ma_Rf 40 0, ma_I x, ma_U, ma_I w, ma_I ((42 + (6 * c)) + w)] [] 0 [] R (ma_DD (LS, [], 0, 0) Post))))) ∧ (0 < w → (-2147483648 ≤ (((42 + (6 * c)) + w) - 1) ∧ (((42 + (6 * c)) + w) - 1) < 2147483648) ∧ (-2147483648 ≤ (x - 1) ∧ (x - 1) < 2147483648) ∧ ma_Ox LS (d + 2) mi_Routes_offerWay [ma_Rf 40 0, ma_I x, ma_I (((42 + (6 * c)) + w) - 1), ma_I (x - 1)] m' (ma_ct (ma_Ox LS (d + 2)) (LS, [], 0, 0) 67 [ma_Rf 40 0, ma_I x, ma_U, ma_I w, ma_I ((42 + (6 * c)) + w)] [] 0 [] R (ma_DD (LS, [], 0, 0) Post)))) := by
    intro m' B f Be sk D'
    refine ⟨fun q => DOWN m' f (rt_D_cg D' (rt_T_skip (by omega) (fun z z0 z1 => ?_))), fun q => ⟨by omega, by omega, off m' (x - 1) _ B _ (by omega) (by omega) (by unfold rt_nb; rw [if_neg (by omega), if_neg (by omega), if_pos (by omega), hc, hw]) (by omega) f (by omega) (fun z z0 z1 => ?_) D' (fun m2 f2 D2 => k_Routes_openNeighbours_67 hR (DOWN m2 f2 (by rw [show 42 + 6 * c + w - 1 + 1 = 42 + 6 * c + w from by omega] at D2; exact D2)))⟩⟩
    · have s := sk z z0 z1
      have := rt_nb_cs x0 x1 z0 z1; omega
    · have s := sk z z0 z1
      have := rt_nb_cs x0 x1 z0 z1; omega
  have RIGHT : ∀ (m' : ma_M) (B : Int), rt_f1 m m' → B ≤ x → (∀ z : Int, 0 ≤ z → z < 49 → ¬ (B ≤ rt_nb x z ∧ rt_nb x z < x)) → rt_D m' (rt_T τ δ (rt_t U p r) x B) (rt_W τ δ ω (rt_t U p r) x B) δ → ((6 ≤ c → ((w ≤ 0 → ((6 ≤ w → Post (.inl none) m') ∧ (w < 6 → (-2147483648 ≤ (x + 1) ∧ (x + 1) < 2147483648) ∧ ma_Ox LS (d + 2) mi_Routes_offerWay [ma_Rf 40 0, ma_I x, ma_I ((42 + (6 * c)) + w), ma_I (x + 1)] m' (ma_ct (ma_Ox LS (d + 2)) (LS, [], 0, 0) 83 [ma_Rf 40 0, ma_I x, ma_U, ma_I w, ma_I ((42 + (6 * c)) + w)] [] 0 [] R (ma_DD (LS, [], 0, 0) Post))))) ∧ (0 < w → (-2147483648 ≤ (((42 + (6 * c)) + w) - 1) ∧ (((42 + (6 * c)) + w) - 1) < 2147483648) ∧ (-2147483648 ≤ (x - 1) ∧ (x - 1) < 2147483648) ∧ ma_Ox LS (d + 2) mi_Routes_offerWay [ma_Rf 40 0, ma_I x, ma_I (((42 + (6 * c)) + w) - 1), ma_I (x - 1)] m' (ma_ct (ma_Ox LS (d + 2)) (LS, [], 0, 0) 67 [ma_Rf 40 0, ma_I x, ma_U, ma_I w, ma_I ((42 + (6 * c)) + w)] [] 0 [] R (ma_DD (LS, [], 0, 0) Post))))) ∧ (c < 6 → (-2147483648 ≤ (x + 7) ∧ (x + 7) < 2147483648) ∧ ma_Ox LS (d + 2) mi_Routes_offerWay [ma_Rf 40 0, ma_I x, ma_I x, ma_I (x + 7)] m' (ma_ct (ma_Ox LS (d + 2)) (LS, [], 0, 0) 51 [ma_Rf 40 0, ma_I x, ma_I c, ma_I w, ma_I ((42 + (6 * c)) + w)] [] 0 [] R (ma_DD (LS, [], 0, 0) Post)))) := by
    intro m' B f Be sk D'
    refine ⟨fun q => UPW m' B f (by omega) (fun z z0 z1 => ?_) D', fun q => ⟨by omega, off m' (x + 7) x B _ (by omega) (by omega) (by unfold rt_nb; rw [if_neg (by omega), if_pos rfl]) (by omega) f (by omega) sk D' (fun m2 f2 D2 => k_Routes_openNeighbours_51 hR (UPW m2 (x + 1) f2 (Int.le_refl _) (fun z _ _ => by omega) D2))⟩⟩
    have s := sk z z0 z1
    have := rt_nb_cs x0 x1 z0 z1; omega
  refine ⟨by omega, by omega, by omega, by omega, fun q => RIGHT m 0 rt_f1_rfl x0 (fun z z0 z1 => ?_) D0, fun q => ⟨by omega, off m (x - 7) _ 0 _ (by omega) (by omega) (by unfold rt_nb; rw [if_pos (by omega)]) (by omega) rt_f1_rfl (by omega) (fun z z0 z1 => ?_) D0 (fun m2 f2 D2 => k_Routes_openNeighbours_35 hR (RIGHT m2 _ f2 (by omega) (fun z z0 z1 => ?_) D2))⟩⟩
  · have := rt_nb_cs x0 x1 z0 z1; omega
  · have := rt_nb_cs x0 x1 z0 z1; omega
  · have := rt_nb_cs x0 x1 z0 z1; omega

