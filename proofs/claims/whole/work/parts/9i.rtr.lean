/-! route, the reference: a search -/
def rt_Cr (m : ma_M) (n src : Int) (b U p : Int → Int) : Prop := (∀ x : Int, 0 ≤ x → x < 49 → m 95 0 (n * 49 + x) = b x ∧ (¬ m 94 0 (n * 49 + x) = 0 ↔ rt_A src b x)) ∧ ∀ e : Int, 0 ≤ e → e < 84 → m 96 0 e = U e ∧ m 97 0 e = p e ∧ m 91 0 (n * 84 + e) = rt_i b e
def rt_Dr (m : ma_M) (τ ω δ : Int → Int) : Prop := ∀ y : Int, 0 ≤ y → y < 49 → m 98 0 y = τ y ∧ m 100 0 y = δ y ∧ (0 < τ y → m 99 0 y = ω y)
def rt_g1 (m m' : ma_M) : Prop := ∀ c : Nat, c ≠ 98 → c ≠ 99 → c ≠ 100 → m' c = m c
def rt_gr (n : Int) (m m' : ma_M) : Prop := (∀ c : Nat, c ≠ 91 → c ≠ 94 → c ≠ 95 → c ≠ 98 → c ≠ 99 → c ≠ 100 → m' c = m c) ∧ (∀ i : Int, ¬ (n * 84 ≤ i ∧ i < n * 84 + 84) → m' 91 0 i = m 91 0 i) ∧ ∀ i : Int, ¬ (n * 49 ≤ i ∧ i < n * 49 + 49) → m' 95 0 i = m 95 0 i
theorem rt_g1_gr {n : Int} {m m' : ma_M} (h : rt_g1 m m') : rt_gr n m m' := ⟨fun c _ _ _ c1 c2 c3 => h c c1 c2 c3, fun i _ => by rw [h 91 (by decide) (by decide) (by decide)], fun i _ => by rw [h 95 (by decide) (by decide) (by decide)]⟩
theorem rt_gr_t {n : Int} {m m' m'' : ma_M} (h : rt_gr n m m') (g : rt_gr n m' m'') : rt_gr n m m'' := ⟨fun c c1 c2 c3 c4 c5 c6 => by rw [g.1 c c1 c2 c3 c4 c5 c6, h.1 c c1 c2 c3 c4 c5 c6], fun i hi => by rw [g.2.1 i hi, h.2.1 i hi], fun i hi => by rw [g.2.2 i hi, h.2.2 i hi]⟩
theorem rt_Cr_g1 {m m' : ma_M} {n src : Int} {b U p : Int → Int} (C : rt_Cr m n src b U p) (h : rt_g1 m m') : rt_Cr m' n src b U p := by
  unfold rt_Cr
  rw [h 95 (by decide) (by decide) (by decide), h 94 (by decide) (by decide) (by decide), h 96 (by decide) (by decide) (by decide), h 97 (by decide) (by decide) (by decide), h 91 (by decide) (by decide) (by decide)]
  exact C
theorem rt_Dr_cg {m : ma_M} {τ ω δ τ' ω' : Int → Int} (h : rt_Dr m τ ω δ) (e : ∀ z : Int, 0 ≤ z → z < 49 → τ z = τ' z ∧ ω z = ω' z) : rt_Dr m τ' ω' δ := fun y y0 y1 => by
  have a := h y y0 y1
  have b := e y y0 y1
  rw [← b.1, ← b.2]; exact a
theorem sp_nearest {LS d : Nat} {Post : ma_R → ma_M → Prop} {m : ma_M} {τ ω δ : Int → Int} (D : rt_Dr m τ ω δ) (h : Post (.inl (some (ma_I (rt_sel τ δ 49)))) m) : ma_Ox LS (d + 1) mi_LatticefitModel_nearest [ma_Rf 69 0] m Post := by
  refine gi_LatticefitModel_nearest (fun R hR => s_LatticefitModel_nearest_0 (d := d) hR ?_)
  have lp : ∀ (k i : Nat), i + k = 49 → R 4 [ma_Rf 69 0, ma_I (rt_sel τ δ i), ma_I i] [] 0 m := by
    intro k
    induction k with
    | zero =>
      intro i hi
      have e : i = 49 := by omega
      subst e
      exact s_LatticefitModel_nearest_4 hR ⟨fun _ => h, fun q => by omega⟩
    | succ k ih =>
      intro i hi
      have un : rt_sel τ δ (i + 1) = if δ i = 0 ∧ 0 ≤ τ i ∧ (rt_sel τ δ i < 0 ∨ τ i < τ (rt_sel τ δ i)) then (i : Int) else rt_sel τ δ i := rfl
      have nx := ih (i + 1) (by omega)
      have di := D i (by omega) (by omega)
      have old : ¬ (δ i = 0 ∧ 0 ≤ τ i ∧ (rt_sel τ δ i < 0 ∨ τ i < τ (rt_sel τ δ i))) → R 4 [ma_Rf 69 0, ma_I (rt_sel τ δ i), ma_I ((i : Int) + 1)] [] 0 m := fun c => by rw [un, if_neg c] at nx; exact nx
      have new : (δ i = 0 ∧ 0 ≤ τ i ∧ (rt_sel τ δ i < 0 ∨ τ i < τ (rt_sel τ δ i))) → R 4 [ma_Rf 69 0, ma_I i, ma_I ((i : Int) + 1)] [] 0 m := fun c => by rw [un, if_pos c] at nx; exact nx
      refine s_LatticefitModel_nearest_4 hR ⟨fun q => by omega, fun _ => ⟨by omega, ?_⟩⟩
      rw [di.1, di.2.1]
      refine ⟨fun q => ⟨by omega, old (fun c => q c.1)⟩, fun q => ⟨fun g => ⟨by omega, old (by omega)⟩, fun g => ⟨fun w => ⟨by omega, new ⟨q, g, .inl w⟩⟩, fun w => ?_⟩⟩⟩
      rcases rt_sel_spec (τ := τ) (δ := δ) i with z | z
      · omega
      · have ds := D _ z.1 (by have := z.2.1; omega)
        rw [ds.1]
        have := z.2.1
        exact ⟨by omega, fun v => ⟨by omega, old (by omega)⟩, fun v => ⟨by omega, new ⟨q, g, .inr v⟩⟩⟩
  exact lp 49 0 (by omega)
theorem rt_Cr_walk {m : ma_M} {n src x e : Int} {b U p : Int → Int} (C : rt_Cr m n src b U p) (x0 : 0 ≤ x) (x1 : x < 49) (e0 : 0 ≤ e) (e1 : e < 84) (en : x = rl_lo e ∨ x = rl_hi e) (bx : b x = -1) : rt_Cr (ma_up (ma_up (ma_up m 94 0 (n * 49 + x) 1) 95 0 (n * 49 + x) e) 91 0 (n * 84 + e) 1) n src (bd_up b x e) U p := by
  refine ⟨fun z z0 z1 => ?_, fun e' a c => ?_⟩
  · have h := C.1 z z0 z1
    rw [ma_up_ck (k' := 95) (by decide), ma_up_ck (k' := 94) (by decide), ma_up_ck (k' := 94) (by decide)]
    unfold rt_A bd_up
    by_cases q : z = x
    · rw [if_pos q, q, ma_up_eq, ma_up_eq]
      exact ⟨rfl, fun _ => .inr e0, fun _ => by decide⟩
    · rw [if_neg q, ma_up_ne (by omega), ma_up_ne (by omega), ma_up_ck (by decide)]
      exact h
  · have h := C.2 e' a c
    rw [ma_up_ck (k' := 96) (by decide), ma_up_ck (k' := 96) (by decide), ma_up_ck (k' := 96) (by decide), ma_up_ck (k' := 97) (by decide), ma_up_ck (k' := 97) (by decide), ma_up_ck (k' := 97) (by decide), rt_i_up a bx en]
    refine ⟨h.1, h.2.1, ?_⟩
    by_cases q : e' = e
    · rw [if_pos q, q, ma_up_eq]
    · rw [if_neg q, ma_up_ne (by omega), ma_up_ck (by decide), ma_up_ck (by decide)]; exact h.2.2
theorem sp_reaches {LS d : Nat} {Post : ma_R → ma_M → Prop} {m : ma_M} {n src r sink : Int} {b U p : Int → Int} (n0 : 0 ≤ n) (n1 : n < 48) (C : rt_Cr m n src b U p) (S : rt_S src b) (hU : ∀ e : Int, 0 ≤ e → e < 84 → 0 ≤ U e ∧ U e ≤ 47) (hp : ∀ e : Int, 0 ≤ e → e < 84 → 0 ≤ p e ∧ p e ≤ 1000) (r0 : 1 ≤ r) (r1 : r ≤ 20) (s0 : 0 ≤ sink) (s1 : sink < 49) (h : ∀ m' : ma_M, rt_gr n m m' → rt_Cr m' n src (rt_add (rt_t U p r) src b sink) U p → Post (.inl none) m') : ma_Ox LS (d + 3) mi_LatticefitModel_reaches [ma_Rf 69 0, ma_I n, ma_I sink, ma_I r] m Post := by
  have tr : ∀ e : Int, 0 ≤ e → e < 84 → 1 ≤ rt_t U p r e ∧ rt_t U p r e ≤ 5000 := fun e e0 e1 => rt_t_rng (hU e e0 e1) (hp e e0 e1) r0 r1
  refine gi_LatticefitModel_reaches (fun R hR => s_LatticefitModel_reaches_0 (d := d) hR ?_)
  -- the walk
  have lw : ∀ (ω δ F : Int → Int) (M : ma_M), rt_P (rt_A src b) ω δ F → (∀ y : Int, 0 ≤ y → y < 49 → δ y = 1 → 0 ≤ F y ∧ F y < 49) → (∀ y : Int, 0 ≤ y → y < 49 → δ y = 1 → ¬ rt_A src b y → M 99 0 y = ω y) → ∀ (k : Nat) (b' : Int → Int) (x : Int) (m' : ma_M), F x < k → rt_Cr m' n src b' U p → rt_I src sink b ω δ F b' x → rt_gr n m m' → m' 99 = M 99 → (∀ m'' : ma_M, rt_gr n m m'' → rt_Cr m'' n src (rt_pt ω src k b' x) U p → Post (.inl none) m'') → ∀ u2 u3 u5 u6 u7 : ma_V, R 215 [ma_Rf 69 0, ma_I n, u2, u3, ma_I x, u5, u6, u7] [] 0 m' := by
    intro ω δ F M P Fb h99 k
    induction k with
    | zero => intro b' x m' hF C' I f e99 hq u2 u3 u5 u6 u7; have := I.2.2.2.1; omega
    | succ k ih =>
      intro b' x m' hF C' I f e99 hq u2 u3 u5 u6 u7
      have un : rt_pt ω src (k + 1) b' x = if x = src ∨ 0 ≤ b' x then b' else rt_pt ω src k (bd_up b' x (ω x)) (wy_o (ω x) x) := rfl
      have x0 := I.1
      have x1 := I.2.1
      have cx := C'.1 x x0 x1
      refine s_LatticefitModel_reaches_215 hR ⟨by omega, by omega, by omega, fun q => hq m' f (by rw [un, if_pos (show x = src ∨ 0 ≤ b' x from cx.2.1 q)]; exact C'), fun q => ?_⟩
      have nc : ¬ (x = src ∨ 0 ≤ b' x) := fun a => cx.2.2 a q
      obtain ⟨I', w0, w1, en, Fd, ie, bx, nA⟩ := rt_I_step S P Fb I nc
      rw [un, if_neg nc] at hq
      rw [e99, h99 x x0 x1 I.2.2.1 nA]
      have ot := rt_oth w0 w1 en
      have nx : ∀ y : Int, y = wy_o (ω x) x → R 215 [ma_Rf 69 0, ma_I n, ma_U, ma_U, ma_I y, ma_U, ma_U, ma_U] [] 0 (ma_up (ma_up (ma_up m' 94 0 (n * 49 + x) 1) 95 0 (n * 49 + x) (ω x)) 91 0 (n * 84 + ω x) 1) := by
        intro y hy
        rw [hy]
        exact ih _ _ _ (by omega) (rt_Cr_walk C' x0 x1 w0 w1 en bx) I' (rt_gr_t f ⟨fun c c1 c2 c3 _ _ _ => by rw [ma_up_ck c1, ma_up_ck c3, ma_up_ck c2], fun i hi => by rw [ma_up_ne (by omega), ma_up_ck (by decide), ma_up_ck (by decide)], fun i hi => by rw [ma_up_ck (by decide), ma_up_ne (by omega), ma_up_ck (by decide)]⟩) (by rw [ma_up_ck (by decide), ma_up_ck (by decide), ma_up_ck (by decide)]; exact e99) hq _ _ _ _ _
      have lo := rl_lo_rng w0 w1
      have hi' := rl_hi_rng w0 w1
      refine ⟨by omega, by omega, by omega, by omega, fun z => ?_, fun z => ?_⟩
      · rw [wr_lo1 z, td_nn (a := ω x - 42) (by omega)]
        have h1 := wr_hi1 z
        refine ⟨by omega, by omega, by omega, by omega, fun y => nx _ ?_, fun y => ⟨by omega, nx _ ?_⟩⟩
        · unfold wy_o; omega
        · unfold wy_o; omega
      · have h7 := wr_hi7 z
        refine ⟨fun y => nx _ ?_, fun y => ⟨by omega, nx _ ?_⟩⟩
        · unfold wy_o; omega
        · unfold wy_o; omega
  -- the search
  have l65 : ∀ (j k : Nat) (τ ω δ F : Int → Int) (m' : ma_M), k + j = 49 → rt_g1 m m' → rt_Dr m' τ ω δ → rt_J (rt_A src b) τ ω δ F k → δ sink = 0 → rt_run (rt_t U p r) sink j τ ω δ = rt_run (rt_t U p r) sink 49 (rt_t0 src b) (fun _ => -1) (fun _ => 0) → rt_near τ δ 49 (rt_sel τ δ 49) → ∀ u5 u6 u7 : ma_V, R 65 [ma_Rf 69 0, ma_I n, ma_I sink, ma_I r, ma_I (rt_sel τ δ 49), u5, u6, u7] [] 0 (ma_up m' 100 0 (rt_sel τ δ 49) 1) := by
    intro j
    induction j with
    | zero => intro k τ ω δ F m' hk f D J ds hr near u5 u6 u7; have := rt_J_k J s0 s1 ds; omega
    | succ j ih =>
      intro k τ ω δ F m' hk f D J ds hr near u5 u6 u7
      have un : rt_run (rt_t U p r) sink (j + 1) τ ω δ = if rt_sel τ δ 49 = sink then ω else rt_run (rt_t U p r) sink j (rt_T τ (bd_up δ (rt_sel τ δ 49) 1) (rt_t U p r) (rt_sel τ δ 49) 84) (rt_W τ (bd_up δ (rt_sel τ δ 49) 1) ω (rt_t U p r) (rt_sel τ δ 49) 84) (bd_up δ (rt_sel τ δ 49) 1) := rfl
      have kk := rt_J_k J s0 s1 ds
      generalize rt_sel τ δ 49 = x at near un ⊢
      obtain ⟨x0, x1, dx, tx, -⟩ := near
      have D1 : rt_Dr (ma_up m' 100 0 x 1) τ ω (bd_up δ x 1) := fun y y0 y1 => by
        have a := D y y0 y1
        rw [ma_up_ck (by decide), rt_mup, ma_up_ck (by decide)]
        refine ⟨a.1, ?_, a.2.2⟩
        unfold bd_up; rw [a.2.1]
      have f1 : rt_g1 m (ma_up m' 100 0 x 1) := fun c c1 c2 c3 => by rw [ma_up_ck c3]; exact f c c1 c2 c3
      generalize ma_up m' 100 0 x 1 = M at D1 f1 ⊢
      refine s_LatticefitModel_reaches_65 hR ⟨fun q => ?_, fun q => ?_⟩
      · rw [if_pos q] at un
        rw [q] at D1 dx tx ⊢
        have PP := rt_J_P J s0 s1 ds tx
        refine lw ω (bd_up δ sink 1) (bd_up F sink k) M PP.1 (fun y y0 y1 dy => ⟨(PP.2 y y0 y1 dy).1, (PP.2 y y0 y1 dy).2.1⟩) (fun y y0 y1 dy nA => (D1 y y0 y1).2.2 ((PP.2 y y0 y1 dy).2.2 nA)) 49 b sink M ?_ (rt_Cr_g1 C f1) (rt_I_init s0 s1 (by unfold bd_up; rw [if_pos rfl]) ?_ S) (rt_g1_gr f1) rfl (fun m2 f2 C2 => h m2 f2 ?_) _ _ _ _ _
        · unfold bd_up; rw [if_pos rfl]; omega
        · unfold bd_up; rw [if_pos rfl]; omega
        · unfold rt_add
          rw [← hr, un]; exact C2
      · rw [if_neg q] at un
        have JX := J.2 x x0 x1
        have nbx : rt_nb x x < 0 := by have := (rt_nb_rng x0 x1 x0 x1).2.2; omega
        have le : ∀ (i e : Nat) (m2 : ma_M), e + i = 84 → rt_g1 m m2 → rt_Dr m2 (rt_T τ (bd_up δ x 1) (rt_t U p r) x e) (rt_W τ (bd_up δ x 1) ω (rt_t U p r) x e) (bd_up δ x 1) → ∀ u6 u7 : ma_V, R 74 [ma_Rf 69 0, ma_I n, ma_I sink, ma_I r, ma_I x, ma_I e, u6, u7] [] 0 m2 := by
          intro i
          induction i with
          | zero =>
            intro e m2 he f2 D2 u6 u7
            have e84 : e = 84 := by omega
            subst e84
            rw [show ((84 : Nat) : Int) = 84 from rfl] at D2
            refine s_LatticefitModel_reaches_74 hR ⟨fun _ => ?_, fun z => by omega⟩
            have J' := rt_J_step J tr x0 x1 dx tx
            have ds' : bd_up δ x 1 sink = 0 := by unfold bd_up; rw [if_neg (Ne.symm q)]; exact ds
            have near' : rt_near (rt_T τ (bd_up δ x 1) (rt_t U p r) x 84) (bd_up δ x 1) 49 (rt_sel (rt_T τ (bd_up δ x 1) (rt_t U p r) x 84) (bd_up δ x 1) 49) := by
              rcases rt_sel_spec (τ := rt_T τ (bd_up δ x 1) (rt_t U p r) x 84) (δ := bd_up δ x 1) 49 with g | g
              · exact absurd (fun y y0 y1 ty dy => g.2 y y0 y1 ⟨dy, ty⟩) (rt_J_open J' S.1 S.2.1 (.inl rfl) s0 s1 ds')
              · exact g
            refine sp_nearest (d := d + 1) D2 (k_LatticefitModel_reaches_199 hR ⟨⟨near'.1, near'.2.1⟩, ?_⟩)
            exact ih (k + 1) _ _ _ _ m2 (by omega) f2 D2 J' ds' (by rw [← un]; exact hr) near' _ _ _
          | succ i ihe =>
            intro e m2 he f2 D2 u6 u7
            have e0 : (0 : Int) ≤ e := by omega
            have e1 : (e : Int) < 84 := by omega
            have lo := rl_lo_rng e0 e1
            have hi' := rl_hi_rng e0 e1
            have C2 := (rt_Cr_g1 C f2).2 e e0 e1
            have bU := hU e e0 e1
            have bp := hp e e0 e1
            have te := tr e e0 e1
            have D2x := D2 x x0 x1
            have tx' : rt_T τ (bd_up δ x 1) (rt_t U p r) x e x = τ x := by unfold rt_T; rw [if_neg (by omega)]
            rw [tx'] at D2x
            have wr : 0 ≤ (if 0 < U e + 1 - 2 then U e + 1 - 2 else 0) ∧ (if 0 < U e + 1 - 2 then U e + 1 - 2 else 0) ≤ 47 := by split <;> omega
            have mm := rt_mul (r := r) r0 r1 wr.1 wr.2
            have hW : 1 + p e + 4 * r * (if 0 < U e + 1 - 2 then U e + 1 - 2 else 0) = rt_t U p r e := by
              unfold rt_t
              by_cases g : 0 < U e + 1 - 2
              · rw [if_pos g, if_pos g]
              · rw [if_neg g, if_neg g, Int.mul_zero]
            have skip : ¬ (x = rl_lo e ∨ x = rl_hi e) → R 74 [ma_Rf 69 0, ma_I n, ma_I sink, ma_I r, ma_I x, ma_I ((e : Int) + 1), ma_U, ma_U] [] 0 m2 := fun no => ihe (e + 1) m2 (by omega) f2 (rt_Dr_cg D2 (rt_T_skip (by omega) (fun z z0 z1 g => no (rt_nb_is e0 x0 x1 z0 z1 (by omega)).1))) _ _
            have OFF : ∀ y : Int, y = wy_o e x → (x = rl_lo e ∨ x = rl_hi e) → ((y < 0 → (-2147483648 ≤ ((e : Int) + 1) ∧ ((e : Int) + 1) < 2147483648) ∧ R 74 [ma_Rf 69 0, ma_I n, ma_I sink, ma_I r, ma_I x, ma_I ((e : Int) + 1), ma_U, ma_U] [] 0 m2) ∧ (0 ≤ y → (0 ≤ y ∧ y < 49) ∧ ((¬ (m2 100 0 y) = 0 → (-2147483648 ≤ ((e : Int) + 1) ∧ ((e : Int) + 1) < 2147483648) ∧ R 74 [ma_Rf 69 0, ma_I n, ma_I sink, ma_I r, ma_I x, ma_I ((e : Int) + 1), ma_U, ma_U] [] 0 m2) ∧ ((m2 100 0 y) = 0 → (((m2 98 0 y) < 0 → (-2147483648 ≤ ((e : Int) + 1) ∧ ((e : Int) + 1) < 2147483648) ∧ R 74 [ma_Rf 69 0, ma_I n, ma_I sink, ma_I r, ma_I x, ma_I ((e : Int) + 1), ma_U, ma_U] [] 0 (ma_up (ma_up m2 98 0 y (τ x + rt_t U p r e)) 99 0 y e)) ∧ (0 ≤ (m2 98 0 y) → (((m2 98 0 y) ≤ (τ x + rt_t U p r e) → (-2147483648 ≤ ((e : Int) + 1) ∧ ((e : Int) + 1) < 2147483648) ∧ R 74 [ma_Rf 69 0, ma_I n, ma_I sink, ma_I r, ma_I x, ma_I ((e : Int) + 1), ma_U, ma_U] [] 0 m2) ∧ ((τ x + rt_t U p r e) < (m2 98 0 y) → (-2147483648 ≤ ((e : Int) + 1) ∧ ((e : Int) + 1) < 2147483648) ∧ R 74 [ma_Rf 69 0, ma_I n, ma_I sink, ma_I r, ma_I x, ma_I ((e : Int) + 1), ma_U, ma_U] [] 0 (ma_up (ma_up m2 98 0 y (τ x + rt_t U p r e)) 99 0 y e))))))))) := by
              intro y hy en
              have ot := rt_oth e0 e1 en
              rw [← hy] at ot
              obtain ⟨y0, y1, -, -, nb, -, -, -⟩ := ot
              have n0' : 0 ≤ rt_nb x y := by rw [nb]; exact e0
              have D2y := D2 y y0 y1
              have ty : rt_T τ (bd_up δ x 1) (rt_t U p r) x e y = τ y := by rw [← nb]; exact rt_T_at
              rw [ty] at D2y
              have hit := rt_T_hit (τ := τ) (ω := ω) (δ := bd_up δ x 1) (t := rt_t U p r) x0 x1 y0 y1 n0'
              have mis := rt_T_mis (τ := τ) (ω := ω) (δ := bd_up δ x 1) (t := rt_t U p r) x0 x1 y0 y1 n0'
              rw [nb] at hit mis
              have keep : ¬ (bd_up δ x 1 y = 0 ∧ (τ y < 0 ∨ τ x + rt_t U p r e < τ y)) → R 74 [ma_Rf 69 0, ma_I n, ma_I sink, ma_I r, ma_I x, ma_I ((e : Int) + 1), ma_U, ma_U] [] 0 m2 := fun c => ihe (e + 1) m2 (by omega) f2 (rt_Dr_cg D2 (mis c)) _ _
              have chg : (bd_up δ x 1 y = 0 ∧ (τ y < 0 ∨ τ x + rt_t U p r e < τ y)) → R 74 [ma_Rf 69 0, ma_I n, ma_I sink, ma_I r, ma_I x, ma_I ((e : Int) + 1), ma_U, ma_U] [] 0 (ma_up (ma_up m2 98 0 y (τ x + rt_t U p r e)) 99 0 y e) := fun c => by
                refine ihe (e + 1) _ (by omega) (fun c c1 c2 c3 => by rw [ma_up_ck c2, ma_up_ck c1]; exact f2 c c1 c2 c3) (rt_Dr_cg (τ := bd_up (rt_T τ (bd_up δ x 1) (rt_t U p r) x e) y (τ x + rt_t U p r e)) (ω := bd_up (rt_W τ (bd_up δ x 1) ω (rt_t U p r) x e) y e) (fun z z0 z1 => ?_) (hit c)) _ _
                have a := D2 z z0 z1
                rw [ma_up_ck (k' := 98) (by decide), rt_mup, ma_up_ck (k' := 100) (by decide), ma_up_ck (k' := 100) (by decide), rt_mup, ma_up_ck (k' := 99) (by decide)]
                unfold bd_up at a ⊢
                by_cases w : z = y
                · rw [if_pos w, if_pos w, if_pos w, if_pos w]; exact ⟨rfl, a.2.1, fun _ => rfl⟩
                · rw [if_neg w, if_neg w, if_neg w, if_neg w]; exact a
              rw [D2y.1, D2y.2.1]
              exact ⟨fun z => by omega, fun _ => ⟨⟨y0, y1⟩, fun z => ⟨by omega, keep (fun c => z c.1)⟩, fun z => ⟨fun w => ⟨by omega, chg ⟨z, .inl w⟩⟩, fun w => ⟨fun v => ⟨by omega, keep (by omega)⟩, fun v => ⟨by omega, chg ⟨z, .inr v⟩⟩⟩⟩⟩⟩
            refine s_LatticefitModel_reaches_74 hR ⟨fun z => by omega, fun _ => ?_⟩
            rw [C2.1, C2.2.1, D2x.1, hW]
            refine ⟨fun z => ?_, fun z => ?_⟩
            · rw [wr_lo1 z, td_nn (a := (e : Int) - 42) (by omega)]
              have h1 := wr_hi1 z
              refine ⟨by omega, by omega, by omega, by omega, fun g => ⟨by omega, fun w => ⟨by omega, by omega, by omega, by omega, by omega, by omega, by omega, by omega, by omega, by omega, skip (by omega)⟩, fun w => ⟨by omega, by omega, by omega, by omega, by omega, by omega, by omega, by omega, by omega, OFF _ (by unfold wy_o; omega) (by omega)⟩⟩, fun g => ⟨by omega, by omega, by omega, by omega, by omega, by omega, by omega, by omega, by omega, by omega, OFF _ (by unfold wy_o; omega) (by omega)⟩⟩
            · have h7 := wr_hi7 z
              refine ⟨fun g => ⟨by omega, fun w => ⟨by omega, by omega, by omega, by omega, by omega, by omega, by omega, by omega, by omega, by omega, skip (by omega)⟩, fun w => ⟨by omega, by omega, by omega, by omega, by omega, by omega, by omega, by omega, by omega, OFF _ (by unfold wy_o; omega) (by omega)⟩⟩, fun g => ⟨by omega, by omega, by omega, by omega, by omega, by omega, by omega, by omega, by omega, by omega, OFF _ (by unfold wy_o; omega) (by omega)⟩⟩
        exact le 84 0 M (by omega) f1 (by rw [show ((0 : Nat) : Int) = 0 from rfl, (rt_T_0 (ω := ω)).1, (rt_T_0 (τ := τ)).2]; exact D1) _ _
  -- the beginning
  have l3 : ∀ (k x : Nat) (m' : ma_M), x + k = 49 → rt_g1 m m' → (∀ y : Int, 0 ≤ y → y < x → m' 98 0 y = rt_t0 src b y ∧ m' 100 0 y = 0) → ∀ u5 u6 u7 : ma_V, R 3 [ma_Rf 69 0, ma_I n, ma_I sink, ma_I r, ma_I x, u5, u6, u7] [] 0 m' := by
    intro k
    induction k with
    | zero =>
      intro x m' hx f hy u5 u6 u7
      have e : x = 49 := by omega
      subst e
      refine s_LatticefitModel_reaches_3 hR ⟨fun _ => ?_, fun q => by omega⟩
      have J0 : rt_J (rt_A src b) (rt_t0 src b) (fun _ => -1) (fun _ => 0) (fun _ => 0) 0 := rt_J_init
      have D0 : rt_Dr m' (rt_t0 src b) (fun _ => -1) (fun _ => 0) := fun y y0 y1 => ⟨(hy y y0 y1).1, (hy y y0 y1).2, fun z => by unfold rt_t0 at z; split at z <;> omega⟩
      have near : rt_near (rt_t0 src b) (fun _ => 0) 49 (rt_sel (rt_t0 src b) (fun _ => 0) 49) := by
        rcases rt_sel_spec (τ := rt_t0 src b) (δ := fun _ => 0) 49 with g | g
        · exact absurd (fun y y0 y1 ty dy => g.2 y y0 y1 ⟨dy, ty⟩) (rt_J_open J0 S.1 S.2.1 (.inl rfl) s0 s1 rfl)
        · exact g
      exact sp_nearest (d := d + 1) D0 (k_LatticefitModel_reaches_52 hR ⟨⟨near.1, near.2.1⟩, l65 49 0 _ _ _ _ m' (by omega) f D0 J0 rfl rfl near _ _ _⟩)
    | succ k ih =>
      intro x m' hx f hy u5 u6 u7
      have cx := ((rt_Cr_g1 C f).1 x (by omega) (by omega)).2
      have nx : ∀ v : Int, v = rt_t0 src b x → R 3 [ma_Rf 69 0, ma_I n, ma_I sink, ma_I r, ma_I ((x : Int) + 1), ma_U, ma_U, ma_U] [] 0 (ma_up (ma_up m' 98 0 x v) 100 0 x 0) := fun v hv => ih (x + 1) _ (by omega) (fun c c1 c2 c3 => by rw [ma_up_ck c3, ma_up_ck c1]; exact f c c1 c2 c3) (fun y y0 y1 => by
        rw [ma_up_ck (k' := 98) (by decide), rt_mup, rt_mup, ma_up_ck (k' := 100) (by decide)]
        unfold bd_up
        by_cases e : y = x
        · rw [if_pos e, if_pos e, e, hv]; exact ⟨rfl, rfl⟩
        · rw [if_neg e, if_neg e]; exact hy y y0 (by omega)) _ _ _
      refine s_LatticefitModel_reaches_3 hR ⟨fun q => by omega, fun _ => ⟨by omega, by omega, by omega, fun q => ⟨by omega, by omega, nx _ ?_⟩, fun q => ⟨by omega, by omega, nx _ ?_⟩⟩⟩
      · unfold rt_t0; rw [if_neg (show ¬ ((x : Int) = src ∨ 0 ≤ b x) from fun a => cx.2 a q)]
      · unfold rt_t0; rw [if_pos (show (x : Int) = src ∨ 0 ≤ b x from cx.1 q)]
  exact l3 49 0 m (by omega) (fun _ _ _ _ => rfl) (fun y a b => by omega) _ _ _
