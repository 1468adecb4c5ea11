/-! route, the class: the next crossing, a search, a walk -/
theorem sp_takeC {LS d : Nat} {Post : ma_R → ma_M → Prop} {m : ma_M} {τ ω δ : Int → Int} (D : rt_D m τ ω δ) (K0 : 0 < m 40 0 9) (tb : ∀ y : Int, 0 ≤ y → y < 49 → τ y ≤ 245000) (h : ∀ (m' : ma_M) (x : Int), rt_near τ δ 49 x → rt_f1 m m' → rt_O 49 (m' 50 0) (m' 40 0 9) τ (bd_up δ x 1) → (∀ c : Nat, c ≠ 40 → c ≠ 50 → m' c = m c) → Post (.inl (some (ma_I x))) m') : ma_Ox LS (d + 1) mi_Routes_takeCheapest [ma_Rf 40 0] m Post := by
  refine gi_Routes_takeCheapest (fun R hR => s_Routes_takeCheapest_0 (d := d) hR ?_)
  have k49 := rt_O_K D.1
  obtain ⟨K, hK⟩ : ∃ K : Nat, m 40 0 9 = (K : Int) := ⟨(m 40 0 9).toNat, by omega⟩
  have lp : ∀ (k i j : Nat), i + k = K → j < i → (∀ q : Int, 0 ≤ q → q < i → τ (m 50 0 j) < τ (m 50 0 q) ∨ (τ (m 50 0 j) = τ (m 50 0 q) ∧ m 50 0 j ≤ m 50 0 q)) → ∀ u : ma_V, R 4 [ma_Rf 40 0, ma_I j, ma_I i, u] [] 0 m := by
    intro k
    induction k with
    | zero =>
      intro i j hi hj hb u
      have oj := D.1.2.1 j (by omega) (by omega)
      refine s_Routes_takeCheapest_4 hR ⟨fun _ => ⟨by omega, by omega, by omega, h _ _ ⟨oj.1, oj.2.1, oj.2.2.1, oj.2.2.2, fun y y0 y1 dy ty => ?_⟩ ⟨fun c c1 c2 c3 c4 c5 => by rw [ma_up_ck c5, ma_up_ck c1], by rw [ma_up_ck (by decide), ma_up_ne (by omega)]⟩ ?_ (fun c c1 c5 => by rw [ma_up_ck c5, ma_up_ck c1])⟩, fun q => by omega⟩
      · obtain ⟨q, q0, q1, e⟩ := D.1.2.2.1 y y0 y1 dy ty
        rw [← e]; exact hb q q0 (by omega)
      · have := rt_O_take D.1 (i := j) (by omega) (by omega)
        rw [rt_mup, ma_up_ck (k := 40) (k' := 50) (by decide), ma_up_ck (by decide), ma_up_eq]
        exact this
    | succ k ih =>
      intro i j hi hj hb u
      have oj := D.1.2.1 j (by omega) (by omega)
      have oi := D.1.2.1 i (by omega) (by omega)
      have dj := (D.2 _ oj.1 oj.2.1).1
      have di := (D.2 _ oi.1 oi.2.1).1
      have bj := tb _ oj.1 oj.2.1
      have bi := tb _ oi.1 oi.2.1
      have old : τ (m 50 0 j) < τ (m 50 0 i) ∨ (τ (m 50 0 j) = τ (m 50 0 i) ∧ m 50 0 j ≤ m 50 0 i) → R 4 [ma_Rf 40 0, ma_I j, ma_I ((i : Int) + 1), ma_U] [] 0 m := fun w => ih (i + 1) j (by omega) (by omega) (fun q q0 q1 => by
        by_cases e : q = i
        · rw [e]; exact w
        · exact hb q q0 (by omega)) _
      have new : τ (m 50 0 i) < τ (m 50 0 j) ∨ (τ (m 50 0 i) = τ (m 50 0 j) ∧ m 50 0 i ≤ m 50 0 j) → R 4 [ma_Rf 40 0, ma_I i, ma_I ((i : Int) + 1), ma_U] [] 0 m := fun w => ih (i + 1) i (by omega) (by omega) (fun q q0 q1 => by
        by_cases e : q = i
        · rw [e]; exact .inr ⟨rfl, Int.le_refl _⟩
        · have := hb q q0 (by omega); omega) _
      refine s_Routes_takeCheapest_4 hR ⟨fun q => by omega, fun _ => ?_⟩
      rw [dj, di]
      exact ⟨by omega, ⟨oj.1, by omega⟩, by omega, ⟨oi.1, by omega⟩, by omega, fun w => ⟨by omega, new (by omega)⟩, fun w => ⟨fun v => ⟨by omega, old (by omega)⟩, fun v => ⟨fun g => ⟨by omega, old (by omega)⟩, fun g => ⟨by omega, new (by omega)⟩⟩⟩⟩
  exact lp (K - 1) 1 0 (by omega) (by omega) (fun q q0 q1 => by rw [show q = ((0 : Nat) : Int) from by omega]; exact .inr ⟨rfl, Int.le_refl _⟩) _
theorem sp_openTree {LS d : Nat} {Post : ma_R → ma_M → Prop} {m : ma_M} {n src r : Int} {b U p : Int → Int} (n0 : 0 ≤ n) (n1 : n < 48) (C : rt_C m n src b U p r) (h : ∀ m' : ma_M, rt_f1 m m' → rt_D m' (rt_t0 src b) (fun _ => -1) (fun _ => 0) → Post (.inl none) m') : ma_Ox LS (d + 2) mi_Routes_openTree [ma_Rf 40 0, ma_I n] m Post := by
  refine gi_Routes_openTree (fun R hR => s_Routes_openTree_0 (d := d) hR ?_)
  have lp : ∀ (k x : Nat) (m' : ma_M), x + k = 49 → rt_f1 m m' → rt_O x (m' 50 0) (m' 40 0 9) (rt_t0 src b) (fun _ => 0) → (∀ y : Int, 0 ≤ y → y < x → m' 47 0 y = rt_t0 src b y ∧ m' 48 0 y = -1 ∧ m' 49 0 y = 0) → R 7 [ma_Rf 40 0, ma_I n, ma_I x] [] 0 m' := by
    intro k
    induction k with
    | zero =>
      intro x m' hx f O hy
      have e : x = 49 := by omega
      subst e
      exact s_Routes_openTree_7 hR ⟨fun _ => h m' f ⟨O, fun y y0 y1 => hy y y0 y1⟩, fun q => by omega⟩
    | succ k ih =>
      intro x m' hx f O hy
      have C' := rt_C_f1 C f
      have ex := rt_O_ext O (rfl : (fun _ => (0 : Int)) (x : Int) = 0)
      have bx := C'.2.2.1 x (by omega) (by omega)
      have kx := rt_O_K O
      have Y : (x : Int) = src ∨ 0 ≤ b x → (0 ≤ (m' 40 0 9) ∧ (m' 40 0 9) < 49) ∧ (-2147483648 ≤ ((m' 40 0 9) + 1) ∧ ((m' 40 0 9) + 1) < 2147483648) ∧ (-2147483648 ≤ ((x : Int) + 1) ∧ ((x : Int) + 1) < 2147483648) ∧ R 7 [ma_Rf 40 0, ma_I n, ma_I ((x : Int) + 1)] [] 0 (ma_up (ma_up (ma_up (ma_up (ma_up (ma_up m' 49 0 x 0) 47 0 x (-1)) 48 0 x (-1)) 47 0 x 0) 50 0 (m' 40 0 9) x) 40 0 9 ((m' 40 0 9) + 1)) := by
        intro w
        have t0 : rt_t0 src b x = 0 := by unfold rt_t0; rw [if_pos w]
        refine ⟨by omega, by omega, by omega, ih (x + 1) _ (by omega) ⟨fun c c1 c2 c3 c4 c5 => ?_, ?_⟩ ?_ (fun y y0 y1 => ?_)⟩
        · rw [ma_up_ck c1, ma_up_ck c5, ma_up_ck c2, ma_up_ck c3, ma_up_ck c2, ma_up_ck c4]; exact f.1 c c1 c2 c3 c4 c5
        · rw [ma_up_ne (by omega), ma_up_ck (by decide), ma_up_ck (by decide), ma_up_ck (by decide), ma_up_ck (by decide), ma_up_ck (by decide)]; exact f.2
        · rw [ma_up_ck (k' := 50) (by decide), rt_mup, ma_up_ck (k' := 50) (by decide), ma_up_ck (k' := 50) (by decide), ma_up_ck (k' := 50) (by decide), ma_up_ck (k' := 50) (by decide), ma_up_eq]
          exact (ex.1 (by omega)).2
        · rw [ma_up_ck (k' := 47) (by decide), ma_up_ck (k' := 47) (by decide), rt_mup, ma_up_ck (k' := 47) (by decide), rt_mup, ma_up_ck (k' := 47) (by decide), ma_up_ck (k' := 48) (by decide), ma_up_ck (k' := 48) (by decide), ma_up_ck (k' := 48) (by decide), rt_mup, ma_up_ck (k' := 48) (by decide), ma_up_ck (k' := 48) (by decide), ma_up_ck (k' := 49) (by decide), ma_up_ck (k' := 49) (by decide), ma_up_ck (k' := 49) (by decide), ma_up_ck (k' := 49) (by decide), ma_up_ck (k' := 49) (by decide), rt_mup]
          unfold bd_up
          by_cases e : y = x
          · rw [if_pos e, if_pos e, if_pos e, e, t0]; exact ⟨rfl, rfl, rfl⟩
          · rw [if_neg e, if_neg e, if_neg e, if_neg e]; exact hy y y0 (by omega)
      refine s_Routes_openTree_7 hR ⟨fun q => by omega, fun _ => ⟨by omega, by omega, ?_⟩⟩
      rw [C'.1, bx]
      refine ⟨fun q => Y (.inl q), fun q => ⟨fun g => ⟨by omega, ?_⟩, fun g => Y (.inr g)⟩⟩
      have t0 : rt_t0 src b x = -1 := by unfold rt_t0; rw [if_neg (by omega)]
      refine ih (x + 1) _ (by omega) ⟨fun c c1 c2 c3 c4 c5 => ?_, ?_⟩ ?_ (fun y y0 y1 => ?_)
      · rw [ma_up_ck c3, ma_up_ck c2, ma_up_ck c4]; exact f.1 c c1 c2 c3 c4 c5
      · rw [ma_up_ck (by decide), ma_up_ck (by decide), ma_up_ck (by decide)]; exact f.2
      · rw [ma_up_ck (by decide), ma_up_ck (by decide), ma_up_ck (by decide), ma_up_ck (by decide), ma_up_ck (by decide), ma_up_ck (by decide)]
        exact ex.2 (by omega)
      · rw [ma_up_ck (k' := 47) (by decide), rt_mup, ma_up_ck (k' := 47) (by decide), rt_mup, ma_up_ck (k' := 48) (by decide), ma_up_ck (k' := 48) (by decide), ma_up_ck (k' := 49) (by decide), ma_up_ck (k' := 49) (by decide), rt_mup]
        unfold bd_up
        by_cases e : y = x
        · rw [if_pos e, if_pos e, if_pos e, e, t0]; exact ⟨rfl, rfl, rfl⟩
        · rw [if_neg e, if_neg e, if_neg e]; exact hy y y0 (by omega)
  refine lp 49 0 _ (by omega) ⟨fun c c1 _ _ _ _ => ma_up_ck c1, ma_up_ne (by omega)⟩ ?_ (fun y a b => by omega)
  rw [ma_up_eq]
  exact ⟨rfl, fun i a b => by omega, fun y a b => by omega, fun i j a b => by omega⟩
theorem rt_C_walk {m : ma_M} {n src r x e : Int} {b U p : Int → Int} (C : rt_C m n src b U p r) (e0 : 0 ≤ e) (e1 : e < 84) (en : x = rl_lo e ∨ x = rl_hi e) (bx : b x = -1) (ie : rt_i b e = 0) : rt_C (ma_up (ma_up m 42 n x e) 44 0 e (m 44 0 e + 1)) n src (bd_up b x e) U p r := by
  refine ⟨by rw [ma_up_ck (by decide), ma_up_ck (by decide)]; exact C.1, by rw [ma_up_ck (by decide), ma_up_ck (by decide)]; exact C.2.1, fun z z0 z1 => ?_, fun e' a b => ?_⟩
  · rw [ma_up_ck (by decide)]
    unfold bd_up
    by_cases q : z = x
    · rw [if_pos q, q, ma_up_eq]
    · rw [if_neg q, ma_up_ne (fun z => q z.2)]; exact C.2.2.1 z z0 z1
  · rw [rt_mup, ma_up_ck (k' := 44) (by decide), ma_up_ck (k' := 46) (by decide), ma_up_ck (k' := 46) (by decide), rt_i_up a bx en]
    have c := C.2.2.2 e' a b
    refine ⟨?_, c.2⟩
    unfold bd_up
    by_cases q : e' = e
    · rw [if_pos q, if_pos q, ← q, c.1, q, ie]; omega
    · rw [if_neg q, if_neg q]; exact c.1
theorem sp_takeWay {LS d : Nat} {Post : ma_R → ma_M → Prop} {m : ma_M} {n src r sink : Int} {b U p ω δ F : Int → Int} (n0 : 0 ≤ n) (n1 : n < 48) (C : rt_C m n src b U p r) (S : rt_S src b) (hU : ∀ e : Int, 0 ≤ e → e < 84 → 0 ≤ U e ∧ U e ≤ 47) (P : rt_P (rt_A src b) ω δ F) (Fb : ∀ y : Int, 0 ≤ y → y < 49 → δ y = 1 → 0 ≤ F y ∧ F y < 49) (s0 : 0 ≤ sink) (s1 : sink < 49) (ds : δ sink = 1) (hw : ∀ y : Int, 0 ≤ y → y < 49 → m 48 0 y = ω y) (h : ∀ m' : ma_M, rt_fr n m m' → rt_C m' n src (rt_pt ω src 49 b sink) U p r → Post (.inl none) m') : ma_Ox LS (d + 3) mi_Routes_takeWay [ma_Rf 40 0, ma_I n, ma_I sink] m Post := by
  refine gi_Routes_takeWay (fun R hR => s_Routes_takeWay_0 (d := d) hR ?_)
  have lp : ∀ (k i : Nat) (b' : Int → Int) (x : Int) (m' : ma_M), i + k = 49 → F x < k → rt_C m' n src b' U p r → rt_I src sink b ω δ F b' x → rt_fr n m m' → m' 48 = m 48 → (∀ m'' : ma_M, rt_fr n m m'' → rt_C m'' n src (rt_pt ω src k b' x) U p r → Post (.inl none) m'') → ∀ u v : ma_V, R 5 [ma_Rf 40 0, ma_I n, u, ma_I x, ma_I i, v] [] 0 m' := by
    intro k
    induction k with
    | zero => intro i b' x m' hi hF C' I f e48 hp u v; have := I.2.2.2.1; omega
    | succ k ih =>
      intro i b' x m' hi hF C' I f e48 hp u v
      have un : rt_pt ω src (k + 1) b' x = if x = src ∨ 0 ≤ b' x then b' else rt_pt ω src k (bd_up b' x (ω x)) (wy_o (ω x) x) := rfl
      have x0 := I.1
      have x1 := I.2.1
      refine s_Routes_takeWay_5 hR ⟨fun q => by omega, fun _ => ⟨by omega, ?_⟩⟩
      rw [C'.1, C'.2.2.1 x x0 x1, e48, hw x x0 x1]
      refine ⟨fun q => hp m' f (by rw [un, if_pos (.inl q)]; exact C'), fun q => ⟨by omega, fun g => ?_, fun g => hp m' f (by rw [un, if_pos (.inr g)]; exact C')⟩⟩
      have nc : ¬ (x = src ∨ 0 ≤ b' x) := by omega
      have st := rt_I_step S P Fb I nc
      obtain ⟨I', w0, w1, en, Fd, ie, bx, nA⟩ := st
      rw [un, if_neg nc] at hp
      have Cw := rt_C_walk C' w0 w1 en bx ie
      have ot := rt_oth w0 w1 en
      have c44 := (C'.2.2.2 _ w0 w1).1
      have bU := hU _ w0 w1
      have nx : ∀ y : Int, y = wy_o (ω x) x → R 5 [ma_Rf 40 0, ma_I n, ma_U, ma_I y, ma_I ((i : Int) + 1), ma_I (ω x)] [] 0 (ma_up (ma_up m' 42 n x (ω x)) 44 0 (ω x) (m' 44 0 (ω x) + 1)) := by
        intro y hy
        rw [hy]
        refine ih (i + 1) _ _ _ (by omega) (by omega) Cw I' (rt_fr_t f ⟨fun c c1 c2 c3 _ _ _ _ => by rw [ma_up_ck c3, ma_up_ck c2], fun k' z hk => by rw [ma_up_ck (by decide), ma_up_ne (fun z => hk z.1)], by rw [ma_up_ck (by decide), ma_up_ck (by decide)]⟩) (by rw [ma_up_ck (by decide), ma_up_ck (by decide)]; exact e48) hp _ _
      have lo := rl_lo_rng w0 w1
      have hi' := rl_hi_rng w0 w1
      refine ⟨fun z => by omega, fun _ => ⟨fun z => by omega, fun _ => ⟨by omega, by omega, fun z => ?_, fun z => ?_⟩⟩⟩
      · rw [wr_lo1 z, td_nn (a := ω x - 42) (by omega)]
        have h1 := wr_hi1 z
        refine ⟨by omega, by omega, by omega, by omega, by omega, fun y => ⟨by omega, nx _ ?_⟩, fun y => ⟨by omega, nx _ ?_⟩⟩
        · unfold wy_o; omega
        · unfold wy_o; omega
      · have h7 := wr_hi7 z
        refine ⟨by omega, fun y => ⟨by omega, nx _ ?_⟩, fun y => ⟨by omega, nx _ ?_⟩⟩
        · unfold wy_o; omega
        · unfold wy_o; omega
  exact lp 49 0 b sink m (by omega) (by have := Fb sink s0 s1 ds; omega) C (rt_I_init s0 s1 ds (Fb sink s0 s1 ds) S) (rt_f1_fr rt_f1_rfl) rfl h _ _
theorem sp_addWay {LS d : Nat} {Post : ma_R → ma_M → Prop} {m : ma_M} {n src r sink : Int} {b U p : Int → Int} (n0 : 0 ≤ n) (n1 : n < 48) (C : rt_C m n src b U p r) (S : rt_S src b) (hU : ∀ e : Int, 0 ≤ e → e < 84 → 0 ≤ U e ∧ U e ≤ 47) (hp : ∀ e : Int, 0 ≤ e → e < 84 → 0 ≤ p e ∧ p e ≤ 1000) (r0 : 1 ≤ r) (r1 : r ≤ 20) (s0 : 0 ≤ sink) (s1 : sink < 49) (h : ∀ m' : ma_M, rt_fr n m m' → rt_C m' n src (rt_add (rt_t U p r) src b sink) U p r → Post (.inl none) m') : ma_Ox LS (d + 4) mi_Routes_addWay [ma_Rf 40 0, ma_I n, ma_I sink] m Post := by
  have tr : ∀ e : Int, 0 ≤ e → e < 84 → 1 ≤ rt_t U p r e ∧ rt_t U p r e ≤ 5000 := fun e e0 e1 => rt_t_rng (hU e e0 e1) (hp e e0 e1) r0 r1
  refine gi_Routes_addWay (fun R hR => s_Routes_addWay_0 (d := d) hR ?_)
  have lp : ∀ (j k : Nat) (m' : ma_M) (τ ω δ F : Int → Int), k + j = 49 → rt_f1 m m' → rt_D m' τ ω δ → rt_J (rt_A src b) τ ω δ F k → δ sink = 0 → rt_run (rt_t U p r) sink j τ ω δ = rt_run (rt_t U p r) sink 49 (rt_t0 src b) (fun _ => -1) (fun _ => 0) → ∀ u : ma_V, R 7 [ma_Rf 40 0, ma_I n, ma_I sink, ma_I k, u] [] 0 m' := by
    intro j
    induction j with
    | zero => intro k m' τ ω δ F hk f D J ds hr u; have := rt_J_k J s0 s1 ds; omega
    | succ j ih =>
      intro k m' τ ω δ F hk f D J ds hr u
      have un : rt_run (rt_t U p r) sink (j + 1) τ ω δ = if rt_sel τ δ 49 = sink then ω else rt_run (rt_t U p r) sink j (rt_T τ (bd_up δ (rt_sel τ δ 49) 1) (rt_t U p r) (rt_sel τ δ 49) 84) (rt_W τ (bd_up δ (rt_sel τ δ 49) 1) ω (rt_t U p r) (rt_sel τ δ 49) 84) (bd_up δ (rt_sel τ δ 49) 1) := rfl
      have kk := rt_J_k J s0 s1 ds
      have K0 : 0 < m' 40 0 9 := by
        apply Classical.byContradiction
        intro z
        refine rt_J_open J S.1 S.2.1 (.inl rfl) s0 s1 ds (fun y y0 y1 ty dy => ?_)
        obtain ⟨i, i0, i1, -⟩ := D.1.2.2.1 y y0 y1 dy ty
        omega
      refine s_Routes_addWay_7 hR ⟨fun q => by omega, fun _ => ⟨fun q => by omega, fun _ => ?_⟩⟩
      refine sp_takeC (d := d + 2) D K0 (fun y y0 y1 => by have := (J.2 y y0 y1).2.2.1; omega) (fun m1 x near f1 O1 c1 => k_Routes_addWay_21 hR ?_)
      have sel := rt_sel_of (n := 49) near
      rw [sel] at un
      have D1 : rt_D (ma_up m1 49 0 x 1) τ ω (bd_up δ x 1) := by
        refine ⟨?_, fun y y0 y1 => ?_⟩
        · rw [ma_up_ck (by decide), ma_up_ck (by decide)]; exact O1
        · have a := D.2 y y0 y1
          rw [ma_up_ck (by decide), ma_up_ck (by decide), rt_mup, c1 47 (by decide) (by decide), c1 48 (by decide) (by decide), c1 49 (by decide) (by decide)]
          refine ⟨a.1, a.2.1, ?_⟩
          unfold bd_up; rw [a.2.2]
      have f2 : rt_f1 m (ma_up m1 49 0 x 1) := rt_f1_t f (rt_f1_t f1 ⟨fun c _ _ _ c4 _ => ma_up_ck c4, by rw [ma_up_ck (by decide)]⟩)
      refine ⟨⟨near.1, near.2.1⟩, fun q => ?_, fun q => ?_⟩
      · refine sp_openN (d := d) (rt_C_f1 C f2) S hU hp r0 r1 (fun y y0 y1 => by have := J.2 y y0 y1; exact ⟨this.2.1, by omega, this.2.2.2.1⟩) near.2.2.2.1 near.1 near.2.1 D1 (fun m3 f3 D3 => k_Routes_addWay_46 hR ⟨by omega, ?_⟩)
        rw [if_neg q] at un
        exact ih (k + 1) m3 _ _ _ _ (by omega) (rt_f1_t f2 f3) D3 (rt_J_step J tr near.1 near.2.1 near.2.2.1 near.2.2.2.1) (by unfold bd_up; rw [if_neg (Ne.symm q)]; exact ds) (by rw [← un]; exact hr) _
      · rw [if_pos q] at un
        have nt := near.2.2.2.1
        rw [q] at nt
        have PP := rt_J_P J s0 s1 ds nt
        refine sp_takeWay (d := d) n0 n1 (rt_C_f1 C f2) S hU PP.1 (fun y y0 y1 dy => ⟨(PP.2 y y0 y1 dy).1, (PP.2 y y0 y1 dy).2.1⟩) s0 s1 (by unfold bd_up; rw [if_pos rfl]) (fun y y0 y1 => (D1.2 y y0 y1).2.1) (fun m3 f3 C3 => k_Routes_addWay_58 hR (h m3 (rt_fr_t (rt_f1_fr f2) f3) ?_))
        unfold rt_add
        rw [← hr, un]
        exact C3
  refine sp_openTree (d := d + 1) n0 n1 C (fun m1 f1 D1 => k_Routes_addWay_2 hR (lp 49 0 m1 _ _ _ (fun _ => 0) (by omega) f1 D1 rt_J_init rfl rfl _))

