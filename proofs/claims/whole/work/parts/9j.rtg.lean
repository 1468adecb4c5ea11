/-! route, the reference: a net, the rounds -/
def rt_gv (n : Int) (m m' : ma_M) : Prop := (∀ c : Nat, c ≠ 91 → c ≠ 94 → c ≠ 95 → c ≠ 96 → c ≠ 98 → c ≠ 99 → c ≠ 100 → m' c = m c) ∧ (∀ i : Int, ¬ (n * 84 ≤ i ∧ i < n * 84 + 84) → m' 91 0 i = m 91 0 i) ∧ ∀ i : Int, ¬ (n * 49 ≤ i ∧ i < n * 49 + 49) → m' 95 0 i = m 95 0 i
theorem rt_gr_gv {n : Int} {m m' m'' : ma_M} (h : rt_gv n m m') (g : rt_gr n m' m'') : rt_gv n m m'' := ⟨fun c c1 c2 c3 c4 c5 c6 c7 => by rw [g.1 c c1 c2 c3 c5 c6 c7, h.1 c c1 c2 c3 c4 c5 c6 c7], fun i hi => by rw [g.2.1 i hi, h.2.1 i hi], fun i hi => by rw [g.2.2 i hi, h.2.2 i hi]⟩
theorem rt_src_rng {μ : ma_M} (Hc : rl_c μ) (Hm : rl_m μ) (Hp : rl_p μ) {n : Int} (n0 : 0 ≤ n) (n1 : n < μ 3 0 10) (hk : μ 4 0 n = 105 ∨ 0 ≤ μ 28 0 n) : 0 ≤ rl_src μ n ∧ rl_src μ n < 49 := by
  have I1 := Hc.2.2.2.1
  have nn := Hc.2.2.2.2.2.2.2.2.2.2.2.2.1 n n0 n1
  have mm := Hm.2.2.2.1 n n0 n1
  unfold rl_src
  by_cases p : μ 4 0 n = 105
  · rw [if_pos p]; have := nn.2.2.1 p; omega
  · rw [if_neg p]
    have b0 : 0 ≤ μ 28 0 n := by
      rcases hk with z | z
      · exact absurd z p
      · exact z
    have pb := Hp.1 _ b0 mm.2.2.2.2.2.2.1
    have := rl_x_rng pb.2.1 pb.2.2.1
    omega
theorem sp_gives {LS d : Nat} {Post : ma_R → ma_M → Prop} {μ m : ma_M} {n src r : Int} {b0 u p pin : Int → Int} (Hc : rl_c μ) (Hm : rl_m μ) (Hp : rl_p μ) (hv : m 70 = μ 70 ∧ m 81 = μ 81 ∧ m 85 = μ 85 ∧ m 75 = μ 75) (n0 : 0 ≤ n) (n1 : n < μ 3 0 10) (hk : μ 4 0 n = 105 ∨ 0 ≤ μ 28 0 n) (hsrc : src = rl_src μ n) (h91 : ∀ e : Int, 0 ≤ e → e < 84 → m 91 0 (n * 84 + e) = rt_i b0 e) (h96 : ∀ e : Int, 0 ≤ e → e < 84 → m 96 0 e = u e ∧ m 97 0 e = p e) (h93 : ∀ x : Int, 0 ≤ x → x < 49 → (¬ m 93 0 (n * 49 + x) = 0 ↔ ¬ pin x = 0)) (hu : ∀ e : Int, 0 ≤ e → e < 84 → 0 ≤ u e ∧ u e ≤ 48) (hU : ∀ e : Int, 0 ≤ e → e < 84 → 0 ≤ u e - rt_i b0 e ∧ u e - rt_i b0 e ≤ 47) (hp : ∀ e : Int, 0 ≤ e → e < 84 → 0 ≤ p e ∧ p e ≤ 1000) (r0 : 1 ≤ r) (r1 : r ≤ 20)
    (h : ∀ m' : ma_M, rt_gv n m m' → (∀ x : Int, 0 ≤ x → x < 49 → m' 95 0 (n * 49 + x) = rt_lay (rt_t (fun e => u e - rt_i b0 e) p r) src pin 49 x) → (∀ e : Int, 0 ≤ e → e < 84 → m' 91 0 (n * 84 + e) = rt_i (rt_lay (rt_t (fun e => u e - rt_i b0 e) p r) src pin 49) e ∧ m' 96 0 e = u e - rt_i b0 e + rt_i (rt_lay (rt_t (fun e => u e - rt_i b0 e) p r) src pin 49) e) → Post (.inl none) m') : ma_Ox LS (d + 4) mi_LatticefitModel_gives [ma_Rf 69 0, ma_I n, ma_I r] m Post := by
  have N1 := Hc.2.1
  have sr := rt_src_rng Hc Hm Hp n0 n1 hk
  rw [← hsrc] at sr
  have tr : ∀ e : Int, 0 ≤ e → e < 84 → 1 ≤ rt_t (fun e => u e - rt_i b0 e) p r e ∧ rt_t (fun e => u e - rt_i b0 e) p r e ≤ 5000 := fun e e0 e1 => rt_t_rng (hU e e0 e1) (hp e e0 e1) r0 r1
  refine gi_LatticefitModel_gives (fun R hR => s_LatticefitModel_gives_0 (d := d) hR ?_)
  -- the users of the net's edges are counted again
  have l156 : ∀ (b : Int → Int) (k e : Nat) (m' : ma_M), e + k = 84 → (∀ m'' : ma_M, rt_gv n m m'' → m'' 91 = m' 91 → m'' 95 = m' 95 → (∀ i : Int, 0 ≤ i → i < 84 → m'' 96 0 i = u i - rt_i b0 i + rt_i b i) → Post (.inl none) m'') → rt_gv n m m' → (∀ i : Int, 0 ≤ i → i < 84 → m' 91 0 (n * 84 + i) = rt_i b i) → (∀ i : Int, 0 ≤ i → i < 84 → m' 96 0 i = if i < e then u i - rt_i b0 i + rt_i b i else u i - rt_i b0 i) → ∀ v : ma_V, R 156 [ma_Rf 69 0, ma_I n, v, ma_I e] [] 0 m' := by
    intro b k
    induction k with
    | zero =>
      intro e m' he hq f g91 g96 v
      exact s_LatticefitModel_gives_156 hR ⟨fun _ => hq m' f rfl rfl (fun i i0 i1 => by rw [g96 i i0 i1, if_pos (by omega)]), fun q => by omega⟩
    | succ k ih =>
      intro e m' he hq f g91 g96 v
      have bb := hU e (by omega) (by omega)
      have r1' := rt_i_rng (b := b) (e := e)
      refine s_LatticefitModel_gives_156 hR ⟨fun q => by omega, fun _ => ⟨by omega, by omega, by omega, by omega, ?_⟩⟩
      rw [g91 e (by omega) (by omega), g96 e (by omega) (by omega), if_neg (by omega)]
      have nx : ∀ v : Int, v = u e - rt_i b0 e + rt_i b e → R 156 [ma_Rf 69 0, ma_I n, ma_U, ma_I ((e : Int) + 1)] [] 0 (ma_up m' 96 0 e v) := fun v hv' => ih (e + 1) _ (by omega) (fun m'' f2 a b' c => hq m'' f2 (by rw [a, ma_up_ck (by decide)]) (by rw [b', ma_up_ck (by decide)]) c) ⟨fun c c1 c2 c3 c4 c5 c6 c7 => by rw [ma_up_ck c4]; exact f.1 c c1 c2 c3 c4 c5 c6 c7, fun i hi => by rw [ma_up_ck (by decide)]; exact f.2.1 i hi, fun i hi => by rw [ma_up_ck (by decide)]; exact f.2.2 i hi⟩ (fun i i0 i1 => by rw [ma_up_ck (by decide)]; exact g91 i i0 i1) (fun i i0 i1 => by
        by_cases q : i = e
        · rw [q, ma_up_eq, if_pos (show (e : Int) < ((e + 1 : Nat) : Int) from by omega)]; exact hv'
        · rw [ma_up_ne (fun z => q z.2), g96 i i0 i1]
          by_cases w : i < e
          · rw [if_pos w, if_pos (by omega)]
          · rw [if_neg w, if_neg (by omega)]) _
      exact ⟨fun z => ⟨by omega, by omega, nx _ (by omega)⟩, fun z => ⟨by omega, by omega, nx _ (by omega)⟩⟩
  -- the sinks
  have l107 : ∀ (k x : Nat) (m' : ma_M), x + k = 49 → rt_gv n m m' → rt_Cr m' n src (rt_lay (rt_t (fun e => u e - rt_i b0 e) p r) src pin x) (fun e => u e - rt_i b0 e) p → R 107 [ma_Rf 69 0, ma_I n, ma_I r, ma_I x] [] 0 m' := by
    intro k
    induction k with
    | zero =>
      intro x m' hx f C
      have e : x = 49 := by omega
      subst e
      refine s_LatticefitModel_gives_107 hR ⟨fun _ => ?_, fun q => by omega⟩
      exact l156 _ 84 0 m' (by omega) (fun m'' f2 a b c => h m'' f2 (fun x x0 x1 => by rw [b]; exact (C.1 x x0 x1).1) (fun e e0 e1 => ⟨by rw [a]; exact (C.2 e e0 e1).2.2, c e e0 e1⟩)) f (fun i i0 i1 => (C.2 i i0 i1).2.2) (fun i i0 i1 => by rw [if_neg (by omega)]; exact (C.2 i i0 i1).1) _
    | succ k ih =>
      intro x m' hx f C
      have un : rt_lay (rt_t (fun e => u e - rt_i b0 e) p r) src pin (x + 1) = if ¬ pin x = 0 ∧ ¬ ((x : Int) = src ∨ 0 ≤ rt_lay (rt_t (fun e => u e - rt_i b0 e) p r) src pin x x) then rt_add (rt_t (fun e => u e - rt_i b0 e) p r) src (rt_lay (rt_t (fun e => u e - rt_i b0 e) p r) src pin x) x else rt_lay (rt_t (fun e => u e - rt_i b0 e) p r) src pin x := rfl
      have cx := (C.1 x (by omega) (by omega)).2
      have px := h93 x (by omega) (by omega)
      have same : ¬ (¬ pin x = 0 ∧ ¬ ((x : Int) = src ∨ 0 ≤ rt_lay (rt_t (fun e => u e - rt_i b0 e) p r) src pin x x)) → R 107 [ma_Rf 69 0, ma_I n, ma_I r, ma_I ((x : Int) + 1)] [] 0 m' := fun c => ih (x + 1) m' (by omega) f (by rw [un, if_neg c]; exact C)
      refine s_LatticefitModel_gives_107 hR ⟨fun q => by omega, fun _ => ⟨by omega, by omega, by omega, ?_⟩⟩
      rw [f.1 93 (by decide) (by decide) (by decide) (by decide) (by decide) (by decide) (by decide)]
      refine ⟨fun q => ⟨by omega, same (fun c => px.2 c.1 q)⟩, fun q => ⟨fun g => ⟨by omega, same (fun c => c.2 (cx.1 g))⟩, fun g => ?_⟩⟩
      have S := (rt_lay_ok (pin := pin) tr sr.1 sr.2 x (by omega)).1
      refine sp_reaches (d := d) n0 (by omega) C S hU hp r0 r1 (by omega) (by omega) (fun m2 f2 C2 => k_LatticefitModel_gives_145 hR ⟨by omega, ih (x + 1) m2 (by omega) (rt_gr_gv f f2) ?_⟩)
      rw [un, if_pos ⟨px.1 q, fun z => cx.2 z g⟩]; exact C2
  -- the tree is the source alone
  have l56 : ∀ (k x : Nat) (m' : ma_M), x + k = 49 → rt_gv n m m' → (∀ e : Int, 0 ≤ e → e < 84 → m' 91 0 (n * 84 + e) = 0 ∧ m' 96 0 e = u e - rt_i b0 e) → (∀ y : Int, 0 ≤ y → y < x → m' 95 0 (n * 49 + y) = -1 ∧ (¬ m' 94 0 (n * 49 + y) = 0 ↔ y = src)) → R 56 [ma_Rf 69 0, ma_I n, ma_I r, ma_I x] [] 0 m' := by
    intro k
    induction k with
    | zero =>
      intro x m' hx f ge gx
      have e : x = 49 := by omega
      subst e
      refine s_LatticefitModel_gives_56 hR ⟨fun _ => l107 49 0 m' (by omega) f ⟨fun y y0 y1 => ⟨(gx y y0 y1).1, (gx y y0 y1).2.trans ⟨.inl, fun z => ?_⟩⟩, fun e e0 e1 => ⟨(ge e e0 e1).2, ?_, ?_⟩⟩, fun q => by omega⟩
      · rcases z with z | z
        · exact z
        · exact absurd (show (0 : Int) ≤ -1 from z) (by decide)
      · rw [f.1 97 (by decide) (by decide) (by decide) (by decide) (by decide) (by decide) (by decide)]; exact (h96 e e0 e1).2
      · rw [(ge e e0 e1).1]
        show (0 : Int) = if (-1 : Int) = e ∨ (-1 : Int) = e then 1 else 0
        rw [if_neg (by omega)]
    | succ k ih =>
      intro x m' hx f ge gx
      have nx : ∀ v : Int, (¬ v = 0 ↔ (x : Int) = src) → R 56 [ma_Rf 69 0, ma_I n, ma_I r, ma_I ((x : Int) + 1)] [] 0 (ma_up (ma_up m' 94 0 (n * 49 + x) v) 95 0 (n * 49 + x) (-1)) := fun v hv' => ih (x + 1) _ (by omega) ⟨fun c c1 c2 c3 c4 c5 c6 c7 => by rw [ma_up_ck c3, ma_up_ck c2]; exact f.1 c c1 c2 c3 c4 c5 c6 c7, fun i hi => by rw [ma_up_ck (by decide), ma_up_ck (by decide)]; exact f.2.1 i hi, fun i hi => by rw [ma_up_ne (by omega), ma_up_ck (by decide)]; exact f.2.2 i hi⟩ (fun e e0 e1 => by rw [ma_up_ck (by decide), ma_up_ck (by decide), ma_up_ck (by decide), ma_up_ck (by decide)]; exact ge e e0 e1) (fun y y0 y1 => by
        by_cases q : y = x
        · rw [q, ma_up_eq, ma_up_ck (by decide), ma_up_eq]; exact ⟨rfl, hv'⟩
        · rw [ma_up_ne (by omega), ma_up_ck (by decide), ma_up_ck (by decide), ma_up_ne (by omega)]; exact gx y y0 (by omega))
      have kd := f.1 70 (by decide) (by decide) (by decide) (by decide) (by decide) (by decide) (by decide)
      have k81 := f.1 81 (by decide) (by decide) (by decide) (by decide) (by decide) (by decide) (by decide)
      have k85 := f.1 85 (by decide) (by decide) (by decide) (by decide) (by decide) (by decide) (by decide)
      have k75 := f.1 75 (by decide) (by decide) (by decide) (by decide) (by decide) (by decide) (by decide)
      have nn := Hc.2.2.2.2.2.2.2.2.2.2.2.2.1 n n0 n1
      have mm := Hm.2.2.2.1 n n0 n1
      refine s_LatticefitModel_gives_56 hR ⟨fun q => by omega, fun _ => ⟨by omega, by omega, by omega, ?_⟩⟩
      rw [kd, k81, k85, k75, hv.1, hv.2.1, hv.2.2.1, hv.2.2.2, nn.1, mm.2.2.2.2.1]
      refine ⟨fun q => ?_, fun q => ?_⟩
      · have b0' : 0 ≤ μ 28 0 n := by
          rcases hk with z | z
          · exact absurd z q
          · exact z
        have b1' := mm.2.2.2.2.2.2.1
        have M71 := Hm.2.1
        have pb := Hp.1 _ b0' b1'
        have c0 := pb.2.1
        have c1 := pb.2.2.1
        have xr := rl_x_rng c0 c1
        have es : src = rl_x (μ 32 0 (μ 28 0 n)) := by rw [hsrc]; unfold rl_src; rw [if_neg q]
        rw [pb.1, rl_x_t c0, td_nn c0, ← es]
        refine ⟨by omega, by omega, by omega, by omega, fun z => ⟨by omega, by omega, nx 0 ⟨fun w => absurd rfl w, fun w => absurd w z⟩⟩, fun z => ⟨by omega, by omega, nx 1 ⟨fun _ => z, fun _ => by decide⟩⟩⟩
      · have t := (nn.2.2.1 q).1
        have es : src = μ 10 0 n := by rw [hsrc]; unfold rl_src; rw [if_pos q]
        rw [t, ← es]
        exact ⟨fun z => ⟨by omega, by omega, nx 0 ⟨fun w => absurd rfl w, fun w => absurd w z⟩⟩, fun z => ⟨by omega, by omega, nx 1 ⟨fun _ => z, fun _ => by decide⟩⟩⟩
  -- given up
  have l2 : ∀ (k e : Nat) (m' : ma_M), e + k = 84 → (∀ c : Nat, c ≠ 91 → c ≠ 96 → m' c = m c) → (∀ i : Int, ¬ (n * 84 ≤ i ∧ i < n * 84 + 84) → m' 91 0 i = m 91 0 i) → (∀ i : Int, 0 ≤ i → i < 84 → m' 91 0 (n * 84 + i) = (if i < e then 0 else rt_i b0 i) ∧ m' 96 0 i = if i < e then u i - rt_i b0 i else u i) → R 2 [ma_Rf 69 0, ma_I n, ma_I r, ma_I e] [] 0 m' := by
    intro k
    induction k with
    | zero =>
      intro e m' he f f2 g
      refine s_LatticefitModel_gives_2 hR ⟨fun _ => l56 49 0 m' (by omega) ⟨fun c c1 _ _ c4 _ _ _ => f c c1 c4, f2, fun i _ => by rw [f 95 (by decide) (by decide)]⟩ (fun i i0 i1 => ?_) (fun y a b => by omega), fun q => by omega⟩
      have a := g i i0 i1
      rw [if_pos (by omega), if_pos (by omega)] at a; exact a
    | succ k ih =>
      intro e m' he f f2 g
      have ge := g e (by omega) (by omega)
      rw [if_neg (by omega), if_neg (by omega)] at ge
      have bu := hu e (by omega) (by omega)
      have ri := rt_i_rng (b := b0) (e := e)
      have nx : ∀ v : Int, v = u e - rt_i b0 e → R 2 [ma_Rf 69 0, ma_I n, ma_I r, ma_I ((e : Int) + 1)] [] 0 (ma_up (ma_up m' 96 0 e v) 91 0 (n * 84 + e) 0) := fun v hv' => ih (e + 1) _ (by omega) (fun c c1 c4 => by rw [ma_up_ck c1, ma_up_ck c4]; exact f c c1 c4) (fun i hi => by rw [ma_up_ne (by omega), ma_up_ck (by decide)]; exact f2 i hi) (fun i i0 i1 => by
        have gi := g i i0 i1
        by_cases q : i = e
        · rw [q, ma_up_eq, ma_up_ck (by decide), ma_up_eq, if_pos (show (e : Int) < ((e + 1 : Nat) : Int) from by omega), if_pos (show (e : Int) < ((e + 1 : Nat) : Int) from by omega)]; exact ⟨rfl, hv'⟩
        · rw [ma_up_ne (by omega), ma_up_ck (by decide), ma_up_ck (by decide), ma_up_ne (fun z => q z.2), gi.1, gi.2]
          by_cases w : i < e
          · rw [if_pos w, if_pos w, if_pos (by omega), if_pos (by omega)]; exact ⟨rfl, rfl⟩
          · rw [if_neg w, if_neg w, if_neg (by omega), if_neg (by omega)]; exact ⟨rfl, rfl⟩)
      refine s_LatticefitModel_gives_2 hR ⟨fun q => by omega, fun _ => ⟨by omega, by omega, by omega, by omega, ?_⟩⟩
      rw [ge.1, ge.2]
      exact ⟨fun z => ⟨by omega, by omega, nx _ (by omega)⟩, fun z => ⟨by omega, by omega, nx _ (by omega)⟩⟩
  exact l2 84 0 m (by omega) (fun _ _ _ => rfl) (fun _ _ => rfl) (fun i i0 i1 => by rw [if_neg (by omega), if_neg (by omega)]; exact ⟨h91 i i0 i1, (h96 i i0 i1).1⟩)
