/-! route, the class: a net, the rounds -/
theorem rt_cnt {src : Int} {b : Int → Int} (H : rt_H src b) {e : Int} (e0 : 0 ≤ e) (e1 : e < 84) : ma_sum (fun z => if b z = e then 1 else 0) 49 = rt_i b e := by
  have lo := rl_lo_rng e0 e1
  have hi := rl_hi_rng e0 e1
  rcases H with H | H
  · rw [ma_sum_cong (g := fun _ => 0) 49 (fun i i0 i1 => by
      show (if b i = e then (1 : Int) else 0) = 0
      rw [if_neg (by rw [H i i0 (by omega)]; omega)]), ma_sum_zero]
    unfold rt_i
    rw [H _ lo.1 lo.2.1, H _ hi.1 hi.2.1, if_neg (by omega)]
  · have s1 := rt_sum_up (f := fun _ => 0) (x := rl_lo e) (v := if b (rl_lo e) = e then 1 else 0) 49 lo.1 lo.2.1
    have s2 := rt_sum_up (f := bd_up (fun _ => 0) (rl_lo e) (if b (rl_lo e) = e then 1 else 0)) (x := rl_hi e) (v := if b (rl_hi e) = e then 1 else 0) 49 hi.1 hi.2.1
    rw [s1, ma_sum_zero] at s2
    have z : bd_up (fun _ => (0 : Int)) (rl_lo e) (if b (rl_lo e) = e then 1 else 0) (rl_hi e) = 0 := by unfold bd_up; rw [if_neg (by omega)]
    rw [z] at s2
    rw [ma_sum_cong (g := fun z => if b z = e then 1 else 0) 49 (fun i i0 i1 => by
      unfold bd_up
      by_cases q : i = rl_hi e
      · rw [if_pos q, q]
      · rw [if_neg q]
        by_cases g : i = rl_lo e
        · rw [if_pos g, g]
        · rw [if_neg g]
          show (0 : Int) = if b i = e then 1 else 0
          rw [if_neg (fun w => by
            have := (H.2.2.2.1 i i0 (by omega)).2.2 (by omega)
            rw [w] at this; omega)])] at s2
    rw [s2]
    have nb : ¬ (b (rl_lo e) = e ∧ b (rl_hi e) = e) := fun w => by
      obtain ⟨f, hf⟩ := H.2.2.2.2
      have a := (hf _ lo.1 lo.2.1).2.2 (by omega)
      have c := (hf _ hi.1 hi.2.1).2.2 (by omega)
      rw [w.1, show wy_o e (rl_lo e) = rl_hi e from by unfold wy_o; omega] at a
      rw [w.2, show wy_o e (rl_hi e) = rl_lo e from by unfold wy_o; omega] at c
      omega
    unfold rt_i
    by_cases p : b (rl_lo e) = e
    · rw [if_pos p, if_neg (fun w => nb ⟨p, w⟩), if_pos (.inl p)]; omega
    · rw [if_neg p]
      by_cases q : b (rl_hi e) = e
      · rw [if_pos q, if_pos (.inr q)]; omega
      · rw [if_neg q, if_neg (fun w => by rcases w with w | w; exact p w; exact q w)]; omega
theorem sp_giveUp {LS d : Nat} {Post : ma_R → ma_M → Prop} {m : ma_M} {n src : Int} {b u : Int → Int} (n0 : 0 ≤ n) (n1 : n < 48) (hb : ∀ x : Int, 0 ≤ x → x < 49 → m 42 n x = b x) (hu : ∀ e : Int, 0 ≤ e → e < 84 → m 44 0 e = u e) (H : rt_H src b) (ub : ∀ e : Int, 0 ≤ e → e < 84 → 0 ≤ u e ∧ u e ≤ 48) (h : ∀ m' : ma_M, (∀ c : Nat, c ≠ 42 → c ≠ 44 → m' c = m c) → (∀ k x : Int, k ≠ n → m' 42 k x = m 42 k x) → (∀ x : Int, 0 ≤ x → x < 49 → m' 42 n x = -1) → (∀ e : Int, 0 ≤ e → e < 84 → m' 44 0 e = u e - rt_i b e) → Post (.inl none) m') : ma_Ox LS (d + 2) mi_Routes_giveUp [ma_Rf 40 0, ma_I n] m Post := by
  refine gi_Routes_giveUp (fun R hR => s_Routes_giveUp_0 (d := d) hR ?_)
  have vb : ∀ x : Int, 0 ≤ x → x < 49 → b x < 84 := fun x x0 x1 => by
    rcases H with z | z
    · rw [z x x0 x1]; decide
    · exact (z.2.2.2.1 x x0 x1).2.1
  have lp : ∀ (k x : Nat) (m' : ma_M), x + k = 49 → (∀ c : Nat, c ≠ 42 → c ≠ 44 → m' c = m c) → (∀ k x : Int, k ≠ n → m' 42 k x = m 42 k x) → (∀ z : Int, 0 ≤ z → z < 49 → (z < x → m' 42 n z < 0) ∧ (x ≤ z → m' 42 n z = b z) ∧ (b z = -1 ∨ 0 ≤ b z → z < x → m' 42 n z = -1)) → (∀ e : Int, 0 ≤ e → e < 84 → m' 44 0 e = u e - ma_sum (fun z => if b z = e then 1 else 0) x) → ∀ v : ma_V, R 2 [ma_Rf 40 0, ma_I n, ma_I x, v] [] 0 m' := by
    intro k
    induction k with
    | zero =>
      intro x m' hx hc hr h42 h44 v
      have e : x = 49 := by omega
      subst e
      refine s_Routes_giveUp_2 hR ⟨fun _ => h m' hc hr (fun z z0 z1 => (h42 z z0 z1).2.2 ?_ z1) (fun e e0 e1 => by rw [h44 e e0 e1, rt_cnt H e0 e1]), fun q => by omega⟩
      rcases H with w | w
      · exact .inl (w z z0 z1)
      · have := (w.2.2.2.1 z z0 z1).1; omega
    | succ k ih =>
      intro x m' hx hc hr h42 h44 v
      have hx42 := (h42 x (by omega) (by omega)).2.1 (Int.le_refl _)
      have bx := vb x (by omega) (by omega)
      have cs : ∀ e : Int, ma_sum (fun z => if b z = e then 1 else 0) (x + 1) = ma_sum (fun z => if b z = e then 1 else 0) x + (if b x = e then 1 else 0) := fun _ => rfl
      refine s_Routes_giveUp_2 hR ⟨fun q => by omega, fun _ => ⟨by omega, by omega, ?_⟩⟩
      rw [hx42]
      refine ⟨fun q => ⟨by omega, ih (x + 1) m' (by omega) hc hr (fun z z0 z1 => ?_) (fun e e0 e1 => ?_) _⟩, fun q => ⟨fun w => by omega, fun w => ⟨by omega, ?_⟩⟩⟩
      · have a := h42 z z0 z1
        refine ⟨fun l => ?_, fun l => a.2.1 (by omega), fun g l => ?_⟩
        · by_cases e : z = x
          · rw [e, hx42]; exact q
          · exact a.1 (by omega)
        · by_cases e : z = x
          · rw [e, hx42]; rw [e] at g; omega
          · exact a.2.2 g (by omega)
      · rw [cs, if_neg (by omega), Int.add_zero]; exact h44 e e0 e1
      · have hh := h44 _ q w
        have ubx := ub _ q w
        have cr := ma_sum_rng (f := fun z => if b z = b x then 1 else 0) (b := 1) x (fun i _ _ => by
          show 0 ≤ (if b i = b x then (1 : Int) else 0) ∧ (if b i = b x then (1 : Int) else 0) ≤ 1
          split <;> omega)
        rw [hh]
        refine ⟨by omega, by omega, ih (x + 1) _ (by omega) (fun c c1 c2 => by rw [ma_up_ck c1, ma_up_ck c2]; exact hc c c1 c2) (fun k' z hk => by rw [ma_up_ne (fun w => hk w.1), ma_up_ck (by decide)]; exact hr k' z hk) (fun z z0 z1 => ?_) (fun e e0 e1 => ?_) _⟩
        · by_cases e : z = x
          · rw [e, ma_up_eq]; exact ⟨fun _ => by decide, fun l => by omega, fun _ _ => rfl⟩
          · rw [ma_up_ne (fun w => e w.2), ma_up_ck (by decide)]
            have a := h42 z z0 z1
            exact ⟨fun l => a.1 (by omega), fun l => a.2.1 (by omega), fun g l => a.2.2 g (by omega)⟩
        · rw [ma_up_ck (by decide), cs]
          by_cases g : b x = e
          · rw [if_pos g, ← g, ma_up_eq]; omega
          · rw [if_neg g, ma_up_ne (fun w => g w.2.symm), Int.add_zero]; exact h44 e e0 e1
  exact lp 49 0 m (by omega) (fun _ _ _ => rfl) (fun _ _ _ => rfl) (fun z z0 z1 => ⟨fun l => by omega, fun _ => hb z z0 z1, fun _ l => by omega⟩) (fun e e0 e1 => by rw [hu e e0 e1]; show u e = u e - 0; omega) _
theorem sp_layTree {LS d : Nat} {Post : ma_R → ma_M → Prop} {m : ma_M} {n src r : Int} {U p pin : Int → Int} (n0 : 0 ≤ n) (n1 : n < 48) (C : rt_C m n src (fun _ => -1) U p r) (hpin : ∀ x : Int, 0 ≤ x → x < 49 → pin x = ma_land (ma_lshr (m 45 0 n) x) 1) (hs : ∀ x : Int, 0 ≤ x → x < 49 → ¬ pin x = 0 → 0 ≤ src ∧ src < 49) (hU : ∀ e : Int, 0 ≤ e → e < 84 → 0 ≤ U e ∧ U e ≤ 47) (hp : ∀ e : Int, 0 ≤ e → e < 84 → 0 ≤ p e ∧ p e ≤ 1000) (r0 : 1 ≤ r) (r1 : r ≤ 20) (h : ∀ m' : ma_M, rt_fr n m m' → rt_C m' n src (rt_lay (rt_t U p r) src pin 49) U p r → Post (.inl none) m') : ma_Ox LS (d + 5) mi_Routes_layTree [ma_Rf 40 0, ma_I n] m Post := by
  have tr : ∀ e : Int, 0 ≤ e → e < 84 → 1 ≤ rt_t U p r e ∧ rt_t U p r e ≤ 5000 := fun e e0 e1 => rt_t_rng (hU e e0 e1) (hp e e0 e1) r0 r1
  refine gi_Routes_layTree (fun R hR => s_Routes_layTree_0 (d := d) hR ?_)
  have lp : ∀ (k x : Nat) (m' : ma_M), x + k = 49 → rt_fr n m m' → rt_C m' n src (rt_lay (rt_t U p r) src pin x) U p r → R 2 [ma_Rf 40 0, ma_I n, ma_I x] [] 0 m' := by
    intro k
    induction k with
    | zero =>
      intro x m' hx f C'
      have e : x = 49 := by omega
      subst e
      exact s_Routes_layTree_2 hR ⟨fun _ => h m' f C', fun q => by omega⟩
    | succ k ih =>
      intro x m' hx f C'
      have un : rt_lay (rt_t U p r) src pin (x + 1) = if ¬ pin x = 0 ∧ ¬ ((x : Int) = src ∨ 0 ≤ rt_lay (rt_t U p r) src pin x x) then rt_add (rt_t U p r) src (rt_lay (rt_t U p r) src pin x) x else rt_lay (rt_t U p r) src pin x := rfl
      have same : ¬ (¬ pin x = 0 ∧ ¬ ((x : Int) = src ∨ 0 ≤ rt_lay (rt_t U p r) src pin x x)) → R 2 [ma_Rf 40 0, ma_I n, ma_I ((x : Int) + 1)] [] 0 m' := fun c => ih (x + 1) m' (by omega) f (by rw [un, if_neg c]; exact C')
      refine s_Routes_layTree_2 hR ⟨fun q => by omega, fun _ => ⟨by omega, ?_⟩⟩
      rw [f.1 45 (by decide) (by decide) (by decide) (by decide) (by decide) (by decide) (by decide), ← hpin x (by omega) (by omega), C'.1, C'.2.2.1 x (by omega) (by omega)]
      refine ⟨fun q => ⟨by omega, same (fun c => c.1 q)⟩, fun q => ⟨fun g => ⟨by omega, same (fun c => c.2 (.inl g))⟩, fun g => ⟨by omega, fun w => ?_, fun w => ⟨by omega, same (fun c => c.2 (.inr w))⟩⟩⟩⟩
      have ss := hs x (by omega) (by omega) q
      have S := (rt_lay_ok (pin := pin) tr ss.1 ss.2 x (by omega)).1
      refine sp_addWay (d := d) n0 n1 C' S hU hp r0 r1 (by omega) (by omega) (fun m2 f2 C2 => k_Routes_layTree_35 hR ⟨by omega, ih (x + 1) m2 (by omega) (rt_fr_t f f2) ?_⟩)
      rw [un, if_pos ⟨q, by omega⟩]; exact C2
  exact lp 49 0 m (by omega) (rt_f1_fr rt_f1_rfl) C
theorem sp_crowded {LS d : Nat} {Post : ma_R → ma_M → Prop} {m : ma_M} {u : Int → Int} (hu : ∀ e : Int, 0 ≤ e → e < 84 → m 44 0 e = u e) (h : ∀ v : Int, (v = 0 ↔ rt_cr u = 0) → Post (.inl (some (ma_I v))) m) : ma_Ox LS (d + 1) mi_Routes_isCrowded [ma_Rf 40 0] m Post := by
  refine gi_Routes_isCrowded (fun R hR => s_Routes_isCrowded_0 (d := d) hR ?_)
  have lp : ∀ (k i : Nat), i + k = 84 → (∀ e : Int, 0 ≤ e → e < i → u e ≤ 2) → R 2 [ma_Rf 40 0, ma_I i] [] 0 m := by
    intro k
    induction k with
    | zero =>
      intro i hi ha
      exact s_Routes_isCrowded_2 hR ⟨fun _ => h 0 ⟨fun _ => rt_cr_0.2 (fun e e0 e1 => ha e e0 (by omega)), fun _ => rfl⟩, fun q => by omega⟩
    | succ k ih =>
      intro i hi ha
      refine s_Routes_isCrowded_2 hR ⟨fun q => by omega, fun _ => ⟨by omega, ?_⟩⟩
      rw [hu i (by omega) (by omega)]
      refine ⟨fun q => ⟨by omega, ih (i + 1) (by omega) (fun e e0 e1 => ?_)⟩, fun q => h 1 ⟨fun z => by omega, fun z => ?_⟩⟩
      · by_cases g : e = i
        · rw [g]; exact q
        · exact ha e e0 (by omega)
      · have := rt_cr_0.1 z i (by omega) (by omega); omega
  exact lp 84 0 (by omega) (fun e a b => by omega)
theorem sp_raise {LS d : Nat} {Post : ma_R → ma_M → Prop} {m : ma_M} {u p : Int → Int} (hu : ∀ e : Int, 0 ≤ e → e < 84 → m 44 0 e = u e ∧ m 46 0 e = p e) (hb : ∀ e : Int, 0 ≤ e → e < 84 → 0 ≤ u e ∧ u e ≤ 48 ∧ 0 ≤ p e ∧ p e ≤ 1000) (h : ∀ m' : ma_M, (∀ c : Nat, c ≠ 46 → m' c = m c) → (∀ e : Int, 0 ≤ e → e < 84 → m' 46 0 e = rt_pr p u e) → Post (.inl none) m') : ma_Ox LS (d + 1) mi_Routes_raisePrices [ma_Rf 40 0] m Post := by
  refine gi_Routes_raisePrices (fun R hR => s_Routes_raisePrices_0 (d := d) hR ?_)
  have lp : ∀ (k i : Nat) (m' : ma_M), i + k = 84 → (∀ c : Nat, c ≠ 46 → m' c = m c) → (∀ e : Int, 0 ≤ e → e < 84 → m' 46 0 e = if e < i then rt_pr p u e else p e) → R 2 [ma_Rf 40 0, ma_I i] [] 0 m' := by
    intro k
    induction k with
    | zero =>
      intro i m' hi hc ha
      exact s_Routes_raisePrices_2 hR ⟨fun _ => h m' hc (fun e e0 e1 => by rw [ha e e0 e1, if_pos (by omega)]), fun q => by omega⟩
    | succ k ih =>
      intro i m' hi hc ha
      have b := hb i (by omega) (by omega)
      refine s_Routes_raisePrices_2 hR ⟨fun q => by omega, fun _ => ?_⟩
      rw [hc 44 (by decide), (hu i (by omega) (by omega)).1, ha i (by omega) (by omega), if_neg (by omega)]
      have rg : 0 ≤ (if 0 < u i - 2 then u i - 2 else 0) ∧ (if 0 < u i - 2 then u i - 2 else 0) ≤ 46 := by split <;> omega
      refine ⟨by omega, by omega, by omega, by omega, ih (i + 1) _ (by omega) (fun c c1 => by rw [ma_up_ck c1]; exact hc c c1) (fun e e0 e1 => ?_)⟩
      by_cases g : e = i
      · rw [g, ma_up_eq]
        show _ = if (i : Int) < ((i + 1 : Nat) : Int) then rt_pr p u i else p i
        rw [if_pos (show (i : Int) < ((i + 1 : Nat) : Int) from by omega)]; rfl
      · rw [ma_up_ne (fun z => g z.2), ha e e0 e1]
        by_cases q : e < i
        · rw [if_pos q, if_pos (by omega)]
        · rw [if_neg q, if_neg (by omega)]
  exact lp 84 0 m (by omega) (fun _ _ => rfl) (fun e e0 e1 => by rw [if_neg (by omega)]; exact (hu e e0 e1).2)
/-- the rounds -/
def rt_M (m : ma_M) (N : Nat) (s : rt_st) (p : Int → Int) : Prop := (∀ n x : Int, 0 ≤ n → n < N → 0 ≤ x → x < 49 → m 42 n x = s.1 n x) ∧ ∀ e : Int, 0 ≤ e → e < 84 → m 44 0 e = s.2 e ∧ m 46 0 e = p e
def rt_ok (m m' : ma_M) : Prop := ∀ c : Nat, c ≠ 40 → c ≠ 42 → c ≠ 44 → c ≠ 46 → c ≠ 47 → c ≠ 48 → c ≠ 49 → c ≠ 50 → m' c = m c
theorem sp_makeRounds {LS d : Nat} {Post : ma_R → ma_M → Prop} {m : ma_M} {N allowed : Nat} {src : Int → Int} {pin : Int → Int → Int} {s0 : rt_st} {p0 : Int → Int} (hN : m 3 0 10 = N) (N1 : N ≤ 48) (a1 : allowed ≤ 20) (a0 : 1 ≤ allowed) (h43 : ∀ n : Int, 0 ≤ n → n < N → m 43 0 n = src n) (hpin : ∀ n x : Int, 0 ≤ n → n < N → 0 ≤ x → x < 49 → pin n x = ma_land (ma_lshr (m 45 0 n) x) 1) (hs : ∀ n : Int, 0 ≤ n → n < N → rt_ns src pin n) (G0 : rt_G N src pin s0 0) (M0 : rt_M m N s0 p0) (hp0 : ∀ e : Int, 0 ≤ e → e < 84 → p0 e = 0) (h : ∀ (m' : ma_M), rt_ok m m' → (∀ n x : Int, 0 ≤ n → n < N → 0 ≤ x → x < 49 → m' 42 n x = (rt_rs N src pin allowed 0 p0 s0).2.1 n x) → (∀ e : Int, 0 ≤ e → e < 84 → m' 44 0 e = (rt_rs N src pin allowed 0 p0 s0).2.2 e) → Post (.inl (some (ma_I (rt_rs N src pin allowed 0 p0 s0).1))) m') : ma_Ox LS (d + 6) mi_Routes_makeRounds [ma_Rf 40 0, ma_I allowed] m Post := by
  refine gi_Routes_makeRounds (fun R hR => s_Routes_makeRounds_0 (d := d) hR ?_)
  have lp : ∀ (k r : Nat) (p : Int → Int) (s : rt_st) (dn : Int) (m' : ma_M), r + k = allowed → rt_ok m m' → rt_M m' N s p → (dn = 0 ∧ 1 ≤ k ∨ dn = N) → rt_G N src pin s dn → (∀ e : Int, 0 ≤ e → e < 84 → 0 ≤ p e ∧ p e ≤ 46 * (r : Int)) → rt_rs N src pin k r p s = rt_rs N src pin allowed 0 p0 s0 → ∀ u : ma_V, R 2 [ma_Rf 40 0, ma_I allowed, ma_I ((r : Int) + 1), u] [] 0 m' := by
    intro k
    induction k with
    | zero =>
      intro r p s dn m' hr f M hd G hp hf u
      refine s_Routes_makeRounds_2 hR ⟨fun _ => ?_, fun q => by omega⟩
      have un : rt_rs N src pin 0 r p s = ((r : Int), s) := rfl
      rw [un] at hf
      have h' := h m' f (by rw [← hf]; exact M.1) (by rw [← hf]; exact fun e e0 e1 => (M.2 e e0 e1).1)
      rw [← hf] at h'
      rw [show allowed = r from by omega]; exact h'
    | succ k ih =>
      intro r p s dn m' hr f M hd G hp hf u
      refine s_Routes_makeRounds_2 hR ⟨fun q => by omega, fun _ => ?_⟩
      have hp' : ∀ e : Int, 0 ≤ e → e < 84 → 0 ≤ p e ∧ p e ≤ 1000 := fun e e0 e1 => by have := hp e e0 e1; omega
      have GN := rt_nets_ok (r := (r : Int) + 1) (p := p) G (by omega) N1 hs hp' (by omega) (by omega)
      have un : rt_rs N src pin (k + 1) r p s = if rt_cr (rt_nets ((r : Int) + 1) p src pin s N).2 = 0 then ((r : Int) + 1, rt_nets ((r : Int) + 1) p src pin s N) else rt_rs N src pin k ((r : Int) + 1) (rt_pr p (rt_nets ((r : Int) + 1) p src pin s N).2) (rt_nets ((r : Int) + 1) p src pin s N) := rfl
      have lq : ∀ (j n : Nat) (m1 : ma_M), n + j = N → rt_ok m m1 → rt_M m1 N (rt_nets ((r : Int) + 1) p src pin s n) p → m1 40 0 10 = (r : Int) + 1 → R 14 [ma_Rf 40 0, ma_I allowed, ma_I ((r : Int) + 1), ma_I n] [] 0 m1 := by
        intro j
        induction j with
        | zero =>
          intro n m1 hn f1 M1 c10
          have e : n = N := by omega
          subst e
          have Gn := GN n (Nat.le_refl n)
          refine s_Routes_makeRounds_14 hR ⟨fun _ => ?_, fun q => by rw [f1 3 (by decide) (by decide) (by decide) (by decide) (by decide) (by decide) (by decide) (by decide)] at q; omega⟩
          refine sp_crowded (d := d + 4) (fun e e0 e1 => (M1.2 e e0 e1).1) (fun v hv => k_Routes_makeRounds_42 hR ⟨fun z => ?_, fun z => ?_⟩)
          · have nc : ¬ rt_cr (rt_nets ((r : Int) + 1) p src pin s n).2 = 0 := fun w => z (hv.2 w)
            rw [if_neg nc] at un
            refine sp_raise (d := d + 4) M1.2 (fun e e0 e1 => by have := rt_G_u Gn N1 e0 e1; have := hp' e e0 e1; omega) (fun m2 f2 M2 => k_Routes_makeRounds_51 hR ⟨by omega, ?_⟩)
            have nx := ih (r + 1) (rt_pr p (rt_nets ((r : Int) + 1) p src pin s n).2) (rt_nets ((r : Int) + 1) p src pin s n) n m2 (by omega) (fun c c1 c2 c3 c4 c5 c6 c7 c8 => by rw [f2 c c4]; exact f1 c c1 c2 c3 c4 c5 c6 c7 c8) ⟨fun k x a b c d => by rw [f2 42 (by decide)]; exact M1.1 k x a b c d, fun e e0 e1 => ⟨by rw [f2 44 (by decide)]; exact (M1.2 e e0 e1).1, M2 e e0 e1⟩⟩ (.inr rfl) (by
              by_cases e : dn = 0
              · rw [if_pos e] at Gn; exact Gn
              · rw [if_neg e] at Gn; rw [show (n : Int) = dn from by omega]; exact Gn) (fun e e0 e1 => by
                have a := hp e e0 e1
                have b := rt_G_u Gn N1 e0 e1
                unfold rt_pr
                split <;> omega) (by rw [← hf, un]; rfl) ma_U
            rw [show ((r + 1 : Nat) : Int) + 1 = (r : Int) + 1 + 1 from by omega] at nx
            exact nx
          · rw [if_pos (hv.1 z)] at un
            rw [un] at hf
            have h' := h m1 f1 (by rw [← hf]; exact M1.1) (by rw [← hf]; exact fun e e0 e1 => (M1.2 e e0 e1).1)
            rw [← hf] at h'
            exact h'
        | succ j ihj =>
          intro n m1 hn f1 M1 c10
          have Gn := GN n (by omega)
          have nN : (n : Int) < N := by omega
          refine s_Routes_makeRounds_14 hR ⟨fun q => by rw [f1 3 (by decide) (by decide) (by decide) (by decide) (by decide) (by decide) (by decide) (by decide)] at q; omega, fun _ => ?_⟩
          refine sp_giveUp (d := d + 3) (src := src n) (by omega) (by omega) (fun x x0 x1 => M1.1 n x (by omega) nN x0 x1) (fun e e0 e1 => (M1.2 e e0 e1).1) (Gn.1 n (by omega) nN) (fun e e0 e1 => by have := rt_G_u Gn N1 e0 e1; omega) (fun m2 f2 r2 b2 u2 => k_Routes_makeRounds_27 hR ?_)
          have C2 : rt_C m2 n (src n) (fun _ => -1) (rt_U (rt_nets ((r : Int) + 1) p src pin s n) n) p ((r : Int) + 1) := by
            refine ⟨by rw [f2 43 (by decide) (by decide), f1 43 (by decide) (by decide) (by decide) (by decide) (by decide) (by decide) (by decide) (by decide)]; exact h43 n (by omega) nN, by rw [f2 40 (by decide) (by decide)]; exact c10, b2, fun e e0 e1 => ⟨?_, by rw [f2 46 (by decide) (by decide)]; exact (M1.2 e e0 e1).2⟩⟩
            rw [u2 e e0 e1]
            have : rt_i (fun _ => -1) e = 0 := by
              show (if (-1 : Int) = e ∨ (-1 : Int) = e then (1 : Int) else 0) = 0
              rw [if_neg (by omega)]
            rw [this]; unfold rt_U; omega
          refine sp_layTree (d := d) (pin := pin n) (by omega) (by omega) C2 (fun x x0 x1 => by rw [f2 45 (by decide) (by decide), f1 45 (by decide) (by decide) (by decide) (by decide) (by decide) (by decide) (by decide) (by decide)]; exact hpin n x (by omega) nN x0 x1) (hs n (by omega) nN) (fun e e0 e1 => (rt_G_u Gn N1 e0 e1).2.2 n (by omega) nN) hp' (by omega) (by omega) (fun m3 f3 C3 => k_Routes_makeRounds_32 hR ⟨by omega, ihj (n + 1) m3 (by omega) (fun c c1 c2 c3 c4 c5 c6 c7 c8 => ?_) ⟨fun k x a b c d => ?_, fun e e0 e1 => ⟨?_, (C3.2.2.2 e e0 e1).2⟩⟩ C3.2.1⟩)
          · rw [f3.1 c c1 c2 c3 c5 c6 c7 c8, f2 c c2 c3]; exact f1 c c1 c2 c3 c4 c5 c6 c7 c8
          · show m3 42 k x = (if k = (n : Int) then rt_lay (rt_t (rt_U (rt_nets ((r : Int) + 1) p src pin s n) n) p ((r : Int) + 1)) (src n) (pin n) 49 else (rt_nets ((r : Int) + 1) p src pin s n).1 k) x
            by_cases e : k = (n : Int)
            · rw [if_pos e, e]; exact C3.2.2.1 x c d
            · rw [if_neg e, f3.2.1 k x e, r2 k x e]; exact M1.1 k x a b c d
          · exact (C3.2.2.2 e e0 e1).1
      refine lq N 0 _ (by omega) (fun c c1 c2 c3 c4 c5 c6 c7 c8 => by rw [ma_up_ck c1]; exact f c c1 c2 c3 c4 c5 c6 c7 c8) ?_ ma_up_eq
      refine ⟨fun k x a b c d => by rw [ma_up_ck (by decide)]; exact M.1 k x a b c d, fun e e0 e1 => by rw [ma_up_ck (by decide), ma_up_ck (by decide)]; exact M.2 e e0 e1⟩
  exact lp allowed 0 p0 s0 0 m (by omega) (fun _ _ _ _ _ _ _ _ _ => rfl) M0 (.inl ⟨rfl, a0⟩) G0 (fun e e0 e1 => by rw [hp0 e e0 e1]; omega) rfl _

