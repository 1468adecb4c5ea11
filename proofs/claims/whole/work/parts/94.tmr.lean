/-! times, the reference -/
def wy_f (b f : Int → Int) : Prop := ∀ x : Int, 0 ≤ x → x < 49 → 0 ≤ f x ∧ f x < 49 ∧ (0 ≤ b x → f (wy_o (b x) x) < f x)
theorem wy_f0 {b f : Int → Int} (H : wy_ok b) (F : wy_f b f) {x : Int} (x0 : 0 ≤ x) (x1 : x < 49) (h : f x ≤ 0) : b x < 0 := by
  by_cases q : 0 ≤ b x
  · have o := wy_o_rng H x0 x1 q
    have a := (F x x0 x1).2.2 q
    have c := (F _ o.1 o.2.1).1
    omega
  · omega
theorem wy_st {b f : Int → Int} (H : wy_ok b) (F : wy_f b f) : ∀ (k k' : Nat) (x : Int), 0 ≤ x → x < 49 → f x ≤ k → f x ≤ k' → wy b k x = wy b k' x := by
  intro k
  induction k with
  | zero =>
    intro k' x x0 x1 h h'
    have q := wy_f0 H F x0 x1 (by omega)
    cases k' with
    | zero => rfl
    | succ k' => exact (if_neg (by omega)).symm
  | succ k ih =>
    intro k' x x0 x1 h h'
    have un : wy b (k + 1) x = if 0 ≤ b x then 1 + wy b k (wy_o (b x) x) else 0 := rfl
    rw [un]
    by_cases q : 0 ≤ b x
    · rw [if_pos q]
      have o := wy_o_rng H x0 x1 q
      have a := (F x x0 x1).2.2 q
      have c := (F _ o.1 o.2.1).1
      cases k' with
      | zero => omega
      | succ k' =>
        have un2 : wy b (k' + 1) x = if 0 ≤ b x then 1 + wy b k' (wy_o (b x) x) else 0 := rfl
        rw [un2, if_pos q, ih k' _ o.1 o.2.1 (by omega) (by omega)]
    · rw [if_neg q]
      cases k' with
      | zero => rfl
      | succ k' => exact (if_neg q).symm
theorem wy_step {b f : Int → Int} (H : wy_ok b) (F : wy_f b f) {x : Int} (x0 : 0 ≤ x) (x1 : x < 49) (q : 0 ≤ b x) : wy b 49 x = 1 + wy b 49 (wy_o (b x) x) := by
  have un : wy b 49 x = if 0 ≤ b x then 1 + wy b 48 (wy_o (b x) x) else 0 := rfl
  have o := wy_o_rng H x0 x1 q
  have a := F x x0 x1
  have a2 := a.2.2 q
  rw [un, if_pos q, wy_st H F 48 49 _ o.1 o.2.1 (by omega) (by omega)]
theorem wy_fex {μ : ma_M} {n : Int} (H : rl_t μ n) : ∃ f, wy_f (μ 42 n) f := by
  obtain ⟨f, hf⟩ := H.2.2.2.2.1
  refine ⟨f, fun x x0 x1 => ?_⟩
  have := hf x x0 x1
  exact ⟨this.1, this.2.1, fun q => (this.2.2 q).1⟩
theorem sp_arrivalR {LS d : Nat} {Post : ma_R → ma_M → Prop} {μ m : ma_M} {t : Int → Int} {n x : Int} (hm : m 95 = μ 95) (H : rl_t μ n) (n0 : 0 ≤ n) (n1 : n < 48) (x0 : 0 ≤ x) (x1 : x < 49) (h92 : μ 92 0 n = 1) (t0 : 0 ≤ t n) (t1 : t n ≤ 3000)
    (hT : ∀ Post : ma_R → ma_M → Prop, Post (.inl (some (ma_I (t n)))) m → ma_Ox LS (d + 3) mi_LatticefitModel_time [ma_Rf 69 0, ma_I n] m Post) (h : Post (.inl (some (ma_I (tm_a μ t n x)))) m) : ma_Ox LS (d + 4) mi_LatticefitModel_arrival [ma_Rf 69 0, ma_I n, ma_I x] m Post := by
  obtain ⟨f, F⟩ := wy_fex H
  have W := wy_of H
  have hx := H.2.2.1
  refine gi_LatticefitModel_arrival (fun R hR => s_LatticefitModel_arrival_0 (d := d) hR (hT _ (k_LatticefitModel_arrival_2 hR ?_)))
  have lp : ∀ (k : Nat) (y s : Int), f y ≤ k → 0 ≤ y → y < 49 → 0 ≤ s → s ≤ 3100 → s + wy (μ 42 n) 49 y = tm_a μ t n x → ∀ u v : ma_V, R 9 [ma_Rf 69 0, ma_I n, u, ma_I s, ma_I y, v] [] 0 m := by
    intro k
    have leaf : ∀ (y s : Int), 0 ≤ y → y < 49 → μ 42 n y < 0 → s + wy (μ 42 n) 49 y = tm_a μ t n x → Post (.inl (some (ma_I s))) m := fun y s y0 y1 q hp => by
      have un : wy (μ 42 n) 49 y = if 0 ≤ μ 42 n y then 1 + wy (μ 42 n) 48 (wy_o (μ 42 n y) y) else 0 := rfl
      rw [un, if_neg (by omega)] at hp
      rw [show s = tm_a μ t n x from by omega]; exact h
    induction k with
    | zero =>
      intro y s hk y0 y1 s0 s1 hp u v
      have q := wy_f0 W F y0 y1 (by omega)
      have e := (hx y y0 y1).2.2.2.1 h92
      refine s_LatticefitModel_arrival_9 hR ?_
      rw [hm, e]
      exact ⟨by omega, by omega, by omega, fun _ => leaf y s y0 y1 q hp, fun r => by omega⟩
    | succ k ih =>
      intro y s hk y0 y1 s0 s1 hp u v
      have e := (hx y y0 y1).2.2.2.1 h92
      have wr := wy_rng (b := μ 42 n) 49 y
      refine s_LatticefitModel_arrival_9 hR ?_
      rw [hm, e]
      refine ⟨by omega, by omega, by omega, fun q => leaf y s y0 y1 q hp, fun q => ?_⟩
      have a := W y y0 y1
      have o := wy_o_rng W y0 y1 q
      have lo := rl_lo_rng q a.1
      have st := wy_step W F y0 y1 q
      have fd := (F y y0 y1).2.2 q
      have lim : tm_a μ t n x ≤ 3049 := by
        have w2 := wy_rng (b := μ 42 n) 49 x
        unfold tm_a; omega
      have wr2 := wy_rng (b := μ 42 n) 49 (wy_o (μ 42 n y) y)
      have nx := ih (wy_o (μ 42 n y) y) (s + 1) (by omega) o.1 o.2.1 (by omega) (by omega) (by omega) ma_U ma_U
      refine ⟨fun p => ?_, fun p => ?_⟩
      · rw [wr_lo1 p, td_nn (a := μ 42 n y - 42) (by omega)]
        have h1 := wr_hi1 p
        refine ⟨by omega, by omega, by omega, by omega, fun r => ⟨by omega, ?_⟩, fun r => ⟨by omega, by omega, ?_⟩⟩
        · rw [o.2.2.2 (fun z => r z.symm)] at nx; exact nx
        · rw [o.2.2.1 r.symm, h1] at nx; exact nx
      · have h7 := wr_hi7 p
        refine ⟨fun r => ⟨by omega, ?_⟩, fun r => ⟨by omega, by omega, ?_⟩⟩
        · rw [o.2.2.2 (by rw [h7.2]; exact fun z => r z.symm), h7.2] at nx; exact nx
        · rw [o.2.2.1 (by rw [h7.2]; exact r.symm), h7.1] at nx; exact nx
  exact lp (f x).toNat x (t n) (by have := (F x x0 x1).1; omega) x0 x1 t0 (by omega) rfl _ _
theorem sp_tableTimeR {LS d : Nat} {Post : ma_R → ma_M → Prop} {μ m : ma_M} {t : Int → Int} {b : Int} (H : tm_H μ) (hm : ∀ c : Nat, 70 ≤ c → c ≤ 105 → m c = μ c) (b0 : 0 ≤ b) (b1 : b < μ 21 0 7) (ht : ∀ k : Int, 0 ≤ k → k < μ 25 0 b → 0 ≤ t (μ 27 b k) ∧ t (μ 27 b k) ≤ 3000)
    (hT : ∀ k : Int, 0 ≤ k → k < μ 25 0 b → ∀ Post : ma_R → ma_M → Prop, Post (.inl (some (ma_I (t (μ 27 b k))))) m → ma_Ox LS (d + 3) mi_LatticefitModel_time [ma_Rf 69 0, ma_I (μ 27 b k)] m Post) (h : Post (.inl (some (ma_I (tm_b μ t b)))) m) : ma_Ox LS (d + 5) mi_LatticefitModel_tableTime [ma_Rf 69 0, ma_I b] m Post := by
  have M7 := H.2.1.2.1
  have N1 := H.1.2.1
  have B := H.2.1.2.2.2.2.1 b b0 b1
  have pb := H.2.2.1.1 b b0 b1
  have xr := rl_x_rng pb.2.1 pb.2.2.1
  have i0 := B.2.2.2.2.2.2.1
  have i1 := B.2.2.2.2.2.2.2.1
  have e87 := B.2.2.2.2.2.1
  obtain ⟨K, hK⟩ : ∃ K : Nat, μ 25 0 b = (K : Int) := ⟨(μ 25 0 b).toNat, by omega⟩
  unfold tm_b at h
  rw [hK, Int.toNat_natCast] at h
  have va : ∀ k : Int, 0 ≤ k → k < K → 0 ≤ tm_a μ t (μ 27 b k) (rl_x (μ 32 0 b)) ∧ tm_a μ t (μ 27 b k) (rl_x (μ 32 0 b)) ≤ 3049 := fun k k0 k1 => by
    have a := ht k k0 (by omega)
    have w := wy_rng (b := μ 42 (μ 27 b k)) 49 (rl_x (μ 32 0 b))
    unfold tm_a; omega
  refine gi_LatticefitModel_tableTime (fun R hR => s_LatticefitModel_tableTime_0 (d := d) hR ?_)
  have lp : ∀ (k j : Nat), j + k = K → R 4 [ma_Rf 69 0, ma_I b, ma_I (tm_mx (fun k => tm_a μ t (μ 27 b k) (rl_x (μ 32 0 b))) j), ma_I j] [] 0 m := by
    intro k
    induction k with
    | zero =>
      intro j hj
      have r := tm_mx_rng (v := fun k => tm_a μ t (μ 27 b k) (rl_x (μ 32 0 b))) (B := 3049) j (fun i x0 x1 => (va i x0 (by omega)).2) (by omega)
      refine s_LatticefitModel_tableTime_4 hR ?_
      rw [hm 87 (by omega) (by omega), e87, hK]
      refine ⟨by omega, fun _ => ⟨by omega, ?_⟩, fun q => by omega⟩
      rw [show j = K from by omega, Int.add_comm]; exact h
    | succ k ih =>
      intro j hj
      have ti := tm_in H b0 b1 (k := j) (by omega) (by omega)
      have a := ht j (by omega) (by omega)
      have bk := B.2.2.2.2.2.2.2.2.1 j (by omega) (by omega)
      refine s_LatticefitModel_tableTime_4 hR ?_
      rw [hm 87 (by omega) (by omega), e87, hK, hm 85 (by omega) (by omega), hm 88 (by omega) (by omega), bk.1, pb.1, rl_x_t pb.2.1, td_nn pb.2.1]
      have r92 : μ 92 0 (μ 27 b j) = 1 := (H.2.2.2 _ ti.1 ti.2.1).2.1.2 ⟨_, .inl ⟨b, j, b0, b1, by omega, by omega, rfl, rfl⟩⟩
      refine ⟨by omega, fun q => by omega, fun _ => ⟨by omega, by omega, by omega, by omega, by omega, by omega, ?_⟩⟩
      exact sp_arrivalR (d := d) (μ := μ) (t := t) (hm 95 (by omega) (by omega)) (H.2.2.2 _ ti.1 ti.2.1) ti.1 (by omega) xr.1 (by omega) r92 a.1 a.2 (hT j (by omega) (by omega)) (k_LatticefitModel_tableTime_35 hR ⟨by omega, ih (j + 1) (by omega)⟩)
  exact lp K 0 (by omega)
/-- nodes that have a time -/
def tm_n (μ : ma_M) (n : Int) : Prop := 0 ≤ n ∧ n < μ 3 0 10 ∧ (μ 4 0 n = 105 ∨ μ 4 0 n = 114 ∨ 0 ≤ μ 28 0 n)
theorem tm_n_in {μ : ma_M} (H : tm_H μ) {b k : Int} (b0 : 0 ≤ b) (b1 : b < μ 21 0 7) (k0 : 0 ≤ k) (k1 : k < μ 25 0 b) : tm_n μ (μ 27 b k) := by
  have B := H.2.1.2.2.2.2.1 b b0 b1
  have t := B.2.2.2.2.2.2.2.2.1 k k0 k1
  exact ⟨t.2.1, t.2.2.1, by rcases t.2.2.2.1 with z | z; exact .inl z; exact .inr (.inr z)⟩
theorem tm_lim {μ : ma_M} (H : tm_H μ) {t : Int → Int} (T : tm_ok μ t (μ 3 0 10)) {n : Int} (n0 : 0 ≤ n) (n1 : n < μ 3 0 10) : 0 ≤ t n ∧ t n ≤ 3000 := by
  have := (T n n0 n1).2.2
  have N1 := H.1.2.1
  omega
theorem sp_timeR {LS : Nat} {μ m : ma_M} {t : Int → Int} (H : tm_H μ) (hm : ∀ c : Nat, 70 ≤ c → c ≤ 105 → m c = μ c) (T : tm_ok μ t (μ 3 0 10)) : ∀ (n D : Nat), tm_n μ n → 3 * n + 7 ≤ D → ∀ Post : ma_R → ma_M → Prop, Post (.inl (some (ma_I (t n)))) m → ma_Ox LS D mi_LatticefitModel_time [ma_Rf 69 0, ma_I n] m Post := by
  intro n
  induction n using Nat.strongRecOn with
  | _ n ih =>
    intro D hn hD Post h
    obtain ⟨d, rfl⟩ : ∃ d, D = d + 6 := ⟨D - 6, by omega⟩
    have N1 := H.1.2.1
    have o := T n hn.1 hn.2.1
    have nn := (H.1.2.2.2.2.2.2.2.2.2.2.2.2.1 n hn.1 hn.2.1).1
    have mm := H.2.1.2.2.2.1 n hn.1 hn.2.1
    refine gi_LatticefitModel_time (fun R hR => s_LatticefitModel_time_0 (d := d + 1) hR ?_)
    rw [hm 70 (by omega) (by omega), hm 81 (by omega) (by omega), nn, mm.2.2.2.2.1]
    have h1 := hn.1
    have h2 := hn.2.1
    refine ⟨by omega, fun p => ?_, fun p => ⟨fun q => ?_, fun q => ?_⟩⟩
    · rw [o.2.1 (fun g => g.1 p)] at h; exact h
    · rw [o.2.1 (fun g => g.2.1 q)] at h; exact h
    · have r : 0 ≤ μ 28 0 n := by rcases hn.2.2 with z | z | z; exact absurd z p; exact absurd z q; exact z
      rw [o.1 ⟨p, q, r⟩] at h
      have n29 : μ 29 0 n = 1 := by
        rcases mm.2.2.2.2.2.2.2.1.1 r with z | z
        · exact absurd z q
        · exact z
      have e22 := mm.2.2.2.2.2.2.2.2.1 n29
      have b1 := mm.2.2.2.2.2.2.1
      refine sp_tableTimeR (d := d) H hm r b1 (fun k k0 k1 => ?_) (fun k k0 k1 Post2 p2 => ?_) (k_LatticefitModel_time_15 hR h)
      · have ti := tm_in H r b1 (k := k) k0 k1
        exact tm_lim H T ti.1 ti.2.1
      · have ti := tm_in H r b1 (k := k) k0 k1
        have tn := tm_n_in H r b1 (k := k) k0 k1
        have lt := ti.2.2 (by omega)
        obtain ⟨j, hj⟩ : ∃ j : Nat, μ 27 (μ 28 0 n) k = (j : Int) := ⟨(μ 27 (μ 28 0 n) k).toNat, by omega⟩
        rw [hj] at p2 tn ⊢
        exact ih j (by omega) (d + 3) tn (by omega) Post2 p2
