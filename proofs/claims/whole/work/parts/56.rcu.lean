/-! the reference finds the cuts -/
theorem cu_bitq {s i : Nat} (hs : s < 281474976710656) (hi : i < 64) : ma_land (ma_lshr (s : Int) (i : Int)) 1 = if s.testBit i then 1 else 0 := by
  have h1 : s >>> i ≤ s := by rw [Nat.shiftRight_eq_div_pow]; exact Nat.div_le_self _ _
  have h2 : ma_land ((s >>> i : Nat) : Int) 1 = ((s >>> i &&& 1 : Nat) : Int) := ma_land_nat (s >>> i) 1 (by omega) (by omega)
  rw [ma_lshr_nat s i (by omega) hi, h2, Nat.and_one_is_mod, Nat.testBit_eq_decide_div_mod_eq, Nat.shiftRight_eq_div_pow]
  by_cases e : s / 2 ^ i % 2 = 1
  · rw [e, if_pos (by simp)]; rfl
  · rw [if_neg (by simpa using e), show s / 2 ^ i % 2 = 0 from by omega]; rfl
theorem sp_depthOf {LS d : Nat} {Post : ma_R → ma_M → Prop} {μ : ma_M} {D : Nat → Nat} {N n s : Nat} (hN : N ≤ 48) (eN : μ 69 0 8 = (N : Int)) (hn : n ≤ N) (hs : s < 2 ^ n) (hD : ∀ k : Nat, k < n → μ 80 0 k = (D k : Int) ∧ D k ≤ 47)
    (h : Post (.inl (some (ma_I ((cu_top D s 48 + 1 : Nat) : Int)))) μ) : ma_Ox LS (d + 1) mi_LatticefitModel_depthOf [ma_Rf 69 0, ma_L s] μ Post := by
  have s48 := cu_p48 (by omega) hs
  have hb : ∀ i, s.testBit i = true → i < n := fun i hi => by
    by_cases e : i < n
    · exact e
    · rw [Nat.testBit_lt_two_pow (Nat.lt_of_lt_of_le hs (Nat.pow_le_pow_right (by omega) (by omega)))] at hi
      exact absurd hi (by decide)
  have hle : ∀ i, cu_top D s i ≤ 47 := fun i => cu_top_le i (fun j _ hj => (hD j (hb j hj)).2)
  refine gi_LatticefitModel_depthOf (fun R hR => s_LatticefitModel_depthOf_0 hR ?_)
  have lp : ∀ (k i : Nat) (u2 : ma_V), i + k = N → R 5 [ma_Rf 69 0, ma_L s, u2, ma_I (cu_top D s i : Nat), ma_I i] [] 0 μ := by
    intro k
    induction k with
    | zero =>
      intro i u2 hi
      have e : cu_top D s 48 = cu_top D s i := by
        have := cu_top_more (D := D) (Nat.lt_of_lt_of_le hs (Nat.pow_le_pow_right (n := 2) (by omega) (show n ≤ i by omega))) (48 - i)
        rwa [show i + (48 - i) = 48 from by omega] at this
      have := hle i
      refine s_LatticefitModel_depthOf_5 hR ⟨fun _ => ⟨by omega, ?_⟩, fun q => by omega⟩
      rw [e] at h; exact h
    | succ k ih =>
      intro i u2 hi
      have hi1 := hle i
      refine s_LatticefitModel_depthOf_5 hR ⟨fun q => by omega, fun _ => ?_⟩
      rw [cu_bitq s48 (by omega), show ((i : Nat) : Int) + 1 = ((i + 1 : Nat) : Int) from by omega]
      by_cases hbi : s.testBit i = true
      · rw [if_pos hbi]
        obtain ⟨d1, d2⟩ := hD i (hb i hbi)
        refine ⟨fun q => absurd rfl q, fun _ => ⟨by omega, by omega, ?_⟩⟩
        have e : (if ((cu_top D s i : Nat) : Int) < μ 80 0 i then μ 80 0 i else ((cu_top D s i : Nat) : Int)) = ((cu_top D s (i + 1) : Nat) : Int) := by
          rw [cu_top_succ, if_pos hbi, d1]; split <;> split <;> omega
        rw [e]; exact ih (i + 1) _ (by omega)
      · rw [if_neg hbi]
        refine ⟨fun _ => ⟨by omega, ?_⟩, fun q => absurd q (by decide)⟩
        have e : cu_top D s i = cu_top D s (i + 1) := by rw [cu_top_succ, if_neg hbi]
        rw [e]; exact ih (i + 1) _ (by omega)
  exact lp N 0 _ (by omega)
theorem sp_isBetter {LS d : Nat} {Post : ma_R → ma_M → Prop} {μ : ma_M} {D : Nat → Nat} {N n s t : Nat} (hN : N ≤ 48) (eN : μ 69 0 8 = (N : Int)) (hn : n ≤ N) (hs : s < 2 ^ n) (ht : t < 2 ^ n) (hD : ∀ k : Nat, k < n → μ 80 0 k = (D k : Int) ∧ D k ≤ 47)
    (h0 : ¬ cu_key D s < cu_key D t → Post (.inl (some (ma_I 0))) μ) (h1 : cu_key D s < cu_key D t → Post (.inl (some (ma_I 1))) μ) :
    ma_Ox LS (d + 2) mi_LatticefitModel_isBetter [ma_Rf 69 0, ma_L s, ma_L t] μ Post := by
  have s48 := cu_p48 (by omega) hs
  have t48 := cu_p48 (by omega) ht
  have q := cu_key_lt (D := D) s48 t48
  have b1 : cu_top D s 48 ≤ 47 := cu_top48 hs (fun i hi => (hD i hi).2)
  have b2 : cu_top D t 48 ≤ 47 := cu_top48 ht (fun i hi => (hD i hi).2)
  have b3 := cu_cnt_le s 48
  have b4 := cu_cnt_le t 48
  refine gi_LatticefitModel_isBetter (fun R hR => s_LatticefitModel_isBetter_0 hR (sp_depthOf hN eN hn hs hD (k_LatticefitModel_isBetter_2 hR (sp_depthOf hN eN hn ht hD (k_LatticefitModel_isBetter_7 hR ⟨by omega, cu_bitCount s48 (k_LatticefitModel_isBetter_14 hR (cu_bitCount t48 (k_LatticefitModel_isBetter_18 hR ⟨by omega, ?_⟩)))⟩)))))
  generalize cu_top D s 48 = x1 at *
  generalize cu_top D t 48 = x2 at *
  generalize cu_cnt s 48 = y1 at *
  generalize cu_cnt t 48 = y2 at *
  refine ⟨fun e => ⟨fun e2 => ⟨fun e3 => h0 (fun z => ?_), fun e3 => h1 (q.2 ?_)⟩, fun e2 => ⟨fun e3 => h0 (fun z => ?_), fun e3 => h1 (q.2 ?_)⟩⟩, fun e => ⟨fun e2 => h0 (fun z => ?_), fun e2 => h1 (q.2 ?_)⟩⟩
  all_goals first | (have := q.1 z; clear q h0 h1; omega) | (clear q h0 h1; omega)
/-- the reference's row of a node -/
def cu_M (μ : ma_M) (n : Nat) (L : cu_Ls) : Prop := μ 79 0 n = (L.1 : Int) ∧ ∀ i : Nat, i < L.1 → μ 78 0 ((n * 7 + i : Nat) : Int) = (L.2 i : Int)
def cu_f2 (μ : ma_M) (n : Nat) (m : ma_M) : Prop := (∀ c : Nat, c ≠ 78 → c ≠ 79 → m c = μ c) ∧ (∀ i : Int, i < n * 7 ∨ n * 7 + 7 ≤ i → m 78 0 i = μ 78 0 i) ∧ (∀ i : Int, i ≠ n → m 79 0 i = μ 79 0 i)
theorem cu_f2_refl (μ : ma_M) (n : Nat) : cu_f2 μ n μ := ⟨fun _ _ _ => rfl, fun _ _ => rfl, fun _ _ => rfl⟩
theorem cu_f2_trans {μ m m' : ma_M} {n : Nat} (h : cu_f2 μ n m) (h' : cu_f2 m n m') : cu_f2 μ n m' :=
  ⟨fun c c1 c2 => by rw [h'.1 c c1 c2, h.1 c c1 c2], fun i hi => by rw [h'.2.1 i hi, h.2.1 i hi], fun i hi => by rw [h'.2.2 i hi, h.2.2 i hi]⟩
theorem cu_M_f2 {μ m : ma_M} {n k : Nat} {L : cu_Ls} (h : cu_f2 μ n m) (hk : k ≠ n) (h7 : L.1 ≤ 7) (hc : cu_M μ k L) : cu_M m k L :=
  ⟨by rw [h.2.2 k (by omega)]; exact hc.1, fun i hi => by rw [h.2.1 ((k * 7 + i : Nat) : Int) (by omega)]; exact hc.2 i hi⟩
theorem sp_offers {LS d : Nat} {Post : ma_R → ma_M → Prop} {μ : ma_M} {D : Nat → Nat} {N n s : Nat} {L : cu_Ls} (hN : N ≤ 48) (eN : μ 69 0 8 = (N : Int)) (hn : n < N) (hL : cu_M μ n L) (hok : cu_ok D n L) (hs : s < 2 ^ n) (hD : ∀ k : Nat, k < n → μ 80 0 k = (D k : Int) ∧ D k ≤ 47)
    (h : ∀ m : ma_M, cu_f2 μ n m → cu_M m n (cu_ins D L s) → Post (.inl none) m) :
    ma_Ox LS (d + 3) mi_LatticefitModel_offers [ma_Rf 69 0, ma_I n, ma_L s] μ Post := by
  obtain ⟨c, f⟩ := L
  obtain ⟨k1, k2, k3⟩ := hok
  obtain ⟨c1, c2⟩ := hL
  simp only at k1 k2 k3 c1 c2
  have s48 := cu_p48 (by omega) hs
  have f48 : ∀ i, i < c → f i < 281474976710656 := fun i hi => cu_p48 (by omega) (k2 i hi).1
  refine gi_LatticefitModel_offers (fun R hR => s_LatticefitModel_offers_0 hR ⟨by omega, cu_bitCount s48 ?_⟩)
  rw [show ((n : Nat) : Int) * 7 = ((n * 7 : Nat) : Int) from by omega]
  -- the shift
  have sh : ∀ (p c' : Nat), p ≤ c → p < 6 → (p < c → f p ≠ s) → cu_pos D f s c = p → cu_cnt s 48 ≤ 4 → c' = (if c < 6 then c + 1 else 6) → ∀ (k v : Nat) (u1 u3 u5 : ma_V) (m : ma_M), v = p + k → v < c' → cu_f2 μ n m → m 79 0 n = (c' : Int) → (∀ i : Nat, i ≤ v → i < c → m 78 0 ((n * 7 + i : Nat) : Int) = (f i : Int)) → (∀ i : Nat, v < i → i < c' → m 78 0 ((n * 7 + i : Nat) : Int) = (f (i - 1) : Int)) → R 152 [ma_Rf 69 0, u1, ma_L s, u3, ma_I ((n * 7 : Nat) : Int), u5, ma_I p, ma_I v] [] 0 m := by
    intro p c' hp hp6 hne hpos h4 hc' k
    induction k with
    | zero =>
      intro v u1 u3 u5 m hv hvc hf h79 hlo hhi
      refine s_LatticefitModel_offers_152 hR ⟨fun c => ⟨by omega, by omega, h _ ?_ ?_⟩, fun c => by omega⟩
      · rw [show ((n * 7 : Nat) : Int) + (p : Int) = ((n * 7 + p : Nat) : Int) from by omega]
        refine ⟨fun k a1 a2 => ?_, fun i hi => ?_, fun i hi => ?_⟩
        · rw [ma_up_ck a1]; exact hf.1 k a1 a2
        · rw [ma_up_ne (by omega)]; exact hf.2.1 i hi
        · rw [ma_up_ck (by decide)]; exact hf.2.2 i hi
      · rw [show ((n * 7 : Nat) : Int) + (p : Int) = ((n * 7 + p : Nat) : Int) from by omega]
        unfold cu_ins
        simp only
        rw [hpos, if_neg (by omega), if_neg (by intro z; rcases z with z | z; exact hne z.1 z.2; omega)]
        refine ⟨?_, fun i hi => ?_⟩
        · rw [ma_up_ck (by decide), h79, hc']
        · simp only at hi ⊢
          have hi2 : i < c' := by rw [hc']; exact hi
          by_cases a1 : i < p
          · rw [if_pos a1, ma_up_ne (by omega)]
            exact hlo i (by omega) (by omega)
          · rw [if_neg a1]
            by_cases a2 : i = p
            · rw [if_pos a2, a2, ma_up_eq]
            · rw [if_neg a2, ma_up_ne (by omega)]
              exact hhi i (by omega) hi2
    | succ k ih =>
      intro v u1 u3 u5 m hv hvc hf h79 hlo hhi
      have hc6 : c' ≤ 6 ∧ c' ≤ c + 1 := by rw [hc']; split <;> omega
      refine s_LatticefitModel_offers_152 hR ⟨fun c => by omega, fun c => ⟨by omega, by omega, by omega, by omega, by omega, ?_⟩⟩
      rw [show ((v : Nat) : Int) + (-1) = ((v - 1 : Nat) : Int) from by omega, show ((n * 7 : Nat) : Int) + (v : Int) - 1 = ((n * 7 + (v - 1) : Nat) : Int) from by omega, show ((n * 7 : Nat) : Int) + (v : Int) = ((n * 7 + v : Nat) : Int) from by omega]
      rw [hlo (v - 1) (by omega) (by omega)]
      refine ih (v - 1) _ _ _ _ (by omega) (by omega) ?_ ?_ (fun i a1 a2 => ?_) (fun i a1 a2 => ?_)
      · refine ⟨fun k a1 a2 => ?_, fun i hi => ?_, fun i hi => ?_⟩
        · rw [ma_up_ck a1]; exact hf.1 k a1 a2
        · rw [ma_up_ne (by omega)]; exact hf.2.1 i hi
        · rw [ma_up_ck (by decide)]; exact hf.2.2 i hi
      · rw [ma_up_ck (by decide), h79]
      · rw [ma_up_ne (by omega)]
        exact hlo i (by omega) a2
      · by_cases e : i = v
        · rw [e, ma_up_eq]
        · rw [ma_up_ne (by omega)]
          exact hhi i (by omega) a2
  have gx : ∀ p : Nat, cu_pos D f s c = p → ((p < c ∧ f p = s) ∨ 6 ≤ p) → Post (.inl none) μ := by
    intro p hpos hx
    refine h μ (cu_f2_refl μ n) ?_
    unfold cu_ins
    simp only
    rw [hpos]
    by_cases e : 4 < cu_cnt s 48
    · rw [if_pos e]; exact ⟨c1, c2⟩
    · rw [if_neg e, if_pos hx]; exact ⟨c1, c2⟩
  -- the place is found
  have ex : ∀ (p : Nat), p ≤ c → (∀ j, j < c → f j ≠ s) → cu_cnt s 48 ≤ 4 → cu_pos D f s c = p → ((¬ ((p : Nat) : Int) = 6 → (0 ≤ ((n : Nat) : Int) ∧ ((n : Nat) : Int) < 48) ∧ (-2147483648 ≤ ((μ 79 0 n) + 1) ∧ ((μ 79 0 n) + 1) < 2147483648) ∧ (-2147483648 ≤ (((ma_up μ 79 0 n (if ((μ 79 0 n) + 1) < 6 then ((μ 79 0 n) + 1) else 6)) 79 0 n) - 1) ∧ (((ma_up μ 79 0 n (if ((μ 79 0 n) + 1) < 6 then ((μ 79 0 n) + 1) else 6)) 79 0 n) - 1) < 2147483648) ∧ R 152 [ma_Rf 69 0, ma_I n, ma_L s, ma_U, ma_I ((n * 7 : Nat) : Int), ma_U, ma_I p, ma_I (((ma_up μ 79 0 n (if ((μ 79 0 n) + 1) < 6 then ((μ 79 0 n) + 1) else 6)) 79 0 n) - 1)] [] 0 (ma_up μ 79 0 n (if ((μ 79 0 n) + 1) < 6 then ((μ 79 0 n) + 1) else 6))) ∧ (((p : Nat) : Int) = 6 → Post (.inl none) μ)) := by
    intro p hp hne h4 hpos
    refine ⟨fun p6 => ?_, fun p6 => gx p hpos (.inr (by omega))⟩
    have eu : (ma_up μ 79 0 n (if ((μ 79 0 n) + 1) < 6 then ((μ 79 0 n) + 1) else 6)) 79 0 n = ((if c < 6 then c + 1 else 6 : Nat) : Int) := by
      rw [ma_up_eq, c1]; split <;> split <;> omega
    have e3 : ((if c < 6 then c + 1 else 6 : Nat) : Int) - 1 = (((if c < 6 then c + 1 else 6) - 1 : Nat) : Int) := by split <;> omega
    rw [eu]
    refine ⟨by omega, by omega, by split <;> omega, ?_⟩
    rw [e3]
    refine sh p (if c < 6 then c + 1 else 6) hp (by omega) (fun z => hne p z) hpos h4 rfl ((if c < 6 then c + 1 else 6) - 1 - p) _ _ _ _ _ (by split <;> omega) (by split <;> omega) ?_ eu (fun i _ a2 => ?_) (fun i a1 a2 => by exfalso; revert a1 a2; generalize (if c < 6 then c + 1 else 6) = z; omega)
    · refine ⟨fun k a1 a2 => ma_up_ck a2, fun i hi => ?_, fun i hi => ma_up_ne (by omega)⟩
      rw [ma_up_ck (by decide)]
    · rw [ma_up_ck (by decide)]; exact c2 i a2
  -- the search from above
  have up : ∀ (k : Nat) (u3 u7 : ma_V), k ≤ c → (∀ j, j < c → f j ≠ s) → cu_cnt s 48 ≤ 4 → (∀ j, k ≤ j → j < c → ¬ cu_key D (f j) < cu_key D s) → R 74 [ma_Rf 69 0, ma_I n, ma_L s, u3, ma_I ((n * 7 : Nat) : Int), ma_I 1, ma_I k, u7] [] 0 μ := by
    intro k
    induction k with
    | zero =>
      intro u3 u7 hk hne h4 hge
      have hpos : cu_pos D f s c = 0 := cu_pos_eq (by omega) (fun j hj => ⟨fun z => absurd z (hge j (by omega) hj), fun z => absurd z (Nat.not_lt_zero j)⟩)
      exact s_LatticefitModel_offers_74 hR ⟨fun _ => ⟨fun z => absurd z (by decide), fun _ => ex 0 (by omega) hne h4 hpos⟩, fun q => by omega⟩
    | succ k ih =>
      intro u3 u7 hk hne h4 hge
      refine s_LatticefitModel_offers_74 hR ⟨fun q => by omega, fun _ => ⟨fun z => absurd z (by decide), fun _ => ⟨by omega, by omega, by omega, ?_⟩⟩⟩
      rw [show ((n * 7 : Nat) : Int) + ((k + 1 : Nat) : Int) - 1 = ((n * 7 + k : Nat) : Int) from by omega, c2 k (by omega)]
      refine sp_isBetter hN eN (by omega) hs (k2 k (by omega)).1 hD (fun z => ?_) (fun z => ?_)
      · have hlt : cu_key D (f k) < cu_key D s := by
          have : cu_key D (f k) ≠ cu_key D s := fun w => hne k (by omega) (cu_key_inj (f48 k (by omega)) s48 w)
          omega
        have hpos : cu_pos D f s c = k + 1 := cu_pos_eq hk (fun j hj => ⟨fun w => by
          by_cases e : j < k + 1
          · exact e
          · exact absurd w (hge j (by omega) hj), fun w => by
          by_cases e : j = k
          · rw [e]; exact hlt
          · exact Nat.lt_trans (k3 j k (by omega) (by omega)) hlt⟩)
        refine k_LatticefitModel_offers_98 hR ⟨fun _ => ⟨fun w => absurd w (by decide), fun _ => ex (k + 1) hk hne h4 hpos⟩, fun q => absurd rfl q⟩
      · refine k_LatticefitModel_offers_98 hR ⟨fun q => absurd q (by decide), fun _ => ⟨by omega, ?_⟩⟩
        rw [show ((k + 1 : Nat) : Int) + (-1) = (k : Int) from by omega]
        refine ih _ _ (by omega) hne h4 (fun j a1 a2 => ?_)
        by_cases e : j = k
        · rw [e]; omega
        · exact hge j (by omega) a2
  -- whether it is there
  have lk : ∀ (k i : Nat) (b : Int) (u3 u7 : ma_V), i + k = c → (b = 0 ∧ (4 < cu_cnt s 48 ∨ ∃ j, j < i ∧ f j = s) ∨ b = 1 ∧ cu_cnt s 48 ≤ 4 ∧ ∀ j, j < i → f j ≠ s) → R 24 [ma_Rf 69 0, ma_I n, ma_L s, u3, ma_I ((n * 7 : Nat) : Int), ma_I b, ma_I i, u7] [] 0 μ := by
    intro k
    induction k with
    | zero =>
      intro i b u3 u7 hi hb
      refine s_LatticefitModel_offers_24 hR ⟨by omega, fun _ => ?_, fun q => by omega⟩
      rw [c1]
      rcases hb with ⟨b0, hb⟩ | ⟨b1, h4, hne⟩
      · have hx : Post (.inl none) μ := by
          rcases hb with hb | ⟨j, hj, e⟩
          · refine h μ (cu_f2_refl μ n) ?_
            unfold cu_ins; rw [if_pos hb]; exact ⟨c1, c2⟩
          · refine gx j (cu_pos_eq (by omega) (fun i' hi' => ⟨fun w => ?_, fun w => ?_⟩)) (.inl ⟨by omega, e⟩)
            · by_cases e2 : i' < j
              · exact e2
              · by_cases e3 : i' = j
                · rw [e3, e] at w; omega
                · have := k3 j i' (by omega) hi'; rw [e] at this; omega
            · have := k3 i' j w (by omega); rwa [e] at this
        exact s_LatticefitModel_offers_74 hR ⟨fun _ => ⟨fun _ => hx, fun z => absurd b0 z⟩, fun _ => ⟨fun _ => hx, fun z => absurd b0 z⟩⟩
      · rw [b1]
        exact up c _ _ (by omega) (fun j hj => hne j (by omega)) h4 (fun j a1 a2 => by omega)
    | succ k ih =>
      intro i b u3 u7 hi hb
      refine s_LatticefitModel_offers_24 hR ⟨by omega, fun q => by omega, fun _ => ⟨by omega, by omega, ?_⟩⟩
      rw [show ((n * 7 : Nat) : Int) + ((i : Nat) : Int) = ((n * 7 + i : Nat) : Int) from by omega, c2 i (by omega), show ((i : Nat) : Int) + 1 = ((i + 1 : Nat) : Int) from by omega]
      have a00 : ma_and 0 0 = 0 := by decide
      have a10 : ma_and 1 0 = 0 := by decide
      have a01 : ma_and 0 1 = 0 := by decide
      have a11 : ma_and 1 1 = 1 := by decide
      refine ⟨fun q => ⟨by omega, ?_⟩, fun q => ⟨by omega, ?_⟩⟩
      · have e : ma_and b 0 = 0 := by rcases hb with ⟨b0, _⟩ | ⟨b1, _⟩; rw [b0, a00]; rw [b1, a10]
        rw [e]; exact ih (i + 1) 0 _ _ (by omega) (.inl ⟨rfl, .inr ⟨i, by omega, by omega⟩⟩)
      · rcases hb with ⟨b0, hb⟩ | ⟨b1, h4, hne⟩
        · rw [b0, a01]
          refine ih (i + 1) 0 _ _ (by omega) (.inl ⟨rfl, ?_⟩)
          rcases hb with hb | ⟨j, hj, e⟩
          · exact .inl hb
          · exact .inr ⟨j, by omega, e⟩
        · rw [b1, a11]
          refine ih (i + 1) 1 _ _ (by omega) (.inr ⟨rfl, h4, fun j hj => ?_⟩)
          by_cases e : j = i
          · rw [e]; intro w; exact q (by rw [w])
          · exact hne j (by omega)
  refine k_LatticefitModel_offers_7 hR ⟨fun q => ?_, fun q => ?_⟩
  · exact lk c 0 0 _ _ (by omega) (.inl ⟨rfl, .inl (by omega)⟩)
  · exact lk c 0 1 _ _ (by omega) (.inr ⟨rfl, by omega, fun j hj => absurd hj (Nat.not_lt_zero j)⟩)
