/-! the class finds the cuts -/
theorem cu_top_eqv {D E : Nat → Nat} {s n : Nat} (hs : s < 2 ^ n) (h : ∀ i, i < n → D i = E i) (k : Nat) : cu_top D s k = cu_top E s k :=
  cu_top_congr k (fun i _ hb => h i (by
    by_cases e : i < n
    · exact e
    · rw [Nat.testBit_lt_two_pow (Nat.lt_of_lt_of_le hs (Nat.pow_le_pow_right (by omega) (by omega)))] at hb
      exact absurd hb (by decide)))
theorem cu_top48 {D : Nat → Nat} {s n B : Nat} (hs : s < 2 ^ n) (h : ∀ i, i < n → D i ≤ B) : cu_top D s 48 ≤ B :=
  cu_top_le 48 (fun i _ hb => h i (by
    by_cases e : i < n
    · exact e
    · rw [Nat.testBit_lt_two_pow (Nat.lt_of_lt_of_le hs (Nat.pow_le_pow_right (by omega) (by omega)))] at hb
      exact absurd hb (by decide)))
theorem sp_isBehind {LS d : Nat} {Post : ma_R → ma_M → Prop} {μ : ma_M} {n i a s ta t : Nat} (hn : n < 48) (hi : i < 7) (ha : μ 16 n i = (a : Int)) (hta : μ 18 n i = (ta : Int)) (a48 : a < 281474976710656) (s48 : s < 281474976710656)
    (h0 : ¬ (ta < t ∨ (ta = t ∧ (cu_cnt a 48 < cu_cnt s 48 ∨ (cu_cnt a 48 = cu_cnt s 48 ∧ a < s)))) → Post (.inl (some (ma_I 0))) μ)
    (h1 : (ta < t ∨ (ta = t ∧ (cu_cnt a 48 < cu_cnt s 48 ∨ (cu_cnt a 48 = cu_cnt s 48 ∧ a < s)))) → Post (.inl (some (ma_I 1))) μ) :
    ma_Ox LS (d + 2) mi_Cuts_isBehind [ma_Rf 14 0, ma_I n, ma_I i, ma_L s, ma_I t] μ Post := by
  refine gi_Cuts_isBehind (fun R hR => s_Cuts_isBehind_0 hR ⟨by omega, by omega, fun e => ?_, fun e => ⟨fun c => h0 (by omega), fun c => h1 (by omega)⟩⟩)
  rw [ha]
  refine cu_bitCount a48 (k_Cuts_isBehind_40 hR (cu_bitCount s48 (k_Cuts_isBehind_46 hR ⟨fun e2 => ⟨by omega, by omega, fun c => h0 (by omega), fun c => h1 (by omega)⟩, fun e2 => ⟨fun c => h0 (by omega), fun c => h1 (by omega)⟩⟩)))
/-- the class's row of a node -/
def cu_C (D : Nat → Nat) (μ : ma_M) (n : Nat) (L : cu_Ls) : Prop := μ 19 0 n = (L.1 : Int) ∧ ∀ i : Nat, i < L.1 → μ 16 n i = (L.2 i : Int) ∧ μ 18 n i = (cu_top D (L.2 i) 48 : Int)
/-- what an offer to n leaves as it was -/
def cu_f1 (μ : ma_M) (n : Nat) (m : ma_M) : Prop := (∀ c : Nat, c ≠ 16 → c ≠ 18 → c ≠ 19 → m c = μ c) ∧ (∀ r i : Int, r ≠ n → m 16 r i = μ 16 r i ∧ m 18 r i = μ 18 r i) ∧ (∀ i : Int, i ≠ n → m 19 0 i = μ 19 0 i)
theorem cu_f1_refl (μ : ma_M) (n : Nat) : cu_f1 μ n μ := ⟨fun _ _ _ _ => rfl, fun _ _ _ => ⟨rfl, rfl⟩, fun _ _ => rfl⟩
theorem cu_f1_trans {μ m m' : ma_M} {n : Nat} (h : cu_f1 μ n m) (h' : cu_f1 m n m') : cu_f1 μ n m' :=
  ⟨fun c c1 c2 c3 => by rw [h'.1 c c1 c2 c3, h.1 c c1 c2 c3], fun r i hr => ⟨by rw [(h'.2.1 r i hr).1, (h.2.1 r i hr).1], by rw [(h'.2.1 r i hr).2, (h.2.1 r i hr).2]⟩, fun i hi => by rw [h'.2.2 i hi, h.2.2 i hi]⟩
theorem cu_C_f1 {D : Nat → Nat} {μ m : ma_M} {n k : Nat} {L : cu_Ls} (h : cu_f1 μ n m) (hk : k ≠ n) (hc : cu_C D μ k L) : cu_C D m k L :=
  ⟨by rw [h.2.2 k (by omega)]; exact hc.1, fun i hi => by rw [(h.2.1 k i (by omega)).1, (h.2.1 k i (by omega)).2]; exact hc.2 i hi⟩
theorem sp_offer {LS d : Nat} {Post : ma_R → ma_M → Prop} {μ : ma_M} {D : Nat → Nat} {n s t : Nat} {L : cu_Ls} (hn : n < 48) (hL : cu_C D μ n L) (hok : cu_ok D n L) (hs : s < 2 ^ n) (ht : t = cu_top D s 48)
    (h : ∀ m : ma_M, cu_f1 μ n m → cu_C D m n (cu_ins D L s) → Post (.inl none) m) :
    ma_Ox LS (d + 3) mi_Cuts_offer [ma_Rf 14 0, ma_I n, ma_L s, ma_I t] μ Post := by
  obtain ⟨c, f⟩ := L
  obtain ⟨k1, k2, k3⟩ := hok
  obtain ⟨c1, c2⟩ := hL
  simp only at k1 k2 k3 c1 c2
  have s48 := cu_p48 (by omega) hs
  have f48 : ∀ i, i < c → f i < 281474976710656 := fun i hi => cu_p48 (by omega) (k2 i hi).1
  obtain ⟨p1, p2⟩ := cu_pos_sp (s := s) c k3
  refine gi_Cuts_offer (fun R hR => s_Cuts_offer_0 hR (cu_bitCount s48 (k_Cuts_offer_1 hR ⟨fun e4 => ?_, fun e4 => ?_⟩)))
  rotate_left
  · refine h μ (cu_f1_refl μ n) ?_
    unfold cu_ins; rw [if_pos (by omega)]; exact ⟨c1, c2⟩
  -- the shift
  have sh : ∀ (p c' : Nat), p ≤ c → p < 6 → (p < c → f p ≠ s) → cu_pos D f s c = p → c' = (if c < 6 then c + 1 else 6) → ∀ (k v : Nat) (u3 u6 : ma_V) (m : ma_M), v = p + k → v < c' → cu_f1 μ n m → m 19 0 n = (c' : Int) → (∀ i : Nat, i ≤ v → i < c → m 16 n i = (f i : Int) ∧ m 18 n i = (cu_top D (f i) 48 : Int)) → (∀ i : Nat, v < i → i < c' → m 16 n i = (f (i - 1) : Int) ∧ m 18 n i = (cu_top D (f (i - 1)) 48 : Int)) → R 118 [ma_Rf 14 0, ma_I n, ma_L s, u3, ma_I t, ma_I p, u6, ma_I v] [] 0 m := by
    intro p c' hp hp6 hne hpos hc' k
    induction k with
    | zero =>
      intro v u3 u6 m hv hvc hf h19 hlo hhi
      refine s_Cuts_offer_118 hR ⟨fun c => ⟨by omega, by omega, h _ ?_ ?_⟩, fun c => by omega⟩
      · refine ⟨fun k a1 a2 a3 => ?_, fun r i hr => ⟨?_, ?_⟩, fun i hi => ?_⟩
        · rw [ma_up_ck a2, ma_up_ck a1]; exact hf.1 k a1 a2 a3
        · rw [ma_up_ck (by decide), ma_up_ne (by omega)]; exact (hf.2.1 r i hr).1
        · rw [ma_up_ne (by omega), ma_up_ck (by decide)]; exact (hf.2.1 r i hr).2
        · rw [ma_up_ck (by decide), ma_up_ck (by decide)]; exact hf.2.2 i hi
      · unfold cu_ins
        simp only
        rw [hpos, if_neg (by omega), if_neg (by intro z; rcases z with z | z; exact hne z.1 z.2; omega)]
        refine ⟨?_, fun i hi => ?_⟩
        · rw [ma_up_ck (by decide), ma_up_ck (by decide), h19, hc']
        · simp only at hi ⊢
          have hi2 : i < c' := by rw [hc']; exact hi
          by_cases a1 : i < p
          · rw [if_pos a1, ma_up_ck (by decide), ma_up_ne (by omega), ma_up_ne (by omega), ma_up_ck (by decide)]
            exact hlo i (by omega) (by omega)
          · rw [if_neg a1]
            by_cases a2 : i = p
            · rw [if_pos a2, ma_up_ck (by decide), a2, ma_up_eq, ma_up_eq]
              exact ⟨rfl, by rw [ht]⟩
            · rw [if_neg a2, ma_up_ck (by decide), ma_up_ne (by omega), ma_up_ne (by omega), ma_up_ck (by decide)]
              exact hhi i (by omega) hi2
    | succ k ih =>
      intro v u3 u6 m hv hvc hf h19 hlo hhi
      have hc6 : c' ≤ 6 ∧ c' ≤ c + 1 := by rw [hc']; split <;> omega
      have ev : ((v : Nat) : Int) - 1 = ((v - 1 : Nat) : Int) := by omega
      have ev2 : ((v : Nat) : Int) + (-1) = ((v - 1 : Nat) : Int) := by omega
      refine s_Cuts_offer_118 hR ⟨fun c => by omega, fun c => ⟨by omega, by omega, by omega, by omega, by omega, ?_⟩⟩
      rw [ev2, ev]
      obtain ⟨g1, g2⟩ := hlo (v - 1) (by omega) (by omega)
      rw [g1, g2]
      refine ih (v - 1) _ _ _ (by omega) (by omega) ?_ ?_ (fun i a1 a2 => ?_) (fun i a1 a2 => ?_)
      · refine ⟨fun k a1 a2 a3 => ?_, fun r i hr => ⟨?_, ?_⟩, fun i hi => ?_⟩
        · rw [ma_up_ck a2, ma_up_ck a1]; exact hf.1 k a1 a2 a3
        · rw [ma_up_ck (by decide), ma_up_ne (by omega)]; exact (hf.2.1 r i hr).1
        · rw [ma_up_ne (by omega), ma_up_ck (by decide)]; exact (hf.2.1 r i hr).2
        · rw [ma_up_ck (by decide), ma_up_ck (by decide)]; exact hf.2.2 i hi
      · rw [ma_up_ck (by decide), ma_up_ck (by decide), h19]
      · rw [ma_up_ck (by decide), ma_up_ne (by omega), ma_up_ne (by omega), ma_up_ck (by decide)]
        exact hlo i (by omega) a2
      · by_cases e : i = v
        · rw [e, ma_up_ck (by decide), ma_up_eq, ma_up_eq]; exact ⟨rfl, rfl⟩
        · rw [ma_up_ck (by decide), ma_up_ne (by omega), ma_up_ne (by omega), ma_up_ck (by decide)]
          exact hhi i (by omega) a2
  -- behind the search
  have g6 : ∀ (p : Nat) (u3 u6 : ma_V), p ≤ c → (p < c → f p ≠ s) → cu_pos D f s c = p → p < 6 → 6 ≤ μ 19 0 n → R 118 [ma_Rf 14 0, ma_I n, ma_L s, u3, ma_I t, ma_I p, u6, ma_I (μ 19 0 n - 1)] [] 0 μ := by
    intro p u3 u6 hp hne hpos hp6 hc6
    have e : μ 19 0 n - 1 = ((c - 1 : Nat) : Int) := by omega
    rw [e]
    refine sh p 6 hp hp6 hne hpos (by rw [if_neg (by omega)]) (c - 1 - p) (c - 1) _ _ μ (by omega) (by omega) (cu_f1_refl μ n) (by omega) (fun i _ a2 => c2 i a2) (fun i a1 a2 => by omega)
  have g5 : ∀ (p : Nat) (u3 u6 : ma_V), p ≤ c → (p < c → f p ≠ s) → cu_pos D f s c = p → p < 6 → μ 19 0 n < 6 → R 118 [ma_Rf 14 0, ma_I n, ma_L s, u3, ma_I t, ma_I p, u6, ma_I (ma_up μ 19 0 n (μ 19 0 n + 1) 19 0 n - 1)] [] 0 (ma_up μ 19 0 n (μ 19 0 n + 1)) := by
    intro p u3 u6 hp hne hpos hp6 hc6
    have e : ma_up μ 19 0 n (μ 19 0 n + 1) 19 0 n - 1 = ((c : Nat) : Int) := by rw [ma_up_eq]; omega
    rw [e]
    refine sh p (c + 1) hp hp6 hne hpos (by rw [if_pos (by omega)]) (c - p) c _ _ _ (by omega) (by omega) ?_ (by rw [ma_up_eq]; omega) (fun i _ a2 => ?_) (fun i a1 a2 => by omega)
    · refine ⟨fun k a1 a2 a3 => ?_, fun r i hr => ⟨?_, ?_⟩, fun i hi => ?_⟩
      · rw [ma_up_ck a3]
      · rw [ma_up_ck (by decide)]
      · rw [ma_up_ck (by decide)]
      · rw [ma_up_ne (by omega)]
    · rw [ma_up_ck (by decide), ma_up_ck (by decide)]; exact c2 i a2
  have gx : ∀ p : Nat, cu_pos D f s c = p → ((p < c ∧ f p = s) ∨ 6 ≤ p) → Post (.inl none) μ := by
    intro p hpos hx
    refine h μ (cu_f1_refl μ n) ?_
    unfold cu_ins
    simp only
    rw [hpos, if_neg (by omega), if_pos hx]
    exact ⟨c1, c2⟩
  -- the search
  have lp : ∀ (k i : Nat) (u3 u6 u7 : ma_V), i + k = c → (∀ j, j < i → cu_key D (f j) < cu_key D s) → R 12 [ma_Rf 14 0, ma_I n, ma_L s, u3, ma_I t, ma_I i, u6, u7] [] 0 μ := by
    intro k
    induction k with
    | zero =>
      intro i u3 u6 u7 hi hlt
      have hpos : cu_pos D f s c = i := cu_pos_eq (by omega) (fun j hj => ⟨fun _ => by omega, fun _ => hlt j (by omega)⟩)
      refine s_Cuts_offer_12 hR ⟨by omega, fun _ => ⟨fun h6 => ⟨fun q => ⟨by omega, g6 i _ _ (by omega) (by omega) hpos (by omega) q⟩, fun q => ⟨by omega, by rw [ma_up_eq]; omega, g5 i _ _ (by omega) (by omega) hpos (by omega) q⟩⟩, fun h6 => gx i hpos (.inr (by omega))⟩, fun q => by omega⟩
    | succ k ih =>
      intro i u3 u6 u7 hi hlt
      obtain ⟨r1, r2⟩ := c2 i (by omega)
      refine s_Cuts_offer_12 hR ⟨by omega, fun q => by omega, fun q => ?_⟩
      have hkey := cu_key_lt (D := D) (f48 i (by omega)) s48
      refine sp_isBehind hn (by omega) r1 r2 (f48 i (by omega)) s48 (fun z => ?_) (fun z => ?_)
      · have z2 : ¬ cu_key D (f i) < cu_key D s := fun w => z (by rw [ht]; exact hkey.1 w)
        have hpos : cu_pos D f s c = i := cu_pos_eq (by omega) (fun j hj => ⟨fun w => by
          by_cases e : j < i
          · exact e
          · by_cases e2 : j = i
            · rw [e2] at w; exact absurd w z2
            · have := k3 i j (by omega) hj; omega, fun w => hlt j w⟩)
        refine k_Cuts_offer_30 hR ⟨fun _ => ⟨by omega, fun q => by omega, fun _ => ⟨by omega, fun q2 => ?_, fun q2 => ?_⟩⟩, fun q => absurd rfl q⟩
        · have hne : i < c → f i ≠ s := fun _ w => q2 (by rw [r1, w])
          exact ⟨fun h6 => ⟨fun q => ⟨by omega, g6 i _ _ (by omega) hne hpos (by omega) q⟩, fun q => ⟨by omega, by rw [ma_up_eq]; omega, g5 i _ _ (by omega) hne hpos (by omega) q⟩⟩, fun h6 => gx i hpos (.inr (by omega))⟩
        · exact gx i hpos (.inl ⟨by omega, by rw [r1] at q2; omega⟩)
      · have z2 : cu_key D (f i) < cu_key D s := hkey.2 (by rw [ht] at z; exact z)
        refine k_Cuts_offer_30 hR ⟨fun q => by omega, fun _ => ⟨by omega, ?_⟩⟩
        rw [show ((i : Nat) : Int) + 1 = ((i + 1 : Nat) : Int) from by omega]
        refine ih (i + 1) _ _ _ (by omega) (fun j hj => ?_)
        by_cases e : j = i
        · rw [e]; exact z2
        · exact hlt j (by omega)
  exact lp c 0 _ _ _ (by omega) (fun j hj => absurd hj (Nat.not_lt_zero j))

