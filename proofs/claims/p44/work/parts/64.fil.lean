/-! rows filled, places anew, routes cleared, blocks packed -/
theorem sp_fillI {LS d : Nat} {Post : ma_R → ma_M → Prop} {μ : ma_M} {kk len : Nat} {rr v : Int} (hl : ma_len LS kk = len) (hk : (ma_ck kk).1 = 0) (hL : len < 2147483648)
    (h : ∀ m : ma_M, (∀ c : Nat, c ≠ kk → m c = μ c) → (∀ r i : Int, r ≠ rr → m kk r i = μ kk r i) → (∀ i : Int, 0 ≤ i → i < len → m kk rr i = v) → Post (.inl none) m) :
    ma_Ox LS (d + 1) mi_Arrays_fill_AIIV [ma_Rf kk rr, ma_I v] μ Post := by
  refine gi_Arrays_fill_AIIV (fun R hR => s_Arrays_fill_AIIV_0 hR ⟨by omega, ?_⟩)
  rw [hl]
  refine ma_cnt (σ := ma_M) (N := len) (P := fun i m => R 5 [ma_Rf kk rr, ma_I v, ma_I i, ma_I (len : Nat)] [] 0 m) (I := fun n m => (∀ c : Nat, c ≠ kk → m c = μ c) ∧ (∀ r i : Int, r ≠ rr → m kk r i = μ kk r i) ∧ (∀ i : Int, 0 ≤ i → i < n → m kk rr i = v)) ?_ ?_ 0 μ (by omega) (by omega) ⟨fun _ _ => rfl, fun _ _ _ => rfl, fun i a b => by omega⟩
  · intro i m i0 i1 ⟨a1, a2, a3⟩ ih
    refine s_Arrays_fill_AIIV_5 hR ⟨fun q => by omega, fun _ => ⟨⟨by omega, by rw [hl]; omega⟩, hk, by omega, ih _ ⟨fun c hc => by rw [ma_up_ck hc]; exact a1 c hc, fun r j hr => by rw [ma_up_ne (by omega)]; exact a2 r j hr, fun j j0 j1 => ?_⟩⟩⟩
    by_cases e : j = i
    · rw [e, ma_up_eq]
    · rw [ma_up_ne (by omega)]; exact a3 j j0 (by omega)
  · intro m ⟨a1, a2, a3⟩
    exact s_Arrays_fill_AIIV_5 hR ⟨fun _ => h m a1 a2 a3, fun q => by omega⟩
theorem sp_fillL {LS d : Nat} {Post : ma_R → ma_M → Prop} {μ : ma_M} {kk len : Nat} {rr v : Int} (hl : ma_len LS kk = len) (hk : (ma_ck kk).1 = 1) (hL : len < 2147483648)
    (h : ∀ m : ma_M, (∀ c : Nat, c ≠ kk → m c = μ c) → (∀ r i : Int, r ≠ rr → m kk r i = μ kk r i) → (∀ i : Int, 0 ≤ i → i < len → m kk rr i = v) → Post (.inl none) m) :
    ma_Ox LS (d + 1) mi_Arrays_fill_AJJV [ma_Rf kk rr, ma_L v] μ Post := by
  refine gi_Arrays_fill_AJJV (fun R hR => s_Arrays_fill_AJJV_0 hR ⟨by omega, ?_⟩)
  rw [hl]
  refine ma_cnt (σ := ma_M) (N := len) (P := fun i m => R 6 [ma_Rf kk rr, ma_L v, ma_U, ma_I i, ma_I (len : Nat)] [] 0 m) (I := fun n m => (∀ c : Nat, c ≠ kk → m c = μ c) ∧ (∀ r i : Int, r ≠ rr → m kk r i = μ kk r i) ∧ (∀ i : Int, 0 ≤ i → i < n → m kk rr i = v)) ?_ ?_ 0 μ (by omega) (by omega) ⟨fun _ _ => rfl, fun _ _ _ => rfl, fun i a b => by omega⟩
  · intro i m i0 i1 ⟨a1, a2, a3⟩ ih
    refine s_Arrays_fill_AJJV_6 hR ⟨fun q => by omega, fun _ => ⟨⟨by omega, by rw [hl]; omega⟩, hk, by omega, ih _ ⟨fun c hc => by rw [ma_up_ck hc]; exact a1 c hc, fun r j hr => by rw [ma_up_ne (by omega)]; exact a2 r j hr, fun j j0 j1 => ?_⟩⟩⟩
    by_cases e : j = i
    · rw [e, ma_up_eq]
    · rw [ma_up_ne (by omega)]; exact a3 j j0 (by omega)
  · intro m ⟨a1, a2, a3⟩
    exact s_Arrays_fill_AJJV_6 hR ⟨fun _ => h m a1 a2 a3, fun q => by omega⟩
theorem sp_putAnew {LS d : Nat} {Post : ma_R → ma_M → Prop} {μ : ma_M} {c : Nat} (hc : μ 21 0 7 = (c : Int)) (h36 : c ≤ 36)
    (h : ∀ m : ma_M, (∀ c : Nat, c ≠ 32 → c ≠ 33 → c ≠ 34 → m c = μ c) → (∀ b : Int, 0 ≤ b → b < c → m 32 0 b = b ∧ m 34 0 b = 0) → (∀ x : Int, 0 ≤ x → x < 36 → m 33 0 x = if x < c then x else -1) → Post (.inl none) m) :
    ma_Ox LS (d + 2) mi_Places_putAnew [ma_Rf 31 0] μ Post := by
  refine gi_Places_putAnew (fun R hR => s_Places_putAnew_0 hR (sp_fillI (len := 36) rfl rfl (by omega) (fun m1 a1 a2 a3 => k_Places_putAnew_5 hR ?_)))
  refine ma_cnt (σ := ma_M) (N := c) (P := fun i m => R 10 [ma_Rf 31 0, ma_I i] [] 0 m) (I := fun n m => (∀ c : Nat, c ≠ 32 → c ≠ 33 → c ≠ 34 → m c = μ c) ∧ (∀ b : Int, 0 ≤ b → b < n → m 32 0 b = b ∧ m 34 0 b = 0) ∧ (∀ x : Int, 0 ≤ x → x < 36 → m 33 0 x = if x < n then x else -1)) ?_ ?_ 0 m1 (by omega) (by omega) ⟨fun x _ x2 _ => a1 x x2, fun b b0 b1 => by omega, fun x x0 x1 => by rw [if_neg (by omega)]; exact a3 x x0 x1⟩
  · intro i m i0 i1 ⟨b1, b2, b3⟩ ih
    have e21 : m 21 0 7 = (c : Int) := by rw [b1 21 (by decide) (by decide) (by decide)]; exact hc
    refine s_Places_putAnew_10 hR ⟨fun q => by omega, fun _ => ⟨fun q => by omega, fun _ => ⟨by omega, by omega, by omega, ih _ ⟨fun x x1 x2 x3 => by rw [ma_up_ck x3, ma_up_ck x2, ma_up_ck x1]; exact b1 x x1 x2 x3, fun b c0 c1 => ?_, fun x x0 x1 => ?_⟩⟩⟩⟩
    · by_cases e : b = i
      · rw [e]; exact ⟨by rw [ma_up_ck (by decide), ma_up_ck (by decide), ma_up_eq], by rw [ma_up_eq]⟩
      · rw [ma_up_ck (by decide), ma_up_ck (by decide), ma_up_ne (by omega), ma_up_ne (by omega), ma_up_ck (by decide), ma_up_ck (by decide)]
        exact b2 b c0 (by omega)
    · rw [ma_up_ck (by decide)]
      by_cases e : x = i
      · rw [e, ma_up_eq, if_pos (by omega)]
      · rw [ma_up_ne (by omega), ma_up_ck (by decide), b3 x x0 x1]
        split <;> split <;> omega
  · intro m ⟨b1, b2, b3⟩
    have e21 : m 21 0 7 = (c : Int) := by rw [b1 21 (by decide) (by decide) (by decide)]; exact hc
    exact s_Places_putAnew_10 hR ⟨fun _ => h m b1 b2 b3, fun q => by omega⟩
theorem sp_clear {LS d : Nat} {Post : ma_R → ma_M → Prop} {μ : ma_M}
    (h : ∀ m : ma_M, (∀ c : Nat, c ≠ 42 → c ≠ 44 → c ≠ 45 → c ≠ 46 → m c = μ c) → (∀ n x : Int, 0 ≤ n → n < 48 → 0 ≤ x → x < 49 → m 42 n x = -1) → (∀ e : Int, 0 ≤ e → e < 84 → m 44 0 e = 0 ∧ m 46 0 e = 0) → (∀ n : Int, 0 ≤ n → n < 48 → m 45 0 n = 0) → Post (.inl none) m) :
    ma_Ox LS (d + 2) mi_Routes_clear [ma_Rf 40 0] μ Post := by
  refine gi_Routes_clear (fun R hR => s_Routes_clear_0 hR ?_)
  refine ma_cnt (σ := ma_M) (N := 48) (P := fun i m => R 2 [ma_Rf 40 0, ma_I i] [] 0 m) (I := fun n m => (∀ c : Nat, c ≠ 42 → m c = μ c) ∧ (∀ r x : Int, 0 ≤ r → r < n → 0 ≤ x → x < 49 → m 42 r x = -1)) ?_ ?_ 0 μ (by omega) (by omega) ⟨fun _ _ => rfl, fun r x r0 r1 => by omega⟩
  · intro i m i0 i1 ⟨b1, b2⟩ ih
    refine s_Routes_clear_2 hR ⟨fun q => by omega, fun _ => ⟨by omega, sp_fillI (len := 49) rfl rfl (by omega) (fun m1 a1 a2 a3 => k_Routes_clear_15 hR ⟨by omega, ih _ ⟨fun c hc => by rw [a1 c hc]; exact b1 c hc, fun r x r0 r1 x0 x1 => ?_⟩⟩)⟩⟩
    by_cases e : r = i
    · rw [e]; exact a3 x x0 x1
    · rw [a2 r x e]; exact b2 r x r0 (by omega) x0 x1
  · intro m ⟨b1, b2⟩
    refine s_Routes_clear_2 hR ⟨fun _ => sp_fillI (len := 84) rfl rfl (by omega) (fun m1 a1 a2 a3 => k_Routes_clear_29 hR (sp_fillI (len := 84) rfl rfl (by omega) (fun m2 c1 c2 c3 => k_Routes_clear_37 hR (sp_fillL (len := 48) rfl rfl (by omega) (fun m3 d1 d2 d3 => k_Routes_clear_45 hR (h m3 ?_ ?_ ?_ d3)))))), fun q => by omega⟩
    · intro c x1 x2 x3 x4
      rw [d1 c x3, c1 c x4, a1 c x2]; exact b1 c x1
    · intro n x n0 n1 x0 x1
      rw [d1 42 (by decide), c1 42 (by decide), a1 42 (by decide)]; exact b2 n x n0 n1 x0 x1
    · intro e e0 e1
      rw [d1 44 (by decide), d1 46 (by decide), c1 44 (by decide)]; exact ⟨a3 e e0 e1, c3 e e0 e1⟩
/-- the blocks, as the class has them -/
def cu_P1 (μ m : ma_M) (i : Int) : Prop := ∀ j : Int, 0 ≤ j → j < i → m 23 0 j = μ 12 0 j ∧ m 28 0 (μ 12 0 j) = j ∧
  ((cu_need μ (μ 7 0 (μ 12 0 j)).toNat ∧ m 28 0 (μ 7 0 (μ 12 0 j)) = j ∧ cu_bG m j (μ 7 0 (μ 12 0 j)).toNat (cu_own μ (μ 7 0 (μ 12 0 j)).toNat) (μ 3 0 10).toNat) ∨
   ((cu_need μ (μ 7 0 (μ 12 0 j)).toNat → 0 ≤ m 28 0 (μ 7 0 (μ 12 0 j)) ∧ m 28 0 (μ 7 0 (μ 12 0 j)) < j ∧ μ 7 0 (μ 12 0 (m 28 0 (μ 7 0 (μ 12 0 j)))) = μ 7 0 (μ 12 0 j)) ∧ cu_bR m j (μ 7 0 (μ 12 0 j))))
def cu_P2 (μ m : ma_M) (u : Int → Int) (i : Nat) : Prop := ∀ k : Nat, k < i → u k = 1 → m 28 0 k = μ 3 0 12 + ma_sum u k ∧ m 23 0 (μ 3 0 12 + ma_sum u k) = -1 ∧ cu_bG m (μ 3 0 12 + ma_sum u k) k (cu_own μ k) (μ 3 0 10).toNat
def cu_P3 (μ m : ma_M) : Prop := ∀ k : Nat, (k : Int) < μ 3 0 10 → μ 4 0 k ≠ 114 → ¬ cu_need μ k → m 28 0 k = -1
theorem cu_bG_congr {m m' : ma_M} {b : Int} {g s N : Nat} (e4 : m' 4 = m 4) (e5 : m' 5 = m 5) (e6 : m' 6 = m 6) (h : m' 22 0 b = m 22 0 b ∧ m' 24 0 b = m 24 0 b ∧ m' 25 0 b = m 25 0 b ∧ ∀ j, m' 27 b j = m 27 b j) (hb : cu_bG m b g s N) : cu_bG m' b g s N := by
  obtain ⟨h1, h2, h3, h4⟩ := h
  obtain ⟨b1, b2, b3, b4⟩ := hb
  refine ⟨by rw [h1, b1], by rw [h2, e4, e5, e6, b2], by rw [h3, b3], fun n hn hbn => by rw [h4, b4 n hn hbn]⟩
theorem cu_bR_congr {m m' : ma_M} {b f : Int} (h : m' 22 0 b = m 22 0 b ∧ m' 24 0 b = m 24 0 b ∧ m' 25 0 b = m 25 0 b ∧ ∀ j, m' 27 b j = m 27 b j) (hb : cu_bR m b f) : cu_bR m' b f := by
  obtain ⟨h1, h2, h3, h4⟩ := h
  obtain ⟨b1, b2, b3, b4⟩ := hb
  exact ⟨by rw [h1, b1], by rw [h2, b2], by rw [h3, b3], by rw [h4, b4]⟩

