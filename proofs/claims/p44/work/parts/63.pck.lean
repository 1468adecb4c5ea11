/-! the class packs the blocks -/
theorem cu_blk_ex (μ : ma_M) : ∃ u : Int → Int, cu_blk μ u := by
  have : ∀ k : Int, ∃ v : Int, (v = 0 ∨ v = 1) ∧ (v = 1 ↔ cu_need μ k.toNat ∧ ¬ cu_fed μ k.toNat) := by
    intro k
    by_cases h : cu_need μ k.toNat ∧ ¬ cu_fed μ k.toNat
    · exact ⟨1, .inr rfl, fun _ => h, fun _ => rfl⟩
    · exact ⟨0, .inl rfl, fun z => absurd z (by decide), fun z => absurd z h⟩
  obtain ⟨u, hu⟩ := Classical.axiomOfChoice this
  exact ⟨u, fun k _ => hu k⟩
theorem cu_reg_mono {μ : ma_M} (H : rl_c μ) : ∀ (n : Nat) (j : Int), 0 ≤ j → j + n + 1 < μ 3 0 12 → μ 12 0 j < μ 12 0 (j + n + 1) := by
  obtain ⟨_, _, _, _, _, _, _, _, _, _, _, _, _, _, _, hm, _, _⟩ := H
  intro n
  induction n with
  | zero =>
    intro j h0 h1
    rw [show j + ((0 : Nat) : Int) + 1 = j + 1 from by omega]
    exact hm j h0 (by omega)
  | succ n ih =>
    intro j h0 h1
    have a := ih j h0 (by omega)
    have b := hm (j + n + 1) (by omega) (by omega)
    rw [show j + ((n + 1 : Nat) : Int) + 1 = j + n + 1 + 1 from by omega]; omega
theorem cu_reg_inj {μ : ma_M} (H : rl_c μ) {i j : Int} (hi : 0 ≤ i) (hi2 : i < μ 3 0 12) (hj : 0 ≤ j) (hj2 : j < μ 3 0 12) (h : μ 12 0 i = μ 12 0 j) : i = j := by
  by_cases e : i = j
  · exact e
  · by_cases e2 : i < j
    · have := cu_reg_mono H (j - i - 1).toNat i hi (by omega)
      rw [show i + ((j - i - 1).toNat : Nat) + 1 = j from by omega] at this; omega
    · have := cu_reg_mono H (i - j - 1).toNat j hj (by omega)
      rw [show j + ((i - j - 1).toNat : Nat) + 1 = i from by omega] at this; omega
/-- there are at most as many blocks as nodes -/
theorem cu_blk_le {μ : ma_M} {u : Int → Int} (H : rl_c μ) (hu : cu_blk μ u) : μ 3 0 12 + ma_sum u (μ 3 0 10).toNat ≤ μ 3 0 10 := by
  have HC := H
  obtain ⟨N0, N1, _, _, R0, R1, _, _, _, _, _, _, hn, _, hr, _, hrj, _⟩ := HC
  have : ∀ c : Int, ∃ j : Int, (0 ≤ c ∧ c < μ 3 0 10 ∧ μ 4 0 c = 114 → 0 ≤ j ∧ j < μ 3 0 12 ∧ μ 12 0 j = c) ∧ (¬ (0 ≤ c ∧ c < μ 3 0 10 ∧ μ 4 0 c = 114) → j = -1) := by
    intro c
    by_cases h : 0 ≤ c ∧ c < μ 3 0 10 ∧ μ 4 0 c = 114
    · obtain ⟨j, hj⟩ := hrj c h.1 h.2.1 h.2.2
      exact ⟨j, fun _ => hj, fun z => absurd h z⟩
    · exact ⟨-1, fun z => absurd z h, fun _ => rfl⟩
  obtain ⟨f, hf⟩ := Classical.axiomOfChoice this
  have e := ma_cnt_bij (μ 3 0 12).toNat (μ 3 0 10).toNat f (μ 12 0) (fun c c0 c1 => by
    by_cases h : 0 ≤ c ∧ c < μ 3 0 10 ∧ μ 4 0 c = 114
    · have := (hf c).1 h; exact ⟨by omega, fun _ => this.2.2⟩
    · have := (hf c).2 h; exact ⟨by omega, fun _ => by omega⟩) (fun b b0 b1 => by
    obtain ⟨r1, r2, r3⟩ := hr b b0 (by omega)
    have := (hf (μ 12 0 b)).1 ⟨r1, r2, r3⟩
    exact ⟨r1, by omega, cu_reg_inj H this.1 this.2.1 b0 (by omega) this.2.2⟩)
  have e2 := ma_sum_add (f := fun c => if f c < 0 then 0 else 1) (g := u) (μ 3 0 10).toNat
  have e3 := ma_sum_rng (f := fun c => (if f c < 0 then 0 else 1) + u c) (b := 1) (μ 3 0 10).toNat (fun c c0 c1 => by
    obtain ⟨u1, u2⟩ := hu c.toNat (by omega)
    rw [show ((c.toNat : Nat) : Int) = c from by omega] at u1 u2
    by_cases h : u c = 1
    · have hg := cu_need_gate (u2.1 h).1
      rw [show ((c.toNat : Nat) : Int) = c from by omega] at hg
      have := (hf c).2 (fun z => hg (.inr z.2.2))
      show 0 ≤ (if f c < 0 then (0 : Int) else 1) + u c ∧ (if f c < 0 then (0 : Int) else 1) + u c ≤ 1
      rw [if_pos (by omega)]; omega
    · show 0 ≤ (if f c < 0 then (0 : Int) else 1) + u c ∧ (if f c < 0 then (0 : Int) else 1) + u c ≤ 1
      split <;> omega)
  rw [e2, e] at e3
  omega
theorem sp_putRegister {LS d : Nat} {Post : ma_R → ma_M → Prop} {μ : ma_M} {N s b f r : Nat} (hN : N ≤ 48) (hw : cu_wf2 (μ 4 0) (μ 5 0) (μ 6 0) N) (hk : ∀ k : Nat, k < N → μ 4 0 k = 105 ∨ μ 4 0 k = 114 ∨ μ 4 0 k = 97 ∨ μ 4 0 k = 111 ∨ μ 4 0 k = 120 ∨ μ 4 0 k = 110) (hb : b < 48) (eb : μ 21 0 7 = (b : Int)) (hp : ∀ j : Nat, j < 4 → μ 1 0 j = (cu_pt j : Int)) (hr : r < 48) (hf : μ 7 0 r = (f : Int)) (hfN : f < N)
    (hd : ¬ μ 29 0 f = 0 → f ≠ r ∧ ¬ (μ 4 0 f = 105 ∨ μ 4 0 f = 114) ∧ μ 16 f 0 = (s : Int) ∧ s < 2 ^ f ∧ cu_cnt s 48 ≤ 4)
    (h : ∀ m : ma_M, (∀ c : Nat, c ≠ 21 → c ≠ 22 → c ≠ 23 → c ≠ 24 → c ≠ 25 → c ≠ 27 → c ≠ 28 → c ≠ 30 → m c = μ c) → (∀ i : Int, i ≠ 7 → m 21 0 i = μ 21 0 i) → m 21 0 7 = (b : Int) + 1 → (∀ i : Int, i ≠ b → m 22 0 i = μ 22 0 i ∧ m 23 0 i = μ 23 0 i ∧ m 24 0 i = μ 24 0 i ∧ m 25 0 i = μ 25 0 i ∧ ∀ j, m 27 i j = μ 27 i j) → m 23 0 b = r → m 28 0 r = b → (∀ i : Int, i ≠ r → i ≠ f → m 28 0 i = μ 28 0 i) → ((¬ μ 29 0 f = 0 ∧ μ 28 0 f < 0 ∧ m 28 0 f = b ∧ cu_bG m b f s N) ∨ ((¬ μ 29 0 f = 0 → 0 ≤ μ 28 0 f) ∧ (f ≠ r → m 28 0 f = μ 28 0 f) ∧ cu_bR m b f)) → Post (.inl none) m) :
    ma_Ox LS (d + 3) mi_Blocks_putRegister [ma_Rf 21 0, ma_I r, ma_Rf 14 0] μ Post := by
  have p0 := hp 0 (by omega)
  have alone : (¬ μ 29 0 f = 0 → 0 ≤ μ 28 0 f) → Post (.inl none) (ma_up (ma_up (ma_up (ma_up (ma_up (ma_up (ma_up μ 23 0 b r) 28 0 r b) 22 0 b (-1)) 24 0 b (μ 1 0 0)) 25 0 b 1) 27 b 0 f) 21 0 7 ((b : Int) + 1)) := by
    intro hx
    refine h _ (fun c c1 c2 c3 c4 c5 c6 c7 c8 => by rw [ma_up_ck c1, ma_up_ck c6, ma_up_ck c5, ma_up_ck c4, ma_up_ck c2, ma_up_ck c7, ma_up_ck c3]) (fun i hi => ?_) ma_up_eq (fun i hi => ⟨?_, ?_, ?_, ?_, fun j => ?_⟩) ?_ ?_ (fun i h1 h2 => ?_) (.inr ⟨hx, fun hne => ?_, ?_, ?_, ?_, ?_⟩)
    · rw [ma_up_ne (by omega), ma_up_ck (by decide), ma_up_ck (by decide), ma_up_ck (by decide), ma_up_ck (by decide), ma_up_ck (by decide), ma_up_ck (by decide)]
    · rw [ma_up_ck (by decide), ma_up_ck (by decide), ma_up_ck (by decide), ma_up_ck (by decide), ma_up_ne (by omega), ma_up_ck (by decide), ma_up_ck (by decide)]
    · rw [ma_up_ck (by decide), ma_up_ck (by decide), ma_up_ck (by decide), ma_up_ck (by decide), ma_up_ck (by decide), ma_up_ck (by decide), ma_up_ne (by omega)]
    · rw [ma_up_ck (by decide), ma_up_ck (by decide), ma_up_ck (by decide), ma_up_ne (by omega), ma_up_ck (by decide), ma_up_ck (by decide), ma_up_ck (by decide)]
    · rw [ma_up_ck (by decide), ma_up_ck (by decide), ma_up_ne (by omega), ma_up_ck (by decide), ma_up_ck (by decide), ma_up_ck (by decide), ma_up_ck (by decide)]
    · rw [ma_up_ck (by decide), ma_up_ne (by omega), ma_up_ck (by decide), ma_up_ck (by decide), ma_up_ck (by decide), ma_up_ck (by decide), ma_up_ck (by decide)]
    · rw [ma_up_ck (by decide), ma_up_ck (by decide), ma_up_ck (by decide), ma_up_ck (by decide), ma_up_ck (by decide), ma_up_ck (by decide), ma_up_eq]
    · rw [ma_up_ck (by decide), ma_up_ck (by decide), ma_up_ck (by decide), ma_up_ck (by decide), ma_up_ck (by decide), ma_up_eq]
    · rw [ma_up_ck (by decide), ma_up_ck (by decide), ma_up_ck (by decide), ma_up_ck (by decide), ma_up_ck (by decide), ma_up_ne (by omega), ma_up_ck (by decide)]
    · rw [ma_up_ck (by decide), ma_up_ck (by decide), ma_up_ck (by decide), ma_up_ck (by decide), ma_up_ck (by decide), ma_up_ne (by omega), ma_up_ck (by decide)]
    · rw [ma_up_ck (by decide), ma_up_ck (by decide), ma_up_ck (by decide), ma_up_ck (by decide), ma_up_eq]
    · rw [ma_up_ck (by decide), ma_up_ck (by decide), ma_up_ck (by decide), ma_up_eq]; exact p0
    · rw [ma_up_ck (by decide), ma_up_ck (by decide), ma_up_eq]
    · rw [ma_up_ck (by decide), ma_up_eq]
  refine gi_Blocks_putRegister (fun R hR => s_Blocks_putRegister_0 hR ?_)
  rw [eb, hf]
  refine ⟨by omega, by omega, by omega, fun q => ⟨by omega, alone (fun z => absurd q z)⟩, fun q => ?_⟩
  obtain ⟨d1, d2, d3, d4, d5⟩ := hd q
  have e28 : ma_up (ma_up μ 23 0 b r) 28 0 r b 28 0 f = μ 28 0 f := by rw [ma_up_ne (by omega), ma_up_ck (by decide)]
  rw [e28]
  refine ⟨fun q2 => ⟨by omega, alone (fun _ => q2)⟩, fun q2 => ?_⟩
  rw [d3]
  have em : ∀ c : Nat, c ≠ 23 → c ≠ 28 → ma_up (ma_up μ 23 0 b r) 28 0 r b c = μ c := fun c c1 c2 => by rw [ma_up_ck c2, ma_up_ck c1]
  refine sp_putGate (N := N) (b := b) hN (by rw [em 4 (by decide) (by decide), em 5 (by decide) (by decide), em 6 (by decide) (by decide)]; exact hw) hfN (by rw [em 4 (by decide) (by decide)]; exact d2) (fun k hk' => by rw [em 4 (by decide) (by decide)]; exact hk k hk') d4 d5 hb (by rw [em 21 (by decide) (by decide)]; exact eb) (fun j hj => by rw [em 1 (by decide) (by decide)]; exact hp j hj) (fun m a1 a2 a3 a4 a5 => ?_)
  have e21 : m 21 0 7 = (b : Int) := by rw [a1 21 (by decide) (by decide) (by decide) (by decide) (by decide) (by decide), em 21 (by decide) (by decide)]; exact eb
  refine k_Blocks_putRegister_55 hR ⟨by omega, ?_⟩
  rw [e21]
  refine h _ (fun c c1 c2 c3 c4 c5 c6 c7 c8 => by rw [ma_up_ck c1, a1 c c2 c4 c5 c6 c7 c8, em c c3 c7]) (fun i hi => ?_) ma_up_eq (fun i hi => ?_) ?_ ?_ (fun i h1 h2 => ?_) (.inl ⟨q, q2, ?_, ?_⟩)
  · rw [ma_up_ne (by omega), a1 21 (by decide) (by decide) (by decide) (by decide) (by decide) (by decide), em 21 (by decide) (by decide)]
  · obtain ⟨b1, b2, b3, b4⟩ := a2 i hi
    rw [ma_up_ck (by decide), ma_up_ck (by decide), ma_up_ck (by decide), ma_up_ck (by decide), ma_up_ck (by decide), b1, b2, b3, a1 23 (by decide) (by decide) (by decide) (by decide) (by decide) (by decide)]
    refine ⟨by rw [em 22 (by decide) (by decide)], ?_, by rw [em 24 (by decide) (by decide)], by rw [em 25 (by decide) (by decide)], fun j => by rw [b4 j, em 27 (by decide) (by decide)]⟩
    rw [ma_up_ck (by decide), ma_up_ne (by omega)]
  · rw [ma_up_ck (by decide), a1 23 (by decide) (by decide) (by decide) (by decide) (by decide) (by decide), ma_up_ck (by decide), ma_up_eq]
  · rw [ma_up_ck (by decide), a3 r (by omega), ma_up_eq]
  · rw [ma_up_ck (by decide), a3 i h2, ma_up_ne (by omega), ma_up_ck (by decide)]
  · rw [ma_up_ck (by decide)]; exact a4
  · unfold cu_bG at a5 ⊢
    rw [ma_up_ck (by decide), ma_up_ck (by decide), ma_up_ck (by decide), ma_up_ck (by decide), ma_up_ck (by decide), ma_up_ck (by decide), ma_up_ck (by decide)]
    exact a5

