/-! needed gates: the class -/
theorem cu_need_root {μ : ma_M} {k : Nat} (h : cu_root μ k) (hg : ¬ (μ 4 0 k = 105 ∨ μ 4 0 k = 114)) : cu_need μ k := fun _ a _ => a k h hg
theorem cu_need_step {μ : ma_M} {n k : Nat} (h : cu_need μ n) (hk : k < n) (hb : (cu_own μ n).testBit k = true) (hg : ¬ (μ 4 0 k = 105 ∨ μ 4 0 k = 114)) : cu_need μ k := fun P a b => b n k (h P a b) hk hb hg
theorem cu_need_gate {μ : ma_M} {k : Nat} (h : cu_need μ k) : ¬ (μ 4 0 k = 105 ∨ μ 4 0 k = 114) := h (fun k => ¬ (μ 4 0 k = 105 ∨ μ 4 0 k = 114)) (fun _ _ z => z) (fun _ _ _ _ _ z => z)
theorem cu_root_lt {μ : ma_M} (H : rl_c μ) {k : Nat} (h : cu_root μ k) : (k : Int) < μ 3 0 10 := by
  obtain ⟨_, _, _, _, _, _, _, _, _, _, _, _, h1, _, _, _, _, h2⟩ := H
  rcases h with ⟨j, j0, j1, e⟩ | ⟨i, i0, i1, i2, e⟩
  · have := (h2 j j0 j1).2.2; omega
  · have := (h1 i i0 i1).2.2.2.1 i2; omega
theorem cu_need_lt {μ : ma_M} (H : rl_c μ) {k : Nat} (h : cu_need μ k) : (k : Int) < μ 3 0 10 := h (fun k => (k : Int) < μ 3 0 10) (fun _ z _ => cu_root_lt H z) (fun n k z hk _ _ => by omega)
theorem sp_markCut {LS d : Nat} {Post : ma_R → ma_M → Prop} {μ : ma_M} {n c : Nat} (hn : n ≤ 48) (hc : c < 281474976710656)
    (h : ∀ m : ma_M, (∀ c : Nat, c ≠ 29 → m c = μ c) → (∀ k : Nat, m 29 0 k = if k < n ∧ c.testBit k = true ∧ ¬ (μ 4 0 k = 105 ∨ μ 4 0 k = 114) then 1 else μ 29 0 k) → Post (.inl none) m) :
    ma_Ox LS (d + 2) mi_Blocks_markCut [ma_Rf 21 0, ma_L c, ma_I n] μ Post := by
  refine gi_Blocks_markCut (fun R hR => s_Blocks_markCut_0 hR ?_)
  have lp : ∀ (k i : Nat) (m : ma_M), i + k = n → (∀ c : Nat, c ≠ 29 → m c = μ c) → (∀ k : Nat, m 29 0 k = if k < i ∧ c.testBit k = true ∧ ¬ (μ 4 0 k = 105 ∨ μ 4 0 k = 114) then 1 else μ 29 0 k) → R 3 [ma_Rf 21 0, ma_L c, ma_U, ma_I n, ma_I i] [] 0 m := by
    intro k
    induction k with
    | zero =>
      intro i m hi hf hm
      refine s_Blocks_markCut_3 hR ⟨fun _ => h m hf ?_, fun q => by omega⟩
      rw [show n = i from by omega]; exact hm
    | succ k ih =>
      intro i m hi hf hm
      have e4 : m 4 = μ 4 := hf 4 (by decide)
      have nx : (c.testBit i = true ∧ ¬ (μ 4 0 i = 105 ∨ μ 4 0 i = 114) → False) → R 3 [ma_Rf 21 0, ma_L c, ma_U, ma_I n, ma_I ((i : Int) + 1)] [] 0 m := by
        intro hno
        rw [show ((i : Nat) : Int) + 1 = ((i + 1 : Nat) : Int) from by omega]
        refine ih (i + 1) m (by omega) hf (fun j => ?_)
        rw [hm j]
        by_cases e : j = i
        · subst e
          rw [if_neg (by omega), if_neg (fun z => hno ⟨z.2.1, z.2.2⟩)]
        · by_cases q : j < i ∧ c.testBit j = true ∧ ¬ (μ 4 0 j = 105 ∨ μ 4 0 j = 114)
          · rw [if_pos q, if_pos ⟨by omega, q.2⟩]
          · rw [if_neg q, if_neg (fun z => q ⟨by omega, z.2⟩)]
      refine s_Blocks_markCut_3 hR ⟨fun q => by omega, fun _ => ?_⟩
      rw [cu_bitq hc (by omega), e4]
      by_cases hb : c.testBit i = true
      · rw [if_pos hb]
        refine ⟨fun q => absurd q (by decide), fun _ => ⟨by omega, fun q1 => ⟨by omega, nx (fun z => z.2 (.inl q1))⟩, fun q1 => ⟨fun q2 => ⟨by omega, nx (fun z => z.2 (.inr q2))⟩, fun q2 => ⟨by omega, ?_⟩⟩⟩⟩
        rw [show ((i : Nat) : Int) + 1 = ((i + 1 : Nat) : Int) from by omega]
        refine ih (i + 1) _ (by omega) (fun c hc => by rw [ma_up_ck hc]; exact hf c hc) (fun j => ?_)
        by_cases e : j = i
        · subst e
          rw [ma_up_eq, if_pos ⟨by omega, hb, fun z => by rcases z with z | z; exact q1 z; exact q2 z⟩]
        · rw [ma_up_ne (by omega), hm j]
          by_cases q : j < i ∧ c.testBit j = true ∧ ¬ (μ 4 0 j = 105 ∨ μ 4 0 j = 114)
          · rw [if_pos q, if_pos ⟨by omega, q.2⟩]
          · rw [if_neg q, if_neg (fun z => q ⟨by omega, z.2⟩)]
      · rw [if_neg hb]
        exact ⟨fun _ => ⟨by omega, nx (fun z => hb z.1)⟩, fun q => absurd rfl q⟩
  exact lp n 0 μ (by omega) (fun _ _ => rfl) (fun k => by rw [if_neg (by omega)])
/-- the needed gates, as a row of the memory has them -/
def cu_row29 (μ m : ma_M) : Prop := ∀ k : Nat, (k : Int) < μ 3 0 10 → (m 29 0 k = 0 ∨ m 29 0 k = 1) ∧ (m 29 0 k = 1 ↔ cu_need μ k)
theorem sp_markNeeded {LS d : Nat} {Post : ma_R → ma_M → Prop} {μ : ma_M} (H : rl_c μ) (ho : ∀ n : Nat, (n : Int) < μ 3 0 10 → ¬ (μ 4 0 n = 105 ∨ μ 4 0 n = 114) → μ 16 n 0 = (cu_own μ n : Int) ∧ cu_own μ n < 2 ^ n)
    (h : ∀ m : ma_M, (∀ c : Nat, c ≠ 29 → m c = μ c) → cu_row29 μ m → Post (.inl none) m) :
    ma_Ox LS (d + 3) mi_Blocks_markNeeded [ma_Rf 21 0, ma_Rf 14 0] μ Post := by
  have HC := H
  obtain ⟨N0, N1, I0, I1, R0, R1, O0, O1, _, _, _, _, hn, hi, hr, _, hrj, hoo⟩ := HC
  refine gi_Blocks_markNeeded (fun R hR => s_Blocks_markNeeded_0 hR ?_)
  have rd : ∀ m : ma_M, (∀ c : Nat, c ≠ 29 → m c = μ c) → m 3 = μ 3 ∧ m 4 = μ 4 ∧ m 7 = μ 7 ∧ m 12 = μ 12 ∧ m 13 = μ 13 ∧ m 16 = μ 16 := fun m hm => ⟨hm 3 (by decide), hm 4 (by decide), hm 7 (by decide), hm 12 (by decide), hm 13 (by decide), hm 16 (by decide)⟩
  -- the fourth loop
  have l4 : ∀ (v : Nat) (u3 : ma_V) (m : ma_M), (v : Int) ≤ μ 3 0 10 → (∀ c : Nat, c ≠ 29 → m c = μ c) → (∀ k : Nat, k < 48 → m 29 0 k = 0 ∨ m 29 0 k = 1) → (∀ k : Nat, k < 48 → m 29 0 k = 1 → cu_need μ k) → (∀ k : Nat, cu_root μ k → ¬ (μ 4 0 k = 105 ∨ μ 4 0 k = 114) → m 29 0 k = 1) → (∀ n : Nat, v ≤ n → (n : Int) < μ 3 0 10 → m 29 0 n = 1 → ∀ k : Nat, k < n → (cu_own μ n).testBit k = true → ¬ (μ 4 0 k = 105 ∨ μ 4 0 k = 114) → m 29 0 k = 1) → R 131 [ma_Rf 21 0, ma_Rf 14 0, ma_I ((v : Int) - 1), u3] [] 0 m := by
    intro v
    induction v with
    | zero =>
      intro u3 m hv hf h01 hs hro hcl
      refine s_Blocks_markNeeded_131 hR ⟨fun _ => h m hf (fun k hk => ⟨h01 k (by omega), fun z => hs k (by omega) z, fun z => ?_⟩), fun q => by omega⟩
      have := z (fun k => (k : Int) < μ 3 0 10 ∧ m 29 0 k = 1) (fun k a b => ⟨cu_root_lt H a, hro k a b⟩) (fun n k a b c e => ⟨by omega, hcl n (by omega) a.1 a.2 k b c e⟩)
      exact this.2
    | succ v ih =>
      intro u3 m hv hf h01 hs hro hcl
      obtain ⟨e3, e4, e7, e12, e13, e16⟩ := rd m hf
      rw [show ((v + 1 : Nat) : Int) - 1 = (v : Int) from by omega]
      refine s_Blocks_markNeeded_131 hR ⟨fun q => by omega, fun _ => ⟨by omega, fun q => ⟨by omega, ?_⟩, fun q => ?_⟩⟩
      · rw [show ((v : Nat) : Int) + (-1) = (v : Int) - 1 from by omega]
        refine ih _ m (by omega) hf h01 hs hro (fun n a b c => ?_)
        by_cases e : n = v
        · rw [e] at c; omega
        · exact hcl n (by omega) b c
      · have hv1 : m 29 0 v = 1 := by rcases h01 v (by omega) with z | z; exact absurd z q; exact z
        have hnd := hs v (by omega) hv1
        obtain ⟨o1, o2⟩ := ho v (by omega) (cu_need_gate hnd)
        rw [e16, o1]
        refine sp_markCut (by omega) (cu_p48 (by omega) o2) (fun m' hf' hm' => k_Blocks_markNeeded_151 hR ⟨by omega, ?_⟩)
        rw [show ((v : Nat) : Int) + (-1) = (v : Int) - 1 from by omega]
        rw [e4] at hm'
        have grow : ∀ k : Nat, m 29 0 k = 1 → m' 29 0 k = 1 := fun k hk => by rw [hm' k]; split <;> simp_all
        refine ih _ m' (by omega) (fun c hc => by rw [hf' c hc, hf c hc]) (fun k hk => ?_) (fun k hk z => ?_) (fun k a b => grow k (hro k a b)) (fun n a b c k hk hb hg => ?_)
        · rw [hm' k]; split
          · exact .inr rfl
          · exact h01 k hk
        · by_cases e : k < v ∧ (cu_own μ v).testBit k = true ∧ ¬ (μ 4 0 k = 105 ∨ μ 4 0 k = 114)
          · exact cu_need_step hnd e.1 e.2.1 e.2.2
          · rw [hm' k, if_neg e] at z; exact hs k hk z
        · by_cases e : n = v
          · rw [hm' k, if_pos (by rw [← e]; exact ⟨hk, hb, hg⟩)]
          · refine grow k (hcl n (by omega) b ?_ k hk hb hg)
            rw [hm' n, if_neg (by omega)] at c; exact c
  -- the third
  have l3 : ∀ (k j : Nat) (u3 : ma_V) (m : ma_M), (j : Int) + k = μ 3 0 12 → (∀ c : Nat, c ≠ 29 → m c = μ c) → (∀ k : Nat, k < 48 → (m 29 0 k = 0 ∨ m 29 0 k = 1) ∧ (m 29 0 k = 1 ↔ ¬ (μ 4 0 k = 105 ∨ μ 4 0 k = 114) ∧ ((∃ j : Int, 0 ≤ j ∧ j < μ 3 0 13 ∧ μ 13 0 j = k) ∨ ∃ i : Nat, i < j ∧ μ 7 0 (μ 12 0 i) = k))) → R 72 [ma_Rf 21 0, ma_Rf 14 0, ma_I j, u3] [] 0 m := by
    intro k
    induction k with
    | zero =>
      intro j u3 m hj hf hm
      obtain ⟨e3, e4, e7, e12, e13, e16⟩ := rd m hf
      have key : ∀ k : Nat, k < 48 → (m 29 0 k = 1 ↔ ¬ (μ 4 0 k = 105 ∨ μ 4 0 k = 114) ∧ cu_root μ k) := by
        intro k hk
        rw [(hm k hk).2]
        refine and_congr_right (fun _ => or_congr Iff.rfl ⟨fun ⟨i, a, b⟩ => ⟨μ 12 0 i, ?_⟩, fun ⟨i, a, b, c, e⟩ => ?_⟩)
        · have := hr i (by omega) (by omega); exact ⟨this.1, this.2.1, this.2.2, b⟩
        · obtain ⟨j', j0, j1, ej⟩ := hrj i a b c
          exact ⟨j'.toNat, by omega, by rw [show ((j'.toNat : Nat) : Int) = j' from by omega, ej]; exact e⟩
      refine s_Blocks_markNeeded_72 hR ⟨fun _ => ⟨by rw [e3]; omega, ?_⟩, fun q => by rw [e3] at q; omega⟩
      rw [e3, show μ 3 0 10 = (((μ 3 0 10).toNat : Nat) : Int) from by omega]
      refine l4 (μ 3 0 10).toNat _ m (by omega) hf (fun k hk => (hm k hk).1) (fun k hk z => ?_) (fun k a b => ?_) (fun n a b => by omega)
      · have := (key k hk).1 z; exact cu_need_root this.2 this.1
      · exact (key k (by have := cu_root_lt H a; omega)).2 ⟨b, a⟩
    | succ k ih =>
      intro j u3 m hj hf hm
      obtain ⟨e3, e4, e7, e12, e13, e16⟩ := rd m hf
      obtain ⟨r1, r2, r3⟩ := hr j (by omega) (by omega)
      obtain ⟨f1, f2, f3⟩ := (hn (μ 12 0 j) r1 r2).2.2.2.1 r3
      obtain ⟨f, ef⟩ : ∃ f : Nat, μ 7 0 (μ 12 0 j) = (f : Int) := ⟨(μ 7 0 (μ 12 0 j)).toNat, by omega⟩
      have fin : ∀ w : Int, (w = 0 ∨ w = 1) → (w = 1 ↔ ¬ (μ 4 0 f = 105 ∨ μ 4 0 f = 114)) → R 72 [ma_Rf 21 0, ma_Rf 14 0, ma_I ((j : Int) + 1), ma_I f] [] 0 (ma_up m 29 0 f w) := by
        intro w hw hw2
        rw [show ((j : Nat) : Int) + 1 = ((j + 1 : Nat) : Int) from by omega]
        refine ih (j + 1) _ _ (by omega) (fun c hc => by rw [ma_up_ck hc]; exact hf c hc) (fun x hx => ?_)
        by_cases e : x = f
        · subst e
          rw [ma_up_eq]
          exact ⟨hw, hw2.trans ⟨fun z => ⟨z, .inr ⟨j, by omega, ef⟩⟩, fun z => z.1⟩⟩
        · rw [ma_up_ne (by omega)]
          refine ⟨(hm x hx).1, (hm x hx).2.trans (and_congr_right (fun _ => or_congr Iff.rfl ⟨fun ⟨i, a, b⟩ => ⟨i, by omega, b⟩, fun ⟨i, a, b⟩ => ⟨i, ?_, b⟩⟩))⟩
          by_cases e2 : i = j
          · rw [e2, ef] at b; omega
          · omega
      refine s_Blocks_markNeeded_72 hR ⟨fun q => by rw [e3] at q; omega, fun _ => ?_⟩
      rw [e12, e7, e4, ef]
      exact ⟨by omega, by omega, by omega, fun q1 => ⟨by omega, fin 0 (.inl rfl) ⟨fun z => absurd z (by decide), fun z => absurd (.inl q1) z⟩⟩, fun q1 => ⟨fun q2 => ⟨by omega, fin 0 (.inl rfl) ⟨fun z => absurd z (by decide), fun z => absurd (.inr q2) z⟩⟩, fun q2 => ⟨by omega, fin 1 (.inr rfl) ⟨fun _ z => by rcases z with z | z; exact q1 z; exact q2 z, fun _ => rfl⟩⟩⟩⟩
  -- the second
  have l2 : ∀ (k j : Nat) (u3 : ma_V) (m : ma_M), (j : Int) + k = μ 3 0 13 → (∀ c : Nat, c ≠ 29 → m c = μ c) → (∀ k : Nat, k < 48 → (m 29 0 k = 0 ∨ m 29 0 k = 1) ∧ (m 29 0 k = 1 ↔ ¬ (μ 4 0 k = 105 ∨ μ 4 0 k = 114) ∧ (∃ i : Nat, i < j ∧ μ 13 0 i = k))) → R 23 [ma_Rf 21 0, ma_Rf 14 0, ma_I j, u3] [] 0 m := by
    intro k
    induction k with
    | zero =>
      intro j u3 m hj hf hm
      obtain ⟨e3, e4, e7, e12, e13, e16⟩ := rd m hf
      refine s_Blocks_markNeeded_23 hR ⟨fun _ => l3 (μ 3 0 12).toNat 0 _ m (by omega) hf (fun k hk => ⟨(hm k hk).1, ?_⟩), fun q => by rw [e3] at q; omega⟩
      refine (hm k hk).2.trans (and_congr_right (fun _ => ⟨fun ⟨i, a, b⟩ => .inl ⟨i, by omega, by omega, b⟩, fun z => ?_⟩))
      rcases z with ⟨i, a, b, c⟩ | ⟨i, a, _⟩
      · exact ⟨i.toNat, by omega, by rw [show ((i.toNat : Nat) : Int) = i from by omega]; exact c⟩
      · exact absurd a (Nat.not_lt_zero i)
    | succ k ih =>
      intro j u3 m hj hf hm
      obtain ⟨e3, e4, e7, e12, e13, e16⟩ := rd m hf
      obtain ⟨_, r1, r2⟩ := hoo j (by omega) (by omega)
      obtain ⟨f, ef⟩ : ∃ f : Nat, μ 13 0 j = (f : Int) := ⟨(μ 13 0 j).toNat, by omega⟩
      have fin : ∀ w : Int, (w = 0 ∨ w = 1) → (w = 1 ↔ ¬ (μ 4 0 f = 105 ∨ μ 4 0 f = 114)) → R 23 [ma_Rf 21 0, ma_Rf 14 0, ma_I ((j : Int) + 1), ma_U] [] 0 (ma_up m 29 0 f w) := by
        intro w hw hw2
        rw [show ((j : Nat) : Int) + 1 = ((j + 1 : Nat) : Int) from by omega]
        refine ih (j + 1) _ _ (by omega) (fun c hc => by rw [ma_up_ck hc]; exact hf c hc) (fun x hx => ?_)
        by_cases e : x = f
        · subst e
          rw [ma_up_eq]
          exact ⟨hw, hw2.trans ⟨fun z => ⟨z, ⟨j, by omega, ef⟩⟩, fun z => z.1⟩⟩
        · rw [ma_up_ne (by omega)]
          refine ⟨(hm x hx).1, (hm x hx).2.trans (and_congr_right (fun _ => ⟨fun ⟨i, a, b⟩ => ⟨i, by omega, b⟩, fun ⟨i, a, b⟩ => ⟨i, ?_, b⟩⟩))⟩
          by_cases e2 : i = j
          · rw [e2, ef] at b; omega
          · omega
      refine s_Blocks_markNeeded_23 hR ⟨fun q => by rw [e3] at q; omega, fun _ => ?_⟩
      rw [e13, e4, ef]
      exact ⟨by omega, by omega, fun q1 => ⟨by omega, fin 0 (.inl rfl) ⟨fun z => absurd z (by decide), fun z => absurd (.inl q1) z⟩⟩, fun q1 => ⟨fun q2 => ⟨by omega, fin 0 (.inl rfl) ⟨fun z => absurd z (by decide), fun z => absurd (.inr q2) z⟩⟩, fun q2 => ⟨by omega, fin 1 (.inr rfl) ⟨fun _ z => by rcases z with z | z; exact q1 z; exact q2 z, fun _ => rfl⟩⟩⟩⟩
  -- the first
  refine ma_cnt (σ := ma_M) (N := 48) (P := fun i m => ∀ u3 : ma_V, R 2 [ma_Rf 21 0, ma_Rf 14 0, ma_I i, u3] [] 0 m) (I := fun i m => (∀ c : Nat, c ≠ 29 → m c = μ c) ∧ ∀ k : Int, 0 ≤ k → k < i → m 29 0 k = 0) ?_ ?_ 0 μ (by omega) (by omega) ⟨fun _ _ => rfl, fun k a b => by omega⟩ _
  · intro i m i0 i1 ⟨hf, hm⟩ ih u3
    refine s_Blocks_markNeeded_2 hR ⟨fun q => by omega, fun _ => ⟨by omega, by omega, ih _ ⟨fun c hc => by rw [ma_up_ck hc]; exact hf c hc, fun k a b => ?_⟩ _⟩⟩
    by_cases e : k = i
    · rw [e, ma_up_eq]
    · rw [ma_up_ne (by omega)]; exact hm k a (by omega)
  · intro m ⟨hf, hm⟩ u3
    refine s_Blocks_markNeeded_2 hR ⟨fun _ => l2 (μ 3 0 13).toNat 0 _ m (by omega) hf (fun k hk => ?_), fun q => by omega⟩
    rw [hm k (by omega) (by omega)]
    exact ⟨.inl rfl, fun z => absurd z (by decide), fun ⟨_, i, a, _⟩ => absurd a (Nat.not_lt_zero i)⟩

