/-! needed gates: the reference -/
theorem cu_need_congr {μ m : ma_M} (e3 : m 3 = μ 3) (e4 : m 4 = μ 4) (e5 : m 5 = μ 5) (e6 : m 6 = μ 6) (e7 : m 7 = μ 7) (e13 : m 13 = μ 13) (k : Nat) : cu_need m k ↔ cu_need μ k := by
  unfold cu_need cu_root cu_own
  rw [e3, e4, e5, e6, e7, e13]
theorem sp_needs {LS : Nat} {μ : ma_M} (H : rl_c μ) (ho : ∀ n : Nat, (n : Int) < μ 3 0 10 → ¬ (μ 4 0 n = 105 ∨ μ 4 0 n = 114) → μ 78 0 ((n : Int) * 7) = (cu_own μ n : Int) ∧ cu_own μ n < 2 ^ n) :
    ∀ (n : Nat), (n : Int) < μ 3 0 10 → ∀ (d : Nat) (m1 : ma_M) (Post : ma_R → ma_M → Prop), (∀ c : Nat, c ≠ 82 → m1 c = μ c) → (∀ k : Nat, (k : Int) < μ 3 0 10 → m1 82 0 k = 0 ∨ m1 82 0 k = 1) → (∀ k : Nat, (k : Int) < μ 3 0 10 → m1 82 0 k = 1 → cu_need μ k) → (¬ (μ 4 0 n = 105 ∨ μ 4 0 n = 114) → cu_need μ n) →
      (∀ m : ma_M, (∀ c : Nat, c ≠ 82 → m c = μ c) → (∀ k : Nat, (k : Int) < μ 3 0 10 → m 82 0 k = 0 ∨ m 82 0 k = 1) → (∀ k : Nat, (k : Int) < μ 3 0 10 → m 82 0 k = 1 → cu_need μ k) → (∀ k : Nat, (k : Int) < μ 3 0 10 → m1 82 0 k = 1 → m 82 0 k = 1) → (¬ (μ 4 0 n = 105 ∨ μ 4 0 n = 114) → m 82 0 n = 1) → (∀ k : Nat, (k : Int) < μ 3 0 10 → m 82 0 k = 1 → m1 82 0 k = 1 ∨ ∀ j : Nat, j < k → (cu_own μ k).testBit j = true → ¬ (μ 4 0 j = 105 ∨ μ 4 0 j = 114) → m 82 0 j = 1) → Post (.inl none) m) →
      ma_Ox LS (d + n + 2) mi_LatticefitModel_needs [ma_Rf 69 0, ma_I n] m1 Post := by
  have HC := H
  obtain ⟨N0, N1, _, _, _, _, _, _, _, _, _, _, hn, _, _, _, _, _⟩ := HC
  intro n
  induction n using Nat.strongRecOn with
  | _ n ih =>
    intro hnN d m1 Post hf h01 hs hgn h
    have e70 : m1 70 0 n = μ 4 0 n := by rw [hf 70 (by decide)]; exact (hn n (by omega) hnN).1
    refine gi_LatticefitModel_needs (fun R hR => s_LatticefitModel_needs_0 hR ⟨by omega, fun q => ?_, fun q1 => ⟨fun q => ?_, fun q2 => ⟨fun q => ?_, fun q3 => ?_⟩⟩⟩)
    · rw [e70] at q
      exact h m1 hf h01 hs (fun _ _ z => z) (fun z => absurd (.inl q) z) (fun _ _ z => .inl z)
    · rw [e70] at q
      exact h m1 hf h01 hs (fun _ _ z => z) (fun z => absurd (.inr q) z) (fun _ _ z => .inl z)
    · have e : m1 82 0 n = 1 := by rcases h01 n hnN with z | z; exact absurd z q; exact z
      exact h m1 hf h01 hs (fun _ _ z => z) (fun _ => e) (fun _ _ z => .inl z)
    · have hg : ¬ (μ 4 0 n = 105 ∨ μ 4 0 n = 114) := by rw [← e70]; intro z; rcases z with z | z; exact q1 z; exact q2 z
      have hnn := hgn hg
      obtain ⟨o1, o2⟩ := ho n hnN hg
      have o48 := cu_p48 (by omega) o2
      have lp : ∀ (k i : Nat) (m : ma_M), i + k = n → (∀ c : Nat, c ≠ 82 → m c = μ c) → (∀ k : Nat, (k : Int) < μ 3 0 10 → m 82 0 k = 0 ∨ m 82 0 k = 1) → (∀ k : Nat, (k : Int) < μ 3 0 10 → m 82 0 k = 1 → cu_need μ k) → (∀ k : Nat, (k : Int) < μ 3 0 10 → m1 82 0 k = 1 → m 82 0 k = 1) → m 82 0 n = 1 → (∀ j : Nat, j < i → (cu_own μ n).testBit j = true → ¬ (μ 4 0 j = 105 ∨ μ 4 0 j = 114) → m 82 0 j = 1) → (∀ k : Nat, (k : Int) < μ 3 0 10 → k ≠ n → m 82 0 k = 1 → m1 82 0 k = 1 ∨ ∀ j : Nat, j < k → (cu_own μ k).testBit j = true → ¬ (μ 4 0 j = 105 ∨ μ 4 0 j = 114) → m 82 0 j = 1) → R 26 [ma_Rf 69 0, ma_I n, ma_I i] [] 0 m := by
        intro k
        induction k with
        | zero =>
          intro i m hi a1 a2 a3 a4 a5 a6 a7
          refine s_LatticefitModel_needs_26 hR ⟨fun _ => h m a1 a2 a3 a4 (fun _ => a5) (fun k hk z => ?_), fun q => by omega⟩
          by_cases e : k = n
          · exact .inr (fun j hj hb hgj => a6 j (by omega) (by rw [← e]; exact hb) hgj)
          · exact a7 k hk e z
        | succ k ihk =>
          intro i m hi a1 a2 a3 a4 a5 a6 a7
          refine s_LatticefitModel_needs_26 hR ⟨fun q => by omega, fun _ => ⟨by omega, by omega, ?_⟩⟩
          rw [a1 78 (by decide), o1, cu_bitq o48 (by omega)]
          by_cases hb : (cu_own μ n).testBit i = true
          · rw [if_pos hb]
            refine ⟨fun q => absurd rfl q, fun _ => ?_⟩
            have hcall := ih i (by omega) (by omega) (d + (n - 1 - i)) m
            rw [show d + (n - 1 - i) + i + 2 = d + n + 1 from by omega] at hcall
            refine hcall _ a1 a2 a3 (fun z => cu_need_step hnn (by omega) hb z) (fun m' b1 b2 b3 b4 b5 b6 => k_LatticefitModel_needs_51 hR ⟨by omega, ?_⟩)
            rw [show ((i : Nat) : Int) + 1 = ((i + 1 : Nat) : Int) from by omega]
            refine ihk (i + 1) m' (by omega) b1 b2 b3 (fun x hx z => b4 x hx (a4 x hx z)) (b4 n hnN a5) (fun j hj hbj hgj => ?_) (fun x hx hxn z => ?_)
            · by_cases e : j = i
              · rw [e]; exact b5 (by rw [← e]; exact hgj)
              · exact b4 j (by omega) (a6 j (by omega) hbj hgj)
            · rcases b6 x hx z with w | w
              · rcases a7 x hx hxn w with w2 | w2
                · exact .inl w2
                · exact .inr (fun j hj hbj hgj => b4 j (by omega) (w2 j hj hbj hgj))
              · exact .inr w
          · rw [if_neg hb]
            refine ⟨fun _ => ⟨by omega, ?_⟩, fun q => absurd q (by decide)⟩
            rw [show ((i : Nat) : Int) + 1 = ((i + 1 : Nat) : Int) from by omega]
            refine ihk (i + 1) m (by omega) a1 a2 a3 a4 a5 (fun j hj hbj hgj => ?_) a7
            by_cases e : j = i
            · rw [e] at hbj; exact absurd hbj hb
            · exact a6 j (by omega) hbj hgj
      refine lp n 0 _ (by omega) (fun c hc => by rw [ma_up_ck hc]; exact hf c hc) (fun x hx => ?_) (fun x hx z => ?_) (fun x hx z => ?_) ma_up_eq (fun j hj => absurd hj (Nat.not_lt_zero j)) (fun x hx hxn z => ?_)
      · by_cases e : x = n
        · rw [e, ma_up_eq]; exact .inr rfl
        · rw [ma_up_ne (by omega)]; exact h01 x hx
      · by_cases e : x = n
        · rw [e]; exact hnn
        · rw [ma_up_ne (by omega)] at z; exact hs x hx z
      · by_cases e : x = n
        · rw [e, ma_up_eq]
        · rw [ma_up_ne (by omega)]; exact z
      · rw [ma_up_ne (by omega)] at z; exact .inl z
/-- the needed gates, as the reference's row has them -/
def cu_row82 (μ m : ma_M) : Prop := ∀ k : Nat, (k : Int) < μ 3 0 10 → (m 82 0 k = 0 ∨ m 82 0 k = 1) ∧ (m 82 0 k = 1 ↔ cu_need μ k)
theorem cu_T_ref {μ : ma_M} (H : rl_c μ) : cu_T (μ 70 0) (μ 71 0) (μ 72 0) (μ 3 0 10).toNat = cu_T (μ 4 0) (μ 5 0) (μ 6 0) (μ 3 0 10).toNat := by
  obtain ⟨N0, N1, _, _, _, _, _, _, _, _, _, _, hn, _, _, _, _, _⟩ := H
  refine cu_T_cg _ (fun k hk => ?_)
  obtain ⟨h1, h2, _, _, h5⟩ := hn k (by omega) (by omega)
  refine ⟨h1, fun hg => ?_⟩
  rw [h1] at hg
  have := h5 (fun z => hg (.inl z)) (fun z => hg (.inr z))
  exact ⟨this.1, fun _ => this.2.2.2.1⟩
theorem cu_wf_of {μ : ma_M} (H : rl_c μ) : cu_wf (μ 4 0) (μ 5 0) (μ 6 0) (μ 3 0 10).toNat := by
  obtain ⟨N0, N1, _, _, _, _, _, _, _, _, _, _, hn, _, _, _, _, _⟩ := H
  intro k hk hg
  obtain ⟨h1, h2, _, _, h5⟩ := hn k (by omega) (by omega)
  have := h5 (fun z => hg (.inl z)) (fun z => hg (.inr z))
  exact ⟨⟨this.2.1, this.2.2.1⟩, fun _ => ⟨this.2.2.2.2.1, this.2.2.2.2.2.1⟩⟩
theorem cu_wf_ref {μ : ma_M} (H : rl_c μ) : cu_wf (μ 70 0) (μ 71 0) (μ 72 0) (μ 3 0 10).toNat := by
  obtain ⟨N0, N1, _, _, _, _, _, _, _, _, _, _, hn, _, _, _, _, _⟩ := H
  intro k hk hg
  obtain ⟨h1, h2, _, _, h5⟩ := hn k (by omega) (by omega)
  rw [h1] at hg
  have := h5 (fun z => hg (.inl z)) (fun z => hg (.inr z))
  rw [this.1, this.2.2.2.1]
  exact ⟨⟨this.2.1, this.2.2.1⟩, fun _ => ⟨this.2.2.2.2.1, this.2.2.2.2.2.1⟩⟩
/-- the good cuts of a circuit -/
theorem cu_T_of {μ : ma_M} (H : rl_c μ) (k : Nat) (hk : (k : Int) < μ 3 0 10) : cu_gd (μ 4 0) (μ 5 0) (μ 6 0) k (cu_T (μ 4 0) (μ 5 0) (μ 6 0) (μ 3 0 10).toNat k) :=
  cu_T_gd _ (by have := H.2.1; omega) (cu_wf_of H) k (by omega)
theorem sp_neededGates {LS d : Nat} {Post : ma_R → ma_M → Prop} {μ : ma_M} (H : rl_c μ)
    (h : ∀ m : ma_M, (∀ c : Nat, c ≠ 78 → c ≠ 79 → c ≠ 80 → c ≠ 82 → m c = μ c) → cu_MM (μ 70 0) (μ 71 0) (μ 72 0) m (μ 3 0 10).toNat → cu_row82 μ m → Post (.inl (some (ma_I (ma_sum (m 82 0) (μ 3 0 10).toNat)))) m) :
    ma_Ox LS (d + 60) mi_LatticefitModel_neededGates [ma_Rf 69 0] μ Post := by
  have HC := H
  obtain ⟨N0, N1, I0, I1, R0, R1, O0, O1, n8, n9, n10, n11, hn, hi, hr, _, hrj, hoo⟩ := HC
  obtain ⟨N, eN⟩ : ∃ N : Nat, μ 3 0 10 = (N : Int) := ⟨(μ 3 0 10).toNat, by omega⟩
  have tN : (μ 3 0 10).toNat = N := by omega
  refine gi_LatticefitModel_neededGates (fun R hR => s_LatticefitModel_neededGates_0 (d := d + 55) hR ?_)
  -- the fourth loop
  have l4 : ∀ m : ma_M, (∀ c : Nat, c ≠ 78 → c ≠ 79 → c ≠ 80 → c ≠ 82 → m c = μ c) → cu_MM (μ 70 0) (μ 71 0) (μ 72 0) m N → cu_row82 μ m → R 95 [ma_Rf 69 0, ma_I 0, ma_I 0] [] 0 m := by
    intro m hf hM hm
    have e69 : m 69 0 8 = μ 3 0 10 := by rw [hf 69 (by decide) (by decide) (by decide) (by decide)]; exact n8
    refine ma_cnt (σ := Unit) (N := μ 3 0 10) (P := fun i _ => R 95 [ma_Rf 69 0, ma_I (ma_sum (m 82 0) i.toNat), ma_I i] [] 0 m) (I := fun _ _ => True) ?_ ?_ 0 () (by omega) (by omega) trivial
    · intro i _ i0 i1 _ ih
      have b := ma_sum_rng (f := m 82 0) (b := 1) i.toNat (fun k a c => by have := (hm k.toNat (by omega)).1; rw [show ((k.toNat : Nat) : Int) = k from by omega] at this; omega)
      have hmi := (hm i.toNat (by omega)).1
      rw [show ((i.toNat : Nat) : Int) = i from by omega] at hmi
      have e : ma_sum (m 82 0) (i + 1).toNat = ma_sum (m 82 0) i.toNat + m 82 0 i := by
        rw [show (i + 1).toNat = i.toNat + 1 from by omega]
        show ma_sum (m 82 0) i.toNat + m 82 0 (i.toNat : Int) = _
        rw [show ((i.toNat : Nat) : Int) = i from by omega]
      have w := ih () trivial
      rw [e] at w
      refine s_LatticefitModel_neededGates_95 hR ⟨fun q => by omega, fun _ => ⟨by omega, fun q => ⟨by omega, by omega, ?_⟩, fun q => ⟨by omega, by omega, ?_⟩⟩⟩
      · rw [q] at w; exact w
      · rw [show m 82 0 i = 1 from by omega] at w; exact w
    · intro _ _
      exact s_LatticefitModel_neededGates_95 hR ⟨fun _ => h m hf (by rw [tN]; exact hM) hm, fun q => by omega⟩
  -- with the cuts
  have l2 : ∀ m0 : ma_M, (∀ c : Nat, c ≠ 78 → c ≠ 79 → c ≠ 80 → c ≠ 82 → m0 c = μ c) → cu_MM (μ 70 0) (μ 71 0) (μ 72 0) m0 N → (∀ k : Nat, (k : Int) < μ 3 0 10 → m0 82 0 k = 0) → R 32 [ma_Rf 69 0, ma_I 0, ma_I 0] [] 0 m0 := by
    intro m0 hf0 hM0 hz0
    have f0 : ∀ c : Nat, c < 78 → m0 c = μ c := fun c hc => hf0 c (by omega) (by omega) (by omega) (by omega)
    have H0 : rl_c m0 := rl_c_congr (fun c hc => f0 c (by revert hc; simp only [List.mem_cons, List.not_mem_nil, or_false]; omega)) (fun f hff => by rw [f0 69 (by omega)]) H
    have nd : ∀ k, cu_need m0 k ↔ cu_need μ k := cu_need_congr (f0 3 (by omega)) (f0 4 (by omega)) (f0 5 (by omega)) (f0 6 (by omega)) (f0 7 (by omega)) (f0 13 (by omega))
    have e3 : m0 3 = μ 3 := f0 3 (by omega)
    have e4 : m0 4 = μ 4 := f0 4 (by omega)
    have ho : ∀ n : Nat, (n : Int) < m0 3 0 10 → ¬ (m0 4 0 n = 105 ∨ m0 4 0 n = 114) → m0 78 0 ((n : Int) * 7) = (cu_own m0 n : Int) ∧ cu_own m0 n < 2 ^ n := by
      intro n a b
      have eo : cu_own m0 n = (cu_T (μ 70 0) (μ 71 0) (μ 72 0) N n).1.2 0 := by
        unfold cu_own; rw [e3, e4, f0 5 (by omega), f0 6 (by omega), ← cu_T_ref H, tN]
      have g := cu_T_of H n (by rw [e3] at a; exact a)
      rw [← cu_T_ref H, tN] at g
      rw [e4] at b
      rw [eo]
      refine ⟨?_, (g.gate b).2.1⟩
      have := (hM0 n (by rw [e3] at a; omega)).1.2 0 g.pos
      rw [show ((n * 7 + 0 : Nat) : Int) = (n : Int) * 7 from by omega] at this
      exact this
    have sn := sp_needs (LS := LS) H0 ho
    -- what is kept in the loops over the roots
    have l3 : ∀ (k j : Nat) (m : ma_M), (j : Int) + k = μ 3 0 10 → (∀ c : Nat, c ≠ 82 → m c = m0 c) → (∀ k : Nat, (k : Int) < m0 3 0 10 → m 82 0 k = 0 ∨ m 82 0 k = 1) → (∀ k : Nat, (k : Int) < m0 3 0 10 → m 82 0 k = 1 → cu_need m0 k) → (∀ k : Nat, (k : Int) < m0 3 0 10 → m 82 0 k = 1 → ∀ j : Nat, j < k → (cu_own m0 k).testBit j = true → ¬ (m0 4 0 j = 105 ∨ m0 4 0 j = 114) → m 82 0 j = 1) → (∀ k : Nat, ¬ (m0 4 0 k = 105 ∨ m0 4 0 k = 114) → ((∃ j : Int, 0 ≤ j ∧ j < m0 3 0 13 ∧ m0 13 0 j = k) ∨ (∃ i : Nat, i < j ∧ m0 4 0 i = 114 ∧ m0 7 0 i = k)) → m 82 0 k = 1) → R 58 [ma_Rf 69 0, ma_I 0, ma_I j] [] 0 m := by
      intro k
      induction k with
      | zero =>
        intro j m hj a1 a2 a3 a4 a5
        have e69 : m 69 0 8 = μ 3 0 10 := by rw [a1 69 (by decide), f0 69 (by omega)]; exact n8
        refine s_LatticefitModel_neededGates_58 hR ⟨fun _ => l4 m (fun c c1 c2 c3 c4 => by rw [a1 c c4, hf0 c c1 c2 c3 c4]) (fun k hk => ?_) (fun k hk => ⟨a2 k (by rw [e3]; exact hk), fun z => (nd k).1 (a3 k (by rw [e3]; exact hk) z), fun z => ?_⟩), fun q => by omega⟩
        · unfold cu_M; rw [a1 78 (by decide), a1 79 (by decide), a1 80 (by decide)]; exact hM0 k hk
        · have := (nd k).2 z (fun k => (k : Int) < m0 3 0 10 ∧ m 82 0 k = 1) (fun k a b => ⟨cu_root_lt H0 a, a5 k b ?_⟩) (fun n k a b c e => ⟨by omega, a4 n a.1 a.2 k b c e⟩)
          · exact this.2
          · rcases a with a | ⟨i, b1, b2, b3, b4⟩
            · exact .inl a
            · exact .inr ⟨i.toNat, by rw [e3] at b2; omega, by rw [show ((i.toNat : Nat) : Int) = i from by omega]; exact ⟨b3, b4⟩⟩
      | succ k ih =>
        intro j m hj a1 a2 a3 a4 a5
        have e69 : m 69 0 8 = μ 3 0 10 := by rw [a1 69 (by decide), f0 69 (by omega)]; exact n8
        obtain ⟨g1, g2, _, g4, g5⟩ := hn j (by omega) (by omega)
        have e70 : m 70 0 j = m0 4 0 j := by rw [a1 70 (by decide), f0 70 (by omega), g1, e4]
        refine s_LatticefitModel_neededGates_58 hR ⟨fun q => by omega, fun _ => ⟨by omega, fun q => ⟨by omega, ?_⟩, fun q => ?_⟩⟩
        · rw [show ((j : Nat) : Int) + 1 = ((j + 1 : Nat) : Int) from by omega]
          refine ih (j + 1) m (by omega) a1 a2 a3 a4 (fun x hx z => a5 x hx ?_)
          rcases z with z | ⟨i, b1, b2, b3⟩
          · exact .inl z
          · refine .inr ⟨i, ?_, b2, b3⟩
            by_cases e : i = j
            · rw [e, ← e70] at b2; exact absurd b2 q
            · omega
        · have q' : μ 4 0 j = 114 := by rw [← e4, ← e70]; exact q
          obtain ⟨f1, f2, f3⟩ := g4 q'
          have e74 : m 74 0 j = m0 7 0 j := by rw [a1 74 (by decide), f0 74 (by omega), f1, f0 7 (by omega)]
          obtain ⟨f, ef⟩ : ∃ f : Nat, m0 7 0 j = (f : Int) := ⟨(m0 7 0 j).toNat, by rw [f0 7 (by omega)]; omega⟩
          have fN : (f : Int) < m0 3 0 10 := by rw [← ef, f0 7 (by omega), e3]; omega
          have hc := sn f fN (d + 57 - f) m
          rw [show d + 57 - f + f + 2 = d + 55 + 4 from by rw [e3] at fN; omega] at hc
          rw [e74, ef]
          refine hc _ a1 a2 a3 (fun z => cu_need_root (.inr ⟨j, by omega, by rw [e3]; omega, by rw [e4]; exact q', ef⟩) z) (fun m' b1 b2 b3 b4 b5 b6 => k_LatticefitModel_neededGates_84 hR ⟨by omega, ?_⟩)
          rw [show ((j : Nat) : Int) + 1 = ((j + 1 : Nat) : Int) from by omega]
          refine ih (j + 1) m' (by omega) b1 b2 b3 (fun x hx z y hy hb hg => ?_) (fun x hx z => ?_)
          · rcases b6 x hx z with w | w
            · exact b4 y (by omega) (a4 x hx w y hy hb hg)
            · exact w y hy hb hg
          · rcases z with z | ⟨i, c1, c2, c3⟩
            · exact b4 x (cu_root_lt H0 (.inl z)) (a5 x hx (.inl z))
            · by_cases e : i = j
              · have ex : x = f := by rw [e, ef] at c3; omega
                rw [ex]; exact b5 (by rw [← ex]; exact hx)
              · exact b4 x (cu_root_lt H0 (.inr ⟨i, by omega, by rw [e3]; omega, c2, c3⟩)) (a5 x hx (.inr ⟨i, by omega, c2, c3⟩))
    have l2 : ∀ (k j : Nat) (m : ma_M), (j : Int) + k = μ 3 0 13 → (∀ c : Nat, c ≠ 82 → m c = m0 c) → (∀ k : Nat, (k : Int) < m0 3 0 10 → m 82 0 k = 0 ∨ m 82 0 k = 1) → (∀ k : Nat, (k : Int) < m0 3 0 10 → m 82 0 k = 1 → cu_need m0 k) → (∀ k : Nat, (k : Int) < m0 3 0 10 → m 82 0 k = 1 → ∀ j : Nat, j < k → (cu_own m0 k).testBit j = true → ¬ (m0 4 0 j = 105 ∨ m0 4 0 j = 114) → m 82 0 j = 1) → (∀ k : Nat, ¬ (m0 4 0 k = 105 ∨ m0 4 0 k = 114) → (∃ i : Nat, i < j ∧ m0 13 0 i = k) → m 82 0 k = 1) → R 32 [ma_Rf 69 0, ma_I 0, ma_I j] [] 0 m := by
      intro k
      induction k with
      | zero =>
        intro j m hj a1 a2 a3 a4 a5
        have e69 : m 69 0 11 = μ 3 0 13 := by rw [a1 69 (by decide), f0 69 (by omega)]; exact n11
        refine s_LatticefitModel_neededGates_32 hR ⟨fun _ => l3 (μ 3 0 10).toNat 0 m (by omega) a1 a2 a3 a4 (fun x hx z => ?_), fun q => by omega⟩
        rcases z with ⟨i, b1, b2, b3⟩ | ⟨i, b1, _⟩
        · exact a5 x hx ⟨i.toNat, by rw [e3] at b2; omega, by rw [show ((i.toNat : Nat) : Int) = i from by omega]; exact b3⟩
        · exact absurd b1 (Nat.not_lt_zero i)
      | succ k ih =>
        intro j m hj a1 a2 a3 a4 a5
        have e69 : m 69 0 11 = μ 3 0 13 := by rw [a1 69 (by decide), f0 69 (by omega)]; exact n11
        obtain ⟨f1, f2, f3⟩ := hoo j (by omega) (by omega)
        have e76 : m 76 0 j = m0 13 0 j := by rw [a1 76 (by decide), f0 76 (by omega), f1, f0 13 (by omega)]
        obtain ⟨f, ef⟩ : ∃ f : Nat, m0 13 0 j = (f : Int) := ⟨(m0 13 0 j).toNat, by rw [f0 13 (by omega)]; omega⟩
        have fN : (f : Int) < m0 3 0 10 := by rw [← ef, f0 13 (by omega), e3]; omega
        have hc := sn f fN (d + 57 - f) m
        rw [show d + 57 - f + f + 2 = d + 55 + 4 from by rw [e3] at fN; omega] at hc
        refine s_LatticefitModel_neededGates_32 hR ⟨fun q => by omega, fun _ => ⟨by omega, ?_⟩⟩
        rw [e76, ef]
        refine hc _ a1 a2 a3 (fun z => cu_need_root (.inl ⟨j, by omega, by rw [e3]; omega, ef⟩) z) (fun m' b1 b2 b3 b4 b5 b6 => k_LatticefitModel_neededGates_47 hR ⟨by omega, ?_⟩)
        rw [show ((j : Nat) : Int) + 1 = ((j + 1 : Nat) : Int) from by omega]
        refine ih (j + 1) m' (by omega) b1 b2 b3 (fun x hx z y hy hb hg => ?_) (fun x hx z => ?_)
        · rcases b6 x hx z with w | w
          · exact b4 y (by omega) (a4 x hx w y hy hb hg)
          · exact w y hy hb hg
        · obtain ⟨i, c1, c2⟩ := z
          by_cases e : i = j
          · have ex : x = f := by rw [e, ef] at c2; omega
            rw [ex]; exact b5 (by rw [← ex]; exact hx)
          · exact b4 x (cu_root_lt H0 (.inl ⟨i, by omega, by rw [e3]; omega, c2⟩)) (a5 x hx ⟨i, by omega, c2⟩)
    have z0 : ∀ k : Nat, (k : Int) < m0 3 0 10 → m0 82 0 k = 0 := fun k hk => hz0 k (by rw [← e3]; exact hk)
    exact l2 (μ 3 0 13).toNat 0 m0 (by omega) (fun _ _ => rfl) (fun k hk => .inl (z0 k hk)) (fun k hk z => by rw [z0 k hk] at z; omega) (fun k hk z => by rw [z0 k hk] at z; omega) (fun _ _ ⟨i, a, _⟩ => absurd a (Nat.not_lt_zero i))
  -- the first loop
  have l1 : ∀ (k j : Nat) (m : ma_M), j + k = N → (∀ c : Nat, c ≠ 78 → c ≠ 79 → c ≠ 80 → c ≠ 82 → m c = μ c) → cu_MM (μ 70 0) (μ 71 0) (μ 72 0) m j → (∀ k : Nat, k < j → m 82 0 k = 0) → R 4 [ma_Rf 69 0, ma_I 0, ma_I j] [] 0 m := by
    intro k
    induction k with
    | zero =>
      intro j m hj hf hM hz
      have e69 : m 69 0 8 = μ 3 0 10 := by rw [hf 69 (by decide) (by decide) (by decide) (by decide)]; exact n8
      refine s_LatticefitModel_neededGates_4 hR ⟨fun _ => l2 m hf ?_ (fun k hk => hz k (by omega)), fun q => by omega⟩
      rw [show N = j from by omega]; exact hM
    | succ k ih =>
      intro j m hj hf hM hz
      have e69 : m 69 0 8 = μ 3 0 10 := by rw [hf 69 (by decide) (by decide) (by decide) (by decide)]; exact n8
      refine s_LatticefitModel_neededGates_4 hR ⟨fun q => by omega, fun _ => ⟨by omega, ?_⟩⟩
      obtain ⟨g1, g2, _, g4, g5⟩ := hn j (by omega) (by omega)
      have fr : ∀ c : Nat, c ≠ 78 → c ≠ 79 → c ≠ 80 → c ≠ 82 → (ma_up m 82 0 j 0) c = μ c := fun c c1 c2 c3 c4 => by rw [ma_up_ck c4]; exact hf c c1 c2 c3 c4
      have wf := cu_wf_ref H
      rw [tN] at wf
      refine sp_findsCuts (d := d + 55) (N := N) (kd := μ 70 0) (fi := μ 71 0) (se := μ 72 0) (by omega) (by rw [ma_up_ck (by decide), e69, eN]) (by omega) wf (fun hg => ?_) (by rw [fr 70 (by decide) (by decide) (by decide) (by decide)]) (by rw [fr 71 (by decide) (by decide) (by decide) (by decide)]) (by rw [fr 72 (by decide) (by decide) (by decide) (by decide)]) (fun x hx => ?_) (fun m' a1 a2 => k_LatticefitModel_neededGates_21 hR ⟨by omega, ?_⟩)
      · rw [g1] at hg
        have := g5 (fun z => hg (.inl z)) (fun z => hg (.inr z))
        rw [this.2.2.2.1]; exact this.2.2.2.2.1
      · unfold cu_M; rw [ma_up_ck (by decide), ma_up_ck (by decide), ma_up_ck (by decide)]; exact hM x hx
      · rw [show ((j : Nat) : Int) + 1 = ((j + 1 : Nat) : Int) from by omega]
        refine ih (j + 1) m' (by omega) (fun c c1 c2 c3 c4 => by rw [a1 c c1 c2 c3, fr c c1 c2 c3 c4]) a2 (fun x hx => ?_)
        rw [a1 82 (by decide) (by decide) (by decide)]
        by_cases e : x = j
        · rw [e, ma_up_eq]
        · rw [ma_up_ne (by omega)]; exact hz x (by omega)
  exact l1 N 0 μ (by omega) (fun _ _ _ _ _ => rfl) (fun k hk => absurd hk (Nat.not_lt_zero k)) (fun k hk => absurd hk (Nat.not_lt_zero k))
