/-! excess -/
def cu_mk (P : Nat → Prop) (w : Nat) : Prop := w < 8 ∧ ∀ k : Nat, k < 3 → (w.testBit k = true ↔ P k)
theorem cu_mk_uniq {P Q : Nat → Prop} {w v : Nat} (h : cu_mk P w) (h' : cu_mk Q v) (e : ∀ k, k < 3 → (P k ↔ Q k)) : w = v := by
  apply Nat.eq_of_testBit_eq; intro i
  by_cases hi : i < 3
  · have a := h.2 i hi
    have b := h'.2 i hi
    have c := e i hi
    cases x : w.testBit i <;> cases y : v.testBit i <;> simp_all
  · rw [Nat.testBit_lt_two_pow (Nat.lt_of_lt_of_le h.1 (Nat.pow_le_pow_right (n := 2) (by omega) (show 3 ≤ i by omega))), Nat.testBit_lt_two_pow (Nat.lt_of_lt_of_le h'.1 (Nat.pow_le_pow_right (n := 2) (by omega) (show 3 ≤ i by omega)))]
theorem cu_mk_congr {P Q : Nat → Prop} {w : Nat} (h : cu_mk P w) (e : ∀ k, k < 3 → (P k ↔ Q k)) : cu_mk Q w := ⟨h.1, fun k hk => (h.2 k hk).trans (e k hk)⟩
theorem cu_mk_add {P Q : Nat → Prop} {w c : Nat} (h : cu_mk P w) (hc : c < 3) (e : ∀ k, k < 3 → (Q k ↔ P k ∨ k = c)) : cu_mk Q (w ||| 2 ^ c) := by
  refine ⟨Nat.or_lt_two_pow (n := 3) h.1 (Nat.pow_lt_pow_right (by omega) hc), fun k hk => ?_⟩
  rw [Nat.testBit_or, Nat.testBit_two_pow, e k hk]
  have a := h.2 k hk
  by_cases q : c = k
  · subst q; simp
  · have : decide (c = k) = false := decide_eq_false q
    rw [this, Bool.or_false, a]
    exact ⟨.inl, fun z => by rcases z with z | z; exact z; exact absurd z.symm q⟩
theorem cu_or_bit {w c : Nat} (hw : w < 8) (hc : c < 3) : ma_or (w : Int) (ma_shl 1 c) = ((w ||| 2 ^ c : Nat) : Int) := by
  rw [ma_shl_one (by omega) (by omega)]
  exact ma_or_nat w (2 ^ c) (by omega) (by have : (2 : Nat) ^ c < 2 ^ 3 := Nat.pow_lt_pow_right (by omega) hc; omega)
theorem cu_ibc {LS d : Nat} {Post : ma_R → ma_M → Prop} {μ : ma_M} {w : Nat} (hw : w < 8) (h : Post (.inl (some (ma_I ((cu_cnt w 3 : Nat) : Int)))) μ) : ma_Ox LS (d + 1) mi_Integer_bitCount [ma_I (w : Int)] μ Post := by
  have : w = 0 ∨ w = 1 ∨ w = 2 ∨ w = 3 ∨ w = 4 ∨ w = 5 ∨ w = 6 ∨ w = 7 := by omega
  have key : ∀ x : Int, x = ((cu_cnt w 3 : Nat) : Int) → Post (.inl (some (ma_I x))) μ := fun x hx => by rw [hx]; exact h
  clear h hw
  rcases this with rfl | rfl | rfl | rfl | rfl | rfl | rfl | rfl
  all_goals
    refine w_Integer_bitCount ?_
    repeat' (first | with_reducible refine And.intro ?_ ?_)
    all_goals first | decide | (refine key _ ?_; decide)
def cu_e (w : Nat) : Int := if 0 < ((cu_cnt w 3 : Nat) : Int) - 2 then ((cu_cnt w 3 : Nat) : Int) - 2 else 0
theorem cu_e_rng (w : Nat) : 0 ≤ cu_e w ∧ cu_e w ≤ 1 := by have := cu_cnt_le w 3; unfold cu_e; split <;> omega
/-- a region has a register with a clock -/
def cu_rg (μ : ma_M) (r k : Nat) : Prop := ∃ i : Int, 0 ≤ i ∧ i < μ 3 0 10 ∧ μ 4 0 i = 114 ∧ μ 9 0 i = k ∧ μ 32 0 (μ 28 0 i) / 12 = r
def cu_ex (μ : ma_M) (v : Int) : Prop := ∃ w : Nat → Nat, (∀ r : Nat, r < 3 → cu_mk (cu_rg μ r) (w r)) ∧ v = cu_e (w 0) + cu_e (w 1) + cu_e (w 2)
theorem cu_ex_uniq {μ : ma_M} {v v' : Int} (h : cu_ex μ v) (h' : cu_ex μ v') : v = v' := by
  obtain ⟨w, h1, e⟩ := h
  obtain ⟨w', h1', e'⟩ := h'
  rw [e, e', cu_mk_uniq (h1 0 (by omega)) (h1' 0 (by omega)) (fun _ _ => Iff.rfl), cu_mk_uniq (h1 1 (by omega)) (h1' 1 (by omega)) (fun _ _ => Iff.rfl), cu_mk_uniq (h1 2 (by omega)) (h1' 2 (by omega)) (fun _ _ => Iff.rfl)]
theorem sp_clockExcess {LS d : Nat} {Post : ma_R → ma_M → Prop} {μ : ma_M} (Hc : rl_c μ) (Hm : rl_m μ) (Hp : cu_q μ)
    (h : ∀ (v : Int) (m : ma_M), (∀ c : Nat, c ≠ 39 → m c = μ c) → cu_ex μ v → Post (.inl (some (ma_I v))) m) :
    ma_Ox LS (d + 2) mi_Places_clockExcess [ma_Rf 31 0] μ Post := by
  obtain ⟨N0, N1, I0, I1, R0, R1, O0, O1, n8, n9, n10, n11, hn, _, hr, _, hrj, hoo⟩ := Hc
  obtain ⟨B0, B1, e25, hm, hb, _⟩ := Hm
  refine gi_Places_clockExcess (fun R hR => s_Places_clockExcess_0 hR (sp_fillI (len := 3) rfl rfl (by omega) (fun m1 a1 a2 a3 => k_Places_clockExcess_5 hR ?_)))
  have fin : ∀ (m : ma_M) (w : Nat → Nat), (∀ c : Nat, c ≠ 39 → m c = μ c) → (∀ r : Nat, r < 3 → m 39 0 r = (w r : Int) ∧ cu_mk (cu_rg μ r) (w r)) → R 68 [ma_Rf 31 0, ma_I 0, ma_I 0] [] 0 m := by
    intro m w hf hw
    have st : ∀ (r : Nat) (v : Int), r < 3 → 0 ≤ v → v ≤ r → R 68 [ma_Rf 31 0, ma_I (v + cu_e (w r)), ma_I ((r : Int) + 1)] [] 0 m → R 68 [ma_Rf 31 0, ma_I v, ma_I r] [] 0 m := by
      intro r v hr v0 v1 nx
      obtain ⟨w1, w2⟩ := hw r hr
      have ce := cu_e_rng (w r)
      have cl := cu_cnt_le (w r) 3
      refine s_Places_clockExcess_68 hR ⟨fun q => by omega, fun _ => ⟨by omega, ?_⟩⟩
      rw [w1]
      refine cu_ibc w2.1 (k_Places_clockExcess_85 hR ?_)
      have ee : (if (0 : Int) < ((cu_cnt (w r) 3 : Nat) : Int) - 2 then ((cu_cnt (w r) 3 : Nat) : Int) - 2 else 0) = cu_e (w r) := rfl
      rw [ee]
      exact ⟨by omega, by omega, by omega, nx⟩
    have c0 := cu_e_rng (w 0)
    have c1 := cu_e_rng (w 1)
    refine st 0 0 (by omega) (by omega) (by omega) (st 1 _ (by omega) (by omega) (by omega) (st 2 _ (by omega) (by omega) (by omega) ?_))
    refine s_Places_clockExcess_68 hR ⟨fun _ => h _ m hf ⟨w, fun r hr => (hw r hr).2, by omega⟩, fun q => by omega⟩
  have lp : ∀ (k i : Nat) (m : ma_M) (w : Nat → Nat) (u2 : ma_V), (i : Int) + k = μ 3 0 12 → (∀ c : Nat, c ≠ 39 → m c = μ c) → (∀ r : Nat, r < 3 → m 39 0 r = (w r : Int) ∧ cu_mk (fun k => ∃ j : Int, 0 ≤ j ∧ j < i ∧ μ 9 0 (μ 12 0 j) = k ∧ μ 32 0 (μ 28 0 (μ 12 0 j)) / 12 = r) (w r)) → R 10 [ma_Rf 31 0, ma_I i, u2] [] 0 m := by
    intro k
    induction k with
    | zero =>
      intro i m w u2 hi hf hw
      have e3 : m 3 = μ 3 := hf 3 (by decide)
      refine s_Places_clockExcess_10 hR ⟨fun _ => fin m w hf (fun r hr' => ⟨(hw r hr').1, cu_mk_congr (hw r hr').2 (fun k _ => ⟨fun ⟨j, j0, j1, x, y⟩ => ?_, fun ⟨n, n0, n1, n2, x, y⟩ => ?_⟩)⟩), fun q => by rw [e3] at q; omega⟩
      · have := hr j j0 (by omega); exact ⟨μ 12 0 j, this.1, this.2.1, this.2.2, x, y⟩
      · obtain ⟨j, j0, j1, ej⟩ := hrj n n0 n1 n2
        exact ⟨j, j0, by omega, by rw [ej]; exact x, by rw [ej]; exact y⟩
    | succ k ih =>
      intro i m w u2 hi hf hw
      have e3 : m 3 = μ 3 := hf 3 (by decide)
      have e12 : m 12 = μ 12 := hf 12 (by decide)
      have e28 : m 28 = μ 28 := hf 28 (by decide)
      have e32 : m 32 = μ 32 := hf 32 (by decide)
      have e9 : m 9 = μ 9 := hf 9 (by decide)
      obtain ⟨t1, t2, t3⟩ := hr i (by omega) (by omega)
      have mm := hm (μ 12 0 i) t1 t2
      have b0 : 0 ≤ μ 28 0 (μ 12 0 i) := mm.2.2.2.2.2.2.2.1.2 (.inl t3)
      have pp := Hp.1 (μ 28 0 (μ 12 0 i)) b0 mm.2.2.2.2.2.2.1
      have cl := (hn (μ 12 0 i) t1 t2).2.2.2.1 t3
      refine s_Places_clockExcess_10 hR ⟨fun q => by rw [e3] at q; omega, fun _ => ?_⟩
      rw [e12, e28, e32, e9]
      have d12 : Int.tdiv (μ 32 0 (μ 28 0 (μ 12 0 i))) 12 = μ 32 0 (μ 28 0 (μ 12 0 i)) / 12 := td_nn pp.2.1
      rw [d12]
      refine ⟨by omega, by omega, fun _ => ⟨by omega, by omega, by omega, by omega, ?_⟩, fun q => by omega⟩
      obtain ⟨r0, er⟩ : ∃ r0 : Nat, μ 32 0 (μ 28 0 (μ 12 0 i)) / 12 = (r0 : Int) := ⟨(μ 32 0 (μ 28 0 (μ 12 0 i)) / 12).toNat, by omega⟩
      obtain ⟨c0, ec⟩ : ∃ c0 : Nat, μ 9 0 (μ 12 0 i) = (c0 : Int) := ⟨(μ 9 0 (μ 12 0 i)).toNat, by omega⟩
      have r3 : r0 < 3 := by omega
      obtain ⟨w1, w2⟩ := hw r0 r3
      rw [er, ec, w1, cu_or_bit w2.1 (by omega), show ((i : Nat) : Int) + 1 = ((i + 1 : Nat) : Int) from by omega]
      refine ih (i + 1) _ (fun r => if r = r0 then w r0 ||| 2 ^ c0 else w r) _ (by omega) (fun c hc => by rw [ma_up_ck hc]; exact hf c hc) (fun r hr' => ?_)
      by_cases q : r = r0
      · subst q
        show _ = ((if r = r then w r ||| 2 ^ c0 else w r : Nat) : Int) ∧ cu_mk _ (if r = r then w r ||| 2 ^ c0 else w r)
        rw [if_pos rfl, ma_up_eq]
        refine ⟨rfl, cu_mk_add w2 (by omega) (fun k hk => ⟨fun ⟨j, j0, j1, x, y⟩ => ?_, fun z => ?_⟩)⟩
        · by_cases e : j = i
          · rw [e, ec] at x; exact .inr (by omega)
          · exact .inl ⟨j, j0, by omega, x, y⟩
        · rcases z with ⟨j, j0, j1, x, y⟩ | z
          · exact ⟨j, j0, by omega, x, y⟩
          · exact ⟨i, by omega, by omega, by rw [ec, z], er⟩
      · show _ = ((if r = r0 then w r0 ||| 2 ^ c0 else w r : Nat) : Int) ∧ cu_mk _ (if r = r0 then w r0 ||| 2 ^ c0 else w r)
        rw [if_neg q, ma_up_ne (by omega)]
        refine ⟨(hw r hr').1, cu_mk_congr (hw r hr').2 (fun k _ => ⟨fun ⟨j, j0, j1, x, y⟩ => ⟨j, j0, by omega, x, y⟩, fun ⟨j, j0, j1, x, y⟩ => ⟨j, j0, ?_, x, y⟩⟩)⟩
        by_cases e : j = i
        · rw [e, er] at y; omega
        · omega
  refine lp (μ 3 0 12).toNat 0 m1 (fun _ => 0) _ (by omega) (fun c hc => a1 c hc) (fun r hr' => ⟨a3 r (by omega) (by omega), ⟨by omega, fun k _ => ?_⟩⟩)
  rw [Nat.zero_testBit]
  exact ⟨fun z => absurd z (by decide), fun ⟨j, j0, j1, _⟩ => by omega⟩
theorem cu_ex_congr {μ μ' : ma_M} {v : Int} (g : ∀ c ∈ ([3, 4, 9, 28, 32] : List Nat), μ' c = μ c) (H : cu_ex μ v) : cu_ex μ' v := by
  have e3 := g 3 (by decide)
  have e4 := g 4 (by decide)
  have e9 := g 9 (by decide)
  have e28 := g 28 (by decide)
  have e32 := g 32 (by decide)
  unfold cu_ex cu_rg at H ⊢
  simp only [e3, e4, e9, e28, e32]
  exact H
theorem cu_ex_rng {μ : ma_M} {v : Int} (h : cu_ex μ v) : 0 ≤ v ∧ v ≤ 3 := by
  obtain ⟨w, _, e⟩ := h
  have := cu_e_rng (w 0)
  have := cu_e_rng (w 1)
  have := cu_e_rng (w 2)
  omega

