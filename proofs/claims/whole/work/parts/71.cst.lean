/-! the lengths of nets: the reference; cost -/
/-- the reference's nets and sinks -/
def cu_nets (μ m : ma_M) : Prop := ∀ n : Int, 0 ≤ n → n < μ 3 0 10 → ((m 92 0 n = 0 ∨ m 92 0 n = 1) ∧ (m 92 0 n = 1 ↔ ∃ x, rl_pin μ n x)) ∧ ∀ x : Int, 0 ≤ x → x < 49 → (m 93 0 (n * 49 + x) = 0 ∨ m 93 0 (n * 49 + x) = 1) ∧ (m 93 0 (n * 49 + x) = 1 ↔ rl_pin μ n x)
theorem cu_pin_rng {μ : ma_M} (Hc : rl_c μ) (Hp : cu_q μ) {n x : Int} (h : rl_pin μ n x) : 0 ≤ x ∧ x < 49 := by
  rcases h with ⟨b, k, b0, b1, _, _, _, e⟩ | ⟨o, o0, o1, _, e⟩
  · have := Hp.1 b b0 b1
    have := rl_x_rng this.2.1 this.2.2.1
    omega
  · have := Hc.2.2.2.2.2.2.2.1; omega
/-- one more sink -/
theorem cu_sk {P : Int → Int → Prop} {m : ma_M} {N y x : Int} (hx : 0 ≤ x ∧ x < 49)
    (h : ∀ n : Int, 0 ≤ n → n < N → ((m 92 0 n = 0 ∨ m 92 0 n = 1) ∧ (m 92 0 n = 1 ↔ ∃ x, P n x)) ∧ ∀ x : Int, 0 ≤ x → x < 49 → (m 93 0 (n * 49 + x) = 0 ∨ m 93 0 (n * 49 + x) = 1) ∧ (m 93 0 (n * 49 + x) = 1 ↔ P n x)) :
    ∀ n : Int, 0 ≤ n → n < N → (((ma_up (ma_up m 92 0 y 1) 93 0 (y * 49 + x) 1) 92 0 n = 0 ∨ (ma_up (ma_up m 92 0 y 1) 93 0 (y * 49 + x) 1) 92 0 n = 1) ∧ ((ma_up (ma_up m 92 0 y 1) 93 0 (y * 49 + x) 1) 92 0 n = 1 ↔ ∃ z, P n z ∨ (n = y ∧ z = x))) ∧ ∀ z : Int, 0 ≤ z → z < 49 → ((ma_up (ma_up m 92 0 y 1) 93 0 (y * 49 + x) 1) 93 0 (n * 49 + z) = 0 ∨ (ma_up (ma_up m 92 0 y 1) 93 0 (y * 49 + x) 1) 93 0 (n * 49 + z) = 1) ∧ ((ma_up (ma_up m 92 0 y 1) 93 0 (y * 49 + x) 1) 93 0 (n * 49 + z) = 1 ↔ P n z ∨ (n = y ∧ z = x)) := by
  intro n n0 n1
  obtain ⟨⟨a1, a2⟩, a3⟩ := h n n0 n1
  have u92 : (ma_up (ma_up m 92 0 y 1) 93 0 (y * 49 + x) 1) 92 0 n = if n = y then 1 else m 92 0 n := by simp [ma_up_rd]
  rw [u92]
  refine ⟨?_, fun z z0 z1 => ?_⟩
  · by_cases e : n = y
    · rw [if_pos e]; exact ⟨.inr rfl, fun _ => ⟨x, .inr ⟨e, rfl⟩⟩, fun _ => rfl⟩
    · rw [if_neg e]
      exact ⟨a1, a2.trans ⟨fun ⟨z, w⟩ => ⟨z, .inl w⟩, fun ⟨z, w⟩ => by rcases w with w | w; exact ⟨z, w⟩; exact absurd w.1 e⟩⟩
  · obtain ⟨b1, b2⟩ := a3 z z0 z1
    have u93 : (ma_up (ma_up m 92 0 y 1) 93 0 (y * 49 + x) 1) 93 0 (n * 49 + z) = if n * 49 + z = y * 49 + x then 1 else m 93 0 (n * 49 + z) := by simp [ma_up_rd]
    rw [u93]
    by_cases e : n = y ∧ z = x
    · rw [if_pos (by omega)]; exact ⟨.inr rfl, fun _ => .inr e, fun _ => rfl⟩
    · rw [if_neg (by omega)]
      exact ⟨b1, b2.trans ⟨.inl, fun w => by rcases w with w | w; exact w; exact absurd w e⟩⟩
theorem sp_findsNets {LS d : Nat} {Post : ma_R → ma_M → Prop} {μ m0 : ma_M} (hv : ∀ c : Nat, 69 ≤ c → m0 c = μ c) (Hc : rl_c μ) (Hm : rl_m μ) (Hp : rl_p μ)
    (h : ∀ m : ma_M, (∀ c : Nat, c ≠ 92 → c ≠ 93 → m c = m0 c) → cu_nets μ m → Post (.inl none) m) :
    ma_Ox LS (d + 2) mi_LatticefitModel_findsNets [ma_Rf 69 0] m0 Post := by
  obtain ⟨N0, N1, I0, I1, R0, R1, O0, O1, n8, n9, n10, n11, hn, _, _, _, _, hoo⟩ := Hc
  obtain ⟨B0, B1, e25, hm, hb, _⟩ := Hm
  refine gi_LatticefitModel_findsNets (fun R hR => s_LatticefitModel_findsNets_0 hR ?_)
  have rd : ∀ m : ma_M, (∀ c : Nat, c ≠ 92 → c ≠ 93 → m c = m0 c) → m 69 = μ 69 ∧ m 76 = μ 76 ∧ m 85 = μ 85 ∧ m 87 = μ 87 ∧ m 88 = μ 88 := fun m hm => ⟨(hm 69 (by decide) (by decide)).trans (hv 69 (by decide)), (hm 76 (by decide) (by decide)).trans (hv 76 (by decide)), (hm 85 (by decide) (by decide)).trans (hv 85 (by decide)), (hm 87 (by decide) (by decide)).trans (hv 87 (by decide)), (hm 88 (by decide) (by decide)).trans (hv 88 (by decide))⟩
  -- outputs
  have l108 : ∀ m : ma_M, (∀ c : Nat, c ≠ 92 → c ≠ 93 → m c = m0 c) → (∀ n : Int, 0 ≤ n → n < μ 3 0 10 → ((m 92 0 n = 0 ∨ m 92 0 n = 1) ∧ (m 92 0 n = 1 ↔ ∃ x, ∃ b k : Int, 0 ≤ b ∧ b < μ 21 0 7 ∧ 0 ≤ k ∧ k < μ 25 0 b ∧ μ 27 b k = n ∧ x = rl_x (μ 32 0 b))) ∧ ∀ x : Int, 0 ≤ x → x < 49 → (m 93 0 (n * 49 + x) = 0 ∨ m 93 0 (n * 49 + x) = 1) ∧ (m 93 0 (n * 49 + x) = 1 ↔ ∃ b k : Int, 0 ≤ b ∧ b < μ 21 0 7 ∧ 0 ≤ k ∧ k < μ 25 0 b ∧ μ 27 b k = n ∧ x = rl_x (μ 32 0 b))) → R 108 [ma_Rf 69 0, ma_I 0, ma_U] [] 0 m := by
    intro mA hf0 hJ0
    refine ma_cnt (σ := ma_M) (N := μ 3 0 13) (P := fun i m => R 108 [ma_Rf 69 0, ma_I i, ma_U] [] 0 m) (I := fun i m => (∀ c : Nat, c ≠ 92 → c ≠ 93 → m c = m0 c) ∧ (∀ n : Int, 0 ≤ n → n < μ 3 0 10 → ((m 92 0 n = 0 ∨ m 92 0 n = 1) ∧ (m 92 0 n = 1 ↔ ∃ x, ((∃ b k : Int, 0 ≤ b ∧ b < μ 21 0 7 ∧ 0 ≤ k ∧ k < μ 25 0 b ∧ μ 27 b k = n ∧ x = rl_x (μ 32 0 b)) ∨ ∃ o : Int, 0 ≤ o ∧ o < i ∧ μ 13 0 o = n ∧ x = 42 + o))) ∧ ∀ x : Int, 0 ≤ x → x < 49 → (m 93 0 (n * 49 + x) = 0 ∨ m 93 0 (n * 49 + x) = 1) ∧ (m 93 0 (n * 49 + x) = 1 ↔ ((∃ b k : Int, 0 ≤ b ∧ b < μ 21 0 7 ∧ 0 ≤ k ∧ k < μ 25 0 b ∧ μ 27 b k = n ∧ x = rl_x (μ 32 0 b)) ∨ ∃ o : Int, 0 ≤ o ∧ o < i ∧ μ 13 0 o = n ∧ x = 42 + o)))) ?_ ?_ 0 mA (by omega) (by omega) ⟨hf0, fun n n0 n1 => ?_⟩
    · intro i m i0 i1 ⟨hf, hJ⟩ ih
      obtain ⟨e69, e76, e85, e87, e88⟩ := rd m hf
      have ho := hoo i i0 i1
      refine s_LatticefitModel_findsNets_108 hR ⟨fun q => by rw [e69, n11] at q; omega, fun _ => ?_⟩
      rw [e76, ho.1]
      refine ⟨by omega, by omega, by omega, by omega, by omega, by omega, by omega, ih _ ⟨fun c c1 c2 => by rw [ma_up_ck c2, ma_up_ck c1]; exact hf c c1 c2, fun n n0 n1 => ?_⟩⟩
      have key := cu_sk (m := m) (N := μ 3 0 10) (y := μ 13 0 i) (x := 42 + i) (by omega) hJ n n0 n1
      have eq : ∀ z : Int, ((∃ b k : Int, 0 ≤ b ∧ b < μ 21 0 7 ∧ 0 ≤ k ∧ k < μ 25 0 b ∧ μ 27 b k = n ∧ z = rl_x (μ 32 0 b)) ∨ ∃ o : Int, 0 ≤ o ∧ o < i ∧ μ 13 0 o = n ∧ z = 42 + o) ∨ (n = μ 13 0 i ∧ z = 42 + i) ↔ ((∃ b k : Int, 0 ≤ b ∧ b < μ 21 0 7 ∧ 0 ≤ k ∧ k < μ 25 0 b ∧ μ 27 b k = n ∧ z = rl_x (μ 32 0 b)) ∨ ∃ o : Int, 0 ≤ o ∧ o < i + 1 ∧ μ 13 0 o = n ∧ z = 42 + o) := by
        intro z
        refine ⟨fun w => ?_, fun w => ?_⟩
        · rcases w with (w | ⟨o, a, b, c, e⟩) | ⟨c, e⟩
          · exact .inl w
          · exact .inr ⟨o, a, by omega, c, e⟩
          · exact .inr ⟨i, i0, by omega, c.symm, e⟩
        · rcases w with w | ⟨o, a, b, c, e⟩
          · exact .inl (.inl w)
          · by_cases q : o = i
            · rw [q] at c e; exact .inr ⟨c.symm, e⟩
            · exact .inl (.inr ⟨o, a, by omega, c, e⟩)
      exact ⟨⟨key.1.1, key.1.2.trans ⟨fun ⟨z, w⟩ => ⟨z, (eq z).1 w⟩, fun ⟨z, w⟩ => ⟨z, (eq z).2 w⟩⟩⟩, fun z z0 z1 => ⟨(key.2 z z0 z1).1, (key.2 z z0 z1).2.trans (eq z)⟩⟩
    · intro m ⟨hf, hJ⟩
      obtain ⟨e69, e76, e85, e87, e88⟩ := rd m hf
      exact s_LatticefitModel_findsNets_108 hR ⟨fun _ => h m hf hJ, fun q => by rw [e69, n11] at q; omega⟩
    · have := hJ0 n n0 n1
      have eq : ∀ z : Int, (∃ b k : Int, 0 ≤ b ∧ b < μ 21 0 7 ∧ 0 ≤ k ∧ k < μ 25 0 b ∧ μ 27 b k = n ∧ z = rl_x (μ 32 0 b)) ↔ ((∃ b k : Int, 0 ≤ b ∧ b < μ 21 0 7 ∧ 0 ≤ k ∧ k < μ 25 0 b ∧ μ 27 b k = n ∧ z = rl_x (μ 32 0 b)) ∨ ∃ o : Int, 0 ≤ o ∧ o < 0 ∧ μ 13 0 o = n ∧ z = 42 + o) := fun z => ⟨.inl, fun w => by rcases w with w | ⟨o, a, b, _⟩; exact w; omega⟩
      exact ⟨⟨this.1.1, this.1.2.trans ⟨fun ⟨z, w⟩ => ⟨z, (eq z).1 w⟩, fun ⟨z, w⟩ => ⟨z, (eq z).2 w⟩⟩⟩, fun z z0 z1 => ⟨(this.2 z z0 z1).1, (this.2 z z0 z1).2.trans (eq z)⟩⟩
  -- blocks
  have l51 : ∀ m : ma_M, (∀ c : Nat, c ≠ 92 → c ≠ 93 → m c = m0 c) → (∀ n : Int, 0 ≤ n → n < μ 3 0 10 → m 92 0 n = 0 ∧ ∀ x : Int, 0 ≤ x → x < 49 → m 93 0 (n * 49 + x) = 0) → R 51 [ma_Rf 69 0, ma_I 0, ma_U] [] 0 m := by
    intro mA hf0 hJ0
    refine ma_cnt (σ := ma_M) (N := μ 21 0 7) (P := fun i m => R 51 [ma_Rf 69 0, ma_I i, ma_U] [] 0 m) (I := fun i m => (∀ c : Nat, c ≠ 92 → c ≠ 93 → m c = m0 c) ∧ (∀ n : Int, 0 ≤ n → n < μ 3 0 10 → ((m 92 0 n = 0 ∨ m 92 0 n = 1) ∧ (m 92 0 n = 1 ↔ ∃ x, ∃ b k : Int, 0 ≤ b ∧ b < i ∧ 0 ≤ k ∧ k < μ 25 0 b ∧ μ 27 b k = n ∧ x = rl_x (μ 32 0 b))) ∧ ∀ x : Int, 0 ≤ x → x < 49 → (m 93 0 (n * 49 + x) = 0 ∨ m 93 0 (n * 49 + x) = 1) ∧ (m 93 0 (n * 49 + x) = 1 ↔ ∃ b k : Int, 0 ≤ b ∧ b < i ∧ 0 ≤ k ∧ k < μ 25 0 b ∧ μ 27 b k = n ∧ x = rl_x (μ 32 0 b)))) ?_ ?_ 0 mA (by omega) (by omega) ⟨hf0, fun n n0 n1 => ?_⟩
    · intro i m i0 i1 ⟨hf, hJ⟩ ih
      obtain ⟨e69, e76, e85, e87, e88⟩ := rd m hf
      have bi := hb i i0 i1
      unfold rl_b1 at bi
      obtain ⟨_, _, _, _, _, q87, k0, k4, hin, _⟩ := bi
      have pi := Hp.1 i i0 i1
      have xr := rl_x_rng pi.2.1 pi.2.2.1
      refine s_LatticefitModel_findsNets_51 hR ⟨fun q => by rw [e69, e25] at q; omega, fun _ => ?_⟩
      refine ma_cnt (σ := ma_M) (N := μ 25 0 i) (P := fun j m => R 61 [ma_Rf 69 0, ma_I i, ma_I j] [] 0 m) (I := fun j m => (∀ c : Nat, c ≠ 92 → c ≠ 93 → m c = m0 c) ∧ (∀ n : Int, 0 ≤ n → n < μ 3 0 10 → ((m 92 0 n = 0 ∨ m 92 0 n = 1) ∧ (m 92 0 n = 1 ↔ ∃ x, ((∃ b k : Int, 0 ≤ b ∧ b < i ∧ 0 ≤ k ∧ k < μ 25 0 b ∧ μ 27 b k = n ∧ x = rl_x (μ 32 0 b)) ∨ ∃ k : Int, 0 ≤ k ∧ k < j ∧ μ 27 i k = n ∧ x = rl_x (μ 32 0 i)))) ∧ ∀ x : Int, 0 ≤ x → x < 49 → (m 93 0 (n * 49 + x) = 0 ∨ m 93 0 (n * 49 + x) = 1) ∧ (m 93 0 (n * 49 + x) = 1 ↔ ((∃ b k : Int, 0 ≤ b ∧ b < i ∧ 0 ≤ k ∧ k < μ 25 0 b ∧ μ 27 b k = n ∧ x = rl_x (μ 32 0 b)) ∨ ∃ k : Int, 0 ≤ k ∧ k < j ∧ μ 27 i k = n ∧ x = rl_x (μ 32 0 i))))) ?_ ?_ 0 m (by omega) (by omega) ⟨hf, fun n n0 n1 => ?_⟩
      · intro j m j0 j1 ⟨hf, hJ⟩ ih'
        obtain ⟨e69, e76, e85, e87, e88⟩ := rd m hf
        have hj := hin j j0 j1
        refine s_LatticefitModel_findsNets_61 hR ⟨by omega, fun q => by rw [e87, q87] at q; omega, fun _ => ?_⟩
        rw [e85, pi.1, rl_x_t pi.2.1, e88, hj.1]
        refine ⟨by omega, by omega, by omega, by rw [td_nn pi.2.1]; omega, by rw [td_nn pi.2.1]; omega, by omega, by omega, by omega, by omega, by omega, by omega, ih' _ ⟨fun c c1 c2 => by rw [ma_up_ck c2, ma_up_ck c1]; exact hf c c1 c2, fun n n0 n1 => ?_⟩⟩
        have key := cu_sk (m := m) (N := μ 3 0 10) (y := μ 27 i j) (x := rl_x (μ 32 0 i)) (by omega) hJ n n0 n1
        have eq : ∀ z : Int, ((∃ b k : Int, 0 ≤ b ∧ b < i ∧ 0 ≤ k ∧ k < μ 25 0 b ∧ μ 27 b k = n ∧ z = rl_x (μ 32 0 b)) ∨ ∃ k : Int, 0 ≤ k ∧ k < j ∧ μ 27 i k = n ∧ z = rl_x (μ 32 0 i)) ∨ (n = μ 27 i j ∧ z = rl_x (μ 32 0 i)) ↔ ((∃ b k : Int, 0 ≤ b ∧ b < i ∧ 0 ≤ k ∧ k < μ 25 0 b ∧ μ 27 b k = n ∧ z = rl_x (μ 32 0 b)) ∨ ∃ k : Int, 0 ≤ k ∧ k < j + 1 ∧ μ 27 i k = n ∧ z = rl_x (μ 32 0 i)) := by
          intro z
          refine ⟨fun w => ?_, fun w => ?_⟩
          · rcases w with (w | ⟨o, a, b, c, e⟩) | ⟨c, e⟩
            · exact .inl w
            · exact .inr ⟨o, a, by omega, c, e⟩
            · exact .inr ⟨j, j0, by omega, c.symm, e⟩
          · rcases w with w | ⟨o, a, b, c, e⟩
            · exact .inl (.inl w)
            · by_cases q : o = j
              · rw [q] at c; exact .inr ⟨c.symm, e⟩
              · exact .inl (.inr ⟨o, a, by omega, c, e⟩)
        exact ⟨⟨key.1.1, key.1.2.trans ⟨fun ⟨z, w⟩ => ⟨z, (eq z).1 w⟩, fun ⟨z, w⟩ => ⟨z, (eq z).2 w⟩⟩⟩, fun z z0 z1 => ⟨(key.2 z z0 z1).1, (key.2 z z0 z1).2.trans (eq z)⟩⟩
      · intro m ⟨hf, hJ⟩
        obtain ⟨e69, e76, e85, e87, e88⟩ := rd m hf
        refine s_LatticefitModel_findsNets_61 hR ⟨by omega, fun _ => ⟨by omega, ih m ⟨hf, fun n n0 n1 => ?_⟩⟩, fun q => by rw [e87, q87] at q; omega⟩
        have := hJ n n0 n1
        have eq : ∀ z : Int, ((∃ b k : Int, 0 ≤ b ∧ b < i ∧ 0 ≤ k ∧ k < μ 25 0 b ∧ μ 27 b k = n ∧ z = rl_x (μ 32 0 b)) ∨ ∃ k : Int, 0 ≤ k ∧ k < μ 25 0 i ∧ μ 27 i k = n ∧ z = rl_x (μ 32 0 i)) ↔ (∃ b k : Int, 0 ≤ b ∧ b < i + 1 ∧ 0 ≤ k ∧ k < μ 25 0 b ∧ μ 27 b k = n ∧ z = rl_x (μ 32 0 b)) := by
          intro z
          refine ⟨fun w => ?_, fun ⟨b, k, b0, b1, k0, k1, c, e⟩ => ?_⟩
          · rcases w with ⟨b, k, b0, b1, r⟩ | ⟨k, a, b, c, e⟩
            · exact ⟨b, k, b0, by omega, r⟩
            · exact ⟨i, k, i0, by omega, a, b, c, e⟩
          · by_cases q : b = i
            · rw [q] at k1 c e; exact .inr ⟨k, k0, k1, c, e⟩
            · exact .inl ⟨b, k, b0, by omega, k0, k1, c, e⟩
        exact ⟨⟨this.1.1, this.1.2.trans ⟨fun ⟨z, w⟩ => ⟨z, (eq z).1 w⟩, fun ⟨z, w⟩ => ⟨z, (eq z).2 w⟩⟩⟩, fun z z0 z1 => ⟨(this.2 z z0 z1).1, (this.2 z z0 z1).2.trans (eq z)⟩⟩
      · have := hJ n n0 n1
        have eq : ∀ z : Int, (∃ b k : Int, 0 ≤ b ∧ b < i ∧ 0 ≤ k ∧ k < μ 25 0 b ∧ μ 27 b k = n ∧ z = rl_x (μ 32 0 b)) ↔ ((∃ b k : Int, 0 ≤ b ∧ b < i ∧ 0 ≤ k ∧ k < μ 25 0 b ∧ μ 27 b k = n ∧ z = rl_x (μ 32 0 b)) ∨ ∃ k : Int, 0 ≤ k ∧ k < 0 ∧ μ 27 i k = n ∧ z = rl_x (μ 32 0 i)) := fun z => ⟨.inl, fun w => by rcases w with w | ⟨o, a, b, _⟩; exact w; omega⟩
        exact ⟨⟨this.1.1, this.1.2.trans ⟨fun ⟨z, w⟩ => ⟨z, (eq z).1 w⟩, fun ⟨z, w⟩ => ⟨z, (eq z).2 w⟩⟩⟩, fun z z0 z1 => ⟨(this.2 z z0 z1).1, (this.2 z z0 z1).2.trans (eq z)⟩⟩
    · intro m ⟨hf, hJ⟩
      obtain ⟨e69, e76, e85, e87, e88⟩ := rd m hf
      exact s_LatticefitModel_findsNets_51 hR ⟨fun _ => l108 m hf hJ, fun q => by rw [e69, e25] at q; omega⟩
    · have := hJ0 n n0 n1
      exact ⟨⟨.inl this.1, fun z => by omega, fun ⟨z, b, k, a, c, _⟩ => by omega⟩, fun z z0 z1 => ⟨.inl (this.2 z z0 z1), fun w => by have := this.2 z z0 z1; omega, fun ⟨b, k, a, c, _⟩ => by omega⟩⟩
  -- nothing at first
  refine ma_cnt (σ := ma_M) (N := μ 3 0 10) (P := fun i m => R 2 [ma_Rf 69 0, ma_I i, ma_U] [] 0 m) (I := fun i m => (∀ c : Nat, c ≠ 92 → c ≠ 93 → m c = m0 c) ∧ ∀ n : Int, 0 ≤ n → n < i → m 92 0 n = 0 ∧ ∀ x : Int, 0 ≤ x → x < 49 → m 93 0 (n * 49 + x) = 0) ?_ ?_ 0 m0 (by omega) (by omega) ⟨fun _ _ _ => rfl, fun n a b => by omega⟩
  · intro i m i0 i1 ⟨hf, hJ⟩ ih
    obtain ⟨e69, _⟩ := rd m hf
    refine s_LatticefitModel_findsNets_2 hR ⟨fun q => by rw [e69, n8] at q; omega, fun _ => ⟨by omega, ?_⟩⟩
    refine ma_cnt (σ := ma_M) (N := 49) (P := fun j m => R 19 [ma_Rf 69 0, ma_I i, ma_I j] [] 0 m) (I := fun j m => (∀ c : Nat, c ≠ 92 → c ≠ 93 → m c = m0 c) ∧ (∀ n : Int, 0 ≤ n → n < i + 1 → m 92 0 n = 0) ∧ (∀ n : Int, 0 ≤ n → n < i → ∀ x : Int, 0 ≤ x → x < 49 → m 93 0 (n * 49 + x) = 0) ∧ (∀ x : Int, 0 ≤ x → x < j → m 93 0 (i * 49 + x) = 0)) ?_ ?_ 0 _ (by omega) (by omega) ⟨fun c c1 c2 => by rw [ma_up_ck c1]; exact hf c c1 c2, fun n n0 n1 => ?_, fun n n0 n1 x x0 x1 => by rw [ma_up_ck (by decide)]; exact (hJ n n0 n1).2 x x0 x1, fun x a b => by omega⟩
    · intro j m j0 j1 ⟨w1, w2, w3, w4⟩ ih'
      refine s_LatticefitModel_findsNets_19 hR ⟨fun q => by omega, fun _ => ⟨by omega, by omega, by omega, by omega, ih' _ ⟨fun c c1 c2 => by rw [ma_up_ck c2]; exact w1 c c1 c2, fun n n0 n1 => by rw [ma_up_ck (by decide)]; exact w2 n n0 n1, fun n n0 n1 x x0 x1 => by rw [ma_up_ne (by omega)]; exact w3 n n0 n1 x x0 x1, fun x x0 x1 => ?_⟩⟩⟩
      by_cases e : x = j
      · rw [e, ma_up_eq]
      · rw [ma_up_ne (by omega)]; exact w4 x x0 (by omega)
    · intro m ⟨w1, w2, w3, w4⟩
      refine s_LatticefitModel_findsNets_19 hR ⟨fun _ => ⟨by omega, ih m ⟨w1, fun n n0 n1 => ⟨w2 n n0 n1, fun x x0 x1 => ?_⟩⟩⟩, fun q => by omega⟩
      by_cases e : n = i
      · rw [e]; exact w4 x x0 x1
      · exact w3 n n0 (by omega) x x0 x1
    · by_cases e : n = i
      · rw [e, ma_up_eq]
      · rw [ma_up_ne (by omega)]; exact (hJ n n0 (by omega)).1
  · intro m ⟨hf, hJ⟩
    obtain ⟨e69, _⟩ := rd m hf
    exact s_LatticefitModel_findsNets_2 hR ⟨fun _ => l51 m hf hJ, fun q => by rw [e69, n8] at q; omega⟩
/-- the length of a net -/
def cu_len (μ : ma_M) (n L : Int) : Prop := ∃ a b c d : Int, cu_mm (cu_S μ n) cu_col a b ∧ cu_mm (cu_S μ n) cu_rw c d ∧ L = b - a + d - c
theorem cu_len_uniq {μ : ma_M} {n L M : Int} (h : cu_len μ n L) (h' : cu_len μ n M) : L = M := by
  obtain ⟨a, b, c, d, h1, h2, e⟩ := h
  obtain ⟨a', b', c', d', h1', h2', e'⟩ := h'
  have := cu_mm_uniq h1 h1' (fun _ => Iff.rfl)
  have := cu_mm_uniq h2 h2' (fun _ => Iff.rfl)
  omega
theorem cu_len_rng {μ : ma_M} (Hc : rl_c μ) (Hm : rl_m μ) (Hp : cu_q μ) {n L : Int} (n0 : 0 ≤ n) (n1 : n < μ 3 0 10) (h : cu_len μ n L) : 0 ≤ L ∧ L ≤ 12 := by
  obtain ⟨a, b, c, d, ⟨h1, ⟨x, hx, ex⟩, ⟨y, hy, ey⟩⟩, ⟨k1, ⟨z, hz, ez⟩, ⟨w, hw, ew⟩⟩, e⟩ := h
  have r : ∀ x, cu_S μ n x → 0 ≤ x ∧ x < 49 := fun x hx => by
    rcases hx with hx | hx
    · rw [hx]; exact cu_src_rng Hc Hm Hp n0 n1
    · exact cu_pin_rng Hc Hp hx
  have := r x hx
  have := r y hy
  have := r z hz
  have := r w hw
  have := h1 x hx
  have := k1 z hz
  unfold cu_col at *
  unfold cu_rw at *
  omega
/-- the cost -/
def cu_cost (μ : ma_M) (v : Int) : Prop := ∃ f : Int → Int, (∀ n : Int, 0 ≤ n → n < μ 3 0 10 → cu_len μ n (f n)) ∧ v = ma_sum f (μ 3 0 10).toNat
theorem cu_cost_uniq {μ : ma_M} {v w : Int} (N0 : 0 ≤ μ 3 0 10) (h : cu_cost μ v) (h' : cu_cost μ w) : v = w := by
  obtain ⟨f, h1, e1⟩ := h
  obtain ⟨g, h2, e2⟩ := h'
  rw [e1, e2]
  exact ma_sum_cong _ (fun i i0 i1 => cu_len_uniq (h1 i i0 (by omega)) (h2 i i0 (by omega)))
theorem cu_J_cost {μ m : ma_M} (h : cu_J (cu_S μ) m (μ 3 0 10)) : cu_cost μ (ma_sum (fun n => m 36 0 n - m 35 0 n + m 38 0 n - m 37 0 n) (μ 3 0 10).toNat) :=
  ⟨fun n => m 36 0 n - m 35 0 n + m 38 0 n - m 37 0 n, fun n n0 n1 => ⟨_, _, _, _, (h n n0 n1).2.1, (h n n0 n1).2.2, rfl⟩, rfl⟩
theorem cu_cost_rng {μ : ma_M} (Hc : rl_c μ) (Hm : rl_m μ) (Hp : cu_q μ) {v : Int} (h : cu_cost μ v) : 0 ≤ v ∧ v ≤ 576 := by
  obtain ⟨f, h1, e⟩ := h
  have N1 := Hc.2.1
  have := ma_sum_rng (f := f) (b := 12) (μ 3 0 10).toNat (fun n n0 n1 => cu_len_rng Hc Hm Hp n0 (by omega) (h1 n n0 (by omega)))
  omega
