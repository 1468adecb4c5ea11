/-! route, the class: clear, the pins -/
def rt_bs (m : ma_M) (Q : Int → Int → Prop) : Prop := ∀ n : Int, 0 ≤ n → n < 48 → ∃ s : Nat, m 45 0 n = (s : Int) ∧ s < 2 ^ 49 ∧ ∀ x : Nat, x < 49 → (s.testBit x = true ↔ Q n x)
theorem rt_bs_cg {m : ma_M} {Q Q' : Int → Int → Prop} (h : rt_bs m Q) (e : ∀ n x : Int, Q n x ↔ Q' n x) : rt_bs m Q' := fun n n0 n1 => by
  obtain ⟨s, a, b, c⟩ := h n n0 n1
  exact ⟨s, a, b, fun x hx => (c x hx).trans (e n x)⟩
theorem rt_bs_up {m : ma_M} {Q : Int → Int → Prop} {n x : Int} (h : rt_bs m Q) (n0 : 0 ≤ n) (n1 : n < 48) (x0 : 0 ≤ x) (x1 : x < 49) : rt_bs (ma_up m 45 0 n (ma_lor (m 45 0 n) (ma_lshl 1 x))) (fun n' x' => Q n' x' ∨ n' = n ∧ x' = x) := fun k k0 k1 => by
  obtain ⟨s, a, b, c⟩ := h k k0 k1
  by_cases e : k = n
  · have lt : 2 ^ x.toNat < 2 ^ 49 := Nat.pow_lt_pow_right (by omega) (by omega)
    have b' : s < 9223372036854775808 := Nat.lt_of_lt_of_le b (by decide)
    have lt' : 2 ^ x.toNat < 9223372036854775808 := Nat.lt_of_lt_of_le lt (by decide)
    refine ⟨s ||| 2 ^ x.toNat, ?_, Nat.or_lt_two_pow b lt, fun y hy => ?_⟩
    · rw [← e, ma_up_eq, a, ma_lshl_one x0 (by omega), ma_lor_nat s (2 ^ x.toNat) b' lt']
    · rw [Nat.testBit_or, Nat.testBit_two_pow, Bool.or_eq_true, c y hy, decide_eq_true_iff]
      exact or_congr Iff.rfl ⟨fun z => ⟨e, by omega⟩, fun z => by omega⟩
  · refine ⟨s, by rw [ma_up_ne (fun z => e z.2)]; exact a, b, fun y hy => (c y hy).trans ⟨.inl, fun z => ?_⟩⟩
    rcases z with z | z
    · exact z
    · exact absurd z.1 e
theorem rt_bs_pin {m : ma_M} {Q : Int → Int → Prop} (h : rt_bs m Q) {n x : Int} (n0 : 0 ≤ n) (n1 : n < 48) (x0 : 0 ≤ x) (x1 : x < 49) : (¬ ma_land (ma_lshr (m 45 0 n) x) 1 = 0) ↔ Q n x := by
  obtain ⟨s, a, b, c⟩ := h n n0 n1
  obtain ⟨k, rfl⟩ : ∃ k : Nat, x = (k : Int) := ⟨x.toNat, by omega⟩
  have b' : s < 9223372036854775808 := Nat.lt_of_lt_of_le b (by decide)
  have sh : s >>> k < 9223372036854775808 := Nat.lt_of_le_of_lt (by rw [Nat.shiftRight_eq_div_pow]; exact Nat.div_le_self _ _) b'
  have one : ma_land ((s >>> k : Nat) : Int) 1 = ((s >>> k &&& 1 : Nat) : Int) := ma_land_nat (s >>> k) 1 sh (by decide)
  rw [a, ma_lshr_nat s k b' (by omega), one, ← c k (by omega)]
  unfold Nat.testBit
  rw [Nat.and_comm 1, bne_iff_ne]
  omega
theorem sp_clearR {LS d : Nat} {Post : ma_R → ma_M → Prop} {m : ma_M} (h : ∀ m' : ma_M, (∀ c : Nat, c ≠ 42 → c ≠ 44 → c ≠ 45 → c ≠ 46 → m' c = m c) → (∀ n x : Int, 0 ≤ n → n < 48 → 0 ≤ x → x < 49 → m' 42 n x = -1) → (∀ e : Int, 0 ≤ e → e < 84 → m' 44 0 e = 0 ∧ m' 46 0 e = 0) → (∀ n : Int, 0 ≤ n → n < 48 → m' 45 0 n = 0) → Post (.inl none) m') : ma_Ox LS (d + 2) mi_Routes_clear [ma_Rf 40 0] m Post := by
  refine gi_Routes_clear (fun R hR => s_Routes_clear_0 (d := d) hR ?_)
  refine ma_cnt (σ := ma_M) (N := 48) (P := fun n m' => R 2 [ma_Rf 40 0, ma_I n] [] 0 m') (I := fun n m' => (∀ c : Nat, c ≠ 42 → m' c = m c) ∧ ∀ k x : Int, 0 ≤ k → k < n → 0 ≤ x → x < 49 → m' 42 k x = -1) ?_ ?_ 0 m (by omega) (by omega) ⟨fun _ _ => rfl, fun k x a b => by omega⟩
  · intro n m1 n0 n1 ⟨a1, a2⟩ ih
    refine s_Routes_clear_2 hR ⟨fun q => by omega, fun _ => ⟨by omega, sp_fillI (len := 49) rfl rfl (by omega) (fun m2 b1 b2 b3 => k_Routes_clear_15 hR ⟨by omega, ih m2 ⟨fun c hc => by rw [b1 c hc]; exact a1 c hc, fun k x k0 k1 x0 x1 => ?_⟩⟩)⟩⟩
    by_cases e : k = n
    · rw [e]; exact b3 x x0 x1
    · rw [b2 k x e]; exact a2 k x k0 (by omega) x0 x1
  · intro m1 ⟨a1, a2⟩
    refine s_Routes_clear_2 hR ⟨fun _ => sp_fillI (len := 84) rfl rfl (by omega) (fun m2 b1 b2 b3 => k_Routes_clear_29 hR (sp_fillI (len := 84) rfl rfl (by omega) (fun m3 c1 c2 c3 => k_Routes_clear_37 hR (sp_fillL (len := 48) rfl rfl (by omega) (fun m4 d1 d2 d3 => k_Routes_clear_45 hR (h m4 (fun c g1 g2 g3 g4 => ?_) (fun n x n0 n1 x0 x1 => ?_) (fun e e0 e1 => ⟨?_, ?_⟩) (fun n n0 n1 => d3 n n0 n1))))))), fun q => by omega⟩
    · rw [d1 c g3, c1 c g4, b1 c g2]; exact a1 c g1
    · rw [d1 42 (by decide), c1 42 (by decide), b1 42 (by decide)]; exact a2 n x n0 n1 x0 x1
    · rw [d1 44 (by decide), c1 44 (by decide)]; exact b3 e e0 e1
    · rw [d1 46 (by decide)]; exact c3 e e0 e1
theorem sp_putPins {LS d : Nat} {Post : ma_R → ma_M → Prop} {μ m : ma_M} (Hc : rl_c μ) (Hm : rl_m μ) (Hp : rl_p μ) (hv : ∀ c : Nat, c ≠ 2 → c ≠ 42 → c ≠ 44 → c ≠ 45 → c ≠ 46 → m c = μ c) (h45 : ∀ n : Int, 0 ≤ n → n < 48 → m 45 0 n = 0) (h : ∀ m' : ma_M, (∀ c : Nat, c ≠ 43 → c ≠ 45 → m' c = m c) → (∀ n : Int, 0 ≤ n → n < μ 3 0 10 → (μ 4 0 n = 105 ∨ 0 ≤ μ 28 0 n) → m' 43 0 n = rl_src μ n) → rt_bs m' (rl_pin μ) → Post (.inl none) m') : ma_Ox LS (d + 3) mi_Places_putPins [ma_Rf 31 0, ma_Rf 40 0] m Post := by
  have N0 := Hc.1
  have N1 := Hc.2.1
  have O0 := Hc.2.2.2.2.2.2.1
  have O1 := Hc.2.2.2.2.2.2.2.1
  have M70 := Hm.1
  have M71 := Hm.2.1
  have I1 := Hc.2.2.2.1
  obtain ⟨N, hN⟩ : ∃ N : Nat, μ 3 0 10 = (N : Int) := ⟨(μ 3 0 10).toNat, by omega⟩
  obtain ⟨O, hO⟩ : ∃ O : Nat, μ 3 0 13 = (O : Int) := ⟨(μ 3 0 13).toNat, by omega⟩
  obtain ⟨B, hB⟩ : ∃ B : Nat, μ 21 0 7 = (B : Int) := ⟨(μ 21 0 7).toNat, by omega⟩
  refine gi_Places_putPins (fun R hR => s_Places_putPins_0 (d := d) hR ?_)
  let SR : ma_M → Prop := fun m' => ∀ n : Int, 0 ≤ n → n < μ 3 0 10 → (μ 4 0 n = 105 ∨ 0 ≤ μ 28 0 n) → m' 43 0 n = rl_src μ n
  let FR : ma_M → Prop := fun m' => ∀ c : Nat, c ≠ 43 → c ≠ 45 → m' c = m c
  let QB : Int → Int → Int → Int → Prop := fun b i n x => ∃ b' k' : Int, (b' < b ∨ b' = b ∧ k' < i) ∧ 0 ≤ b' ∧ b' < μ 21 0 7 ∧ 0 ≤ k' ∧ k' < μ 25 0 b' ∧ μ 27 b' k' = n ∧ x = rl_x (μ 32 0 b')
  let QO : Int → Int → Int → Prop := fun o n x => (∃ b k : Int, 0 ≤ b ∧ b < μ 21 0 7 ∧ 0 ≤ k ∧ k < μ 25 0 b ∧ μ 27 b k = n ∧ x = rl_x (μ 32 0 b)) ∨ ∃ o' : Int, o' < o ∧ 0 ≤ o' ∧ o' < μ 3 0 13 ∧ μ 13 0 o' = n ∧ x = 42 + o'
  have val : ∀ (m' : ma_M) (c : Nat), FR m' → c ≠ 2 → c ≠ 42 → c ≠ 43 → c ≠ 44 → c ≠ 45 → c ≠ 46 → m' c = μ c := fun m' c f a1 a2 a3 a4 a5 a6 => by rw [f c a3 a5]; exact hv c a1 a2 a4 a5 a6
  have l96 : ∀ (k o : Nat) (m' : ma_M), o + k = O → FR m' → SR m' → rt_bs m' (QO o) → ∀ u : ma_V, R 96 [ma_Rf 31 0, ma_Rf 40 0, ma_I o, u] [] 0 m' := by
    intro k
    induction k with
    | zero =>
      intro o m' ho f s q u
      refine s_Places_putPins_96 hR ⟨fun _ => h m' f s (rt_bs_cg q (fun n x => or_congr Iff.rfl ⟨fun z => ?_, fun z => ?_⟩)), fun z => by rw [val m' 3 f (by decide) (by decide) (by decide) (by decide) (by decide) (by decide)] at z; omega⟩
      · obtain ⟨o', _, a, b, c, e⟩ := z; exact ⟨o', a, b, c, e⟩
      · obtain ⟨o', a, b, c, e⟩ := z; exact ⟨o', by omega, a, b, c, e⟩
    | succ k ih =>
      intro o m' ho f s q u
      have oo := Hc.2.2.2.2.2.2.2.2.2.2.2.2.2.2.2.2.2 o (by omega) (by omega)
      refine s_Places_putPins_96 hR ⟨fun z => by rw [val m' 3 f (by decide) (by decide) (by decide) (by decide) (by decide) (by decide)] at z; omega, fun _ => ?_⟩
      rw [val m' 13 f (by decide) (by decide) (by decide) (by decide) (by decide) (by decide)]
      refine ⟨by omega, by omega, by omega, by omega, ih (o + 1) _ (by omega) (fun c c1 c2 => by rw [ma_up_ck c2]; exact f c c1 c2) (fun n n0 n1 hn => by rw [ma_up_ck (by decide)]; exact s n n0 n1 hn) (rt_bs_cg (rt_bs_up q oo.2.1 (by omega) (by omega) (by omega)) (fun n x => ⟨fun z => ?_, fun z => ?_⟩)) _⟩
      · rcases z with z | z
        · rcases z with z | z
          · exact .inl z
          · obtain ⟨o', a, b⟩ := z; exact .inr ⟨o', by omega, b⟩
        · exact .inr ⟨o, by omega, by omega, by omega, z.1.symm, z.2⟩
      · rcases z with z | z
        · exact .inl (.inl z)
        · obtain ⟨o', a, b, c, e, g⟩ := z
          by_cases w : o' = o
          · rw [w] at e g; exact .inr ⟨e.symm, g⟩
          · exact .inl (.inr ⟨o', by omega, b, c, e, g⟩)
  have l32 : ∀ (k b : Nat) (m' : ma_M), b + k = B → FR m' → SR m' → rt_bs m' (QB b 0) → ∀ u : ma_V, R 32 [ma_Rf 31 0, ma_Rf 40 0, ma_I b, u] [] 0 m' := by
    intro k
    induction k with
    | zero =>
      intro b m' hb f s q u
      refine s_Places_putPins_32 hR ⟨fun _ => l96 O 0 m' (by omega) f s (rt_bs_cg q (fun n x => ⟨fun z => ?_, fun z => ?_⟩)) _, fun z => by rw [val m' 21 f (by decide) (by decide) (by decide) (by decide) (by decide) (by decide)] at z; omega⟩
      · obtain ⟨b', k', _, z⟩ := z; exact .inl ⟨b', k', z⟩
      · rcases z with z | z
        · obtain ⟨b', k', z⟩ := z; exact ⟨b', k', .inl (by omega), z⟩
        · obtain ⟨o', a, b, _⟩ := z; omega
    | succ k ih =>
      intro b m' hb f s q u
      have Bb := Hm.2.2.2.2.1 b (by omega) (by omega)
      have pb := Hp.1 b (by omega) (by omega)
      have c0 := pb.2.1
      have c1 := pb.2.2.1
      have k0 := Bb.2.2.2.2.2.2.1
      have k1 := Bb.2.2.2.2.2.2.2.1
      have xr := rl_x_rng c0 c1
      obtain ⟨K, hK⟩ : ∃ K : Nat, μ 25 0 b = (K : Int) := ⟨(μ 25 0 b).toNat, by omega⟩
      refine s_Places_putPins_32 hR ⟨fun z => by rw [val m' 21 f (by decide) (by decide) (by decide) (by decide) (by decide) (by decide)] at z; omega, fun _ => ?_⟩
      have li : ∀ (j i : Nat) (m' : ma_M), i + j = K → FR m' → SR m' → rt_bs m' (QB b i) → R 45 [ma_Rf 31 0, ma_Rf 40 0, ma_I b, ma_I i] [] 0 m' := by
        intro j
        induction j with
        | zero =>
          intro i m' hi f s q
          refine s_Places_putPins_45 hR ⟨by omega, ?_⟩
          rw [val m' 25 f (by decide) (by decide) (by decide) (by decide) (by decide) (by decide), hK]
          refine ⟨fun _ => ⟨by omega, ih (b + 1) m' (by omega) f s (rt_bs_cg q (fun n x => ⟨fun z => ?_, fun z => ?_⟩)) _⟩, fun z => by omega⟩
          · obtain ⟨b', k', a, z⟩ := z; exact ⟨b', k', .inl (by omega), z⟩
          · obtain ⟨b', k', a, z⟩ := z
            refine ⟨b', k', ?_, z⟩
            by_cases w : b' = b
            · have := z.2.2.2.1; rw [w] at this; exact .inr ⟨w, by omega⟩
            · exact .inl (by omega)
        | succ j ihj =>
          intro i m' hi f s q
          have ti := Bb.2.2.2.2.2.2.2.2.1 i (by omega) (by omega)
          refine s_Places_putPins_45 hR ⟨by omega, ?_⟩
          rw [val m' 25 f (by decide) (by decide) (by decide) (by decide) (by decide) (by decide), val m' 32 f (by decide) (by decide) (by decide) (by decide) (by decide) (by decide), val m' 27 f (by decide) (by decide) (by decide) (by decide) (by decide) (by decide), rl_x_t c0, td_nn c0, hK]
          refine ⟨fun z => by omega, fun _ => ⟨by omega, by omega, by omega, by omega, by omega, by omega, ihj (i + 1) _ (by omega) (fun c c1 c2 => by rw [ma_up_ck c2]; exact f c c1 c2) (fun n n0 n1 hn => by rw [ma_up_ck (by decide)]; exact s n n0 n1 hn) (rt_bs_cg (rt_bs_up q ti.2.1 (by omega) xr.1 (by omega)) (fun n x => ⟨fun z => ?_, fun z => ?_⟩))⟩⟩
          · rcases z with z | z
            · obtain ⟨b', k', a, z⟩ := z; exact ⟨b', k', by omega, z⟩
            · exact ⟨b, i, .inr ⟨rfl, by omega⟩, by omega, by omega, by omega, by omega, z.1.symm, z.2⟩
          · obtain ⟨b', k', a, z⟩ := z
            by_cases w : b' = b ∧ k' = i
            · rw [w.1, w.2] at z; exact .inr ⟨z.2.2.2.2.1.symm, z.2.2.2.2.2⟩
            · exact .inl ⟨b', k', by omega, z⟩
      exact li K 0 m' (by omega) f s q
  have l2 : ∀ (k n : Nat) (m' : ma_M), n + k = N → FR m' → (∀ i : Int, 0 ≤ i → i < n → (μ 4 0 i = 105 ∨ 0 ≤ μ 28 0 i) → m' 43 0 i = rl_src μ i) → (∀ n : Int, 0 ≤ n → n < 48 → m' 45 0 n = 0) → ∀ u : ma_V, R 2 [ma_Rf 31 0, ma_Rf 40 0, ma_I n, u] [] 0 m' := by
    intro k
    induction k with
    | zero =>
      intro n m' hn f s z45 u
      refine s_Places_putPins_2 hR ⟨fun _ => l32 B 0 m' (by omega) f (fun i i0 i1 => s i i0 (by omega)) (fun i i0 i1 => ⟨0, z45 i i0 i1, by decide, fun x _ => ⟨fun z => ?_, fun z => ?_⟩⟩) _, fun z => by rw [val m' 3 f (by decide) (by decide) (by decide) (by decide) (by decide) (by decide)] at z; omega⟩
      · rw [Nat.zero_testBit] at z; exact absurd z (by decide)
      · obtain ⟨b', k', a, b, c, e, _⟩ := z; omega
    | succ k ih =>
      intro n m' hn f s z45 u
      have mm := Hm.2.2.2.1 n (by omega) (by omega)
      have nn := Hc.2.2.2.2.2.2.2.2.2.2.2.2.1 n (by omega) (by omega)
      have nx : ∀ v : Int, ((μ 4 0 n = 105 ∨ 0 ≤ μ 28 0 n) → v = rl_src μ n) → R 2 [ma_Rf 31 0, ma_Rf 40 0, ma_I ((n : Int) + 1), ma_U] [] 0 (ma_up m' 43 0 n v) := fun v hv => ih (n + 1) _ (by omega) (fun c c1 c2 => by rw [ma_up_ck c1]; exact f c c1 c2) (fun i i0 i1 hi => by
        by_cases e : i = n
        · rw [e] at hi ⊢; rw [ma_up_eq]; exact hv hi
        · rw [ma_up_ne (fun z => e z.2)]; exact s i i0 (by omega) hi) (fun i i0 i1 => by rw [ma_up_ck (by decide)]; exact z45 i i0 i1) _
      refine s_Places_putPins_2 hR ⟨fun z => by rw [val m' 3 f (by decide) (by decide) (by decide) (by decide) (by decide) (by decide)] at z; omega, fun _ => ⟨by omega, ?_⟩⟩
      rw [val m' 4 f (by decide) (by decide) (by decide) (by decide) (by decide) (by decide), val m' 28 f (by decide) (by decide) (by decide) (by decide) (by decide) (by decide), val m' 32 f (by decide) (by decide) (by decide) (by decide) (by decide) (by decide), val m' 10 f (by decide) (by decide) (by decide) (by decide) (by decide) (by decide)]
      refine ⟨fun q => ⟨fun g => ?_, fun g => ?_⟩, fun q => ⟨by omega, nx _ (fun _ => by unfold rl_src; rw [if_pos q])⟩⟩
      · have b1 := mm.2.2.2.2.2.2.1
        have pb := Hp.1 _ g b1
        have c0 := pb.2.1
        have c1 := pb.2.2.1
        have xr := rl_x_rng c0 c1
        rw [rl_x_t c0, td_nn c0]
        exact ⟨by omega, by omega, by omega, by omega, by omega, nx _ (fun _ => by unfold rl_src; rw [if_neg q])⟩
      · exact ⟨by decide, by decide, by omega, nx _ (fun z => by rcases z with z | z; exact absurd z q; omega)⟩
  exact l2 N 0 m (by omega) (fun _ _ _ => rfl) (fun i a b => by omega) h45 _

