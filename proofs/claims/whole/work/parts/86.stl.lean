/-! the chip, the reference -/
def ch_in (m : ma_M) (w : Int → Int → Int) (g r : Int → Int) : Prop := ch_ok m w ∧ (∀ j : Int, 0 ≤ j → j < 6 → m 105 0 j = g j ∧ (g j = 0 ∨ g j = 1) ∧ (m 69 0 9 ≤ j → g j = 0)) ∧ (∀ c : Int, 0 ≤ c → c < 36 → m 104 0 c = r c ∧ (r c = 0 ∨ r c = 1)) ∧ 0 ≤ m 69 0 9 ∧ m 69 0 9 ≤ 6
theorem ch_in_cg {m m' : ma_M} {w : Int → Int → Int} {g r : Int → Int} (h : ∀ c : Nat, c = 102 ∨ c = 104 ∨ c = 105 ∨ c = 109 → m' c = m c) (h9 : m' 69 0 9 = m 69 0 9) (H : ch_in m w g r) : ch_in m' w g r := by
  unfold ch_in ch_ok at H ⊢
  rw [h 102 (by decide), h 104 (by decide), h 105 (by decide), h 109 (by decide), h9]
  exact H
theorem ch_in_of {μ : ma_M} (H : Rel μ) (K : rl_k μ) : ch_in μ (μ 60) (μ 61 0) (μ 62 0) := by
  obtain ⟨Hc, Hs, Hz, Hu, Hm, Hr, Hf, Hk⟩ := id H
  have n9 := Hc.2.2.2.2.2.2.2.2.2.1
  refine ⟨⟨Hz.2.2.2.2.2.1, K.1⟩, fun j j0 j1 => ?_, K.2.2.1, by have := Hc.2.2.1; omega, by have := Hc.2.2.2.1; omega⟩
  have := K.2.1 j j0 j1
  exact ⟨this.1, this.2.1, fun q => this.2.2 (by omega)⟩
def ch_kk (K : Nat) : Prop := K = 107 ∨ K = 108
theorem ch_kin {LS K : Nat} (hk : ch_kk K) {i : Int} (i0 : 0 ≤ i) (i1 : i < 36) : ma_in LS K i := by
  rcases hk with rfl | rfl
  · exact ⟨i0, i1⟩
  · exact ⟨i0, i1⟩
theorem ch_kck {K : Nat} (hk : ch_kk K) : (ma_ck K).1 = 2 := by rcases hk with rfl | rfl <;> rfl
theorem sp_valueOf {LS d : Nat} {Post : ma_R → ma_M → Prop} {m : ma_M} {w : Int → Int → Int} {g r t : Int → Int} (hi : ch_in m w g r) {K : Nat} (hk : ch_kk K) (h46 : m 69 0 46 = K) (ht : ∀ c : Int, 0 ≤ c → c < 36 → m K 0 c = t c ∧ (t c = 0 ∨ t c = 1)) {c : Int}
    (h : Post (.inl (some (ma_I (ch_val g r t (ch_end w c))))) m) : ma_Ox LS (d + 3) mi_LatticefitModel_valueOf [ma_Rf 69 0, ma_I c] m Post := by
  obtain ⟨ho, hg, hr, n0, n1⟩ := hi
  refine gi_LatticefitModel_valueOf (fun R hR => s_LatticefitModel_valueOf_0 (d := d) hR (sp_behind (d := d) ho (k_LatticefitModel_valueOf_2 hR ?_)))
  rw [h46, Int.toNat_natCast]
  generalize ch_end w c = a at h ⊢
  unfold ch_val at h
  have w3 : ¬ (200 ≤ a ∧ a < 272) → (-2147483648 ≤ (299 + (m 69 0 9)) ∧ (299 + (m 69 0 9)) < 2147483648) ∧ ((a < 300 → Post (.inl (some (ma_I 0))) m) ∧ (300 ≤ a → (((299 + (m 69 0 9)) < a → Post (.inl (some (ma_I 0))) m) ∧ (a ≤ (299 + (m 69 0 9)) → (-2147483648 ≤ (a - 300) ∧ (a - 300) < 2147483648) ∧ (0 ≤ (a - 300) ∧ (a - 300) < 6) ∧ (((m 105 0 (a - 300)) = 0 → Post (.inl (some (ma_I 0))) m) ∧ (¬ (m 105 0 (a - 300)) = 0 → Post (.inl (some (ma_I 1))) m)))))) := by
    intro hn
    rw [if_neg hn] at h
    refine ⟨by omega, fun a1 => ?_, fun a1 => ⟨fun a2 => ?_, fun a2 => ?_⟩⟩
    · rw [if_neg (by omega)] at h; exact h
    · by_cases p : 300 ≤ a ∧ a < 306
      · rw [if_pos p, (hg (a - 300) (by omega) (by omega)).2.2 (by omega)] at h; exact h
      · rw [if_neg p] at h; exact h
    · rw [if_pos (by omega)] at h
      have G := hg (a - 300) (by omega) (by omega)
      rw [G.1]
      refine ⟨by omega, by omega, fun z => ?_, fun z => ?_⟩
      · rw [z] at h; exact h
      · rw [show g (a - 300) = 1 from by rcases G.2.1 with y | y; exact absurd y z; exact y] at h; exact h
  refine ⟨fun a1 => w3 (by omega), fun a1 => ⟨fun a2 => w3 (by omega), fun a2 => ?_⟩⟩
  rw [if_neg (by omega), if_pos (by omega)] at h
  rw [td_nn (a := a - 200) (by omega), tm_nn (a := a) (by omega)]
  have R := hr ((a - 200) / 2) (by omega) (by omega)
  have T := ht ((a - 200) / 2) (by omega) (by omega)
  refine ⟨fun p => ?_, fun p => ?_⟩
  · rw [if_neg p] at h
    rw [R.1]
    exact ⟨by omega, by omega, by omega, R.2, h⟩
  · rw [if_pos p] at h
    rw [T.1]
    exact ⟨by omega, by omega, ch_kin hk (by omega) (by omega), ch_kck hk, T.2, h⟩
theorem ch_shl0 {j : Nat} (hj : j < 4) : ma_shl 0 (j : Int) = 0 := by
  have h : ∀ n : Fin 4, ma_shl 0 ((n.1 : Nat) : Int) = 0 := by decide
  exact h ⟨j, hj⟩
/-- after the settling: the cells 69 107 108 alone are others, and of 69 only the two names -/
def ch_st (m0 m : ma_M) : Prop := (∀ c : Nat, c ≠ 69 → c ≠ 107 → c ≠ 108 → m c = m0 c) ∧ (∀ f : Int, f ≠ 46 → f ≠ 47 → m 69 0 f = m0 69 0 f)
theorem sp_settles {LS d : Nat} {Post : ma_R → ma_M → Prop} {m0 : ma_M} {w : Int → Int → Int} {g r : Int → Int} (hi : ch_in m0 w g r) (hz : m0 69 0 46 = 107 ∧ m0 69 0 47 = 108 ∨ m0 69 0 46 = 108 ∧ m0 69 0 47 = 107)
    (h : ∀ (m : ma_M) (K K' : Nat), ch_st m0 m → (K = 107 ∧ K' = 108 ∨ K = 108 ∧ K' = 107) → m 69 0 46 = K → m 69 0 47 = K' → (∀ c : Int, 0 ≤ c → c < 36 → m K 0 c = ch_T w g r 40 c) → Post (.inl none) m) :
    ma_Ox LS (d + 4) mi_LatticefitModel_settles [ma_Rf 69 0] m0 Post := by
  obtain ⟨K1, K2, hK, z46, z47⟩ : ∃ K1 K2 : Nat, (K1 = 107 ∧ K2 = 108 ∨ K1 = 108 ∧ K2 = 107) ∧ m0 69 0 46 = K1 ∧ m0 69 0 47 = K2 := by
    rcases hz with z | z
    · exact ⟨107, 108, .inl ⟨rfl, rfl⟩, z.1, z.2⟩
    · exact ⟨108, 107, .inr ⟨rfl, rfl⟩, z.1, z.2⟩
  refine gi_LatticefitModel_settles (fun R hR => s_LatticefitModel_settles_0 (d := d) hR ?_)
  have lp : ∀ (k j : Nat) (m : ma_M) (K K' : Nat), j + k = 40 → ch_st m0 m → (K = 107 ∧ K' = 108 ∨ K = 108 ∧ K' = 107) → m 69 0 46 = K → m 69 0 47 = K' → (∀ c : Int, 0 ≤ c → c < 36 → m K 0 c = ch_T w g r j c) → ∀ u2 u3 u4 : ma_V, R 23 [ma_Rf 69 0, ma_I j, u2, u3, u4] [] 0 m := by
    intro k
    induction k with
    | zero =>
      intro j m K K' hj a1 hK a46 a47 a2 u2 u3 u4
      have ej : j = 40 := by omega
      rw [ej] at a2
      exact s_LatticefitModel_settles_23 hR ⟨fun _ => h m K K' a1 hK a46 a47 a2, fun q => by omega⟩
    | succ k ih =>
      intro j m K K' hj a1 hK a46 a47 a2 u2 u3 u4
      have hk : ch_kk K := by rcases hK with z | z; exact .inl z.1; exact .inr z.1
      have hk' : ch_kk K' := by rcases hK with z | z; exact .inr z.2; exact .inl z.2
      have ne : K ≠ K' := by rcases hK with z | z <;> omega
      refine s_LatticefitModel_settles_23 hR ⟨fun q => by omega, fun _ => ?_⟩
      refine ma_cnt (σ := ma_M) (N := 36) (P := fun i m' => ∀ u v : ma_V, R 31 [ma_Rf 69 0, ma_I j, ma_I i, u, v] [] 0 m') (I := fun n m' => (∀ c : Nat, c ≠ K' → m' c = m c) ∧ ∀ c : Int, 0 ≤ c → c < n → m' K' 0 c = ch_T w g r (j + 1) c) ?_ ?_ 0 m (by omega) (by omega) ⟨fun _ _ => rfl, fun c a b => by omega⟩ _ _
      · intro c m' c0 c1 ⟨b1, b2⟩ ih2 u v
        refine s_LatticefitModel_settles_31 hR ⟨fun q => by omega, fun _ => ?_⟩
        have k69 : K' ≠ 69 := by rcases hK with z | z <;> omega
        have s69 : m' 69 = m 69 := b1 69 (Ne.symm k69)
        have ci : ch_in m' w g r := ch_in_cg (m := m0) (fun c hc => by
          have : c ≠ K' := by rcases hK with z | z <;> omega
          rw [b1 c this]; exact a1.1 c (by omega) (by omega) (by omega)) (by rw [s69]; exact a1.2 9 (by decide) (by decide)) hi
        have T : ∀ c : Int, 0 ≤ c → c < 36 → m' K 0 c = ch_T w g r j c ∧ (ch_T w g r j c = 0 ∨ ch_T w g r j c = 1) := fun c c0 c1 => ⟨by rw [b1 K ne]; exact a2 c c0 c1, ch_T_01 j c⟩
        have lp2 : ∀ (k i : Nat), (i : Int) + k = 4 → R 42 [ma_Rf 69 0, ma_I j, ma_I c, ma_I (ch_bits (ch_x w g r (ch_T w g r j) c) i), ma_I i] [] 0 m' := by
          intro k
          induction k with
          | zero =>
            intro i hj
            have ei : i = 4 := by omega
            refine s_LatticefitModel_settles_42 hR ⟨fun _ => ?_, fun q => by omega⟩
            rw [s69, a47, Int.toNat_natCast, td_nn c0, tm_nn c0, (ci.1.2 (c / 6) (6 * (c % 6)) (by omega) (by omega) (by omega) (by omega)).1, ei]
            have key : ∀ x : Int, x = ch_T w g r (j + 1) c → R 31 [ma_Rf 69 0, ma_I j, ma_I (c + 1), ma_U, ma_U] [] 0 (ma_up m' K' 0 c x) := by
              intro x hx
              refine ih2 _ ⟨fun k hk => by rw [ma_up_ck hk]; exact b1 k hk, fun c' c0' c1' => ?_⟩ _ _
              by_cases e : c' = c
              · rw [e, ma_up_eq, hx]
              · rw [ma_up_ne (by omega)]; exact b2 c' c0' (by omega)
            have tt : ch_T w g r (j + 1) c = ma_and (ma_shr (w (c / 6) (6 * (c % 6))) (ch_bits (ch_x w g r (ch_T w g r j) c) 4)) 1 := rfl
            rw [← tt]
            refine ⟨by omega, by omega, by omega, by omega, by omega, fun e => ⟨ch_kin hk' c0 c1, ch_kck hk', by omega, key 0 ?_⟩, fun e => ⟨ch_kin hk' c0 c1, ch_kck hk', by omega, key 1 e.symm⟩⟩
            rcases ch_T_01 (w := w) (g := g) (r := r) (j + 1) c with z | z
            · exact z.symm
            · exact absurd z e
          | succ k ih3 =>
            intro i hj
            have i4 : i < 4 := by omega
            refine s_LatticefitModel_settles_42 hR ⟨fun q => by omega, fun _ => ?_⟩
            rw [td_nn c0, tm_nn c0, show 36 * (c / 6) + 6 * (c % 6) + 1 + (i : Int) = 36 * (c / 6) + (6 * (c % 6) + 1 + i) from by omega, (ci.1.2 (c / 6) (6 * (c % 6) + 1 + (i : Int)) (by omega) (by omega) (by omega) (by omega)).1]
            refine ⟨by omega, by omega, by omega, by omega, by omega, by omega, by omega, sp_valueOf (d := d) ci hk (by rw [s69]; exact a46) T (k_LatticefitModel_settles_64 hR ?_)⟩
            have un : ch_bits (ch_x w g r (ch_T w g r j) c) (i + 1) = ma_or (ch_bits (ch_x w g r (ch_T w g r j) c) i) (ma_shl (ch_val g r (ch_T w g r j) (ch_end w (w (c / 6) (6 * (c % 6) + 1 + (i : Int))))) i) := rfl
            have nx := ih3 (i + 1) (by omega)
            rw [un] at nx
            have v01 := ch_val_01 (g := g) (r := r) (t := ch_T w g r j) (fun j j0 j1 => (ci.2.1 j j0 j1).2.1) (fun c c0 c1 => (ci.2.2.1 c c0 c1).2) (fun c _ _ => ch_T_01 j c) (ch_end w (w (c / 6) (6 * (c % 6) + 1 + (i : Int))))
            generalize ch_val g r (ch_T w g r j) (ch_end w (w (c / 6) (6 * (c % 6) + 1 + (i : Int)))) = x at nx v01 ⊢
            refine ⟨fun z => ⟨by omega, ?_⟩, fun z => ⟨by omega, ?_⟩⟩
            · rw [z, ch_shl0 i4] at nx; exact nx
            · rw [show x = 1 from by rcases v01 with y | y; exact absurd y z; exact y] at nx; exact nx
        exact lp2 4 0 (by omega)
      · intro m' ⟨b1, b2⟩ u v
        have k69 : 69 ≠ K' := by rcases hK with z | z <;> omega
        have s69 : m' 69 = m 69 := b1 69 k69
        refine s_LatticefitModel_settles_31 hR ⟨fun _ => ?_, fun q => by omega⟩
        rw [s69, a46, a47, Int.toNat_natCast, Int.toNat_natCast]
        refine ⟨ch_kck hk', ch_kck hk, by omega, ih (j + 1) _ K' K (by omega) ⟨fun c q1 q2 q3 => ?_, fun f q1 q2 => ?_⟩ (by rcases hK with z | z; exact .inr ⟨z.2, z.1⟩; exact .inl ⟨z.2, z.1⟩) ?_ ma_up_eq (fun c c0 c1 => ?_) _ _ _⟩
        · rw [ma_up_ck q1, ma_up_ck q1, b1 c (by rcases hK with z | z <;> omega)]; exact a1.1 c q1 q2 q3
        · rw [ma_up_ne (by omega), ma_up_ne (by omega), s69]; exact a1.2 f q1 q2
        · rw [ma_up_ne (by omega), ma_up_eq]
        · rw [ma_up_ck (Ne.symm k69), ma_up_ck (Ne.symm k69)]; exact b2 c c0 c1
  have hk1 : ch_kk K1 := by rcases hK with z | z; exact .inl z.1; exact .inr z.1
  refine ma_cnt (σ := ma_M) (N := 36) (P := fun i m => R 2 [ma_Rf 69 0, ma_I i, ma_U, ma_U, ma_U] [] 0 m) (I := fun n m => (∀ c : Nat, c ≠ K1 → m c = m0 c) ∧ ∀ c : Int, 0 ≤ c → c < n → m K1 0 c = 0) ?_ ?_ 0 m0 (by omega) (by omega) ⟨fun _ _ => rfl, fun c a b => by omega⟩
  · intro c m c0 c1 ⟨a1, a2⟩ ih
    have e69 : m 69 = m0 69 := a1 69 (by rcases hK with z | z <;> omega)
    refine s_LatticefitModel_settles_2 hR ⟨fun q => by omega, fun _ => ?_⟩
    rw [e69, z46, Int.toNat_natCast]
    refine ⟨ch_kin hk1 c0 c1, ch_kck hk1, by omega, ih _ ⟨fun k hk => by rw [ma_up_ck hk]; exact a1 k hk, fun c' c0' c1' => ?_⟩⟩
    by_cases e : c' = c
    · rw [e, ma_up_eq]
    · rw [ma_up_ne (by omega)]; exact a2 c' c0' (by omega)
  · intro m ⟨a1, a2⟩
    have e69 : m 69 = m0 69 := a1 69 (by rcases hK with z | z <;> omega)
    exact s_LatticefitModel_settles_2 hR ⟨fun _ => lp 40 0 m K1 K2 (by omega) ⟨fun c q1 q2 q3 => a1 c (by rcases hK with z | z <;> omega), fun f _ _ => by rw [e69]⟩ hK (by rw [e69]; exact z46) (by rw [e69]; exact z47) (fun c c0 c1 => a2 c c0 c1) _ _ _, fun q => by omega⟩
