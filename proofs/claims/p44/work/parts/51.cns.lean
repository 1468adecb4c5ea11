/-! isRouted, isConsistent -/
theorem ma_sum_add {f g : Int → Int} : ∀ n : Nat, ma_sum (fun i => f i + g i) n = ma_sum f n + ma_sum g n
  | 0 => rfl
  | n + 1 => by simp only [ma_sum]; rw [ma_sum_add n]; omega
theorem ma_sum_zero : ∀ n : Nat, ma_sum (fun _ => 0) n = 0
  | 0 => rfl
  | n + 1 => by simp only [ma_sum]; rw [ma_sum_zero n]; rfl
theorem ma_sum_one : ∀ n : Nat, ma_sum (fun _ => 1) n = n
  | 0 => rfl
  | n + 1 => by simp only [ma_sum]; rw [ma_sum_one n]; rfl
theorem ma_sum_swap {F : Int → Int → Int} (m : Nat) : ∀ n : Nat, ma_sum (fun c => ma_sum (fun b => F c b) m) n = ma_sum (fun b => ma_sum (fun c => F c b) n) m
  | 0 => by simp only [ma_sum]; rw [ma_sum_zero]
  | n + 1 => by simp only [ma_sum]; rw [ma_sum_add, ma_sum_swap m n]
theorem ma_sum_single (x : Int) : ∀ m : Nat, ma_sum (fun b => if x = b then 1 else 0) m = if 0 ≤ x ∧ x < m then 1 else 0
  | 0 => by simp only [ma_sum]; rw [if_neg (by omega)]
  | m + 1 => by
    simp only [ma_sum]
    rw [ma_sum_single x m]
    by_cases h : x = m
    · rw [if_neg (by omega), if_pos h, if_pos (by omega)]; rfl
    · rw [if_neg h]
      by_cases h2 : 0 ≤ x ∧ x < m
      · rw [if_pos h2, if_pos (by omega)]; rfl
      · rw [if_neg h2, if_neg (by omega)]; rfl
theorem ma_cnt_bij (m n : Nat) (f g : Int → Int) (hf : ∀ c : Int, 0 ≤ c → c < n → f c < m ∧ (0 ≤ f c → g (f c) = c)) (hg : ∀ b : Int, 0 ≤ b → b < m → 0 ≤ g b ∧ g b < n ∧ f (g b) = b) : ma_sum (fun c => if f c < 0 then 0 else 1) n = m := by
  have e1 : ma_sum (fun c => if f c < 0 then 0 else 1) n = ma_sum (fun c => ma_sum (fun b => if f c = b then 1 else 0) m) n := by
    refine ma_sum_cong n (fun c h0 h1 => ?_)
    rw [ma_sum_single]
    have := hf c h0 h1
    by_cases h : f c < 0
    · rw [if_pos h, if_neg (by omega)]
    · rw [if_neg h, if_pos (by omega)]
  have e2 : ma_sum (fun b => ma_sum (fun c => if f c = b then 1 else 0) n) m = ma_sum (fun _ => 1) m := by
    refine ma_sum_cong m (fun b h0 h1 => ?_)
    have hb := hg b h0 h1
    have e3 : ma_sum (fun c => if f c = b then 1 else 0) n = ma_sum (fun c => if g b = c then 1 else 0) n := by
      refine ma_sum_cong n (fun c c0 c1 => ?_)
      by_cases h : g b = c
      · rw [if_pos h, if_pos (by rw [← h]; exact hb.2.2)]
      · have := hf c c0 c1
        rw [if_neg h, if_neg (fun z => h (by rw [← z]; exact this.2 (by omega)))]
    rw [e3, ma_sum_single, if_pos (by omega)]
  rw [e1, ma_sum_swap, e2, ma_sum_one]
theorem sp_Circuit_isSound {LS d : Nat} {Post : ma_R → ma_M → Prop} {μ : ma_M} (H : rl_c μ) (h : Post (.inl (some (ma_I 1))) μ) : ma_Ox LS (d + 2) mi_Circuit_isSound [ma_Rf 3 0] μ Post := by
  obtain ⟨n0, n1, i0, i1, r0, r1, o0, o1, m8, m9, m10, m11, Hn, -, -, -, -, Ho⟩ := H
  refine gi_Circuit_isSound (fun R hR => s_Circuit_isSound_0 hR ?_)
  have L2 : R 74 [ma_Rf 3 0, ma_I 0] [] 0 μ := by
    refine ma_cnt (σ := Unit) (N := μ 3 0 13) (P := fun i _ => R 74 [ma_Rf 3 0, ma_I i] [] 0 μ) (I := fun _ _ => True) ?_ ?_ 0 () (by omega) (by omega) trivial
    · intro i _ h0 h1 _ ih
      have := Ho i h0 h1
      refine s_Circuit_isSound_74 hR ?_
      have fin := ih () trivial
      repeat' (first | with_reducible refine And.intro ?_ ?_ | intro _)
      all_goals first | with_reducible exact fin | omega
    · intro _ _
      refine s_Circuit_isSound_74 hR ⟨fun _ => h, fun c => absurd c (by omega)⟩
  refine ma_cnt (σ := Unit) (N := μ 3 0 10) (P := fun i _ => R 2 [ma_Rf 3 0, ma_I i] [] 0 μ) (I := fun _ _ => True) ?_ ?_ 0 () (by omega) (by omega) trivial
  · intro i _ h0 h1 _ ih
    obtain ⟨-, g1, g2, g3, g4⟩ := Hn i h0 h1
    refine s_Circuit_isSound_2 hR ?_
    have fin := ih () trivial
    repeat' (first | with_reducible refine And.intro ?_ ?_ | intro _)
    all_goals first | with_reducible exact fin | omega
  · intro _ _
    refine s_Circuit_isSound_2 hR ⟨fun _ => L2, fun c => absurd c (by omega)⟩
theorem sp_Places_isSound {LS d : Nat} {Post : ma_R → ma_M → Prop} {μ : ma_M} (hb : 0 ≤ μ 21 0 7 ∧ μ 21 0 7 ≤ 36) (H : rl_p μ) (h : Post (.inl (some (ma_I 1))) μ) : ma_Ox LS (d + 1) mi_Places_isSound [ma_Rf 31 0] μ Post := by
  obtain ⟨H1, H2⟩ := H
  refine gi_Places_isSound (fun R hR => s_Places_isSound_0 hR ?_)
  have cnt : ma_sum (fun c => if μ 33 0 c < 0 then 0 else 1) 36 = μ 21 0 7 := by
    have := ma_cnt_bij (μ 21 0 7).toNat 36 (μ 33 0) (μ 32 0) (fun c c0 c1 => by have := H2 c c0 (by omega); refine ⟨by omega, this.2.2.2⟩) (fun b b0 b1 => by have := H1 b b0 (by omega); exact ⟨this.2.1, by omega, this.2.2.2.1⟩)
    rw [this]; omega
  refine ma_cnt (σ := Unit) (N := 36) (P := fun i _ => R 4 [ma_Rf 31 0, ma_I (ma_sum (fun c => if μ 33 0 c < 0 then 0 else 1) i.toNat), ma_I i, ma_U] [] 0 μ) (I := fun _ _ => True) ?_ ?_ 0 () (by omega) (by omega) trivial
  · intro i _ h0 h1 _ ih
    have g := H2 i h0 h1
    have fin := ih () trivial
    have e : (i + 1).toNat = i.toNat + 1 := by omega
    have rg := ma_sum_rng (f := fun c => if μ 33 0 c < 0 then 0 else 1) (b := 1) i.toNat (fun c _ _ => by show _ ∧ _; split <;> omega)
    rw [e] at fin
    simp only [ma_sum] at fin
    rw [show ((i.toNat : Nat) : Int) = i from by omega] at fin rg
    obtain ⟨s, hs⟩ : ∃ s, s = ma_sum (fun c => if μ 33 0 c < 0 then 0 else 1) i.toNat := ⟨_, rfl⟩
    rw [← hs] at fin rg ⊢
    clear cnt ih hs H1 H2
    refine s_Places_isSound_4 hR ?_
    by_cases hx : μ 33 0 i < 0
    · rw [if_pos hx] at fin
      repeat' (first | with_reducible refine And.intro ?_ ?_ | intro _)
      all_goals first | with_reducible exact fin | omega
    · rw [if_neg hx] at fin
      have g2 := g.2.2.2 (by omega)
      repeat' (first | with_reducible refine And.intro ?_ ?_ | intro _)
      all_goals first | with_reducible exact fin | omega
  · intro _ _
    rw [show (36 : Int).toNat = 36 from rfl, cnt]
    refine s_Places_isSound_4 hR ⟨fun _ => ⟨fun c => absurd rfl c, fun _ => h⟩, fun c => absurd c (by omega)⟩
theorem sp_isCrowded {LS d : Nat} {Post : ma_R → ma_M → Prop} {μ : ma_M} (H : ∀ e : Int, 0 ≤ e → e < 84 → μ 44 0 e ≤ 2) (h : Post (.inl (some (ma_I 0))) μ) : ma_Ox LS (d + 1) mi_Routes_isCrowded [ma_Rf 40 0] μ Post := by
  refine gi_Routes_isCrowded (fun R hR => s_Routes_isCrowded_0 hR ?_)
  refine ma_cnt (σ := Unit) (N := 84) (P := fun i _ => R 2 [ma_Rf 40 0, ma_I i] [] 0 μ) (I := fun _ _ => True) ?_ ?_ 0 () (by omega) (by omega) trivial
  · intro i _ h0 h1 _ ih
    have := H i h0 h1
    refine s_Routes_isCrowded_2 hR ⟨fun c => absurd c (by omega), fun _ => ⟨⟨h0, h1⟩, fun _ => ⟨by omega, ih () trivial⟩, fun c => absurd c (by omega)⟩⟩
  · intro _ _
    refine s_Routes_isCrowded_2 hR ⟨fun _ => h, fun c => absurd c (by omega)⟩
