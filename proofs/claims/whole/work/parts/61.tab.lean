/-! the reference's tables -/
theorem cu_ow_bit {kd : Int} {a b i : Nat} (ha : a < 65536) (hi : i < 16) : (cu_ow kd a b).testBit i = if kd = 97 then (a.testBit i && b.testBit i) else if kd = 111 then (a.testBit i || b.testBit i) else if kd = 120 then (a.testBit i != b.testBit i) else !a.testBit i := by
  unfold cu_ow
  split
  · rw [Nat.testBit_and]
  · split
    · rw [Nat.testBit_or]
    · split
      · rw [Nat.testBit_xor]
      · exact cu_not_bit ha hi
/-- the reference's circuit is the class's, as far as the cuts see it -/
def cu_eqv (μ : ma_M) (N : Nat) : Prop := ∀ k : Nat, k < N → μ 70 0 k = μ 4 0 k ∧ (¬ (μ 4 0 k = 105 ∨ μ 4 0 k = 114) → μ 71 0 k = μ 5 0 k ∧ μ 72 0 k = μ 6 0 k)
def cu_01 (b : Bool) : Int := if b = true then 1 else 0
theorem sp_valueIn {LS : Nat} {μ : ma_M} {N s bits : Nat} (hN : N ≤ 48) (hw : cu_wf2 (μ 4 0) (μ 5 0) (μ 6 0) N) (hq : cu_eqv μ N) (hs : s < 281474976710656) (h4 : cu_cnt s 48 ≤ 4) (hb : bits < 16) :
    ∀ n : Nat, n < N → cu_Cv (μ 4 0) (μ 5 0) (μ 6 0) s n → ∀ (d : Nat) (Post : ma_R → ma_M → Prop), Post (.inl (some (ma_I (cu_01 ((cu_W (μ 4 0) (μ 5 0) (μ 6 0) s N n).testBit bits))))) μ → ma_Ox LS (d + n + 3) mi_LatticefitModel_valueIn [ma_Rf 69 0, ma_I n, ma_L s, ma_I bits] μ Post := by
  intro n
  induction n using Nat.strongRecOn with
  | _ n ih =>
    intro hn hc d Post h
    rw [cu_W_eq hw hn] at h
    refine gi_LatticefitModel_valueIn (fun R hR => s_LatticefitModel_valueIn_0 hR ?_)
    rw [cu_bitq hs (by omega)]
    by_cases hbn : s.testBit n = true
    · rw [if_pos hbn] at h ⊢
      refine ⟨fun q => absurd rfl q, fun _ => ?_⟩
      have e1 : ma_lshl 1 (n : Int) = ((2 ^ n : Nat) : Int) := ma_lshl_one (by omega) (by omega)
      have p0 : 0 < (2 : Nat) ^ n := Nat.pow_pos (by omega)
      have p1 : (2 : Nat) ^ n ≤ 2 ^ 48 := Nat.pow_le_pow_right (by omega) (by omega)
      have e2 : ma_land (s : Int) (ma_wL (((2 ^ n : Nat) : Int) - 1)) = ((s % 2 ^ n : Nat) : Int) := by
        rw [show ((2 ^ n : Nat) : Int) - 1 = ((2 ^ n - 1 : Nat) : Int) from by omega, lg_wL_id (by omega), ma_land_nat s (2 ^ n - 1) (by omega) (by omega), Nat.and_two_pow_sub_one_eq_mod]
      rw [e1, e2]
      have hm : s % 2 ^ n ≤ s := Nat.mod_le _ _
      refine cu_bitCount (by omega) ?_
      rw [cu_cnt_mod (show n ≤ 48 by omega)]
      have r4 := cu_cnt_lt48 (show n < 48 by omega) hbn
      have q1 := cu_shr_bit ⟨bits, hb⟩ ⟨cu_cnt s n, by omega⟩
      have q2 := cu_pt_bit ⟨bits, hb⟩ ⟨cu_cnt s n, by omega⟩
      simp only at q1 q2
      rw [q2] at h
      refine k_LatticefitModel_valueIn_19 hR ⟨fun z => ?_, fun z => ?_⟩
      · rw [cu_01, if_neg (fun w => z (q1.2 w))] at h; exact h
      · rw [cu_01, if_pos (q1.1 z)] at h; exact h
    · rw [if_neg hbn] at h ⊢
      refine ⟨fun _ => ⟨by omega, ?_⟩, fun q => absurd q (by decide)⟩
      rcases cu_Cv_inv hc with z | ⟨hg, c1, c2⟩
      · exact absurd z hbn
      · rw [if_neg hg] at h
        obtain ⟨w1, w2, w3⟩ := hw n hn hg
        obtain ⟨q0, q12⟩ := hq n hn
        obtain ⟨q1, q2⟩ := q12 hg
        have c3 : cu_Cv (μ 4 0) (μ 5 0) (μ 6 0) s (μ 6 0 n).toNat := by
          by_cases e : μ 4 0 n = 110
          · rw [w3 e]; exact c1
          · exact c2 e
        obtain ⟨a, ea⟩ : ∃ a : Nat, μ 5 0 n = (a : Int) := ⟨(μ 5 0 n).toNat, by omega⟩
        obtain ⟨b, eb⟩ : ∃ b : Nat, μ 6 0 n = (b : Int) := ⟨(μ 6 0 n).toNat, by omega⟩
        rw [ea] at c1 w1 h q1
        rw [eb] at c3 w2 h q2
        simp only [Int.toNat_natCast] at c1 c3 h
        have i1 := ih a (by omega) (by omega) c1 (d + (n - 1 - a))
        have i2 := ih b (by omega) (by omega) c3 (d + (n - 1 - b))
        rw [show d + (n - 1 - a) + a + 3 = d + n + 2 from by omega] at i1
        rw [show d + (n - 1 - b) + b + 3 = d + n + 2 from by omega] at i2
        rw [q1]
        refine i1 _ (k_LatticefitModel_valueIn_47 hR ⟨by omega, ?_⟩)
        rw [q2]
        refine i2 _ (k_LatticefitModel_valueIn_60 hR ⟨by omega, ?_⟩)
        rw [cu_ow_bit (cu_W_lt _ _ _ _ _ _) hb, ← q0] at h
        clear i1 i2 ih
        generalize (cu_W (μ 4 0) (μ 5 0) (μ 6 0) s N a).testBit bits = x at h ⊢
        generalize (cu_W (μ 4 0) (μ 5 0) (μ 6 0) s N b).testBit bits = y at h ⊢
        refine ⟨fun e1 => ⟨fun e2 => ⟨fun e3 => ?_, fun e3 => ?_⟩, fun e2 => ?_⟩, fun e1 => ?_⟩
        · rw [if_neg e1, if_neg e2, if_neg e3] at h
          cases x <;> simp_all [cu_01]
        · rw [if_neg e1, if_neg e2, if_pos e3] at h
          cases x <;> cases y <;> simp_all [cu_01]
        · rw [if_neg e1, if_pos e2] at h
          cases x <;> cases y <;> simp_all [cu_01]
        · rw [if_pos e1] at h
          refine ⟨fun z => ?_, fun z => ⟨fun z2 => ?_, fun z2 => ?_⟩⟩ <;> cases x <;> cases y <;> simp_all [cu_01]
/-- the inputs of a block -/
def cu_ins88 (m : ma_M) (b s N : Nat) : Prop := ∀ n : Nat, n < N → s.testBit n = true → m 88 0 ((4 * b + cu_cnt s n : Nat) : Int) = n
theorem sp_tabled {LS d : Nat} {Post : ma_R → ma_M → Prop} {μ : ma_M} {N s b : Nat} {g : Int} (hN : N ≤ 48) (e8 : μ 69 0 8 = (N : Int)) (hw : cu_wf2 (μ 4 0) (μ 5 0) (μ 6 0) N) (hq : cu_eqv μ N) (hs : s < 2 ^ N) (h4 : cu_cnt s 48 ≤ 4) (hb : b < 48)
    (hg : g < 0 ∨ 0 ≤ g ∧ g < N ∧ ¬ (μ 4 0 g = 105 ∨ μ 4 0 g = 114) ∧ s < 2 ^ g.toNat ∧ cu_Cv (μ 4 0) (μ 5 0) (μ 6 0) s (μ 5 0 g).toNat ∧ (μ 4 0 g ≠ 110 → cu_Cv (μ 4 0) (μ 5 0) (μ 6 0) s (μ 6 0 g).toNat))
    (h : ∀ m : ma_M, (∀ c : Nat, c ≠ 86 → c ≠ 87 → c ≠ 88 → m c = μ c) → (∀ i : Int, i ≠ b → m 86 0 i = μ 86 0 i ∧ m 87 0 i = μ 87 0 i) → m 86 0 b = (if g < 0 then 43690 else (cu_W (μ 4 0) (μ 5 0) (μ 6 0) s N g.toNat : Int)) → m 87 0 b = (cu_cnt s 48 : Int) → (∀ i : Int, i < 4 * b ∨ 4 * b + 4 ≤ i → m 88 0 i = μ 88 0 i) → cu_ins88 m b s N → Post (.inl none) m) :
    ma_Ox LS (d + 55) mi_LatticefitModel_tabled [ma_Rf 69 0, ma_I b, ma_L s, ma_I g] μ Post := by
  have s48 := cu_p48 hN hs
  refine gi_LatticefitModel_tabled (fun R hR => s_LatticefitModel_tabled_0 (d := d + 51) hR ?_)
  have c48 : cu_cnt s 48 = cu_cnt s N := by
    have := cu_cnt_more hs (48 - N)
    rwa [show N + (48 - N) = 48 from by omega] at this
  -- the second loop
  have l2 : ∀ m0 : ma_M, (∀ c : Nat, c ≠ 86 → c ≠ 87 → c ≠ 88 → m0 c = μ c) → (∀ i : Int, i ≠ b → m0 86 0 i = μ 86 0 i ∧ m0 87 0 i = μ 87 0 i) → m0 86 0 b = (if g < 0 then 43690 else 0) → m0 87 0 b = (cu_cnt s 48 : Int) → (∀ i : Int, i < 4 * b ∨ 4 * b + 4 ≤ i → m0 88 0 i = μ 88 0 i) → cu_ins88 m0 b s N → ∀ (u3 u5 u7 : ma_V), R 76 [ma_Rf 69 0, ma_I b, ma_L s, u3, ma_I g, u5, ma_I 0, u7] [] 0 m0 := by
    intro m0 a1 a2 a3 a4 a5 a6 u3 u5 u7
    by_cases hg0 : g < 0
    · rw [if_pos hg0] at a3
      exact s_LatticefitModel_tabled_76 hR ⟨fun q => absurd q (by omega), fun _ => ⟨fun _ => h m0 a1 a2 (by rw [if_pos hg0]; exact a3) a4 a5 a6, fun q => absurd hg0 (by omega)⟩⟩
    · rw [if_neg hg0] at a3
      rcases hg with hg | ⟨g0, g1, gg, gs, gc1, gc2⟩
      · exact absurd hg hg0
      obtain ⟨n, en⟩ : ∃ n : Nat, g = (n : Int) := ⟨g.toNat, by omega⟩
      subst en
      simp only [Int.toNat_natCast] at gs gc1 gc2 h
      have hnN : n < N := by omega
      obtain ⟨w1, w2, w3⟩ := hw n hnN gg
      obtain ⟨q0, q12⟩ := hq n hnN
      obtain ⟨q1, q2⟩ := q12 gg
      have gc3 : cu_Cv (μ 4 0) (μ 5 0) (μ 6 0) s (μ 6 0 n).toNat := by
        by_cases e : μ 4 0 n = 110
        · rw [w3 e]; exact gc1
        · exact gc2 e
      have hWn : cu_W (μ 4 0) (μ 5 0) (μ 6 0) s N n = cu_ow (μ 4 0 n) (cu_W (μ 4 0) (μ 5 0) (μ 6 0) s N (μ 5 0 n).toNat) (cu_W (μ 4 0) (μ 5 0) (μ 6 0) s N (μ 6 0 n).toNat) := by
        rw [cu_W_eq hw hnN, if_neg (by rw [Nat.testBit_lt_two_pow gs]; decide), if_neg gg]
      obtain ⟨a, ea⟩ : ∃ a : Nat, μ 5 0 n = (a : Int) := ⟨(μ 5 0 n).toNat, by omega⟩
      obtain ⟨c, ec⟩ : ∃ c : Nat, μ 6 0 n = (c : Int) := ⟨(μ 6 0 n).toNat, by omega⟩
      rw [ea] at gc1 w1 q1 hWn
      rw [ec] at gc3 w2 q2 hWn
      simp only [Int.toNat_natCast] at gc1 gc3 hWn
      have hWlt := cu_W_lt (μ 4 0) (μ 5 0) (μ 6 0) s N n
      -- the loop
      have lp : ∀ (k i : Nat) (t : Nat) (u3 u5 u7 : ma_V) (m : ma_M), i + k = 16 → (∀ c : Nat, c ≠ 86 → m c = m0 c) → (∀ i : Int, i ≠ b → m 86 0 i = m0 86 0 i) → m 86 0 b = (t : Int) → t < 65536 → (∀ j, j < 16 → t.testBit j = (decide (j < i) && (cu_W (μ 4 0) (μ 5 0) (μ 6 0) s N n).testBit j)) → R 76 [ma_Rf 69 0, ma_I b, ma_L s, u3, ma_I n, u5, ma_I i, u7] [] 0 m := by
        intro k
        induction k with
        | zero =>
          intro i t u3 u5 u7 m hi b1 b2 b3 b4 b5
          have et : t = cu_W (μ 4 0) (μ 5 0) (μ 6 0) s N n := cu_eq16 b4 hWlt (fun j hj => by rw [b5 j hj, decide_eq_true (show j < i by omega)]; rfl)
          refine s_LatticefitModel_tabled_76 hR ⟨fun _ => h m (fun c c1 c2 c3 => by rw [b1 c c1]; exact a1 c c1 c2 c3) (fun i hi => ⟨by rw [b2 i hi]; exact (a2 i hi).1, by rw [b1 87 (by decide)]; exact (a2 i hi).2⟩) (by rw [if_neg hg0, b3, et]) (by rw [b1 87 (by decide)]; exact a4) (fun i hi => by rw [b1 88 (by decide)]; exact a5 i hi) (fun x hx z => by rw [b1 88 (by decide)]; exact a6 x hx z), fun q => by omega⟩
        | succ k ih =>
          intro i t u3 u5 u7 m hi b1 b2 b3 b4 b5
          have i16 : i < 16 := by omega
          have em : ∀ c : Nat, c < 86 → m c = μ c := fun c hc => by rw [b1 c (by omega)]; exact a1 c (by omega) (by omega) (by omega)
          have val := fun (x : Nat) (hx : x < n) (hcv : cu_Cv (μ 4 0) (μ 5 0) (μ 6 0) s x) => sp_valueIn (LS := LS) (μ := m) (N := N) (s := s) (bits := i) hN (by rw [em 4 (by omega), em 5 (by omega), em 6 (by omega)]; exact hw) (fun k hk => by rw [em 70 (by omega), em 71 (by omega), em 72 (by omega), em 4 (by omega), em 5 (by omega), em 6 (by omega)]; exact hq k hk) s48 h4 i16 x (by omega) (by rw [em 4 (by omega), em 5 (by omega), em 6 (by omega)]; exact hcv) (d + 51 - x)
          have v1 := val a (by omega) gc1
          have v2 := val c (by omega) gc3
          rw [show d + 51 - a + a + 3 = d + 51 + 3 from by omega] at v1
          rw [show d + 51 - c + c + 3 = d + 51 + 3 from by omega] at v2
          have hnx : ∀ (w : Bool) (v : Int), w = (cu_W (μ 4 0) (μ 5 0) (μ 6 0) s N n).testBit i → v = (if w = true then ma_shl 1 i else 0) → R 76 [ma_Rf 69 0, ma_I b, ma_L s, ma_U, ma_I n, ma_U, ma_I ((i : Int) + 1), ma_U] [] 0 (ma_up m 86 0 b (ma_or (m 86 0 b) v)) := by
            intro w v hw' hv
            have ev : ma_or (m 86 0 b) v = ((t ||| (if w = true then 2 ^ i else 0) : Nat) : Int) := by
              rw [b3, hv]
              by_cases e : w = true
              · rw [if_pos e, if_pos e, ma_shl_one (by omega) (by omega)]
                exact ma_or_nat t (2 ^ i) (by omega) (by have : (2 : Nat) ^ i < 2 ^ 16 := Nat.pow_lt_pow_right (by omega) i16; omega)
              · rw [if_neg e, if_neg e]; exact ma_or_nat t 0 (by omega) (by omega)
            rw [ev, show ((i : Nat) : Int) + 1 = ((i + 1 : Nat) : Int) from by omega]
            refine ih (i + 1) _ _ _ _ _ (by omega) (fun c hc => by rw [ma_up_ck hc]; exact b1 c hc) (fun j hj => by rw [ma_up_ne (by omega)]; exact b2 j hj) ma_up_eq ?_ (fun j hj => ?_)
            · refine Nat.or_lt_two_pow (n := 16) b4 ?_
              split
              · exact Nat.pow_lt_pow_right (by omega) i16
              · omega
            · rw [Nat.testBit_or, b5 j hj]
              by_cases e : j = i
              · subst e
                by_cases ew : w = true
                · rw [if_pos ew, ← hw', ew, Nat.testBit_two_pow_self, decide_eq_false (by omega), decide_eq_true (by omega)]; rfl
                · have ew2 : w = false := by simpa using ew
                  rw [if_neg ew, ← hw', ew2, Nat.zero_testBit, decide_eq_false (by omega), decide_eq_true (by omega)]; rfl
              · have e1 : (if w = true then 2 ^ i else 0 : Nat).testBit j = false := by
                  split
                  · rw [Nat.testBit_two_pow]; exact decide_eq_false (fun z => e z.symm)
                  · exact Nat.zero_testBit j
                rw [e1, Bool.or_false]
                by_cases e2 : j < i
                · rw [decide_eq_true e2, decide_eq_true (show j < i + 1 by omega)]
                · rw [decide_eq_false e2, decide_eq_false (show ¬ j < i + 1 by omega)]
          refine s_LatticefitModel_tabled_76 hR ⟨fun q => by omega, fun _ => ⟨fun q => by omega, fun _ => ⟨by omega, ?_⟩⟩⟩
          rw [em 71 (by omega), q1]
          refine v1 _ (k_LatticefitModel_tabled_102 hR ⟨by omega, ?_⟩)
          rw [em 72 (by omega), q2]
          refine v2 _ (k_LatticefitModel_tabled_116 hR ⟨by omega, ?_⟩)
          rw [em 70 (by omega), em 4 (by omega), em 5 (by omega), em 6 (by omega), q0]
          rw [hWn, cu_ow_bit (cu_W_lt _ _ _ _ _ _) i16] at hnx
          clear v1 v2 val ih
          generalize (cu_W (μ 4 0) (μ 5 0) (μ 6 0) s N a).testBit i = x at hnx ⊢
          generalize (cu_W (μ 4 0) (μ 5 0) (μ 6 0) s N c).testBit i = y at hnx ⊢
          have F := hnx false 0
          have T := hnx true (ma_shl 1 i)
          clear hnx
          have r1 : (0 ≤ ((b : Nat) : Int) ∧ ((b : Nat) : Int) < 48) := by omega
          have r2 : (-2147483648 ≤ (((i : Nat) : Int) + 1) ∧ (((i : Nat) : Int) + 1) < 2147483648) := by omega
          refine ⟨fun e1 => ⟨fun e2 => ⟨fun e3 => ?_, fun e3 => ?_⟩, fun e2 => ?_⟩, fun e1 => ?_⟩
          · rw [if_neg e1, if_neg e2, if_neg e3] at F T
            refine ⟨fun z => ⟨r1, r2, ?_⟩, fun z => ⟨r1, r2, ?_⟩⟩ <;> cases x <;> simp_all [cu_01]
          · rw [if_neg e1, if_neg e2, if_pos e3] at F T
            refine ⟨fun z => ⟨r1, r2, ?_⟩, fun z => ⟨r1, r2, ?_⟩⟩ <;> cases x <;> cases y <;> simp_all [cu_01]
          · rw [if_neg e1, if_pos e2] at F T
            refine ⟨fun z => ⟨r1, r2, ?_⟩, fun z => ⟨fun z2 => ⟨r1, r2, ?_⟩, fun z2 => ⟨r1, r2, ?_⟩⟩⟩ <;> cases x <;> cases y <;> simp_all [cu_01]
          · rw [if_pos e1] at F T
            refine ⟨fun z => ⟨r1, r2, ?_⟩, fun z => ⟨fun z2 => ⟨r1, r2, ?_⟩, fun z2 => ⟨r1, r2, ?_⟩⟩⟩ <;> cases x <;> cases y <;> simp_all [cu_01]
      exact lp 16 0 0 _ _ _ m0 (by omega) (fun _ _ => rfl) (fun _ _ => rfl) a3 (by omega) (fun j hj => by rw [Nat.zero_testBit, decide_eq_false (by omega)]; rfl)
  -- the first loop
  have l1 : ∀ (k i : Nat) (u3 u7 : ma_V) (m : ma_M), i + k = N → (∀ c : Nat, c ≠ 88 → m c = μ c) → (∀ i : Int, i < 4 * b ∨ 4 * b + 4 ≤ i → m 88 0 i = μ 88 0 i) → cu_ins88 m b s i → R 6 [ma_Rf 69 0, ma_I b, ma_L s, u3, ma_I g, ma_I (cu_cnt s i : Nat), ma_I i, u7] [] 0 m := by
    intro k
    induction k with
    | zero =>
      intro i u3 u7 m hi a1 a2 a3
      have ei : i = N := by omega
      subst ei
      have e69 : m 69 0 8 = (i : Int) := by rw [a1 69 (by decide)]; exact e8
      have fin : ∀ w : Int, w = (if g < 0 then 43690 else 0) → R 76 [ma_Rf 69 0, ma_I b, ma_L s, ma_U, ma_I g, ma_U, ma_I 0, ma_U] [] 0 (ma_up (ma_up m 87 0 b (cu_cnt s i : Nat)) 86 0 b w) := by
        intro w hw
        refine l2 _ (fun c c1 c2 c3 => by rw [ma_up_ck c1, ma_up_ck c2]; exact a1 c c3) (fun j hj => ⟨by rw [ma_up_ne (by omega), ma_up_ck (by decide), a1 86 (by decide)], by rw [ma_up_ck (by decide), ma_up_ne (by omega), a1 87 (by decide)]⟩) (by rw [ma_up_eq, hw]) (by rw [ma_up_ck (by decide), ma_up_eq, c48]) (fun j hj => by rw [ma_up_ck (by decide), ma_up_ck (by decide)]; exact a2 j hj) (fun x hx z => by rw [ma_up_ck (by decide), ma_up_ck (by decide)]; exact a3 x hx z) _ _ _
      refine s_LatticefitModel_tabled_6 hR ⟨fun _ => ⟨by omega, fun q => fin 0 (by rw [if_neg (by omega)]), fun q => fin 43690 (by rw [if_pos q])⟩, fun q => by omega⟩
    | succ k ih =>
      intro i u3 u7 m hi a1 a2 a3
      have e69 : m 69 0 8 = (N : Int) := by rw [a1 69 (by decide)]; exact e8
      refine s_LatticefitModel_tabled_6 hR ⟨fun q => by omega, fun _ => ?_⟩
      rw [cu_bitq s48 (by omega), show ((i : Nat) : Int) + 1 = ((i + 1 : Nat) : Int) from by omega]
      by_cases hbi : s.testBit i = true
      · have lt := cu_cnt_lt48 (show i < 48 by omega) hbi
        have ec : cu_cnt s (i + 1) = cu_cnt s i + 1 := by rw [cu_cnt_succ, if_pos hbi]
        rw [if_pos hbi]
        refine ⟨fun q => absurd rfl q, fun _ => ⟨by omega, by omega, by omega, by omega, by omega, ?_⟩⟩
        rw [show (4 : Int) * (b : Int) + ((cu_cnt s i : Nat) : Int) = ((4 * b + cu_cnt s i : Nat) : Int) from by omega, show ((cu_cnt s i : Nat) : Int) + 1 = ((cu_cnt s (i + 1) : Nat) : Int) from by omega]
        refine ih (i + 1) _ _ _ (by omega) (fun c hc => by rw [ma_up_ck hc]; exact a1 c hc) (fun j hj => by rw [ma_up_ne (by omega)]; exact a2 j hj) (fun x hx z => ?_)
        by_cases e : x = i
        · rw [e, ma_up_eq]
        · have := cu_cnt_mono (s := s) (show x + 1 ≤ i by omega)
          rw [cu_cnt_succ, if_pos z] at this
          rw [ma_up_ne (by omega)]; exact a3 x (by omega) z
      · rw [if_neg hbi]
        refine ⟨fun _ => ⟨by omega, ?_⟩, fun q => absurd q (by decide)⟩
        have ec : cu_cnt s i = cu_cnt s (i + 1) := by rw [cu_cnt_succ, if_neg hbi]; omega
        rw [ec]
        refine ih (i + 1) _ _ m (by omega) a1 a2 (fun x hx z => ?_)
        by_cases e : x = i
        · rw [e] at z; exact absurd z hbi
        · exact a3 x (by omega) z
  exact l1 N 0 _ _ μ (by omega) (fun _ _ => rfl) (fun _ _ => rfl) (fun x hx => absurd hx (Nat.not_lt_zero x))
