/-! the class's tables -/
/-- a block of a gate; a block of a register alone -/
def cu_bG (μ : ma_M) (b : Int) (g s N : Nat) : Prop := μ 22 0 b = g ∧ μ 24 0 b = (cu_W (μ 4 0) (μ 5 0) (μ 6 0) s N g : Int) ∧ μ 25 0 b = (cu_cnt s 48 : Int) ∧ ∀ n : Nat, n < N → s.testBit n = true → μ 27 b (cu_cnt s n : Nat) = n
def cu_bR (μ : ma_M) (b f : Int) : Prop := μ 22 0 b = -1 ∧ μ 24 0 b = 43690 ∧ μ 25 0 b = 1 ∧ μ 27 b 0 = f
theorem cu_not16 (a : Nat) (ha : a < 65536) : ma_and (ma_xor (a : Int) (-1)) 65535 = ((65535 - a : Nat) : Int) := by
  have e1 : (Int32.ofInt (a : Int)).toBitVec = BitVec.ofNat 32 a := bt_ofInt a
  have e2 : (Int32.ofInt (-1)).toBitVec = BitVec.allOnes 32 := by decide
  have e3 : (Int32.ofInt (a : Int) ^^^ Int32.ofInt (-1)).toBitVec = ~~~ (BitVec.ofNat 32 a) := by
    rw [Int32.toBitVec_xor, e1, e2, BitVec.xor_allOnes]
  have e4 : (~~~ (BitVec.ofNat 32 a)).toNat = 4294967295 - a := by
    rw [BitVec.toNat_not, BitVec.toNat_ofNat]; omega
  have e5 : Int32.ofInt (ma_xor (a : Int) (-1)) = Int32.ofInt (a : Int) ^^^ Int32.ofInt (-1) := by
    unfold ma_xor; exact Int32.ofInt_toInt _
  have e6 : (Int32.ofInt 65535).toBitVec = BitVec.ofNat 32 65535 := bt_ofInt 65535
  have e7 : ((Int32.ofInt (ma_xor (a : Int) (-1)) &&& Int32.ofInt 65535).toBitVec).toNat = 65535 - a := by
    rw [e5, Int32.toBitVec_and, e3, e6, BitVec.toNat_and, e4, BitVec.toNat_ofNat]
    have := Nat.and_two_pow_sub_one_eq_mod (4294967295 - a) 16
    rw [show (2 : Nat) ^ 16 - 1 = 65535 from rfl] at this
    rw [show 65535 % 2 ^ 32 = 65535 from rfl, this]; omega
  show ((Int32.ofInt (ma_xor (a : Int) (-1)) &&& Int32.ofInt 65535).toBitVec).toInt = _
  rw [BitVec.toInt_eq_toNat_of_lt (by rw [e7]; omega), e7]
theorem sp_putGate {LS d : Nat} {Post : ma_R → ma_M → Prop} {μ : ma_M} {N s b g : Nat} (hN : N ≤ 48) (hw : cu_wf2 (μ 4 0) (μ 5 0) (μ 6 0) N) (hg : g < N) (hgg : ¬ (μ 4 0 g = 105 ∨ μ 4 0 g = 114)) (hk : ∀ k : Nat, k < N → μ 4 0 k = 105 ∨ μ 4 0 k = 114 ∨ μ 4 0 k = 97 ∨ μ 4 0 k = 111 ∨ μ 4 0 k = 120 ∨ μ 4 0 k = 110) (hs : s < 2 ^ g) (h4 : cu_cnt s 48 ≤ 4) (hb : b < 48) (eb : μ 21 0 7 = (b : Int)) (hp : ∀ j : Nat, j < 4 → μ 1 0 j = (cu_pt j : Int))
    (h : ∀ m : ma_M, (∀ c : Nat, c ≠ 22 → c ≠ 24 → c ≠ 25 → c ≠ 27 → c ≠ 28 → c ≠ 30 → m c = μ c) → (∀ i : Int, i ≠ b → m 22 0 i = μ 22 0 i ∧ m 24 0 i = μ 24 0 i ∧ m 25 0 i = μ 25 0 i ∧ ∀ j, m 27 i j = μ 27 i j) → (∀ i : Int, i ≠ g → m 28 0 i = μ 28 0 i) → m 28 0 g = b → cu_bG m b g s N → Post (.inl none) m) :
    ma_Ox LS (d + 2) mi_Blocks_putGate [ma_Rf 21 0, ma_I g, ma_L s] μ Post := by
  have s48 := cu_p48 (show g ≤ 48 by omega) hs
  have c48 : cu_cnt s 48 = cu_cnt s (g + 1) := by
    have := cu_cnt_more (Nat.lt_trans hs (Nat.pow_lt_pow_right (by omega) (Nat.lt_succ_self g))) (48 - (g + 1))
    rwa [show g + 1 + (48 - (g + 1)) = 48 from by omega] at this
  refine gi_Blocks_putGate (fun R hR => s_Blocks_putGate_0 hR ?_)
  have lp : ∀ (k i : Nat) (u3 : ma_V) (m : ma_M), i + k = g + 1 → (∀ c : Nat, c ≠ 27 → c ≠ 30 → m c = μ c) → (∀ r : Int, r ≠ b → ∀ j, m 27 r j = μ 27 r j) → (∀ n : Nat, n < i → s.testBit n = true → m 27 b (cu_cnt s n : Nat) = n) → (∀ n : Nat, n < i → m 30 0 n = (cu_W (μ 4 0) (μ 5 0) (μ 6 0) s N n : Int)) → R 6 [ma_Rf 21 0, ma_I g, ma_L s, u3, ma_I (cu_cnt s i : Nat), ma_I i] [] 0 m := by
    intro k
    induction k with
    | zero =>
      intro i u3 m hi a1 a2 a3 a4
      have ei : i = g + 1 := by omega
      subst ei
      have e21 : m 21 0 7 = (b : Int) := by rw [a1 21 (by decide) (by decide)]; exact eb
      refine s_Blocks_putGate_6 hR ⟨fun _ => ⟨by omega, by omega, ?_⟩, fun q => by omega⟩
      rw [e21]
      refine h _ (fun c c1 c2 c3 c4 c5 c6 => by rw [ma_up_ck c5, ma_up_ck c3, ma_up_ck c2, ma_up_ck c1]; exact a1 c c4 c6) (fun j hj => ⟨?_, ?_, ?_, fun x => ?_⟩) (fun j hj => ?_) ma_up_eq ⟨?_, ?_, ?_, fun n hn hbn => ?_⟩
      · rw [ma_up_ck (by decide), ma_up_ck (by decide), ma_up_ck (by decide), ma_up_ne (by omega), a1 22 (by decide) (by decide)]
      · rw [ma_up_ck (by decide), ma_up_ck (by decide), ma_up_ne (by omega), ma_up_ck (by decide), a1 24 (by decide) (by decide)]
      · rw [ma_up_ck (by decide), ma_up_ne (by omega), ma_up_ck (by decide), ma_up_ck (by decide), a1 25 (by decide) (by decide)]
      · rw [ma_up_ck (by decide), ma_up_ck (by decide), ma_up_ck (by decide), ma_up_ck (by decide)]; exact a2 j hj x
      · rw [ma_up_ne (by omega), ma_up_ck (by decide), ma_up_ck (by decide), ma_up_ck (by decide), a1 28 (by decide) (by decide)]
      · rw [ma_up_ck (by decide), ma_up_ck (by decide), ma_up_ck (by decide), ma_up_eq]
      · rw [ma_up_ck (by decide), ma_up_ck (by decide), ma_up_eq]
        simp only [ma_up_ck (show (4 : Nat) ≠ 28 by decide), ma_up_ck (show (4 : Nat) ≠ 25 by decide), ma_up_ck (show (4 : Nat) ≠ 24 by decide), ma_up_ck (show (4 : Nat) ≠ 22 by decide), ma_up_ck (show (5 : Nat) ≠ 28 by decide), ma_up_ck (show (5 : Nat) ≠ 25 by decide), ma_up_ck (show (5 : Nat) ≠ 24 by decide), ma_up_ck (show (5 : Nat) ≠ 22 by decide), ma_up_ck (show (6 : Nat) ≠ 28 by decide), ma_up_ck (show (6 : Nat) ≠ 25 by decide), ma_up_ck (show (6 : Nat) ≠ 24 by decide), ma_up_ck (show (6 : Nat) ≠ 22 by decide)]
        rw [a1 4 (by decide) (by decide), a1 5 (by decide) (by decide), a1 6 (by decide) (by decide)]
        exact a4 g (by omega)
      · rw [ma_up_ck (by decide), ma_up_eq, c48]
      · rw [ma_up_ck (by decide), ma_up_ck (by decide), ma_up_ck (by decide), ma_up_ck (by decide)]
        refine a3 n ?_ hbn
        by_cases e : n < g + 1
        · exact e
        · rw [Nat.testBit_lt_two_pow (Nat.lt_of_lt_of_le hs (Nat.pow_le_pow_right (by omega) (show g ≤ n by omega)))] at hbn
          exact absurd hbn (by decide)
    | succ k ih =>
      intro i u3 m hi a1 a2 a3 a4
      have e21 : m 21 0 7 = (b : Int) := by rw [a1 21 (by decide) (by decide)]; exact eb
      have e4 : m 4 0 i = μ 4 0 i := by rw [a1 4 (by decide) (by decide)]
      have e5 : m 5 0 i = μ 5 0 i := by rw [a1 5 (by decide) (by decide)]
      have e6 : m 6 0 i = μ 6 0 i := by rw [a1 6 (by decide) (by decide)]
      have iN : i < N := by omega
      have hW := cu_W_eq (s := s) hw iN
      refine s_Blocks_putGate_6 hR ⟨fun q => by omega, fun _ => ?_⟩
      rw [cu_bitq s48 (by omega), show ((i : Nat) : Int) + 1 = ((i + 1 : Nat) : Int) from by omega]
      by_cases hbi : s.testBit i = true
      · have lt := cu_cnt_lt48 (show i < 48 by omega) hbi
        have ec : cu_cnt s (i + 1) = cu_cnt s i + 1 := by rw [cu_cnt_succ, if_pos hbi]
        rw [if_pos hbi] at hW
        rw [if_pos hbi]
        refine ⟨fun q => absurd q (by decide), fun _ => ⟨fun q => by omega, fun _ => ⟨by omega, by omega, by omega, by omega, by omega, ?_⟩⟩⟩
        rw [show ((cu_cnt s i : Nat) : Int) + 1 = ((cu_cnt s (i + 1) : Nat) : Int) from by omega, e21, a1 1 (by decide) (by decide), hp (cu_cnt s i) (by omega), ← hW]
        refine ih (i + 1) _ _ (by omega) (fun c c1 c2 => by rw [ma_up_ck c1, ma_up_ck c2]; exact a1 c c1 c2) (fun r hr j => by rw [ma_up_ne (by omega), ma_up_ck (by decide)]; exact a2 r hr j) (fun n hn z => ?_) (fun n hn => ?_)
        · by_cases e : n = i
          · rw [e, ma_up_eq]
          · have := cu_cnt_mono (s := s) (show n + 1 ≤ i by omega)
            rw [cu_cnt_succ, if_pos z] at this
            rw [ma_up_ne (by omega), ma_up_ck (by decide)]; exact a3 n (by omega) z
        · by_cases e : n = i
          · rw [e, ma_up_ck (by decide), ma_up_eq]
          · rw [ma_up_ck (by decide), ma_up_ne (by omega)]; exact a4 n (by omega)
      · have ec : cu_cnt s i = cu_cnt s (i + 1) := by rw [cu_cnt_succ, if_neg hbi]; omega
        rw [if_neg hbi] at hW
        have nx : ∀ w : Int, w = (cu_W (μ 4 0) (μ 5 0) (μ 6 0) s N i : Int) → R 6 [ma_Rf 21 0, ma_I g, ma_L s, ma_U, ma_I (cu_cnt s i : Nat), ma_I ((i + 1 : Nat) : Int)] [] 0 (ma_up m 30 0 i w) := by
          intro w hw
          rw [ec]
          refine ih (i + 1) _ _ (by omega) (fun c c1 c2 => by rw [ma_up_ck c2]; exact a1 c c1 c2) (fun r hr j => by rw [ma_up_ck (by decide)]; exact a2 r hr j) (fun n hn z => ?_) (fun n hn => ?_)
          · rw [ma_up_ck (by decide)]
            by_cases e : n = i
            · rw [e] at z; exact absurd z hbi
            · exact a3 n (by omega) z
          · by_cases e : n = i
            · rw [e, ma_up_eq, hw]
            · rw [ma_up_ne (by omega)]; exact a4 n (by omega)
        rw [if_neg hbi]
        refine ⟨fun _ => ?_, fun q => absurd rfl q⟩
        rw [e4, e5, e6]
        refine ⟨by omega, fun q1 => ⟨by omega, nx 0 (by rw [hW, if_pos (.inl q1)]; rfl)⟩, fun q1 => ⟨fun q2 => ⟨by omega, nx 0 (by rw [hW, if_pos (.inr q2)]; rfl)⟩, fun q2 => ?_⟩⟩
        have hgi : ¬ (μ 4 0 i = 105 ∨ μ 4 0 i = 114) := by intro z; rcases z with z | z; exact q1 z; exact q2 z
        rw [if_neg hgi] at hW
        obtain ⟨w1, w2, w3⟩ := hw i iN hgi
        obtain ⟨x, ex⟩ : ∃ x : Nat, μ 5 0 i = (x : Int) := ⟨(μ 5 0 i).toNat, by omega⟩
        obtain ⟨y, ey⟩ : ∃ y : Nat, μ 6 0 i = (y : Int) := ⟨(μ 6 0 i).toNat, by omega⟩
        rw [ex] at w1 hW
        rw [ey] at w2 hW
        simp only [Int.toNat_natCast] at hW
        have lx := cu_W_lt (μ 4 0) (μ 5 0) (μ 6 0) s N x
        have ly := cu_W_lt (μ 4 0) (μ 5 0) (μ 6 0) s N y
        rw [ex, ey, a4 x (by omega), a4 y (by omega)]
        generalize cu_W (μ 4 0) (μ 5 0) (μ 6 0) s N x = p at *
        generalize cu_W (μ 4 0) (μ 5 0) (μ 6 0) s N y = r at *
        unfold cu_ow at hW
        refine ⟨by omega, by omega, fun e1 => ⟨fun e2 => ⟨fun e3 => ⟨by omega, nx _ ?_⟩, fun e3 => ⟨by omega, nx _ ?_⟩⟩, fun e2 => ⟨by omega, nx _ ?_⟩⟩, fun e1 => ⟨by omega, nx _ ?_⟩⟩
        · rw [hW, if_neg e1, if_neg e2, if_neg e3]; exact cu_not16 p lx
        · rw [hW, if_neg e1, if_neg e2, if_pos e3]; exact ma_xor_nat p r (by omega) (by omega)
        · rw [hW, if_neg e1, if_pos e2]; exact ma_or_nat p r (by omega) (by omega)
        · rw [hW, if_pos e1]; exact ma_and_nat p r (by omega) (by omega)
  exact lp (g + 1) 0 _ μ (by omega) (fun _ _ _ => rfl) (fun _ _ _ => rfl) (fun n hn => absurd hn (Nat.not_lt_zero n)) (fun n hn => absurd hn (Nat.not_lt_zero n))

