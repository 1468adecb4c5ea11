/-! the chip's tables say what the gates say -/
theorem tb_sh : ∀ k : Fin 32, ((Int32.ofInt ((k.1 : Nat) : Int)) &&& 31).toBitVec.smod 32 = BitVec.ofNat 32 k.1 := by decide
theorem ma_shr_nat (a k : Nat) (ha : a < 2147483648) (hk : k < 32) : ma_shr a k = ((a >>> k : Nat) : Int) := by
  show (Int32.ofInt a >>> (Int32.ofInt k &&& 31)).toBitVec.toInt = _
  have e := tb_sh ⟨k, hk⟩
  simp only at e
  have hm : (BitVec.ofNat 32 a).msb = false := by
    rw [BitVec.msb_eq_decide, bt_toNat a ha]; exact decide_eq_false (by omega)
  have hk2 : (BitVec.ofNat 32 k).toNat = k := bt_toNat k (by omega)
  have hs : a >>> k < 2147483648 := Nat.lt_of_le_of_lt (by rw [Nat.shiftRight_eq_div_pow]; exact Nat.div_le_self _ _) ha
  rw [Int32.toBitVec_shiftRight, bt_ofInt, e, BitVec.sshiftRight', hk2, BitVec.sshiftRight_eq_of_msb_false hm, bt_toInt] <;> rw [BitVec.toNat_ushiftRight, bt_toNat a ha]
  exact hs
theorem tb_and (W R : Nat) (hW : W < 65536) (hR : R < 16) : ma_and (ma_shr (W : Int) (R : Int)) 1 = cu_01 (W.testBit R) := by
  rw [ma_shr_nat W R (by omega) (by omega)]
  have hs : W >>> R < 2147483648 := Nat.lt_of_le_of_lt (by rw [Nat.shiftRight_eq_div_pow]; exact Nat.div_le_self _ _) (show W < 2147483648 by omega)
  have e := ma_and_nat (W >>> R) 1 hs (by decide)
  rw [show ((1 : Nat) : Int) = 1 from rfl] at e
  rw [e, Nat.and_one_is_mod, Nat.testBit_eq_decide_div_mod_eq, ← Nat.shiftRight_eq_div_pow]
  unfold cu_01
  by_cases h : W >>> R % 2 = 1
  · rw [decide_eq_true h, h]; rfl
  · rw [decide_eq_false h, show W >>> R % 2 = 0 from by omega]; rfl
theorem tb4 : ∀ a b c e : Fin 2, ma_or (ma_or (ma_or (ma_or 0 (ma_shl ((a.1 : Nat) : Int) 0)) (ma_shl ((b.1 : Nat) : Int) 1)) (ma_shl ((c.1 : Nat) : Int) 2)) (ma_shl ((e.1 : Nat) : Int) 3) = ((a.1 + 2 * b.1 + 4 * c.1 + 8 * e.1 : Nat) : Int) ∧ (a.1 + 2 * b.1 + 4 * c.1 + 8 * e.1 < 16) ∧ Nat.testBit (a.1 + 2 * b.1 + 4 * c.1 + 8 * e.1) 0 = decide (a.1 = 1) ∧ Nat.testBit (a.1 + 2 * b.1 + 4 * c.1 + 8 * e.1) 1 = decide (b.1 = 1) ∧ Nat.testBit (a.1 + 2 * b.1 + 4 * c.1 + 8 * e.1) 2 = decide (c.1 = 1) ∧ Nat.testBit (a.1 + 2 * b.1 + 4 * c.1 + 8 * e.1) 3 = decide (e.1 = 1) := by decide
theorem tb_fin {x : Int} (h : x = 0 ∨ x = 1) : ∃ a : Fin 2, x = ((a.1 : Nat) : Int) ∧ decide (x = 1) = decide (a.1 = 1) := by
  rcases h with rfl | rfl
  · exact ⟨0, rfl, rfl⟩
  · exact ⟨1, rfl, rfl⟩
theorem tb_row {X : Int → Int} (h : ∀ j : Int, 0 ≤ j → j < 4 → X j = 0 ∨ X j = 1) : ∃ R : Nat, R < 16 ∧ ch_bits X 4 = (R : Int) ∧ ∀ j : Nat, j < 4 → R.testBit j = decide (X j = 1) := by
  obtain ⟨a, a1, a2⟩ := tb_fin (h 0 (by decide) (by decide))
  obtain ⟨b, b1, b2⟩ := tb_fin (h 1 (by decide) (by decide))
  obtain ⟨c, c1, c2⟩ := tb_fin (h 2 (by decide) (by decide))
  obtain ⟨e, e1, e2⟩ := tb_fin (h 3 (by decide) (by decide))
  obtain ⟨t0, t1, t2, t3, t4, t5⟩ := tb4 a b c e
  refine ⟨a.1 + 2 * b.1 + 4 * c.1 + 8 * e.1, t1, ?_, fun j hj => ?_⟩
  · rw [← t0, ← a1, ← b1, ← c1, ← e1]; rfl
  · have : j = 0 ∨ j = 1 ∨ j = 2 ∨ j = 3 := by omega
    rcases this with rfl | rfl | rfl | rfl
    · rw [t2]; exact a2.symm
    · rw [t3]; exact b2.symm
    · rw [t4]; exact c2.symm
    · rw [t5]; exact e2.symm
/-- a covered gate's word, at a row -/
theorem tb_cover {μ : ma_M} (Hc : rl_c μ) {V : Int → Int} (hV : cv_ok μ V (μ 3 0 10)) {s R : Nat} (hs : cu_cnt s 48 ≤ 4) (hR : R < 16) (hX : ∀ n : Nat, (n : Int) < μ 3 0 10 → s.testBit n = true → R.testBit (cu_cnt s n) = decide (V n = 1)) : ∀ n : Nat, (n : Int) < μ 3 0 10 → cu_Cv (μ 4 0) (μ 5 0) (μ 6 0) s n → (cu_W (μ 4 0) (μ 5 0) (μ 6 0) s (μ 3 0 10).toNat n).testBit R = decide (V n = 1) := by
  intro n
  induction n using Nat.strongRecOn with
  | _ n ih =>
    intro hn hc
    have N1 := Hc.2.1
    rw [cu_W_eq (cu_wf2_of Hc) (by omega)]
    by_cases b : s.testBit n = true
    · rw [if_pos b]
      have c4 := cu_cnt_lt48 (s := s) (n := n) (by omega) b
      have := cu_pt_bit ⟨R, hR⟩ ⟨cu_cnt s n, by omega⟩
      simp only at this
      rw [this]; exact hX n hn b
    · rcases cu_Cv_inv hc with a | ⟨a, c1, c2⟩
      · exact absurd a b
      rw [if_neg b, if_neg a, cu_ow_bit (cu_W_lt _ _ _ _ _ _) hR]
      have a5 : μ 4 0 n ≠ 105 := fun z => a (.inl z)
      have a4 : μ 4 0 n ≠ 114 := fun z => a (.inr z)
      have g := cv_gate Hc (n := n) (by omega) hn a5 a4
      have kd := (Hc.2.2.2.2.2.2.2.2.2.2.2.2.1 n (by omega) hn).2.1
      have v1 := (hV _ g.2.1 (by omega)).1
      have v2 := (hV _ g.2.2.2.2.1 (by omega)).1
      have i1 := ih (μ 5 0 n).toNat (by omega) (by omega) c1
      have i2 := fun z : μ 4 0 n ≠ 110 => ih (μ 6 0 n).toNat (by omega) (by omega) (c2 z)
      rw [show (((μ 5 0 n).toNat : Nat) : Int) = μ 5 0 n from by omega] at i1
      rw [show (((μ 6 0 n).toNat : Nat) : Int) = μ 6 0 n from by omega] at i2
      have e := (hV n (by omega) hn).2
      unfold cv_eq at e
      rw [if_neg a5, if_neg a4] at e
      rw [i1]
      by_cases q1 : μ 4 0 n = 97
      · rw [if_pos q1] at e ⊢
        rw [i2 (by omega), e]
        rcases v1 with v1 | v1 <;> rcases v2 with v2 | v2 <;> rw [v1, v2] <;> rfl
      · rw [if_neg q1] at e ⊢
        by_cases q2 : μ 4 0 n = 111
        · rw [if_pos q2] at e ⊢
          rw [i2 (by omega), e]
          rcases v1 with v1 | v1 <;> rcases v2 with v2 | v2 <;> rw [v1, v2] <;> rfl
        · rw [if_neg q2] at e ⊢
          by_cases q3 : μ 4 0 n = 120
          · rw [if_pos q3] at e ⊢
            rw [i2 (by omega), e]
            rcases v1 with v1 | v1 <;> rcases v2 with v2 | v2 <;> rw [v1, v2] <;> rfl
          · rw [if_neg q3] at e ⊢
            rw [e]
            rcases v1 with v1 | v1 <;> rw [v1] <;> rfl
theorem cu_01_V {v : Int} (h : v = 0 ∨ v = 1) : cu_01 (decide (v = 1)) = v := by rcases h with rfl | rfl <;> rfl
/-- a block's table, where its inputs are seen right -/
theorem tb_blk {μ : ma_M} {w : Int → Int → Int} (H : bd_H μ) (hw : fr_w μ w) {V g r t : Int → Int} (hV : cv_ok μ V (μ 3 0 10)) {b : Nat} (hb : (b : Int) < μ 21 0 7) (seen : ∀ k : Int, 0 ≤ k → k < μ 25 0 b → ch_val g r t (bE μ (μ 27 b k)) = V (μ 27 b k)) :
    (∀ n s : Nat, (n : Int) < μ 3 0 10 → cu_bG μ b n s (μ 3 0 10).toNat → cu_Cv (μ 4 0) (μ 5 0) (μ 6 0) s n → ch_next w g r t (μ 32 0 b) = V n) ∧ (∀ f : Int, 0 ≤ f → f < μ 3 0 10 → cu_bR μ b f → ch_next w g r t (μ 32 0 b) = V f) := by
  have Hc := H.1.1
  have N1 := Hc.2.1
  have pb := H.1.2.2.1.1 b (by omega) hb
  have B := H.1.2.1.2.2.2.2.1 b (by omega) hb
  have e0 : w (μ 32 0 b / 6) (6 * (μ 32 0 b % 6)) = μ 24 0 b := by
    have e := bS_cell H hb (o := 0) (by omega) (by omega)
    rw [hw _ _ (by omega) (by omega) (by omega) (by omega), show 36 * (μ 32 0 b / 6) + 6 * (μ 32 0 b % 6) = 6 * μ 32 0 b + 0 from by omega, e]
    unfold bd_b
    rw [if_pos rfl]
  have X1 : ∀ j : Int, 0 ≤ j → j < 4 → j < μ 25 0 b → ch_x w g r t (μ 32 0 b) j = V (μ 27 b j) := fun j j0 j1 j2 => by
    unfold ch_x
    rw [((ch_in H hw hb j0 j1).1 j2).2]
    exact seen j j0 j2
  have X0 : ∀ j : Int, 0 ≤ j → j < 4 → μ 25 0 b ≤ j → ch_x w g r t (μ 32 0 b) j = 0 := fun j j0 j1 j2 => by
    unfold ch_x
    rw [(ch_in H hw hb j0 j1).2 j2]
    unfold ch_val
    rw [if_neg (by omega), if_neg (by omega)]
  have X01 : ∀ j : Int, 0 ≤ j → j < 4 → ch_x w g r t (μ 32 0 b) j = 0 ∨ ch_x w g r t (μ 32 0 b) j = 1 := fun j j0 j1 => by
    by_cases q : j < μ 25 0 b
    · rw [X1 j j0 j1 q]
      have t := B.2.2.2.2.2.2.2.2.1 j j0 q
      exact (hV _ t.2.1 t.2.2.1).1
    · exact .inl (X0 j j0 j1 (by omega))
  obtain ⟨R, R1, R2, R3⟩ := tb_row X01
  have nx : ∀ W : Nat, W < 65536 → μ 24 0 b = (W : Int) → ch_next w g r t (μ 32 0 b) = cu_01 (W.testBit R) := fun W hW e => by
    unfold ch_next
    rw [e0, R2, e, tb_and W R hW R1]
  refine ⟨fun n s hn hG hC => ?_, fun f f0 f1 hB => ?_⟩
  · obtain ⟨y1, y2, y3, y4⟩ := hG
    have s4 : cu_cnt s 48 ≤ 4 := by have := B.2.2.2.2.2.2.2.1; omega
    rw [nx _ (cu_W_lt _ _ _ _ _ _) y2, tb_cover Hc hV s4 R1 (fun m hm hbm => ?_) n hn hC]
    · exact cu_01_V (hV n (by omega) hn).1
    · have c4 := cu_cnt_lt48 (s := s) (n := m) (by omega) hbm
      rw [R3 _ (by omega), X1 _ (by omega) (by omega) (by omega), y4 m (by omega) hbm]
  · obtain ⟨y1, y2, y3, y4⟩ := hB
    have e := cu_pt_bit ⟨R, R1⟩ ⟨0, by decide⟩
    simp only at e
    rw [nx 43690 (by decide) y2, show (43690 : Nat) = cu_pt 0 from rfl, e, R3 0 (by decide)]
    have x0 := X1 0 (by omega) (by omega) (by omega)
    rw [y4] at x0
    rw [show ((0 : Nat) : Int) = 0 from rfl, x0]
    exact cu_01_V (hV f f0 f1).1
