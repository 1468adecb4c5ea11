/-! the reference finds the cuts -/
theorem cu_bitq {s i : Nat} (hs : s < 281474976710656) (hi : i < 64) : ma_land (ma_lshr (s : Int) (i : Int)) 1 = if s.testBit i then 1 else 0 := by
  have h1 : s >>> i ≤ s := by rw [Nat.shiftRight_eq_div_pow]; exact Nat.div_le_self _ _
  have h2 : ma_land ((s >>> i : Nat) : Int) 1 = ((s >>> i &&& 1 : Nat) : Int) := ma_land_nat (s >>> i) 1 (by omega) (by omega)
  rw [ma_lshr_nat s i (by omega) hi, h2, Nat.and_one_is_mod, Nat.testBit_eq_decide_div_mod_eq, Nat.shiftRight_eq_div_pow]
  by_cases e : s / 2 ^ i % 2 = 1
  · rw [e, if_pos (by simp)]; rfl
  · rw [if_neg (by simpa using e), show s / 2 ^ i % 2 = 0 from by omega]; rfl
