/-! bits of small numbers -/
theorem bt_toInt (x : BitVec 32) (h : x.toNat < 2147483648) : x.toInt = (x.toNat : Int) := BitVec.toInt_eq_toNat_of_lt (by omega)
theorem bt_ofInt (a : Nat) : (Int32.ofInt (a : Int)).toBitVec = BitVec.ofNat 32 a := by
  rw [Int32.toBitVec_ofInt, BitVec.ofInt_natCast]
theorem bt_toNat (a : Nat) (h : a < 2147483648) : (BitVec.ofNat 32 a).toNat = a := by
  rw [BitVec.toNat_ofNat]; exact Nat.mod_eq_of_lt (by omega)
theorem ma_xor_nat (a b : Nat) (ha : a < 2147483648) (hb : b < 2147483648) : ma_xor a b = ((a ^^^ b : Nat) : Int) := by
  have h : a ^^^ b < 2147483648 := Nat.xor_lt_two_pow (n := 31) ha hb
  show (Int32.ofInt a ^^^ Int32.ofInt b).toBitVec.toInt = _
  rw [Int32.toBitVec_xor, bt_ofInt, bt_ofInt, bt_toInt] <;> rw [BitVec.toNat_xor, bt_toNat a ha, bt_toNat b hb]
  exact h
theorem ma_and_nat (a b : Nat) (ha : a < 2147483648) (hb : b < 2147483648) : ma_and a b = ((a &&& b : Nat) : Int) := by
  have h : a &&& b < 2147483648 := Nat.and_lt_two_pow (n := 31) a hb
  show (Int32.ofInt a &&& Int32.ofInt b).toBitVec.toInt = _
  rw [Int32.toBitVec_and, bt_ofInt, bt_ofInt, bt_toInt] <;> rw [BitVec.toNat_and, bt_toNat a ha, bt_toNat b hb]
  exact h
theorem ma_or_nat (a b : Nat) (ha : a < 2147483648) (hb : b < 2147483648) : ma_or a b = ((a ||| b : Nat) : Int) := by
  have h : a ||| b < 2147483648 := Nat.or_lt_two_pow (n := 31) ha hb
  show (Int32.ofInt a ||| Int32.ofInt b).toBitVec.toInt = _
  rw [Int32.toBitVec_or, bt_ofInt, bt_ofInt, bt_toInt] <;> rw [BitVec.toNat_or, bt_toNat a ha, bt_toNat b hb]
  exact h
/-- a shift by less than 32: the general form, by cases on the shift -/
theorem ma_shl_one {k : Int} (h0 : 0 ≤ k) (h1 : k < 31) : ma_shl 1 k = ((2 ^ k.toNat : Nat) : Int) := by
  have h : ∀ n : Fin 31, ma_shl 1 ((n.1 : Nat) : Int) = ((2 ^ n.1 : Nat) : Int) := by decide
  have := h ⟨k.toNat, by omega⟩
  rw [show ((k.toNat : Nat) : Int) = k from by omega] at this
  exact this

