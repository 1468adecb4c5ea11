/-! flip -/
theorem fl_rng {x k : Int} (hx : 0 ≤ x ∧ x ≤ 65535) (h0 : 0 ≤ k) (h1 : k < 16) : 0 ≤ ma_xor x (ma_shl 1 k) ∧ ma_xor x (ma_shl 1 k) ≤ 65535 := by
  rw [ma_shl_one h0 (by omega), show x = ((x.toNat : Nat) : Int) from by omega]
  have hk : 2 ^ k.toNat < 2 ^ 16 := Nat.pow_lt_pow_right (by decide) (by omega)
  rw [ma_xor_nat _ _ (by omega) (by omega)]
  have := Nat.xor_lt_two_pow (n := 16) (x := x.toNat) (y := 2 ^ k.toNat) (by omega) hk
  omega
