/-! the reference's tables -/
theorem cu_ow_bit {kd : Int} {a b i : Nat} (ha : a < 65536) (hi : i < 16) : (cu_ow kd a b).testBit i = if kd = 97 then (a.testBit i && b.testBit i) else if kd = 111 then (a.testBit i || b.testBit i) else if kd = 120 then (a.testBit i != b.testBit i) else !a.testBit i := by
  unfold cu_ow
  split
  · rw [Nat.testBit_and]
  · split
    · rw [Nat.testBit_or]
    · split
      · rw [Nat.testBit_xor]
      · exact cu_not_bit ha hi
def cu_01 (b : Bool) : Int := if b = true then 1 else 0
