/-! bits of longs, and how many there are -/
theorem lg_toInt (x : BitVec 64) (h : x.toNat < 9223372036854775808) : x.toInt = (x.toNat : Int) := BitVec.toInt_eq_toNat_of_lt (by omega)
theorem lg_ofInt (a : Nat) : (Int64.ofInt (a : Int)).toBitVec = BitVec.ofNat 64 a := by
  rw [Int64.toBitVec_ofInt, BitVec.ofInt_natCast]
theorem lg_toNat (a : Nat) (h : a < 9223372036854775808) : (BitVec.ofNat 64 a).toNat = a := by
  rw [BitVec.toNat_ofNat]; exact Nat.mod_eq_of_lt (by omega)
theorem ma_land_nat (a b : Nat) (ha : a < 9223372036854775808) (hb : b < 9223372036854775808) : ma_land a b = ((a &&& b : Nat) : Int) := by
  have h : a &&& b < 9223372036854775808 := Nat.and_lt_two_pow (n := 63) a hb
  show (Int64.ofInt a &&& Int64.ofInt b).toBitVec.toInt = _
  rw [Int64.toBitVec_and, lg_ofInt, lg_ofInt, lg_toInt] <;> rw [BitVec.toNat_and, lg_toNat a ha, lg_toNat b hb]
  exact h
theorem ma_lor_nat (a b : Nat) (ha : a < 9223372036854775808) (hb : b < 9223372036854775808) : ma_lor a b = ((a ||| b : Nat) : Int) := by
  have h : a ||| b < 9223372036854775808 := Nat.or_lt_two_pow (n := 63) ha hb
  show (Int64.ofInt a ||| Int64.ofInt b).toBitVec.toInt = _
  rw [Int64.toBitVec_or, lg_ofInt, lg_ofInt, lg_toInt] <;> rw [BitVec.toNat_or, lg_toNat a ha, lg_toNat b hb]
  exact h
theorem lg_sh : ∀ k : Fin 64, ((Int32.ofInt ((k.1 : Nat) : Int)).toInt64 &&& 63).toBitVec.smod 64 = BitVec.ofNat 64 k.1 := by decide
theorem lg_ush : ∀ k : Fin 64, ((Int32.ofInt ((k.1 : Nat) : Int)).toInt64.toUInt64 &&& Int64.toUInt64 63).toNat % 64 = k.1 := by decide
theorem lg_1 : ∀ k : Fin 63, ma_lshl 1 ((k.1 : Nat) : Int) = ((2 ^ k.1 : Nat) : Int) := by decide
theorem ma_lshl_one {k : Int} (h0 : 0 ≤ k) (h1 : k < 63) : ma_lshl 1 k = ((2 ^ k.toNat : Nat) : Int) := by
  have := lg_1 ⟨k.toNat, by omega⟩
  rw [show ((k.toNat : Nat) : Int) = k from by omega] at this
  exact this
theorem ma_lshr_nat (a k : Nat) (ha : a < 9223372036854775808) (hk : k < 64) : ma_lshr a k = ((a >>> k : Nat) : Int) := by
  show (Int64.ofInt a >>> ((Int32.ofInt k).toInt64 &&& 63)).toBitVec.toInt = _
  have e := lg_sh ⟨k, hk⟩
  simp only at e
  have hm : (BitVec.ofNat 64 a).msb = false := by
    rw [BitVec.msb_eq_decide, lg_toNat a ha]; exact decide_eq_false (by omega)
  have hk2 : (BitVec.ofNat 64 k).toNat = k := lg_toNat k (by omega)
  have hs : a >>> k < 9223372036854775808 := Nat.lt_of_le_of_lt (by rw [Nat.shiftRight_eq_div_pow]; exact Nat.div_le_self _ _) ha
  rw [Int64.toBitVec_shiftRight, lg_ofInt, e, BitVec.sshiftRight', hk2, BitVec.sshiftRight_eq_of_msb_false hm, lg_toInt] <;> rw [BitVec.toNat_ushiftRight, lg_toNat a ha]
  exact hs
theorem ma_lushr_nat (a k : Nat) (ha : a < 9223372036854775808) (hk : k < 64) : ma_lushr a k = ((a >>> k : Nat) : Int) := by
  show (((Int64.ofInt a).toUInt64 >>> ((Int32.ofInt k).toInt64.toUInt64 &&& Int64.toUInt64 63)).toBitVec).toInt = _
  have e := lg_ush ⟨k, hk⟩
  simp only at e
  have hs : a >>> k < 9223372036854775808 := Nat.lt_of_le_of_lt (by rw [Nat.shiftRight_eq_div_pow]; exact Nat.div_le_self _ _) ha
  have h2 : (((Int64.ofInt a).toUInt64 >>> ((Int32.ofInt k).toInt64.toUInt64 &&& Int64.toUInt64 63)).toBitVec).toNat = a >>> k := by
    show ((Int64.ofInt a).toUInt64 >>> ((Int32.ofInt k).toInt64.toUInt64 &&& Int64.toUInt64 63)).toNat = _
    rw [UInt64.toNat_shiftRight, e]
    show (Int64.ofInt a).toUInt64.toBitVec.toNat >>> k = _
    rw [Int64.toBitVec_toUInt64, lg_ofInt, lg_toNat a ha]
  rw [lg_toInt] <;> rw [h2]
  exact hs
theorem lg_wL_id {n : Int} (h : 0 ≤ n ∧ n < 9223372036854775808) : ma_wL n = n := Int.bmod_eq_of_le (by omega) (by omega)
theorem lg_wI_id {n : Int} (h : 0 ≤ n ∧ n < 2147483648) : ma_wI n = n := Int.bmod_eq_of_le (by omega) (by omega)
/-- bits of s below n that are set -/
def cu_cnt (s : Nat) : Nat → Nat
  | 0 => 0
  | n + 1 => cu_cnt s n + (if s.testBit n then 1 else 0)
theorem cu_cnt_le (s : Nat) : ∀ n, cu_cnt s n ≤ n
  | 0 => Nat.le_refl 0
  | n + 1 => by have := cu_cnt_le s n; simp only [cu_cnt]; split <;> omega
theorem cu_cnt_congr {s t : Nat} : ∀ n, (∀ i, i < n → s.testBit i = t.testBit i) → cu_cnt s n = cu_cnt t n
  | 0, _ => rfl
  | n + 1, h => by simp only [cu_cnt]; rw [cu_cnt_congr n (fun i hi => h i (by omega)), h n (by omega)]
theorem cu_cnt_more {s : Nat} {n : Nat} (h : s < 2 ^ n) : ∀ k, cu_cnt s (n + k) = cu_cnt s n
  | 0 => rfl
  | k + 1 => by
    show cu_cnt s (n + k) + (if s.testBit (n + k) then 1 else 0) = _
    rw [Nat.testBit_lt_two_pow (Nat.lt_of_lt_of_le h (Nat.pow_le_pow_right (by omega) (by omega)))]
    rw [cu_cnt_more h k]; rfl
theorem cu_tb_add {a y j : Nat} (ha : a < 256) : (a + 256 * y).testBit j = if j < 8 then a.testBit j else y.testBit (j - 8) := by
  have := Nat.testBit_two_pow_mul_add (i := 8) y ha j
  rw [← this, Nat.add_comm]
theorem cu_and_add {a y c d : Nat} (ha : a < 256) (hc : c < 256) : (a + 256 * y) &&& (c + 256 * d) = (a &&& c) + 256 * (y &&& d) := by
  apply Nat.eq_of_testBit_eq; intro j
  rw [Nat.testBit_and, cu_tb_add ha, cu_tb_add hc, cu_tb_add (Nat.and_lt_two_pow (n := 8) a hc)]
  by_cases hj : j < 8
  · rw [if_pos hj, if_pos hj, if_pos hj, Nat.testBit_and]
  · rw [if_neg hj, if_neg hj, if_neg hj, Nat.testBit_and]
theorem cu_cnt_succ (s n : Nat) : cu_cnt s (n + 1) = cu_cnt s n + (if s.testBit n then 1 else 0) := rfl
theorem cu_cnt_add {a y : Nat} (ha : a < 256) : ∀ n, cu_cnt (a + 256 * y) (8 + n) = cu_cnt a 8 + cu_cnt y n := by
  intro n
  induction n with
  | zero =>
    rw [Nat.add_zero, show cu_cnt y 0 = 0 from rfl, Nat.add_zero]
    exact cu_cnt_congr 8 (fun i hi => by rw [cu_tb_add ha, if_pos hi])
  | succ n ih =>
    have e : (a + 256 * y).testBit (8 + n) = y.testBit n := by rw [cu_tb_add ha, if_neg (by omega), show 8 + n - 8 = n from by omega]
    rw [← Nat.add_assoc, cu_cnt_succ (a + 256 * y) (8 + n), ih, cu_cnt_succ y n, e, Nat.add_assoc]
def cu_m (c : Nat) : Nat → Nat
  | 0 => 0
  | k + 1 => c + 256 * cu_m c k
def cu_S1 (k x : Nat) : Nat := x - ((x / 2) &&& cu_m 85 k)
def cu_S2 (k x : Nat) : Nat := (x &&& cu_m 51 k) + ((x / 4) &&& cu_m 51 k)
def cu_S3 (k x : Nat) : Nat := (x + x / 16) &&& cu_m 15 k
def cu_P : Nat → Nat → Nat
  | 0, _ => 0
  | k + 1, x => cu_cnt (x % 256) 8 + 256 * cu_P k (x / 256)
theorem cu_d1 : ∀ a : Fin 256, ∀ b : Fin 2, (a.1 / 2 + b.1 * 128) &&& 85 = a.1 / 2 &&& 85 := by decide +kernel
theorem cu_d2 : ∀ a : Fin 256, ∀ b : Fin 4, (a.1 / 4 + b.1 * 64) &&& 51 = a.1 / 4 &&& 51 := by decide +kernel
theorem cu_d3 : ∀ a : Fin 137, ∀ b : Fin 5, (a.1 + b.1 * 16) &&& 15 = a.1 &&& 15 := by decide +kernel
theorem cu_d4 : ∀ a : Fin 256, cu_S1 1 a.1 < 256 ∧ cu_S2 1 (cu_S1 1 a.1) ≤ 68 ∧ cu_S2 1 (cu_S1 1 a.1) % 16 ≤ 4 ∧ cu_S3 1 (cu_S2 1 (cu_S1 1 a.1)) = cu_cnt a.1 8 := by decide +kernel
theorem cu_S1_add {k a y : Nat} (ha : a < 256) : cu_S1 (k + 1) (a + 256 * y) = cu_S1 1 a + 256 * cu_S1 k y := by
  unfold cu_S1
  have h1 : (a + 256 * y) / 2 = (a / 2 + (y % 2) * 128) + 256 * (y / 2) := by omega
  have h2 := cu_d1 ⟨a, ha⟩ ⟨y % 2, by omega⟩
  simp only at h2
  have h3 : (a / 2 &&& cu_m 85 1) ≤ a / 2 := Nat.and_le_left
  have h4 : (y / 2 &&& cu_m 85 k) ≤ y / 2 := Nat.and_le_left
  have h5 : ((a + 256 * y) / 2) &&& cu_m 85 (k + 1) = (a / 2 &&& cu_m 85 1) + 256 * (y / 2 &&& cu_m 85 k) := by
    rw [h1]; show _ &&& (85 + 256 * cu_m 85 k) = _
    rw [cu_and_add (by omega) (by omega), h2]; rfl
  rw [h5]; omega
theorem cu_S2_add {k a y : Nat} (ha : a < 256) : cu_S2 (k + 1) (a + 256 * y) = cu_S2 1 a + 256 * cu_S2 k y := by
  unfold cu_S2
  have h1 : (a + 256 * y) / 4 = (a / 4 + (y % 4) * 64) + 256 * (y / 4) := by omega
  have h2 := cu_d2 ⟨a, ha⟩ ⟨y % 4, by omega⟩
  simp only at h2
  have h5 : ((a + 256 * y) / 4) &&& cu_m 51 (k + 1) = (a / 4 &&& cu_m 51 1) + 256 * (y / 4 &&& cu_m 51 k) := by
    rw [h1]; show _ &&& (51 + 256 * cu_m 51 k) = _
    rw [cu_and_add (by omega) (by omega), h2]; rfl
  have h6 : (a + 256 * y) &&& cu_m 51 (k + 1) = (a &&& cu_m 51 1) + 256 * (y &&& cu_m 51 k) := by
    show _ &&& (51 + 256 * cu_m 51 k) = _
    rw [cu_and_add (by omega) (by omega)]; rfl
  rw [h5, h6]; omega
theorem cu_S3_add {k a y : Nat} (ha : a ≤ 68) (hy : y % 16 ≤ 4) : cu_S3 (k + 1) (a + 256 * y) = cu_S3 1 a + 256 * cu_S3 k y := by
  unfold cu_S3
  have h1 : (a + 256 * y) + (a + 256 * y) / 16 = (a + a / 16 + (y % 16) * 16) + 256 * (y + y / 16) := by omega
  have h2 := cu_d3 ⟨a + a / 16, by omega⟩ ⟨y % 16, by omega⟩
  simp only at h2
  rw [h1]; show _ &&& (15 + 256 * cu_m 15 k) = _
  rw [cu_and_add (by omega) (by omega), h2]; rfl
theorem cu_S0 (k : Nat) : cu_S1 k 0 = 0 := by unfold cu_S1; omega
theorem cu_swar : ∀ k x : Nat, x < 256 ^ k → cu_S2 k (cu_S1 k x) % 16 ≤ 4 ∧ cu_S3 k (cu_S2 k (cu_S1 k x)) = cu_P k x
  | 0, x, h => by
    have : x = 0 := by simpa using h
    subst this; decide
  | k + 1, x, h => by
    have hd : x / 256 < 256 ^ k := by rw [Nat.pow_succ] at h; omega
    have ih := cu_swar k (x / 256) hd
    have h4 := cu_d4 ⟨x % 256, by omega⟩
    simp only at h4
    have e : x = x % 256 + 256 * (x / 256) := by omega
    have e2 : cu_S2 (k + 1) (cu_S1 (k + 1) x) = cu_S2 1 (cu_S1 1 (x % 256)) + 256 * cu_S2 k (cu_S1 k (x / 256)) := by
      conv => lhs; rw [e]
      rw [cu_S1_add (by omega), cu_S2_add h4.1]
    rw [e2]
    refine ⟨by omega, ?_⟩
    rw [cu_S3_add h4.2.1 ih.1, ih.2, h4.2.2.2]; rfl
theorem cu_P_sum {c0 c1 c2 c3 c4 c5 p y4 y5 : Nat} (h0 : c0 ≤ 8) (h1 : c1 ≤ 8) (h2 : c2 ≤ 8) (h3 : c3 ≤ 8) (h4 : c4 ≤ 8) (h5 : c5 ≤ 8)
    (hp : p = c0 + 256 * (c1 + 256 * (c2 + 256 * (c3 + 256 * (c4 + 256 * (c5 + 256 * (0 + 256 * (0 + 256 * 0)))))))) (e4 : y4 = p + p / 256) (e5 : y5 = y4 + y4 / 65536) : (y5 + y5 / 4294967296) % 128 = c0 + (c1 + (c2 + (c3 + (c4 + c5)))) := by
  have q4 : p / 256 = c1 + 256 * (c2 + 256 * (c3 + 256 * (c4 + 256 * c5))) := by omega
  have q5 : y4 / 65536 = (c2 + c3) + 256 * ((c3 + c4) + 256 * ((c4 + c5) + 256 * c5)) := by omega
  have q6 : y5 / 4294967296 = (c4 + c5) + 256 * c5 := by omega
  omega
theorem cu_pc_bytes {x : Nat} (h : x < 281474976710656) : cu_cnt x 48 = cu_cnt (x % 256) 8 + (cu_cnt (x / 256 % 256) 8 + (cu_cnt (x / 65536 % 256) 8 + (cu_cnt (x / 16777216 % 256) 8 + (cu_cnt (x / 4294967296 % 256) 8 + cu_cnt (x / 1099511627776 % 256) 8)))) := by
  have st : ∀ z n, cu_cnt z (8 + n) = cu_cnt (z % 256) 8 + cu_cnt (z / 256) n := by
    intro z n
    have e : z = z % 256 + 256 * (z / 256) := by omega
    conv => lhs; rw [e]
    exact cu_cnt_add (by omega) n
  have s0 := st x 40
  have s1 := st (x / 256) 32
  have s2 := st (x / 65536) 24
  have s3 := st (x / 16777216) 16
  have s4 := st (x / 4294967296) 8
  rw [show x / 256 / 256 = x / 65536 from by omega] at s1
  rw [show x / 65536 / 256 = x / 16777216 from by omega] at s2
  rw [show x / 16777216 / 256 = x / 4294967296 from by omega] at s3
  rw [show x / 4294967296 / 256 = x / 1099511627776 from by omega] at s4
  rw [show x / 1099511627776 % 256 = x / 1099511627776 from by omega]
  have t0 : cu_cnt x (8 + 40) = cu_cnt x 48 := rfl
  have t1 : cu_cnt (x / 256) (8 + 32) = cu_cnt (x / 256) 40 := rfl
  have t2 : cu_cnt (x / 65536) (8 + 24) = cu_cnt (x / 65536) 32 := rfl
  have t3 : cu_cnt (x / 16777216) (8 + 16) = cu_cnt (x / 16777216) 24 := rfl
  have t4 : cu_cnt (x / 4294967296) (8 + 8) = cu_cnt (x / 4294967296) 16 := rfl
  rw [← t0, s0, ← t1, s1, ← t2, s2, ← t3, s3, ← t4, s4]
/-- the count of bits as the library finds it -/
theorem cu_pc_swar {x : Nat} (h : x < 281474976710656) {y4 y5 : Nat} (e4 : y4 = cu_S3 8 (cu_S2 8 (cu_S1 8 x)) + cu_S3 8 (cu_S2 8 (cu_S1 8 x)) / 256) (e5 : y5 = y4 + y4 / 65536) : (y5 + y5 / 4294967296) % 128 = cu_cnt x 48 := by
  rw [(cu_swar 8 x (by omega)).2] at e4
  rw [cu_pc_bytes h]
  refine cu_P_sum (p := cu_P 8 x) (cu_cnt_le _ 8) (cu_cnt_le _ 8) (cu_cnt_le _ 8) (cu_cnt_le _ 8) (cu_cnt_le _ 8) (cu_cnt_le _ 8) ?_ e4 e5
  show cu_cnt (x % 256) 8 + 256 * (cu_cnt (x / 256 % 256) 8 + 256 * (cu_cnt (x / 256 / 256 % 256) 8 + 256 * (cu_cnt (x / 256 / 256 / 256 % 256) 8 + 256 * (cu_cnt (x / 256 / 256 / 256 / 256 % 256) 8 + 256 * (cu_cnt (x / 256 / 256 / 256 / 256 / 256 % 256) 8 + 256 * (cu_cnt (x / 256 / 256 / 256 / 256 / 256 / 256 % 256) 8 + 256 * (cu_cnt (x / 256 / 256 / 256 / 256 / 256 / 256 / 256 % 256) 8 + 256 * 0))))))) = _
  rw [show x / 256 / 256 / 256 / 256 / 256 / 256 / 256 % 256 = 0 from by omega, show x / 256 / 256 / 256 / 256 / 256 / 256 % 256 = 0 from by omega,
    show x / 256 / 256 / 256 / 256 / 256 = x / 1099511627776 from by omega, show x / 256 / 256 / 256 / 256 = x / 4294967296 from by omega, show x / 256 / 256 / 256 = x / 16777216 from by omega, show x / 256 / 256 = x / 65536 from by omega]
  rfl
theorem cu_and127 (y : Nat) : ma_and (ma_wI y) 127 = ((y % 128 : Nat) : Int) := by
  have e0 : Int32.ofInt (ma_wI y) = Int32.ofInt (y : Int) := by
    apply Int32.toBitVec_inj.1
    rw [Int32.toBitVec_ofInt, Int32.toBitVec_ofInt]
    unfold ma_wI
    apply BitVec.eq_of_toInt_eq
    rw [BitVec.toInt_ofInt, BitVec.toInt_ofInt]
    exact Int.bmod_bmod
  have h0 : Int32.ofInt (127 : Int) = Int32.ofInt ((127 : Nat) : Int) := rfl
  have h : (y % 4294967296) &&& 127 = y % 128 := by
    have := Nat.and_two_pow_sub_one_eq_mod (y % 4294967296) 7
    rw [show (2 : Nat) ^ 7 - 1 = 127 from rfl] at this
    rw [this]; omega
  show (Int32.ofInt (ma_wI y) &&& Int32.ofInt 127).toBitVec.toInt = _
  have e1 : (Int32.ofInt (y : Int)).toBitVec = BitVec.ofNat 32 y := by rw [Int32.toBitVec_ofInt, BitVec.ofInt_natCast]
  have e2 : (Int32.ofInt (127 : Int)).toBitVec = BitVec.ofNat 32 127 := rfl
  have e3 : (BitVec.ofNat 32 y &&& BitVec.ofNat 32 127).toNat = y % 128 := by
    rw [BitVec.toNat_and, BitVec.toNat_ofNat, BitVec.toNat_ofNat]; exact h
  rw [e0, Int32.toBitVec_and, e1, e2, BitVec.toInt_eq_toNat_of_lt (by rw [e3]; omega), e3]
theorem cu_m5 : cu_m 85 8 = 6148914691236517205 := by decide
theorem cu_m3 : cu_m 51 8 = 3689348814741910323 := by decide
theorem cu_mf : cu_m 15 8 = 1085102592571150095 := by decide
theorem cu_sh {x k p : Nat} (hx : x < 9223372036854775808) (hk : k < 64) (hp : 2 ^ k = p) : ma_lushr x k = ((x / p : Nat) : Int) := by
  rw [ma_lushr_nat x k hx hk, Nat.shiftRight_eq_div_pow, hp]
theorem cu_e1 {x : Nat} (hx : x < 281474976710656) : ma_wL ((x : Int) - ma_land (ma_lushr x 1) 6148914691236517205) = ((cu_S1 8 x : Nat) : Int) ∧ cu_S1 8 x ≤ x := by
  have h1 : ma_lushr (x : Int) 1 = ((x / 2 : Nat) : Int) := cu_sh (k := 1) (by omega) (by omega) rfl
  have h2 : ma_land ((x / 2 : Nat) : Int) 6148914691236517205 = ((x / 2 &&& 6148914691236517205 : Nat) : Int) := ma_land_nat (x / 2) 6148914691236517205 (by omega) (by omega)
  have h3 : (x / 2 &&& 6148914691236517205) ≤ x / 2 := Nat.and_le_left
  unfold cu_S1
  rw [cu_m5, h1, h2, lg_wL_id (by omega)]
  omega
theorem cu_e2 {x : Nat} (hx : x < 281474976710656) : ma_wL (ma_land x 3689348814741910323 + ma_land (ma_lushr x 2) 3689348814741910323) = ((cu_S2 8 x : Nat) : Int) ∧ cu_S2 8 x ≤ 2 * x := by
  have h1 : ma_lushr (x : Int) 2 = ((x / 4 : Nat) : Int) := cu_sh (k := 2) (by omega) (by omega) rfl
  have h2 : ma_land ((x / 4 : Nat) : Int) 3689348814741910323 = ((x / 4 &&& 3689348814741910323 : Nat) : Int) := ma_land_nat (x / 4) 3689348814741910323 (by omega) (by omega)
  have h4 : ma_land (x : Int) 3689348814741910323 = ((x &&& 3689348814741910323 : Nat) : Int) := ma_land_nat x 3689348814741910323 (by omega) (by omega)
  have h3 : (x / 4 &&& 3689348814741910323) ≤ x / 4 := Nat.and_le_left
  have h5 : (x &&& 3689348814741910323) ≤ x := Nat.and_le_left
  unfold cu_S2
  rw [cu_m3, h1, h2, h4, lg_wL_id (by omega)]
  omega
theorem cu_e3 {x : Nat} (hx : x < 562949953421312) : ma_land (ma_wL ((x : Int) + ma_lushr x 4)) 1085102592571150095 = ((cu_S3 8 x : Nat) : Int) ∧ cu_S3 8 x ≤ 2 * x := by
  have h1 : ma_lushr (x : Int) 4 = ((x / 16 : Nat) : Int) := cu_sh (k := 4) (by omega) (by omega) rfl
  have h2 : ma_land ((x + x / 16 : Nat) : Int) 1085102592571150095 = ((x + x / 16 &&& 1085102592571150095 : Nat) : Int) := ma_land_nat (x + x / 16) 1085102592571150095 (by omega) (by omega)
  have h3 : (x + x / 16 &&& 1085102592571150095) ≤ x + x / 16 := Nat.and_le_left
  unfold cu_S3
  rw [cu_mf, h1, lg_wL_id (by omega), show (x : Int) + ((x / 16 : Nat) : Int) = ((x + x / 16 : Nat) : Int) from by omega, h2]
  omega
theorem cu_e4 {x k p : Nat} (hx : x < 4503599627370496) (hk : k < 64) (hp : 2 ^ k = p) : ma_wL ((x : Int) + ma_lushr x k) = ((x + x / p : Nat) : Int) ∧ x + x / p ≤ 2 * x := by
  have h1 : ma_lushr (x : Int) k = ((x / p : Nat) : Int) := cu_sh (by omega) hk hp
  have h2 : x / p ≤ x := Nat.div_le_self _ _
  rw [h1]
  generalize x / p = q at h2 ⊢
  rw [lg_wL_id (by omega)]
  omega
theorem cu_bitCount {LS d : Nat} {Post : ma_R → ma_M → Prop} {μ : ma_M} {x : Nat} (hx : x < 281474976710656) (h : Post (.inl (some (ma_I ((cu_cnt x 48 : Nat) : Int)))) μ) : ma_Ox LS (d + 1) mi_Long_bitCount [ma_L (x : Int)] μ Post := by
  obtain ⟨e1, b1⟩ := cu_e1 hx
  obtain ⟨e2, b2⟩ := cu_e2 (x := cu_S1 8 x) (by omega)
  obtain ⟨e3, b3⟩ := cu_e3 (x := cu_S2 8 (cu_S1 8 x)) (by omega)
  obtain ⟨e4, b4⟩ := cu_e4 (x := cu_S3 8 (cu_S2 8 (cu_S1 8 x))) (k := 8) (p := 256) (by omega) (by omega) rfl
  have sw := @cu_pc_swar x hx _ _ rfl rfl
  generalize hy4 : cu_S3 8 (cu_S2 8 (cu_S1 8 x)) + cu_S3 8 (cu_S2 8 (cu_S1 8 x)) / 256 = y4 at e4 b4 sw
  obtain ⟨e5, b5⟩ := cu_e4 (x := y4) (k := 16) (p := 65536) (by omega) (by omega) rfl
  generalize hy5 : y4 + y4 / 65536 = y5 at e5 b5 sw
  obtain ⟨e6, b6⟩ := cu_e4 (x := y5) (k := 32) (p := 4294967296) (by omega) (by omega) rfl
  simp only [show ((8 : Nat) : Int) = 8 from rfl, show ((16 : Nat) : Int) = 16 from rfl, show ((32 : Nat) : Int) = 32 from rfl] at e4 e5 e6
  refine w_Long_bitCount ?_
  rw [e1, e2, e3, e4, e5, e6, cu_and127, sw]
  exact h

