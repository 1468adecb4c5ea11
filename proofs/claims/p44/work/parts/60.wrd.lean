/-! the tables of the blocks -/
def cu_pt (j : Nat) : Nat := if j = 0 then 43690 else if j = 1 then 52428 else if j = 2 then 61680 else 65280
def cu_ow (kd : Int) (a b : Nat) : Nat := if kd = 97 then a &&& b else if kd = 111 then a ||| b else if kd = 120 then a ^^^ b else 65535 - a
def cu_W (kd fi se : Int → Int) (s : Nat) : Nat → Nat → Nat
  | 0 => fun _ => 0
  | n + 1 => fun k => if k = n then (if s.testBit n then cu_pt (cu_cnt s n) else if kd n = 105 ∨ kd n = 114 then 0 else cu_ow (kd n) (cu_W kd fi se s n (fi n).toNat) (cu_W kd fi se s n (se n).toNat)) else cu_W kd fi se s n k
theorem cu_W_succ (kd fi se : Int → Int) (s n k : Nat) : cu_W kd fi se s (n + 1) k = if k = n then (if s.testBit n then cu_pt (cu_cnt s n) else if kd n = 105 ∨ kd n = 114 then 0 else cu_ow (kd n) (cu_W kd fi se s n (fi n).toNat) (cu_W kd fi se s n (se n).toNat)) else cu_W kd fi se s n k := rfl
theorem cu_W_st {kd fi se : Int → Int} {s k : Nat} : ∀ n, k < n → cu_W kd fi se s n k = cu_W kd fi se s (k + 1) k
  | 0, h => absurd h (Nat.not_lt_zero k)
  | n + 1, h => by
    by_cases e : k = n
    · rw [e]
    · rw [cu_W_succ, if_neg e]; exact cu_W_st n (by omega)
def cu_wf2 (kd fi se : Int → Int) (N : Nat) : Prop := ∀ n : Nat, n < N → ¬ (kd n = 105 ∨ kd n = 114) → (0 ≤ fi n ∧ fi n < n) ∧ (0 ≤ se n ∧ se n < n) ∧ (kd n = 110 → se n = fi n)
theorem cu_W_eq {kd fi se : Int → Int} {s N k : Nat} (hw : cu_wf2 kd fi se N) (hk : k < N) : cu_W kd fi se s N k = if s.testBit k then cu_pt (cu_cnt s k) else if kd k = 105 ∨ kd k = 114 then 0 else cu_ow (kd k) (cu_W kd fi se s N (fi k).toNat) (cu_W kd fi se s N (se k).toNat) := by
  rw [cu_W_st N hk, cu_W_succ, if_pos rfl]
  by_cases hb : s.testBit k = true
  · rw [if_pos hb, if_pos hb]
  · rw [if_neg hb, if_neg hb]
    by_cases hg : kd k = 105 ∨ kd k = 114
    · rw [if_pos hg, if_pos hg]
    · rw [if_neg hg, if_neg hg]
      obtain ⟨h1, h2, _⟩ := hw k hk hg
      rw [cu_W_st k (show (fi k).toNat < k by omega), cu_W_st k (show (se k).toNat < k by omega), cu_W_st N (show (fi k).toNat < N by omega), cu_W_st N (show (se k).toNat < N by omega)]
theorem cu_pt_lt (j : Nat) : cu_pt j < 65536 := by
  unfold cu_pt
  repeat' split
  all_goals omega
theorem cu_ow_lt {kd : Int} {a b : Nat} (ha : a < 65536) (hb : b < 65536) : cu_ow kd a b < 65536 := by
  unfold cu_ow
  split
  · exact Nat.and_lt_two_pow (n := 16) a hb
  · split
    · exact Nat.or_lt_two_pow (n := 16) ha hb
    · split
      · exact Nat.xor_lt_two_pow (n := 16) ha hb
      · omega
theorem cu_W_lt (kd fi se : Int → Int) (s : Nat) : ∀ n k, cu_W kd fi se s n k < 65536
  | 0, _ => by show 0 < 65536; omega
  | n + 1, k => by
    rw [cu_W_succ]
    split
    · split
      · exact cu_pt_lt _
      · split
        · omega
        · exact cu_ow_lt (cu_W_lt kd fi se s n _) (cu_W_lt kd fi se s n _)
    · exact cu_W_lt kd fi se s n k
theorem cu_not_bit {a i : Nat} (ha : a < 65536) (hi : i < 16) : (65535 - a).testBit i = !a.testBit i := by
  have := Nat.testBit_two_pow_sub_succ (n := 16) ha i
  rw [show 2 ^ 16 - (a + 1) = 65535 - a from by omega] at this
  rw [this]; simp [hi]
theorem cu_pt_bit : ∀ b : Fin 16, ∀ r : Fin 4, (cu_pt r.1).testBit b.1 = b.1.testBit r.1 := by decide
theorem cu_shr_bit : ∀ b : Fin 16, ∀ r : Fin 4, (ma_and (ma_shr ((b.1 : Nat) : Int) ((r.1 : Nat) : Int)) 1 = 1 ↔ b.1.testBit r.1 = true) := by decide
theorem cu_eq16 {a b : Nat} (ha : a < 65536) (hb : b < 65536) (h : ∀ i, i < 16 → a.testBit i = b.testBit i) : a = b := by
  apply Nat.eq_of_testBit_eq; intro i
  by_cases hi : i < 16
  · exact h i hi
  · rw [Nat.testBit_lt_two_pow (Nat.lt_of_lt_of_le ha (Nat.pow_le_pow_right (n := 2) (by omega) (show 16 ≤ i by omega))), Nat.testBit_lt_two_pow (Nat.lt_of_lt_of_le hb (Nat.pow_le_pow_right (n := 2) (by omega) (show 16 ≤ i by omega)))]
theorem cu_cnt_mod {s n : Nat} (hn : n ≤ 48) : cu_cnt (s % 2 ^ n) 48 = cu_cnt s n := by
  have h := cu_cnt_more (Nat.mod_lt s (Nat.pow_pos (show 0 < 2 by omega) : 0 < 2 ^ n)) (48 - n)
  rw [show n + (48 - n) = 48 from by omega] at h
  rw [h]
  exact cu_cnt_congr n (fun i hi => by rw [Nat.testBit_mod_two_pow, decide_eq_true hi]; rfl)
theorem cu_cnt_mono {s i : Nat} : ∀ {j}, i ≤ j → cu_cnt s i ≤ cu_cnt s j
  | 0, h => by rw [show i = 0 from by omega]; exact Nat.le_refl _
  | j + 1, h => by
    by_cases e : i = j + 1
    · rw [e]; exact Nat.le_refl _
    · have := cu_cnt_mono (s := s) (show i ≤ j by omega)
      rw [cu_cnt_succ]; omega
/-- a set's nodes by their places -/
theorem cu_cnt_surj {s : Nat} : ∀ n j, j < cu_cnt s n → ∃ i, i < n ∧ s.testBit i = true ∧ cu_cnt s i = j
  | 0, j, h => absurd h (Nat.not_lt_zero j)
  | n + 1, j, h => by
    rw [cu_cnt_succ] at h
    by_cases e : j < cu_cnt s n
    · obtain ⟨i, h1, h2, h3⟩ := cu_cnt_surj n j e
      exact ⟨i, by omega, h2, h3⟩
    · by_cases hb : s.testBit n = true
      · rw [if_pos hb] at h; exact ⟨n, by omega, hb, by omega⟩
      · rw [if_neg hb] at h; omega
theorem cu_cnt_lt48 {s n : Nat} (hn : n < 48) (hb : s.testBit n = true) : cu_cnt s n < cu_cnt s 48 := by
  have := cu_cnt_mono (s := s) (show n + 1 ≤ 48 by omega)
  rw [cu_cnt_succ, if_pos hb] at this; omega
theorem cu_Cv_inv {kd fi se : Int → Int} {s n : Nat} (h : cu_Cv kd fi se s n) : s.testBit n = true ∨ (¬ (kd n = 105 ∨ kd n = 114) ∧ cu_Cv kd fi se s (fi n).toNat ∧ (kd n ≠ 110 → cu_Cv kd fi se s (se n).toNat)) :=
  (h (fun n => cu_Cv kd fi se s n ∧ (s.testBit n = true ∨ (¬ (kd n = 105 ∨ kd n = 114) ∧ cu_Cv kd fi se s (fi n).toNat ∧ (kd n ≠ 110 → cu_Cv kd fi se s (se n).toNat)))) (fun _ hb => ⟨.here hb, .inl hb⟩) (fun _ h1 h2 h3 => ⟨.gate h1 h2.1 (fun z => (h3 z).1), .inr ⟨h1, h2.1, fun z => (h3 z).1⟩⟩)).2

