/-! the cuts of a circuit -/
def cu_top (D : Nat → Nat) (s : Nat) : Nat → Nat
  | 0 => 0
  | n + 1 => if s.testBit n then (if cu_top D s n < D n then D n else cu_top D s n) else cu_top D s n
theorem cu_top_succ (D : Nat → Nat) (s n : Nat) : cu_top D s (n + 1) = if s.testBit n then (if cu_top D s n < D n then D n else cu_top D s n) else cu_top D s n := rfl
theorem cu_top_congr {D E : Nat → Nat} {s : Nat} : ∀ n, (∀ i, i < n → s.testBit i = true → D i = E i) → cu_top D s n = cu_top E s n
  | 0, _ => rfl
  | n + 1, h => by
    rw [cu_top_succ, cu_top_succ, cu_top_congr n (fun i hi => h i (by omega))]
    by_cases hb : s.testBit n = true
    · rw [h n (by omega) hb]
    · rw [if_neg hb, if_neg hb]
theorem cu_top_more {D : Nat → Nat} {s n : Nat} (h : s < 2 ^ n) : ∀ k, cu_top D s (n + k) = cu_top D s n
  | 0 => rfl
  | k + 1 => by
    rw [← Nat.add_assoc, cu_top_succ, Nat.testBit_lt_two_pow (Nat.lt_of_lt_of_le h (Nat.pow_le_pow_right (by omega) (by omega)))]
    exact cu_top_more h k
theorem cu_top_or (D : Nat → Nat) (s t : Nat) : ∀ n, cu_top D (s ||| t) n = if cu_top D s n < cu_top D t n then cu_top D t n else cu_top D s n
  | 0 => rfl
  | n + 1 => by
    rw [cu_top_succ, cu_top_succ, cu_top_succ, cu_top_or D s t n, Nat.testBit_or]
    generalize cu_top D s n = a
    generalize cu_top D t n = b
    cases s.testBit n <;> cases t.testBit n <;> simp only [Bool.or_true, Bool.or_false, Bool.false_eq_true, if_true, if_false] <;> repeat' split
    all_goals omega
theorem cu_top_le {D : Nat → Nat} {s B : Nat} : ∀ n, (∀ i, i < n → s.testBit i = true → D i ≤ B) → cu_top D s n ≤ B
  | 0, _ => Nat.zero_le _
  | n + 1, h => by
    have ih := cu_top_le n (fun i hi => h i (by omega))
    rw [cu_top_succ]
    by_cases hb : s.testBit n = true
    · have := h n (by omega) hb
      rw [if_pos hb]; split <;> omega
    · rw [if_neg hb]; exact ih
def cu_key (D : Nat → Nat) (s : Nat) : Nat := (cu_top D s 48 * 64 + cu_cnt s 48) * 281474976710656 + s
theorem cu_key_lt {D : Nat → Nat} {s t : Nat} (hs : s < 281474976710656) (ht : t < 281474976710656) : cu_key D s < cu_key D t ↔ cu_top D s 48 < cu_top D t 48 ∨ (cu_top D s 48 = cu_top D t 48 ∧ (cu_cnt s 48 < cu_cnt t 48 ∨ (cu_cnt s 48 = cu_cnt t 48 ∧ s < t))) := by
  have := cu_cnt_le s 48
  have := cu_cnt_le t 48
  unfold cu_key; omega
theorem cu_key_inj {D : Nat → Nat} {s t : Nat} (hs : s < 281474976710656) (ht : t < 281474976710656) (h : cu_key D s = cu_key D t) : s = t := by
  unfold cu_key at h; omega
abbrev cu_Ls := Nat × (Nat → Nat)
def cu_pos (D : Nat → Nat) (f : Nat → Nat) (s : Nat) : Nat → Nat
  | 0 => 0
  | c + 1 => cu_pos D f s c + (if cu_key D (f c) < cu_key D s then 1 else 0)
theorem cu_pos_succ (D : Nat → Nat) (f : Nat → Nat) (s c : Nat) : cu_pos D f s (c + 1) = cu_pos D f s c + (if cu_key D (f c) < cu_key D s then 1 else 0) := rfl
theorem cu_pos_le (D : Nat → Nat) (f : Nat → Nat) (s : Nat) : ∀ c, cu_pos D f s c ≤ c
  | 0 => Nat.le_refl 0
  | c + 1 => by have := cu_pos_le D f s c; rw [cu_pos_succ]; split <;> omega
theorem cu_pos_min {D : Nat → Nat} {f : Nat → Nat} {s p : Nat} : ∀ c, (∀ i, i < c → (cu_key D (f i) < cu_key D s ↔ i < p)) → cu_pos D f s c = if c < p then c else p
  | 0, _ => by show 0 = _; split <;> omega
  | c + 1, h => by
    rw [cu_pos_succ, cu_pos_min c (fun i hi => h i (by omega))]
    have := h c (by omega)
    by_cases hc : c < p
    · rw [if_pos hc, if_pos (this.2 hc)]; split <;> omega
    · rw [if_neg hc, if_neg (fun z => hc (this.1 z)), if_neg (by omega)]; omega
theorem cu_pos_eq {D : Nat → Nat} {f : Nat → Nat} {s p c : Nat} (hp : p ≤ c) (h : ∀ i, i < c → (cu_key D (f i) < cu_key D s ↔ i < p)) : cu_pos D f s c = p := by
  rw [cu_pos_min c h]; split <;> omega
theorem cu_pos_sp {D : Nat → Nat} {f : Nat → Nat} {s : Nat} : ∀ c, (∀ i j, i < j → j < c → cu_key D (f i) < cu_key D (f j)) → cu_pos D f s c ≤ c ∧ ∀ i, i < c → (cu_key D (f i) < cu_key D s ↔ i < cu_pos D f s c)
  | 0, _ => ⟨Nat.le_refl 0, fun i hi => absurd hi (by omega)⟩
  | c + 1, h => by
    obtain ⟨h1, h2⟩ := cu_pos_sp (s := s) c (fun i j hij hj => h i j hij (by omega))
    rw [cu_pos_succ]
    by_cases hc : cu_key D (f c) < cu_key D s
    · rw [if_pos hc]
      have hall : ∀ i, i < c → cu_key D (f i) < cu_key D s := fun i hi => Nat.lt_trans (h i c hi (by omega)) hc
      have e : cu_pos D f s c = c := cu_pos_eq (Nat.le_refl c) (fun i hi => ⟨fun _ => hi, fun _ => hall i hi⟩)
      refine ⟨by omega, fun i hi => ⟨fun _ => by omega, fun _ => ?_⟩⟩
      by_cases hic : i = c
      · rw [hic]; exact hc
      · exact hall i (by omega)
    · rw [if_neg hc]
      refine ⟨by omega, fun i hi => ?_⟩
      by_cases hic : i = c
      · rw [hic]; exact ⟨fun z => absurd z hc, fun z => absurd z (by omega)⟩
      · exact h2 i (by omega)
def cu_ins (D : Nat → Nat) (L : cu_Ls) (s : Nat) : cu_Ls :=
  if 4 < cu_cnt s 48 then L else
  if (cu_pos D L.2 s L.1 < L.1 ∧ L.2 (cu_pos D L.2 s L.1) = s) ∨ 6 ≤ cu_pos D L.2 s L.1 then L else
  (if L.1 < 6 then L.1 + 1 else 6, fun i => if i < cu_pos D L.2 s L.1 then L.2 i else if i = cu_pos D L.2 s L.1 then s else L.2 (i - 1))
def cu_ok (D : Nat → Nat) (n : Nat) (L : cu_Ls) : Prop :=
  L.1 ≤ 6 ∧ (∀ i, i < L.1 → L.2 i < 2 ^ n ∧ cu_cnt (L.2 i) 48 ≤ 4) ∧ (∀ i j, i < j → j < L.1 → cu_key D (L.2 i) < cu_key D (L.2 j))
theorem cu_ok0 (D : Nat → Nat) (n : Nat) (f : Nat → Nat) : cu_ok D n (0, f) := ⟨Nat.zero_le _, fun i hi => absurd hi (Nat.not_lt_zero i), fun _ j _ hj => absurd hj (Nat.not_lt_zero j)⟩
theorem cu_p48 {n s : Nat} (hn : n ≤ 48) (hs : s < 2 ^ n) : s < 281474976710656 := Nat.lt_of_lt_of_le hs (Nat.pow_le_pow_right (n := 2) (by omega) hn)
theorem cu_ins_ok {D : Nat → Nat} {n : Nat} {L : cu_Ls} {s : Nat} (hn : n ≤ 48) (h : cu_ok D n L) (hs : s < 2 ^ n) : cu_ok D n (cu_ins D L s) := by
  obtain ⟨c, f⟩ := L
  obtain ⟨h1, h2, h3⟩ := h
  simp only at h1 h2 h3
  unfold cu_ins
  simp only
  obtain ⟨hp1, hp2⟩ := cu_pos_sp (s := s) c h3
  generalize cu_pos D f s c = p at hp1 hp2 ⊢
  by_cases hc : 4 < cu_cnt s 48
  · rw [if_pos hc]; exact ⟨h1, h2, h3⟩
  · rw [if_neg hc]
    by_cases ht : (p < c ∧ f p = s) ∨ 6 ≤ p
    · rw [if_pos ht]; exact ⟨h1, h2, h3⟩
    · rw [if_neg ht]
      have hgt : ∀ i, i < c → ¬ i < p → cu_key D s < cu_key D (f i) := by
        intro i hi hip
        have q1 : ¬ cu_key D (f i) < cu_key D s := fun z => hip ((hp2 i hi).1 z)
        have q2 : cu_key D (f i) ≠ cu_key D s := by
          intro z
          have z2 := cu_key_inj (cu_p48 hn (h2 i hi).1) (cu_p48 hn hs) z
          by_cases hip2 : i = p
          · exact ht (.inl ⟨by omega, by rw [← hip2]; exact z2⟩)
          · have := h3 p i (by omega) hi
            have := (hp2 p (by omega))
            omega
        omega
      refine ⟨?_, ?_, ?_⟩
      · simp only; split <;> omega
      · intro i hi
        simp only at hi ⊢
        by_cases a1 : i < p
        · rw [if_pos a1]; exact h2 i (by omega)
        · rw [if_neg a1]
          by_cases a2 : i = p
          · rw [if_pos a2]; exact ⟨hs, by omega⟩
          · rw [if_neg a2]; exact h2 (i - 1) (by split at hi <;> omega)
      · intro i j hij hj
        simp only at hj ⊢
        have hj2 : j ≤ c ∧ j < 6 := by split at hj <;> omega
        by_cases b1 : j < p
        · rw [if_pos b1, if_pos (by omega)]; exact h3 i j hij (by omega)
        · rw [if_neg b1]
          by_cases b2 : j = p
          · rw [if_pos b2, if_pos (by omega)]; exact (hp2 i (by omega)).2 (by omega)
          · rw [if_neg b2]
            by_cases a1 : i < p
            · rw [if_pos a1]; exact h3 i (j - 1) (by omega) (by omega)
            · rw [if_neg a1]
              by_cases a2 : i = p
              · rw [if_pos a2]; exact hgt (j - 1) (by omega) (by omega)
              · rw [if_neg a2]; exact h3 (i - 1) (j - 1) (by omega) (by omega)
theorem cu_ins_mono {D : Nat → Nat} {L : cu_Ls} {s : Nat} (h6 : L.1 ≤ 6) : L.1 ≤ (cu_ins D L s).1 := by
  unfold cu_ins
  split
  · exact Nat.le_refl _
  · split
    · exact Nat.le_refl _
    · simp only; split <;> omega
theorem cu_ins_one {D : Nat → Nat} {L : cu_Ls} {s : Nat} (h6 : L.1 ≤ 6) (hc : cu_cnt s 48 ≤ 4) : 1 ≤ (cu_ins D L s).1 := by
  by_cases h : 1 ≤ L.1
  · exact Nat.le_trans h (cu_ins_mono h6)
  · obtain ⟨c, f⟩ := L
    simp only at h
    have e : c = 0 := by omega
    subst e
    unfold cu_ins
    rw [if_neg (by omega), if_neg (by simp only [cu_pos]; omega)]
    simp only; split <;> omega
/-- all unions of one set with the first j sets of another node -/
def cu_row (D : Nat → Nat) (a : Nat) (f : Nat → Nat) (L : cu_Ls) : Nat → cu_Ls
  | 0 => L
  | j + 1 => cu_ins D (cu_row D a f L j) (a ||| f j)
def cu_all (D : Nat → Nat) (single : Prop) [Decidable single] (f1 : Nat → Nat) (L2 : cu_Ls) : Nat → cu_Ls
  | 0 => (0, fun _ => 0)
  | i + 1 => if single then cu_ins D (cu_all D single f1 L2 i) (f1 i) else cu_row D (f1 i) L2.2 (cu_all D single f1 L2 i) L2.1
theorem cu_row_succ (D : Nat → Nat) (a : Nat) (f : Nat → Nat) (L : cu_Ls) (j : Nat) : cu_row D a f L (j + 1) = cu_ins D (cu_row D a f L j) (a ||| f j) := rfl
theorem cu_all_succ (D : Nat → Nat) (single : Prop) [Decidable single] (f1 : Nat → Nat) (L2 : cu_Ls) (i : Nat) : cu_all D single f1 L2 (i + 1) = if single then cu_ins D (cu_all D single f1 L2 i) (f1 i) else cu_row D (f1 i) L2.2 (cu_all D single f1 L2 i) L2.1 := rfl
theorem cu_row_ok {D : Nat → Nat} {n a : Nat} {f : Nat → Nat} {L : cu_Ls} (hn : n ≤ 48) (h : cu_ok D n L) (ha : a < 2 ^ n) : ∀ j, (∀ k, k < j → f k < 2 ^ n) → cu_ok D n (cu_row D a f L j) ∧ L.1 ≤ (cu_row D a f L j).1
  | 0, _ => ⟨h, Nat.le_refl _⟩
  | j + 1, hf => by
    obtain ⟨i1, i2⟩ := cu_row_ok hn h ha j (fun k hk => hf k (by omega))
    rw [cu_row_succ]
    exact ⟨cu_ins_ok hn i1 (Nat.or_lt_two_pow ha (hf j (by omega))), Nat.le_trans i2 (cu_ins_mono i1.1)⟩
theorem cu_all_ok {D : Nat → Nat} {single : Prop} [Decidable single] {n : Nat} {f1 : Nat → Nat} {L2 : cu_Ls} (hn : n ≤ 48) (h2 : ∀ k, k < L2.1 → L2.2 k < 2 ^ n) : ∀ i, (∀ k, k < i → f1 k < 2 ^ n) → cu_ok D n (cu_all D single f1 L2 i)
  | 0, _ => cu_ok0 D n _
  | i + 1, h1 => by
    have ih := cu_all_ok (D := D) (single := single) hn h2 i (fun k hk => h1 k (by omega))
    rw [cu_all_succ]
    by_cases hsg : single
    · rw [if_pos hsg]; exact cu_ins_ok hn ih (h1 i (by omega))
    · rw [if_neg hsg]; exact (cu_row_ok hn ih (h1 i (by omega)) L2.1 h2).1
theorem cu_ins_all {D : Nat → Nat} {L : cu_Ls} {s : Nat} {P : Nat → Prop} (h6 : L.1 ≤ 6) (h : ∀ i, i < L.1 → P (L.2 i)) (hs : P s) : ∀ i, i < (cu_ins D L s).1 → P ((cu_ins D L s).2 i) := by
  intro i
  unfold cu_ins
  split
  · exact h i
  · split
    · exact h i
    · simp only
      intro hi
      have hi2 : i ≤ L.1 := by split at hi <;> omega
      rename_i h0 h1
      by_cases a1 : i < cu_pos D L.2 s L.1
      · rw [if_pos a1]
        by_cases e : i < L.1
        · exact h i e
        · have := cu_pos_le D L.2 s L.1
          omega
      · rw [if_neg a1]
        by_cases a2 : i = cu_pos D L.2 s L.1
        · rw [if_pos a2]; exact hs
        · rw [if_neg a2]; exact h (i - 1) (by omega)
theorem cu_row_all {D : Nat → Nat} {n a : Nat} {f : Nat → Nat} {L : cu_Ls} {P : Nat → Prop} (hn : n ≤ 48) (hk : cu_ok D n L) (ha : a < 2 ^ n) (h : ∀ i, i < L.1 → P (L.2 i)) : ∀ j, (∀ k, k < j → f k < 2 ^ n ∧ P (a ||| f k)) → ∀ i, i < (cu_row D a f L j).1 → P ((cu_row D a f L j).2 i)
  | 0, _ => h
  | j + 1, hf => by
    have ih := cu_row_all hn hk ha h j (fun k hk => hf k (by omega))
    rw [cu_row_succ]
    exact cu_ins_all (cu_row_ok hn hk ha j (fun k hk => (hf k (by omega)).1)).1.1 ih (hf j (by omega)).2
theorem cu_all_all {D : Nat → Nat} {single : Prop} [Decidable single] {n : Nat} {f1 : Nat → Nat} {L2 : cu_Ls} {P : Nat → Prop} (hn : n ≤ 48) (h2 : ∀ k, k < L2.1 → L2.2 k < 2 ^ n) : ∀ i, (∀ k, k < i → f1 k < 2 ^ n ∧ (single → P (f1 k)) ∧ (¬ single → ∀ j, j < L2.1 → P (f1 k ||| L2.2 j))) → ∀ j, j < (cu_all D single f1 L2 i).1 → P ((cu_all D single f1 L2 i).2 j)
  | 0, _ => fun j hj => absurd hj (Nat.not_lt_zero j)
  | i + 1, h1 => by
    have ih := cu_all_all (D := D) (P := P) hn h2 i (fun k hk => h1 k (by omega))
    have ok := cu_all_ok (D := D) (single := single) hn h2 i (fun k hk => (h1 k (by omega)).1)
    obtain ⟨g1, g2, g3⟩ := h1 i (by omega)
    rw [cu_all_succ]
    by_cases hsg : single
    · rw [if_pos hsg]; exact cu_ins_all ok.1 ih (g2 hsg)
    · rw [if_neg hsg]; exact cu_row_all hn ok g1 ih L2.1 (fun k hk => ⟨h2 k hk, g3 hsg k hk⟩)
theorem cu_cnt_or (s t : Nat) : ∀ n, cu_cnt (s ||| t) n ≤ cu_cnt s n + cu_cnt t n
  | 0 => Nat.le_refl _
  | n + 1 => by
    have ih := cu_cnt_or s t n
    rw [cu_cnt_succ, cu_cnt_succ, cu_cnt_succ, Nat.testBit_or]
    cases s.testBit n <;> cases t.testBit n <;> simp only [Bool.or_true, Bool.or_false, Bool.false_eq_true, if_true, if_false] <;> omega
theorem cu_cnt_pow (a : Nat) : ∀ n, cu_cnt (2 ^ a) n = if a < n then 1 else 0
  | 0 => rfl
  | n + 1 => by
    rw [cu_cnt_succ, cu_cnt_pow a n, Nat.testBit_two_pow]
    by_cases h : a = n
    · subst h; rw [if_neg (by omega), if_pos (by simp), if_pos (by omega)]
    · rw [if_neg (c := decide (a = n) = true) (by simpa using h)]; split <;> split <;> omega
theorem cu_cnt_pow1 (a n : Nat) : cu_cnt (2 ^ a) n ≤ 1 := by rw [cu_cnt_pow]; split <;> omega
theorem cu_all_one {D : Nat → Nat} {single : Prop} [Decidable single] {n a b : Nat} {L1 L2 : cu_Ls} (hn : n ≤ 48) (h2 : ∀ k, k < L2.1 → L2.2 k < 2 ^ n) (h1 : ∀ k, k < L1.1 → L1.2 k < 2 ^ n) (g1 : 1 ≤ L1.1) (g2 : ¬ single → 1 ≤ L2.1) (e1 : L1.2 (L1.1 - 1) = 2 ^ a) (e2 : ¬ single → L2.2 (L2.1 - 1) = 2 ^ b) : 1 ≤ (cu_all D single L1.2 L2 L1.1).1 := by
  have c1 := cu_cnt_pow1 a 48
  have c2 := cu_cnt_pow1 b 48
  obtain ⟨i, hi⟩ : ∃ i, L1.1 = i + 1 := ⟨L1.1 - 1, by omega⟩
  have ei : L1.2 i = 2 ^ a := by rw [← e1, hi]; rfl
  have ok := cu_all_ok (D := D) (single := single) (f1 := L1.2) hn h2 i (fun k hk => h1 k (by omega))
  rw [hi, cu_all_succ]
  by_cases hsg : single
  · rw [if_pos hsg]; exact cu_ins_one ok.1 (by rw [ei]; omega)
  · rw [if_neg hsg]
    have := g2 hsg
    obtain ⟨j, hj⟩ : ∃ j, L2.1 = j + 1 := ⟨L2.1 - 1, by omega⟩
    have ej : L2.2 j = 2 ^ b := by rw [← e2 hsg, hj]; rfl
    rw [hj, cu_row_succ]
    refine cu_ins_one (cu_row_ok hn ok (h1 i (by omega)) j (fun k hk => h2 k (by omega))).1.1 ?_
    rw [ei, ej]
    exact Nat.le_trans (cu_cnt_or _ _ _) (by omega)
def cu_node (kd fi se : Int → Int) (T : Nat → cu_Ls × Nat) (n : Nat) : cu_Ls × Nat :=
  if kd n = 105 ∨ kd n = 114 then ((1, fun _ => 2 ^ n), 0) else
  (((cu_all (fun k => (T k).2) (kd n = 110) (T (fi n).toNat).1.2 (T (se n).toNat).1 (T (fi n).toNat).1.1).1 + 1,
    fun i => if i < (cu_all (fun k => (T k).2) (kd n = 110) (T (fi n).toNat).1.2 (T (se n).toNat).1 (T (fi n).toNat).1.1).1 then (cu_all (fun k => (T k).2) (kd n = 110) (T (fi n).toNat).1.2 (T (se n).toNat).1 (T (fi n).toNat).1.1).2 i else 2 ^ n),
   cu_top (fun k => (T k).2) ((cu_all (fun k => (T k).2) (kd n = 110) (T (fi n).toNat).1.2 (T (se n).toNat).1 (T (fi n).toNat).1.1).2 0) 48 + 1)
def cu_T (kd fi se : Int → Int) : Nat → Nat → cu_Ls × Nat
  | 0 => fun _ => ((0, fun _ => 0), 0)
  | n + 1 => fun k => if k = n then cu_node kd fi se (cu_T kd fi se n) n else cu_T kd fi se n k
theorem cu_T_succ (kd fi se : Int → Int) (n k : Nat) : cu_T kd fi se (n + 1) k = if k = n then cu_node kd fi se (cu_T kd fi se n) n else cu_T kd fi se n k := rfl
theorem cu_T_out {kd fi se : Int → Int} : ∀ n k, n ≤ k → cu_T kd fi se n k = ((0, fun _ => 0), 0)
  | 0, _, _ => rfl
  | n + 1, k, h => by rw [cu_T_succ, if_neg (by omega)]; exact cu_T_out n k (by omega)
theorem cu_T_st {kd fi se : Int → Int} {k : Nat} : ∀ n, k < n → cu_T kd fi se n k = cu_node kd fi se (cu_T kd fi se k) k
  | 0, h => absurd h (Nat.not_lt_zero k)
  | n + 1, h => by
    rw [cu_T_succ]
    by_cases e : k = n
    · rw [if_pos e, e]
    · rw [if_neg e]; exact cu_T_st n (by omega)
theorem cu_T_cg {kd fi se kd' fi' se' : Int → Int} : ∀ n : Nat, (∀ k : Nat, k < n → kd k = kd' k ∧ (¬ (kd k = 105 ∨ kd k = 114) → fi k = fi' k ∧ (kd k ≠ 110 → se k = se' k))) → cu_T kd fi se n = cu_T kd' fi' se' n
  | 0, _ => rfl
  | n + 1, h => by
    have ih := cu_T_cg n (fun k hk => h k (by omega))
    obtain ⟨h1, h2⟩ := h n (by omega)
    funext k
    rw [cu_T_succ, cu_T_succ, ih]
    have e : cu_node kd fi se (cu_T kd' fi' se' n) n = cu_node kd' fi' se' (cu_T kd' fi' se' n) n := by
      unfold cu_node
      rw [← h1]
      by_cases hk : kd n = 105 ∨ kd n = 114
      · rw [if_pos hk, if_pos hk]
      · rw [if_neg hk, if_neg hk]
        obtain ⟨h3, h4⟩ := h2 hk
        rw [← h3]
        by_cases h5 : kd n = 110
        · have ea : ∀ (D : Nat → Nat) (f1 : Nat → Nat) (L2 L2' : cu_Ls) (i : Nat), cu_all D (kd n = 110) f1 L2 i = cu_all D (kd n = 110) f1 L2' i := by
            intro D f1 L2 L2' i
            induction i with
            | zero => rfl
            | succ i ih => rw [cu_all_succ, cu_all_succ, if_pos h5, if_pos h5, ih]
          rw [ea _ _ (cu_T kd' fi' se' n (se n).toNat).1 (cu_T kd' fi' se' n (se' n).toNat).1]
        · rw [h4 h5]
    rw [e]
/-- a set that every way down from a node meets -/
def cu_Cv (kd fi se : Int → Int) (s : Nat) (n : Nat) : Prop := ∀ P : Nat → Prop, (∀ n, s.testBit n = true → P n) → (∀ n : Nat, ¬ (kd n = 105 ∨ kd n = 114) → P (fi n).toNat → (kd n ≠ 110 → P (se n).toNat) → P n) → P n
theorem cu_Cv.here {kd fi se : Int → Int} {s n : Nat} (h : s.testBit n = true) : cu_Cv kd fi se s n := fun _ a _ => a n h
theorem cu_Cv.gate {kd fi se : Int → Int} {s n : Nat} (h : ¬ (kd n = 105 ∨ kd n = 114)) (h1 : cu_Cv kd fi se s (fi n).toNat) (h2 : kd n ≠ 110 → cu_Cv kd fi se s (se n).toNat) : cu_Cv kd fi se s n := fun P a b => b n h (h1 P a b) (fun z => h2 z P a b)
theorem cu_Cv_mono {kd fi se : Int → Int} {s t : Nat} (h : ∀ i, s.testBit i = true → t.testBit i = true) {n : Nat} (hc : cu_Cv kd fi se s n) : cu_Cv kd fi se t n :=
  hc (cu_Cv kd fi se t) (fun _ hb => .here (h _ hb)) (fun _ h1 i1 i2 => .gate h1 i1 i2)
def cu_wf (kd fi se : Int → Int) (N : Nat) : Prop := ∀ n : Nat, n < N → ¬ (kd n = 105 ∨ kd n = 114) → (0 ≤ fi n ∧ fi n < n) ∧ (kd n ≠ 110 → 0 ≤ se n ∧ se n < n)
def cu_gd (kd fi se : Int → Int) (k : Nat) (X : cu_Ls × Nat) : Prop :=
  1 ≤ X.1.1 ∧ X.1.1 ≤ 7 ∧ (∀ i, i < X.1.1 → X.1.2 i < 2 ^ (k + 1)) ∧ (∀ i, i < X.1.1 → cu_cnt (X.1.2 i) 48 ≤ 4) ∧ X.1.2 (X.1.1 - 1) = 2 ^ k ∧ (∀ i, i < X.1.1 → cu_Cv kd fi se (X.1.2 i) k) ∧ X.2 ≤ k ∧
  ((kd k = 105 ∨ kd k = 114) → X.2 = 0 ∧ X.1.1 = 1) ∧
  (¬ (kd k = 105 ∨ kd k = 114) → 2 ≤ X.1.1 ∧ X.1.2 0 < 2 ^ k ∧ cu_Cv kd fi se (X.1.2 0) (fi k).toNat ∧ (kd k ≠ 110 → cu_Cv kd fi se (X.1.2 0) (se k).toNat))
theorem cu_gd.pos {kd fi se : Int → Int} {k : Nat} {X : cu_Ls × Nat} (h : cu_gd kd fi se k X) : 1 ≤ X.1.1 := h.1
theorem cu_gd.le7 {kd fi se : Int → Int} {k : Nat} {X : cu_Ls × Nat} (h : cu_gd kd fi se k X) : X.1.1 ≤ 7 := h.2.1
theorem cu_gd.lt {kd fi se : Int → Int} {k : Nat} {X : cu_Ls × Nat} (h : cu_gd kd fi se k X) : ∀ i, i < X.1.1 → X.1.2 i < 2 ^ (k + 1) := h.2.2.1
theorem cu_gd.few {kd fi se : Int → Int} {k : Nat} {X : cu_Ls × Nat} (h : cu_gd kd fi se k X) : ∀ i, i < X.1.1 → cu_cnt (X.1.2 i) 48 ≤ 4 := h.2.2.2.1
theorem cu_gd.own {kd fi se : Int → Int} {k : Nat} {X : cu_Ls × Nat} (h : cu_gd kd fi se k X) : X.1.2 (X.1.1 - 1) = 2 ^ k := h.2.2.2.2.1
theorem cu_gd.cov {kd fi se : Int → Int} {k : Nat} {X : cu_Ls × Nat} (h : cu_gd kd fi se k X) : ∀ i, i < X.1.1 → cu_Cv kd fi se (X.1.2 i) k := h.2.2.2.2.2.1
theorem cu_gd.dep {kd fi se : Int → Int} {k : Nat} {X : cu_Ls × Nat} (h : cu_gd kd fi se k X) : X.2 ≤ k := h.2.2.2.2.2.2.1
theorem cu_gd.base {kd fi se : Int → Int} {k : Nat} {X : cu_Ls × Nat} (h : cu_gd kd fi se k X) : (kd k = 105 ∨ kd k = 114) → X.2 = 0 ∧ X.1.1 = 1 := h.2.2.2.2.2.2.2.1
theorem cu_gd.gate {kd fi se : Int → Int} {k : Nat} {X : cu_Ls × Nat} (h : cu_gd kd fi se k X) : ¬ (kd k = 105 ∨ kd k = 114) → 2 ≤ X.1.1 ∧ X.1.2 0 < 2 ^ k ∧ cu_Cv kd fi se (X.1.2 0) (fi k).toNat ∧ (kd k ≠ 110 → cu_Cv kd fi se (X.1.2 0) (se k).toNat) := h.2.2.2.2.2.2.2.2
theorem cu_node_gd {kd fi se : Int → Int} {T : Nat → cu_Ls × Nat} {n : Nat} (hn : n < 48) (hw : ¬ (kd n = 105 ∨ kd n = 114) → (0 ≤ fi n ∧ fi n < n) ∧ (kd n ≠ 110 → 0 ≤ se n ∧ se n < n)) (ht : ∀ k, k < n → cu_gd kd fi se k (T k)) (ho : ∀ k, n ≤ k → T k = ((0, fun _ => 0), 0)) : cu_gd kd fi se n (cu_node kd fi se T n) := by
  unfold cu_node cu_gd
  by_cases hk : kd n = 105 ∨ kd n = 114
  · rw [if_pos hk]
    have c1 := cu_cnt_pow1 n 48
    exact ⟨Nat.le_refl 1, by show 1 ≤ 7; omega, fun i _ => Nat.pow_lt_pow_right (by omega) (by omega), fun i _ => by show cu_cnt (2 ^ n) 48 ≤ 4; omega, rfl, fun i _ => cu_Cv.here (Nat.testBit_two_pow_self), Nat.zero_le _, fun _ => ⟨rfl, rfl⟩, fun z => absurd hk z⟩
  · rw [if_neg hk]
    obtain ⟨⟨w1, w2⟩, w3⟩ := hw hk
    have p2 : ∀ k, k < n → (2 : Nat) ^ (k + 1) ≤ 2 ^ n := fun k hk => Nat.pow_le_pow_right (by omega) (by omega)
    have hf := ht (fi n).toNat (by omega)
    have hs : ∀ k, k < (T (se n).toNat).1.1 → (T (se n).toNat).1.2 k < 2 ^ n := by
      intro k hk
      by_cases e : (se n).toNat < n
      · exact Nat.lt_of_lt_of_le ((ht _ e).lt k hk) (p2 _ e)
      · rw [ho _ (by omega)] at hk; exact absurd hk (Nat.not_lt_zero k)
    have hf2 : ∀ k, k < (T (fi n).toNat).1.1 → (T (fi n).toNat).1.2 k < 2 ^ n := fun k hk => Nat.lt_of_lt_of_le (hf.lt k hk) (p2 _ (by omega))
    have hok := cu_all_ok (D := fun k => (T k).2) (single := kd n = 110) (f1 := (T (fi n).toNat).1.2) (n := n) (by omega) hs (T (fi n).toNat).1.1 hf2
    have hone := cu_all_one (D := fun k => (T k).2) (single := kd n = 110) (L1 := (T (fi n).toNat).1) (L2 := (T (se n).toNat).1) (n := n) (by omega) hs hf2 hf.pos (fun z => (ht _ (by have := w3 z; omega)).pos) hf.own (fun z => (ht _ (by have := w3 z; omega)).own)
    have hcv := cu_all_all (D := fun k => (T k).2) (single := kd n = 110) (f1 := (T (fi n).toNat).1.2) (L2 := (T (se n).toNat).1) (n := n) (P := fun s => cu_Cv kd fi se s (fi n).toNat ∧ (kd n ≠ 110 → cu_Cv kd fi se s (se n).toNat)) (by omega) hs (T (fi n).toNat).1.1 (fun k hk => ⟨hf2 k hk, fun z => ⟨hf.cov k hk, fun z2 => absurd z z2⟩, fun z j hj => ⟨cu_Cv_mono (fun i hi => by rw [Nat.testBit_or, hi]; rfl) (hf.cov k hk), fun _ => cu_Cv_mono (fun i hi => by rw [Nat.testBit_or, hi, Bool.or_true]) ((ht _ (by have := w3 z; omega)).cov j hj)⟩⟩)
    generalize cu_all (fun k => (T k).2) (kd n = 110) (T (fi n).toNat).1.2 (T (se n).toNat).1 (T (fi n).toNat).1.1 = L at hok hone hcv
    obtain ⟨c, f⟩ := L
    simp only at hok hone hcv
    obtain ⟨k1, k2, _⟩ := hok
    simp only at k1 k2
    have pw : (2 : Nat) ^ (n + 1) = 2 * 2 ^ n := by rw [Nat.pow_succ]; omega
    have pz : 0 < (2 : Nat) ^ n := Nat.pow_pos (by omega)
    have c1 := cu_cnt_pow1 n 48
    refine ⟨by show 1 ≤ c + 1; omega, by show c + 1 ≤ 7; omega, ?_, ?_, ?_, ?_, ?_, fun z => absurd z hk, fun _ => ⟨by show 2 ≤ c + 1; omega, ?_⟩⟩
    · intro i hi
      simp only at hi ⊢
      by_cases e : i < c
      · rw [if_pos e]; have := (k2 i e).1; omega
      · rw [if_neg e]; omega
    · intro i hi
      simp only at hi ⊢
      by_cases e : i < c
      · rw [if_pos e]; exact (k2 i e).2
      · rw [if_neg e]; omega
    · show (if c + 1 - 1 < c then f (c + 1 - 1) else 2 ^ n) = 2 ^ n
      rw [if_neg (by omega)]
    · intro i hi
      simp only at hi ⊢
      by_cases e : i < c
      · rw [if_pos e]; exact cu_Cv.gate hk (hcv i e).1 (hcv i e).2
      · rw [if_neg e]; exact cu_Cv.here Nat.testBit_two_pow_self
    · show cu_top (fun k => (T k).2) (f 0) 48 + 1 ≤ n
      have h0 := (k2 0 (by omega)).1
      have e : cu_top (fun k => (T k).2) (f 0) 48 = cu_top (fun k => (T k).2) (f 0) n := by
        have := cu_top_more (D := fun k => (T k).2) h0 (48 - n)
        rwa [show n + (48 - n) = 48 from by omega] at this
      have hle : cu_top (fun k => (T k).2) (f 0) n ≤ n - 1 := cu_top_le n (fun i hi _ => by have := (ht i hi).dep; show (T i).2 ≤ n - 1; omega)
      omega
    · show (if 0 < c then f 0 else 2 ^ n) < 2 ^ n ∧ cu_Cv kd fi se (if 0 < c then f 0 else 2 ^ n) (fi n).toNat ∧ (kd n ≠ 110 → cu_Cv kd fi se (if 0 < c then f 0 else 2 ^ n) (se n).toNat)
      rw [if_pos (show 0 < c by omega)]
      exact ⟨(k2 0 (by omega)).1, hcv 0 (by omega)⟩
theorem cu_T_gd {kd fi se : Int → Int} : ∀ n, n ≤ 48 → cu_wf kd fi se n → ∀ k, k < n → cu_gd kd fi se k (cu_T kd fi se n k)
  | 0, _, _ => fun k hk => absurd hk (Nat.not_lt_zero k)
  | n + 1, hn, hw => by
    have ih := cu_T_gd n (by omega) (fun k hk => hw k (by omega))
    intro k hk
    rw [cu_T_succ]
    by_cases e : k = n
    · rw [if_pos e, e]; exact cu_node_gd (by omega) (hw n (by omega)) ih (fun k hk => cu_T_out n k hk)
    · rw [if_neg e]; exact ih k (by omega)

