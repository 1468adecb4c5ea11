/-! what stands in the frames that build fills -/
def bS (μ : ma_M) : Int → Int := bd_O μ (bd_NN μ (bd_B μ (μ 21 0 7).toNat) (μ 3 0 10).toNat) (μ 3 0 13).toNat
theorem bS_O_low {μ : ma_M} {S : Int → Int} {j : Int} (h : j < 468) : ∀ n : Nat, bd_O μ S n j = S j
  | 0 => rfl
  | n + 1 => by
    show (if j = 468 + (n : Int) then _ else bd_O μ S n j) = S j
    rw [if_neg (by omega)]
    exact bS_O_low h n
theorem bS_O_at {μ : ma_M} {S : Int → Int} {o : Nat} : ∀ n : Nat, o < n → bd_O μ S n (468 + (o : Int)) = bd_c μ (μ 13 0 o) (42 + o)
  | 0, h => absurd h (Nat.not_lt_zero o)
  | n + 1, h => by
    show (if (468 : Int) + (o : Int) = 468 + (n : Int) then bd_c μ (μ 13 0 n) (42 + n) else bd_O μ S n (468 + (o : Int))) = _
    by_cases e : o = n
    · rw [e, if_pos rfl]
    · rw [if_neg (by omega)]
      exact bS_O_at n (by omega)
theorem bS_N_no {μ : ma_M} {n : Int} {S : Int → Int} {j : Int} : ∀ x : Nat, (∀ y : Nat, y < x → 0 ≤ μ 42 n y → j ≠ bd_w (μ 42 n y) (rl_ct μ (μ 42 n y) n.toNat)) → bd_N μ n S x j = S j
  | 0, _ => rfl
  | x + 1, h => by
    have ih := bS_N_no (μ := μ) (n := n) (S := S) (j := j) x (fun y hy => h y (by omega))
    have un : bd_N μ n S (x + 1) = if 0 ≤ μ 42 n x then bd_up (bd_N μ n S x) (bd_w (μ 42 n x) (rl_ct μ (μ 42 n x) n.toNat)) (bd_c μ n (wy_o (μ 42 n x) x)) else bd_N μ n S x := rfl
    rw [un]
    by_cases q : 0 ≤ μ 42 n x
    · rw [if_pos q]
      unfold bd_up
      rw [if_neg (h x (by omega) q)]
      exact ih
    · rw [if_neg q]; exact ih
theorem bS_N_at {μ : ma_M} {n : Int} {S : Int → Int} {z : Nat} (hz : 0 ≤ μ 42 n z) (uq : ∀ y : Nat, y < 49 → y ≠ z → 0 ≤ μ 42 n y → bd_w (μ 42 n z) (rl_ct μ (μ 42 n z) n.toNat) ≠ bd_w (μ 42 n y) (rl_ct μ (μ 42 n y) n.toNat)) : ∀ x : Nat, z < x → x ≤ 49 → bd_N μ n S x (bd_w (μ 42 n z) (rl_ct μ (μ 42 n z) n.toNat)) = bd_c μ n (wy_o (μ 42 n z) z)
  | 0, h, _ => absurd h (Nat.not_lt_zero z)
  | x + 1, h, h49 => by
    have un : bd_N μ n S (x + 1) = if 0 ≤ μ 42 n x then bd_up (bd_N μ n S x) (bd_w (μ 42 n x) (rl_ct μ (μ 42 n x) n.toNat)) (bd_c μ n (wy_o (μ 42 n x) x)) else bd_N μ n S x := rfl
    rw [un]
    by_cases e : x = z
    · subst e
      rw [if_pos hz]
      unfold bd_up
      rw [if_pos rfl]
    · have ih := bS_N_at (S := S) hz uq x (by omega) (by omega)
      by_cases q : 0 ≤ μ 42 n x
      · rw [if_pos q]
        unfold bd_up
        rw [if_neg (uq x (by omega) e q)]
        exact ih
      · rw [if_neg q]; exact ih
theorem bd_w_inj {e j e' j' : Int} (e0 : 0 ≤ e) (e1 : e < 84) (j0 : 0 ≤ j) (j1 : j ≤ 1) (f0 : 0 ≤ e') (f1 : e' < 84) (g0 : 0 ≤ j') (g1 : j' ≤ 1) (h : bd_w e j = bd_w e' j') : e = e' ∧ j = j' := by
  have a := bd_w_rng e0 e1 j0 j1
  have b := bd_w_rng f0 f1 g0 g1
  have la := rl_lo_rng e0 e1
  have lb := rl_lo_rng f0 f1
  unfold bd_w at h
  have h1 : rl_lo e / 7 = rl_lo e' / 7 := by omega
  have h2 : rl_ix e + j = rl_ix e' + j' := by omega
  clear h a b
  unfold rl_ix at h2
  have L1 : ∀ y : Int, 42 ≤ y → rl_lo y = 7 * ((y - 42) / 6) + (y - 42) % 6 := fun y hy => by unfold rl_lo; rw [if_neg (by omega)]
  have L2 : ∀ y : Int, y < 42 → rl_lo y = y := fun y hy => by unfold rl_lo; rw [if_pos hy]
  by_cases p : e < 42
  · have q := L2 e p
    rw [if_pos (.inl p)] at h2
    by_cases p' : e' < 42
    · have q' := L2 e' p'
      rw [if_pos (.inl p')] at h2
      omega
    · have q' := L1 e' (by omega)
      by_cases r : 42 ≤ rl_lo e'
      · omega
      · rw [if_neg (by omega)] at h2; omega
  · have q := L1 e (by omega)
    by_cases p' : e' < 42
    · have q' := L2 e' p'
      rw [if_pos (show e' < 42 ∨ 42 ≤ rl_lo e' from .inl p')] at h2
      by_cases r : 42 ≤ rl_lo e
      · omega
      · rw [if_neg (by omega)] at h2; omega
    · have q' := L1 e' (by omega)
      by_cases r : 42 ≤ rl_lo e
      · rw [if_pos (.inr r), if_pos (show e' < 42 ∨ 42 ≤ rl_lo e' from .inr (by omega))] at h2
        omega
      · rw [if_neg (by omega), if_neg (by omega)] at h2
        omega
/-- a net's use of an edge: its place among the nets -/
theorem bS_ct {μ : ma_M} (H : bd_H μ) {n : Nat} (hn : (n : Int) < μ 3 0 10) {x : Int} (x0 : 0 ≤ x) (x1 : x < 49) (h : 0 ≤ μ 42 n x) : μ 42 n x < 84 ∧ wr_h μ n (μ 42 n x) ∧ 0 ≤ rl_ct μ (μ 42 n x) n ∧ rl_ct μ (μ 42 n x) n ≤ 1 ∧ rl_ct μ (μ 42 n x) (n + 1) = rl_ct μ (μ 42 n x) n + 1 := by
  have T := H.1.2.2.2 n (by omega) hn
  have a := (T.2.2.1 x x0 x1).2.1
  have b := bd_has T x0 x1 h
  have c := bd_ct (μ := μ) (e := μ 42 n x) (n := n) (N := (μ 3 0 10).toNat) (by omega) b (H.2 _ h a)
  exact ⟨a, b, c.1, c.2, (wr_ct1 (μ := μ) (e := μ 42 n x) n).1 b⟩
theorem bS_NN_low {μ : ma_M} (H : bd_H μ) {S : Int → Int} {j : Int} (h : j < 216 ∨ 468 ≤ j) : ∀ n : Nat, (n : Int) ≤ μ 3 0 10 → bd_NN μ S n j = S j
  | 0, _ => rfl
  | n + 1, hn => by
    show bd_N μ n (bd_NN μ S n) 49 j = S j
    rw [bS_N_no (n := (n : Int)) 49 (fun y hy q => ?_)]
    · exact bS_NN_low H h n (by omega)
    · have t := bS_ct H (n := n) (by omega) (x := y) (by omega) (by omega) q
      have w := bd_w_rng q t.1 (j := rl_ct μ (μ 42 n y) n) t.2.2.1 t.2.2.2.1
      rw [Int.toNat_natCast]
      omega
theorem bS_wire {μ : ma_M} (H : bd_H μ) {n z : Nat} (hn : (n : Int) < μ 3 0 10) (hz : z < 49) (h : 0 ≤ μ 42 n z) : bS μ (bd_w (μ 42 n z) (rl_ct μ (μ 42 n z) n)) = bd_c μ n (wy_o (μ 42 n z) z) := by
  have t := bS_ct H hn (x := z) (by omega) (by omega) h
  have w := bd_w_rng h t.1 (j := rl_ct μ (μ 42 n z) n) t.2.2.1 t.2.2.2.1
  have T := H.1.2.2.2 n (by omega) hn
  have uq : ∀ y : Nat, y < 49 → y ≠ z → 0 ≤ μ 42 n y → bd_w (μ 42 n z) (rl_ct μ (μ 42 n z) (n : Int).toNat) ≠ bd_w (μ 42 n y) (rl_ct μ (μ 42 n y) (n : Int).toNat) := by
    intro y hy ne q e
    rw [Int.toNat_natCast] at e
    have t' := bS_ct H hn (x := y) (by omega) (by omega) q
    have i := bd_w_inj h t.1 t.2.2.1 t.2.2.2.1 q t'.1 t'.2.2.1 t'.2.2.2.1 e
    have a := (T.2.2.1 z (by omega) (by omega)).2.2.2.2 h
    have b := (T.2.2.1 y (by omega) (by omega)).2.2.2.2 q
    have c := (T.2.2.2.1 (μ 42 n z) h t.1).2.2.2
    rw [← i.1] at b
    apply c
    have lh : rl_lo (μ 42 n z) < rl_hi (μ 42 n z) := by unfold rl_hi; split <;> omega
    rcases a with a | a <;> rcases b with b | b
    · exact absurd (by omega) ne
    · exact ⟨by rw [← a], by rw [← b, ← i.1]⟩
    · exact ⟨by rw [← b, ← i.1], by rw [← a]⟩
    · exact absurd (by omega) ne
  unfold bS
  rw [bS_O_low (by omega)]
  have key : ∀ k : Nat, ((n + 1 + k : Nat) : Int) ≤ μ 3 0 10 → bd_NN μ (bd_B μ (μ 21 0 7).toNat) (n + 1 + k) (bd_w (μ 42 n z) (rl_ct μ (μ 42 n z) n)) = bd_c μ n (wy_o (μ 42 n z) z) := by
    intro k
    induction k with
    | zero =>
      intro _
      have := bS_N_at (μ := μ) (n := (n : Int)) (S := bd_NN μ (bd_B μ (μ 21 0 7).toNat) n) h uq 49 (by omega) (Nat.le_refl 49)
      rw [Int.toNat_natCast] at this
      exact this
    | succ k ih =>
      intro hk
      show bd_N μ ((n + 1 + k : Nat) : Int) (bd_NN μ (bd_B μ (μ 21 0 7).toNat) (n + 1 + k)) 49 _ = _
      rw [bS_N_no (n := ((n + 1 + k : Nat) : Int)) 49 (fun y hy q e => ?_)]
      · exact ih (by omega)
      · rw [Int.toNat_natCast] at e
        have t' := bS_ct H (n := n + 1 + k) (by omega) (x := y) (by omega) (by omega) q
        have i := bd_w_inj h t.1 t.2.2.1 t.2.2.2.1 q t'.1 t'.2.2.1 t'.2.2.2.1 e
        have m := bd_mono (μ := μ) (e := μ 42 n z) (n + 1) k
        rw [← i.1] at i
        have i2 := i.2
        omega
  have := key ((μ 3 0 10).toNat - (n + 1)) (by omega)
  rw [show n + 1 + ((μ 3 0 10).toNat - (n + 1)) = (μ 3 0 10).toNat from by omega] at this
  exact this
theorem bS_B_no {μ : ma_M} {j : Int} : ∀ n : Nat, (∀ b : Nat, b < n → ¬ (6 * μ 32 0 b ≤ j ∧ j < 6 * μ 32 0 b + 6)) → bd_B μ n j = 0
  | 0, _ => rfl
  | n + 1, h => by
    show (if 6 * μ 32 0 n ≤ j ∧ j < 6 * μ 32 0 n + 6 then _ else bd_B μ n j) = 0
    rw [if_neg (h n (by omega))]
    exact bS_B_no n (fun b hb => h b (by omega))
theorem bS_B_at {μ : ma_M} {j : Int} {c : Nat} (hj : 6 * μ 32 0 c ≤ j ∧ j < 6 * μ 32 0 c + 6) : ∀ n : Nat, c < n → (∀ b : Nat, b < n → b ≠ c → ¬ (6 * μ 32 0 b ≤ j ∧ j < 6 * μ 32 0 b + 6)) → bd_B μ n j = bd_b μ c (j - 6 * μ 32 0 c)
  | 0, h, _ => absurd h (Nat.not_lt_zero c)
  | n + 1, h, hu => by
    show (if 6 * μ 32 0 n ≤ j ∧ j < 6 * μ 32 0 n + 6 then bd_b μ n (j - 6 * μ 32 0 n) else bd_B μ n j) = _
    by_cases e : n = c
    · subst e; rw [if_pos hj]
    · rw [if_neg (hu n (by omega) e)]
      exact bS_B_at hj n (by omega) (fun b hb => hu b (by omega))
theorem bS_cell {μ : ma_M} (H : bd_H μ) {b : Nat} {o : Int} (hb : (b : Int) < μ 21 0 7) (o0 : 0 ≤ o) (o1 : o < 6) : bS μ (6 * μ 32 0 b + o) = bd_b μ b o := by
  have P := H.1.2.2.1
  have pb := P.1 b (by omega) hb
  unfold bS
  rw [bS_O_low (by omega), bS_NN_low H (.inl (by omega)) _ (by have := H.1.1.1; omega), bS_B_at (c := b) (by omega) _ (by omega) (fun y hy ne q => ?_)]
  · rw [show 6 * μ 32 0 b + o - 6 * μ 32 0 b = o from by omega]
  · have py := P.1 y (by omega) (by omega)
    have e : μ 32 0 y = μ 32 0 b := by omega
    have e2 : (y : Int) = b := by rw [← py.2.2.2.1, ← pb.2.2.2.1, e]
    omega
theorem bS_free {μ : ma_M} (H : bd_H μ) {c o : Int} (c0 : 0 ≤ c) (c1 : c < 36) (h : μ 33 0 c < 0) (o0 : 0 ≤ o) (o1 : o < 6) : bS μ (6 * c + o) = 0 := by
  have P := H.1.2.2.1
  unfold bS
  rw [bS_O_low (by omega), bS_NN_low H (.inl (by omega)) _ (by have := H.1.1.1; omega), bS_B_no _ (fun y hy q => ?_)]
  have py := P.1 y (by omega) (by omega)
  have e : μ 32 0 y = c := by omega
  rw [e] at py
  omega
theorem bS_out {μ : ma_M} {o : Nat} (h : (o : Int) < μ 3 0 13) : bS μ (468 + o) = bd_c μ (μ 13 0 o) (42 + o) := by
  unfold bS
  exact bS_O_at _ (by omega)
