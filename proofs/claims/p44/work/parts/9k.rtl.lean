def rt_Z (N : Nat) (pin : Int → Int → Int) (s : rt_st) : Prop := ∀ n : Int, 0 ≤ n → n < N → (∀ x : Int, 0 ≤ x → x < 49 → pin n x = 0) → ∀ x : Int, 0 ≤ x → x < 49 → s.1 n x = -1
theorem rt_i_no {b : Int → Int} {e : Int} (e0 : 0 ≤ e) (e1 : e < 84) (h : ∀ x : Int, 0 ≤ x → x < 49 → b x = -1) : rt_i b e = 0 := by
  have lo := rl_lo_rng e0 e1
  have hi := rl_hi_rng e0 e1
  unfold rt_i
  rw [h _ lo.1 lo.2.1, h _ hi.1 hi.2.1, if_neg (by omega)]
theorem rt_net_Z {N : Nat} {r : Int} {p src : Int → Int} {pin : Int → Int → Int} {s : rt_st} {n : Int} (H : rt_Z N pin s) : rt_Z N pin (rt_net r p src pin n s) := fun k k0 k1 hk x x0 x1 => by
  show (if k = n then rt_lay (rt_t (rt_U s n) p r) (src n) (pin n) 49 else s.1 k) x = -1
  by_cases e : k = n
  · rw [if_pos e, rt_lay_no 49 (fun y y0 y1 => by rw [← e]; exact hk y y0 y1)]
  · rw [if_neg e]; exact H k k0 k1 hk x x0 x1
theorem rt_nets_Z {N : Nat} {r : Int} {p src : Int → Int} {pin : Int → Int → Int} {s : rt_st} (H : rt_Z N pin s) : ∀ n : Nat, rt_Z N pin (rt_nets r p src pin s n)
  | 0 => H
  | n + 1 => rt_net_Z (rt_nets_Z H n)
theorem rt_band : ma_and 1 1 = 1 ∧ ma_and 1 0 = 0 ∧ ma_and 0 1 = 0 ∧ ma_and 0 0 = 0 := ⟨ma_and_nat 1 1 (by decide) (by decide), ma_and_nat 1 0 (by decide) (by decide), ma_and_nat 0 1 (by decide) (by decide), ma_and_nat 0 0 (by decide) (by decide)⟩
def rt_s0 : rt_st := (fun _ _ => -1, fun _ => 0)
theorem rt_G0 {N : Nat} {src : Int → Int} {pin : Int → Int → Int} : rt_G N src pin rt_s0 0 := by
  refine ⟨fun n _ _ => .inl (fun _ _ _ => rfl), fun e e0 e1 => ?_, fun n n0 _ h => by omega⟩
  rw [ma_sum_cong (f := fun n => rt_i (rt_s0.1 n) e) (g := fun _ => 0) N (fun i _ _ => rt_i_no e0 e1 (fun _ _ _ => rfl)), ma_sum_zero]; rfl
