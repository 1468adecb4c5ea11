/-! fill -/
theorem fi_dec : ∀ n : Fin 169, vf_n32 (FP.fdiv (FP.i2f (Int32.ofInt ((n.1 : Nat) : Int))) (UInt32.ofNat (Int.toNat 1126694912))) ∧ vf_n64 (FP.f2d (FP.fdiv (FP.i2f (Int32.ofInt ((n.1 : Nat) : Int))) (UInt32.ofNat (Int.toNat 1126694912)))) := by
  unfold vf_n32 vf_n64
  decide +kernel
def fi_e (μ : ma_M) (n : Int) : Int := ma_sum (fun x => if 0 ≤ μ 42 n x then 1 else 0) 49
theorem rl_hi_rng {e : Int} (h0 : 0 ≤ e) (h1 : e < 84) : 0 ≤ rl_hi e ∧ rl_hi e < 49 ∧ rl_lo e < rl_hi e := by
  unfold rl_hi rl_lo
  by_cases h : e < 42
  · rw [if_pos h, if_pos h]; omega
  · rw [if_neg h, if_neg h]; omega
