theorem rt_src_rng {μ : ma_M} (Hc : rl_c μ) (Hm : rl_m μ) (Hp : rl_p μ) {n : Int} (n0 : 0 ≤ n) (n1 : n < μ 3 0 10) (hk : μ 4 0 n = 105 ∨ 0 ≤ μ 28 0 n) : 0 ≤ rl_src μ n ∧ rl_src μ n < 49 := by
  have I1 := Hc.2.2.2.1
  have nn := Hc.2.2.2.2.2.2.2.2.2.2.2.2.1 n n0 n1
  have mm := Hm.2.2.2.1 n n0 n1
  unfold rl_src
  by_cases p : μ 4 0 n = 105
  · rw [if_pos p]; have := nn.2.2.1 p; omega
  · rw [if_neg p]
    have b0 : 0 ≤ μ 28 0 n := by
      rcases hk with z | z
      · exact absurd z p
      · exact z
    have pb := Hp.1 _ b0 mm.2.2.2.2.2.2.1
    have := rl_x_rng pb.2.1 pb.2.2.1
    omega
