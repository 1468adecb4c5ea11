/-! scrub -/
def sc_b (μ : ma_M) (f : Int) : Int := if ck_sum (μ 60 f) (fl_len f).toNat = ck_sum (μ 55 f) (fl_len f).toNat then 0 else 1
def sc_w (μ : ma_M) (f i : Int) : Int := if ck_sum (μ 60 f) (fl_len f).toNat = ck_sum (μ 55 f) (fl_len f).toNat then μ 60 f i else μ 55 f i
theorem sc_b_rng (μ : ma_M) (f : Int) : 0 ≤ sc_b μ f ∧ sc_b μ f ≤ 1 := by unfold sc_b; split <;> omega
