/-! sourceOf, agrees -/
def so_n (μ : ma_M) (a : Int) : Int := if 300 ≤ a ∧ a < 300 + μ 3 0 11 then μ 11 0 (a - 300) else if 200 ≤ a ∧ a < 272 then (if 0 ≤ μ 33 0 ((a - 200) / 2) then (if a % 2 = 0 then μ 22 0 (μ 33 0 ((a - 200) / 2)) else μ 23 0 (μ 33 0 ((a - 200) / 2))) else -1) else -1
