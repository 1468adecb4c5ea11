def rt_g1 (m m' : ma_M) : Prop := ∀ c : Nat, c ≠ 98 → c ≠ 99 → c ≠ 100 → m' c = m c
