/-! the blocks are what the bytes say -/
theorem ma_chk_0 : ((ma_ms 0 13).all fun y => ma_chk (ma_b y) (ma_oi y) (ma_nL y) (ma_bt y) && decide (ma_own (ma_oi y) = (ma_y y).cls)) = true := by decide +kernel
theorem ma_chk_1 : ((ma_ms 13 12).all fun y => ma_chk (ma_b y) (ma_oi y) (ma_nL y) (ma_bt y) && decide (ma_own (ma_oi y) = (ma_y y).cls)) = true := by decide +kernel
theorem ma_chk_2 : ((ma_ms 25 19).all fun y => ma_chk (ma_b y) (ma_oi y) (ma_nL y) (ma_bt y) && decide (ma_own (ma_oi y) = (ma_y y).cls)) = true := by decide +kernel
theorem ma_chk_3 : ((ma_ms 44 15).all fun y => ma_chk (ma_b y) (ma_oi y) (ma_nL y) (ma_bt y) && decide (ma_own (ma_oi y) = (ma_y y).cls)) = true := by decide +kernel
theorem ma_chk_4 : ((ma_ms 59 20).all fun y => ma_chk (ma_b y) (ma_oi y) (ma_nL y) (ma_bt y) && decide (ma_own (ma_oi y) = (ma_y y).cls)) = true := by decide +kernel
theorem ma_chk_5 : ((ma_ms 79 20).all fun y => ma_chk (ma_b y) (ma_oi y) (ma_nL y) (ma_bt y) && decide (ma_own (ma_oi y) = (ma_y y).cls)) = true := by decide +kernel
theorem ma_chk_6 : ((ma_ms 99 20).all fun y => ma_chk (ma_b y) (ma_oi y) (ma_nL y) (ma_bt y) && decide (ma_own (ma_oi y) = (ma_y y).cls)) = true := by decide +kernel
theorem ma_chk_7 : ((ma_ms 119 12).all fun y => ma_chk (ma_b y) (ma_oi y) (ma_nL y) (ma_bt y) && decide (ma_own (ma_oi y) = (ma_y y).cls)) = true := by decide +kernel
theorem ma_chk_8 : ((ma_ms 131 17).all fun y => ma_chk (ma_b y) (ma_oi y) (ma_nL y) (ma_bt y) && decide (ma_own (ma_oi y) = (ma_y y).cls)) = true := by decide +kernel
theorem ma_chk_9 : ((ma_ms 148 7).all fun y => ma_chk (ma_b y) (ma_oi y) (ma_nL y) (ma_bt y) && decide (ma_own (ma_oi y) = (ma_y y).cls)) = true := by decide +kernel
theorem ma_chk_all (y : Nat) (h : y < ma_nM) : ma_chk (ma_b y) (ma_oi y) (ma_nL y) (ma_bt y) = true ∧ ma_own (ma_oi y) = (ma_y y).cls := by
  have h : y < 155 := h
  by_cases h0 : y < 13
  · simpa only [Bool.and_eq_true, decide_eq_true_eq] using List.all_eq_true.mp ma_chk_0 y (List.mem_map.mpr ⟨y - 0, List.mem_range.mpr (by omega), by omega⟩)
  by_cases h1 : y < 25
  · simpa only [Bool.and_eq_true, decide_eq_true_eq] using List.all_eq_true.mp ma_chk_1 y (List.mem_map.mpr ⟨y - 13, List.mem_range.mpr (by omega), by omega⟩)
  by_cases h2 : y < 44
  · simpa only [Bool.and_eq_true, decide_eq_true_eq] using List.all_eq_true.mp ma_chk_2 y (List.mem_map.mpr ⟨y - 25, List.mem_range.mpr (by omega), by omega⟩)
  by_cases h3 : y < 59
  · simpa only [Bool.and_eq_true, decide_eq_true_eq] using List.all_eq_true.mp ma_chk_3 y (List.mem_map.mpr ⟨y - 44, List.mem_range.mpr (by omega), by omega⟩)
  by_cases h4 : y < 79
  · simpa only [Bool.and_eq_true, decide_eq_true_eq] using List.all_eq_true.mp ma_chk_4 y (List.mem_map.mpr ⟨y - 59, List.mem_range.mpr (by omega), by omega⟩)
  by_cases h5 : y < 99
  · simpa only [Bool.and_eq_true, decide_eq_true_eq] using List.all_eq_true.mp ma_chk_5 y (List.mem_map.mpr ⟨y - 79, List.mem_range.mpr (by omega), by omega⟩)
  by_cases h6 : y < 119
  · simpa only [Bool.and_eq_true, decide_eq_true_eq] using List.all_eq_true.mp ma_chk_6 y (List.mem_map.mpr ⟨y - 99, List.mem_range.mpr (by omega), by omega⟩)
  by_cases h7 : y < 131
  · simpa only [Bool.and_eq_true, decide_eq_true_eq] using List.all_eq_true.mp ma_chk_7 y (List.mem_map.mpr ⟨y - 119, List.mem_range.mpr (by omega), by omega⟩)
  by_cases h8 : y < 148
  · simpa only [Bool.and_eq_true, decide_eq_true_eq] using List.all_eq_true.mp ma_chk_8 y (List.mem_map.mpr ⟨y - 131, List.mem_range.mpr (by omega), by omega⟩)
  by_cases h9 : y < 155
  · simpa only [Bool.and_eq_true, decide_eq_true_eq] using List.all_eq_true.mp ma_chk_9 y (List.mem_map.mpr ⟨y - 148, List.mem_range.mpr (by omega), by omega⟩)
  omega
