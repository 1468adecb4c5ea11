/-! the blocks are what the bytes say -/
theorem ma_chk_0 : ((ma_ms 0 18).all fun y => ma_chk (ma_b y) (ma_oi y) (ma_nL y) (ma_bt y) && decide (ma_own (ma_oi y) = (ma_y y).cls)) = true := by decide +kernel
theorem ma_chk_1 : ((ma_ms 18 13).all fun y => ma_chk (ma_b y) (ma_oi y) (ma_nL y) (ma_bt y) && decide (ma_own (ma_oi y) = (ma_y y).cls)) = true := by decide +kernel
theorem ma_chk_2 : ((ma_ms 31 18).all fun y => ma_chk (ma_b y) (ma_oi y) (ma_nL y) (ma_bt y) && decide (ma_own (ma_oi y) = (ma_y y).cls)) = true := by decide +kernel
theorem ma_chk_3 : ((ma_ms 49 20).all fun y => ma_chk (ma_b y) (ma_oi y) (ma_nL y) (ma_bt y) && decide (ma_own (ma_oi y) = (ma_y y).cls)) = true := by decide +kernel
theorem ma_chk_4 : ((ma_ms 69 20).all fun y => ma_chk (ma_b y) (ma_oi y) (ma_nL y) (ma_bt y) && decide (ma_own (ma_oi y) = (ma_y y).cls)) = true := by decide +kernel
theorem ma_chk_5 : ((ma_ms 89 19).all fun y => ma_chk (ma_b y) (ma_oi y) (ma_nL y) (ma_bt y) && decide (ma_own (ma_oi y) = (ma_y y).cls)) = true := by decide +kernel
theorem ma_chk_6 : ((ma_ms 108 18).all fun y => ma_chk (ma_b y) (ma_oi y) (ma_nL y) (ma_bt y) && decide (ma_own (ma_oi y) = (ma_y y).cls)) = true := by decide +kernel
theorem ma_chk_7 : ((ma_ms 126 20).all fun y => ma_chk (ma_b y) (ma_oi y) (ma_nL y) (ma_bt y) && decide (ma_own (ma_oi y) = (ma_y y).cls)) = true := by decide +kernel
theorem ma_chk_8 : ((ma_ms 146 20).all fun y => ma_chk (ma_b y) (ma_oi y) (ma_nL y) (ma_bt y) && decide (ma_own (ma_oi y) = (ma_y y).cls)) = true := by decide +kernel
theorem ma_chk_9 : ((ma_ms 166 20).all fun y => ma_chk (ma_b y) (ma_oi y) (ma_nL y) (ma_bt y) && decide (ma_own (ma_oi y) = (ma_y y).cls)) = true := by decide +kernel
theorem ma_chk_10 : ((ma_ms 186 13).all fun y => ma_chk (ma_b y) (ma_oi y) (ma_nL y) (ma_bt y) && decide (ma_own (ma_oi y) = (ma_y y).cls)) = true := by decide +kernel
theorem ma_chk_11 : ((ma_ms 199 9).all fun y => ma_chk (ma_b y) (ma_oi y) (ma_nL y) (ma_bt y) && decide (ma_own (ma_oi y) = (ma_y y).cls)) = true := by decide +kernel
theorem ma_chk_12 : ((ma_ms 208 17).all fun y => ma_chk (ma_b y) (ma_oi y) (ma_nL y) (ma_bt y) && decide (ma_own (ma_oi y) = (ma_y y).cls)) = true := by decide +kernel
theorem ma_chk_13 : ((ma_ms 225 9).all fun y => ma_chk (ma_b y) (ma_oi y) (ma_nL y) (ma_bt y) && decide (ma_own (ma_oi y) = (ma_y y).cls)) = true := by decide +kernel
theorem ma_chk_14 : ((ma_ms 234 13).all fun y => ma_chk (ma_b y) (ma_oi y) (ma_nL y) (ma_bt y) && decide (ma_own (ma_oi y) = (ma_y y).cls)) = true := by decide +kernel
theorem ma_chk_15 : ((ma_ms 247 10).all fun y => ma_chk (ma_b y) (ma_oi y) (ma_nL y) (ma_bt y) && decide (ma_own (ma_oi y) = (ma_y y).cls)) = true := by decide +kernel
theorem ma_chk_16 : ((ma_ms 257 13).all fun y => ma_chk (ma_b y) (ma_oi y) (ma_nL y) (ma_bt y) && decide (ma_own (ma_oi y) = (ma_y y).cls)) = true := by decide +kernel
theorem ma_chk_17 : ((ma_ms 270 8).all fun y => ma_chk (ma_b y) (ma_oi y) (ma_nL y) (ma_bt y) && decide (ma_own (ma_oi y) = (ma_y y).cls)) = true := by decide +kernel
theorem ma_chk_all (y : Nat) (h : y < ma_nM) : ma_chk (ma_b y) (ma_oi y) (ma_nL y) (ma_bt y) = true ∧ ma_own (ma_oi y) = (ma_y y).cls := by
  have h : y < 278 := h
  by_cases h0 : y < 18
  · simpa only [Bool.and_eq_true, decide_eq_true_eq] using List.all_eq_true.mp ma_chk_0 y (List.mem_map.mpr ⟨y - 0, List.mem_range.mpr (by omega), by omega⟩)
  by_cases h1 : y < 31
  · simpa only [Bool.and_eq_true, decide_eq_true_eq] using List.all_eq_true.mp ma_chk_1 y (List.mem_map.mpr ⟨y - 18, List.mem_range.mpr (by omega), by omega⟩)
  by_cases h2 : y < 49
  · simpa only [Bool.and_eq_true, decide_eq_true_eq] using List.all_eq_true.mp ma_chk_2 y (List.mem_map.mpr ⟨y - 31, List.mem_range.mpr (by omega), by omega⟩)
  by_cases h3 : y < 69
  · simpa only [Bool.and_eq_true, decide_eq_true_eq] using List.all_eq_true.mp ma_chk_3 y (List.mem_map.mpr ⟨y - 49, List.mem_range.mpr (by omega), by omega⟩)
  by_cases h4 : y < 89
  · simpa only [Bool.and_eq_true, decide_eq_true_eq] using List.all_eq_true.mp ma_chk_4 y (List.mem_map.mpr ⟨y - 69, List.mem_range.mpr (by omega), by omega⟩)
  by_cases h5 : y < 108
  · simpa only [Bool.and_eq_true, decide_eq_true_eq] using List.all_eq_true.mp ma_chk_5 y (List.mem_map.mpr ⟨y - 89, List.mem_range.mpr (by omega), by omega⟩)
  by_cases h6 : y < 126
  · simpa only [Bool.and_eq_true, decide_eq_true_eq] using List.all_eq_true.mp ma_chk_6 y (List.mem_map.mpr ⟨y - 108, List.mem_range.mpr (by omega), by omega⟩)
  by_cases h7 : y < 146
  · simpa only [Bool.and_eq_true, decide_eq_true_eq] using List.all_eq_true.mp ma_chk_7 y (List.mem_map.mpr ⟨y - 126, List.mem_range.mpr (by omega), by omega⟩)
  by_cases h8 : y < 166
  · simpa only [Bool.and_eq_true, decide_eq_true_eq] using List.all_eq_true.mp ma_chk_8 y (List.mem_map.mpr ⟨y - 146, List.mem_range.mpr (by omega), by omega⟩)
  by_cases h9 : y < 186
  · simpa only [Bool.and_eq_true, decide_eq_true_eq] using List.all_eq_true.mp ma_chk_9 y (List.mem_map.mpr ⟨y - 166, List.mem_range.mpr (by omega), by omega⟩)
  by_cases h10 : y < 199
  · simpa only [Bool.and_eq_true, decide_eq_true_eq] using List.all_eq_true.mp ma_chk_10 y (List.mem_map.mpr ⟨y - 186, List.mem_range.mpr (by omega), by omega⟩)
  by_cases h11 : y < 208
  · simpa only [Bool.and_eq_true, decide_eq_true_eq] using List.all_eq_true.mp ma_chk_11 y (List.mem_map.mpr ⟨y - 199, List.mem_range.mpr (by omega), by omega⟩)
  by_cases h12 : y < 225
  · simpa only [Bool.and_eq_true, decide_eq_true_eq] using List.all_eq_true.mp ma_chk_12 y (List.mem_map.mpr ⟨y - 208, List.mem_range.mpr (by omega), by omega⟩)
  by_cases h13 : y < 234
  · simpa only [Bool.and_eq_true, decide_eq_true_eq] using List.all_eq_true.mp ma_chk_13 y (List.mem_map.mpr ⟨y - 225, List.mem_range.mpr (by omega), by omega⟩)
  by_cases h14 : y < 247
  · simpa only [Bool.and_eq_true, decide_eq_true_eq] using List.all_eq_true.mp ma_chk_14 y (List.mem_map.mpr ⟨y - 234, List.mem_range.mpr (by omega), by omega⟩)
  by_cases h15 : y < 257
  · simpa only [Bool.and_eq_true, decide_eq_true_eq] using List.all_eq_true.mp ma_chk_15 y (List.mem_map.mpr ⟨y - 247, List.mem_range.mpr (by omega), by omega⟩)
  by_cases h16 : y < 270
  · simpa only [Bool.and_eq_true, decide_eq_true_eq] using List.all_eq_true.mp ma_chk_16 y (List.mem_map.mpr ⟨y - 257, List.mem_range.mpr (by omega), by omega⟩)
  by_cases h17 : y < 278
  · simpa only [Bool.and_eq_true, decide_eq_true_eq] using List.all_eq_true.mp ma_chk_17 y (List.mem_map.mpr ⟨y - 270, List.mem_range.mpr (by omega), by omega⟩)
  omega
