/-! the throws: their words -/
def ma_sup : List String := ["java/lang/RuntimeException", "java/lang/Exception"]
theorem ma_th0_in : ∀ w ∈ (vx_at0 (ma_own 10) 99 (ma_ex 0) ma_sup).filter goodWord, w ∈ lw_tbl := ma_mem _ [44, 528, 537, 544, 547, 549, 529, 530, 65, 66, 531, 536, 545, 562, 518, 563, 520, 564, 522, 532, 534, 524, 551, 552, 553, 554, 554, 555, 556, 557, 557, 558, 559, 529, 550, 507, 515, 516, 517, 519, 521, 523, 560, 526, 525] (by decide +kernel)
theorem ma_th0_bad : ∀ w ∈ (vx_at0 (ma_own 10) 99 (ma_ex 0) ma_sup).filter (fun w => !goodWord w), w ∈ ma_nests ++ (ma_casts ++ ma_decls) := by decide +kernel
theorem ma_th0_ot : ∀ w ∈ Cond.classLink (ma_own 10) 97 (ma_ex 0) :: Cond.initialized (ma_ex 0) :: (vx_at0 (ma_own 10) 99 (ma_ex 0) ma_sup), vx_ot w = true := List.all_eq_true.mp (by decide +kernel)
theorem ma_th0_ini : Cond.initialized (ma_ex 0) ∈ ma_WG := ma_WG_in (List.mem_of_getElem? (i := 47) (by decide +kernel)) (by decide +kernel)
theorem ma_th1_in : ∀ w ∈ (vx_at0 (ma_own 10) 152 (ma_ex 1) ma_sup).filter goodWord, w ∈ lw_tbl := ma_mem _ [44, 528, 537, 544, 547, 549, 529, 530, 65, 66, 531, 536, 545, 562, 518, 563, 520, 564, 522, 532, 534, 524, 647, 648, 649, 554, 554, 555, 556, 557, 557, 558, 559, 529, 646, 638, 640, 542, 641, 642, 643, 644, 560, 526, 645] (by decide +kernel)
theorem ma_th1_bad : ∀ w ∈ (vx_at0 (ma_own 10) 152 (ma_ex 1) ma_sup).filter (fun w => !goodWord w), w ∈ ma_nests ++ (ma_casts ++ ma_decls) := by decide +kernel
theorem ma_th1_ot : ∀ w ∈ Cond.classLink (ma_own 10) 150 (ma_ex 1) :: Cond.initialized (ma_ex 1) :: (vx_at0 (ma_own 10) 152 (ma_ex 1) ma_sup), vx_ot w = true := List.all_eq_true.mp (by decide +kernel)
theorem ma_th1_ini : Cond.initialized (ma_ex 1) ∈ ma_WG := ma_WG_in (List.mem_of_getElem? (i := 55) (by decide +kernel)) (by decide +kernel)
theorem ma_th2_in : ∀ w ∈ (vx_at0 (ma_own 10) 106 (ma_ex 2) ma_sup).filter goodWord, w ∈ lw_tbl := ma_mem _ [44, 528, 537, 544, 547, 549, 529, 530, 65, 66, 531, 536, 545, 562, 518, 563, 520, 564, 522, 532, 534, 524, 685, 686, 687, 554, 554, 555, 556, 557, 557, 558, 559, 529, 684, 676, 678, 540, 679, 680, 681, 682, 560, 526, 683] (by decide +kernel)
theorem ma_th2_bad : ∀ w ∈ (vx_at0 (ma_own 10) 106 (ma_ex 2) ma_sup).filter (fun w => !goodWord w), w ∈ ma_nests ++ (ma_casts ++ ma_decls) := by decide +kernel
theorem ma_th2_ot : ∀ w ∈ Cond.classLink (ma_own 10) 104 (ma_ex 2) :: Cond.initialized (ma_ex 2) :: (vx_at0 (ma_own 10) 106 (ma_ex 2) ma_sup), vx_ot w = true := List.all_eq_true.mp (by decide +kernel)
theorem ma_th2_ini : Cond.initialized (ma_ex 2) ∈ ma_WG := ma_WG_in (List.mem_of_getElem? (i := 48) (by decide +kernel)) (by decide +kernel)
theorem ma_th3_in : ∀ w ∈ (vx_at0 (ma_own 10) 120 (ma_ex 3) ma_sup).filter goodWord, w ∈ lw_tbl := ma_mem _ [44, 528, 537, 544, 547, 549, 529, 530, 65, 66, 531, 536, 545, 562, 518, 563, 520, 564, 522, 532, 534, 524, 957, 958, 959, 554, 554, 555, 556, 557, 557, 558, 559, 529, 956, 948, 950, 541, 951, 952, 953, 954, 560, 526, 955] (by decide +kernel)
theorem ma_th3_bad : ∀ w ∈ (vx_at0 (ma_own 10) 120 (ma_ex 3) ma_sup).filter (fun w => !goodWord w), w ∈ ma_nests ++ (ma_casts ++ ma_decls) := by decide +kernel
theorem ma_th3_ot : ∀ w ∈ Cond.classLink (ma_own 10) 118 (ma_ex 3) :: Cond.initialized (ma_ex 3) :: (vx_at0 (ma_own 10) 120 (ma_ex 3) ma_sup), vx_ot w = true := List.all_eq_true.mp (by decide +kernel)
theorem ma_th3_ini : Cond.initialized (ma_ex 3) ∈ ma_WG := ma_WG_in (List.mem_of_getElem? (i := 49) (by decide +kernel)) (by decide +kernel)
theorem ma_th4_in : ∀ w ∈ (vx_at0 (ma_own 10) 177 (ma_ex 4) ma_sup).filter goodWord, w ∈ lw_tbl := ma_mem _ [44, 528, 537, 544, 547, 549, 529, 530, 65, 66, 531, 536, 545, 562, 518, 563, 520, 564, 522, 532, 534, 524, 975, 976, 977, 554, 554, 555, 556, 557, 557, 558, 559, 529, 974, 966, 968, 543, 969, 970, 971, 972, 560, 526, 973] (by decide +kernel)
theorem ma_th4_bad : ∀ w ∈ (vx_at0 (ma_own 10) 177 (ma_ex 4) ma_sup).filter (fun w => !goodWord w), w ∈ ma_nests ++ (ma_casts ++ ma_decls) := by decide +kernel
theorem ma_th4_ot : ∀ w ∈ Cond.classLink (ma_own 10) 175 (ma_ex 4) :: Cond.initialized (ma_ex 4) :: (vx_at0 (ma_own 10) 177 (ma_ex 4) ma_sup), vx_ot w = true := List.all_eq_true.mp (by decide +kernel)
theorem ma_th4_ini : Cond.initialized (ma_ex 4) ∈ ma_WG := ma_WG_in (List.mem_of_getElem? (i := 58) (by decide +kernel)) (by decide +kernel)
