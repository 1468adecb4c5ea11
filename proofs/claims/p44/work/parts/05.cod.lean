set_option maxRecDepth 100000 in
set_option maxHeartbeats 4000000 in
theorem ma_cw0_in : ∀ w ∈ (ma_ms 0 60).map ma_cw, w ∈ lw_tbl := ma_memr _ [472, 476, 480, 484, 488, 492, 496, 499, 505, 576, 581, 585, 588, 595, 602, 606, 611, 615, 618, 621, 625, 629, 635, 655, 660, 664, 669, 674, 693, 697, 700, 706, 712, 716, 720, 724, 728, 731, 739, 743, 746, 750, 756, 760, 764, 767, 771, 775, 779, 783, 787, 790, 794, 798, 802, 806, 810, 814, 818, 822] rfl
theorem ma_cw0_good : ∀ w ∈ (ma_ms 0 60).map ma_cw, goodWord w = true := List.all_eq_true.mp (by decide +kernel)
set_option maxRecDepth 100000 in
set_option maxHeartbeats 4000000 in
theorem ma_cw1_in : ∀ w ∈ (ma_ms 60 60).map ma_cw, w ∈ lw_tbl := ma_memr _ [826, 829, 832, 837, 841, 845, 849, 853, 858, 862, 867, 872, 876, 880, 884, 889, 892, 896, 901, 904, 942, 946, 964, 983, 987, 991, 995, 1003, 1007, 1011, 1015, 1019, 1024, 1028, 1032, 1036, 1040, 1043, 1047, 1051, 1056, 1061, 1065, 1068, 1074, 1077, 1081, 1084, 1088, 1092, 1098, 1102, 1105, 1109, 1113, 1118, 1121, 1125, 1130, 1133] rfl
theorem ma_cw1_good : ∀ w ∈ (ma_ms 60 60).map ma_cw, goodWord w = true := List.all_eq_true.mp (by decide +kernel)
set_option maxRecDepth 100000 in
set_option maxHeartbeats 4000000 in
theorem ma_cw2_in : ∀ w ∈ (ma_ms 120 35).map ma_cw, w ∈ lw_tbl := ma_memr _ [1137, 1140, 1144, 1147, 1150, 1156, 1159, 1162, 1165, 1169, 1173, 1176, 1180, 1184, 1187, 1191, 1196, 1199, 1203, 1206, 1210, 1214, 1217, 1220, 1223, 1226, 1230, 1233, 1236, 1239, 1242, 1246, 1250, 1253, 1257] rfl
theorem ma_cw2_good : ∀ w ∈ (ma_ms 120 35).map ma_cw, goodWord w = true := List.all_eq_true.mp (by decide +kernel)
theorem ma_cw_ok (y : Nat) (h : y < ma_nM) : ma_cw y ∈ ma_WG := by
  have h : y < 155 := h
  by_cases h0 : y < 60
  · exact ma_WG_in (ma_cw0_in _ (List.mem_map.mpr ⟨y, List.mem_map.mpr ⟨y - 0, List.mem_range.mpr (by omega), by omega⟩, rfl⟩)) (ma_cw0_good _ (List.mem_map.mpr ⟨y, List.mem_map.mpr ⟨y - 0, List.mem_range.mpr (by omega), by omega⟩, rfl⟩))
  by_cases h1 : y < 120
  · exact ma_WG_in (ma_cw1_in _ (List.mem_map.mpr ⟨y, List.mem_map.mpr ⟨y - 60, List.mem_range.mpr (by omega), by omega⟩, rfl⟩)) (ma_cw1_good _ (List.mem_map.mpr ⟨y, List.mem_map.mpr ⟨y - 60, List.mem_range.mpr (by omega), by omega⟩, rfl⟩))
  by_cases h2 : y < 155
  · exact ma_WG_in (ma_cw2_in _ (List.mem_map.mpr ⟨y, List.mem_map.mpr ⟨y - 120, List.mem_range.mpr (by omega), by omega⟩, rfl⟩)) (ma_cw2_good _ (List.mem_map.mpr ⟨y, List.mem_map.mpr ⟨y - 120, List.mem_range.mpr (by omega), by omega⟩, rfl⟩))
  omega
set_option maxRecDepth 100000 in
theorem ma_mxc_in : ∀ w ∈ ([.code ⟨"java/lang/Math", "max", "(II)I"⟩ prog_22_method_65_code 2 (Option.some FieldType.int)] : List Cond), w ∈ lw_tbl := ma_memr _ [598] rfl
set_option maxRecDepth 100000 in
theorem ma_mnc_in : ∀ w ∈ ([.code ⟨"java/lang/Math", "min", "(II)I"⟩ prog_22_method_69_code 2 (Option.some FieldType.int)] : List Cond), w ∈ lw_tbl := ma_memr _ [753] rfl
