set_option maxRecDepth 100000 in
set_option maxHeartbeats 4000000 in
theorem ma_cw0_in : ∀ w ∈ (ma_ms 0 60).map ma_cw, w ∈ lw_tbl := ma_memr _ [541, 545, 549, 553, 557, 561, 565, 568, 573, 645, 648, 653, 672, 675, 712, 732, 735, 739, 742, 746, 750, 753, 757, 760, 765, 769, 774, 778, 781, 788, 795, 799, 804, 808, 811, 814, 818, 822, 828, 848, 853, 857, 860, 864, 867, 871, 874, 878, 882, 885, 890, 908, 912, 915, 919, 922, 926, 929, 933, 937] rfl
theorem ma_cw0_good : ∀ w ∈ (ma_ms 0 60).map ma_cw, goodWord w = true := List.all_eq_true.mp (by decide +kernel)
set_option maxRecDepth 100000 in
set_option maxHeartbeats 4000000 in
theorem ma_cw1_in : ∀ w ∈ (ma_ms 60 60).map ma_cw, w ∈ lw_tbl := ma_memr _ [941, 945, 949, 952, 956, 963, 967, 970, 974, 978, 982, 985, 991, 997, 1002, 1006, 1009, 1017, 1021, 1024, 1028, 1031, 1035, 1039, 1043, 1047, 1051, 1055, 1059, 1062, 1066, 1070, 1074, 1078, 1082, 1086, 1090, 1094, 1098, 1101, 1104, 1109, 1113, 1117, 1121, 1125, 1129, 1133, 1137, 1141, 1146, 1151, 1156, 1160, 1164, 1168, 1172, 1176, 1194, 1200] rfl
theorem ma_cw1_good : ∀ w ∈ (ma_ms 60 60).map ma_cw, goodWord w = true := List.all_eq_true.mp (by decide +kernel)
set_option maxRecDepth 100000 in
set_option maxHeartbeats 4000000 in
theorem ma_cw2_in : ∀ w ∈ (ma_ms 120 60).map ma_cw, w ∈ lw_tbl := ma_memr _ [1208, 1212, 1216, 1220, 1225, 1229, 1234, 1239, 1244, 1249, 1252, 1256, 1261, 1264, 1268, 1272, 1275, 1278, 1282, 1286, 1291, 1295, 1299, 1303, 1311, 1315, 1319, 1322, 1326, 1330, 1334, 1339, 1343, 1347, 1351, 1355, 1358, 1362, 1366, 1371, 1374, 1378, 1382, 1387, 1390, 1394, 1399, 1402, 1406, 1409, 1413, 1419, 1422, 1426, 1429, 1433, 1436, 1440, 1444, 1448] rfl
theorem ma_cw2_good : ∀ w ∈ (ma_ms 120 60).map ma_cw, goodWord w = true := List.all_eq_true.mp (by decide +kernel)
set_option maxRecDepth 100000 in
set_option maxHeartbeats 4000000 in
theorem ma_cw3_in : ∀ w ∈ (ma_ms 180 60).map ma_cw, w ∈ lw_tbl := ma_memr _ [1451, 1455, 1465, 1468, 1626, 1630, 1634, 1638, 1642, 1646, 1650, 1653, 1657, 1661, 1665, 1669, 1673, 1677, 1681, 1685, 1689, 1693, 1697, 1702, 1706, 1712, 1716, 1720, 1725, 1729, 1733, 1737, 1741, 1745, 1749, 1753, 1757, 1761, 1765, 1769, 1773, 1777, 1780, 1784, 1788, 1792, 1796, 1805, 1809, 1814, 1818, 1822, 1826, 1830, 1834, 1838, 1841, 1845, 1849, 1853] rfl
theorem ma_cw3_good : ∀ w ∈ (ma_ms 180 60).map ma_cw, goodWord w = true := List.all_eq_true.mp (by decide +kernel)
set_option maxRecDepth 100000 in
set_option maxHeartbeats 4000000 in
theorem ma_cw4_in : ∀ w ∈ (ma_ms 240 38).map ma_cw, w ∈ lw_tbl := ma_memr _ [1857, 1861, 1865, 1869, 1873, 1877, 1881, 1885, 1890, 1902, 1906, 1910, 1914, 1917, 1921, 1924, 1930, 1934, 1938, 1942, 1946, 1949, 1953, 1957, 1961, 1965, 1969, 1973, 1977, 1981, 1985, 1989, 1993, 1997, 2001, 2005, 2009, 2014] rfl
theorem ma_cw4_good : ∀ w ∈ (ma_ms 240 38).map ma_cw, goodWord w = true := List.all_eq_true.mp (by decide +kernel)
theorem ma_cw_ok (y : Nat) (h : y < ma_nM) : ma_cw y ∈ ma_WG := by
  have h : y < 278 := h
  by_cases h0 : y < 60
  · exact ma_WG_in (ma_cw0_in _ (List.mem_map.mpr ⟨y, List.mem_map.mpr ⟨y - 0, List.mem_range.mpr (by omega), by omega⟩, rfl⟩)) (ma_cw0_good _ (List.mem_map.mpr ⟨y, List.mem_map.mpr ⟨y - 0, List.mem_range.mpr (by omega), by omega⟩, rfl⟩))
  by_cases h1 : y < 120
  · exact ma_WG_in (ma_cw1_in _ (List.mem_map.mpr ⟨y, List.mem_map.mpr ⟨y - 60, List.mem_range.mpr (by omega), by omega⟩, rfl⟩)) (ma_cw1_good _ (List.mem_map.mpr ⟨y, List.mem_map.mpr ⟨y - 60, List.mem_range.mpr (by omega), by omega⟩, rfl⟩))
  by_cases h2 : y < 180
  · exact ma_WG_in (ma_cw2_in _ (List.mem_map.mpr ⟨y, List.mem_map.mpr ⟨y - 120, List.mem_range.mpr (by omega), by omega⟩, rfl⟩)) (ma_cw2_good _ (List.mem_map.mpr ⟨y, List.mem_map.mpr ⟨y - 120, List.mem_range.mpr (by omega), by omega⟩, rfl⟩))
  by_cases h3 : y < 240
  · exact ma_WG_in (ma_cw3_in _ (List.mem_map.mpr ⟨y, List.mem_map.mpr ⟨y - 180, List.mem_range.mpr (by omega), by omega⟩, rfl⟩)) (ma_cw3_good _ (List.mem_map.mpr ⟨y, List.mem_map.mpr ⟨y - 180, List.mem_range.mpr (by omega), by omega⟩, rfl⟩))
  by_cases h4 : y < 278
  · exact ma_WG_in (ma_cw4_in _ (List.mem_map.mpr ⟨y, List.mem_map.mpr ⟨y - 240, List.mem_range.mpr (by omega), by omega⟩, rfl⟩)) (ma_cw4_good _ (List.mem_map.mpr ⟨y, List.mem_map.mpr ⟨y - 240, List.mem_range.mpr (by omega), by omega⟩, rfl⟩))
  omega
set_option maxRecDepth 100000 in
theorem ma_mxc_in : ∀ w ∈ ([.code ⟨"java/lang/Math", "max", "(II)I"⟩ prog_25_method_65_code 2 (Option.some FieldType.int)] : List Cond), w ∈ lw_tbl := ma_memr _ [791] rfl
set_option maxRecDepth 100000 in
theorem ma_mnc_in : ∀ w ∈ ([.code ⟨"java/lang/Math", "min", "(II)I"⟩ prog_25_method_69_code 2 (Option.some FieldType.int)] : List Cond), w ∈ lw_tbl := ma_memr _ [959] rfl
set_option maxRecDepth 100000 in
theorem ma_mdc_in : ∀ w ∈ ([.code ⟨"java/lang/Math", "max", "(DD)D"⟩ prog_25_method_68_code 4 (Option.some FieldType.double)] : List Cond), w ∈ lw_tbl := ma_memr _ [1893] rfl
