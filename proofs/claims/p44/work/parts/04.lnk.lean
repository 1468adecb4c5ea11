/-! what the constant pools say, as numbers; each word lies among the tables' words, at the place that is told -/
theorem ma_mem (ws : List Cond) (ps : List Nat) (h : (ws.zip ps).all (fun q => decide (lw_tbl[q.2]? = some q.1)) && decide (ws.length ≤ ps.length) = true) : ∀ w ∈ ws, w ∈ lw_tbl := by
  intro w hw
  simp only [Bool.and_eq_true, decide_eq_true_eq] at h
  obtain ⟨i, hi, rfl⟩ := List.getElem_of_mem hw
  have h2 : i < ps.length := Nat.lt_of_lt_of_le hi h.2
  have h3 : (ws[i], ps[i]) ∈ ws.zip ps := List.mem_of_getElem? (i := i) (by simp [List.getElem?_zip_eq_some, hi, h2])
  have h4 := List.all_eq_true.mp h.1 _ h3
  simp only [decide_eq_true_eq] at h4
  exact List.mem_of_getElem? h4
theorem ma_memr (ws : List Cond) (ps : List Nat) (h : ws = ps.filterMap (fun i => lw_tbl[i]?)) : ∀ w ∈ ws, w ∈ lw_tbl := by
  intro w hw
  rw [h] at hw
  obtain ⟨i, -, hi⟩ := List.mem_filterMap.mp hw
  exact List.mem_of_getElem? hi
def ma_kI : List (Nat × Nat × Int) := [(3, 56, 65535), (11, 17, -900001), (11, 24, -900002), (12, 265, 1431655765), (12, 266, 858993459), (12, 267, 252645135), (11, 31, -900003), (5, 32, 65521), (11, 7, 69069), (11, 8, 1103515245), (11, 113, 2147483647)]
theorem ma_kI_in : ∀ w ∈ ma_kI.map (fun q => Cond.constant (ma_own q.1) q.2.1 (Int32.ofInt q.2.2)), w ∈ lw_tbl := ma_mem _ [636, 665, 666, 732, 733, 734, 980, 1094, 1151, 1152, 1153] (by decide +kernel)
theorem ma_kI_good : ∀ w ∈ ma_kI.map (fun q => Cond.constant (ma_own q.1) q.2.1 (Int32.ofInt q.2.2)), goodWord w = true := List.all_eq_true.mp (by decide +kernel)
def ma_kL : List (Nat × Nat × Int) := [(13, 314, 6148914691236517205), (13, 316, 3689348814741910323), (13, 318, 1085102592571150095), (6, 163, 1103515245), (6, 165, 12345), (6, 167, 2147483648), (6, 169, 65536), (6, 171, 36), (11, 73, -900001), (11, 75, -900002)]
theorem ma_kL_in : ∀ w ∈ ma_kL.map (fun q => Cond.constantLong (ma_own q.1) q.2.1 (Int64.ofInt q.2.2)), w ∈ lw_tbl := ma_mem _ [589, 590, 591, 701, 702, 703, 707, 708, 1057, 1058] (by decide +kernel)
theorem ma_kL_good : ∀ w ∈ ma_kL.map (fun q => Cond.constantLong (ma_own q.1) q.2.1 (Int64.ofInt q.2.2)), goodWord w = true := List.all_eq_true.mp (by decide +kernel)
def ma_kD : List (Nat × Nat × Int) := []
theorem ma_kD_in : ∀ w ∈ ma_kD.map (fun q => Cond.constantDouble (ma_own q.1) q.2.1 (UInt64.ofNat q.2.2.toNat)), w ∈ lw_tbl := ma_mem _ [] (by decide +kernel)
theorem ma_kD_good : ∀ w ∈ ma_kD.map (fun q => Cond.constantDouble (ma_own q.1) q.2.1 (UInt64.ofNat q.2.2.toNat)), goodWord w = true := List.all_eq_true.mp (by decide +kernel)
def ma_kF : List (Nat × Nat × Int) := []
theorem ma_kF_in : ∀ w ∈ ma_kF.map (fun q => Cond.constantFloat (ma_own q.1) q.2.1 (UInt32.ofNat q.2.2.toNat)), w ∈ lw_tbl := ma_mem _ [] (by decide +kernel)
theorem ma_kF_good : ∀ w ∈ ma_kF.map (fun q => Cond.constantFloat (ma_own q.1) q.2.1 (UInt32.ofNat q.2.2.toNat)), goodWord w = true := List.all_eq_true.mp (by decide +kernel)
def ma_fl : List (Nat × Nat × Nat × Nat) := [(3, 9, 3, 0), (8, 37, 3, 0), (4, 52, 3, 0), (10, 125, 3, 0), (6, 60, 3, 0), (3, 15, 3, 1), (4, 46, 3, 1), (3, 19, 3, 2), (4, 49, 3, 2), (3, 22, 3, 3), (0, 92, 3, 3), (8, 58, 3, 3), (10, 129, 3, 3), (3, 25, 3, 4), (8, 31, 3, 4), (1, 97, 3, 4), (10, 292, 3, 4), (3, 28, 3, 5), (1, 100, 3, 5), (8, 55, 3, 5), (6, 139, 3, 5), (3, 31, 3, 6), (8, 41, 3, 6), (6, 66, 3, 6), (3, 34, 3, 7), (6, 79, 3, 7), (3, 37, 3, 8), (8, 28, 3, 8), (0, 62, 3, 8), (6, 136, 3, 8), (10, 285, 3, 8), (3, 40, 3, 9), (1, 57, 3, 9), (0, 85, 3, 9), (8, 48, 3, 9), (6, 112, 3, 9), (10, 91, 3, 10), (3, 43, 3, 10), (4, 32, 3, 10), (1, 46, 3, 10), (0, 69, 3, 10), (8, 34, 3, 10), (7, 60, 3, 10), (6, 88, 3, 10), (10, 94, 3, 11), (3, 47, 3, 11), (6, 76, 3, 11), (8, 22, 3, 12), (0, 57, 3, 12), (10, 107, 3, 12), (3, 50, 3, 12), (6, 133, 3, 12), (1, 54, 3, 13), (0, 82, 3, 13), (10, 133, 3, 13), (3, 53, 3, 13), (6, 109, 3, 13), (4, 11, 4, 0), (4, 18, 4, 1), (4, 21, 4, 2), (4, 25, 4, 3), (4, 28, 4, 4), (0, 9, 0, 0), (6, 82, 0, 0), (0, 15, 0, 1), (1, 94, 0, 1), (6, 85, 0, 1), (0, 18, 0, 2), (1, 78, 0, 2), (0, 21, 0, 3), (1, 85, 0, 3), (6, 99, 0, 3), (10, 173, 0, 3), (0, 26, 0, 4), (1, 88, 0, 4), (6, 101, 0, 4), (10, 178, 0, 4), (0, 29, 0, 5), (6, 57, 0, 5), (0, 32, 0, 6), (0, 47, 0, 7), (1, 36, 0, 7), (6, 51, 0, 7), (10, 147, 0, 7), (0, 36, 0, 8), (0, 39, 0, 9), (6, 9, 6, 0), (1, 75, 6, 0), (10, 197, 6, 0), (6, 15, 6, 1), (6, 18, 6, 2), (6, 22, 6, 3), (6, 25, 6, 4), (6, 28, 6, 5), (6, 31, 6, 6), (6, 34, 6, 7), (6, 37, 6, 8), (6, 41, 6, 9), (7, 11, 7, 0), (1, 103, 7, 0), (7, 16, 7, 1), (6, 91, 7, 1), (7, 20, 7, 2), (7, 23, 7, 3), (7, 27, 7, 4), (7, 30, 7, 5), (7, 33, 7, 6), (7, 36, 7, 7), (7, 40, 7, 8), (7, 100, 7, 9), (7, 56, 7, 10), (7, 43, 7, 11), (9, 9, 9, 0), (9, 15, 9, 1), (9, 19, 9, 2), (9, 23, 9, 3), (9, 27, 9, 4), (5, 11, 5, 0), (1, 61, 5, 0), (2, 73, 5, 0), (10, 273, 5, 0), (1, 9, 1, 0), (1, 15, 1, 1), (1, 19, 1, 2), (1, 23, 1, 3), (1, 27, 1, 4), (2, 12, 2, 0), (10, 321, 2, 0), (2, 18, 2, 1), (10, 295, 2, 1), (2, 22, 2, 2), (10, 288, 2, 2), (2, 44, 2, 3), (10, 303, 2, 3), (2, 25, 2, 4), (2, 28, 2, 5), (2, 31, 2, 6), (8, 9, 8, 0), (10, 337, 8, 0), (8, 15, 8, 1), (8, 18, 8, 2), (10, 10, 10, 0), (10, 21, 10, 1), (10, 28, 10, 2), (10, 37, 10, 3), (10, 44, 10, 4), (10, 53, 10, 5), (10, 60, 10, 6), (10, 69, 10, 7), (10, 76, 10, 8), (10, 83, 10, 9), (10, 87, 10, 10)]
theorem ma_fl_in : ∀ w ∈ ma_fl.map (fun q => Cond.fieldLink (ma_own q.1) q.2.1 (ma_C q.2.2.1) (ma_T q.2.2.1 q.2.2.2).2.1 (ma_T q.2.2.1 q.2.2.2).2.2.1), w ∈ lw_tbl := ma_mem _ [73, 74, 75, 76, 77, 78, 79, 80, 81, 82, 83, 84, 85, 86, 87, 88, 89, 90, 91, 92, 93, 94, 95, 96, 97, 98, 99, 100, 101, 102, 103, 104, 105, 106, 107, 108, 109, 110, 111, 112, 113, 114, 115, 116, 117, 118, 119, 120, 121, 122, 123, 124, 125, 126, 127, 128, 129, 171, 172, 173, 174, 175, 195, 196, 197, 198, 199, 200, 201, 202, 203, 204, 205, 206, 207, 208, 209, 210, 211, 212, 213, 214, 215, 216, 217, 218, 247, 248, 249, 250, 251, 252, 253, 254, 255, 256, 257, 258, 287, 288, 289, 290, 291, 292, 293, 294, 295, 296, 297, 298, 299, 300, 332, 333, 334, 335, 336, 355, 356, 357, 358, 368, 369, 370, 371, 372, 392, 393, 394, 395, 396, 397, 398, 399, 400, 401, 402, 424, 425, 426, 427, 435, 436, 437, 438, 439, 440, 441, 442, 443, 444, 445] (by decide +kernel)
theorem ma_fl_good : ∀ w ∈ ma_fl.map (fun q => Cond.fieldLink (ma_own q.1) q.2.1 (ma_C q.2.2.1) (ma_T q.2.2.1 q.2.2.2).2.1 (ma_T q.2.2.1 q.2.2.2).2.2.1), goodWord w = true := List.all_eq_true.mp (by decide +kernel)
def ma_sl : List (Nat × Nat) := [(0, 103)]
theorem ma_sl_in : ∀ w ∈ ma_sl.map (fun q => Cond.fieldLink (ma_own q.1) q.2 "Latticefit$Blocks" "PATTERNS" "[I"), w ∈ lw_tbl := ma_mem _ [630] (by decide +kernel)
theorem ma_sl_good : ∀ w ∈ ma_sl.map (fun q => Cond.fieldLink (ma_own q.1) q.2 "Latticefit$Blocks" "PATTERNS" "[I"), goodWord w = true := List.all_eq_true.mp (by decide +kernel)
theorem ma_u_0 : ∀ w ∈ u_ws (ma_C 0) (ma_T 0) (ma_N 0), w ∈ lw_tbl := ma_mem _ [219, 221, 223, 225, 227, 229, 231, 233, 235, 237] (by decide +kernel)
theorem ma_ug_0 : ∀ w ∈ u_ws (ma_C 0) (ma_T 0) (ma_N 0), goodWord w = true := List.all_eq_true.mp (by decide +kernel)
theorem ma_u_1 : ∀ w ∈ u_ws (ma_C 1) (ma_T 1) (ma_N 1), w ∈ lw_tbl := ma_mem _ [373, 375, 377, 379, 381] (by decide +kernel)
theorem ma_ug_1 : ∀ w ∈ u_ws (ma_C 1) (ma_T 1) (ma_N 1), goodWord w = true := List.all_eq_true.mp (by decide +kernel)
theorem ma_u_2 : ∀ w ∈ u_ws (ma_C 2) (ma_T 2) (ma_N 2), w ∈ lw_tbl := ma_mem _ [403, 405, 407, 409, 411, 413, 415] (by decide +kernel)
theorem ma_ug_2 : ∀ w ∈ u_ws (ma_C 2) (ma_T 2) (ma_N 2), goodWord w = true := List.all_eq_true.mp (by decide +kernel)
theorem ma_u_3 : ∀ w ∈ u_ws (ma_C 3) (ma_T 3) (ma_N 3), w ∈ lw_tbl := ma_mem _ [130, 132, 134, 136, 138, 140, 142, 144, 146, 148, 150, 152, 154, 156] (by decide +kernel)
theorem ma_ug_3 : ∀ w ∈ u_ws (ma_C 3) (ma_T 3) (ma_N 3), goodWord w = true := List.all_eq_true.mp (by decide +kernel)
theorem ma_u_4 : ∀ w ∈ u_ws (ma_C 4) (ma_T 4) (ma_N 4), w ∈ lw_tbl := ma_mem _ [176, 178, 180, 182, 184] (by decide +kernel)
theorem ma_ug_4 : ∀ w ∈ u_ws (ma_C 4) (ma_T 4) (ma_N 4), goodWord w = true := List.all_eq_true.mp (by decide +kernel)
theorem ma_u_5 : ∀ w ∈ u_ws (ma_C 5) (ma_T 5) (ma_N 5), w ∈ lw_tbl := ma_mem _ [359] (by decide +kernel)
theorem ma_ug_5 : ∀ w ∈ u_ws (ma_C 5) (ma_T 5) (ma_N 5), goodWord w = true := List.all_eq_true.mp (by decide +kernel)
theorem ma_u_6 : ∀ w ∈ u_ws (ma_C 6) (ma_T 6) (ma_N 6), w ∈ lw_tbl := ma_mem _ [259, 261, 263, 265, 267, 269, 271, 273, 275, 277] (by decide +kernel)
theorem ma_ug_6 : ∀ w ∈ u_ws (ma_C 6) (ma_T 6) (ma_N 6), goodWord w = true := List.all_eq_true.mp (by decide +kernel)
theorem ma_u_7 : ∀ w ∈ u_ws (ma_C 7) (ma_T 7) (ma_N 7), w ∈ lw_tbl := ma_mem _ [301, 303, 305, 307, 309, 311, 313, 315, 317, 319, 321, 323] (by decide +kernel)
theorem ma_ug_7 : ∀ w ∈ u_ws (ma_C 7) (ma_T 7) (ma_N 7), goodWord w = true := List.all_eq_true.mp (by decide +kernel)
theorem ma_u_8 : ∀ w ∈ u_ws (ma_C 8) (ma_T 8) (ma_N 8), w ∈ lw_tbl := ma_mem _ [428, 430, 432] (by decide +kernel)
theorem ma_ug_8 : ∀ w ∈ u_ws (ma_C 8) (ma_T 8) (ma_N 8), goodWord w = true := List.all_eq_true.mp (by decide +kernel)
theorem ma_u_9 : ∀ w ∈ u_ws (ma_C 9) (ma_T 9) (ma_N 9), w ∈ lw_tbl := ma_mem _ [337, 339, 341, 343, 345] (by decide +kernel)
theorem ma_ug_9 : ∀ w ∈ u_ws (ma_C 9) (ma_T 9) (ma_N 9), goodWord w = true := List.all_eq_true.mp (by decide +kernel)
theorem ma_u_10 : ∀ w ∈ u_ws (ma_C 10) (ma_T 10) (ma_N 10), w ∈ lw_tbl := ma_mem _ [446, 448, 450, 452, 454, 456, 458, 460, 462, 464, 466] (by decide +kernel)
theorem ma_ug_10 : ∀ w ∈ u_ws (ma_C 10) (ma_T 10) (ma_N 10), goodWord w = true := List.all_eq_true.mp (by decide +kernel)
theorem ma_u_in : ∀ ci, ci < 11 → ∀ w ∈ u_ws (ma_C ci) (ma_T ci) (ma_N ci), w ∈ ma_WG := by
  intro ci hc w hw
  match ci, hc with
  | 0, _ => exact ma_WG_in (ma_u_0 w hw) (ma_ug_0 w hw)
  | 1, _ => exact ma_WG_in (ma_u_1 w hw) (ma_ug_1 w hw)
  | 2, _ => exact ma_WG_in (ma_u_2 w hw) (ma_ug_2 w hw)
  | 3, _ => exact ma_WG_in (ma_u_3 w hw) (ma_ug_3 w hw)
  | 4, _ => exact ma_WG_in (ma_u_4 w hw) (ma_ug_4 w hw)
  | 5, _ => exact ma_WG_in (ma_u_5 w hw) (ma_ug_5 w hw)
  | 6, _ => exact ma_WG_in (ma_u_6 w hw) (ma_ug_6 w hw)
  | 7, _ => exact ma_WG_in (ma_u_7 w hw) (ma_ug_7 w hw)
  | 8, _ => exact ma_WG_in (ma_u_8 w hw) (ma_ug_8 w hw)
  | 9, _ => exact ma_WG_in (ma_u_9 w hw) (ma_ug_9 w hw)
  | 10, _ => exact ma_WG_in (ma_u_10 w hw) (ma_ug_10 w hw)
  | n + 11, h => omega
theorem ma_ty_ok : ∀ ci, ci < 11 → ∀ k, k < ma_N ci → parseFieldDescriptor (ma_T ci k).2.2.1 = some (ma_fty ci k) := by decide +kernel
theorem ma_nm_ok : ∀ ci, ci < 11 → ∀ a, a < ma_N ci → ∀ b, b < ma_N ci → a ≠ b → (ma_T ci a).2.1 ≠ (ma_T ci b).2.1 := by decide +kernel
theorem ma_decl_ok : ∀ ci, ci < 11 → ∀ k, k < ma_N ci → (ma_T ci k).1 = ma_C ci := by decide +kernel
theorem ma_fk_ok : ∀ ci, ci < 11 → ∀ k, k < ma_N ci → (ma_fk ci k = 0 → ma_fty ci k = .int) ∧ (ma_fk ci k = 1 → ma_fty ci k = .long) ∧ (ma_fk ci k = 2 → ma_fty ci k = .boolean) ∧ (ma_fk ci k = 4 → ma_fty ci k = .array .boolean) := by decide +kernel
def ma_cw (y : Nat) : Cond := if (ma_hc y).isEmpty then .code (ma_y y) (ma_b y) (ma_nL y) (ma_ret y) else .codeWith (ma_y y) (ma_b y) (ma_nL y) (ma_ret y) (ma_hc y)
def ma_ms (a n : Nat) : List Nat := (List.range n).map (· + a)
theorem ma_iw0_in : ∀ w ∈ (ma_ms 0 60).map (fun y => Cond.initialized (ma_y y).cls), w ∈ lw_tbl := ma_mem _ [33, 33, 34, 34, 34, 37, 38, 32, 33, 35, 35, 35, 52, 35, 36, 36, 35, 36, 36, 54, 36, 36, 34, 37, 38, 54, 32, 33, 33, 37, 37, 37, 37, 37, 37, 37, 37, 56, 37, 37, 37, 37, 37, 37, 37, 32, 33, 37, 38, 38, 38, 33, 38, 38, 38, 38, 38, 38, 38, 38] (by decide +kernel)
theorem ma_iw0_good : ∀ w ∈ (ma_ms 0 60).map (fun y => Cond.initialized (ma_y y).cls), goodWord w = true := List.all_eq_true.mp (by decide +kernel)
theorem ma_sw0_in : ∀ w ∈ (ma_ms 0 60).map (fun y => if ma_stat y then Cond.static (ma_y y) else Cond.instanceMethod (ma_y y)), w ∈ lw_tbl := ma_mem _ [470, 474, 478, 482, 486, 490, 494, 498, 503, 574, 580, 584, 587, 594, 600, 605, 609, 614, 617, 620, 624, 628, 633, 653, 658, 663, 668, 672, 692, 695, 699, 705, 711, 714, 719, 722, 726, 730, 737, 741, 745, 749, 755, 758, 762, 766, 769, 773, 777, 781, 786, 789, 793, 797, 801, 805, 809, 813, 817, 821] (by decide +kernel)
theorem ma_sw0_good : ∀ w ∈ (ma_ms 0 60).map (fun y => if ma_stat y then Cond.static (ma_y y) else Cond.instanceMethod (ma_y y)), goodWord w = true := List.all_eq_true.mp (by decide +kernel)
theorem ma_vw0_in : ∀ w ∈ ((ma_ms 0 60).filter (fun y => !ma_stat y)).map (fun y => Cond.selects (ma_y y).cls (ma_y y) (ma_y y)), w ∈ lw_tbl := ma_mem _ [471, 475, 479, 483, 487, 491, 495, 504, 575, 1, 2, 3, 601, 4, 610, 5, 6, 7, 634, 654, 659, 673, 8, 696, 9, 715, 10, 723, 727, 738, 742, 11, 759, 763, 770, 774, 778, 782, 12, 13, 14, 15, 16, 17, 18, 19, 20] (by decide +kernel)
theorem ma_vw0_good : ∀ w ∈ ((ma_ms 0 60).filter (fun y => !ma_stat y)).map (fun y => Cond.selects (ma_y y).cls (ma_y y) (ma_y y)), goodWord w = true := List.all_eq_true.mp (by decide +kernel)
theorem ma_iw1_in : ∀ w ∈ (ma_ms 60 60).map (fun y => Cond.initialized (ma_y y).cls), w ∈ lw_tbl := ma_mem _ [38, 38, 38, 38, 32, 33, 41, 40, 41, 40, 41, 37, 38, 38, 41, 40, 40, 40, 40, 32, 33, 33, 40, 32, 33, 42, 40, 43, 32, 33, 43, 43, 42, 42, 42, 40, 40, 40, 40, 42, 42, 32, 33, 33, 37, 32, 33, 32, 33, 40, 32, 33, 32, 33, 33, 43, 32, 33, 42, 32] (by decide +kernel)
theorem ma_iw1_good : ∀ w ∈ (ma_ms 60 60).map (fun y => Cond.initialized (ma_y y).cls), goodWord w = true := List.all_eq_true.mp (by decide +kernel)
theorem ma_sw1_in : ∀ w ∈ (ma_ms 60 60).map (fun y => if ma_stat y then Cond.static (ma_y y) else Cond.instanceMethod (ma_y y)), w ∈ lw_tbl := ma_mem _ [825, 828, 831, 836, 840, 843, 847, 851, 857, 860, 866, 870, 874, 878, 883, 887, 891, 895, 899, 903, 940, 945, 963, 982, 985, 989, 993, 1001, 1006, 1009, 1013, 1017, 1022, 1026, 1031, 1034, 1038, 1042, 1045, 1050, 1055, 1060, 1063, 1067, 1072, 1076, 1079, 1083, 1086, 1090, 1097, 1100, 1104, 1107, 1112, 1116, 1120, 1123, 1128, 1132] (by decide +kernel)
theorem ma_sw1_good : ∀ w ∈ (ma_ms 60 60).map (fun y => if ma_stat y then Cond.static (ma_y y) else Cond.instanceMethod (ma_y y)), goodWord w = true := List.all_eq_true.mp (by decide +kernel)
theorem ma_vw1_in : ∀ w ∈ ((ma_ms 60 60).filter (fun y => !ma_stat y)).map (fun y => Cond.selects (ma_y y).cls (ma_y y) (ma_y y)), w ∈ lw_tbl := ma_mem _ [21, 22, 844, 848, 852, 23, 861, 24, 871, 875, 879, 25, 888, 900, 941, 26, 986, 990, 994, 1002, 1010, 1014, 1018, 1023, 1027, 27, 1035, 1039, 1046, 28, 29, 1064, 1073, 1080, 1087, 1091, 1101, 1108, 30, 1117, 1124, 1129] (by decide +kernel)
theorem ma_vw1_good : ∀ w ∈ ((ma_ms 60 60).filter (fun y => !ma_stat y)).map (fun y => Cond.selects (ma_y y).cls (ma_y y) (ma_y y)), goodWord w = true := List.all_eq_true.mp (by decide +kernel)
theorem ma_iw2_in : ∀ w ∈ (ma_ms 120 35).map (fun y => Cond.initialized (ma_y y).cls), w ∈ lw_tbl := ma_mem _ [33, 32, 33, 32, 32, 32, 32, 32, 32, 33, 34, 32, 33, 34, 32, 33, 34, 32, 33, 32, 33, 34, 32, 32, 32, 32, 33, 32, 32, 32, 32, 33, 33, 32, 33] (by decide +kernel)
theorem ma_iw2_good : ∀ w ∈ (ma_ms 120 35).map (fun y => Cond.initialized (ma_y y).cls), goodWord w = true := List.all_eq_true.mp (by decide +kernel)
theorem ma_sw2_in : ∀ w ∈ (ma_ms 120 35).map (fun y => if ma_stat y then Cond.static (ma_y y) else Cond.instanceMethod (ma_y y)), w ∈ lw_tbl := ma_mem _ [1135, 1139, 1142, 1146, 1149, 1155, 1158, 1161, 1164, 1167, 1171, 1175, 1178, 1182, 1186, 1189, 1194, 1198, 1201, 1205, 1208, 1212, 1216, 1219, 1222, 1225, 1228, 1232, 1235, 1238, 1241, 1244, 1249, 1252, 1255] (by decide +kernel)
theorem ma_sw2_good : ∀ w ∈ (ma_ms 120 35).map (fun y => if ma_stat y then Cond.static (ma_y y) else Cond.instanceMethod (ma_y y)), goodWord w = true := List.all_eq_true.mp (by decide +kernel)
theorem ma_vw2_in : ∀ w ∈ ((ma_ms 120 35).filter (fun y => !ma_stat y)).map (fun y => Cond.selects (ma_y y).cls (ma_y y) (ma_y y)), w ∈ lw_tbl := ma_mem _ [1136, 1143, 1168, 1172, 1179, 1183, 1190, 1195, 1202, 1209, 1213, 1229, 1245, 31, 1256] (by decide +kernel)
theorem ma_vw2_good : ∀ w ∈ ((ma_ms 120 35).filter (fun y => !ma_stat y)).map (fun y => Cond.selects (ma_y y).cls (ma_y y) (ma_y y)), goodWord w = true := List.all_eq_true.mp (by decide +kernel)
theorem ma_iw_ok (y : Nat) (h : y < ma_nM) : Cond.initialized (ma_y y).cls ∈ ma_WG := by
  have h : y < 155 := h
  by_cases h0 : y < 60
  · exact ma_WG_in (ma_iw0_in _ (List.mem_map.mpr ⟨y, List.mem_map.mpr ⟨y - 0, List.mem_range.mpr (by omega), by omega⟩, rfl⟩)) (ma_iw0_good _ (List.mem_map.mpr ⟨y, List.mem_map.mpr ⟨y - 0, List.mem_range.mpr (by omega), by omega⟩, rfl⟩))
  by_cases h1 : y < 120
  · exact ma_WG_in (ma_iw1_in _ (List.mem_map.mpr ⟨y, List.mem_map.mpr ⟨y - 60, List.mem_range.mpr (by omega), by omega⟩, rfl⟩)) (ma_iw1_good _ (List.mem_map.mpr ⟨y, List.mem_map.mpr ⟨y - 60, List.mem_range.mpr (by omega), by omega⟩, rfl⟩))
  by_cases h2 : y < 155
  · exact ma_WG_in (ma_iw2_in _ (List.mem_map.mpr ⟨y, List.mem_map.mpr ⟨y - 120, List.mem_range.mpr (by omega), by omega⟩, rfl⟩)) (ma_iw2_good _ (List.mem_map.mpr ⟨y, List.mem_map.mpr ⟨y - 120, List.mem_range.mpr (by omega), by omega⟩, rfl⟩))
  omega
theorem ma_sw_ok (y : Nat) (h : y < ma_nM) : (if ma_stat y then Cond.static (ma_y y) else Cond.instanceMethod (ma_y y)) ∈ ma_WG := by
  have h : y < 155 := h
  by_cases h0 : y < 60
  · exact ma_WG_in (ma_sw0_in _ (List.mem_map.mpr ⟨y, List.mem_map.mpr ⟨y - 0, List.mem_range.mpr (by omega), by omega⟩, rfl⟩)) (ma_sw0_good _ (List.mem_map.mpr ⟨y, List.mem_map.mpr ⟨y - 0, List.mem_range.mpr (by omega), by omega⟩, rfl⟩))
  by_cases h1 : y < 120
  · exact ma_WG_in (ma_sw1_in _ (List.mem_map.mpr ⟨y, List.mem_map.mpr ⟨y - 60, List.mem_range.mpr (by omega), by omega⟩, rfl⟩)) (ma_sw1_good _ (List.mem_map.mpr ⟨y, List.mem_map.mpr ⟨y - 60, List.mem_range.mpr (by omega), by omega⟩, rfl⟩))
  by_cases h2 : y < 155
  · exact ma_WG_in (ma_sw2_in _ (List.mem_map.mpr ⟨y, List.mem_map.mpr ⟨y - 120, List.mem_range.mpr (by omega), by omega⟩, rfl⟩)) (ma_sw2_good _ (List.mem_map.mpr ⟨y, List.mem_map.mpr ⟨y - 120, List.mem_range.mpr (by omega), by omega⟩, rfl⟩))
  omega
theorem ma_vw_ok (y : Nat) (h : y < ma_nM) (hs : ma_stat y = false) : Cond.selects (ma_y y).cls (ma_y y) (ma_y y) ∈ ma_WG := by
  have h : y < 155 := h
  by_cases h0 : y < 60
  · exact ma_WG_in (ma_vw0_in _ (List.mem_map.mpr ⟨y, List.mem_filter.mpr ⟨List.mem_map.mpr ⟨y - 0, List.mem_range.mpr (by omega), by omega⟩, by rw [hs]; rfl⟩, rfl⟩)) (ma_vw0_good _ (List.mem_map.mpr ⟨y, List.mem_filter.mpr ⟨List.mem_map.mpr ⟨y - 0, List.mem_range.mpr (by omega), by omega⟩, by rw [hs]; rfl⟩, rfl⟩))
  by_cases h1 : y < 120
  · exact ma_WG_in (ma_vw1_in _ (List.mem_map.mpr ⟨y, List.mem_filter.mpr ⟨List.mem_map.mpr ⟨y - 60, List.mem_range.mpr (by omega), by omega⟩, by rw [hs]; rfl⟩, rfl⟩)) (ma_vw1_good _ (List.mem_map.mpr ⟨y, List.mem_filter.mpr ⟨List.mem_map.mpr ⟨y - 60, List.mem_range.mpr (by omega), by omega⟩, by rw [hs]; rfl⟩, rfl⟩))
  by_cases h2 : y < 155
  · exact ma_WG_in (ma_vw2_in _ (List.mem_map.mpr ⟨y, List.mem_filter.mpr ⟨List.mem_map.mpr ⟨y - 120, List.mem_range.mpr (by omega), by omega⟩, by rw [hs]; rfl⟩, rfl⟩)) (ma_vw2_good _ (List.mem_map.mpr ⟨y, List.mem_filter.mpr ⟨List.mem_map.mpr ⟨y - 120, List.mem_range.mpr (by omega), by omega⟩, by rw [hs]; rfl⟩, rfl⟩))
  omega
theorem ma_cls_ok : ∀ y, y < ma_nM → plainName (ma_y y).cls = true ∧ (ma_y y).cls ≠ "java/lang/invoke/MethodHandle" ∧ (ma_y y).cls ≠ "java/lang/invoke/VarHandle" ∧ (parseMethodDescriptor (ma_y y).desc).map (fun d => d.parameters.length) = some (ma_na y) ∧ ma_nL y ≤ 24 := by decide +kernel
def ma_ml : List (Nat × Nat × Nat) := [(11, 171, 0), (11, 208, 1), (10, 341, 2), (3, 57, 3), (3, 61, 4), (10, 344, 5), (10, 224, 6), (11, 40, 8), (10, 140, 9), (4, 38, 3), (4, 42, 10), (4, 56, 11), (4, 72, 13), (10, 143, 14), (0, 43, 15), (0, 88, 3), (0, 72, 16), (0, 95, 17), (0, 65, 20), (0, 78, 21), (0, 106, 22), (10, 153, 23), (10, 156, 24), (11, 50, 27), (10, 207, 28), (10, 210, 29), (6, 155, 32), (6, 173, 33), (6, 159, 34), (6, 177, 35), (6, 69, 36), (6, 181, 38), (6, 96, 39), (6, 118, 41), (6, 121, 43), (6, 184, 44), (11, 57, 46), (10, 217, 47), (6, 105, 48), (10, 221, 49), (7, 65, 50), (7, 69, 52), (7, 89, 53), (7, 93, 54), (7, 97, 55), (7, 103, 56), (7, 107, 57), (7, 113, 58), (7, 117, 59), (7, 110, 60), (7, 72, 6), (7, 76, 63), (11, 60, 65), (10, 263, 66), (1, 31, 67), (1, 42, 68), (1, 81, 69), (1, 71, 70), (1, 119, 71), (1, 122, 72), (7, 127, 73), (1, 51, 74), (1, 115, 75), (10, 266, 78), (11, 63, 80), (10, 269, 81), (11, 66, 84), (10, 279, 85), (2, 34, 86), (10, 283, 87), (10, 289, 36), (11, 69, 89), (10, 297, 90), (8, 51, 91), (8, 44, 22), (10, 301, 92), (2, 77, 93), (2, 48, 94), (2, 55, 95), (2, 59, 96), (5, 48, 98), (2, 51, 99), (2, 69, 100), (11, 77, 102), (10, 324, 95), (10, 327, 96), (10, 330, 104), (11, 80, 106), (11, 83, 108), (10, 276, 109), (10, 333, 86), (11, 86, 111), (11, 90, 113), (10, 307, 114), (10, 310, 91), (10, 314, 115), (11, 94, 117), (10, 317, 93), (10, 320, 118), (11, 97, 120), (11, 100, 122), (11, 9, 129), (10, 100, 130), (11, 18, 132), (10, 110, 133), (11, 25, 135), (10, 114, 4), (10, 121, 136), (11, 32, 138), (11, 36, 140), (10, 136, 141), (11, 103, 146), (11, 45, 151), (10, 166, 152), (11, 54, 154), (11, 164, 7), (4, 66, 12), (0, 99, 18), (0, 51, 19), (6, 45, 19), (7, 47, 19), (7, 53, 25), (11, 166, 26), (6, 147, 30), (6, 151, 31), (6, 142, 37), (6, 73, 40), (6, 115, 42), (11, 169, 45), (7, 121, 61), (7, 124, 62), (11, 174, 64), (5, 16, 19), (1, 91, 40), (1, 112, 61), (5, 33, 76), (5, 39, 62), (5, 36, 77), (1, 65, 42), (11, 200, 79), (10, 272, 82), (11, 176, 83), (2, 38, 19), (11, 193, 88), (5, 44, 97), (11, 158, 101), (10, 188, 103), (11, 202, 105), (11, 206, 107), (5, 28, 82), (11, 186, 110), (11, 148, 112), (11, 150, 116), (11, 211, 119), (11, 204, 121), (11, 127, 123), (11, 107, 124), (11, 160, 125), (11, 131, 126), (11, 114, 127), (11, 117, 128), (11, 120, 131), (11, 123, 134), (11, 135, 137), (11, 138, 139), (11, 196, 142), (11, 144, 143), (11, 141, 144), (11, 152, 145), (11, 182, 147), (11, 189, 148), (11, 178, 149), (11, 154, 150), (11, 156, 153)]
theorem ma_ml_in : ∀ w ∈ ma_ml.map (fun q => Cond.methodLink (ma_own q.1) q.2.1 (ma_y q.2.2)), w ∈ lw_tbl := ma_mem _ [469, 473, 477, 481, 485, 489, 493, 502, 573, 577, 578, 582, 592, 599, 603, 607, 608, 612, 622, 626, 632, 652, 657, 671, 690, 694, 709, 713, 717, 721, 725, 736, 740, 747, 757, 761, 768, 772, 776, 780, 784, 791, 795, 799, 803, 807, 811, 815, 819, 823, 833, 834, 842, 846, 850, 855, 859, 864, 869, 873, 877, 881, 886, 898, 939, 943, 984, 988, 992, 1000, 1004, 1008, 1012, 1016, 1020, 1021, 1025, 1029, 1033, 1037, 1044, 1048, 1053, 1062, 1069, 1070, 1071, 1078, 1085, 1089, 1095, 1099, 1106, 1110, 1114, 1115, 1122, 1126, 1127, 1134, 1141, 1166, 1170, 1177, 1181, 1188, 1192, 1193, 1200, 1207, 1211, 1227, 1243, 1247, 1254, 497, 586, 616, 619, 656, 661, 662, 667, 698, 704, 729, 744, 754, 765, 827, 830, 839, 854, 863, 885, 890, 893, 894, 897, 902, 962, 981, 999, 1005, 1041, 1059, 1066, 1075, 1082, 1093, 1096, 1103, 1119, 1131, 1138, 1145, 1148, 1154, 1157, 1160, 1163, 1174, 1185, 1197, 1204, 1215, 1218, 1221, 1224, 1231, 1234, 1237, 1240, 1251] (by decide +kernel)
theorem ma_ml_good : ∀ w ∈ ma_ml.map (fun q => Cond.methodLink (ma_own q.1) q.2.1 (ma_y q.2.2)), goodWord w = true := List.all_eq_true.mp (by decide +kernel)
def ma_cp : List (Nat × Nat) := [(5, 22), (2, 63)]
theorem ma_cp_in : ∀ w ∈ ma_cp.map (fun q => Cond.methodLink (ma_own q.1) q.2 arraycopyName), w ∈ lw_tbl := ma_mem _ [996, 1052] (by decide +kernel)
theorem ma_cp_good : ∀ w ∈ ma_cp.map (fun q => Cond.methodLink (ma_own q.1) q.2 arraycopyName), goodWord w = true := List.all_eq_true.mp (by decide +kernel)
theorem ma_ac_in : ∀ w ∈ ([.native arraycopyName, .static arraycopyName, .initialized "java/lang/System"] : List Cond), w ∈ lw_tbl := ma_mem _ [998, 997, 57] (by decide +kernel)
theorem ma_ac_good : ∀ w ∈ ([.native arraycopyName, .static arraycopyName, .initialized "java/lang/System"] : List Cond), goodWord w = true := List.all_eq_true.mp (by decide +kernel)
def ma_mx : List (Nat × Nat) := [(4, 60), (6, 130), (7, 79)]
theorem ma_mx_in : ∀ w ∈ ma_mx.map (fun q => Cond.methodLink (ma_own q.1) q.2 ⟨"java/lang/Math", "max", "(II)I"⟩), w ∈ lw_tbl := ma_mem _ [596, 735, 838] (by decide +kernel)
theorem ma_mx_good : ∀ w ∈ ma_mx.map (fun q => Cond.methodLink (ma_own q.1) q.2 ⟨"java/lang/Math", "max", "(II)I"⟩), goodWord w = true := List.all_eq_true.mp (by decide +kernel)
theorem ma_mxs_in : ∀ w ∈ ([.static ⟨"java/lang/Math", "max", "(II)I"⟩, .initialized "java/lang/Math"] : List Cond), w ∈ lw_tbl := ma_mem _ [597, 53] (by decide +kernel)
theorem ma_mxs_good : ∀ w ∈ ([.static ⟨"java/lang/Math", "max", "(II)I"⟩, .initialized "java/lang/Math"] : List Cond), goodWord w = true := List.all_eq_true.mp (by decide +kernel)
def ma_mn : List (Nat × Nat) := [(6, 124)]
theorem ma_mn_in : ∀ w ∈ ma_mn.map (fun q => Cond.methodLink (ma_own q.1) q.2 ⟨"java/lang/Math", "min", "(II)I"⟩), w ∈ lw_tbl := ma_mem _ [751] (by decide +kernel)
theorem ma_mn_good : ∀ w ∈ ma_mn.map (fun q => Cond.methodLink (ma_own q.1) q.2 ⟨"java/lang/Math", "min", "(II)I"⟩), goodWord w = true := List.all_eq_true.mp (by decide +kernel)
theorem ma_mns_in : ∀ w ∈ ([.static ⟨"java/lang/Math", "min", "(II)I"⟩, .initialized "java/lang/Math"] : List Cond), w ∈ lw_tbl := ma_mem _ [752, 53] (by decide +kernel)
theorem ma_mns_good : ∀ w ∈ ([.static ⟨"java/lang/Math", "min", "(II)I"⟩, .initialized "java/lang/Math"] : List Cond), goodWord w = true := List.all_eq_true.mp (by decide +kernel)
def ma_md : List (Nat × Nat) := []
def ma_mN : List (Nat × Nat × Nat) := [(7, 85, 51), (1, 108, 51)]
def ma_nests : List Cond := ma_mN.map (fun q => Cond.methodLinkNest (ma_own q.1) q.2.1 (ma_y q.2.2) "Latticefit")
theorem ma_nests_in : ∀ w ∈ ma_nests, w ∈ lw_tbl := ma_mem _ [788, 868] (by decide +kernel)
def ma_thr : List (Nat × Nat × Nat × Nat) := [(10, 97, 99, 0), (10, 150, 152, 1), (10, 104, 106, 2), (10, 118, 120, 3), (10, 175, 177, 4)]
theorem ma_thr_in : ∀ w ∈ ma_thr.map (fun q => Cond.classLink (ma_own q.1) q.2.1 (ma_ex q.2.2.2)), w ∈ lw_tbl := ma_mem _ [506, 637, 675, 947, 965] (by decide +kernel)
theorem ma_thr_good : ∀ w ∈ ma_thr.map (fun q => Cond.classLink (ma_own q.1) q.2.1 (ma_ex q.2.2.2)), goodWord w = true := List.all_eq_true.mp (by decide +kernel)
def ma_hl : List (Nat × Nat) := [(15, 0), (43, 1), (22, 2), (29, 3), (48, 4)]
theorem ma_hl_in : ∀ w ∈ ma_hl.map (fun q => Cond.classLink "LatticefitLaw" q.1 (ma_ex q.2)), w ∈ lw_tbl := ma_mem _ [500, 501, 670, 905, 938] (by decide +kernel)
theorem ma_hl_good : ∀ w ∈ ma_hl.map (fun q => Cond.classLink "LatticefitLaw" q.1 (ma_ex q.2)), goodWord w = true := List.all_eq_true.mp (by decide +kernel)
def ma_cst : List (String × String) := [("java/lang/IllegalStateException", "java/lang/IllegalStateException"), ("java/lang/UnsupportedOperationException", "java/lang/UnsupportedOperationException"), ("java/lang/IllegalArgumentException", "java/lang/IllegalArgumentException"), ("java/lang/ArrayIndexOutOfBoundsException", "java/lang/ArrayIndexOutOfBoundsException"), ("java/lang/IndexOutOfBoundsException", "java/lang/IndexOutOfBoundsException"), ("java/util/NoSuchElementException", "java/util/NoSuchElementException"), ("java/lang/ArrayIndexOutOfBoundsException", "java/lang/IndexOutOfBoundsException"), ("Latticefit", "java/lang/Object"), ("Latticefit$Circuit", "java/lang/Object"), ("Latticefit$Cuts", "java/lang/Object"), ("Latticefit$Blocks", "java/lang/Object"), ("Latticefit$Places", "java/lang/Object"), ("Latticefit$Routes", "java/lang/Object"), ("Latticefit$Times", "java/lang/Object"), ("Latticefit$Frames", "java/lang/Object"), ("Latticefit$Builder", "java/lang/Object"), ("Latticefit$Chip", "java/lang/Object"), ("Latticefit$Runner", "java/lang/Object"), ("java/lang/IllegalStateException", "java/lang/Object"), ("java/lang/IllegalArgumentException", "java/lang/Object"), ("java/lang/ArrayIndexOutOfBoundsException", "java/lang/Object"), ("java/lang/IndexOutOfBoundsException", "java/lang/Object"), ("java/lang/UnsupportedOperationException", "java/lang/Object"), ("java/util/NoSuchElementException", "java/lang/Object"), ("java/lang/Throwable", "java/lang/Object"), ("java/lang/String", "java/lang/Object")]
def ma_casts : List Cond := ma_cst.map (fun q => Cond.castable q.1 q.2)
theorem ma_casts_in : ∀ w ∈ ma_casts, w ∈ lw_tbl := ma_mem _ [508, 639, 677, 928, 949, 967, 1259, 1260, 1261, 1262, 1263, 1264, 1265, 1266, 1267, 1268, 1269, 1270, 1271, 1272, 1273, 1274, 1275, 1276, 1277, 1278] (by decide +kernel)
def ma_dcl : List (MethodName) := [⟨"java/lang/RuntimeException", "<init>", "()V"⟩, ⟨"java/lang/RuntimeException", "<init>", "(Ljava/lang/String;)V"⟩, ⟨"java/lang/Exception", "<init>", "()V"⟩, ⟨"java/lang/Exception", "<init>", "(Ljava/lang/String;)V"⟩, ⟨"java/lang/Throwable", "<init>", "()V"⟩, ⟨"java/lang/Throwable", "<init>", "(Ljava/lang/String;)V"⟩, ⟨"java/lang/IndexOutOfBoundsException", "<init>", "()V"⟩, ⟨"java/lang/IndexOutOfBoundsException", "<init>", "(Ljava/lang/String;)V"⟩]
def ma_decls : List Cond := ma_dcl.map (fun q => Cond.declares q)
theorem ma_decls_in : ∀ w ∈ ma_decls, w ∈ lw_tbl := ma_mem _ [509, 510, 511, 512, 513, 514, 929, 930] (by decide +kernel)
