/-! the blocks of the methods, written by a program from their bytes -/
def mb_Latticefit_isRouted : ma_Tb := [(0, [true], (1, .aload_n 0, 0, 0) :: (3, .getfield 87, 10, 10) :: (1, .iconst (2), 0, 2) :: (3, .if_icmp .lt (7), 0, 0) :: (1, .iconst (1), 0, 1) :: (3, .goto (4), 0, 0) :: []),
  (12, [false], (1, .iconst (0), 0, 0) :: []),
  (13, [false], (1, .ireturn, 0, 0) :: [])]
def mt_Latticefit_isConsistent_7 : List ma_AI := (3, .ifCond .ne (5), 0, 0) :: (1, .iconst (0), 0, 0) :: (1, .ireturn, 0, 0) :: []
def mt_Latticefit_isConsistent_27 : List ma_AI := (3, .ifCond .ne (5), 0, 0) :: (1, .iconst (0), 0, 0) :: (1, .ireturn, 0, 0) :: []
def mt_Latticefit_isConsistent_47 : List ma_AI := (3, .ifCond .ne (7), 0, 0) :: []
def mb_Latticefit_isConsistent : ma_Tb := [(0, [true], (1, .aload_n 0, 0, 0) :: (3, .getfield 10, 10, 0) :: (3, .invokevirtual 341, 2, 3) :: mt_Latticefit_isConsistent_7),
  (12, [true], (1, .aload_n 0, 0, 0) :: (3, .getfield 87, 10, 10) :: (1, .iconst (1), 0, 1) :: (3, .if_icmp .lt (15), 0, 0) :: (1, .aload_n 0, 0, 0) :: (3, .getfield 37, 10, 3) :: (3, .invokevirtual 344, 5, 6) :: mt_Latticefit_isConsistent_27),
  (32, [true], (1, .aload_n 0, 0, 0) :: (3, .getfield 87, 10, 10) :: (1, .iconst (2), 0, 2) :: (3, .if_icmp .lt (13), 0, 0) :: (1, .aload_n 0, 0, 0) :: (3, .getfield 44, 10, 4) :: (3, .invokevirtual 224, 6, 7) :: mt_Latticefit_isConsistent_47),
  (50, [false], (1, .iconst (1), 0, 1) :: (3, .goto (4), 0, 0) :: []),
  (54, [false], (1, .iconst (0), 0, 0) :: []),
  (55, [false], (1, .ireturn, 0, 0) :: [])]
def mt_Circuit_isSound_15 : List ma_AI := (3, .ifCond .eq (25), 0, 0) :: (1, .aload_n 0, 0, 0) :: (3, .getfield 15, 3, 1) :: (1, .iload_n 1, 0, 0) :: (1, .iaload, 0, 0) :: (1, .iload_n 1, 0, 0) :: (3, .if_icmp .ge (13), 0, 0) :: (1, .aload_n 0, 0, 0) :: (3, .getfield 19, 3, 2) :: (1, .iload_n 1, 0, 0) :: (1, .iaload, 0, 0) :: (1, .iload_n 1, 0, 0) :: (3, .if_icmp .lt (5), 0, 0) :: []
def mt_Circuit_isSound_61 : List ma_AI := (3, .ifCond .ne (5), 0, 0) :: (1, .iconst (0), 0, 0) :: (1, .ireturn, 0, 0) :: []
def mt_Circuit_isSound_92 : List ma_AI := (3, .ifCond .ne (5), 0, 0) :: (1, .iconst (0), 0, 0) :: (1, .ireturn, 0, 0) :: []
def mb_Circuit_isSound : ma_Tb := [(0, [true, false], (1, .iconst (0), 0, 0) :: (1, .istore_n 1, 0, 0) :: []),
  (2, [true, true], (1, .iload_n 1, 0, 0) :: (1, .aload_n 0, 0, 0) :: (3, .getfield 43, 3, 10) :: (3, .if_icmp .ge (65), 0, 0) :: (1, .aload_n 0, 0, 0) :: (1, .iload_n 1, 0, 0) :: (3, .invokevirtual 57, 3, 3) :: mt_Circuit_isSound_15),
  (38, [false, false], (1, .iconst (0), 0, 0) :: (1, .ireturn, 0, 0) :: []),
  (40, [true, true], (1, .aload_n 0, 0, 0) :: (3, .getfield 9, 3, 0) :: (1, .iload_n 1, 0, 0) :: (1, .caload, 0, 0) :: (2, .bipush (114), 0, 114) :: (3, .if_icmp .ne (18), 0, 0) :: (1, .aload_n 0, 0, 0) :: (1, .aload_n 0, 0, 0) :: (3, .getfield 22, 3, 3) :: (1, .iload_n 1, 0, 0) :: (1, .iaload, 0, 0) :: (3, .invokevirtual 61, 4, 3) :: mt_Circuit_isSound_61),
  (66, [true, true], (3, .iinc 1 (1), 0, 0) :: (3, .goto (-67), 0, 0) :: []),
  (72, [true, false], (1, .iconst (0), 0, 0) :: (1, .istore_n 1, 0, 0) :: []),
  (74, [true, true], (1, .iload_n 1, 0, 0) :: (1, .aload_n 0, 0, 0) :: (3, .getfield 53, 3, 13) :: (3, .if_icmp .ge (24), 0, 0) :: (1, .aload_n 0, 0, 0) :: (1, .aload_n 0, 0, 0) :: (3, .getfield 40, 3, 9) :: (1, .iload_n 1, 0, 0) :: (1, .iaload, 0, 0) :: (3, .invokevirtual 61, 4, 3) :: mt_Circuit_isSound_92),
  (97, [true, true], (3, .iinc 1 (1), 0, 0) :: (3, .goto (-26), 0, 0) :: []),
  (103, [false, false], (1, .iconst (1), 0, 1) :: (1, .ireturn, 0, 0) :: [])]
def mb_Circuit_isGate : ma_Tb := [(0, [true, true], (1, .aload_n 0, 0, 0) :: (3, .getfield 9, 3, 0) :: (1, .iload_n 1, 0, 0) :: (1, .caload, 0, 0) :: (2, .bipush (105), 0, 105) :: (3, .if_icmp .eq (18), 0, 0) :: (1, .aload_n 0, 0, 0) :: (3, .getfield 9, 3, 0) :: (1, .iload_n 1, 0, 0) :: (1, .caload, 0, 0) :: (2, .bipush (114), 0, 114) :: (3, .if_icmp .eq (7), 0, 0) :: (1, .iconst (1), 0, 1) :: (3, .goto (4), 0, 0) :: []),
  (26, [false, false], (1, .iconst (0), 0, 0) :: []),
  (27, [false, false], (1, .ireturn, 0, 0) :: [])]
def mb_Circuit_isNode : ma_Tb := [(0, [true, true], (1, .iload_n 1, 0, 0) :: (3, .ifCond .lt (15), 0, 0) :: (1, .iload_n 1, 0, 0) :: (1, .aload_n 0, 0, 0) :: (3, .getfield 43, 3, 10) :: (3, .if_icmp .ge (7), 0, 0) :: (1, .iconst (1), 0, 1) :: (3, .goto (4), 0, 0) :: []),
  (16, [false, false], (1, .iconst (0), 0, 0) :: []),
  (17, [false, false], (1, .ireturn, 0, 0) :: [])]
def mb_Places_isSound : ma_Tb := [(0, [true, false, false, false], (1, .iconst (0), 0, 0) :: (1, .istore_n 1, 0, 0) :: (1, .iconst (0), 0, 0) :: (1, .istore_n 2, 0, 0) :: []),
  (4, [true, true, true, false], (1, .iload_n 2, 0, 0) :: (2, .bipush (36), 0, 36) :: (3, .if_icmp .ge (55), 0, 0) :: (1, .aload_n 0, 0, 0) :: (3, .getfield 15, 6, 1) :: (1, .iload_n 2, 0, 0) :: (1, .iaload, 0, 0) :: (1, .istore_n 3, 0, 0) :: (1, .iload_n 3, 0, 0) :: (1, .aload_n 0, 0, 0) :: (3, .getfield 41, 6, 9) :: (3, .getfield 51, 0, 7) :: (3, .if_icmp .ge (17), 0, 0) :: (1, .iload_n 3, 0, 0) :: (3, .ifCond .lt (15), 0, 0) :: (1, .aload_n 0, 0, 0) :: (3, .getfield 9, 6, 0) :: (1, .iload_n 3, 0, 0) :: (1, .iaload, 0, 0) :: (1, .iload_n 2, 0, 0) :: (3, .if_icmp .eq (5), 0, 0) :: []),
  (42, [false, false, false, false], (1, .iconst (0), 0, 0) :: (1, .ireturn, 0, 0) :: []),
  (44, [true, true, true, true], (1, .iload_n 1, 0, 0) :: (1, .iload_n 3, 0, 0) :: (3, .ifCond .lt (7), 0, 0) :: (1, .iconst (1), 0, 1) :: (3, .goto (4), 0, 0) :: []),
  (53, [true, false, true, false], (1, .iconst (0), 0, 0) :: []),
  (54, [true, false, true, false], (1, .iadd, 0, 0) :: (1, .istore_n 1, 0, 0) :: (3, .iinc 2 (1), 0, 0) :: (3, .goto (-55), 0, 0) :: []),
  (62, [true, true, false, false], (1, .iload_n 1, 0, 0) :: (1, .aload_n 0, 0, 0) :: (3, .getfield 41, 6, 9) :: (3, .getfield 51, 0, 7) :: (3, .if_icmp .ne (7), 0, 0) :: (1, .iconst (1), 0, 1) :: (3, .goto (4), 0, 0) :: []),
  (77, [false, false, false, false], (1, .iconst (0), 0, 0) :: []),
  (78, [false, false, false, false], (1, .ireturn, 0, 0) :: [])]
def mb_Routes_isCrowded : ma_Tb := [(0, [true, false], (1, .iconst (0), 0, 0) :: (1, .istore_n 1, 0, 0) :: []),
  (2, [true, true], (1, .iload_n 1, 0, 0) :: (2, .bipush (84), 0, 84) :: (3, .if_icmp .ge (21), 0, 0) :: (1, .aload_n 0, 0, 0) :: (3, .getfield 20, 7, 2) :: (1, .iload_n 1, 0, 0) :: (1, .iaload, 0, 0) :: (1, .iconst (2), 0, 2) :: (3, .if_icmp .le (5), 0, 0) :: (1, .iconst (1), 0, 1) :: (1, .ireturn, 0, 0) :: []),
  (20, [true, true], (3, .iinc 1 (1), 0, 0) :: (3, .goto (-21), 0, 0) :: []),
  (26, [false, false], (1, .iconst (0), 0, 0) :: (1, .ireturn, 0, 0) :: [])]
def mt_LatticefitLaw_addInput_6 : List ma_AI := (1, .i2l, 0, 0) :: (1, .lastore, 0, 0) :: (3, .goto (6), 0, 0) :: []
def mb_LatticefitLaw_addInput : ma_Tb := [(0, [true, true, false], (1, .aload_n 1, 0, 0) :: (1, .iconst (0), 0, 0) :: (1, .aload_n 0, 0, 0) :: (3, .invokevirtual 7, 8, 10) :: mt_LatticefitLaw_addInput_6),
  (11, [false, false, false], (1, .astore_n 2, 0, 0) :: (1, .iconst (1), 0, 1) :: (1, .ireturn, 0, 0) :: []),
  (14, [false, false, false], (1, .iconst (0), 0, 0) :: (1, .ireturn, 0, 0) :: [])]
def mt_Latticefit_addInput_44 : List ma_AI := (1, .ireturn, 0, 0) :: []
def mb_Latticefit_addInput : ma_Tb := [(0, [true], (1, .aload_n 0, 0, 0) :: (3, .getfield 10, 10, 0) :: (3, .getfield 91, 3, 10) :: (2, .bipush (48), 0, 48) :: (3, .if_icmp .ge (15), 0, 0) :: (1, .aload_n 0, 0, 0) :: (3, .getfield 10, 10, 0) :: (3, .getfield 94, 3, 11) :: (2, .bipush (6), 0, 6) :: (3, .if_icmp .lt (11), 0, 0) :: []),
  (24, [false], (8, .athrow, 0, 0) :: []),
  (32, [true], (1, .aload_n 0, 0, 0) :: (1, .iconst (0), 0, 0) :: (3, .putfield 87, 10, 10) :: (1, .aload_n 0, 0, 0) :: (3, .getfield 10, 10, 0) :: (3, .invokevirtual 100, 9, 3) :: mt_Latticefit_addInput_44)]
def mb_Circuit_putInput : ma_Tb := [(0, [true], (1, .aload_n 0, 0, 0) :: (3, .getfield 9, 3, 0) :: (1, .aload_n 0, 0, 0) :: (3, .getfield 43, 3, 10) :: (2, .bipush (105), 0, 105) :: (1, .castore, 0, 0) :: (1, .aload_n 0, 0, 0) :: (3, .getfield 31, 3, 6) :: (1, .aload_n 0, 0, 0) :: (3, .getfield 43, 3, 10) :: (1, .aload_n 0, 0, 0) :: (3, .getfield 47, 3, 11) :: (1, .iastore, 0, 0) :: (1, .aload_n 0, 0, 0) :: (3, .getfield 34, 3, 7) :: (1, .aload_n 0, 0, 0) :: (3, .getfield 47, 3, 11) :: (1, .aload_n 0, 0, 0) :: (3, .getfield 43, 3, 10) :: (1, .iastore, 0, 0) :: (1, .aload_n 0, 0, 0) :: (1, .dup, 0, 0) :: (3, .getfield 47, 3, 11) :: (1, .iconst (1), 0, 1) :: (1, .iadd, 0, 0) :: (3, .putfield 47, 3, 11) :: (1, .aload_n 0, 0, 0) :: (1, .dup, 0, 0) :: (3, .getfield 43, 3, 10) :: (1, .dup_x1, 0, 0) :: (1, .iconst (1), 0, 1) :: (1, .iadd, 0, 0) :: (3, .putfield 43, 3, 10) :: (1, .ireturn, 0, 0) :: [])]
def mt_LatticefitLaw_addRegister_8 : List ma_AI := (1, .i2l, 0, 0) :: (1, .lastore, 0, 0) :: (3, .goto (11), 0, 0) :: []
def mb_LatticefitLaw_addRegister : ma_Tb := [(0, [true, true, true, true, false], (1, .aload_n 3, 0, 0) :: (1, .iconst (0), 0, 0) :: (1, .aload_n 0, 0, 0) :: (1, .iload_n 1, 0, 0) :: (1, .iload_n 2, 0, 0) :: (3, .invokevirtual 15, 11, 10) :: mt_LatticefitLaw_addRegister_8),
  (13, [false, false, false, false, false], (2, .astore 4, 0, 0) :: (1, .iconst (1), 0, 1) :: (1, .ireturn, 0, 0) :: []),
  (17, [false, false, false, false, false], (2, .astore 4, 0, 0) :: (1, .iconst (2), 0, 2) :: (1, .ireturn, 0, 0) :: []),
  (21, [false, false, false, false, false], (1, .iconst (0), 0, 0) :: (1, .ireturn, 0, 0) :: [])]
def mt_Latticefit_addRegister_63 : List ma_AI := (1, .ireturn, 0, 0) :: []
def mb_Latticefit_addRegister : ma_Tb := [(0, [true, true, true], (1, .iload_n 2, 0, 0) :: (3, .ifCond .lt (8), 0, 0) :: (1, .iload_n 2, 0, 0) :: (1, .iconst (3), 0, 3) :: (3, .if_icmp .lt (11), 0, 0) :: []),
  (9, [false, false, false], (8, .athrow, 1, 1) :: []),
  (17, [true, true, true], (1, .aload_n 0, 0, 0) :: (3, .getfield 10, 10, 0) :: (3, .getfield 91, 3, 10) :: (2, .bipush (48), 0, 48) :: (3, .if_icmp .ge (15), 0, 0) :: (1, .aload_n 0, 0, 0) :: (3, .getfield 10, 10, 0) :: (3, .getfield 107, 3, 12) :: (2, .bipush (8), 0, 8) :: (3, .if_icmp .lt (11), 0, 0) :: []),
  (41, [false, false, false], (8, .athrow, 0, 0) :: []),
  (49, [true, true, true], (1, .aload_n 0, 0, 0) :: (1, .iconst (0), 0, 0) :: (3, .putfield 87, 10, 10) :: (1, .aload_n 0, 0, 0) :: (3, .getfield 10, 10, 0) :: (1, .iload_n 1, 0, 0) :: (1, .iload_n 2, 0, 0) :: (3, .invokevirtual 110, 12, 3) :: mt_Latticefit_addRegister_63)]
def mb_Circuit_putRegister : ma_Tb := [(0, [true, true, true], (1, .aload_n 0, 0, 0) :: (3, .getfield 9, 3, 0) :: (1, .aload_n 0, 0, 0) :: (3, .getfield 43, 3, 10) :: (2, .bipush (114), 0, 114) :: (1, .castore, 0, 0) :: (1, .aload_n 0, 0, 0) :: (3, .getfield 25, 3, 4) :: (1, .aload_n 0, 0, 0) :: (3, .getfield 43, 3, 10) :: (1, .iload_n 1, 0, 0) :: (3, .ifCond .eq (7), 0, 0) :: (1, .iconst (1), 0, 1) :: (3, .goto (4), 0, 0) :: []),
  (27, [true, false, true], (1, .iconst (0), 0, 0) :: []),
  (28, [true, false, true], (1, .iastore, 0, 0) :: (1, .aload_n 0, 0, 0) :: (3, .getfield 28, 3, 5) :: (1, .aload_n 0, 0, 0) :: (3, .getfield 43, 3, 10) :: (1, .iload_n 2, 0, 0) :: (1, .iastore, 0, 0) :: (1, .aload_n 0, 0, 0) :: (3, .getfield 22, 3, 3) :: (1, .aload_n 0, 0, 0) :: (3, .getfield 43, 3, 10) :: (1, .aload_n 0, 0, 0) :: (3, .getfield 43, 3, 10) :: (1, .iastore, 0, 0) :: (1, .aload_n 0, 0, 0) :: (3, .getfield 37, 3, 8) :: (1, .aload_n 0, 0, 0) :: (3, .getfield 50, 3, 12) :: (1, .aload_n 0, 0, 0) :: (3, .getfield 43, 3, 10) :: (1, .iastore, 0, 0) :: (1, .aload_n 0, 0, 0) :: (1, .dup, 0, 0) :: (3, .getfield 50, 3, 12) :: (1, .iconst (1), 0, 1) :: (1, .iadd, 0, 0) :: (3, .putfield 50, 3, 12) :: (1, .aload_n 0, 0, 0) :: (1, .dup, 0, 0) :: (3, .getfield 43, 3, 10) :: (1, .dup_x1, 0, 0) :: (1, .iconst (1), 0, 1) :: (1, .iadd, 0, 0) :: (3, .putfield 43, 3, 10) :: (1, .ireturn, 0, 0) :: [])]
def mt_LatticefitLaw_addGate_10 : List ma_AI := (1, .i2l, 0, 0) :: (1, .lastore, 0, 0) :: (3, .goto (15), 0, 0) :: []
def mb_LatticefitLaw_addGate : ma_Tb := [(0, [true, true, true, true, true, false], (2, .aload 4, 0, 0) :: (1, .iconst (0), 0, 0) :: (1, .aload_n 0, 0, 0) :: (1, .iload_n 1, 0, 0) :: (1, .iload_n 2, 0, 0) :: (1, .iload_n 3, 0, 0) :: (3, .invokevirtual 21, 14, 10) :: mt_LatticefitLaw_addGate_10),
  (15, [false, false, false, false, false, false], (2, .astore 5, 0, 0) :: (1, .iconst (1), 0, 1) :: (1, .ireturn, 0, 0) :: []),
  (19, [false, false, false, false, false, false], (2, .astore 5, 0, 0) :: (1, .iconst (2), 0, 2) :: (1, .ireturn, 0, 0) :: []),
  (23, [false, false, false, false, false, false], (2, .astore 5, 0, 0) :: (1, .iconst (3), 0, 3) :: (1, .ireturn, 0, 0) :: []),
  (27, [false, false, false, false, false, false], (1, .iconst (0), 0, 0) :: (1, .ireturn, 0, 0) :: [])]
def mt_Latticefit_addGate_57 : List ma_AI := (3, .ifCond .ne (11), 0, 0) :: []
def mt_Latticefit_addGate_40 : List ma_AI := (3, .ifCond .eq (20), 0, 0) :: (1, .iload_n 1, 0, 0) :: (2, .bipush (110), 0, 110) :: (3, .if_icmp .eq (22), 0, 0) :: (1, .aload_n 0, 0, 0) :: (3, .getfield 10, 10, 0) :: (1, .iload_n 3, 0, 0) :: (3, .invokevirtual 114, 4, 3) :: mt_Latticefit_addGate_57
def mt_Latticefit_addGate_113 : List ma_AI := (1, .ireturn, 0, 0) :: []
def mb_Latticefit_addGate : ma_Tb := [(0, [true, true, true, true], (1, .iload_n 1, 0, 0) :: (2, .bipush (97), 0, 97) :: (3, .if_icmp .eq (29), 0, 0) :: (1, .iload_n 1, 0, 0) :: (2, .bipush (111), 0, 111) :: (3, .if_icmp .eq (23), 0, 0) :: (1, .iload_n 1, 0, 0) :: (2, .bipush (120), 0, 120) :: (3, .if_icmp .eq (17), 0, 0) :: (1, .iload_n 1, 0, 0) :: (2, .bipush (110), 0, 110) :: (3, .if_icmp .eq (11), 0, 0) :: (8, .athrow, 1, 1) :: []),
  (32, [true, true, true, true], (1, .aload_n 0, 0, 0) :: (3, .getfield 10, 10, 0) :: (1, .iload_n 2, 0, 0) :: (3, .invokevirtual 114, 4, 3) :: mt_Latticefit_addGate_40),
  (60, [false, false, false, false], (8, .athrow, 2, 2) :: []),
  (68, [true, true, true, true], (1, .aload_n 0, 0, 0) :: (3, .getfield 10, 10, 0) :: (3, .getfield 91, 3, 10) :: (2, .bipush (48), 0, 48) :: (3, .if_icmp .lt (11), 0, 0) :: (8, .athrow, 0, 0) :: []),
  (88, [true, true, true, true], (1, .aload_n 0, 0, 0) :: (1, .iconst (0), 0, 0) :: (3, .putfield 87, 10, 10) :: (1, .aload_n 0, 0, 0) :: (3, .getfield 10, 10, 0) :: (1, .iload_n 1, 0, 0) :: (1, .iload_n 2, 0, 0) :: (1, .iload_n 1, 0, 0) :: (2, .bipush (110), 0, 110) :: (3, .if_icmp .ne (7), 0, 0) :: (1, .iload_n 2, 0, 0) :: (3, .goto (4), 0, 0) :: []),
  (109, [false, false, false, true], (1, .iload_n 3, 0, 0) :: []),
  (110, [false, false, false, false], (3, .invokevirtual 121, 15, 3) :: mt_Latticefit_addGate_113)]
def mb_Circuit_putGate : ma_Tb := [(0, [true, true, true, true], (1, .aload_n 0, 0, 0) :: (3, .getfield 9, 3, 0) :: (1, .aload_n 0, 0, 0) :: (3, .getfield 43, 3, 10) :: (1, .iload_n 1, 0, 0) :: (1, .castore, 0, 0) :: (1, .aload_n 0, 0, 0) :: (3, .getfield 15, 3, 1) :: (1, .aload_n 0, 0, 0) :: (3, .getfield 43, 3, 10) :: (1, .iload_n 2, 0, 0) :: (1, .iastore, 0, 0) :: (1, .aload_n 0, 0, 0) :: (3, .getfield 19, 3, 2) :: (1, .aload_n 0, 0, 0) :: (3, .getfield 43, 3, 10) :: (1, .iload_n 3, 0, 0) :: (1, .iastore, 0, 0) :: (1, .aload_n 0, 0, 0) :: (1, .dup, 0, 0) :: (3, .getfield 43, 3, 10) :: (1, .dup_x1, 0, 0) :: (1, .iconst (1), 0, 1) :: (1, .iadd, 0, 0) :: (3, .putfield 43, 3, 10) :: (1, .ireturn, 0, 0) :: [])]
def mt_LatticefitLaw_feed_8 : List ma_AI := (1, .i2l, 0, 0) :: (1, .lastore, 0, 0) :: (3, .goto (11), 0, 0) :: []
def mb_LatticefitLaw_feed : ma_Tb := [(0, [true, true, true, true, false], (1, .aload_n 3, 0, 0) :: (1, .iconst (0), 0, 0) :: (1, .aload_n 0, 0, 0) :: (1, .iload_n 1, 0, 0) :: (1, .iload_n 2, 0, 0) :: (3, .invokevirtual 27, 17, 10) :: mt_LatticefitLaw_feed_8),
  (13, [false, false, false, false, false], (2, .astore 4, 0, 0) :: (1, .iconst (1), 0, 1) :: (1, .ireturn, 0, 0) :: []),
  (17, [false, false, false, false, false], (2, .astore 4, 0, 0) :: (1, .iconst (2), 0, 2) :: (1, .ireturn, 0, 0) :: []),
  (21, [false, false, false, false, false], (1, .iconst (0), 0, 0) :: (1, .ireturn, 0, 0) :: [])]
def mt_Latticefit_feed_19 : List ma_AI := (3, .ifCond .ne (11), 0, 0) :: []
def mt_Latticefit_feed_8 : List ma_AI := (3, .ifCond .eq (14), 0, 0) :: (1, .aload_n 0, 0, 0) :: (3, .getfield 10, 10, 0) :: (1, .iload_n 2, 0, 0) :: (3, .invokevirtual 114, 4, 3) :: mt_Latticefit_feed_19
def mb_Latticefit_feed : ma_Tb := [(0, [true, true, true, false], (1, .aload_n 0, 0, 0) :: (3, .getfield 10, 10, 0) :: (1, .iload_n 1, 0, 0) :: (3, .invokevirtual 114, 4, 3) :: mt_Latticefit_feed_8),
  (22, [false, false, false, false], (8, .athrow, 2, 2) :: []),
  (30, [true, true, true, false], (1, .aload_n 0, 0, 0) :: (3, .getfield 10, 10, 0) :: (3, .getfield 125, 3, 0) :: (1, .iload_n 1, 0, 0) :: (1, .caload, 0, 0) :: (2, .bipush (114), 0, 114) :: (3, .if_icmp .eq (11), 0, 0) :: (8, .athrow, 0, 0) :: []),
  (52, [true, true, true, false], (1, .aload_n 0, 0, 0) :: (1, .iconst (0), 0, 0) :: (3, .putfield 87, 10, 10) :: (1, .aload_n 0, 0, 0) :: (3, .getfield 10, 10, 0) :: (3, .getfield 129, 3, 3) :: (1, .iload_n 1, 0, 0) :: (1, .iaload, 0, 0) :: (1, .istore_n 3, 0, 0) :: (1, .aload_n 0, 0, 0) :: (3, .getfield 10, 10, 0) :: (3, .getfield 129, 3, 3) :: (1, .iload_n 1, 0, 0) :: (1, .iload_n 2, 0, 0) :: (1, .iastore, 0, 0) :: (1, .iload_n 3, 0, 0) :: (1, .ireturn, 0, 0) :: [])]
def mt_LatticefitLaw_addOutput_7 : List ma_AI := (1, .i2l, 0, 0) :: (1, .lastore, 0, 0) :: (3, .goto (9), 0, 0) :: []
def mb_LatticefitLaw_addOutput : ma_Tb := [(0, [true, true, true, false], (1, .aload_n 2, 0, 0) :: (1, .iconst (0), 0, 0) :: (1, .aload_n 0, 0, 0) :: (1, .iload_n 1, 0, 0) :: (3, .invokevirtual 31, 19, 10) :: mt_LatticefitLaw_addOutput_7),
  (12, [false, false, false, false], (1, .astore_n 3, 0, 0) :: (1, .iconst (1), 0, 1) :: (1, .ireturn, 0, 0) :: []),
  (15, [false, false, false, false], (1, .astore_n 3, 0, 0) :: (1, .iconst (2), 0, 2) :: (1, .ireturn, 0, 0) :: []),
  (18, [false, false, false, false], (1, .iconst (0), 0, 0) :: (1, .ireturn, 0, 0) :: [])]
def mt_Latticefit_addOutput_8 : List ma_AI := (3, .ifCond .ne (11), 0, 0) :: (8, .athrow, 2, 2) :: []
def mt_Latticefit_addOutput_52 : List ma_AI := (1, .ireturn, 0, 0) :: []
def mb_Latticefit_addOutput : ma_Tb := [(0, [true, true], (1, .aload_n 0, 0, 0) :: (3, .getfield 10, 10, 0) :: (1, .iload_n 1, 0, 0) :: (3, .invokevirtual 114, 4, 3) :: mt_Latticefit_addOutput_8),
  (19, [true, true], (1, .aload_n 0, 0, 0) :: (3, .getfield 10, 10, 0) :: (3, .getfield 133, 3, 13) :: (2, .bipush (6), 0, 6) :: (3, .if_icmp .lt (11), 0, 0) :: (8, .athrow, 0, 0) :: []),
  (39, [true, true], (1, .aload_n 0, 0, 0) :: (1, .iconst (0), 0, 0) :: (3, .putfield 87, 10, 10) :: (1, .aload_n 0, 0, 0) :: (3, .getfield 10, 10, 0) :: (1, .iload_n 1, 0, 0) :: (3, .invokevirtual 136, 20, 3) :: mt_Latticefit_addOutput_52)]
def mb_Circuit_putOutput : ma_Tb := [(0, [true, true], (1, .aload_n 0, 0, 0) :: (3, .getfield 40, 3, 9) :: (1, .aload_n 0, 0, 0) :: (3, .getfield 53, 3, 13) :: (1, .iload_n 1, 0, 0) :: (1, .iastore, 0, 0) :: (1, .aload_n 0, 0, 0) :: (1, .dup, 0, 0) :: (3, .getfield 53, 3, 13) :: (1, .dup_x1, 0, 0) :: (1, .iconst (1), 0, 1) :: (1, .iadd, 0, 0) :: (3, .putfield 53, 3, 13) :: (1, .ireturn, 0, 0) :: [])]
def mt_LatticefitLaw_kindOf_7 : List ma_AI := (1, .i2l, 0, 0) :: (1, .lastore, 0, 0) :: (3, .goto (6), 0, 0) :: []
def mb_LatticefitLaw_kindOf : ma_Tb := [(0, [true, true, true, false], (1, .aload_n 2, 0, 0) :: (1, .iconst (0), 0, 0) :: (1, .aload_n 0, 0, 0) :: (1, .iload_n 1, 0, 0) :: (3, .invokevirtual 35, 22, 10) :: mt_LatticefitLaw_kindOf_7),
  (12, [false, false, false, false], (1, .astore_n 3, 0, 0) :: (1, .iconst (1), 0, 1) :: (1, .ireturn, 0, 0) :: []),
  (15, [false, false, false, false], (1, .iconst (0), 0, 0) :: (1, .ireturn, 0, 0) :: [])]
def mt_Latticefit_kindOf_8 : List ma_AI := (3, .ifCond .ne (11), 0, 0) :: (8, .athrow, 2, 2) :: []
def mb_Latticefit_kindOf : ma_Tb := [(0, [true, true], (1, .aload_n 0, 0, 0) :: (3, .getfield 10, 10, 0) :: (1, .iload_n 1, 0, 0) :: (3, .invokevirtual 114, 4, 3) :: mt_Latticefit_kindOf_8),
  (19, [true, true], (1, .aload_n 0, 0, 0) :: (3, .getfield 10, 10, 0) :: (3, .getfield 125, 3, 0) :: (1, .iload_n 1, 0, 0) :: (1, .caload, 0, 0) :: (1, .ireturn, 0, 0) :: [])]
def mt_LatticefitLaw_map_6 : List ma_AI := (1, .i2l, 0, 0) :: (1, .lastore, 0, 0) :: (3, .goto (9), 0, 0) :: []
def mb_LatticefitLaw_map : ma_Tb := [(0, [true, true, false], (1, .aload_n 1, 0, 0) :: (1, .iconst (0), 0, 0) :: (1, .aload_n 0, 0, 0) :: (3, .invokevirtual 39, 24, 10) :: mt_LatticefitLaw_map_6),
  (11, [false, false, false], (1, .astore_n 2, 0, 0) :: (1, .iconst (1), 0, 1) :: (1, .ireturn, 0, 0) :: []),
  (14, [false, false, false], (1, .astore_n 2, 0, 0) :: (1, .iconst (2), 0, 2) :: (1, .ireturn, 0, 0) :: []),
  (17, [false, false, false], (1, .iconst (0), 0, 0) :: (1, .ireturn, 0, 0) :: [])]
def mt_Latticefit_map_36 : List ma_AI := (1, .aload_n 0, 0, 0) :: (3, .getfield 28, 10, 2) :: (3, .getfield 147, 0, 7) :: (2, .bipush (36), 0, 36) :: (3, .if_icmp .le (11), 0, 0) :: (8, .athrow, 3, 3) :: []
def mt_Latticefit_map_25 : List ma_AI := (1, .aload_n 0, 0, 0) :: (3, .getfield 28, 10, 2) :: (1, .aload_n 0, 0, 0) :: (3, .getfield 21, 10, 1) :: (3, .invokevirtual 143, 30, 0) :: mt_Latticefit_map_36
def mt_Latticefit_map_70 : List ma_AI := (1, .aload_n 0, 0, 0) :: (1, .iconst (1), 0, 1) :: (3, .putfield 87, 10, 10) :: (1, .aload_n 0, 0, 0) :: (3, .getfield 28, 10, 2) :: (3, .getfield 147, 0, 7) :: (1, .ireturn, 0, 0) :: []
def mt_Latticefit_map_63 : List ma_AI := (1, .aload_n 0, 0, 0) :: (3, .getfield 44, 10, 4) :: (3, .invokevirtual 156, 40, 7) :: mt_Latticefit_map_70
def mb_Latticefit_map : ma_Tb := [(0, [true], (1, .aload_n 0, 0, 0) :: (3, .getfield 10, 10, 0) :: (3, .getfield 133, 3, 13) :: (3, .ifCond .ne (11), 0, 0) :: (8, .athrow, 0, 0) :: []),
  (18, [true], (1, .aload_n 0, 0, 0) :: (3, .getfield 21, 10, 1) :: (3, .invokevirtual 140, 25, 4) :: mt_Latticefit_map_25),
  (56, [true], (1, .aload_n 0, 0, 0) :: (3, .getfield 37, 10, 3) :: (3, .invokevirtual 153, 39, 6) :: mt_Latticefit_map_63)]
def mt_Cuts_findAll_43 : List ma_AI := (1, .aload_n 0, 0, 0) :: (3, .getfield 25, 4, 3) :: (1, .iload_n 1, 0, 0) :: (1, .iconst (1), 0, 1) :: (1, .aload_n 0, 0, 0) :: (3, .getfield 18, 4, 1) :: (1, .iload_n 1, 0, 0) :: (1, .aaload, 0, 0) :: (1, .iconst (0), 0, 0) :: (1, .iaload, 0, 0) :: (1, .iadd, 0, 0) :: (1, .iastore, 0, 0) :: []
def mt_Cuts_findAll_35 : List ma_AI := (3, .ifCond .eq (24), 0, 0) :: (1, .aload_n 0, 0, 0) :: (1, .iload_n 1, 0, 0) :: (3, .invokevirtual 42, 26, 4) :: mt_Cuts_findAll_43
def mb_Cuts_findAll : ma_Tb := [(0, [true, false], (1, .iconst (0), 0, 0) :: (1, .istore_n 1, 0, 0) :: []),
  (2, [true, true], (1, .iload_n 1, 0, 0) :: (1, .aload_n 0, 0, 0) :: (3, .getfield 28, 4, 4) :: (3, .getfield 32, 3, 10) :: (3, .if_icmp .ge (100), 0, 0) :: (1, .aload_n 0, 0, 0) :: (3, .getfield 21, 4, 2) :: (1, .iload_n 1, 0, 0) :: (1, .iconst (0), 0, 0) :: (1, .iastore, 0, 0) :: (1, .aload_n 0, 0, 0) :: (3, .getfield 25, 4, 3) :: (1, .iload_n 1, 0, 0) :: (1, .iconst (0), 0, 0) :: (1, .iastore, 0, 0) :: (1, .aload_n 0, 0, 0) :: (3, .getfield 28, 4, 4) :: (1, .iload_n 1, 0, 0) :: (3, .invokevirtual 38, 3, 3) :: mt_Cuts_findAll_35),
  (59, [true, true], (1, .aload_n 0, 0, 0) :: (3, .getfield 11, 4, 0) :: (1, .iload_n 1, 0, 0) :: (1, .aaload, 0, 0) :: (1, .aload_n 0, 0, 0) :: (3, .getfield 21, 4, 2) :: (1, .iload_n 1, 0, 0) :: (1, .iaload, 0, 0) :: (1, .lconst 1, 0, 1) :: (1, .iload_n 1, 0, 0) :: (1, .lshl, 0, 0) :: (1, .lastore, 0, 0) :: (1, .aload_n 0, 0, 0) :: (3, .getfield 18, 4, 1) :: (1, .iload_n 1, 0, 0) :: (1, .aaload, 0, 0) :: (1, .aload_n 0, 0, 0) :: (3, .getfield 21, 4, 2) :: (1, .iload_n 1, 0, 0) :: (1, .iaload, 0, 0) :: (1, .aload_n 0, 0, 0) :: (3, .getfield 25, 4, 3) :: (1, .iload_n 1, 0, 0) :: (1, .iaload, 0, 0) :: (1, .iastore, 0, 0) :: (1, .aload_n 0, 0, 0) :: (3, .getfield 21, 4, 2) :: (1, .iload_n 1, 0, 0) :: (1, .dup2, 0, 0) :: (1, .iaload, 0, 0) :: (1, .iconst (1), 0, 1) :: (1, .iadd, 0, 0) :: (1, .iastore, 0, 0) :: (3, .iinc 1 (1), 0, 0) :: (3, .goto (-105), 0, 0) :: []),
  (110, [false, false], (1, .return_, 0, 0) :: [])]
def mt_Cuts_offerAll_83 : List ma_AI := (3, .goto (68), 0, 0) :: []
def mt_Cuts_offerAll_145 : List ma_AI := (3, .iinc 6 (1), 0, 0) :: (3, .goto (-59), 0, 0) :: []
def mb_Cuts_offerAll : ma_Tb := [(0, [true, true, false, false, false, false, false], (1, .aload_n 0, 0, 0) :: (3, .getfield 28, 4, 4) :: (3, .getfield 46, 3, 1) :: (1, .iload_n 1, 0, 0) :: (1, .iaload, 0, 0) :: (1, .istore_n 2, 0, 0) :: (1, .aload_n 0, 0, 0) :: (3, .getfield 28, 4, 4) :: (3, .getfield 49, 3, 2) :: (1, .iload_n 1, 0, 0) :: (1, .iaload, 0, 0) :: (1, .istore_n 3, 0, 0) :: (1, .aload_n 0, 0, 0) :: (3, .getfield 28, 4, 4) :: (3, .getfield 52, 3, 0) :: (1, .iload_n 1, 0, 0) :: (1, .caload, 0, 0) :: (2, .bipush (110), 0, 110) :: (3, .if_icmp .ne (7), 0, 0) :: (1, .iconst (1), 0, 1) :: (3, .goto (4), 0, 0) :: []),
  (38, [true, true, true, true, false, false, false], (1, .iconst (0), 0, 0) :: []),
  (39, [true, true, true, true, false, false, false], (2, .istore 4, 0, 0) :: (1, .iconst (0), 0, 0) :: (2, .istore 5, 0, 0) :: []),
  (44, [true, true, true, true, true, true, false], (2, .iload 5, 0, 0) :: (1, .aload_n 0, 0, 0) :: (3, .getfield 21, 4, 2) :: (1, .iload_n 2, 0, 0) :: (1, .iaload, 0, 0) :: (3, .if_icmp .ge (105), 0, 0) :: (2, .iload 4, 0, 0) :: (3, .ifCond .eq (29), 0, 0) :: (1, .aload_n 0, 0, 0) :: (1, .iload_n 1, 0, 0) :: (1, .aload_n 0, 0, 0) :: (3, .getfield 11, 4, 0) :: (1, .iload_n 2, 0, 0) :: (1, .aaload, 0, 0) :: (2, .iload 5, 0, 0) :: (1, .laload, 0, 0) :: (1, .aload_n 0, 0, 0) :: (3, .getfield 18, 4, 1) :: (1, .iload_n 2, 0, 0) :: (1, .aaload, 0, 0) :: (2, .iload 5, 0, 0) :: (1, .iaload, 0, 0) :: (3, .invokevirtual 56, 27, 4) :: mt_Cuts_offerAll_83),
  (86, [true, true, true, true, true, true, false], (1, .iconst (0), 0, 0) :: (2, .istore 6, 0, 0) :: []),
  (89, [true, true, true, true, true, true, true], (2, .iload 6, 0, 0) :: (1, .aload_n 0, 0, 0) :: (3, .getfield 21, 4, 2) :: (1, .iload_n 3, 0, 0) :: (1, .iaload, 0, 0) :: (3, .if_icmp .ge (54), 0, 0) :: (1, .aload_n 0, 0, 0) :: (1, .iload_n 1, 0, 0) :: (1, .aload_n 0, 0, 0) :: (3, .getfield 11, 4, 0) :: (1, .iload_n 2, 0, 0) :: (1, .aaload, 0, 0) :: (2, .iload 5, 0, 0) :: (1, .laload, 0, 0) :: (1, .aload_n 0, 0, 0) :: (3, .getfield 11, 4, 0) :: (1, .iload_n 3, 0, 0) :: (1, .aaload, 0, 0) :: (2, .iload 6, 0, 0) :: (1, .laload, 0, 0) :: (1, .lor, 0, 0) :: (1, .aload_n 0, 0, 0) :: (3, .getfield 18, 4, 1) :: (1, .iload_n 2, 0, 0) :: (1, .aaload, 0, 0) :: (2, .iload 5, 0, 0) :: (1, .iaload, 0, 0) :: (1, .aload_n 0, 0, 0) :: (3, .getfield 18, 4, 1) :: (1, .iload_n 3, 0, 0) :: (1, .aaload, 0, 0) :: (2, .iload 6, 0, 0) :: (1, .iaload, 0, 0) :: (3, .invokestatic 60, 10002, 0) :: (3, .invokevirtual 56, 27, 4) :: mt_Cuts_offerAll_145),
  (151, [true, true, true, true, true, true, false], (3, .iinc 5 (1), 0, 0) :: (3, .goto (-110), 0, 0) :: []),
  (157, [false, false, false, false, false, false, false], (1, .return_, 0, 0) :: [])]
def mt_Cuts_offer_4 : List ma_AI := (1, .iconst (4), 0, 4) :: (3, .if_icmp .le (4), 0, 0) :: (1, .return_, 0, 0) :: []
def mt_Cuts_offer_33 : List ma_AI := (3, .ifCond .eq (9), 0, 0) :: (3, .iinc 5 (1), 0, 0) :: (3, .goto (-27), 0, 0) :: []
def mb_Cuts_offer : ma_Tb := [(0, [true, true, true, false, true, false, false, false], (1, .lload_n 2, 0, 0) :: (3, .invokestatic 66, 28, 0) :: mt_Cuts_offer_4),
  (9, [true, true, true, false, true, false, false, false], (1, .iconst (0), 0, 0) :: (2, .istore 5, 0, 0) :: []),
  (12, [true, true, true, false, true, true, false, false], (2, .iload 5, 0, 0) :: (1, .aload_n 0, 0, 0) :: (3, .getfield 21, 4, 2) :: (1, .iload_n 1, 0, 0) :: (1, .iaload, 0, 0) :: (3, .if_icmp .ge (22), 0, 0) :: (1, .aload_n 0, 0, 0) :: (1, .iload_n 1, 0, 0) :: (2, .iload 5, 0, 0) :: (1, .lload_n 2, 0, 0) :: (2, .iload 4, 0, 0) :: (3, .invokevirtual 72, 29, 4) :: mt_Cuts_offer_33),
  (42, [true, true, true, false, true, true, false, false], (2, .iload 5, 0, 0) :: (1, .aload_n 0, 0, 0) :: (3, .getfield 21, 4, 2) :: (1, .iload_n 1, 0, 0) :: (1, .iaload, 0, 0) :: (3, .if_icmp .ge (21), 0, 0) :: (1, .aload_n 0, 0, 0) :: (3, .getfield 11, 4, 0) :: (1, .iload_n 1, 0, 0) :: (1, .aaload, 0, 0) :: (2, .iload 5, 0, 0) :: (1, .laload, 0, 0) :: (1, .lload_n 2, 0, 0) :: (1, .lcmp, 0, 0) :: (3, .ifCond .ne (7), 0, 0) :: (1, .iconst (1), 0, 1) :: (3, .goto (4), 0, 0) :: []),
  (71, [true, true, true, false, true, true, false, false], (1, .iconst (0), 0, 0) :: []),
  (72, [true, true, true, false, true, true, false, false], (2, .istore 6, 0, 0) :: (2, .iload 6, 0, 0) :: (3, .ifCond .ne (10), 0, 0) :: (2, .iload 5, 0, 0) :: (2, .bipush (6), 0, 6) :: (3, .if_icmp .lt (4), 0, 0) :: []),
  (86, [false, false, false, false, false, false, false, false], (1, .return_, 0, 0) :: []),
  (87, [true, true, true, false, true, true, false, false], (1, .aload_n 0, 0, 0) :: (3, .getfield 21, 4, 2) :: (1, .iload_n 1, 0, 0) :: (1, .iaload, 0, 0) :: (2, .bipush (6), 0, 6) :: (3, .if_icmp .ge (13), 0, 0) :: (1, .aload_n 0, 0, 0) :: (3, .getfield 21, 4, 2) :: (1, .iload_n 1, 0, 0) :: (1, .dup2, 0, 0) :: (1, .iaload, 0, 0) :: (1, .iconst (1), 0, 1) :: (1, .iadd, 0, 0) :: (1, .iastore, 0, 0) :: []),
  (108, [true, true, true, false, true, true, false, false], (1, .aload_n 0, 0, 0) :: (3, .getfield 21, 4, 2) :: (1, .iload_n 1, 0, 0) :: (1, .iaload, 0, 0) :: (1, .iconst (1), 0, 1) :: (1, .isub, 0, 0) :: (2, .istore 7, 0, 0) :: []),
  (118, [true, true, true, false, true, true, false, true], (2, .iload 7, 0, 0) :: (2, .iload 5, 0, 0) :: (3, .if_icmp .le (49), 0, 0) :: (1, .aload_n 0, 0, 0) :: (3, .getfield 11, 4, 0) :: (1, .iload_n 1, 0, 0) :: (1, .aaload, 0, 0) :: (2, .iload 7, 0, 0) :: (1, .aload_n 0, 0, 0) :: (3, .getfield 11, 4, 0) :: (1, .iload_n 1, 0, 0) :: (1, .aaload, 0, 0) :: (2, .iload 7, 0, 0) :: (1, .iconst (1), 0, 1) :: (1, .isub, 0, 0) :: (1, .laload, 0, 0) :: (1, .lastore, 0, 0) :: (1, .aload_n 0, 0, 0) :: (3, .getfield 18, 4, 1) :: (1, .iload_n 1, 0, 0) :: (1, .aaload, 0, 0) :: (2, .iload 7, 0, 0) :: (1, .aload_n 0, 0, 0) :: (3, .getfield 18, 4, 1) :: (1, .iload_n 1, 0, 0) :: (1, .aaload, 0, 0) :: (2, .iload 7, 0, 0) :: (1, .iconst (1), 0, 1) :: (1, .isub, 0, 0) :: (1, .iaload, 0, 0) :: (1, .iastore, 0, 0) :: (3, .iinc 7 (-1), 0, 0) :: (3, .goto (-50), 0, 0) :: []),
  (171, [true, true, true, false, true, true, false, false], (1, .aload_n 0, 0, 0) :: (3, .getfield 11, 4, 0) :: (1, .iload_n 1, 0, 0) :: (1, .aaload, 0, 0) :: (2, .iload 5, 0, 0) :: (1, .lload_n 2, 0, 0) :: (1, .lastore, 0, 0) :: (1, .aload_n 0, 0, 0) :: (3, .getfield 18, 4, 1) :: (1, .iload_n 1, 0, 0) :: (1, .aaload, 0, 0) :: (2, .iload 5, 0, 0) :: (2, .iload 4, 0, 0) :: (1, .iastore, 0, 0) :: (1, .return_, 0, 0) :: [])]
def mb_Long_bitCount : ma_Tb := [(0, [true, false], (1, .lload_n 0, 0, 0) :: (1, .lload_n 0, 0, 0) :: (1, .iconst (1), 0, 1) :: (1, .lushr, 0, 0) :: (3, .ldc2_w 314, 0, 6148914691236517205) :: (1, .land, 0, 0) :: (1, .lsub, 0, 0) :: (1, .lstore_n 0, 0, 0) :: (1, .lload_n 0, 0, 0) :: (3, .ldc2_w 316, 0, 3689348814741910323) :: (1, .land, 0, 0) :: (1, .lload_n 0, 0, 0) :: (1, .iconst (2), 0, 2) :: (1, .lushr, 0, 0) :: (3, .ldc2_w 316, 0, 3689348814741910323) :: (1, .land, 0, 0) :: (1, .ladd, 0, 0) :: (1, .lstore_n 0, 0, 0) :: (1, .lload_n 0, 0, 0) :: (1, .lload_n 0, 0, 0) :: (1, .iconst (4), 0, 4) :: (1, .lushr, 0, 0) :: (1, .ladd, 0, 0) :: (3, .ldc2_w 318, 0, 1085102592571150095) :: (1, .land, 0, 0) :: (1, .lstore_n 0, 0, 0) :: (1, .lload_n 0, 0, 0) :: (1, .lload_n 0, 0, 0) :: (2, .bipush (8), 0, 8) :: (1, .lushr, 0, 0) :: (1, .ladd, 0, 0) :: (1, .lstore_n 0, 0, 0) :: (1, .lload_n 0, 0, 0) :: (1, .lload_n 0, 0, 0) :: (2, .bipush (16), 0, 16) :: (1, .lushr, 0, 0) :: (1, .ladd, 0, 0) :: (1, .lstore_n 0, 0, 0) :: (1, .lload_n 0, 0, 0) :: (1, .lload_n 0, 0, 0) :: (2, .bipush (32), 0, 32) :: (1, .lushr, 0, 0) :: (1, .ladd, 0, 0) :: (1, .lstore_n 0, 0, 0) :: (1, .lload_n 0, 0, 0) :: (1, .l2i, 0, 0) :: (2, .bipush (127), 0, 127) :: (1, .iand, 0, 0) :: (1, .ireturn, 0, 0) :: [])]
def mt_Cuts_isBehind_49 : List ma_AI := (2, .istore 7, 0, 0) :: (2, .iload 6, 0, 0) :: (2, .iload 7, 0, 0) :: (3, .if_icmp .eq (16), 0, 0) :: (2, .iload 6, 0, 0) :: (2, .iload 7, 0, 0) :: (3, .if_icmp .ge (7), 0, 0) :: (1, .iconst (1), 0, 1) :: (3, .goto (4), 0, 0) :: []
def mt_Cuts_isBehind_43 : List ma_AI := (2, .istore 6, 0, 0) :: (1, .lload_n 3, 0, 0) :: (3, .invokestatic 66, 28, 0) :: mt_Cuts_isBehind_49
def mb_Cuts_isBehind : ma_Tb := [(0, [true, true, true, true, false, true, false, false], (1, .aload_n 0, 0, 0) :: (3, .getfield 18, 4, 1) :: (1, .iload_n 1, 0, 0) :: (1, .aaload, 0, 0) :: (1, .iload_n 2, 0, 0) :: (1, .iaload, 0, 0) :: (2, .iload 5, 0, 0) :: (3, .if_icmp .eq (22), 0, 0) :: (1, .aload_n 0, 0, 0) :: (3, .getfield 18, 4, 1) :: (1, .iload_n 1, 0, 0) :: (1, .aaload, 0, 0) :: (1, .iload_n 2, 0, 0) :: (1, .iaload, 0, 0) :: (2, .iload 5, 0, 0) :: (3, .if_icmp .ge (7), 0, 0) :: (1, .iconst (1), 0, 1) :: (3, .goto (4), 0, 0) :: []),
  (30, [false, false, false, false, false, false, false, false], (1, .iconst (0), 0, 0) :: []),
  (31, [false, false, false, false, false, false, false, false], (1, .ireturn, 0, 0) :: []),
  (32, [true, true, true, true, false, false, false, false], (1, .aload_n 0, 0, 0) :: (3, .getfield 11, 4, 0) :: (1, .iload_n 1, 0, 0) :: (1, .aaload, 0, 0) :: (1, .iload_n 2, 0, 0) :: (1, .laload, 0, 0) :: (3, .invokestatic 66, 28, 0) :: mt_Cuts_isBehind_43),
  (69, [false, false, false, false, false, false, false, false], (1, .iconst (0), 0, 0) :: []),
  (70, [false, false, false, false, false, false, false, false], (1, .ireturn, 0, 0) :: []),
  (71, [true, true, true, true, false, false, false, false], (1, .aload_n 0, 0, 0) :: (3, .getfield 11, 4, 0) :: (1, .iload_n 1, 0, 0) :: (1, .aaload, 0, 0) :: (1, .iload_n 2, 0, 0) :: (1, .laload, 0, 0) :: (1, .lload_n 3, 0, 0) :: (1, .lcmp, 0, 0) :: (3, .ifCond .ge (7), 0, 0) :: (1, .iconst (1), 0, 1) :: (3, .goto (4), 0, 0) :: []),
  (88, [false, false, false, false, false, false, false, false], (1, .iconst (0), 0, 0) :: []),
  (89, [false, false, false, false, false, false, false, false], (1, .ireturn, 0, 0) :: [])]
def mt_Blocks_pack_18 : List ma_AI := (1, .iconst (0), 0, 0) :: (1, .istore_n 2, 0, 0) :: []
def mt_Blocks_pack_5 : List ma_AI := (1, .aload_n 0, 0, 0) :: (1, .iconst (0), 0, 0) :: (3, .putfield 47, 0, 7) :: (1, .aload_n 0, 0, 0) :: (3, .getfield 29, 0, 5) :: (1, .iconst (-1), 0, (-1)) :: (3, .invokestatic 51, 35, 0) :: mt_Blocks_pack_18
def mt_Blocks_pack_45 : List ma_AI := (3, .iinc 2 (1), 0, 0) :: (3, .goto (-28), 0, 0) :: []
def mt_Blocks_pack_92 : List ma_AI := (1, .aload_n 0, 0, 0) :: (3, .getfield 15, 0, 1) :: (1, .aload_n 0, 0, 0) :: (3, .getfield 47, 0, 7) :: (1, .iconst (-1), 0, (-1)) :: (1, .iastore, 0, 0) :: (1, .aload_n 0, 0, 0) :: (1, .dup, 0, 0) :: (3, .getfield 47, 0, 7) :: (1, .iconst (1), 0, 1) :: (1, .iadd, 0, 0) :: (3, .putfield 47, 0, 7) :: []
def mt_Blocks_pack_89 : List ma_AI := (3, .invokevirtual 78, 37, 0) :: mt_Blocks_pack_92
def mb_Blocks_pack : ma_Tb := [(0, [true, true, false], (1, .aload_n 0, 0, 0) :: (1, .aload_n 1, 0, 0) :: (3, .invokevirtual 43, 31, 0) :: mt_Blocks_pack_5),
  (20, [true, true, true], (1, .iload_n 2, 0, 0) :: (1, .aload_n 0, 0, 0) :: (3, .getfield 39, 0, 9) :: (3, .getfield 57, 3, 12) :: (3, .if_icmp .ge (23), 0, 0) :: (1, .aload_n 0, 0, 0) :: (1, .aload_n 0, 0, 0) :: (3, .getfield 39, 0, 9) :: (3, .getfield 62, 3, 8) :: (1, .iload_n 2, 0, 0) :: (1, .iaload, 0, 0) :: (1, .aload_n 1, 0, 0) :: (3, .invokevirtual 65, 36, 0) :: mt_Blocks_pack_45),
  (51, [true, true, false], (1, .iconst (0), 0, 0) :: (1, .istore_n 2, 0, 0) :: []),
  (53, [true, true, true], (1, .iload_n 2, 0, 0) :: (1, .aload_n 0, 0, 0) :: (3, .getfield 39, 0, 9) :: (3, .getfield 69, 3, 10) :: (3, .if_icmp .ge (57), 0, 0) :: (1, .aload_n 0, 0, 0) :: (3, .getfield 32, 0, 6) :: (1, .iload_n 2, 0, 0) :: (1, .baload, 0, 0) :: (3, .ifCond .eq (42), 0, 0) :: (1, .aload_n 0, 0, 0) :: (3, .getfield 29, 0, 5) :: (1, .iload_n 2, 0, 0) :: (1, .iaload, 0, 0) :: (3, .ifCond .ge (33), 0, 0) :: (1, .aload_n 0, 0, 0) :: (1, .iload_n 2, 0, 0) :: (1, .aload_n 1, 0, 0) :: (1, .iload_n 2, 0, 0) :: (3, .invokevirtual 72, 32, 4) :: mt_Blocks_pack_89),
  (112, [true, true, true], (3, .iinc 2 (1), 0, 0) :: (3, .goto (-62), 0, 0) :: []),
  (118, [false, false, false], (1, .return_, 0, 0) :: [])]
def mt_Blocks_markNeeded_63 : List ma_AI := (1, .bastore, 0, 0) :: (3, .iinc 2 (1), 0, 0) :: (3, .goto (-44), 0, 0) :: []
def mt_Blocks_markNeeded_114 : List ma_AI := (1, .bastore, 0, 0) :: (3, .iinc 2 (1), 0, 0) :: (3, .goto (-46), 0, 0) :: []
def mt_Blocks_markNeeded_150 : List ma_AI := (1, .iload_n 2, 0, 0) :: (3, .invokevirtual 95, 33, 0) :: []
def mb_Blocks_markNeeded : ma_Tb := [(0, [true, true, false, false], (1, .iconst (0), 0, 0) :: (1, .istore_n 2, 0, 0) :: []),
  (2, [true, true, true, false], (1, .iload_n 2, 0, 0) :: (2, .bipush (48), 0, 48) :: (3, .if_icmp .ge (16), 0, 0) :: (1, .aload_n 0, 0, 0) :: (3, .getfield 32, 0, 6) :: (1, .iload_n 2, 0, 0) :: (1, .iconst (0), 0, 0) :: (1, .bastore, 0, 0) :: (3, .iinc 2 (1), 0, 0) :: (3, .goto (-16), 0, 0) :: []),
  (21, [true, true, false, false], (1, .iconst (0), 0, 0) :: (1, .istore_n 2, 0, 0) :: []),
  (23, [true, true, true, false], (1, .iload_n 2, 0, 0) :: (1, .aload_n 0, 0, 0) :: (3, .getfield 39, 0, 9) :: (3, .getfield 82, 3, 13) :: (3, .if_icmp .ge (39), 0, 0) :: (1, .aload_n 0, 0, 0) :: (3, .getfield 32, 0, 6) :: (1, .aload_n 0, 0, 0) :: (3, .getfield 39, 0, 9) :: (3, .getfield 85, 3, 9) :: (1, .iload_n 2, 0, 0) :: (1, .iaload, 0, 0) :: (1, .aload_n 0, 0, 0) :: (3, .getfield 39, 0, 9) :: (1, .aload_n 0, 0, 0) :: (3, .getfield 39, 0, 9) :: (3, .getfield 85, 3, 9) :: (1, .iload_n 2, 0, 0) :: (1, .iaload, 0, 0) :: (3, .invokevirtual 88, 3, 3) :: mt_Blocks_markNeeded_63),
  (70, [true, true, false, false], (1, .iconst (0), 0, 0) :: (1, .istore_n 2, 0, 0) :: []),
  (72, [true, true, true, false], (1, .iload_n 2, 0, 0) :: (1, .aload_n 0, 0, 0) :: (3, .getfield 39, 0, 9) :: (3, .getfield 57, 3, 12) :: (3, .if_icmp .ge (41), 0, 0) :: (1, .aload_n 0, 0, 0) :: (3, .getfield 39, 0, 9) :: (3, .getfield 92, 3, 3) :: (1, .aload_n 0, 0, 0) :: (3, .getfield 39, 0, 9) :: (3, .getfield 62, 3, 8) :: (1, .iload_n 2, 0, 0) :: (1, .iaload, 0, 0) :: (1, .iaload, 0, 0) :: (1, .istore_n 3, 0, 0) :: (1, .aload_n 0, 0, 0) :: (3, .getfield 32, 0, 6) :: (1, .iload_n 3, 0, 0) :: (1, .aload_n 0, 0, 0) :: (3, .getfield 39, 0, 9) :: (1, .iload_n 3, 0, 0) :: (3, .invokevirtual 88, 3, 3) :: mt_Blocks_markNeeded_114),
  (121, [true, true, false, false], (1, .aload_n 0, 0, 0) :: (3, .getfield 39, 0, 9) :: (3, .getfield 69, 3, 10) :: (1, .iconst (1), 0, 1) :: (1, .isub, 0, 0) :: (1, .istore_n 2, 0, 0) :: []),
  (131, [true, true, true, false], (1, .iload_n 2, 0, 0) :: (3, .ifCond .lt (28), 0, 0) :: (1, .aload_n 0, 0, 0) :: (3, .getfield 32, 0, 6) :: (1, .iload_n 2, 0, 0) :: (1, .baload, 0, 0) :: (3, .ifCond .eq (13), 0, 0) :: (1, .aload_n 0, 0, 0) :: (1, .aload_n 1, 0, 0) :: (1, .iload_n 2, 0, 0) :: (3, .invokevirtual 72, 32, 4) :: mt_Blocks_markNeeded_150),
  (154, [true, true, true, false], (3, .iinc 2 (-1), 0, 0) :: (3, .goto (-26), 0, 0) :: []),
  (160, [false, false, false, false], (1, .return_, 0, 0) :: [])]
def mb_Cuts_own : ma_Tb := [(0, [true, true], (1, .aload_n 0, 0, 0) :: (3, .getfield 11, 4, 0) :: (1, .iload_n 1, 0, 0) :: (1, .aaload, 0, 0) :: (1, .iconst (0), 0, 0) :: (1, .laload, 0, 0) :: (1, .lreturn, 0, 0) :: [])]
def mt_Blocks_markCut_27 : List ma_AI := (3, .ifCond .eq (11), 0, 0) :: (1, .aload_n 0, 0, 0) :: (3, .getfield 32, 0, 6) :: (2, .iload 4, 0, 0) :: (1, .iconst (1), 0, 1) :: (1, .bastore, 0, 0) :: []
def mt_Blocks_markCut_15 : List ma_AI := (3, .ifCond .eq (23), 0, 0) :: (1, .aload_n 0, 0, 0) :: (3, .getfield 39, 0, 9) :: (2, .iload 4, 0, 0) :: (3, .invokevirtual 88, 3, 3) :: mt_Blocks_markCut_27
def mb_Blocks_markCut : ma_Tb := [(0, [true, true, false, true, false], (1, .iconst (0), 0, 0) :: (2, .istore 4, 0, 0) :: []),
  (3, [true, true, false, true, true], (2, .iload 4, 0, 0) :: (1, .iload_n 3, 0, 0) :: (3, .if_icmp .ge (38), 0, 0) :: (1, .lload_n 1, 0, 0) :: (2, .iload 4, 0, 0) :: (3, .invokestatic 99, 34, 0) :: mt_Blocks_markCut_15),
  (38, [true, true, false, true, true], (3, .iinc 4 (1), 0, 0) :: (3, .goto (-38), 0, 0) :: []),
  (44, [false, false, false, false, false], (1, .return_, 0, 0) :: [])]
def mb_Blocks_isIn : ma_Tb := [(0, [true, false, true], (1, .lload_n 0, 0, 0) :: (1, .iload_n 2, 0, 0) :: (1, .lshr, 0, 0) :: (1, .lconst 1, 0, 1) :: (1, .land, 0, 0) :: (1, .lconst 0, 0, 0) :: (1, .lcmp, 0, 0) :: (3, .ifCond .eq (7), 0, 0) :: (1, .iconst (1), 0, 1) :: (3, .goto (4), 0, 0) :: []),
  (14, [false, false, false], (1, .iconst (0), 0, 0) :: []),
  (15, [false, false, false], (1, .ireturn, 0, 0) :: [])]
def mb_Arrays_fill_AIIV : ma_Tb := [(0, [true, true, false, false], (1, .iconst (0), 0, 0) :: (1, .istore_n 2, 0, 0) :: (1, .aload_n 0, 0, 0) :: (1, .arraylength, 0, 0) :: (1, .istore_n 3, 0, 0) :: []),
  (5, [true, true, true, true], (1, .iload_n 2, 0, 0) :: (1, .iload_n 3, 0, 0) :: (3, .if_icmp .ge (13), 0, 0) :: (1, .aload_n 0, 0, 0) :: (1, .iload_n 2, 0, 0) :: (1, .iload_n 1, 0, 0) :: (1, .iastore, 0, 0) :: (3, .iinc 2 (1), 0, 0) :: (3, .goto (-12), 0, 0) :: []),
  (20, [false, false, false, false], (1, .return_, 0, 0) :: [])]
def mt_Blocks_putRegister_58 : List ma_AI := (3, .goto (49), 0, 0) :: []
def mt_Blocks_putRegister_55 : List ma_AI := (3, .invokevirtual 78, 37, 0) :: mt_Blocks_putRegister_58
def mb_Blocks_putRegister : ma_Tb := [(0, [true, true, true, false], (1, .aload_n 0, 0, 0) :: (3, .getfield 39, 0, 9) :: (3, .getfield 92, 3, 3) :: (1, .iload_n 1, 0, 0) :: (1, .iaload, 0, 0) :: (1, .istore_n 3, 0, 0) :: (1, .aload_n 0, 0, 0) :: (3, .getfield 15, 0, 1) :: (1, .aload_n 0, 0, 0) :: (3, .getfield 47, 0, 7) :: (1, .iload_n 1, 0, 0) :: (1, .iastore, 0, 0) :: (1, .aload_n 0, 0, 0) :: (3, .getfield 29, 0, 5) :: (1, .iload_n 1, 0, 0) :: (1, .aload_n 0, 0, 0) :: (3, .getfield 47, 0, 7) :: (1, .iastore, 0, 0) :: (1, .aload_n 0, 0, 0) :: (3, .getfield 32, 0, 6) :: (1, .iload_n 3, 0, 0) :: (1, .baload, 0, 0) :: (3, .ifCond .eq (25), 0, 0) :: (1, .aload_n 0, 0, 0) :: (3, .getfield 29, 0, 5) :: (1, .iload_n 3, 0, 0) :: (1, .iaload, 0, 0) :: (3, .ifCond .ge (16), 0, 0) :: (1, .aload_n 0, 0, 0) :: (1, .iload_n 3, 0, 0) :: (1, .aload_n 2, 0, 0) :: (1, .iload_n 3, 0, 0) :: (3, .invokevirtual 72, 32, 4) :: mt_Blocks_putRegister_55),
  (61, [true, false, false, true], (1, .aload_n 0, 0, 0) :: (3, .getfield 9, 0, 0) :: (1, .aload_n 0, 0, 0) :: (3, .getfield 47, 0, 7) :: (1, .iconst (-1), 0, (-1)) :: (1, .iastore, 0, 0) :: (1, .aload_n 0, 0, 0) :: (3, .getfield 18, 0, 2) :: (1, .aload_n 0, 0, 0) :: (3, .getfield 47, 0, 7) :: (3, .getstatic 103, 0, 0) :: (1, .iconst (0), 0, 0) :: (1, .iaload, 0, 0) :: (1, .iastore, 0, 0) :: (1, .aload_n 0, 0, 0) :: (3, .getfield 21, 0, 3) :: (1, .aload_n 0, 0, 0) :: (3, .getfield 47, 0, 7) :: (1, .iconst (1), 0, 1) :: (1, .iastore, 0, 0) :: (1, .aload_n 0, 0, 0) :: (3, .getfield 26, 0, 4) :: (1, .aload_n 0, 0, 0) :: (3, .getfield 47, 0, 7) :: (1, .aaload, 0, 0) :: (1, .iconst (0), 0, 0) :: (1, .iload_n 3, 0, 0) :: (1, .iastore, 0, 0) :: []),
  (107, [true, false, false, false], (1, .aload_n 0, 0, 0) :: (1, .dup, 0, 0) :: (3, .getfield 47, 0, 7) :: (1, .iconst (1), 0, 1) :: (1, .iadd, 0, 0) :: (3, .putfield 47, 0, 7) :: (1, .return_, 0, 0) :: [])]
def mt_Blocks_putGate_18 : List ma_AI := (3, .ifCond .eq (42), 0, 0) :: (2, .iload 4, 0, 0) :: (1, .iconst (4), 0, 4) :: (3, .if_icmp .ge (36), 0, 0) :: (1, .aload_n 0, 0, 0) :: (3, .getfield 36, 0, 8) :: (2, .iload 5, 0, 0) :: (3, .getstatic 103, 0, 0) :: (2, .iload 4, 0, 0) :: (1, .iaload, 0, 0) :: (1, .iastore, 0, 0) :: (1, .aload_n 0, 0, 0) :: (3, .getfield 26, 0, 4) :: (1, .aload_n 0, 0, 0) :: (3, .getfield 47, 0, 7) :: (1, .aaload, 0, 0) :: (2, .iload 4, 0, 0) :: (2, .iload 5, 0, 0) :: (1, .iastore, 0, 0) :: (3, .iinc 4 (1), 0, 0) :: (3, .goto (39), 0, 0) :: []
def mt_Blocks_putGate_91 : List ma_AI := (3, .goto (4), 0, 0) :: []
def mt_Blocks_putGate_75 : List ma_AI := (3, .ifCond .eq (19), 0, 0) :: (1, .aload_n 0, 0, 0) :: (3, .getfield 39, 0, 9) :: (2, .iload 5, 0, 0) :: (1, .aload_n 0, 0, 0) :: (3, .getfield 36, 0, 8) :: (3, .invokevirtual 106, 38, 3) :: mt_Blocks_putGate_91
def mb_Blocks_putGate : ma_Tb := [(0, [true, true, true, false, false, false], (1, .iconst (0), 0, 0) :: (2, .istore 4, 0, 0) :: (1, .iconst (0), 0, 0) :: (2, .istore 5, 0, 0) :: []),
  (6, [true, true, true, false, true, true], (2, .iload 5, 0, 0) :: (1, .iload_n 1, 0, 0) :: (3, .if_icmp .gt (93), 0, 0) :: (1, .lload_n 2, 0, 0) :: (2, .iload 5, 0, 0) :: (3, .invokestatic 99, 34, 0) :: mt_Blocks_putGate_18),
  (60, [true, true, true, false, true, true], (1, .aload_n 0, 0, 0) :: (3, .getfield 36, 0, 8) :: (2, .iload 5, 0, 0) :: (1, .aload_n 0, 0, 0) :: (3, .getfield 39, 0, 9) :: (2, .iload 5, 0, 0) :: (3, .invokevirtual 88, 3, 3) :: mt_Blocks_putGate_75),
  (94, [true, true, true, false, true, true], (1, .iconst (0), 0, 0) :: []),
  (95, [true, true, true, false, true, true], (1, .iastore, 0, 0) :: []),
  (96, [true, true, true, false, true, true], (3, .iinc 5 (1), 0, 0) :: (3, .goto (-93), 0, 0) :: []),
  (102, [true, true, false, false, true, false], (1, .aload_n 0, 0, 0) :: (3, .getfield 9, 0, 0) :: (1, .aload_n 0, 0, 0) :: (3, .getfield 47, 0, 7) :: (1, .iload_n 1, 0, 0) :: (1, .iastore, 0, 0) :: (1, .aload_n 0, 0, 0) :: (3, .getfield 18, 0, 2) :: (1, .aload_n 0, 0, 0) :: (3, .getfield 47, 0, 7) :: (1, .aload_n 0, 0, 0) :: (3, .getfield 36, 0, 8) :: (1, .iload_n 1, 0, 0) :: (1, .iaload, 0, 0) :: (1, .iastore, 0, 0) :: (1, .aload_n 0, 0, 0) :: (3, .getfield 21, 0, 3) :: (1, .aload_n 0, 0, 0) :: (3, .getfield 47, 0, 7) :: (2, .iload 4, 0, 0) :: (1, .iastore, 0, 0) :: (1, .aload_n 0, 0, 0) :: (3, .getfield 29, 0, 5) :: (1, .iload_n 1, 0, 0) :: (1, .aload_n 0, 0, 0) :: (3, .getfield 47, 0, 7) :: (1, .iastore, 0, 0) :: (1, .return_, 0, 0) :: [])]
def mb_Circuit_joined : ma_Tb := [(0, [true, true, true, false, false, false], (1, .aload_n 2, 0, 0) :: (1, .aload_n 0, 0, 0) :: (3, .getfield 15, 3, 1) :: (1, .iload_n 1, 0, 0) :: (1, .iaload, 0, 0) :: (1, .iaload, 0, 0) :: (1, .istore_n 3, 0, 0) :: (1, .aload_n 2, 0, 0) :: (1, .aload_n 0, 0, 0) :: (3, .getfield 19, 3, 2) :: (1, .iload_n 1, 0, 0) :: (1, .iaload, 0, 0) :: (1, .iaload, 0, 0) :: (2, .istore 4, 0, 0) :: (1, .aload_n 0, 0, 0) :: (3, .getfield 9, 3, 0) :: (1, .iload_n 1, 0, 0) :: (1, .caload, 0, 0) :: (2, .istore 5, 0, 0) :: (2, .iload 5, 0, 0) :: (2, .bipush (97), 0, 97) :: (3, .if_icmp .ne (8), 0, 0) :: (1, .iload_n 3, 0, 0) :: (2, .iload 4, 0, 0) :: (1, .iand, 0, 0) :: (1, .ireturn, 0, 0) :: []),
  (39, [false, false, false, true, true, true], (2, .iload 5, 0, 0) :: (2, .bipush (111), 0, 111) :: (3, .if_icmp .ne (8), 0, 0) :: (1, .iload_n 3, 0, 0) :: (2, .iload 4, 0, 0) :: (1, .ior, 0, 0) :: (1, .ireturn, 0, 0) :: []),
  (51, [false, false, false, true, true, true], (2, .iload 5, 0, 0) :: (2, .bipush (120), 0, 120) :: (3, .if_icmp .ne (8), 0, 0) :: (1, .iload_n 3, 0, 0) :: (2, .iload 4, 0, 0) :: (1, .ixor, 0, 0) :: (1, .ireturn, 0, 0) :: []),
  (63, [false, false, false, true, false, false], (1, .iload_n 3, 0, 0) :: (1, .iconst (-1), 0, (-1)) :: (1, .ixor, 0, 0) :: (2, .ldc 56, 0, 65535) :: (1, .iand, 0, 0) :: (1, .ireturn, 0, 0) :: [])]
def mt_Places_putAnew_8 : List ma_AI := (1, .iconst (0), 0, 0) :: (1, .istore_n 1, 0, 0) :: []
def mb_Places_putAnew : ma_Tb := [(0, [true, false], (1, .aload_n 0, 0, 0) :: (3, .getfield 15, 6, 1) :: (1, .iconst (-1), 0, (-1)) :: (3, .invokestatic 45, 35, 0) :: mt_Places_putAnew_8),
  (10, [true, true], (1, .iload_n 1, 0, 0) :: (1, .aload_n 0, 0, 0) :: (3, .getfield 41, 6, 9) :: (3, .getfield 51, 0, 7) :: (3, .if_icmp .ge (36), 0, 0) :: (1, .iload_n 1, 0, 0) :: (2, .bipush (36), 0, 36) :: (3, .if_icmp .ge (30), 0, 0) :: (1, .aload_n 0, 0, 0) :: (3, .getfield 9, 6, 0) :: (1, .iload_n 1, 0, 0) :: (1, .iload_n 1, 0, 0) :: (1, .iastore, 0, 0) :: (1, .aload_n 0, 0, 0) :: (3, .getfield 15, 6, 1) :: (1, .iload_n 1, 0, 0) :: (1, .iload_n 1, 0, 0) :: (1, .iastore, 0, 0) :: (1, .aload_n 0, 0, 0) :: (3, .getfield 18, 6, 2) :: (1, .iload_n 1, 0, 0) :: (1, .iconst (0), 0, 0) :: (1, .bastore, 0, 0) :: (3, .iinc 1 (1), 0, 0) :: (3, .goto (-41), 0, 0) :: []),
  (54, [false, false], (1, .return_, 0, 0) :: [])]
def mt_Routes_clear_18 : List ma_AI := (3, .iinc 1 (1), 0, 0) :: (3, .goto (-19), 0, 0) :: []
def mt_Routes_clear_48 : List ma_AI := (1, .return_, 0, 0) :: []
def mt_Routes_clear_40 : List ma_AI := (1, .aload_n 0, 0, 0) :: (3, .getfield 23, 7, 3) :: (1, .lconst 0, 0, 0) :: (3, .invokestatic 53, 41, 0) :: mt_Routes_clear_48
def mt_Routes_clear_32 : List ma_AI := (1, .aload_n 0, 0, 0) :: (3, .getfield 27, 7, 4) :: (1, .iconst (0), 0, 0) :: (3, .invokestatic 47, 35, 0) :: mt_Routes_clear_40
def mb_Routes_clear : ma_Tb := [(0, [true, false], (1, .iconst (0), 0, 0) :: (1, .istore_n 1, 0, 0) :: []),
  (2, [true, true], (1, .iload_n 1, 0, 0) :: (2, .bipush (48), 0, 48) :: (3, .if_icmp .ge (19), 0, 0) :: (1, .aload_n 0, 0, 0) :: (3, .getfield 11, 7, 0) :: (1, .iload_n 1, 0, 0) :: (1, .aaload, 0, 0) :: (1, .iconst (-1), 0, (-1)) :: (3, .invokestatic 47, 35, 0) :: mt_Routes_clear_18),
  (24, [true, false], (1, .aload_n 0, 0, 0) :: (3, .getfield 20, 7, 2) :: (1, .iconst (0), 0, 0) :: (3, .invokestatic 47, 35, 0) :: mt_Routes_clear_32)]
def mb_Arrays_fill_AJJV : ma_Tb := [(0, [true, true, false, false, false], (1, .iconst (0), 0, 0) :: (1, .istore_n 3, 0, 0) :: (1, .aload_n 0, 0, 0) :: (1, .arraylength, 0, 0) :: (2, .istore 4, 0, 0) :: []),
  (6, [true, true, false, true, true], (1, .iload_n 3, 0, 0) :: (2, .iload 4, 0, 0) :: (3, .if_icmp .ge (13), 0, 0) :: (1, .aload_n 0, 0, 0) :: (1, .iload_n 3, 0, 0) :: (1, .lload_n 1, 0, 0) :: (1, .lastore, 0, 0) :: (3, .iinc 3 (1), 0, 0) :: (3, .goto (-13), 0, 0) :: []),
  (22, [false, false, false, false, false], (1, .return_, 0, 0) :: [])]
def mt_LatticefitLaw_depth_7 : List ma_AI := (1, .i2l, 0, 0) :: (1, .lastore, 0, 0) :: (3, .goto (9), 0, 0) :: []
def mb_LatticefitLaw_depth : ma_Tb := [(0, [true, true, true, false], (1, .aload_n 2, 0, 0) :: (1, .iconst (0), 0, 0) :: (1, .aload_n 0, 0, 0) :: (1, .iload_n 1, 0, 0) :: (3, .invokevirtual 44, 43, 10) :: mt_LatticefitLaw_depth_7),
  (12, [false, false, false, false], (1, .astore_n 3, 0, 0) :: (1, .iconst (1), 0, 1) :: (1, .ireturn, 0, 0) :: []),
  (15, [false, false, false, false], (1, .astore_n 3, 0, 0) :: (1, .iconst (2), 0, 2) :: (1, .ireturn, 0, 0) :: []),
  (18, [false, false, false, false], (1, .iconst (0), 0, 0) :: (1, .ireturn, 0, 0) :: [])]
def mt_Latticefit_depth_8 : List ma_AI := (3, .ifCond .ne (11), 0, 0) :: (8, .athrow, 2, 2) :: []
def mb_Latticefit_depth : ma_Tb := [(0, [true, true], (1, .aload_n 0, 0, 0) :: (3, .getfield 10, 10, 0) :: (1, .iload_n 1, 0, 0) :: (3, .invokevirtual 114, 4, 3) :: mt_Latticefit_depth_8),
  (19, [true, true], (1, .aload_n 0, 0, 0) :: (3, .getfield 87, 10, 10) :: (1, .iconst (1), 0, 1) :: (3, .if_icmp .ge (11), 0, 0) :: (8, .athrow, 0, 0) :: []),
  (35, [true, true], (1, .aload_n 0, 0, 0) :: (3, .getfield 21, 10, 1) :: (3, .getfield 159, 4, 3) :: (1, .iload_n 1, 0, 0) :: (1, .iaload, 0, 0) :: (1, .ireturn, 0, 0) :: [])]
def mt_LatticefitLaw_isNeeded_7 : List ma_AI := (3, .ifCond .eq (7), 0, 0) :: (1, .lconst 1, 0, 1) :: (3, .goto (4), 0, 0) :: []
def mb_LatticefitLaw_isNeeded : ma_Tb := [(0, [true, true, true, false], (1, .aload_n 2, 0, 0) :: (1, .iconst (0), 0, 0) :: (1, .aload_n 0, 0, 0) :: (1, .iload_n 1, 0, 0) :: (3, .invokevirtual 47, 45, 10) :: mt_LatticefitLaw_isNeeded_7),
  (14, [false, false, false, false], (1, .lconst 0, 0, 0) :: []),
  (15, [false, false, false, false], (1, .lastore, 0, 0) :: (3, .goto (9), 0, 0) :: []),
  (19, [false, false, false, false], (1, .astore_n 3, 0, 0) :: (1, .iconst (1), 0, 1) :: (1, .ireturn, 0, 0) :: []),
  (22, [false, false, false, false], (1, .astore_n 3, 0, 0) :: (1, .iconst (2), 0, 2) :: (1, .ireturn, 0, 0) :: []),
  (25, [false, false, false, false], (1, .iconst (0), 0, 0) :: (1, .ireturn, 0, 0) :: [])]
def mt_Latticefit_isNeeded_8 : List ma_AI := (3, .ifCond .ne (11), 0, 0) :: (8, .athrow, 2, 2) :: []
def mb_Latticefit_isNeeded : ma_Tb := [(0, [true, true], (1, .aload_n 0, 0, 0) :: (3, .getfield 10, 10, 0) :: (1, .iload_n 1, 0, 0) :: (3, .invokevirtual 114, 4, 3) :: mt_Latticefit_isNeeded_8),
  (19, [true, true], (1, .aload_n 0, 0, 0) :: (3, .getfield 87, 10, 10) :: (1, .iconst (1), 0, 1) :: (3, .if_icmp .ge (11), 0, 0) :: (8, .athrow, 0, 0) :: []),
  (35, [true, true], (1, .aload_n 0, 0, 0) :: (3, .getfield 28, 10, 2) :: (3, .getfield 162, 0, 6) :: (1, .iload_n 1, 0, 0) :: (1, .baload, 0, 0) :: (1, .ireturn, 0, 0) :: [])]
def mt_LatticefitLaw_word_7 : List ma_AI := (1, .i2l, 0, 0) :: (1, .lastore, 0, 0) :: (3, .goto (9), 0, 0) :: []
def mb_LatticefitLaw_word : ma_Tb := [(0, [true, true, true, false], (1, .aload_n 2, 0, 0) :: (1, .iconst (0), 0, 0) :: (1, .aload_n 0, 0, 0) :: (1, .iload_n 1, 0, 0) :: (3, .invokevirtual 51, 47, 10) :: mt_LatticefitLaw_word_7),
  (12, [false, false, false, false], (1, .astore_n 3, 0, 0) :: (1, .iconst (1), 0, 1) :: (1, .ireturn, 0, 0) :: []),
  (15, [false, false, false, false], (1, .astore_n 3, 0, 0) :: (1, .iconst (2), 0, 2) :: (1, .ireturn, 0, 0) :: []),
  (18, [false, false, false, false], (1, .iconst (0), 0, 0) :: (1, .ireturn, 0, 0) :: [])]
def mt_Latticefit_word_5 : List ma_AI := (1, .aload_n 0, 0, 0) :: (3, .getfield 28, 10, 2) :: (3, .getfield 170, 0, 2) :: (1, .iload_n 1, 0, 0) :: (1, .iaload, 0, 0) :: (1, .ireturn, 0, 0) :: []
def mb_Latticefit_word : ma_Tb := [(0, [true, true], (1, .aload_n 0, 0, 0) :: (1, .iload_n 1, 0, 0) :: (3, .invokevirtual 166, 48, 10) :: mt_Latticefit_word_5)]
def mb_Latticefit_needBlock : ma_Tb := [(0, [true, true], (1, .aload_n 0, 0, 0) :: (3, .getfield 87, 10, 10) :: (1, .iconst (1), 0, 1) :: (3, .if_icmp .ge (11), 0, 0) :: (8, .athrow, 0, 0) :: []),
  (16, [true, true], (1, .iload_n 1, 0, 0) :: (3, .ifCond .lt (14), 0, 0) :: (1, .iload_n 1, 0, 0) :: (1, .aload_n 0, 0, 0) :: (3, .getfield 28, 10, 2) :: (3, .getfield 147, 0, 7) :: (3, .if_icmp .lt (11), 0, 0) :: []),
  (31, [false, false], (8, .athrow, 2, 2) :: []),
  (39, [false, false], (1, .return_, 0, 0) :: [])]
def mt_LatticefitLaw_inputOf_8 : List ma_AI := (1, .i2l, 0, 0) :: (1, .lastore, 0, 0) :: (3, .goto (15), 0, 0) :: []
def mb_LatticefitLaw_inputOf : ma_Tb := [(0, [true, true, true, true, false], (1, .aload_n 3, 0, 0) :: (1, .iconst (0), 0, 0) :: (1, .aload_n 0, 0, 0) :: (1, .iload_n 1, 0, 0) :: (1, .iload_n 2, 0, 0) :: (3, .invokevirtual 54, 50, 10) :: mt_LatticefitLaw_inputOf_8),
  (13, [false, false, false, false, false], (2, .astore 4, 0, 0) :: (1, .iconst (1), 0, 1) :: (1, .ireturn, 0, 0) :: []),
  (17, [false, false, false, false, false], (2, .astore 4, 0, 0) :: (1, .iconst (2), 0, 2) :: (1, .ireturn, 0, 0) :: []),
  (21, [false, false, false, false, false], (2, .astore 4, 0, 0) :: (1, .iconst (3), 0, 3) :: (1, .ireturn, 0, 0) :: []),
  (25, [false, false, false, false, false], (1, .iconst (0), 0, 0) :: (1, .ireturn, 0, 0) :: [])]
def mt_Latticefit_inputOf_5 : List ma_AI := (1, .iload_n 2, 0, 0) :: (3, .ifCond .lt (16), 0, 0) :: (1, .iload_n 2, 0, 0) :: (1, .aload_n 0, 0, 0) :: (3, .getfield 28, 10, 2) :: (3, .getfield 173, 0, 3) :: (1, .iload_n 1, 0, 0) :: (1, .iaload, 0, 0) :: (3, .if_icmp .lt (11), 0, 0) :: []
def mb_Latticefit_inputOf : ma_Tb := [(0, [true, true, true], (1, .aload_n 0, 0, 0) :: (1, .iload_n 1, 0, 0) :: (3, .invokevirtual 166, 48, 10) :: mt_Latticefit_inputOf_5),
  (22, [false, false, false], (8, .athrow, 4, 4) :: []),
  (30, [true, true, true], (1, .aload_n 0, 0, 0) :: (3, .getfield 28, 10, 2) :: (3, .getfield 178, 0, 4) :: (1, .iload_n 1, 0, 0) :: (1, .aaload, 0, 0) :: (1, .iload_n 2, 0, 0) :: (1, .iaload, 0, 0) :: (1, .ireturn, 0, 0) :: [])]
def mt_LatticefitLaw_gateOf_7 : List ma_AI := (1, .i2l, 0, 0) :: (1, .lastore, 0, 0) :: (3, .goto (12), 0, 0) :: []
def mb_LatticefitLaw_gateOf : ma_Tb := [(0, [true, true, true, false], (1, .aload_n 2, 0, 0) :: (1, .iconst (0), 0, 0) :: (1, .aload_n 0, 0, 0) :: (1, .iload_n 1, 0, 0) :: (3, .invokevirtual 59, 52, 10) :: mt_LatticefitLaw_gateOf_7),
  (12, [false, false, false, false], (1, .astore_n 3, 0, 0) :: (1, .iconst (1), 0, 1) :: (1, .ireturn, 0, 0) :: []),
  (15, [false, false, false, false], (1, .astore_n 3, 0, 0) :: (1, .iconst (2), 0, 2) :: (1, .ireturn, 0, 0) :: []),
  (18, [false, false, false, false], (1, .astore_n 3, 0, 0) :: (1, .iconst (3), 0, 3) :: (1, .ireturn, 0, 0) :: []),
  (21, [false, false, false, false], (1, .iconst (0), 0, 0) :: (1, .ireturn, 0, 0) :: [])]
def mt_Latticefit_gateOf_5 : List ma_AI := (1, .aload_n 0, 0, 0) :: (3, .getfield 28, 10, 2) :: (3, .getfield 182, 0, 0) :: (1, .iload_n 1, 0, 0) :: (1, .iaload, 0, 0) :: (3, .ifCond .ge (11), 0, 0) :: (8, .athrow, 4, 4) :: []
def mb_Latticefit_gateOf : ma_Tb := [(0, [true, true], (1, .aload_n 0, 0, 0) :: (1, .iload_n 1, 0, 0) :: (3, .invokevirtual 166, 48, 10) :: mt_Latticefit_gateOf_5),
  (25, [true, true], (1, .aload_n 0, 0, 0) :: (3, .getfield 28, 10, 2) :: (3, .getfield 182, 0, 0) :: (1, .iload_n 1, 0, 0) :: (1, .iaload, 0, 0) :: (1, .ireturn, 0, 0) :: [])]
def mt_LatticefitLaw_registerOf_7 : List ma_AI := (1, .i2l, 0, 0) :: (1, .lastore, 0, 0) :: (3, .goto (12), 0, 0) :: []
def mb_LatticefitLaw_registerOf : ma_Tb := [(0, [true, true, true, false], (1, .aload_n 2, 0, 0) :: (1, .iconst (0), 0, 0) :: (1, .aload_n 0, 0, 0) :: (1, .iload_n 1, 0, 0) :: (3, .invokevirtual 62, 54, 10) :: mt_LatticefitLaw_registerOf_7),
  (12, [false, false, false, false], (1, .astore_n 3, 0, 0) :: (1, .iconst (1), 0, 1) :: (1, .ireturn, 0, 0) :: []),
  (15, [false, false, false, false], (1, .astore_n 3, 0, 0) :: (1, .iconst (2), 0, 2) :: (1, .ireturn, 0, 0) :: []),
  (18, [false, false, false, false], (1, .astore_n 3, 0, 0) :: (1, .iconst (3), 0, 3) :: (1, .ireturn, 0, 0) :: []),
  (21, [false, false, false, false], (1, .iconst (0), 0, 0) :: (1, .ireturn, 0, 0) :: [])]
def mt_Latticefit_registerOf_5 : List ma_AI := (1, .aload_n 0, 0, 0) :: (3, .getfield 28, 10, 2) :: (3, .getfield 185, 0, 1) :: (1, .iload_n 1, 0, 0) :: (1, .iaload, 0, 0) :: (3, .ifCond .ge (11), 0, 0) :: (8, .athrow, 4, 4) :: []
def mb_Latticefit_registerOf : ma_Tb := [(0, [true, true], (1, .aload_n 0, 0, 0) :: (1, .iload_n 1, 0, 0) :: (3, .invokevirtual 166, 48, 10) :: mt_Latticefit_registerOf_5),
  (25, [true, true], (1, .aload_n 0, 0, 0) :: (3, .getfield 28, 10, 2) :: (3, .getfield 185, 0, 1) :: (1, .iload_n 1, 0, 0) :: (1, .iaload, 0, 0) :: (1, .ireturn, 0, 0) :: [])]
def mt_LatticefitLaw_fix_8 : List ma_AI := (1, .i2l, 0, 0) :: (1, .lastore, 0, 0) :: (3, .goto (15), 0, 0) :: []
def mb_LatticefitLaw_fix : ma_Tb := [(0, [true, true, true, true, false], (1, .aload_n 3, 0, 0) :: (1, .iconst (0), 0, 0) :: (1, .aload_n 0, 0, 0) :: (1, .iload_n 1, 0, 0) :: (1, .iload_n 2, 0, 0) :: (3, .invokevirtual 65, 56, 10) :: mt_LatticefitLaw_fix_8),
  (13, [false, false, false, false, false], (2, .astore 4, 0, 0) :: (1, .iconst (1), 0, 1) :: (1, .ireturn, 0, 0) :: []),
  (17, [false, false, false, false, false], (2, .astore 4, 0, 0) :: (1, .iconst (2), 0, 2) :: (1, .ireturn, 0, 0) :: []),
  (21, [false, false, false, false, false], (2, .astore 4, 0, 0) :: (1, .iconst (3), 0, 3) :: (1, .ireturn, 0, 0) :: []),
  (25, [false, false, false, false, false], (1, .iconst (0), 0, 0) :: (1, .ireturn, 0, 0) :: [])]
def mt_Latticefit_fix_4 : List ma_AI := (3, .ifCond .ne (11), 0, 0) :: (8, .athrow, 2, 2) :: []
def mt_Latticefit_fix_40 : List ma_AI := (3, .ifCond .eq (11), 0, 0) :: []
def mt_Latticefit_fix_20 : List ma_AI := (1, .aload_n 0, 0, 0) :: (3, .getfield 37, 10, 3) :: (3, .getfield 191, 6, 2) :: (1, .iload_n 1, 0, 0) :: (1, .baload, 0, 0) :: (3, .ifCond .ne (14), 0, 0) :: (1, .aload_n 0, 0, 0) :: (3, .getfield 37, 10, 3) :: (1, .iload_n 2, 0, 0) :: (3, .invokevirtual 194, 58, 6) :: mt_Latticefit_fix_40
def mt_Latticefit_fix_90 : List ma_AI := (1, .ireturn, 0, 0) :: []
def mt_Latticefit_fix_68 : List ma_AI := (1, .aload_n 0, 0, 0) :: (3, .getfield 37, 10, 3) :: (3, .getfield 191, 6, 2) :: (1, .iload_n 1, 0, 0) :: (1, .iconst (1), 0, 1) :: (1, .bastore, 0, 0) :: (1, .aload_n 0, 0, 0) :: (1, .iconst (1), 0, 1) :: (3, .putfield 87, 10, 10) :: (1, .aload_n 0, 0, 0) :: (3, .getfield 37, 10, 3) :: (3, .invokevirtual 204, 60, 6) :: mt_Latticefit_fix_90
def mb_Latticefit_fix : ma_Tb := [(0, [true, true, true], (1, .iload_n 2, 0, 0) :: (3, .invokestatic 188, 57, 0) :: mt_Latticefit_fix_4),
  (15, [true, true, true], (1, .aload_n 0, 0, 0) :: (1, .iload_n 1, 0, 0) :: (3, .invokevirtual 166, 48, 10) :: mt_Latticefit_fix_20),
  (43, [false, false, false], (8, .athrow, 3, 3) :: []),
  (51, [true, true, true], (1, .aload_n 0, 0, 0) :: (3, .getfield 37, 10, 3) :: (1, .aload_n 0, 0, 0) :: (3, .getfield 37, 10, 3) :: (3, .getfield 197, 6, 0) :: (1, .iload_n 1, 0, 0) :: (1, .iaload, 0, 0) :: (1, .iload_n 2, 0, 0) :: (3, .invokevirtual 200, 59, 6) :: mt_Latticefit_fix_68)]
def mb_Latticefit_isCell : ma_Tb := [(0, [true], (1, .iload_n 0, 0, 0) :: (3, .ifCond .lt (13), 0, 0) :: (1, .iload_n 0, 0, 0) :: (2, .bipush (36), 0, 36) :: (3, .if_icmp .ge (7), 0, 0) :: (1, .iconst (1), 0, 1) :: (3, .goto (4), 0, 0) :: []),
  (14, [false], (1, .iconst (0), 0, 0) :: []),
  (15, [false], (1, .ireturn, 0, 0) :: [])]
def mb_Places_holdsFixed : ma_Tb := [(0, [true, true], (1, .aload_n 0, 0, 0) :: (3, .getfield 15, 6, 1) :: (1, .iload_n 1, 0, 0) :: (1, .iaload, 0, 0) :: (3, .ifCond .lt (21), 0, 0) :: (1, .aload_n 0, 0, 0) :: (3, .getfield 18, 6, 2) :: (1, .aload_n 0, 0, 0) :: (3, .getfield 15, 6, 1) :: (1, .iload_n 1, 0, 0) :: (1, .iaload, 0, 0) :: (1, .baload, 0, 0) :: (3, .ifCond .eq (7), 0, 0) :: (1, .iconst (1), 0, 1) :: (3, .goto (4), 0, 0) :: []),
  (27, [false, false], (1, .iconst (0), 0, 0) :: []),
  (28, [false, false], (1, .ireturn, 0, 0) :: [])]
def mb_Places_exchange : ma_Tb := [(0, [true, true, true, false], (1, .aload_n 0, 0, 0) :: (3, .getfield 15, 6, 1) :: (1, .iload_n 1, 0, 0) :: (1, .iaload, 0, 0) :: (1, .istore_n 3, 0, 0) :: (1, .aload_n 0, 0, 0) :: (3, .getfield 15, 6, 1) :: (1, .iload_n 1, 0, 0) :: (1, .aload_n 0, 0, 0) :: (3, .getfield 15, 6, 1) :: (1, .iload_n 2, 0, 0) :: (1, .iaload, 0, 0) :: (1, .iastore, 0, 0) :: (1, .aload_n 0, 0, 0) :: (3, .getfield 15, 6, 1) :: (1, .iload_n 2, 0, 0) :: (1, .iload_n 3, 0, 0) :: (1, .iastore, 0, 0) :: (1, .aload_n 0, 0, 0) :: (3, .getfield 15, 6, 1) :: (1, .iload_n 1, 0, 0) :: (1, .iaload, 0, 0) :: (3, .ifCond .lt (15), 0, 0) :: (1, .aload_n 0, 0, 0) :: (3, .getfield 9, 6, 0) :: (1, .aload_n 0, 0, 0) :: (3, .getfield 15, 6, 1) :: (1, .iload_n 1, 0, 0) :: (1, .iaload, 0, 0) :: (1, .iload_n 1, 0, 0) :: (1, .iastore, 0, 0) :: []),
  (47, [true, false, true, false], (1, .aload_n 0, 0, 0) :: (3, .getfield 15, 6, 1) :: (1, .iload_n 2, 0, 0) :: (1, .iaload, 0, 0) :: (3, .ifCond .lt (15), 0, 0) :: (1, .aload_n 0, 0, 0) :: (3, .getfield 9, 6, 0) :: (1, .aload_n 0, 0, 0) :: (3, .getfield 15, 6, 1) :: (1, .iload_n 2, 0, 0) :: (1, .iaload, 0, 0) :: (1, .iload_n 2, 0, 0) :: (1, .iastore, 0, 0) :: []),
  (68, [false, false, false, false], (1, .return_, 0, 0) :: [])]
def mt_Places_findLengths_18 : List ma_AI := (1, .istore_n 2, 0, 0) :: (1, .aload_n 0, 0, 0) :: (3, .getfield 22, 6, 3) :: (1, .iload_n 1, 0, 0) :: (1, .iload_n 2, 0, 0) :: (2, .bipush (7), 0, 7) :: (1, .idiv, 0, 0) :: (1, .iastore, 0, 0) :: (1, .aload_n 0, 0, 0) :: (3, .getfield 25, 6, 4) :: (1, .iload_n 1, 0, 0) :: (1, .aload_n 0, 0, 0) :: (3, .getfield 22, 6, 3) :: (1, .iload_n 1, 0, 0) :: (1, .iaload, 0, 0) :: (1, .iastore, 0, 0) :: (1, .aload_n 0, 0, 0) :: (3, .getfield 28, 6, 5) :: (1, .iload_n 1, 0, 0) :: (1, .iload_n 2, 0, 0) :: (2, .bipush (7), 0, 7) :: (1, .irem, 0, 0) :: (1, .iastore, 0, 0) :: (1, .aload_n 0, 0, 0) :: (3, .getfield 31, 6, 6) :: (1, .iload_n 1, 0, 0) :: (1, .aload_n 0, 0, 0) :: (3, .getfield 28, 6, 5) :: (1, .iload_n 1, 0, 0) :: (1, .iaload, 0, 0) :: (1, .iastore, 0, 0) :: (3, .iinc 1 (1), 0, 0) :: (3, .goto (-64), 0, 0) :: []
def mt_Places_findLengths_121 : List ma_AI := (3, .iinc 2 (1), 0, 0) :: (3, .goto (-40), 0, 0) :: []
def mt_Places_findLengths_118 : List ma_AI := (3, .invokevirtual 118, 64, 6) :: mt_Places_findLengths_121
def mt_Places_findLengths_163 : List ma_AI := (3, .iinc 1 (1), 0, 0) :: (3, .goto (-31), 0, 0) :: []
def mt_Places_findLengths_160 : List ma_AI := (3, .invokevirtual 118, 64, 6) :: mt_Places_findLengths_163
def mt_Places_findLengths_190 : List ma_AI := (1, .iadd, 0, 0) :: (1, .istore_n 1, 0, 0) :: (3, .iinc 2 (1), 0, 0) :: (3, .goto (-22), 0, 0) :: []
def mb_Places_findLengths : ma_Tb := [(0, [true, false, false], (1, .iconst (0), 0, 0) :: (1, .istore_n 1, 0, 0) :: []),
  (2, [true, true, false], (1, .iload_n 1, 0, 0) :: (1, .aload_n 0, 0, 0) :: (3, .getfield 37, 6, 8) :: (3, .getfield 88, 3, 10) :: (3, .if_icmp .ge (59), 0, 0) :: (1, .aload_n 0, 0, 0) :: (1, .iload_n 1, 0, 0) :: (3, .invokevirtual 96, 61, 6) :: mt_Places_findLengths_18),
  (69, [true, false, false], (1, .iconst (0), 0, 0) :: (1, .istore_n 1, 0, 0) :: []),
  (71, [true, true, false], (1, .iload_n 1, 0, 0) :: (1, .aload_n 0, 0, 0) :: (3, .getfield 41, 6, 9) :: (3, .getfield 51, 0, 7) :: (3, .if_icmp .ge (54), 0, 0) :: (1, .iconst (0), 0, 0) :: (1, .istore_n 2, 0, 0) :: []),
  (84, [true, true, true], (1, .iload_n 2, 0, 0) :: (1, .aload_n 0, 0, 0) :: (3, .getfield 41, 6, 9) :: (3, .getfield 99, 0, 3) :: (1, .iload_n 1, 0, 0) :: (1, .iaload, 0, 0) :: (3, .if_icmp .ge (33), 0, 0) :: (1, .aload_n 0, 0, 0) :: (1, .aload_n 0, 0, 0) :: (3, .getfield 41, 6, 9) :: (3, .getfield 101, 0, 4) :: (1, .iload_n 1, 0, 0) :: (1, .aaload, 0, 0) :: (1, .iload_n 2, 0, 0) :: (1, .iaload, 0, 0) :: (1, .aload_n 0, 0, 0) :: (3, .getfield 9, 6, 0) :: (1, .iload_n 1, 0, 0) :: (1, .iaload, 0, 0) :: (3, .invokestatic 73, 63, 0) :: mt_Places_findLengths_118),
  (127, [true, true, false], (3, .iinc 1 (1), 0, 0) :: (3, .goto (-59), 0, 0) :: []),
  (133, [true, false, false], (1, .iconst (0), 0, 0) :: (1, .istore_n 1, 0, 0) :: []),
  (135, [true, true, false], (1, .iload_n 1, 0, 0) :: (1, .aload_n 0, 0, 0) :: (3, .getfield 37, 6, 8) :: (3, .getfield 109, 3, 13) :: (3, .if_icmp .ge (26), 0, 0) :: (1, .aload_n 0, 0, 0) :: (1, .aload_n 0, 0, 0) :: (3, .getfield 37, 6, 8) :: (3, .getfield 112, 3, 9) :: (1, .iload_n 1, 0, 0) :: (1, .iaload, 0, 0) :: (1, .iload_n 1, 0, 0) :: (3, .invokestatic 115, 65, 0) :: mt_Places_findLengths_160),
  (169, [true, false, false], (1, .iconst (0), 0, 0) :: (1, .istore_n 1, 0, 0) :: (1, .iconst (0), 0, 0) :: (1, .istore_n 2, 0, 0) :: []),
  (173, [true, true, true], (1, .iload_n 2, 0, 0) :: (1, .aload_n 0, 0, 0) :: (3, .getfield 37, 6, 8) :: (3, .getfield 88, 3, 10) :: (3, .if_icmp .ge (17), 0, 0) :: (1, .iload_n 1, 0, 0) :: (1, .aload_n 0, 0, 0) :: (1, .iload_n 2, 0, 0) :: (3, .invokevirtual 121, 66, 6) :: mt_Places_findLengths_190),
  (198, [false, true, false], (1, .iload_n 1, 0, 0) :: (1, .ireturn, 0, 0) :: [])]
def mt_Places_sourceCrossing_32 : List ma_AI := (1, .ireturn, 0, 0) :: []
def mt_Places_sourceCrossing_29 : List ma_AI := (3, .invokestatic 73, 63, 0) :: mt_Places_sourceCrossing_32
def mb_Places_sourceCrossing : ma_Tb := [(0, [true, true], (1, .aload_n 0, 0, 0) :: (3, .getfield 37, 6, 8) :: (3, .getfield 60, 3, 0) :: (1, .iload_n 1, 0, 0) :: (1, .caload, 0, 0) :: (2, .bipush (105), 0, 105) :: (3, .if_icmp .ne (13), 0, 0) :: (1, .aload_n 0, 0, 0) :: (3, .getfield 37, 6, 8) :: (3, .getfield 66, 3, 6) :: (1, .iload_n 1, 0, 0) :: (1, .iaload, 0, 0) :: (1, .ireturn, 0, 0) :: []),
  (24, [true, true], (1, .aload_n 0, 0, 0) :: (1, .iload_n 1, 0, 0) :: (3, .invokevirtual 69, 62, 6) :: mt_Places_sourceCrossing_29)]
def mb_Places_cellOfNode : ma_Tb := [(0, [true, true, false], (1, .aload_n 0, 0, 0) :: (3, .getfield 41, 6, 9) :: (3, .getfield 57, 0, 5) :: (1, .iload_n 1, 0, 0) :: (1, .iaload, 0, 0) :: (1, .istore_n 2, 0, 0) :: (1, .iload_n 2, 0, 0) :: (3, .ifCond .ge (7), 0, 0) :: (1, .iconst (0), 0, 0) :: (3, .goto (9), 0, 0) :: []),
  (18, [true, false, true], (1, .aload_n 0, 0, 0) :: (3, .getfield 9, 6, 0) :: (1, .iload_n 2, 0, 0) :: (1, .iaload, 0, 0) :: []),
  (24, [false, false, false], (1, .ireturn, 0, 0) :: [])]
def mb_Places_crossingAt : ma_Tb := [(0, [true], (2, .bipush (7), 0, 7) :: (1, .iload_n 0, 0, 0) :: (2, .bipush (6), 0, 6) :: (1, .idiv, 0, 0) :: (1, .imul, 0, 0) :: (1, .iload_n 0, 0, 0) :: (2, .bipush (6), 0, 6) :: (1, .irem, 0, 0) :: (1, .iadd, 0, 0) :: (1, .ireturn, 0, 0) :: [])]
def mb_Places_stretchTo : ma_Tb := [(0, [true, true, true, false, false], (1, .iload_n 2, 0, 0) :: (2, .bipush (7), 0, 7) :: (1, .idiv, 0, 0) :: (1, .istore_n 3, 0, 0) :: (1, .iload_n 2, 0, 0) :: (2, .bipush (7), 0, 7) :: (1, .irem, 0, 0) :: (2, .istore 4, 0, 0) :: (1, .aload_n 0, 0, 0) :: (3, .getfield 22, 6, 3) :: (1, .iload_n 1, 0, 0) :: (1, .aload_n 0, 0, 0) :: (3, .getfield 22, 6, 3) :: (1, .iload_n 1, 0, 0) :: (1, .iaload, 0, 0) :: (1, .iload_n 3, 0, 0) :: (3, .invokestatic 124, 10003, 0) :: (1, .iastore, 0, 0) :: (1, .aload_n 0, 0, 0) :: (3, .getfield 25, 6, 4) :: (1, .iload_n 1, 0, 0) :: (1, .aload_n 0, 0, 0) :: (3, .getfield 25, 6, 4) :: (1, .iload_n 1, 0, 0) :: (1, .iaload, 0, 0) :: (1, .iload_n 3, 0, 0) :: (3, .invokestatic 130, 10002, 0) :: (1, .iastore, 0, 0) :: (1, .aload_n 0, 0, 0) :: (3, .getfield 28, 6, 5) :: (1, .iload_n 1, 0, 0) :: (1, .aload_n 0, 0, 0) :: (3, .getfield 28, 6, 5) :: (1, .iload_n 1, 0, 0) :: (1, .iaload, 0, 0) :: (2, .iload 4, 0, 0) :: (3, .invokestatic 124, 10003, 0) :: (1, .iastore, 0, 0) :: (1, .aload_n 0, 0, 0) :: (3, .getfield 31, 6, 6) :: (1, .iload_n 1, 0, 0) :: (1, .aload_n 0, 0, 0) :: (3, .getfield 31, 6, 6) :: (1, .iload_n 1, 0, 0) :: (1, .iaload, 0, 0) :: (2, .iload 4, 0, 0) :: (3, .invokestatic 130, 10002, 0) :: (1, .iastore, 0, 0) :: (1, .return_, 0, 0) :: [])]
def mb_Places_crossingOfOutput : ma_Tb := [(0, [true], (2, .bipush (42), 0, 42) :: (1, .iload_n 0, 0, 0) :: (1, .iadd, 0, 0) :: (1, .ireturn, 0, 0) :: [])]
def mb_Places_lengthOf : ma_Tb := [(0, [true, true], (1, .aload_n 0, 0, 0) :: (3, .getfield 25, 6, 4) :: (1, .iload_n 1, 0, 0) :: (1, .iaload, 0, 0) :: (1, .aload_n 0, 0, 0) :: (3, .getfield 22, 6, 3) :: (1, .iload_n 1, 0, 0) :: (1, .iaload, 0, 0) :: (1, .isub, 0, 0) :: (1, .aload_n 0, 0, 0) :: (3, .getfield 31, 6, 6) :: (1, .iload_n 1, 0, 0) :: (1, .iaload, 0, 0) :: (1, .iadd, 0, 0) :: (1, .aload_n 0, 0, 0) :: (3, .getfield 28, 6, 5) :: (1, .iload_n 1, 0, 0) :: (1, .iaload, 0, 0) :: (1, .isub, 0, 0) :: (1, .ireturn, 0, 0) :: [])]
def mt_LatticefitLaw_anneal_10 : List ma_AI := (1, .i2l, 0, 0) :: (1, .lastore, 0, 0) :: (3, .goto (11), 0, 0) :: []
def mb_LatticefitLaw_anneal : ma_Tb := [(0, [true, true, true, true, true, false], (2, .aload 4, 0, 0) :: (1, .iconst (0), 0, 0) :: (1, .aload_n 0, 0, 0) :: (1, .iload_n 1, 0, 0) :: (1, .iload_n 2, 0, 0) :: (1, .iload_n 3, 0, 0) :: (3, .invokevirtual 68, 68, 10) :: mt_LatticefitLaw_anneal_10),
  (15, [false, false, false, false, false, false], (2, .astore 5, 0, 0) :: (1, .iconst (1), 0, 1) :: (1, .ireturn, 0, 0) :: []),
  (19, [false, false, false, false, false, false], (2, .astore 5, 0, 0) :: (1, .iconst (2), 0, 2) :: (1, .ireturn, 0, 0) :: []),
  (23, [false, false, false, false, false, false], (1, .iconst (0), 0, 0) :: (1, .ireturn, 0, 0) :: [])]
def mt_Latticefit_anneal_50 : List ma_AI := (2, .istore 4, 0, 0) :: (2, .iload 4, 0, 0) :: (3, .ifCond .le (8), 0, 0) :: (1, .aload_n 0, 0, 0) :: (1, .iconst (1), 0, 1) :: (3, .putfield 87, 10, 10) :: []
def mt_Latticefit_anneal_40 : List ma_AI := (1, .aload_n 0, 0, 0) :: (3, .getfield 37, 10, 3) :: (1, .iload_n 1, 0, 0) :: (1, .iload_n 2, 0, 0) :: (1, .iload_n 3, 0, 0) :: (3, .invokevirtual 210, 70, 6) :: mt_Latticefit_anneal_50
def mb_Latticefit_anneal : ma_Tb := [(0, [true, true, true, true, false], (1, .iload_n 1, 0, 0) :: (3, .ifCond .lt (26), 0, 0) :: (1, .iload_n 2, 0, 0) :: (1, .iconst (1), 0, 1) :: (3, .if_icmp .lt (21), 0, 0) :: (1, .iload_n 2, 0, 0) :: (3, .sipush (200), 0, 200) :: (3, .if_icmp .gt (14), 0, 0) :: (1, .iload_n 3, 0, 0) :: (1, .iconst (1), 0, 1) :: (3, .if_icmp .lt (9), 0, 0) :: (1, .iload_n 3, 0, 0) :: (2, .bipush (50), 0, 50) :: (3, .if_icmp .le (11), 0, 0) :: []),
  (27, [false, false, false, false, false], (8, .athrow, 1, 1) :: []),
  (35, [true, true, true, true, false], (1, .aload_n 0, 0, 0) :: (1, .iconst (1), 0, 1) :: (3, .invokevirtual 207, 69, 10) :: mt_Latticefit_anneal_40),
  (62, [false, false, false, false, true], (2, .iload 4, 0, 0) :: (1, .ireturn, 0, 0) :: [])]
def mb_Latticefit_needStage : ma_Tb := [(0, [true, true], (1, .aload_n 0, 0, 0) :: (3, .getfield 87, 10, 10) :: (1, .iload_n 1, 0, 0) :: (3, .if_icmp .ge (11), 0, 0) :: (8, .athrow, 0, 0) :: []),
  (16, [false, false], (1, .return_, 0, 0) :: [])]
def mt_Places_swapByChance_68 : List ma_AI := (3, .ifCond .eq (6), 0, 0) :: (3, .iinc 7 (1), 0, 0) :: []
def mt_Places_swapByChance_55 : List ma_AI := (3, .ifCond .eq (19), 0, 0) :: (1, .aload_n 0, 0, 0) :: (2, .iload 9, 0, 0) :: (2, .iload 10, 0, 0) :: (2, .iload 6, 0, 0) :: (3, .invokevirtual 159, 74, 6) :: mt_Places_swapByChance_68
def mt_Places_swapByChance_45 : List ma_AI := (2, .istore 10, 0, 0) :: (1, .aload_n 0, 0, 0) :: (2, .iload 9, 0, 0) :: (2, .iload 10, 0, 0) :: (3, .invokevirtual 155, 73, 6) :: mt_Places_swapByChance_55
def mt_Places_swapByChance_38 : List ma_AI := (2, .lstore 4, 0, 0) :: (2, .lload 4, 0, 0) :: (3, .invokestatic 151, 72, 0) :: mt_Places_swapByChance_45
def mt_Places_swapByChance_31 : List ma_AI := (2, .istore 9, 0, 0) :: (2, .lload 4, 0, 0) :: (3, .invokestatic 147, 71, 0) :: mt_Places_swapByChance_38
def mt_Places_swapByChance_24 : List ma_AI := (2, .lstore 4, 0, 0) :: (2, .lload 4, 0, 0) :: (3, .invokestatic 151, 72, 0) :: mt_Places_swapByChance_31
def mb_Places_swapByChance : ma_Tb := [(0, [true, true, true, true, false, false, false, false, false, false, false], (1, .iload_n 1, 0, 0) :: (1, .i2l, 0, 0) :: (2, .lstore 4, 0, 0) :: (1, .iload_n 3, 0, 0) :: (2, .istore 6, 0, 0) :: (1, .iconst (0), 0, 0) :: (2, .istore 7, 0, 0) :: (1, .iconst (1), 0, 1) :: (2, .istore 8, 0, 0) :: []),
  (13, [true, false, true, false, true, false, true, true, true, false, false], (2, .iload 8, 0, 0) :: (1, .iload_n 2, 0, 0) :: (3, .if_icmp .gt (81), 0, 0) :: (2, .lload 4, 0, 0) :: (3, .invokestatic 147, 71, 0) :: mt_Places_swapByChance_24),
  (74, [true, false, true, false, true, false, true, true, true, false, false], (2, .iload 8, 0, 0) :: (2, .bipush (8), 0, 8) :: (1, .irem, 0, 0) :: (3, .ifCond .ne (12), 0, 0) :: (2, .iload 6, 0, 0) :: (1, .iconst (1), 0, 1) :: (3, .if_icmp .le (6), 0, 0) :: (3, .iinc 6 (-1), 0, 0) :: []),
  (91, [true, false, true, false, true, false, true, true, true, false, false], (3, .iinc 8 (1), 0, 0) :: (3, .goto (-81), 0, 0) :: []),
  (97, [false, false, false, false, false, false, false, true, false, false, false], (2, .iload 7, 0, 0) :: (1, .ireturn, 0, 0) :: [])]
def mb_Places_nextChance : ma_Tb := [(0, [true, false], (1, .lload_n 0, 0, 0) :: (3, .ldc2_w 163, 0, 1103515245) :: (1, .lmul, 0, 0) :: (3, .ldc2_w 165, 0, 12345) :: (1, .ladd, 0, 0) :: (3, .ldc2_w 167, 0, 2147483648) :: (1, .lrem, 0, 0) :: (1, .lreturn, 0, 0) :: [])]
def mb_Places_cellTold : ma_Tb := [(0, [true, false], (1, .lload_n 0, 0, 0) :: (3, .ldc2_w 169, 0, 65536) :: (1, .ldiv, 0, 0) :: (3, .ldc2_w 171, 0, 36) :: (1, .lrem, 0, 0) :: (1, .l2i, 0, 0) :: (1, .ireturn, 0, 0) :: [])]
def mt_Places_maySwap_38 : List ma_AI := (3, .ifCond .ne (7), 0, 0) :: (1, .iconst (1), 0, 1) :: (3, .goto (4), 0, 0) :: []
def mt_Places_maySwap_30 : List ma_AI := (3, .ifCond .ne (15), 0, 0) :: (1, .aload_n 0, 0, 0) :: (1, .iload_n 2, 0, 0) :: (3, .invokevirtual 173, 58, 6) :: mt_Places_maySwap_38
def mb_Places_maySwap : ma_Tb := [(0, [true, true, true], (1, .iload_n 1, 0, 0) :: (1, .iload_n 2, 0, 0) :: (3, .if_icmp .eq (21), 0, 0) :: (1, .aload_n 0, 0, 0) :: (3, .getfield 15, 6, 1) :: (1, .iload_n 1, 0, 0) :: (1, .iaload, 0, 0) :: (3, .ifCond .ge (14), 0, 0) :: (1, .aload_n 0, 0, 0) :: (3, .getfield 15, 6, 1) :: (1, .iload_n 2, 0, 0) :: (1, .iaload, 0, 0) :: (3, .ifCond .ge (5), 0, 0) :: []),
  (23, [false, false, false], (1, .iconst (0), 0, 0) :: (1, .ireturn, 0, 0) :: []),
  (25, [true, true, true], (1, .aload_n 0, 0, 0) :: (1, .iload_n 1, 0, 0) :: (3, .invokevirtual 173, 58, 6) :: mt_Places_maySwap_30),
  (45, [false, false, false], (1, .iconst (0), 0, 0) :: []),
  (46, [false, false, false], (1, .ireturn, 0, 0) :: [])]
def mt_Places_swapIfGood_31 : List ma_AI := (2, .iload 5, 0, 0) :: (1, .isub, 0, 0) :: (1, .iload_n 3, 0, 0) :: (3, .if_icmp .ge (5), 0, 0) :: (1, .iconst (1), 0, 1) :: (1, .ireturn, 0, 0) :: []
def mt_Places_swapIfGood_22 : List ma_AI := (2, .iload 4, 0, 0) :: (3, .if_icmp .gt (16), 0, 0) :: (1, .aload_n 0, 0, 0) :: (3, .invokevirtual 181, 60, 6) :: mt_Places_swapIfGood_31
def mt_Places_swapIfGood_18 : List ma_AI := (1, .aload_n 0, 0, 0) :: (3, .invokevirtual 177, 75, 6) :: mt_Places_swapIfGood_22
def mt_Places_swapIfGood_10 : List ma_AI := (2, .istore 5, 0, 0) :: (1, .aload_n 0, 0, 0) :: (1, .iload_n 1, 0, 0) :: (1, .iload_n 2, 0, 0) :: (3, .invokevirtual 184, 59, 6) :: mt_Places_swapIfGood_18
def mt_Places_swapIfGood_4 : List ma_AI := (2, .istore 4, 0, 0) :: (1, .aload_n 0, 0, 0) :: (3, .invokevirtual 181, 60, 6) :: mt_Places_swapIfGood_10
def mt_Places_swapIfGood_46 : List ma_AI := (1, .iconst (0), 0, 0) :: (1, .ireturn, 0, 0) :: []
def mb_Places_swapIfGood : ma_Tb := [(0, [true, true, true, true, false, false], (1, .aload_n 0, 0, 0) :: (3, .invokevirtual 177, 75, 6) :: mt_Places_swapIfGood_4),
  (40, [true, true, true, false, false, false], (1, .aload_n 0, 0, 0) :: (1, .iload_n 1, 0, 0) :: (1, .iload_n 2, 0, 0) :: (3, .invokevirtual 184, 59, 6) :: mt_Places_swapIfGood_46)]
def mt_Places_clockExcess_8 : List ma_AI := (1, .iconst (0), 0, 0) :: (1, .istore_n 1, 0, 0) :: []
def mt_Places_clockExcess_40 : List ma_AI := (2, .bipush (12), 0, 12) :: (1, .idiv, 0, 0) :: (1, .dup2, 0, 0) :: (1, .iaload, 0, 0) :: (1, .iconst (1), 0, 1) :: (1, .aload_n 0, 0, 0) :: (3, .getfield 37, 6, 8) :: (3, .getfield 139, 3, 5) :: (1, .iload_n 2, 0, 0) :: (1, .iaload, 0, 0) :: (1, .ishl, 0, 0) :: (1, .ior, 0, 0) :: (1, .iastore, 0, 0) :: (3, .iinc 1 (1), 0, 0) :: (3, .goto (-51), 0, 0) :: []
def mt_Places_clockExcess_88 : List ma_AI := (1, .iconst (2), 0, 2) :: (1, .isub, 0, 0) :: (3, .invokestatic 130, 10002, 0) :: (1, .iadd, 0, 0) :: (1, .istore_n 1, 0, 0) :: (3, .iinc 2 (1), 0, 0) :: (3, .goto (-30), 0, 0) :: []
def mb_Places_clockExcess : ma_Tb := [(0, [true, false, false], (1, .aload_n 0, 0, 0) :: (3, .getfield 34, 6, 7) :: (1, .iconst (0), 0, 0) :: (3, .invokestatic 45, 35, 0) :: mt_Places_clockExcess_8),
  (10, [true, true, false], (1, .iload_n 1, 0, 0) :: (1, .aload_n 0, 0, 0) :: (3, .getfield 37, 6, 8) :: (3, .getfield 133, 3, 12) :: (3, .if_icmp .ge (46), 0, 0) :: (1, .aload_n 0, 0, 0) :: (3, .getfield 37, 6, 8) :: (3, .getfield 136, 3, 8) :: (1, .iload_n 1, 0, 0) :: (1, .iaload, 0, 0) :: (1, .istore_n 2, 0, 0) :: (1, .aload_n 0, 0, 0) :: (3, .getfield 34, 6, 7) :: (1, .aload_n 0, 0, 0) :: (1, .iload_n 2, 0, 0) :: (3, .invokevirtual 69, 62, 6) :: mt_Places_clockExcess_40),
  (64, [true, false, false], (1, .iconst (0), 0, 0) :: (1, .istore_n 1, 0, 0) :: (1, .iconst (0), 0, 0) :: (1, .istore_n 2, 0, 0) :: []),
  (68, [true, true, true], (1, .iload_n 2, 0, 0) :: (1, .aload_n 0, 0, 0) :: (3, .getfield 34, 6, 7) :: (1, .arraylength, 0, 0) :: (3, .if_icmp .ge (27), 0, 0) :: (1, .iload_n 1, 0, 0) :: (1, .iconst (0), 0, 0) :: (1, .aload_n 0, 0, 0) :: (3, .getfield 34, 6, 7) :: (1, .iload_n 2, 0, 0) :: (1, .iaload, 0, 0) :: (3, .invokestatic 142, 76, 0) :: mt_Places_clockExcess_88),
  (101, [false, true, false], (1, .iload_n 1, 0, 0) :: (1, .ireturn, 0, 0) :: [])]
def mb_Integer_bitCount : ma_Tb := [(0, [true], (1, .iload_n 0, 0, 0) :: (1, .iload_n 0, 0, 0) :: (1, .iconst (1), 0, 1) :: (1, .iushr, 0, 0) :: (3, .ldc_w 265, 0, 1431655765) :: (1, .iand, 0, 0) :: (1, .isub, 0, 0) :: (1, .istore_n 0, 0, 0) :: (1, .iload_n 0, 0, 0) :: (3, .ldc_w 266, 0, 858993459) :: (1, .iand, 0, 0) :: (1, .iload_n 0, 0, 0) :: (1, .iconst (2), 0, 2) :: (1, .iushr, 0, 0) :: (3, .ldc_w 266, 0, 858993459) :: (1, .iand, 0, 0) :: (1, .iadd, 0, 0) :: (1, .istore_n 0, 0, 0) :: (1, .iload_n 0, 0, 0) :: (1, .iload_n 0, 0, 0) :: (1, .iconst (4), 0, 4) :: (1, .iushr, 0, 0) :: (1, .iadd, 0, 0) :: (3, .ldc_w 267, 0, 252645135) :: (1, .iand, 0, 0) :: (1, .istore_n 0, 0, 0) :: (1, .iload_n 0, 0, 0) :: (1, .iload_n 0, 0, 0) :: (2, .bipush (8), 0, 8) :: (1, .iushr, 0, 0) :: (1, .iadd, 0, 0) :: (1, .istore_n 0, 0, 0) :: (1, .iload_n 0, 0, 0) :: (1, .iload_n 0, 0, 0) :: (2, .bipush (16), 0, 16) :: (1, .iushr, 0, 0) :: (1, .iadd, 0, 0) :: (1, .istore_n 0, 0, 0) :: (1, .iload_n 0, 0, 0) :: (2, .bipush (63), 0, 63) :: (1, .iand, 0, 0) :: (1, .ireturn, 0, 0) :: [])]
def mt_LatticefitLaw_cellOf_7 : List ma_AI := (1, .i2l, 0, 0) :: (1, .lastore, 0, 0) :: (3, .goto (9), 0, 0) :: []
def mb_LatticefitLaw_cellOf : ma_Tb := [(0, [true, true, true, false], (1, .aload_n 2, 0, 0) :: (1, .iconst (0), 0, 0) :: (1, .aload_n 0, 0, 0) :: (1, .iload_n 1, 0, 0) :: (3, .invokevirtual 72, 78, 10) :: mt_LatticefitLaw_cellOf_7),
  (12, [false, false, false, false], (1, .astore_n 3, 0, 0) :: (1, .iconst (1), 0, 1) :: (1, .ireturn, 0, 0) :: []),
  (15, [false, false, false, false], (1, .astore_n 3, 0, 0) :: (1, .iconst (2), 0, 2) :: (1, .ireturn, 0, 0) :: []),
  (18, [false, false, false, false], (1, .iconst (0), 0, 0) :: (1, .ireturn, 0, 0) :: [])]
def mt_Latticefit_cellOf_5 : List ma_AI := (1, .aload_n 0, 0, 0) :: (3, .getfield 37, 10, 3) :: (3, .getfield 197, 6, 0) :: (1, .iload_n 1, 0, 0) :: (1, .iaload, 0, 0) :: (1, .ireturn, 0, 0) :: []
def mb_Latticefit_cellOf : ma_Tb := [(0, [true, true], (1, .aload_n 0, 0, 0) :: (1, .iload_n 1, 0, 0) :: (3, .invokevirtual 166, 48, 10) :: mt_Latticefit_cellOf_5)]
def mt_LatticefitLaw_cost_6 : List ma_AI := (1, .i2l, 0, 0) :: (1, .lastore, 0, 0) :: (3, .goto (6), 0, 0) :: []
def mb_LatticefitLaw_cost : ma_Tb := [(0, [true, true, false], (1, .aload_n 1, 0, 0) :: (1, .iconst (0), 0, 0) :: (1, .aload_n 0, 0, 0) :: (3, .invokevirtual 75, 80, 10) :: mt_LatticefitLaw_cost_6),
  (11, [false, false, false], (1, .astore_n 2, 0, 0) :: (1, .iconst (1), 0, 1) :: (1, .ireturn, 0, 0) :: []),
  (14, [false, false, false], (1, .iconst (0), 0, 0) :: (1, .ireturn, 0, 0) :: [])]
def mt_Latticefit_cost_12 : List ma_AI := (1, .ireturn, 0, 0) :: []
def mt_Latticefit_cost_5 : List ma_AI := (1, .aload_n 0, 0, 0) :: (3, .getfield 37, 10, 3) :: (3, .invokevirtual 204, 60, 6) :: mt_Latticefit_cost_12
def mb_Latticefit_cost : ma_Tb := [(0, [true], (1, .aload_n 0, 0, 0) :: (1, .iconst (1), 0, 1) :: (3, .invokevirtual 207, 69, 10) :: mt_Latticefit_cost_5)]
def mt_LatticefitLaw_excess_6 : List ma_AI := (1, .i2l, 0, 0) :: (1, .lastore, 0, 0) :: (3, .goto (6), 0, 0) :: []
def mb_LatticefitLaw_excess : ma_Tb := [(0, [true, true, false], (1, .aload_n 1, 0, 0) :: (1, .iconst (0), 0, 0) :: (1, .aload_n 0, 0, 0) :: (3, .invokevirtual 78, 82, 10) :: mt_LatticefitLaw_excess_6),
  (11, [false, false, false], (1, .astore_n 2, 0, 0) :: (1, .iconst (1), 0, 1) :: (1, .ireturn, 0, 0) :: []),
  (14, [false, false, false], (1, .iconst (0), 0, 0) :: (1, .ireturn, 0, 0) :: [])]
def mt_Latticefit_excess_12 : List ma_AI := (1, .ireturn, 0, 0) :: []
def mt_Latticefit_excess_5 : List ma_AI := (1, .aload_n 0, 0, 0) :: (3, .getfield 37, 10, 3) :: (3, .invokevirtual 214, 75, 6) :: mt_Latticefit_excess_12
def mb_Latticefit_excess : ma_Tb := [(0, [true], (1, .aload_n 0, 0, 0) :: (1, .iconst (1), 0, 1) :: (3, .invokevirtual 207, 69, 10) :: mt_Latticefit_excess_5)]
def mt_LatticefitLaw_route_7 : List ma_AI := (1, .i2l, 0, 0) :: (1, .lastore, 0, 0) :: (3, .goto (9), 0, 0) :: []
def mb_LatticefitLaw_route : ma_Tb := [(0, [true, true, true, false], (1, .aload_n 2, 0, 0) :: (1, .iconst (0), 0, 0) :: (1, .aload_n 0, 0, 0) :: (1, .iload_n 1, 0, 0) :: (3, .invokevirtual 81, 84, 10) :: mt_LatticefitLaw_route_7),
  (12, [false, false, false, false], (1, .astore_n 3, 0, 0) :: (1, .iconst (1), 0, 1) :: (1, .ireturn, 0, 0) :: []),
  (15, [false, false, false, false], (1, .astore_n 3, 0, 0) :: (1, .iconst (2), 0, 2) :: (1, .ireturn, 0, 0) :: []),
  (18, [false, false, false, false], (1, .iconst (0), 0, 0) :: (1, .ireturn, 0, 0) :: [])]
def mt_Latticefit_route_63 : List ma_AI := (3, .ifCond .ne (8), 0, 0) :: (1, .aload_n 0, 0, 0) :: (1, .iconst (2), 0, 2) :: (3, .putfield 87, 10, 10) :: []
def mt_Latticefit_route_55 : List ma_AI := (1, .istore_n 2, 0, 0) :: (1, .aload_n 0, 0, 0) :: (3, .getfield 44, 10, 4) :: (3, .invokevirtual 224, 6, 7) :: mt_Latticefit_route_63
def mt_Latticefit_route_47 : List ma_AI := (1, .aload_n 0, 0, 0) :: (3, .getfield 44, 10, 4) :: (1, .iload_n 1, 0, 0) :: (3, .invokevirtual 221, 87, 7) :: mt_Latticefit_route_55
def mt_Latticefit_route_36 : List ma_AI := (1, .aload_n 0, 0, 0) :: (3, .getfield 37, 10, 3) :: (1, .aload_n 0, 0, 0) :: (3, .getfield 44, 10, 4) :: (3, .invokevirtual 217, 85, 6) :: mt_Latticefit_route_47
def mt_Latticefit_route_24 : List ma_AI := (1, .aload_n 0, 0, 0) :: (1, .iconst (1), 0, 1) :: (3, .putfield 87, 10, 10) :: (1, .aload_n 0, 0, 0) :: (3, .getfield 44, 10, 4) :: (3, .invokevirtual 156, 40, 7) :: mt_Latticefit_route_36
def mb_Latticefit_route : ma_Tb := [(0, [true, true, false], (1, .iload_n 1, 0, 0) :: (1, .iconst (1), 0, 1) :: (3, .if_icmp .lt (9), 0, 0) :: (1, .iload_n 1, 0, 0) :: (2, .bipush (20), 0, 20) :: (3, .if_icmp .le (11), 0, 0) :: []),
  (11, [false, false, false], (8, .athrow, 1, 1) :: []),
  (19, [true, true, false], (1, .aload_n 0, 0, 0) :: (1, .iconst (1), 0, 1) :: (3, .invokevirtual 207, 69, 10) :: mt_Latticefit_route_24),
  (71, [false, false, true], (1, .iload_n 2, 0, 0) :: (1, .ireturn, 0, 0) :: [])]
def mt_Places_putPins_23 : List ma_AI := (1, .iastore, 0, 0) :: (3, .iinc 2 (1), 0, 0) :: (3, .goto (-25), 0, 0) :: []
def mt_Places_putPins_82 : List ma_AI := (3, .iinc 3 (1), 0, 0) :: (3, .goto (-40), 0, 0) :: []
def mt_Places_putPins_79 : List ma_AI := (3, .invokevirtual 105, 86, 7) :: mt_Places_putPins_82
def mt_Places_putPins_124 : List ma_AI := (3, .iinc 2 (1), 0, 0) :: (3, .goto (-31), 0, 0) :: []
def mt_Places_putPins_121 : List ma_AI := (3, .invokevirtual 105, 86, 7) :: mt_Places_putPins_124
def mb_Places_putPins : ma_Tb := [(0, [true, true, false, false], (1, .iconst (0), 0, 0) :: (1, .istore_n 2, 0, 0) :: []),
  (2, [true, true, true, false], (1, .iload_n 2, 0, 0) :: (1, .aload_n 0, 0, 0) :: (3, .getfield 37, 6, 8) :: (3, .getfield 88, 3, 10) :: (3, .if_icmp .ge (20), 0, 0) :: (1, .aload_n 1, 0, 0) :: (3, .getfield 91, 7, 1) :: (1, .iload_n 2, 0, 0) :: (1, .aload_n 0, 0, 0) :: (1, .iload_n 2, 0, 0) :: (3, .invokevirtual 96, 61, 6) :: mt_Places_putPins_23),
  (30, [true, true, false, false], (1, .iconst (0), 0, 0) :: (1, .istore_n 2, 0, 0) :: []),
  (32, [true, true, true, false], (1, .iload_n 2, 0, 0) :: (1, .aload_n 0, 0, 0) :: (3, .getfield 41, 6, 9) :: (3, .getfield 51, 0, 7) :: (3, .if_icmp .ge (54), 0, 0) :: (1, .iconst (0), 0, 0) :: (1, .istore_n 3, 0, 0) :: []),
  (45, [true, true, true, true], (1, .iload_n 3, 0, 0) :: (1, .aload_n 0, 0, 0) :: (3, .getfield 41, 6, 9) :: (3, .getfield 99, 0, 3) :: (1, .iload_n 2, 0, 0) :: (1, .iaload, 0, 0) :: (3, .if_icmp .ge (33), 0, 0) :: (1, .aload_n 1, 0, 0) :: (1, .aload_n 0, 0, 0) :: (3, .getfield 41, 6, 9) :: (3, .getfield 101, 0, 4) :: (1, .iload_n 2, 0, 0) :: (1, .aaload, 0, 0) :: (1, .iload_n 3, 0, 0) :: (1, .iaload, 0, 0) :: (1, .aload_n 0, 0, 0) :: (3, .getfield 9, 6, 0) :: (1, .iload_n 2, 0, 0) :: (1, .iaload, 0, 0) :: (3, .invokestatic 73, 63, 0) :: mt_Places_putPins_79),
  (88, [true, true, true, false], (3, .iinc 2 (1), 0, 0) :: (3, .goto (-59), 0, 0) :: []),
  (94, [true, true, false, false], (1, .iconst (0), 0, 0) :: (1, .istore_n 2, 0, 0) :: []),
  (96, [true, true, true, false], (1, .iload_n 2, 0, 0) :: (1, .aload_n 0, 0, 0) :: (3, .getfield 37, 6, 8) :: (3, .getfield 109, 3, 13) :: (3, .if_icmp .ge (26), 0, 0) :: (1, .aload_n 1, 0, 0) :: (1, .aload_n 0, 0, 0) :: (3, .getfield 37, 6, 8) :: (3, .getfield 112, 3, 9) :: (1, .iload_n 2, 0, 0) :: (1, .iaload, 0, 0) :: (1, .iload_n 2, 0, 0) :: (3, .invokestatic 115, 65, 0) :: mt_Places_putPins_121),
  (130, [false, false, false, false], (1, .return_, 0, 0) :: [])]
def mb_Routes_addSink : ma_Tb := [(0, [true, true, true], (1, .aload_n 0, 0, 0) :: (3, .getfield 23, 7, 3) :: (1, .iload_n 1, 0, 0) :: (1, .dup2, 0, 0) :: (1, .laload, 0, 0) :: (1, .lconst 1, 0, 1) :: (1, .iload_n 2, 0, 0) :: (1, .lshl, 0, 0) :: (1, .lor, 0, 0) :: (1, .lastore, 0, 0) :: (1, .return_, 0, 0) :: [])]
def mt_Routes_makeRounds_35 : List ma_AI := (3, .iinc 3 (1), 0, 0) :: (3, .goto (-24), 0, 0) :: []
def mt_Routes_makeRounds_30 : List ma_AI := (1, .aload_n 0, 0, 0) :: (1, .iload_n 3, 0, 0) :: (3, .invokevirtual 69, 90, 7) :: mt_Routes_makeRounds_35
def mt_Routes_makeRounds_45 : List ma_AI := (3, .ifCond .ne (5), 0, 0) :: (1, .iload_n 2, 0, 0) :: (1, .ireturn, 0, 0) :: []
def mt_Routes_makeRounds_54 : List ma_AI := (3, .iinc 2 (1), 0, 0) :: (3, .goto (-55), 0, 0) :: []
def mb_Routes_makeRounds : ma_Tb := [(0, [true, true, false, false], (1, .iconst (1), 0, 1) :: (1, .istore_n 2, 0, 0) :: []),
  (2, [true, true, true, false], (1, .iload_n 2, 0, 0) :: (1, .iload_n 1, 0, 0) :: (3, .if_icmp .gt (56), 0, 0) :: (1, .aload_n 0, 0, 0) :: (1, .iload_n 2, 0, 0) :: (3, .putfield 56, 7, 10) :: (1, .iconst (0), 0, 0) :: (1, .istore_n 3, 0, 0) :: []),
  (14, [true, true, true, true], (1, .iload_n 3, 0, 0) :: (1, .aload_n 0, 0, 0) :: (3, .getfield 43, 7, 11) :: (3, .getfield 60, 3, 10) :: (3, .if_icmp .ge (19), 0, 0) :: (1, .aload_n 0, 0, 0) :: (1, .iload_n 3, 0, 0) :: (3, .invokevirtual 65, 88, 7) :: mt_Routes_makeRounds_30),
  (41, [true, true, true, false], (1, .aload_n 0, 0, 0) :: (3, .invokevirtual 72, 6, 7) :: mt_Routes_makeRounds_45),
  (50, [true, true, true, false], (1, .aload_n 0, 0, 0) :: (3, .invokevirtual 76, 101, 7) :: mt_Routes_makeRounds_54),
  (60, [false, true, false, false], (1, .iload_n 1, 0, 0) :: (1, .ireturn, 0, 0) :: [])]
def mt_Routes_giveUp_21 : List ma_AI := (3, .ifCond .eq (22), 0, 0) :: (1, .aload_n 0, 0, 0) :: (3, .getfield 20, 7, 2) :: (1, .iload_n 3, 0, 0) :: (1, .dup2, 0, 0) :: (1, .iaload, 0, 0) :: (1, .iconst (1), 0, 1) :: (1, .isub, 0, 0) :: (1, .iastore, 0, 0) :: (1, .aload_n 0, 0, 0) :: (3, .getfield 11, 7, 0) :: (1, .iload_n 1, 0, 0) :: (1, .aaload, 0, 0) :: (1, .iload_n 2, 0, 0) :: (1, .iconst (-1), 0, (-1)) :: (1, .iastore, 0, 0) :: []
def mb_Routes_giveUp : ma_Tb := [(0, [true, true, false, false], (1, .iconst (0), 0, 0) :: (1, .istore_n 2, 0, 0) :: []),
  (2, [true, true, true, false], (1, .iload_n 2, 0, 0) :: (2, .bipush (49), 0, 49) :: (3, .if_icmp .ge (44), 0, 0) :: (1, .aload_n 0, 0, 0) :: (3, .getfield 11, 7, 0) :: (1, .iload_n 1, 0, 0) :: (1, .aaload, 0, 0) :: (1, .iload_n 2, 0, 0) :: (1, .iaload, 0, 0) :: (1, .istore_n 3, 0, 0) :: (1, .iload_n 3, 0, 0) :: (3, .invokestatic 85, 89, 0) :: mt_Routes_giveUp_21),
  (43, [true, true, true, false], (3, .iinc 2 (1), 0, 0) :: (3, .goto (-44), 0, 0) :: []),
  (49, [false, false, false, false], (1, .return_, 0, 0) :: [])]
def mb_Latticefit_isEdge : ma_Tb := [(0, [true], (1, .iload_n 0, 0, 0) :: (3, .ifCond .lt (13), 0, 0) :: (1, .iload_n 0, 0, 0) :: (2, .bipush (84), 0, 84) :: (3, .if_icmp .ge (7), 0, 0) :: (1, .iconst (1), 0, 1) :: (3, .goto (4), 0, 0) :: []),
  (14, [false], (1, .iconst (0), 0, 0) :: []),
  (15, [false], (1, .ireturn, 0, 0) :: [])]
def mt_Routes_layTree_29 : List ma_AI := (3, .ifCond .ne (9), 0, 0) :: (1, .aload_n 0, 0, 0) :: (1, .iload_n 1, 0, 0) :: (1, .iload_n 2, 0, 0) :: (3, .invokevirtual 93, 92, 7) :: []
def mb_Routes_layTree : ma_Tb := [(0, [true, true, false], (1, .iconst (0), 0, 0) :: (1, .istore_n 2, 0, 0) :: []),
  (2, [true, true, true], (1, .iload_n 2, 0, 0) :: (2, .bipush (49), 0, 49) :: (3, .if_icmp .ge (39), 0, 0) :: (1, .aload_n 0, 0, 0) :: (3, .getfield 23, 7, 3) :: (1, .iload_n 1, 0, 0) :: (1, .laload, 0, 0) :: (1, .iload_n 2, 0, 0) :: (1, .lshr, 0, 0) :: (1, .lconst 1, 0, 1) :: (1, .land, 0, 0) :: (1, .lconst 0, 0, 0) :: (1, .lcmp, 0, 0) :: (3, .ifCond .eq (18), 0, 0) :: (1, .aload_n 0, 0, 0) :: (1, .iload_n 1, 0, 0) :: (1, .iload_n 2, 0, 0) :: (3, .invokevirtual 89, 91, 7) :: mt_Routes_layTree_29),
  (38, [true, true, true], (3, .iinc 2 (1), 0, 0) :: (3, .goto (-39), 0, 0) :: []),
  (44, [false, false, false], (1, .return_, 0, 0) :: [])]
def mb_Routes_isInTree : ma_Tb := [(0, [true, true, true], (1, .iload_n 2, 0, 0) :: (1, .aload_n 0, 0, 0) :: (3, .getfield 16, 7, 1) :: (1, .iload_n 1, 0, 0) :: (1, .iaload, 0, 0) :: (3, .if_icmp .eq (14), 0, 0) :: (1, .aload_n 0, 0, 0) :: (3, .getfield 11, 7, 0) :: (1, .iload_n 1, 0, 0) :: (1, .aaload, 0, 0) :: (1, .iload_n 2, 0, 0) :: (1, .iaload, 0, 0) :: (3, .ifCond .lt (7), 0, 0) :: []),
  (21, [false, false, false], (1, .iconst (1), 0, 1) :: (3, .goto (4), 0, 0) :: []),
  (25, [false, false, false], (1, .iconst (0), 0, 0) :: []),
  (26, [false, false, false], (1, .ireturn, 0, 0) :: [])]
def mt_Routes_addWay_5 : List ma_AI := (1, .iconst (0), 0, 0) :: (1, .istore_n 3, 0, 0) :: []
def mt_Routes_addWay_24 : List ma_AI := (2, .istore 4, 0, 0) :: (1, .aload_n 0, 0, 0) :: (3, .getfield 36, 7, 7) :: (2, .iload 4, 0, 0) :: (1, .iconst (1), 0, 1) :: (1, .bastore, 0, 0) :: (2, .iload 4, 0, 0) :: (1, .iload_n 2, 0, 0) :: (3, .if_icmp .ne (6), 0, 0) :: (3, .goto (15), 0, 0) :: []
def mt_Routes_addWay_49 : List ma_AI := (3, .iinc 3 (1), 0, 0) :: (3, .goto (-45), 0, 0) :: []
def mt_Routes_addWay_61 : List ma_AI := (1, .return_, 0, 0) :: []
def mb_Routes_addWay : ma_Tb := [(0, [true, true, true, false, false], (1, .aload_n 0, 0, 0) :: (1, .iload_n 1, 0, 0) :: (3, .invokevirtual 97, 93, 7) :: mt_Routes_addWay_5),
  (7, [true, true, true, true, false], (1, .iload_n 3, 0, 0) :: (2, .bipush (49), 0, 49) :: (3, .if_icmp .ge (45), 0, 0) :: (1, .aload_n 0, 0, 0) :: (3, .getfield 100, 7, 9) :: (3, .ifCond .le (38), 0, 0) :: (1, .aload_n 0, 0, 0) :: (3, .invokevirtual 103, 94, 7) :: mt_Routes_addWay_24),
  (43, [true, true, true, true, true], (1, .aload_n 0, 0, 0) :: (2, .iload 4, 0, 0) :: (3, .invokevirtual 107, 95, 7) :: mt_Routes_addWay_49),
  (55, [true, true, true, false, false], (1, .aload_n 0, 0, 0) :: (1, .iload_n 1, 0, 0) :: (1, .iload_n 2, 0, 0) :: (3, .invokevirtual 110, 98, 7) :: mt_Routes_addWay_61)]
def mt_Routes_openTree_40 : List ma_AI := (3, .ifCond .eq (30), 0, 0) :: (1, .aload_n 0, 0, 0) :: (3, .getfield 30, 7, 5) :: (1, .iload_n 2, 0, 0) :: (1, .iconst (0), 0, 0) :: (1, .iastore, 0, 0) :: (1, .aload_n 0, 0, 0) :: (3, .getfield 40, 7, 8) :: (1, .aload_n 0, 0, 0) :: (3, .getfield 100, 7, 9) :: (1, .iload_n 2, 0, 0) :: (1, .iastore, 0, 0) :: (1, .aload_n 0, 0, 0) :: (1, .dup, 0, 0) :: (3, .getfield 100, 7, 9) :: (1, .iconst (1), 0, 1) :: (1, .iadd, 0, 0) :: (3, .putfield 100, 7, 9) :: []
def mb_Routes_openTree : ma_Tb := [(0, [true, true, false], (1, .aload_n 0, 0, 0) :: (1, .iconst (0), 0, 0) :: (3, .putfield 100, 7, 9) :: (1, .iconst (0), 0, 0) :: (1, .istore_n 2, 0, 0) :: []),
  (7, [true, true, true], (1, .iload_n 2, 0, 0) :: (2, .bipush (49), 0, 49) :: (3, .if_icmp .ge (66), 0, 0) :: (1, .aload_n 0, 0, 0) :: (3, .getfield 36, 7, 7) :: (1, .iload_n 2, 0, 0) :: (1, .iconst (0), 0, 0) :: (1, .bastore, 0, 0) :: (1, .aload_n 0, 0, 0) :: (3, .getfield 30, 7, 5) :: (1, .iload_n 2, 0, 0) :: (1, .iconst (-1), 0, (-1)) :: (1, .iastore, 0, 0) :: (1, .aload_n 0, 0, 0) :: (3, .getfield 33, 7, 6) :: (1, .iload_n 2, 0, 0) :: (1, .iconst (-1), 0, (-1)) :: (1, .iastore, 0, 0) :: (1, .aload_n 0, 0, 0) :: (1, .iload_n 1, 0, 0) :: (1, .iload_n 2, 0, 0) :: (3, .invokevirtual 89, 91, 7) :: mt_Routes_openTree_40),
  (70, [true, true, true], (3, .iinc 2 (1), 0, 0) :: (3, .goto (-66), 0, 0) :: []),
  (76, [false, false, false], (1, .return_, 0, 0) :: [])]
def mb_Routes_takeCheapest : ma_Tb := [(0, [true, false, false, false], (1, .iconst (0), 0, 0) :: (1, .istore_n 1, 0, 0) :: (1, .iconst (1), 0, 1) :: (1, .istore_n 2, 0, 0) :: []),
  (4, [true, true, true, false], (1, .iload_n 2, 0, 0) :: (1, .aload_n 0, 0, 0) :: (3, .getfield 100, 7, 9) :: (3, .if_icmp .ge (58), 0, 0) :: (1, .aload_n 0, 0, 0) :: (3, .getfield 30, 7, 5) :: (1, .aload_n 0, 0, 0) :: (3, .getfield 40, 7, 8) :: (1, .iload_n 1, 0, 0) :: (1, .iaload, 0, 0) :: (1, .iaload, 0, 0) :: (1, .aload_n 0, 0, 0) :: (3, .getfield 30, 7, 5) :: (1, .aload_n 0, 0, 0) :: (3, .getfield 40, 7, 8) :: (1, .iload_n 2, 0, 0) :: (1, .iaload, 0, 0) :: (1, .iaload, 0, 0) :: (1, .isub, 0, 0) :: (1, .istore_n 3, 0, 0) :: (1, .iload_n 3, 0, 0) :: (3, .ifCond .gt (22), 0, 0) :: (1, .iload_n 3, 0, 0) :: (3, .ifCond .ne (20), 0, 0) :: (1, .aload_n 0, 0, 0) :: (3, .getfield 40, 7, 8) :: (1, .iload_n 2, 0, 0) :: (1, .iaload, 0, 0) :: (1, .aload_n 0, 0, 0) :: (3, .getfield 40, 7, 8) :: (1, .iload_n 1, 0, 0) :: (1, .iaload, 0, 0) :: (3, .if_icmp .ge (5), 0, 0) :: []),
  (59, [true, false, true, false], (1, .iload_n 2, 0, 0) :: (1, .istore_n 1, 0, 0) :: []),
  (61, [true, true, true, false], (3, .iinc 2 (1), 0, 0) :: (3, .goto (-60), 0, 0) :: []),
  (67, [true, true, false, false], (1, .aload_n 0, 0, 0) :: (3, .getfield 40, 7, 8) :: (1, .iload_n 1, 0, 0) :: (1, .iaload, 0, 0) :: (1, .istore_n 2, 0, 0) :: (1, .aload_n 0, 0, 0) :: (1, .dup, 0, 0) :: (3, .getfield 100, 7, 9) :: (1, .iconst (1), 0, 1) :: (1, .isub, 0, 0) :: (3, .putfield 100, 7, 9) :: (1, .aload_n 0, 0, 0) :: (3, .getfield 40, 7, 8) :: (1, .iload_n 1, 0, 0) :: (1, .aload_n 0, 0, 0) :: (3, .getfield 40, 7, 8) :: (1, .aload_n 0, 0, 0) :: (3, .getfield 100, 7, 9) :: (1, .iaload, 0, 0) :: (1, .iastore, 0, 0) :: (1, .iload_n 2, 0, 0) :: (1, .ireturn, 0, 0) :: [])]
def mb_Routes_openNeighbours : ma_Tb := [(0, [true, true, false, false, false], (1, .iload_n 1, 0, 0) :: (2, .bipush (7), 0, 7) :: (1, .idiv, 0, 0) :: (1, .istore_n 2, 0, 0) :: (1, .iload_n 1, 0, 0) :: (2, .bipush (7), 0, 7) :: (1, .irem, 0, 0) :: (1, .istore_n 3, 0, 0) :: (2, .bipush (42), 0, 42) :: (2, .bipush (6), 0, 6) :: (1, .iload_n 2, 0, 0) :: (1, .imul, 0, 0) :: (1, .iadd, 0, 0) :: (1, .iload_n 3, 0, 0) :: (1, .iadd, 0, 0) :: (2, .istore 4, 0, 0) :: (1, .iload_n 2, 0, 0) :: (3, .ifCond .le (16), 0, 0) :: (1, .aload_n 0, 0, 0) :: (1, .iload_n 1, 0, 0) :: (1, .iload_n 1, 0, 0) :: (2, .bipush (7), 0, 7) :: (1, .isub, 0, 0) :: (1, .iload_n 1, 0, 0) :: (2, .bipush (7), 0, 7) :: (1, .isub, 0, 0) :: (3, .invokevirtual 113, 96, 7) :: []),
  (38, [true, true, true, true, true], (1, .iload_n 2, 0, 0) :: (2, .bipush (6), 0, 6) :: (3, .if_icmp .ge (13), 0, 0) :: (1, .aload_n 0, 0, 0) :: (1, .iload_n 1, 0, 0) :: (1, .iload_n 1, 0, 0) :: (1, .iload_n 1, 0, 0) :: (2, .bipush (7), 0, 7) :: (1, .iadd, 0, 0) :: (3, .invokevirtual 113, 96, 7) :: []),
  (54, [true, true, false, true, true], (1, .iload_n 3, 0, 0) :: (3, .ifCond .le (15), 0, 0) :: (1, .aload_n 0, 0, 0) :: (1, .iload_n 1, 0, 0) :: (2, .iload 4, 0, 0) :: (1, .iconst (1), 0, 1) :: (1, .isub, 0, 0) :: (1, .iload_n 1, 0, 0) :: (1, .iconst (1), 0, 1) :: (1, .isub, 0, 0) :: (3, .invokevirtual 113, 96, 7) :: []),
  (70, [true, true, false, true, true], (1, .iload_n 3, 0, 0) :: (2, .bipush (6), 0, 6) :: (3, .if_icmp .ge (13), 0, 0) :: (1, .aload_n 0, 0, 0) :: (1, .iload_n 1, 0, 0) :: (2, .iload 4, 0, 0) :: (1, .iload_n 1, 0, 0) :: (1, .iconst (1), 0, 1) :: (1, .iadd, 0, 0) :: (3, .invokevirtual 113, 96, 7) :: []),
  (86, [false, false, false, false, false], (1, .return_, 0, 0) :: [])]
def mt_Routes_offerWay_21 : List ma_AI := (1, .iadd, 0, 0) :: (2, .istore 4, 0, 0) :: (1, .aload_n 0, 0, 0) :: (3, .getfield 30, 7, 5) :: (1, .iload_n 3, 0, 0) :: (1, .iaload, 0, 0) :: (3, .ifCond .ge (26), 0, 0) :: (1, .aload_n 0, 0, 0) :: (3, .getfield 40, 7, 8) :: (1, .aload_n 0, 0, 0) :: (3, .getfield 100, 7, 9) :: (1, .iload_n 3, 0, 0) :: (1, .iastore, 0, 0) :: (1, .aload_n 0, 0, 0) :: (1, .dup, 0, 0) :: (3, .getfield 100, 7, 9) :: (1, .iconst (1), 0, 1) :: (1, .iadd, 0, 0) :: (3, .putfield 100, 7, 9) :: (3, .goto (15), 0, 0) :: []
def mb_Routes_offerWay : ma_Tb := [(0, [true, true, true, true, false], (1, .aload_n 0, 0, 0) :: (3, .getfield 36, 7, 7) :: (1, .iload_n 3, 0, 0) :: (1, .baload, 0, 0) :: (3, .ifCond .eq (4), 0, 0) :: (1, .return_, 0, 0) :: []),
  (10, [true, true, true, true, false], (1, .aload_n 0, 0, 0) :: (3, .getfield 30, 7, 5) :: (1, .iload_n 1, 0, 0) :: (1, .iaload, 0, 0) :: (1, .aload_n 0, 0, 0) :: (1, .iload_n 2, 0, 0) :: (3, .invokevirtual 117, 97, 7) :: mt_Routes_offerWay_21),
  (56, [true, false, true, true, true], (1, .aload_n 0, 0, 0) :: (3, .getfield 30, 7, 5) :: (1, .iload_n 3, 0, 0) :: (1, .iaload, 0, 0) :: (2, .iload 4, 0, 0) :: (3, .if_icmp .gt (4), 0, 0) :: (1, .return_, 0, 0) :: []),
  (68, [true, false, true, true, true], (1, .aload_n 0, 0, 0) :: (3, .getfield 30, 7, 5) :: (1, .iload_n 3, 0, 0) :: (2, .iload 4, 0, 0) :: (1, .iastore, 0, 0) :: (1, .aload_n 0, 0, 0) :: (3, .getfield 33, 7, 6) :: (1, .iload_n 3, 0, 0) :: (1, .iload_n 2, 0, 0) :: (1, .iastore, 0, 0) :: (1, .return_, 0, 0) :: [])]
def mb_Routes_tollOf : ma_Tb := [(0, [true, true, false], (1, .aload_n 0, 0, 0) :: (3, .getfield 20, 7, 2) :: (1, .iload_n 1, 0, 0) :: (1, .iaload, 0, 0) :: (1, .iconst (1), 0, 1) :: (1, .iadd, 0, 0) :: (1, .iconst (2), 0, 2) :: (1, .isub, 0, 0) :: (1, .istore_n 2, 0, 0) :: (1, .iconst (1), 0, 1) :: (1, .aload_n 0, 0, 0) :: (3, .getfield 27, 7, 4) :: (1, .iload_n 1, 0, 0) :: (1, .iaload, 0, 0) :: (1, .iadd, 0, 0) :: (1, .iload_n 2, 0, 0) :: (3, .ifCond .le (14), 0, 0) :: (1, .iconst (4), 0, 4) :: (1, .aload_n 0, 0, 0) :: (3, .getfield 56, 7, 10) :: (1, .imul, 0, 0) :: (1, .iload_n 2, 0, 0) :: (1, .imul, 0, 0) :: (3, .goto (4), 0, 0) :: []),
  (34, [false, false, false], (1, .iconst (0), 0, 0) :: []),
  (35, [false, false, false], (1, .iadd, 0, 0) :: (1, .ireturn, 0, 0) :: [])]
def mt_Routes_takeWay_34 : List ma_AI := (3, .ifCond .ne (4), 0, 0) :: (1, .return_, 0, 0) :: []
def mt_Routes_takeWay_18 : List ma_AI := (3, .ifCond .ne (54), 0, 0) :: (1, .aload_n 0, 0, 0) :: (3, .getfield 33, 7, 6) :: (1, .iload_n 3, 0, 0) :: (1, .iaload, 0, 0) :: (2, .istore 5, 0, 0) :: (2, .iload 5, 0, 0) :: (3, .invokestatic 85, 89, 0) :: mt_Routes_takeWay_34
def mt_Routes_takeWay_65 : List ma_AI := (1, .istore_n 3, 0, 0) :: (3, .iinc 4 (1), 0, 0) :: (3, .goto (-64), 0, 0) :: []
def mb_Routes_takeWay : ma_Tb := [(0, [true, true, true, false, false, false], (1, .iload_n 2, 0, 0) :: (1, .istore_n 3, 0, 0) :: (1, .iconst (0), 0, 0) :: (2, .istore 4, 0, 0) :: []),
  (5, [true, true, false, true, true, false], (2, .iload 4, 0, 0) :: (2, .bipush (49), 0, 49) :: (3, .if_icmp .ge (63), 0, 0) :: (1, .aload_n 0, 0, 0) :: (1, .iload_n 1, 0, 0) :: (1, .iload_n 3, 0, 0) :: (3, .invokevirtual 89, 91, 7) :: mt_Routes_takeWay_18),
  (38, [true, true, false, true, true, true], (1, .aload_n 0, 0, 0) :: (3, .getfield 11, 7, 0) :: (1, .iload_n 1, 0, 0) :: (1, .aaload, 0, 0) :: (1, .iload_n 3, 0, 0) :: (2, .iload 5, 0, 0) :: (1, .iastore, 0, 0) :: (1, .aload_n 0, 0, 0) :: (3, .getfield 20, 7, 2) :: (2, .iload 5, 0, 0) :: (1, .dup2, 0, 0) :: (1, .iaload, 0, 0) :: (1, .iconst (1), 0, 1) :: (1, .iadd, 0, 0) :: (1, .iastore, 0, 0) :: (2, .iload 5, 0, 0) :: (1, .iload_n 3, 0, 0) :: (3, .invokestatic 121, 99, 0) :: mt_Routes_takeWay_65),
  (72, [false, false, false, false, false, false], (1, .return_, 0, 0) :: [])]
def mt_Routes_otherEnd_4 : List ma_AI := (1, .istore_n 2, 0, 0) :: (1, .iload_n 2, 0, 0) :: (1, .iload_n 0, 0, 0) :: (2, .bipush (42), 0, 42) :: (3, .if_icmp .ge (8), 0, 0) :: (2, .bipush (7), 0, 7) :: (3, .goto (4), 0, 0) :: []
def mb_Routes_otherEnd : ma_Tb := [(0, [true, true, false, false], (1, .iload_n 0, 0, 0) :: (3, .invokestatic 124, 100, 0) :: mt_Routes_otherEnd_4),
  (17, [false, true, true, false], (1, .iconst (1), 0, 1) :: []),
  (18, [false, true, true, false], (1, .iadd, 0, 0) :: (1, .istore_n 3, 0, 0) :: (1, .iload_n 1, 0, 0) :: (1, .iload_n 2, 0, 0) :: (3, .if_icmp .ne (7), 0, 0) :: (1, .iload_n 3, 0, 0) :: (3, .goto (4), 0, 0) :: []),
  (29, [false, false, true, false], (1, .iload_n 2, 0, 0) :: []),
  (30, [false, false, false, false], (1, .ireturn, 0, 0) :: [])]
def mb_Routes_lowEnd : ma_Tb := [(0, [true, false], (1, .iload_n 0, 0, 0) :: (2, .bipush (42), 0, 42) :: (3, .if_icmp .ge (5), 0, 0) :: (1, .iload_n 0, 0, 0) :: (1, .ireturn, 0, 0) :: []),
  (8, [true, false], (1, .iload_n 0, 0, 0) :: (2, .bipush (42), 0, 42) :: (1, .isub, 0, 0) :: (1, .istore_n 1, 0, 0) :: (2, .bipush (7), 0, 7) :: (1, .iload_n 1, 0, 0) :: (2, .bipush (6), 0, 6) :: (1, .idiv, 0, 0) :: (1, .imul, 0, 0) :: (1, .iload_n 1, 0, 0) :: (2, .bipush (6), 0, 6) :: (1, .irem, 0, 0) :: (1, .iadd, 0, 0) :: (1, .ireturn, 0, 0) :: [])]
def mb_Routes_raisePrices : ma_Tb := [(0, [true, false], (1, .iconst (0), 0, 0) :: (1, .istore_n 1, 0, 0) :: []),
  (2, [true, true], (1, .iload_n 1, 0, 0) :: (2, .bipush (84), 0, 84) :: (3, .if_icmp .ge (30), 0, 0) :: (1, .aload_n 0, 0, 0) :: (3, .getfield 27, 7, 4) :: (1, .iload_n 1, 0, 0) :: (1, .dup2, 0, 0) :: (1, .iaload, 0, 0) :: (1, .iconst (0), 0, 0) :: (1, .aload_n 0, 0, 0) :: (3, .getfield 20, 7, 2) :: (1, .iload_n 1, 0, 0) :: (1, .iaload, 0, 0) :: (1, .iconst (2), 0, 2) :: (1, .isub, 0, 0) :: (3, .invokestatic 79, 10002, 0) :: (1, .iadd, 0, 0) :: (1, .iastore, 0, 0) :: (3, .iinc 1 (1), 0, 0) :: (3, .goto (-30), 0, 0) :: []),
  (35, [false, false], (1, .return_, 0, 0) :: [])]
def mt_LatticefitLaw_netsOn_7 : List ma_AI := (1, .i2l, 0, 0) :: (1, .lastore, 0, 0) :: (3, .goto (6), 0, 0) :: []
def mb_LatticefitLaw_netsOn : ma_Tb := [(0, [true, true, true, false], (1, .aload_n 2, 0, 0) :: (1, .iconst (0), 0, 0) :: (1, .aload_n 0, 0, 0) :: (1, .iload_n 1, 0, 0) :: (3, .invokevirtual 84, 103, 10) :: mt_LatticefitLaw_netsOn_7),
  (12, [false, false, false, false], (1, .astore_n 3, 0, 0) :: (1, .iconst (1), 0, 1) :: (1, .ireturn, 0, 0) :: []),
  (15, [false, false, false, false], (1, .iconst (0), 0, 0) :: (1, .ireturn, 0, 0) :: [])]
def mt_Latticefit_netsOn_4 : List ma_AI := (3, .ifCond .ne (11), 0, 0) :: (8, .athrow, 2, 2) :: []
def mb_Latticefit_netsOn : ma_Tb := [(0, [true, true], (1, .iload_n 1, 0, 0) :: (3, .invokestatic 228, 89, 0) :: mt_Latticefit_netsOn_4),
  (15, [true, true], (1, .aload_n 0, 0, 0) :: (3, .getfield 87, 10, 10) :: (1, .iconst (1), 0, 1) :: (3, .if_icmp .ge (7), 0, 0) :: (1, .iconst (0), 0, 0) :: (3, .goto (12), 0, 0) :: []),
  (27, [true, true], (1, .aload_n 0, 0, 0) :: (3, .getfield 44, 10, 4) :: (3, .getfield 231, 7, 2) :: (1, .iload_n 1, 0, 0) :: (1, .iaload, 0, 0) :: []),
  (36, [false, false], (1, .ireturn, 0, 0) :: [])]
def mt_LatticefitLaw_wireOf_8 : List ma_AI := (1, .i2l, 0, 0) :: (1, .lastore, 0, 0) :: (3, .goto (15), 0, 0) :: []
def mb_LatticefitLaw_wireOf : ma_Tb := [(0, [true, true, true, true, false], (1, .aload_n 3, 0, 0) :: (1, .iconst (0), 0, 0) :: (1, .aload_n 0, 0, 0) :: (1, .iload_n 1, 0, 0) :: (1, .iload_n 2, 0, 0) :: (3, .invokevirtual 87, 105, 10) :: mt_LatticefitLaw_wireOf_8),
  (13, [false, false, false, false, false], (2, .astore 4, 0, 0) :: (1, .iconst (1), 0, 1) :: (1, .ireturn, 0, 0) :: []),
  (17, [false, false, false, false, false], (2, .astore 4, 0, 0) :: (1, .iconst (2), 0, 2) :: (1, .ireturn, 0, 0) :: []),
  (21, [false, false, false, false, false], (2, .astore 4, 0, 0) :: (1, .iconst (3), 0, 3) :: (1, .ireturn, 0, 0) :: []),
  (25, [false, false, false, false, false], (1, .iconst (0), 0, 0) :: (1, .ireturn, 0, 0) :: [])]
def mt_Latticefit_wireOf_15 : List ma_AI := (3, .ifCond .ne (11), 0, 0) :: []
def mt_Latticefit_wireOf_8 : List ma_AI := (3, .ifCond .eq (10), 0, 0) :: (1, .iload_n 2, 0, 0) :: (3, .invokestatic 228, 89, 0) :: mt_Latticefit_wireOf_15
def mt_Latticefit_wireOf_40 : List ma_AI := (3, .ifCond .ne (11), 0, 0) :: (8, .athrow, 4, 4) :: []
def mt_Latticefit_wireOf_31 : List ma_AI := (1, .aload_n 0, 0, 0) :: (3, .getfield 44, 10, 4) :: (1, .iload_n 1, 0, 0) :: (1, .iload_n 2, 0, 0) :: (3, .invokevirtual 234, 106, 7) :: mt_Latticefit_wireOf_40
def mt_Latticefit_wireOf_60 : List ma_AI := (1, .ireturn, 0, 0) :: []
def mb_Latticefit_wireOf : ma_Tb := [(0, [true, true, true], (1, .aload_n 0, 0, 0) :: (3, .getfield 10, 10, 0) :: (1, .iload_n 1, 0, 0) :: (3, .invokevirtual 114, 4, 3) :: mt_Latticefit_wireOf_8),
  (18, [false, false, false], (8, .athrow, 2, 2) :: []),
  (26, [true, true, true], (1, .aload_n 0, 0, 0) :: (1, .iconst (2), 0, 2) :: (3, .invokevirtual 207, 69, 10) :: mt_Latticefit_wireOf_31),
  (51, [true, true, true], (1, .aload_n 0, 0, 0) :: (3, .getfield 44, 10, 4) :: (1, .iload_n 1, 0, 0) :: (1, .iload_n 2, 0, 0) :: (3, .invokevirtual 238, 107, 7) :: mt_Latticefit_wireOf_60)]
def mt_Routes_has_28 : List ma_AI := (1, .iaload, 0, 0) :: (1, .iload_n 2, 0, 0) :: (3, .if_icmp .ne (7), 0, 0) :: []
def mt_Routes_has_4 : List ma_AI := (1, .istore_n 3, 0, 0) :: (1, .aload_n 0, 0, 0) :: (3, .getfield 11, 7, 0) :: (1, .iload_n 1, 0, 0) :: (1, .aaload, 0, 0) :: (1, .iload_n 3, 0, 0) :: (1, .iaload, 0, 0) :: (1, .iload_n 2, 0, 0) :: (3, .if_icmp .eq (19), 0, 0) :: (1, .aload_n 0, 0, 0) :: (3, .getfield 11, 7, 0) :: (1, .iload_n 1, 0, 0) :: (1, .aaload, 0, 0) :: (1, .iload_n 2, 0, 0) :: (1, .iload_n 3, 0, 0) :: (3, .invokestatic 121, 99, 0) :: mt_Routes_has_28
def mb_Routes_has : ma_Tb := [(0, [true, true, true, false], (1, .iload_n 2, 0, 0) :: (3, .invokestatic 124, 100, 0) :: mt_Routes_has_4),
  (33, [false, false, false, false], (1, .iconst (1), 0, 1) :: (3, .goto (4), 0, 0) :: []),
  (37, [false, false, false, false], (1, .iconst (0), 0, 0) :: []),
  (38, [false, false, false, false], (1, .ireturn, 0, 0) :: [])]
def mt_Routes_wire_19 : List ma_AI := (3, .ifCond .eq (7), 0, 0) :: (1, .iconst (1), 0, 1) :: (3, .goto (4), 0, 0) :: []
def mb_Routes_wire : ma_Tb := [(0, [true, true, true, false, false], (1, .iconst (0), 0, 0) :: (1, .istore_n 3, 0, 0) :: (1, .iconst (0), 0, 0) :: (2, .istore 4, 0, 0) :: []),
  (5, [true, true, true, true, true], (2, .iload 4, 0, 0) :: (1, .iload_n 1, 0, 0) :: (3, .if_icmp .ge (27), 0, 0) :: (1, .iload_n 3, 0, 0) :: (1, .aload_n 0, 0, 0) :: (2, .iload 4, 0, 0) :: (1, .iload_n 2, 0, 0) :: (3, .invokevirtual 127, 106, 7) :: mt_Routes_wire_19),
  (26, [true, true, true, false, true], (1, .iconst (0), 0, 0) :: []),
  (27, [true, true, true, false, true], (1, .iadd, 0, 0) :: (1, .istore_n 3, 0, 0) :: (3, .iinc 4 (1), 0, 0) :: (3, .goto (-27), 0, 0) :: []),
  (35, [false, false, false, true, false], (1, .iload_n 3, 0, 0) :: (1, .ireturn, 0, 0) :: [])]
def mt_LatticefitLaw_timeOf_7 : List ma_AI := (1, .i2l, 0, 0) :: (1, .lastore, 0, 0) :: (3, .goto (12), 0, 0) :: []
def mb_LatticefitLaw_timeOf : ma_Tb := [(0, [true, true, true, false], (1, .aload_n 2, 0, 0) :: (1, .iconst (0), 0, 0) :: (1, .aload_n 0, 0, 0) :: (1, .iload_n 1, 0, 0) :: (3, .invokevirtual 90, 109, 10) :: mt_LatticefitLaw_timeOf_7),
  (12, [false, false, false, false], (1, .astore_n 3, 0, 0) :: (1, .iconst (1), 0, 1) :: (1, .ireturn, 0, 0) :: []),
  (15, [false, false, false, false], (1, .astore_n 3, 0, 0) :: (1, .iconst (2), 0, 2) :: (1, .ireturn, 0, 0) :: []),
  (18, [false, false, false, false], (1, .astore_n 3, 0, 0) :: (1, .iconst (3), 0, 3) :: (1, .ireturn, 0, 0) :: []),
  (21, [false, false, false, false], (1, .iconst (0), 0, 0) :: (1, .ireturn, 0, 0) :: [])]
def mt_Latticefit_timeOf_8 : List ma_AI := (3, .ifCond .ne (11), 0, 0) :: (8, .athrow, 2, 2) :: []
def mt_Latticefit_timeOf_32 : List ma_AI := (3, .ifCond .eq (23), 0, 0) :: (1, .aload_n 0, 0, 0) :: (3, .getfield 28, 10, 2) :: (3, .getfield 162, 0, 6) :: (1, .iload_n 1, 0, 0) :: (1, .baload, 0, 0) :: (3, .ifCond .ne (11), 0, 0) :: (8, .athrow, 4, 4) :: []
def mt_Latticefit_timeOf_24 : List ma_AI := (1, .aload_n 0, 0, 0) :: (3, .getfield 10, 10, 0) :: (1, .iload_n 1, 0, 0) :: (3, .invokevirtual 242, 3, 3) :: mt_Latticefit_timeOf_32
def mt_Latticefit_timeOf_62 : List ma_AI := (1, .aload_n 0, 0, 0) :: (3, .getfield 53, 10, 5) :: (3, .getfield 246, 9, 0) :: (1, .iload_n 1, 0, 0) :: (1, .iaload, 0, 0) :: (1, .ireturn, 0, 0) :: []
def mb_Latticefit_timeOf : ma_Tb := [(0, [true, true], (1, .aload_n 0, 0, 0) :: (3, .getfield 10, 10, 0) :: (1, .iload_n 1, 0, 0) :: (3, .invokevirtual 114, 4, 3) :: mt_Latticefit_timeOf_8),
  (19, [true, true], (1, .aload_n 0, 0, 0) :: (1, .iconst (2), 0, 2) :: (3, .invokevirtual 207, 69, 10) :: mt_Latticefit_timeOf_24),
  (55, [true, true], (1, .aload_n 0, 0, 0) :: (3, .getfield 53, 10, 5) :: (3, .invokevirtual 245, 110, 9) :: mt_Latticefit_timeOf_62)]
def mt_Times_findAll_31 : List ma_AI := (3, .ifCond .eq (11), 0, 0) :: (1, .iload_n 2, 0, 0) :: (3, .ifCond .lt (7), 0, 0) :: (1, .iconst (1), 0, 1) :: (3, .goto (4), 0, 0) :: []
def mt_Times_findAll_58 : List ma_AI := (3, .goto (4), 0, 0) :: []
def mb_Times_findAll : ma_Tb := [(0, [true, false, false, false], (1, .iconst (0), 0, 0) :: (1, .istore_n 1, 0, 0) :: []),
  (2, [true, true, false, false], (1, .iload_n 1, 0, 0) :: (1, .aload_n 0, 0, 0) :: (3, .getfield 15, 9, 1) :: (3, .getfield 31, 3, 10) :: (3, .if_icmp .ge (59), 0, 0) :: (1, .aload_n 0, 0, 0) :: (3, .getfield 19, 9, 2) :: (3, .getfield 37, 0, 5) :: (1, .iload_n 1, 0, 0) :: (1, .iaload, 0, 0) :: (1, .istore_n 2, 0, 0) :: (1, .aload_n 0, 0, 0) :: (3, .getfield 15, 9, 1) :: (1, .iload_n 1, 0, 0) :: (3, .invokevirtual 40, 3, 3) :: mt_Times_findAll_31),
  (42, [true, true, true, false], (1, .iconst (0), 0, 0) :: []),
  (43, [true, true, true, false], (1, .istore_n 3, 0, 0) :: (1, .aload_n 0, 0, 0) :: (3, .getfield 9, 9, 0) :: (1, .iload_n 1, 0, 0) :: (1, .iload_n 3, 0, 0) :: (3, .ifCond .eq (11), 0, 0) :: (1, .aload_n 0, 0, 0) :: (1, .iload_n 2, 0, 0) :: (3, .invokevirtual 44, 111, 9) :: mt_Times_findAll_58),
  (61, [true, true, false, false], (1, .iconst (0), 0, 0) :: []),
  (62, [true, true, false, false], (1, .iastore, 0, 0) :: (3, .iinc 1 (1), 0, 0) :: (3, .goto (-64), 0, 0) :: []),
  (69, [false, false, false, false], (1, .return_, 0, 0) :: [])]
def mt_Times_ofTable_12 : List ma_AI := (1, .istore_n 2, 0, 0) :: (1, .iconst (0), 0, 0) :: (1, .istore_n 3, 0, 0) :: (1, .iconst (0), 0, 0) :: (2, .istore 4, 0, 0) :: []
def mt_Times_ofTable_50 : List ma_AI := (3, .invokestatic 67, 10002, 0) :: (1, .istore_n 3, 0, 0) :: (3, .iinc 4 (1), 0, 0) :: (3, .goto (-39), 0, 0) :: []
def mb_Times_ofTable : ma_Tb := [(0, [true, true, false, false, false], (1, .aload_n 0, 0, 0) :: (3, .getfield 23, 9, 3) :: (3, .getfield 48, 6, 0) :: (1, .iload_n 1, 0, 0) :: (1, .iaload, 0, 0) :: (3, .invokestatic 53, 63, 0) :: mt_Times_ofTable_12),
  (18, [true, true, true, true, true], (2, .iload 4, 0, 0) :: (1, .aload_n 0, 0, 0) :: (3, .getfield 19, 9, 2) :: (3, .getfield 56, 0, 3) :: (1, .iload_n 1, 0, 0) :: (1, .iaload, 0, 0) :: (3, .if_icmp .ge (31), 0, 0) :: (1, .iload_n 3, 0, 0) :: (1, .aload_n 0, 0, 0) :: (1, .aload_n 0, 0, 0) :: (3, .getfield 19, 9, 2) :: (3, .getfield 59, 0, 4) :: (1, .iload_n 1, 0, 0) :: (1, .aaload, 0, 0) :: (2, .iload 4, 0, 0) :: (1, .iaload, 0, 0) :: (1, .iload_n 2, 0, 0) :: (3, .invokevirtual 63, 112, 9) :: mt_Times_ofTable_50),
  (60, [false, false, false, true, false], (1, .iconst (3), 0, 3) :: (1, .iload_n 3, 0, 0) :: (1, .iadd, 0, 0) :: (1, .ireturn, 0, 0) :: [])]
def mt_Times_arrival_15 : List ma_AI := (1, .iadd, 0, 0) :: (1, .ireturn, 0, 0) :: []
def mb_Times_arrival : ma_Tb := [(0, [true, true, true], (1, .aload_n 0, 0, 0) :: (3, .getfield 9, 9, 0) :: (1, .iload_n 1, 0, 0) :: (1, .iaload, 0, 0) :: (1, .aload_n 0, 0, 0) :: (3, .getfield 27, 9, 4) :: (1, .iload_n 1, 0, 0) :: (1, .iload_n 2, 0, 0) :: (3, .invokevirtual 72, 113, 7) :: mt_Times_arrival_15)]
def mt_Routes_wayTo_38 : List ma_AI := (1, .istore_n 3, 0, 0) :: (3, .iinc 4 (1), 0, 0) :: (3, .goto (-37), 0, 0) :: []
def mt_Routes_wayTo_23 : List ma_AI := (3, .ifCond .eq (22), 0, 0) :: (1, .aload_n 0, 0, 0) :: (3, .getfield 11, 7, 0) :: (1, .iload_n 1, 0, 0) :: (1, .aaload, 0, 0) :: (1, .iload_n 3, 0, 0) :: (1, .iaload, 0, 0) :: (1, .iload_n 3, 0, 0) :: (3, .invokestatic 121, 99, 0) :: mt_Routes_wayTo_38
def mb_Routes_wayTo : ma_Tb := [(0, [true, true, true, false, false], (1, .iload_n 2, 0, 0) :: (1, .istore_n 3, 0, 0) :: (1, .iconst (0), 0, 0) :: (2, .istore 4, 0, 0) :: []),
  (5, [true, true, false, true, true], (2, .iload 4, 0, 0) :: (2, .bipush (49), 0, 49) :: (3, .if_icmp .ge (36), 0, 0) :: (1, .aload_n 0, 0, 0) :: (3, .getfield 11, 7, 0) :: (1, .iload_n 1, 0, 0) :: (1, .aaload, 0, 0) :: (1, .iload_n 3, 0, 0) :: (1, .iaload, 0, 0) :: (3, .invokestatic 85, 89, 0) :: mt_Routes_wayTo_23),
  (45, [false, false, false, false, true], (2, .iload 4, 0, 0) :: (1, .ireturn, 0, 0) :: [])]
def mt_LatticefitLaw_slowest_6 : List ma_AI := (1, .i2l, 0, 0) :: (1, .lastore, 0, 0) :: (3, .goto (6), 0, 0) :: []
def mb_LatticefitLaw_slowest : ma_Tb := [(0, [true, true, false], (1, .aload_n 1, 0, 0) :: (1, .iconst (0), 0, 0) :: (1, .aload_n 0, 0, 0) :: (3, .invokevirtual 93, 115, 10) :: mt_LatticefitLaw_slowest_6),
  (11, [false, false, false], (1, .astore_n 2, 0, 0) :: (1, .iconst (1), 0, 1) :: (1, .ireturn, 0, 0) :: []),
  (14, [false, false, false], (1, .iconst (0), 0, 0) :: (1, .ireturn, 0, 0) :: [])]
def mt_Latticefit_slowest_19 : List ma_AI := (1, .ireturn, 0, 0) :: []
def mt_Latticefit_slowest_12 : List ma_AI := (1, .aload_n 0, 0, 0) :: (3, .getfield 53, 10, 5) :: (3, .invokevirtual 249, 116, 9) :: mt_Latticefit_slowest_19
def mt_Latticefit_slowest_5 : List ma_AI := (1, .aload_n 0, 0, 0) :: (3, .getfield 53, 10, 5) :: (3, .invokevirtual 245, 110, 9) :: mt_Latticefit_slowest_12
def mb_Latticefit_slowest : ma_Tb := [(0, [true], (1, .aload_n 0, 0, 0) :: (1, .iconst (2), 0, 2) :: (3, .invokevirtual 207, 69, 10) :: mt_Latticefit_slowest_5)]
def mt_Times_latest_35 : List ma_AI := (3, .invokestatic 67, 10002, 0) :: (1, .istore_n 1, 0, 0) :: (3, .iinc 2 (1), 0, 0) :: (3, .goto (-38), 0, 0) :: []
def mt_Times_latest_19 : List ma_AI := (1, .istore_n 3, 0, 0) :: (1, .iload_n 1, 0, 0) :: (1, .aload_n 0, 0, 0) :: (1, .aload_n 0, 0, 0) :: (3, .getfield 15, 9, 1) :: (3, .getfield 83, 3, 9) :: (1, .iload_n 2, 0, 0) :: (1, .iaload, 0, 0) :: (1, .iload_n 3, 0, 0) :: (3, .invokevirtual 63, 112, 9) :: mt_Times_latest_35
def mt_Times_latest_86 : List ma_AI := (3, .invokestatic 67, 10002, 0) :: (1, .istore_n 1, 0, 0) :: []
def mb_Times_latest : ma_Tb := [(0, [true, false, false, false], (1, .iconst (0), 0, 0) :: (1, .istore_n 1, 0, 0) :: (1, .iconst (0), 0, 0) :: (1, .istore_n 2, 0, 0) :: []),
  (4, [true, true, true, false], (1, .iload_n 2, 0, 0) :: (1, .aload_n 0, 0, 0) :: (3, .getfield 15, 9, 1) :: (3, .getfield 77, 3, 13) :: (3, .if_icmp .ge (33), 0, 0) :: (1, .iload_n 2, 0, 0) :: (3, .invokestatic 80, 65, 0) :: mt_Times_latest_19),
  (45, [true, true, false, false], (1, .iconst (0), 0, 0) :: (1, .istore_n 2, 0, 0) :: []),
  (47, [true, true, true, false], (1, .iload_n 2, 0, 0) :: (1, .aload_n 0, 0, 0) :: (3, .getfield 15, 9, 1) :: (3, .getfield 86, 3, 12) :: (3, .if_icmp .ge (41), 0, 0) :: (1, .aload_n 0, 0, 0) :: (3, .getfield 19, 9, 2) :: (3, .getfield 37, 0, 5) :: (1, .aload_n 0, 0, 0) :: (3, .getfield 15, 9, 1) :: (3, .getfield 89, 3, 8) :: (1, .iload_n 2, 0, 0) :: (1, .iaload, 0, 0) :: (1, .iaload, 0, 0) :: (1, .istore_n 3, 0, 0) :: (1, .iload_n 3, 0, 0) :: (3, .ifCond .lt (13), 0, 0) :: (1, .iload_n 1, 0, 0) :: (1, .aload_n 0, 0, 0) :: (1, .iload_n 3, 0, 0) :: (3, .invokevirtual 44, 111, 9) :: mt_Times_latest_86),
  (90, [true, true, true, false], (3, .iinc 2 (1), 0, 0) :: (3, .goto (-46), 0, 0) :: []),
  (96, [false, true, false, false], (1, .iload_n 1, 0, 0) :: (1, .ireturn, 0, 0) :: [])]
def mt_LatticefitLaw_worstStretch_6 : List ma_AI := (1, .dastore, 0, 0) :: (3, .goto (9), 0, 0) :: []
def mb_LatticefitLaw_worstStretch : ma_Tb := [(0, [true, true, false], (1, .aload_n 1, 0, 0) :: (1, .iconst (0), 0, 0) :: (1, .aload_n 0, 0, 0) :: (3, .invokevirtual 96, 118, 10) :: mt_LatticefitLaw_worstStretch_6),
  (10, [false, false, false], (1, .astore_n 2, 0, 0) :: (1, .iconst (1), 0, 1) :: (1, .ireturn, 0, 0) :: []),
  (13, [false, false, false], (1, .astore_n 2, 0, 0) :: (1, .iconst (2), 0, 2) :: (1, .ireturn, 0, 0) :: []),
  (16, [false, false, false], (1, .iconst (0), 0, 0) :: (1, .ireturn, 0, 0) :: [])]
def mt_Latticefit_worstStretch_12 : List ma_AI := (1, .pop, 0, 0) :: (3, .ldc2_w 252, 1, 13830554455654793216) :: (1, .dstore_n 1, 0, 0) :: (1, .iconst (0), 0, 0) :: (1, .istore_n 3, 0, 0) :: []
def mt_Latticefit_worstStretch_5 : List ma_AI := (1, .aload_n 0, 0, 0) :: (3, .getfield 37, 10, 3) :: (3, .invokevirtual 204, 60, 6) :: mt_Latticefit_worstStretch_12
def mt_Latticefit_worstStretch_53 : List ma_AI := (1, .i2d, 0, 0) :: (2, .iload 4, 0, 0) :: (1, .i2d, 0, 0) :: (1, .ddiv, 0, 0) :: (2, .dstore 5, 0, 0) :: (2, .dload 5, 0, 0) :: (1, .dload_n 1, 0, 0) :: (1, .dcmp .l, 0, 0) :: (3, .ifCond .le (8), 0, 0) :: (2, .dload 5, 0, 0) :: (3, .goto (4), 0, 0) :: []
def mt_Latticefit_worstStretch_38 : List ma_AI := (2, .istore 4, 0, 0) :: (2, .iload 4, 0, 0) :: (3, .ifCond .le (32), 0, 0) :: (1, .aload_n 0, 0, 0) :: (3, .getfield 44, 10, 4) :: (1, .iload_n 3, 0, 0) :: (3, .invokevirtual 257, 119, 7) :: mt_Latticefit_worstStretch_53
def mb_Latticefit_worstStretch : ma_Tb := [(0, [true, false, false, false, false, false, false], (1, .aload_n 0, 0, 0) :: (1, .iconst (2), 0, 2) :: (3, .invokevirtual 207, 69, 10) :: mt_Latticefit_worstStretch_5),
  (19, [true, true, false, true, false, false, false], (1, .iload_n 3, 0, 0) :: (1, .aload_n 0, 0, 0) :: (3, .getfield 10, 10, 0) :: (3, .getfield 91, 3, 10) :: (3, .if_icmp .ge (53), 0, 0) :: (1, .aload_n 0, 0, 0) :: (3, .getfield 37, 10, 3) :: (1, .iload_n 3, 0, 0) :: (3, .invokevirtual 254, 66, 6) :: mt_Latticefit_worstStretch_38),
  (72, [true, true, false, true, false, false, false], (1, .dload_n 1, 0, 0) :: []),
  (73, [true, false, false, true, false, false, false], (1, .dstore_n 1, 0, 0) :: []),
  (74, [true, true, false, true, false, false, false], (3, .iinc 3 (1), 0, 0) :: (3, .goto (-58), 0, 0) :: []),
  (80, [false, true, false, false, false, false, false], (1, .dload_n 1, 0, 0) :: (1, .dconst 0, 0, 0) :: (1, .dcmp .g, 0, 0) :: (3, .ifCond .ge (11), 0, 0) :: (8, .athrow, 5, 5) :: []),
  (94, [false, true, false, false, false, false, false], (1, .dload_n 1, 0, 0) :: (1, .dreturn, 0, 0) :: [])]
def mb_Routes_edgesOf : ma_Tb := [(0, [true, true, false, false], (1, .iconst (0), 0, 0) :: (1, .istore_n 2, 0, 0) :: (1, .iconst (0), 0, 0) :: (1, .istore_n 3, 0, 0) :: []),
  (4, [true, true, true, true], (1, .iload_n 3, 0, 0) :: (2, .bipush (49), 0, 49) :: (3, .if_icmp .ge (28), 0, 0) :: (1, .iload_n 2, 0, 0) :: (1, .aload_n 0, 0, 0) :: (3, .getfield 11, 7, 0) :: (1, .iload_n 1, 0, 0) :: (1, .aaload, 0, 0) :: (1, .iload_n 3, 0, 0) :: (1, .iaload, 0, 0) :: (3, .ifCond .lt (7), 0, 0) :: (1, .iconst (1), 0, 1) :: (3, .goto (4), 0, 0) :: []),
  (26, [true, true, false, true], (1, .iconst (0), 0, 0) :: []),
  (27, [true, true, false, true], (1, .iadd, 0, 0) :: (1, .istore_n 2, 0, 0) :: (3, .iinc 3 (1), 0, 0) :: (3, .goto (-28), 0, 0) :: []),
  (35, [false, false, true, false], (1, .iload_n 2, 0, 0) :: (1, .ireturn, 0, 0) :: [])]
def mt_LatticefitLaw_build_6 : List ma_AI := (1, .i2l, 0, 0) :: (1, .lastore, 0, 0) :: (3, .goto (6), 0, 0) :: []
def mb_LatticefitLaw_build : ma_Tb := [(0, [true, true, false], (1, .aload_n 1, 0, 0) :: (1, .iconst (0), 0, 0) :: (1, .aload_n 0, 0, 0) :: (3, .invokevirtual 102, 121, 10) :: mt_LatticefitLaw_build_6),
  (11, [false, false, false], (1, .astore_n 2, 0, 0) :: (1, .iconst (1), 0, 1) :: (1, .ireturn, 0, 0) :: []),
  (14, [false, false, false], (1, .iconst (0), 0, 0) :: (1, .ireturn, 0, 0) :: [])]
def mt_Latticefit_build_24 : List ma_AI := (1, .ireturn, 0, 0) :: []
def mt_Latticefit_build_12 : List ma_AI := (1, .aload_n 0, 0, 0) :: (1, .iconst (3), 0, 3) :: (3, .putfield 87, 10, 10) :: (1, .aload_n 0, 0, 0) :: (3, .getfield 60, 10, 6) :: (3, .invokevirtual 266, 132, 5) :: mt_Latticefit_build_24
def mt_Latticefit_build_5 : List ma_AI := (1, .aload_n 0, 0, 0) :: (3, .getfield 69, 10, 7) :: (3, .invokevirtual 263, 122, 1) :: mt_Latticefit_build_12
def mb_Latticefit_build : ma_Tb := [(0, [true], (1, .aload_n 0, 0, 0) :: (1, .iconst (2), 0, 2) :: (3, .invokevirtual 207, 69, 10) :: mt_Latticefit_build_5)]
def mt_Builder_fillFrames_7 : List ma_AI := (1, .iconst (0), 0, 0) :: (1, .istore_n 1, 0, 0) :: []
def mt_Builder_fillFrames_25 : List ma_AI := (3, .iinc 1 (1), 0, 0) :: (3, .goto (-19), 0, 0) :: []
def mt_Builder_fillFrames_49 : List ma_AI := (3, .iinc 1 (1), 0, 0) :: (3, .goto (-19), 0, 0) :: []
def mt_Builder_fillFrames_98 : List ma_AI := (1, .iastore, 0, 0) :: (3, .iinc 1 (1), 0, 0) :: (3, .goto (-45), 0, 0) :: []
def mt_Builder_fillFrames_95 : List ma_AI := (3, .invokevirtual 71, 126, 1) :: mt_Builder_fillFrames_98
def mb_Builder_fillFrames : ma_Tb := [(0, [true, false, false], (1, .aload_n 0, 0, 0) :: (3, .getfield 27, 1, 4) :: (3, .invokevirtual 31, 123, 5) :: mt_Builder_fillFrames_7),
  (9, [true, true, false], (1, .iload_n 1, 0, 0) :: (1, .aload_n 0, 0, 0) :: (3, .getfield 15, 1, 1) :: (3, .getfield 36, 0, 7) :: (3, .if_icmp .ge (14), 0, 0) :: (1, .aload_n 0, 0, 0) :: (1, .iload_n 1, 0, 0) :: (3, .invokevirtual 42, 124, 1) :: mt_Builder_fillFrames_25),
  (31, [true, false, false], (1, .iconst (0), 0, 0) :: (1, .istore_n 1, 0, 0) :: []),
  (33, [true, true, false], (1, .iload_n 1, 0, 0) :: (1, .aload_n 0, 0, 0) :: (3, .getfield 9, 1, 0) :: (3, .getfield 46, 3, 10) :: (3, .if_icmp .ge (14), 0, 0) :: (1, .aload_n 0, 0, 0) :: (1, .iload_n 1, 0, 0) :: (3, .invokevirtual 51, 128, 1) :: mt_Builder_fillFrames_49),
  (55, [true, false, false], (1, .iconst (0), 0, 0) :: (1, .istore_n 1, 0, 0) :: []),
  (57, [true, true, false], (1, .iload_n 1, 0, 0) :: (1, .aload_n 0, 0, 0) :: (3, .getfield 9, 1, 0) :: (3, .getfield 54, 3, 13) :: (3, .if_icmp .ge (40), 0, 0) :: (1, .aload_n 0, 0, 0) :: (3, .getfield 9, 1, 0) :: (3, .getfield 57, 3, 9) :: (1, .iload_n 1, 0, 0) :: (1, .iaload, 0, 0) :: (1, .istore_n 2, 0, 0) :: (1, .aload_n 0, 0, 0) :: (3, .getfield 27, 1, 4) :: (3, .getfield 61, 5, 0) :: (2, .bipush (13), 0, 13) :: (1, .aaload, 0, 0) :: (1, .iload_n 1, 0, 0) :: (1, .aload_n 0, 0, 0) :: (1, .iload_n 2, 0, 0) :: (1, .iload_n 1, 0, 0) :: (3, .invokestatic 65, 65, 0) :: mt_Builder_fillFrames_95),
  (105, [false, false, false], (1, .return_, 0, 0) :: [])]
def mt_Frames_clear_18 : List ma_AI := (3, .iinc 1 (1), 0, 0) :: (3, .goto (-19), 0, 0) :: []
def mb_Frames_clear : ma_Tb := [(0, [true, false], (1, .iconst (0), 0, 0) :: (1, .istore_n 1, 0, 0) :: []),
  (2, [true, true], (1, .iload_n 1, 0, 0) :: (2, .bipush (14), 0, 14) :: (3, .if_icmp .ge (19), 0, 0) :: (1, .aload_n 0, 0, 0) :: (3, .getfield 11, 5, 0) :: (1, .iload_n 1, 0, 0) :: (1, .aaload, 0, 0) :: (1, .iconst (0), 0, 0) :: (3, .invokestatic 16, 35, 0) :: mt_Frames_clear_18),
  (24, [false, false], (1, .return_, 0, 0) :: [])]
def mt_Builder_putBlock_28 : List ma_AI := (1, .iconst (0), 0, 0) :: (1, .istore_n 3, 0, 0) :: []
def mt_Builder_putBlock_77 : List ma_AI := (3, .iinc 3 (1), 0, 0) :: (3, .goto (-50), 0, 0) :: []
def mt_Builder_putBlock_62 : List ma_AI := (2, .istore 4, 0, 0) :: (1, .aload_n 0, 0, 0) :: (3, .getfield 27, 1, 4) :: (1, .iload_n 2, 0, 0) :: (1, .iconst (1), 0, 1) :: (1, .iload_n 3, 0, 0) :: (1, .iadd, 0, 0) :: (2, .iload 4, 0, 0) :: (3, .invokevirtual 81, 125, 5) :: mt_Builder_putBlock_77
def mt_Builder_putBlock_59 : List ma_AI := (3, .invokevirtual 71, 126, 1) :: mt_Builder_putBlock_62
def mb_Builder_putBlock : ma_Tb := [(0, [true, true, false, false, false], (1, .aload_n 0, 0, 0) :: (3, .getfield 19, 1, 2) :: (3, .getfield 75, 6, 0) :: (1, .iload_n 1, 0, 0) :: (1, .iaload, 0, 0) :: (1, .istore_n 2, 0, 0) :: (1, .aload_n 0, 0, 0) :: (3, .getfield 27, 1, 4) :: (1, .iload_n 2, 0, 0) :: (1, .iconst (0), 0, 0) :: (1, .aload_n 0, 0, 0) :: (3, .getfield 15, 1, 1) :: (3, .getfield 78, 0, 2) :: (1, .iload_n 1, 0, 0) :: (1, .iaload, 0, 0) :: (3, .invokevirtual 81, 125, 5) :: mt_Builder_putBlock_28),
  (30, [true, true, true, true, false], (1, .iload_n 3, 0, 0) :: (1, .aload_n 0, 0, 0) :: (3, .getfield 15, 1, 1) :: (3, .getfield 85, 0, 3) :: (1, .iload_n 1, 0, 0) :: (1, .iaload, 0, 0) :: (3, .if_icmp .ge (43), 0, 0) :: (1, .aload_n 0, 0, 0) :: (1, .aload_n 0, 0, 0) :: (3, .getfield 15, 1, 1) :: (3, .getfield 88, 0, 4) :: (1, .iload_n 1, 0, 0) :: (1, .aaload, 0, 0) :: (1, .iload_n 3, 0, 0) :: (1, .iaload, 0, 0) :: (1, .iload_n 2, 0, 0) :: (3, .invokestatic 91, 63, 0) :: mt_Builder_putBlock_59),
  (83, [true, true, true, false, false], (1, .aload_n 0, 0, 0) :: (3, .getfield 15, 1, 1) :: (3, .getfield 94, 0, 1) :: (1, .iload_n 1, 0, 0) :: (1, .iaload, 0, 0) :: (1, .istore_n 3, 0, 0) :: (1, .iload_n 3, 0, 0) :: (3, .ifCond .lt (41), 0, 0) :: (1, .iconst (1), 0, 1) :: (1, .iconst (2), 0, 2) :: (1, .aload_n 0, 0, 0) :: (3, .getfield 9, 1, 0) :: (3, .getfield 97, 3, 4) :: (1, .iload_n 3, 0, 0) :: (1, .iaload, 0, 0) :: (1, .imul, 0, 0) :: (1, .iadd, 0, 0) :: (1, .iconst (4), 0, 4) :: (1, .aload_n 0, 0, 0) :: (3, .getfield 9, 1, 0) :: (3, .getfield 100, 3, 5) :: (1, .iload_n 3, 0, 0) :: (1, .iaload, 0, 0) :: (1, .imul, 0, 0) :: (1, .iadd, 0, 0) :: (2, .istore 4, 0, 0) :: (1, .aload_n 0, 0, 0) :: (3, .getfield 27, 1, 4) :: (1, .iload_n 2, 0, 0) :: (1, .iconst (5), 0, 5) :: (2, .iload 4, 0, 0) :: (3, .invokevirtual 81, 125, 5) :: []),
  (135, [false, false, false, false, false], (1, .return_, 0, 0) :: [])]
def mb_Frames_putCellWord : ma_Tb := [(0, [true, true, true, true], (1, .aload_n 0, 0, 0) :: (3, .getfield 11, 5, 0) :: (1, .iload_n 1, 0, 0) :: (2, .bipush (6), 0, 6) :: (1, .idiv, 0, 0) :: (1, .aaload, 0, 0) :: (2, .bipush (6), 0, 6) :: (1, .iload_n 1, 0, 0) :: (2, .bipush (6), 0, 6) :: (1, .irem, 0, 0) :: (1, .imul, 0, 0) :: (1, .iload_n 2, 0, 0) :: (1, .iadd, 0, 0) :: (1, .iload_n 3, 0, 0) :: (1, .iastore, 0, 0) :: (1, .return_, 0, 0) :: [])]
def mt_Builder_codeAt_27 : List ma_AI := (1, .ireturn, 0, 0) :: []
def mt_Builder_codeAt_16 : List ma_AI := (3, .ifCond .ne (12), 0, 0) :: (1, .aload_n 0, 0, 0) :: (3, .getfield 19, 1, 2) :: (1, .iload_n 1, 0, 0) :: (3, .invokevirtual 119, 127, 6) :: mt_Builder_codeAt_27
def mt_Builder_codeAt_42 : List ma_AI := (1, .iadd, 0, 0) :: (1, .ireturn, 0, 0) :: []
def mb_Builder_codeAt : ma_Tb := [(0, [true, true, true, false], (1, .aload_n 0, 0, 0) :: (3, .getfield 23, 1, 3) :: (3, .getfield 103, 7, 0) :: (1, .iload_n 1, 0, 0) :: (1, .aaload, 0, 0) :: (1, .iload_n 2, 0, 0) :: (1, .iaload, 0, 0) :: (1, .istore_n 3, 0, 0) :: (1, .iload_n 3, 0, 0) :: (3, .invokestatic 108, 89, 0) :: mt_Builder_codeAt_16),
  (28, [true, true, false, true], (1, .iconst (1), 0, 1) :: (1, .iconst (2), 0, 2) :: (1, .iload_n 3, 0, 0) :: (1, .imul, 0, 0) :: (1, .iadd, 0, 0) :: (1, .aload_n 0, 0, 0) :: (3, .getfield 23, 1, 3) :: (1, .iload_n 1, 0, 0) :: (1, .iload_n 3, 0, 0) :: (3, .invokevirtual 122, 107, 7) :: mt_Builder_codeAt_42)]
def mt_Places_sourceCode_59 : List ma_AI := (1, .imul, 0, 0) :: (1, .iadd, 0, 0) :: (1, .ireturn, 0, 0) :: []
def mb_Places_sourceCode : ma_Tb := [(0, [true, true, false], (1, .aload_n 0, 0, 0) :: (3, .getfield 37, 6, 8) :: (3, .getfield 60, 3, 0) :: (1, .iload_n 1, 0, 0) :: (1, .caload, 0, 0) :: (2, .bipush (105), 0, 105) :: (3, .if_icmp .ne (17), 0, 0) :: (3, .sipush (300), 0, 300) :: (1, .aload_n 0, 0, 0) :: (3, .getfield 37, 6, 8) :: (3, .getfield 66, 3, 6) :: (1, .iload_n 1, 0, 0) :: (1, .iaload, 0, 0) :: (1, .iadd, 0, 0) :: (1, .ireturn, 0, 0) :: []),
  (28, [true, true, false], (1, .aload_n 0, 0, 0) :: (3, .getfield 37, 6, 8) :: (3, .getfield 60, 3, 0) :: (1, .iload_n 1, 0, 0) :: (1, .caload, 0, 0) :: (2, .bipush (114), 0, 114) :: (3, .if_icmp .ne (9), 0, 0) :: (3, .sipush (201), 0, 201) :: (3, .goto (6), 0, 0) :: []),
  (48, [true, true, false], (3, .sipush (200), 0, 200) :: []),
  (51, [true, true, false], (1, .istore_n 2, 0, 0) :: (1, .iload_n 2, 0, 0) :: (1, .iconst (2), 0, 2) :: (1, .aload_n 0, 0, 0) :: (1, .iload_n 1, 0, 0) :: (3, .invokevirtual 69, 62, 6) :: mt_Places_sourceCode_59)]
def mt_Builder_putNet_51 : List ma_AI := (3, .invokevirtual 115, 129, 5) :: []
def mt_Builder_putNet_44 : List ma_AI := (1, .aload_n 0, 0, 0) :: (1, .iload_n 1, 0, 0) :: (2, .iload 4, 0, 0) :: (3, .invokevirtual 71, 126, 1) :: mt_Builder_putNet_51
def mt_Builder_putNet_32 : List ma_AI := (2, .istore 4, 0, 0) :: (1, .aload_n 0, 0, 0) :: (3, .getfield 27, 1, 4) :: (1, .aload_n 0, 0, 0) :: (1, .iload_n 1, 0, 0) :: (1, .iload_n 2, 0, 0) :: (3, .invokevirtual 71, 126, 1) :: mt_Builder_putNet_44
def mt_Builder_putNet_24 : List ma_AI := (3, .ifCond .eq (30), 0, 0) :: (1, .iload_n 3, 0, 0) :: (1, .iload_n 2, 0, 0) :: (3, .invokestatic 112, 99, 0) :: mt_Builder_putNet_32
def mb_Builder_putNet : ma_Tb := [(0, [true, true, false, false, false], (1, .iconst (0), 0, 0) :: (1, .istore_n 2, 0, 0) :: []),
  (2, [true, true, true, false, false], (1, .iload_n 2, 0, 0) :: (2, .bipush (49), 0, 49) :: (3, .if_icmp .ge (55), 0, 0) :: (1, .aload_n 0, 0, 0) :: (3, .getfield 23, 1, 3) :: (3, .getfield 103, 7, 0) :: (1, .iload_n 1, 0, 0) :: (1, .aaload, 0, 0) :: (1, .iload_n 2, 0, 0) :: (1, .iaload, 0, 0) :: (1, .istore_n 3, 0, 0) :: (1, .iload_n 3, 0, 0) :: (3, .invokestatic 108, 89, 0) :: mt_Builder_putNet_24),
  (54, [true, true, true, false, false], (3, .iinc 2 (1), 0, 0) :: (3, .goto (-55), 0, 0) :: []),
  (60, [false, false, false, false, false], (1, .return_, 0, 0) :: [])]
def mt_Frames_putWireWord_19 : List ma_AI := (1, .iload_n 1, 0, 0) :: (1, .iconst (1), 0, 1) :: (1, .isub, 0, 0) :: (1, .iconst (2), 0, 2) :: (1, .irem, 0, 0) :: (1, .iadd, 0, 0) :: (1, .iload_n 2, 0, 0) :: (1, .iastore, 0, 0) :: (1, .return_, 0, 0) :: []
def mt_Frames_putWireWord_14 : List ma_AI := (1, .aaload, 0, 0) :: (1, .iload_n 3, 0, 0) :: (3, .invokestatic 36, 131, 0) :: mt_Frames_putWireWord_19
def mb_Frames_putWireWord : ma_Tb := [(0, [true, true, true, false], (1, .iload_n 1, 0, 0) :: (1, .iconst (1), 0, 1) :: (1, .isub, 0, 0) :: (1, .iconst (2), 0, 2) :: (1, .idiv, 0, 0) :: (1, .istore_n 3, 0, 0) :: (1, .aload_n 0, 0, 0) :: (3, .getfield 11, 5, 0) :: (1, .iload_n 3, 0, 0) :: (3, .invokestatic 33, 130, 0) :: mt_Frames_putWireWord_14)]
def mt_Frames_frameOfEdge_6 : List ma_AI := (2, .bipush (7), 0, 7) :: (1, .idiv, 0, 0) :: (1, .iadd, 0, 0) :: (1, .ireturn, 0, 0) :: []
def mb_Frames_frameOfEdge : ma_Tb := [(0, [true], (2, .bipush (6), 0, 6) :: (1, .iload_n 0, 0, 0) :: (3, .invokestatic 39, 100, 0) :: mt_Frames_frameOfEdge_6)]
def mt_Frames_indexOfEdge_4 : List ma_AI := (2, .bipush (7), 0, 7) :: (1, .irem, 0, 0) :: (1, .istore_n 1, 0, 0) :: (1, .iload_n 0, 0, 0) :: (2, .bipush (42), 0, 42) :: (3, .if_icmp .ge (7), 0, 0) :: (1, .iconst (1), 0, 1) :: (3, .goto (4), 0, 0) :: []
def mt_Frames_indexOfEdge_24 : List ma_AI := (2, .bipush (42), 0, 42) :: (3, .if_icmp .lt (7), 0, 0) :: (1, .iconst (1), 0, 1) :: (3, .goto (4), 0, 0) :: []
def mb_Frames_indexOfEdge : ma_Tb := [(0, [true, false, false, false], (1, .iload_n 0, 0, 0) :: (3, .invokestatic 39, 100, 0) :: mt_Frames_indexOfEdge_4),
  (18, [true, true, false, false], (1, .iconst (0), 0, 0) :: []),
  (19, [true, true, false, false], (1, .istore_n 2, 0, 0) :: (1, .iload_n 0, 0, 0) :: (3, .invokestatic 39, 100, 0) :: mt_Frames_indexOfEdge_24),
  (33, [false, true, true, false], (1, .iconst (0), 0, 0) :: []),
  (34, [false, true, true, false], (1, .istore_n 3, 0, 0) :: (1, .iconst (2), 0, 2) :: (1, .iload_n 2, 0, 0) :: (3, .ifCond .ne (7), 0, 0) :: (1, .iload_n 3, 0, 0) :: (3, .ifCond .eq (7), 0, 0) :: []),
  (44, [false, true, false, false], (1, .iload_n 1, 0, 0) :: (3, .goto (7), 0, 0) :: []),
  (48, [false, true, false, false], (2, .bipush (7), 0, 7) :: (1, .iload_n 1, 0, 0) :: (1, .iadd, 0, 0) :: []),
  (52, [false, false, false, false], (1, .imul, 0, 0) :: (1, .ireturn, 0, 0) :: [])]
def mb_Frames_wordsInUse : ma_Tb := [(0, [true, false, false, false], (1, .iconst (0), 0, 0) :: (1, .istore_n 1, 0, 0) :: (1, .iconst (0), 0, 0) :: (1, .istore_n 2, 0, 0) :: []),
  (4, [true, true, true, false], (1, .iload_n 2, 0, 0) :: (2, .bipush (14), 0, 14) :: (3, .if_icmp .ge (42), 0, 0) :: (1, .iconst (0), 0, 0) :: (1, .istore_n 3, 0, 0) :: []),
  (12, [true, true, true, true], (1, .iload_n 3, 0, 0) :: (2, .bipush (36), 0, 36) :: (3, .if_icmp .ge (28), 0, 0) :: (1, .iload_n 1, 0, 0) :: (1, .aload_n 0, 0, 0) :: (3, .getfield 11, 5, 0) :: (1, .iload_n 2, 0, 0) :: (1, .aaload, 0, 0) :: (1, .iload_n 3, 0, 0) :: (1, .iaload, 0, 0) :: (3, .ifCond .eq (7), 0, 0) :: (1, .iconst (1), 0, 1) :: (3, .goto (4), 0, 0) :: []),
  (34, [true, false, true, true], (1, .iconst (0), 0, 0) :: []),
  (35, [true, false, true, true], (1, .iadd, 0, 0) :: (1, .istore_n 1, 0, 0) :: (3, .iinc 3 (1), 0, 0) :: (3, .goto (-28), 0, 0) :: []),
  (43, [true, true, true, false], (3, .iinc 2 (1), 0, 0) :: (3, .goto (-42), 0, 0) :: []),
  (49, [false, true, false, false], (1, .iload_n 1, 0, 0) :: (1, .ireturn, 0, 0) :: [])]
def mt_LatticefitLaw_wordAt_8 : List ma_AI := (1, .i2l, 0, 0) :: (1, .lastore, 0, 0) :: (3, .goto (15), 0, 0) :: []
def mb_LatticefitLaw_wordAt : ma_Tb := [(0, [true, true, true, true, false], (1, .aload_n 3, 0, 0) :: (1, .iconst (0), 0, 0) :: (1, .aload_n 0, 0, 0) :: (1, .iload_n 1, 0, 0) :: (1, .iload_n 2, 0, 0) :: (3, .invokevirtual 105, 134, 10) :: mt_LatticefitLaw_wordAt_8),
  (13, [false, false, false, false, false], (2, .astore 4, 0, 0) :: (1, .iconst (1), 0, 1) :: (1, .ireturn, 0, 0) :: []),
  (17, [false, false, false, false, false], (2, .astore 4, 0, 0) :: (1, .iconst (2), 0, 2) :: (1, .ireturn, 0, 0) :: []),
  (21, [false, false, false, false, false], (2, .astore 4, 0, 0) :: (1, .iconst (3), 0, 3) :: (1, .ireturn, 0, 0) :: []),
  (25, [false, false, false, false, false], (1, .iconst (0), 0, 0) :: (1, .ireturn, 0, 0) :: [])]
def mt_Latticefit_wordAt_15 : List ma_AI := (3, .if_icmp .lt (11), 0, 0) :: []
def mt_Latticefit_wordAt_6 : List ma_AI := (1, .iload_n 2, 0, 0) :: (3, .ifCond .lt (11), 0, 0) :: (1, .iload_n 2, 0, 0) :: (1, .iload_n 1, 0, 0) :: (3, .invokestatic 272, 136, 0) :: mt_Latticefit_wordAt_15
def mb_Latticefit_wordAt : ma_Tb := [(0, [true, true, true], (1, .aload_n 0, 0, 0) :: (1, .iload_n 1, 0, 0) :: (1, .iconst (3), 0, 3) :: (3, .invokevirtual 269, 135, 10) :: mt_Latticefit_wordAt_6),
  (18, [false, false, false], (8, .athrow, 4, 4) :: []),
  (26, [true, true, true], (1, .aload_n 0, 0, 0) :: (3, .getfield 60, 10, 6) :: (3, .getfield 273, 5, 0) :: (1, .iload_n 1, 0, 0) :: (1, .aaload, 0, 0) :: (1, .iload_n 2, 0, 0) :: (1, .iaload, 0, 0) :: (1, .ireturn, 0, 0) :: [])]
def mt_Latticefit_needFrame_23 : List ma_AI := (1, .return_, 0, 0) :: []
def mb_Latticefit_needFrame : ma_Tb := [(0, [true, true, true], (1, .iload_n 1, 0, 0) :: (3, .ifCond .lt (9), 0, 0) :: (1, .iload_n 1, 0, 0) :: (2, .bipush (14), 0, 14) :: (3, .if_icmp .lt (11), 0, 0) :: []),
  (10, [false, false, false], (8, .athrow, 2, 2) :: []),
  (18, [true, false, true], (1, .aload_n 0, 0, 0) :: (1, .iload_n 2, 0, 0) :: (3, .invokevirtual 207, 69, 10) :: mt_Latticefit_needFrame_23)]
def mb_Frames_lengthOf : ma_Tb := [(0, [true, false], (1, .iload_n 0, 0, 0) :: (2, .bipush (6), 0, 6) :: (3, .if_icmp .ge (6), 0, 0) :: (2, .bipush (36), 0, 36) :: (1, .ireturn, 0, 0) :: []),
  (9, [true, false], (1, .iload_n 0, 0, 0) :: (2, .bipush (13), 0, 13) :: (3, .if_icmp .ne (6), 0, 0) :: (2, .bipush (6), 0, 6) :: (1, .ireturn, 0, 0) :: []),
  (18, [true, false], (2, .bipush (12), 0, 12) :: (1, .istore_n 1, 0, 0) :: (1, .iload_n 0, 0, 0) :: (2, .bipush (12), 0, 12) :: (3, .if_icmp .ne (7), 0, 0) :: (1, .iload_n 1, 0, 0) :: (3, .goto (7), 0, 0) :: []),
  (31, [false, true], (1, .iload_n 1, 0, 0) :: (2, .bipush (14), 0, 14) :: (1, .iadd, 0, 0) :: []),
  (35, [false, false], (1, .ireturn, 0, 0) :: [])]
def mt_LatticefitLaw_check_7 : List ma_AI := (1, .i2l, 0, 0) :: (1, .lastore, 0, 0) :: (3, .goto (9), 0, 0) :: []
def mb_LatticefitLaw_check : ma_Tb := [(0, [true, true, true, false], (1, .aload_n 2, 0, 0) :: (1, .iconst (0), 0, 0) :: (1, .aload_n 0, 0, 0) :: (1, .iload_n 1, 0, 0) :: (3, .invokevirtual 108, 138, 10) :: mt_LatticefitLaw_check_7),
  (12, [false, false, false, false], (1, .astore_n 3, 0, 0) :: (1, .iconst (1), 0, 1) :: (1, .ireturn, 0, 0) :: []),
  (15, [false, false, false, false], (1, .astore_n 3, 0, 0) :: (1, .iconst (2), 0, 2) :: (1, .ireturn, 0, 0) :: []),
  (18, [false, false, false, false], (1, .iconst (0), 0, 0) :: (1, .ireturn, 0, 0) :: [])]
def mt_Latticefit_check_14 : List ma_AI := (1, .ireturn, 0, 0) :: []
def mt_Latticefit_check_6 : List ma_AI := (1, .aload_n 0, 0, 0) :: (3, .getfield 60, 10, 6) :: (1, .iload_n 1, 0, 0) :: (3, .invokevirtual 276, 139, 5) :: mt_Latticefit_check_14
def mb_Latticefit_check : ma_Tb := [(0, [true, true], (1, .aload_n 0, 0, 0) :: (1, .iload_n 1, 0, 0) :: (1, .iconst (3), 0, 3) :: (3, .invokevirtual 269, 135, 10) :: mt_Latticefit_check_6)]
def mt_Frames_sumOf_6 : List ma_AI := (1, .istore_n 3, 0, 0) :: (1, .iconst (0), 0, 0) :: (2, .istore 4, 0, 0) :: []
def mb_Frames_sumOf : ma_Tb := [(0, [true, true, false, false, false], (1, .iconst (1), 0, 1) :: (1, .istore_n 2, 0, 0) :: (1, .iload_n 1, 0, 0) :: (3, .invokestatic 28, 136, 0) :: mt_Frames_sumOf_6),
  (10, [true, true, true, true, true], (2, .iload 4, 0, 0) :: (1, .iload_n 3, 0, 0) :: (3, .if_icmp .ge (27), 0, 0) :: (2, .bipush (31), 0, 31) :: (1, .iload_n 2, 0, 0) :: (1, .imul, 0, 0) :: (1, .aload_n 0, 0, 0) :: (3, .getfield 11, 5, 0) :: (1, .iload_n 1, 0, 0) :: (1, .aaload, 0, 0) :: (2, .iload 4, 0, 0) :: (1, .iaload, 0, 0) :: (1, .iadd, 0, 0) :: (2, .ldc 32, 0, 65521) :: (1, .irem, 0, 0) :: (1, .istore_n 2, 0, 0) :: (3, .iinc 4 (1), 0, 0) :: (3, .goto (-27), 0, 0) :: []),
  (40, [false, false, true, false, false], (1, .iload_n 2, 0, 0) :: (1, .ireturn, 0, 0) :: [])]
def mt_LatticefitLaw_start_6 : List ma_AI := (1, .i2l, 0, 0) :: (1, .lastore, 0, 0) :: (3, .goto (6), 0, 0) :: []
def mb_LatticefitLaw_start : ma_Tb := [(0, [true, true, false], (1, .aload_n 1, 0, 0) :: (1, .iconst (0), 0, 0) :: (1, .aload_n 0, 0, 0) :: (3, .invokevirtual 111, 141, 10) :: mt_LatticefitLaw_start_6),
  (11, [false, false, false], (1, .astore_n 2, 0, 0) :: (1, .iconst (1), 0, 1) :: (1, .ireturn, 0, 0) :: []),
  (14, [false, false, false], (1, .iconst (0), 0, 0) :: (1, .ireturn, 0, 0) :: [])]
def mt_Latticefit_start_23 : List ma_AI := (1, .iconst (0), 0, 0) :: (1, .istore_n 1, 0, 0) :: []
def mt_Latticefit_start_16 : List ma_AI := (1, .aload_n 0, 0, 0) :: (3, .getfield 83, 10, 9) :: (3, .invokevirtual 283, 144, 8) :: mt_Latticefit_start_23
def mt_Latticefit_start_5 : List ma_AI := (1, .aload_n 0, 0, 0) :: (3, .getfield 76, 10, 8) :: (1, .aload_n 0, 0, 0) :: (3, .getfield 60, 10, 6) :: (3, .invokevirtual 279, 142, 2) :: mt_Latticefit_start_16
def mt_Latticefit_start_61 : List ma_AI := (1, .aload_n 0, 0, 0) :: (3, .getfield 10, 10, 0) :: (3, .getfield 292, 3, 4) :: (1, .iload_n 2, 0, 0) :: (1, .iaload, 0, 0) :: (1, .iastore, 0, 0) :: (3, .iinc 1 (1), 0, 0) :: (3, .goto (-49), 0, 0) :: []
def mb_Latticefit_start : ma_Tb := [(0, [true, false, false], (1, .aload_n 0, 0, 0) :: (1, .iconst (3), 0, 3) :: (3, .invokevirtual 207, 69, 10) :: mt_Latticefit_start_5),
  (25, [true, true, false], (1, .iload_n 1, 0, 0) :: (1, .aload_n 0, 0, 0) :: (3, .getfield 10, 10, 0) :: (3, .getfield 107, 3, 12) :: (3, .if_icmp .ge (44), 0, 0) :: (1, .aload_n 0, 0, 0) :: (3, .getfield 10, 10, 0) :: (3, .getfield 285, 3, 8) :: (1, .iload_n 1, 0, 0) :: (1, .iaload, 0, 0) :: (1, .istore_n 2, 0, 0) :: (1, .aload_n 0, 0, 0) :: (3, .getfield 76, 10, 8) :: (3, .getfield 288, 2, 2) :: (1, .aload_n 0, 0, 0) :: (3, .getfield 37, 10, 3) :: (1, .iload_n 2, 0, 0) :: (3, .invokevirtual 289, 62, 6) :: mt_Latticefit_start_61),
  (77, [true, false, false], (1, .aload_n 0, 0, 0) :: (1, .iconst (4), 0, 4) :: (3, .putfield 87, 10, 10) :: (1, .aload_n 0, 0, 0) :: (3, .getfield 10, 10, 0) :: (3, .getfield 133, 3, 13) :: (1, .ireturn, 0, 0) :: [])]
def mt_Chip_reset_17 : List ma_AI := (3, .iinc 2 (1), 0, 0) :: (3, .goto (-18), 0, 0) :: []
def mt_Chip_reset_39 : List ma_AI := (1, .aload_n 0, 0, 0) :: (1, .lconst 0, 0, 0) :: (3, .putfield 44, 2, 3) :: (1, .return_, 0, 0) :: []
def mt_Chip_reset_31 : List ma_AI := (1, .aload_n 0, 0, 0) :: (3, .getfield 22, 2, 2) :: (1, .iconst (0), 0, 0) :: (3, .invokestatic 38, 35, 0) :: mt_Chip_reset_39
def mb_Chip_reset : ma_Tb := [(0, [true, true, false], (1, .iconst (0), 0, 0) :: (1, .istore_n 2, 0, 0) :: []),
  (2, [true, true, true], (1, .iload_n 2, 0, 0) :: (2, .bipush (14), 0, 14) :: (3, .if_icmp .ge (18), 0, 0) :: (1, .aload_n 0, 0, 0) :: (3, .getfield 12, 2, 0) :: (1, .aload_n 1, 0, 0) :: (1, .iload_n 2, 0, 0) :: (3, .invokevirtual 34, 143, 5) :: mt_Chip_reset_17),
  (23, [true, false, false], (1, .aload_n 0, 0, 0) :: (3, .getfield 18, 2, 1) :: (1, .iconst (0), 0, 0) :: (3, .invokestatic 38, 35, 0) :: mt_Chip_reset_31)]
def mb_Frames_copyFrame : ma_Tb := [(0, [true, true, true], (1, .aload_n 1, 0, 0) :: (3, .getfield 11, 5, 0) :: (1, .iload_n 2, 0, 0) :: (1, .aaload, 0, 0) :: (1, .iconst (0), 0, 0) :: (1, .aload_n 0, 0, 0) :: (3, .getfield 11, 5, 0) :: (1, .iload_n 2, 0, 0) :: (1, .aaload, 0, 0) :: (1, .iconst (0), 0, 0) :: (2, .bipush (36), 0, 36) :: (3, .invokestatic 22, 10000, 0) :: (1, .return_, 0, 0) :: [])]
def mb_Runner_reset : ma_Tb := [(0, [true, false], (1, .iconst (0), 0, 0) :: (1, .istore_n 1, 0, 0) :: []),
  (2, [true, true], (1, .iload_n 1, 0, 0) :: (1, .aload_n 0, 0, 0) :: (3, .getfield 18, 8, 2) :: (3, .getfield 22, 3, 12) :: (3, .if_icmp .ge (40), 0, 0) :: (1, .aload_n 0, 0, 0) :: (3, .getfield 9, 8, 0) :: (1, .aload_n 0, 0, 0) :: (3, .getfield 18, 8, 2) :: (3, .getfield 28, 3, 8) :: (1, .iload_n 1, 0, 0) :: (1, .iaload, 0, 0) :: (1, .aload_n 0, 0, 0) :: (3, .getfield 18, 8, 2) :: (3, .getfield 31, 3, 4) :: (1, .aload_n 0, 0, 0) :: (3, .getfield 18, 8, 2) :: (3, .getfield 28, 3, 8) :: (1, .iload_n 1, 0, 0) :: (1, .iaload, 0, 0) :: (1, .iaload, 0, 0) :: (1, .iastore, 0, 0) :: (3, .iinc 1 (1), 0, 0) :: (3, .goto (-45), 0, 0) :: []),
  (50, [false, false], (1, .return_, 0, 0) :: [])]
def mt_LatticefitLaw_setInput_8 : List ma_AI := (3, .ifCond .eq (7), 0, 0) :: (1, .lconst 1, 0, 1) :: (3, .goto (4), 0, 0) :: []
def mb_LatticefitLaw_setInput : ma_Tb := [(0, [true, true, true, true, false], (1, .aload_n 3, 0, 0) :: (1, .iconst (0), 0, 0) :: (1, .aload_n 0, 0, 0) :: (1, .iload_n 1, 0, 0) :: (1, .iload_n 2, 0, 0) :: (3, .invokevirtual 114, 146, 10) :: mt_LatticefitLaw_setInput_8),
  (15, [false, false, false, false, false], (1, .lconst 0, 0, 0) :: []),
  (16, [false, false, false, false, false], (1, .lastore, 0, 0) :: (3, .goto (11), 0, 0) :: []),
  (20, [false, false, false, false, false], (2, .astore 4, 0, 0) :: (1, .iconst (1), 0, 1) :: (1, .ireturn, 0, 0) :: []),
  (24, [false, false, false, false, false], (2, .astore 4, 0, 0) :: (1, .iconst (2), 0, 2) :: (1, .ireturn, 0, 0) :: []),
  (28, [false, false, false, false, false], (1, .iconst (0), 0, 0) :: (1, .ireturn, 0, 0) :: [])]
def mt_Latticefit_setInput_28 : List ma_AI := (1, .aload_n 0, 0, 0) :: (3, .getfield 76, 10, 8) :: (3, .getfield 295, 2, 1) :: (1, .iload_n 1, 0, 0) :: (1, .iaload, 0, 0) :: (3, .ifCond .eq (7), 0, 0) :: (1, .iconst (1), 0, 1) :: (3, .goto (4), 0, 0) :: []
def mb_Latticefit_setInput : ma_Tb := [(0, [true, true, true, false], (1, .iload_n 1, 0, 0) :: (3, .ifCond .lt (14), 0, 0) :: (1, .iload_n 1, 0, 0) :: (1, .aload_n 0, 0, 0) :: (3, .getfield 10, 10, 0) :: (3, .getfield 94, 3, 11) :: (3, .if_icmp .lt (11), 0, 0) :: []),
  (15, [false, false, false, false], (8, .athrow, 2, 2) :: []),
  (23, [true, true, true, false], (1, .aload_n 0, 0, 0) :: (1, .iconst (4), 0, 4) :: (3, .invokevirtual 207, 69, 10) :: mt_Latticefit_setInput_28),
  (44, [true, true, true, false], (1, .iconst (0), 0, 0) :: []),
  (45, [true, true, true, false], (1, .istore_n 3, 0, 0) :: (1, .aload_n 0, 0, 0) :: (3, .getfield 76, 10, 8) :: (3, .getfield 295, 2, 1) :: (1, .iload_n 1, 0, 0) :: (1, .iload_n 2, 0, 0) :: (3, .ifCond .eq (7), 0, 0) :: (1, .iconst (1), 0, 1) :: (3, .goto (4), 0, 0) :: []),
  (62, [false, false, false, true], (1, .iconst (0), 0, 0) :: []),
  (63, [false, false, false, true], (1, .iastore, 0, 0) :: (1, .iload_n 3, 0, 0) :: (1, .ireturn, 0, 0) :: [])]
def mt_LatticefitLaw_tick_7 : List ma_AI := (1, .lastore, 0, 0) :: (3, .goto (9), 0, 0) :: []
def mb_LatticefitLaw_tick : ma_Tb := [(0, [true, true, true, false], (1, .aload_n 2, 0, 0) :: (1, .iconst (0), 0, 0) :: (1, .aload_n 0, 0, 0) :: (1, .iload_n 1, 0, 0) :: (3, .invokevirtual 118, 148, 10) :: mt_LatticefitLaw_tick_7),
  (11, [false, false, false, false], (1, .astore_n 3, 0, 0) :: (1, .iconst (1), 0, 1) :: (1, .ireturn, 0, 0) :: []),
  (14, [false, false, false, false], (1, .astore_n 3, 0, 0) :: (1, .iconst (2), 0, 2) :: (1, .ireturn, 0, 0) :: []),
  (17, [false, false, false, false], (1, .iconst (0), 0, 0) :: (1, .ireturn, 0, 0) :: [])]
def mt_Latticefit_tick_45 : List ma_AI := (1, .aload_n 0, 0, 0) :: (3, .getfield 76, 10, 8) :: (3, .getfield 303, 2, 3) :: (1, .lreturn, 0, 0) :: []
def mt_Latticefit_tick_37 : List ma_AI := (1, .aload_n 0, 0, 0) :: (3, .getfield 76, 10, 8) :: (1, .iload_n 1, 0, 0) :: (3, .invokevirtual 301, 151, 2) :: mt_Latticefit_tick_45
def mt_Latticefit_tick_22 : List ma_AI := (1, .aload_n 0, 0, 0) :: (3, .getfield 83, 10, 9) :: (1, .iload_n 1, 0, 0) :: (1, .aload_n 0, 0, 0) :: (3, .getfield 76, 10, 8) :: (3, .getfield 295, 2, 1) :: (3, .invokevirtual 297, 149, 8) :: mt_Latticefit_tick_37
def mb_Latticefit_tick : ma_Tb := [(0, [true, true], (1, .iload_n 1, 0, 0) :: (3, .ifCond .lt (8), 0, 0) :: (1, .iload_n 1, 0, 0) :: (1, .iconst (3), 0, 3) :: (3, .if_icmp .lt (11), 0, 0) :: []),
  (9, [false, false], (8, .athrow, 1, 1) :: []),
  (17, [true, true], (1, .aload_n 0, 0, 0) :: (1, .iconst (4), 0, 4) :: (3, .invokevirtual 207, 69, 10) :: mt_Latticefit_tick_22)]
def mt_Runner_takeTick_5 : List ma_AI := (1, .iconst (0), 0, 0) :: (1, .istore_n 3, 0, 0) :: []
def mb_Runner_takeTick : ma_Tb := [(0, [true, true, true, false, false], (1, .aload_n 0, 0, 0) :: (1, .aload_n 2, 0, 0) :: (3, .invokevirtual 51, 150, 8) :: mt_Runner_takeTick_5),
  (7, [true, true, false, true, false], (1, .iload_n 3, 0, 0) :: (1, .aload_n 0, 0, 0) :: (3, .getfield 18, 8, 2) :: (3, .getfield 22, 3, 12) :: (3, .if_icmp .ge (56), 0, 0) :: (1, .aload_n 0, 0, 0) :: (3, .getfield 18, 8, 2) :: (3, .getfield 28, 3, 8) :: (1, .iload_n 3, 0, 0) :: (1, .iaload, 0, 0) :: (2, .istore 4, 0, 0) :: (1, .aload_n 0, 0, 0) :: (3, .getfield 18, 8, 2) :: (3, .getfield 55, 3, 5) :: (2, .iload 4, 0, 0) :: (1, .iaload, 0, 0) :: (1, .iload_n 1, 0, 0) :: (3, .if_icmp .ne (25), 0, 0) :: (1, .aload_n 0, 0, 0) :: (3, .getfield 9, 8, 0) :: (2, .iload 4, 0, 0) :: (1, .aload_n 0, 0, 0) :: (3, .getfield 15, 8, 1) :: (1, .aload_n 0, 0, 0) :: (3, .getfield 18, 8, 2) :: (3, .getfield 58, 3, 3) :: (2, .iload 4, 0, 0) :: (1, .iaload, 0, 0) :: (1, .iaload, 0, 0) :: (1, .iastore, 0, 0) :: []),
  (65, [true, true, false, true, false], (3, .iinc 3 (1), 0, 0) :: (3, .goto (-61), 0, 0) :: []),
  (71, [false, false, false, false, false], (1, .return_, 0, 0) :: [])]
def mt_Runner_findValues_93 : List ma_AI := (1, .iconst (1), 0, 1) :: (1, .iand, 0, 0) :: (1, .iastore, 0, 0) :: []
def mb_Runner_findValues : ma_Tb := [(0, [true, true, false], (1, .iconst (0), 0, 0) :: (1, .istore_n 2, 0, 0) :: []),
  (2, [true, true, true], (1, .iload_n 2, 0, 0) :: (1, .aload_n 0, 0, 0) :: (3, .getfield 18, 8, 2) :: (3, .getfield 34, 3, 10) :: (3, .if_icmp .ge (92), 0, 0) :: (1, .aload_n 0, 0, 0) :: (3, .getfield 18, 8, 2) :: (3, .getfield 37, 3, 0) :: (1, .iload_n 2, 0, 0) :: (1, .caload, 0, 0) :: (2, .bipush (105), 0, 105) :: (3, .if_icmp .ne (23), 0, 0) :: (1, .aload_n 0, 0, 0) :: (3, .getfield 15, 8, 1) :: (1, .iload_n 2, 0, 0) :: (1, .aload_n 1, 0, 0) :: (1, .aload_n 0, 0, 0) :: (3, .getfield 18, 8, 2) :: (3, .getfield 41, 3, 6) :: (1, .iload_n 2, 0, 0) :: (1, .iaload, 0, 0) :: (1, .iaload, 0, 0) :: (1, .iastore, 0, 0) :: (3, .goto (52), 0, 0) :: []),
  (47, [true, true, true], (1, .aload_n 0, 0, 0) :: (3, .getfield 18, 8, 2) :: (3, .getfield 37, 3, 0) :: (1, .iload_n 2, 0, 0) :: (1, .caload, 0, 0) :: (2, .bipush (114), 0, 114) :: (3, .if_icmp .ne (18), 0, 0) :: (1, .aload_n 0, 0, 0) :: (3, .getfield 15, 8, 1) :: (1, .iload_n 2, 0, 0) :: (1, .aload_n 0, 0, 0) :: (3, .getfield 9, 8, 0) :: (1, .iload_n 2, 0, 0) :: (1, .iaload, 0, 0) :: (1, .iastore, 0, 0) :: (3, .goto (23), 0, 0) :: []),
  (76, [true, true, true], (1, .aload_n 0, 0, 0) :: (3, .getfield 15, 8, 1) :: (1, .iload_n 2, 0, 0) :: (1, .aload_n 0, 0, 0) :: (3, .getfield 18, 8, 2) :: (1, .iload_n 2, 0, 0) :: (1, .aload_n 0, 0, 0) :: (3, .getfield 15, 8, 1) :: (3, .invokevirtual 44, 38, 3) :: mt_Runner_findValues_93),
  (96, [true, true, true], (3, .iinc 2 (1), 0, 0) :: (3, .goto (-97), 0, 0) :: []),
  (102, [false, false, false], (1, .return_, 0, 0) :: [])]
def mt_Chip_takeTick_4 : List ma_AI := (1, .iconst (0), 0, 0) :: (1, .istore_n 2, 0, 0) :: []
def mt_Chip_takeTick_21 : List ma_AI := (1, .istore_n 3, 0, 0) :: (1, .iload_n 3, 0, 0) :: (1, .iconst (2), 0, 2) :: (1, .irem, 0, 0) :: (1, .iconst (1), 0, 1) :: (3, .if_icmp .ne (24), 0, 0) :: (1, .iload_n 3, 0, 0) :: (1, .iconst (4), 0, 4) :: (1, .idiv, 0, 0) :: (1, .iconst (4), 0, 4) :: (1, .irem, 0, 0) :: (1, .iload_n 1, 0, 0) :: (3, .if_icmp .ne (15), 0, 0) :: (1, .aload_n 0, 0, 0) :: (3, .getfield 22, 2, 2) :: (1, .iload_n 2, 0, 0) :: (1, .aload_n 0, 0, 0) :: (3, .getfield 25, 2, 4) :: (1, .iload_n 2, 0, 0) :: (1, .iaload, 0, 0) :: (1, .iastore, 0, 0) :: []
def mb_Chip_takeTick : ma_Tb := [(0, [true, true, false, false], (1, .aload_n 0, 0, 0) :: (3, .invokevirtual 77, 152, 2) :: mt_Chip_takeTick_4),
  (6, [true, true, true, false], (1, .iload_n 2, 0, 0) :: (2, .bipush (36), 0, 36) :: (3, .if_icmp .ge (47), 0, 0) :: (1, .aload_n 0, 0, 0) :: (3, .getfield 12, 2, 0) :: (1, .iload_n 2, 0, 0) :: (1, .iconst (5), 0, 5) :: (3, .invokevirtual 55, 154, 5) :: mt_Chip_takeTick_21),
  (50, [true, true, true, false], (3, .iinc 2 (1), 0, 0) :: (3, .goto (-47), 0, 0) :: []),
  (56, [true, false, false, false], (1, .aload_n 0, 0, 0) :: (1, .dup, 0, 0) :: (3, .getfield 44, 2, 3) :: (1, .lconst 1, 0, 1) :: (1, .ladd, 0, 0) :: (3, .putfield 44, 2, 3) :: (1, .return_, 0, 0) :: [])]
def mt_Chip_findTables_12 : List ma_AI := (1, .iconst (1), 0, 1) :: (1, .istore_n 1, 0, 0) :: (1, .iconst (0), 0, 0) :: (1, .istore_n 2, 0, 0) :: []
def mt_Chip_findTables_4 : List ma_AI := (1, .aload_n 0, 0, 0) :: (3, .getfield 25, 2, 4) :: (1, .iconst (0), 0, 0) :: (3, .invokestatic 38, 35, 0) :: mt_Chip_findTables_12
def mt_Chip_findTables_30 : List ma_AI := (1, .istore_n 1, 0, 0) :: (3, .iinc 2 (1), 0, 0) :: (3, .goto (-18), 0, 0) :: []
def mb_Chip_findTables : ma_Tb := [(0, [true, false, false], (1, .aload_n 0, 0, 0) :: (3, .invokevirtual 48, 153, 2) :: mt_Chip_findTables_4),
  (16, [true, true, true], (1, .iload_n 2, 0, 0) :: (2, .bipush (40), 0, 40) :: (3, .if_icmp .ge (18), 0, 0) :: (1, .iload_n 1, 0, 0) :: (3, .ifCond .eq (14), 0, 0) :: (1, .aload_n 0, 0, 0) :: (3, .invokevirtual 51, 158, 2) :: mt_Chip_findTables_30),
  (37, [false, false, false], (1, .return_, 0, 0) :: [])]
def mt_Chip_findEnds_42 : List ma_AI := (1, .iastore, 0, 0) :: (3, .iinc 2 (1), 0, 0) :: (3, .goto (-36), 0, 0) :: []
def mt_Chip_findEnds_39 : List ma_AI := (3, .invokevirtual 59, 155, 5) :: mt_Chip_findEnds_42
def mb_Chip_findEnds : ma_Tb := [(0, [true, false, false], (1, .iconst (0), 0, 0) :: (1, .istore_n 1, 0, 0) :: []),
  (2, [true, true, false], (1, .iload_n 1, 0, 0) :: (2, .bipush (36), 0, 36) :: (3, .if_icmp .ge (50), 0, 0) :: (1, .iconst (0), 0, 0) :: (1, .istore_n 2, 0, 0) :: []),
  (10, [true, true, true], (1, .iload_n 2, 0, 0) :: (1, .iconst (4), 0, 4) :: (3, .if_icmp .ge (37), 0, 0) :: (1, .aload_n 0, 0, 0) :: (3, .getfield 31, 2, 6) :: (1, .iconst (4), 0, 4) :: (1, .iload_n 1, 0, 0) :: (1, .imul, 0, 0) :: (1, .iload_n 2, 0, 0) :: (1, .iadd, 0, 0) :: (1, .aload_n 0, 0, 0) :: (3, .getfield 12, 2, 0) :: (1, .aload_n 0, 0, 0) :: (3, .getfield 12, 2, 0) :: (1, .iload_n 1, 0, 0) :: (1, .iconst (1), 0, 1) :: (1, .iload_n 2, 0, 0) :: (1, .iadd, 0, 0) :: (3, .invokevirtual 55, 154, 5) :: mt_Chip_findEnds_39),
  (49, [true, true, false], (3, .iinc 1 (1), 0, 0) :: (3, .goto (-50), 0, 0) :: []),
  (55, [false, false, false], (1, .return_, 0, 0) :: [])]
def mb_Frames_cellWord : ma_Tb := [(0, [true, true, true], (1, .aload_n 0, 0, 0) :: (3, .getfield 11, 5, 0) :: (1, .iload_n 1, 0, 0) :: (2, .bipush (6), 0, 6) :: (1, .idiv, 0, 0) :: (1, .aaload, 0, 0) :: (2, .bipush (6), 0, 6) :: (1, .iload_n 1, 0, 0) :: (2, .bipush (6), 0, 6) :: (1, .irem, 0, 0) :: (1, .imul, 0, 0) :: (1, .iload_n 2, 0, 0) :: (1, .iadd, 0, 0) :: (1, .iaload, 0, 0) :: (1, .ireturn, 0, 0) :: [])]
def mt_Frames_endOf_23 : List ma_AI := (1, .istore_n 2, 0, 0) :: (3, .iinc 3 (1), 0, 0) :: (3, .goto (-23), 0, 0) :: []
def mt_Frames_endOf_15 : List ma_AI := (3, .ifCond .eq (15), 0, 0) :: (1, .aload_n 0, 0, 0) :: (1, .iload_n 2, 0, 0) :: (3, .invokevirtual 48, 157, 5) :: mt_Frames_endOf_23
def mt_Frames_endOf_34 : List ma_AI := (3, .ifCond .eq (7), 0, 0) :: (1, .iconst (0), 0, 0) :: (3, .goto (4), 0, 0) :: []
def mb_Frames_endOf : ma_Tb := [(0, [true, true, false, false], (1, .iload_n 1, 0, 0) :: (1, .istore_n 2, 0, 0) :: (1, .iconst (0), 0, 0) :: (1, .istore_n 3, 0, 0) :: []),
  (4, [true, false, true, true], (1, .iload_n 3, 0, 0) :: (3, .sipush (200), 0, 200) :: (3, .if_icmp .ge (22), 0, 0) :: (1, .iload_n 2, 0, 0) :: (3, .invokestatic 44, 156, 0) :: mt_Frames_endOf_15),
  (30, [false, false, true, false], (1, .iload_n 2, 0, 0) :: (3, .invokestatic 44, 156, 0) :: mt_Frames_endOf_34),
  (41, [false, false, true, false], (1, .iload_n 2, 0, 0) :: []),
  (42, [false, false, false, false], (1, .ireturn, 0, 0) :: [])]
def mb_Frames_isWire : ma_Tb := [(0, [true], (1, .iload_n 0, 0, 0) :: (1, .iconst (1), 0, 1) :: (3, .if_icmp .lt (14), 0, 0) :: (1, .iload_n 0, 0, 0) :: (3, .sipush (168), 0, 168) :: (3, .if_icmp .gt (7), 0, 0) :: (1, .iconst (1), 0, 1) :: (3, .goto (4), 0, 0) :: []),
  (16, [false], (1, .iconst (0), 0, 0) :: []),
  (17, [false], (1, .ireturn, 0, 0) :: [])]
def mt_Frames_wireWord_19 : List ma_AI := (1, .iload_n 1, 0, 0) :: (1, .iconst (1), 0, 1) :: (1, .isub, 0, 0) :: (1, .iconst (2), 0, 2) :: (1, .irem, 0, 0) :: (1, .iadd, 0, 0) :: (1, .iaload, 0, 0) :: (1, .ireturn, 0, 0) :: []
def mt_Frames_wireWord_14 : List ma_AI := (1, .aaload, 0, 0) :: (1, .iload_n 2, 0, 0) :: (3, .invokestatic 36, 131, 0) :: mt_Frames_wireWord_19
def mb_Frames_wireWord : ma_Tb := [(0, [true, true, false], (1, .iload_n 1, 0, 0) :: (1, .iconst (1), 0, 1) :: (1, .isub, 0, 0) :: (1, .iconst (2), 0, 2) :: (1, .idiv, 0, 0) :: (1, .istore_n 2, 0, 0) :: (1, .aload_n 0, 0, 0) :: (3, .getfield 11, 5, 0) :: (1, .iload_n 2, 0, 0) :: (3, .invokestatic 33, 130, 0) :: mt_Frames_wireWord_14)]
def mt_Chip_renewTables_56 : List ma_AI := (2, .iload 4, 0, 0) :: (1, .ishl, 0, 0) :: (1, .ior, 0, 0) :: (1, .istore_n 3, 0, 0) :: (3, .iinc 4 (1), 0, 0) :: (3, .goto (-34), 0, 0) :: []
def mt_Chip_renewTables_81 : List ma_AI := (1, .iload_n 3, 0, 0) :: (1, .ishr, 0, 0) :: (1, .iconst (1), 0, 1) :: (1, .iand, 0, 0) :: (1, .iastore, 0, 0) :: (1, .aload_n 0, 0, 0) :: (3, .getfield 25, 2, 4) :: (1, .iload_n 2, 0, 0) :: (1, .iaload, 0, 0) :: (1, .aload_n 0, 0, 0) :: (3, .getfield 28, 2, 5) :: (1, .iload_n 2, 0, 0) :: (1, .iaload, 0, 0) :: (3, .if_icmp .eq (5), 0, 0) :: (1, .iconst (1), 0, 1) :: (1, .istore_n 1, 0, 0) :: []
def mb_Chip_renewTables : ma_Tb := [(0, [true, false, false, false, false], (1, .aload_n 0, 0, 0) :: (3, .getfield 25, 2, 4) :: (1, .iconst (0), 0, 0) :: (1, .aload_n 0, 0, 0) :: (3, .getfield 28, 2, 5) :: (1, .iconst (0), 0, 0) :: (2, .bipush (36), 0, 36) :: (3, .invokestatic 63, 10000, 0) :: (1, .iconst (0), 0, 0) :: (1, .istore_n 1, 0, 0) :: (1, .iconst (0), 0, 0) :: (1, .istore_n 2, 0, 0) :: []),
  (19, [true, true, true, false, false], (1, .iload_n 2, 0, 0) :: (2, .bipush (36), 0, 36) :: (3, .if_icmp .ge (87), 0, 0) :: (1, .iconst (0), 0, 0) :: (1, .istore_n 3, 0, 0) :: (1, .iconst (0), 0, 0) :: (2, .istore 4, 0, 0) :: []),
  (30, [true, true, true, true, true], (2, .iload 4, 0, 0) :: (1, .iconst (4), 0, 4) :: (3, .if_icmp .ge (34), 0, 0) :: (1, .iload_n 3, 0, 0) :: (1, .aload_n 0, 0, 0) :: (1, .aload_n 0, 0, 0) :: (3, .getfield 31, 2, 6) :: (1, .iconst (4), 0, 4) :: (1, .iload_n 2, 0, 0) :: (1, .imul, 0, 0) :: (2, .iload 4, 0, 0) :: (1, .iadd, 0, 0) :: (1, .iaload, 0, 0) :: (1, .aload_n 0, 0, 0) :: (3, .getfield 28, 2, 5) :: (3, .invokevirtual 69, 159, 2) :: mt_Chip_renewTables_56),
  (67, [true, true, true, true, false], (1, .aload_n 0, 0, 0) :: (3, .getfield 25, 2, 4) :: (1, .iload_n 2, 0, 0) :: (1, .aload_n 0, 0, 0) :: (3, .getfield 12, 2, 0) :: (1, .iload_n 2, 0, 0) :: (1, .iconst (0), 0, 0) :: (3, .invokevirtual 55, 154, 5) :: mt_Chip_renewTables_81),
  (103, [true, true, true, false, false], (3, .iinc 2 (1), 0, 0) :: (3, .goto (-87), 0, 0) :: []),
  (109, [false, true, false, false, false], (1, .iload_n 1, 0, 0) :: (1, .ireturn, 0, 0) :: [])]
def mb_Chip_valueOfEnd : ma_Tb := [(0, [true, true, true, false], (1, .iload_n 1, 0, 0) :: (3, .sipush (300), 0, 300) :: (3, .if_icmp .lt (21), 0, 0) :: (1, .iload_n 1, 0, 0) :: (3, .sipush (306), 0, 306) :: (3, .if_icmp .ge (14), 0, 0) :: (1, .aload_n 0, 0, 0) :: (3, .getfield 18, 2, 1) :: (1, .iload_n 1, 0, 0) :: (3, .sipush (300), 0, 300) :: (1, .isub, 0, 0) :: (1, .iaload, 0, 0) :: (1, .ireturn, 0, 0) :: []),
  (25, [true, true, true, false], (1, .iload_n 1, 0, 0) :: (3, .sipush (200), 0, 200) :: (3, .if_icmp .lt (10), 0, 0) :: (1, .iload_n 1, 0, 0) :: (3, .sipush (272), 0, 272) :: (3, .if_icmp .lt (5), 0, 0) :: []),
  (39, [false, false, false, false], (1, .iconst (0), 0, 0) :: (1, .ireturn, 0, 0) :: []),
  (41, [true, true, true, false], (1, .iload_n 1, 0, 0) :: (3, .sipush (200), 0, 200) :: (1, .isub, 0, 0) :: (1, .iconst (2), 0, 2) :: (1, .idiv, 0, 0) :: (1, .istore_n 3, 0, 0) :: (1, .iload_n 1, 0, 0) :: (1, .iconst (2), 0, 2) :: (1, .irem, 0, 0) :: (3, .ifCond .ne (9), 0, 0) :: (1, .aload_n 2, 0, 0) :: (1, .iload_n 3, 0, 0) :: (1, .iaload, 0, 0) :: (3, .goto (9), 0, 0) :: []),
  (61, [true, false, false, true], (1, .aload_n 0, 0, 0) :: (3, .getfield 22, 2, 2) :: (1, .iload_n 3, 0, 0) :: (1, .iaload, 0, 0) :: []),
  (67, [false, false, false, false], (1, .ireturn, 0, 0) :: [])]
def mt_LatticefitLaw_circuitOutput_7 : List ma_AI := (3, .ifCond .eq (7), 0, 0) :: (1, .lconst 1, 0, 1) :: (3, .goto (4), 0, 0) :: []
def mb_LatticefitLaw_circuitOutput : ma_Tb := [(0, [true, true, true, false], (1, .aload_n 2, 0, 0) :: (1, .iconst (0), 0, 0) :: (1, .aload_n 0, 0, 0) :: (1, .iload_n 1, 0, 0) :: (3, .invokevirtual 122, 161, 10) :: mt_LatticefitLaw_circuitOutput_7),
  (14, [false, false, false, false], (1, .lconst 0, 0, 0) :: []),
  (15, [false, false, false, false], (1, .lastore, 0, 0) :: (3, .goto (9), 0, 0) :: []),
  (19, [false, false, false, false], (1, .astore_n 3, 0, 0) :: (1, .iconst (1), 0, 1) :: (1, .ireturn, 0, 0) :: []),
  (22, [false, false, false, false], (1, .astore_n 3, 0, 0) :: (1, .iconst (2), 0, 2) :: (1, .ireturn, 0, 0) :: []),
  (25, [false, false, false, false], (1, .iconst (0), 0, 0) :: (1, .ireturn, 0, 0) :: [])]
def mt_Latticefit_circuitOutput_27 : List ma_AI := (3, .ifCond .eq (7), 0, 0) :: (1, .iconst (1), 0, 1) :: (3, .goto (4), 0, 0) :: []
def mt_Latticefit_circuitOutput_19 : List ma_AI := (1, .aload_n 0, 0, 0) :: (3, .getfield 83, 10, 9) :: (1, .iload_n 1, 0, 0) :: (3, .invokevirtual 314, 163, 8) :: mt_Latticefit_circuitOutput_27
def mt_Latticefit_circuitOutput_5 : List ma_AI := (1, .aload_n 0, 0, 0) :: (3, .getfield 83, 10, 9) :: (1, .aload_n 0, 0, 0) :: (3, .getfield 76, 10, 8) :: (3, .getfield 295, 2, 1) :: (3, .invokevirtual 310, 150, 8) :: mt_Latticefit_circuitOutput_19
def mb_Latticefit_circuitOutput : ma_Tb := [(0, [true, true], (1, .aload_n 0, 0, 0) :: (1, .iload_n 1, 0, 0) :: (3, .invokevirtual 307, 162, 10) :: mt_Latticefit_circuitOutput_5),
  (34, [false, false], (1, .iconst (0), 0, 0) :: []),
  (35, [false, false], (1, .ireturn, 0, 0) :: [])]
def mt_Latticefit_needOutput_28 : List ma_AI := (1, .return_, 0, 0) :: []
def mb_Latticefit_needOutput : ma_Tb := [(0, [true, true], (1, .iload_n 1, 0, 0) :: (3, .ifCond .lt (14), 0, 0) :: (1, .iload_n 1, 0, 0) :: (1, .aload_n 0, 0, 0) :: (3, .getfield 10, 10, 0) :: (3, .getfield 133, 3, 13) :: (3, .if_icmp .lt (11), 0, 0) :: []),
  (15, [false, false], (8, .athrow, 2, 2) :: []),
  (23, [true, false], (1, .aload_n 0, 0, 0) :: (1, .iconst (4), 0, 4) :: (3, .invokevirtual 207, 69, 10) :: mt_Latticefit_needOutput_28)]
def mb_Runner_outputValue : ma_Tb := [(0, [true, true], (1, .aload_n 0, 0, 0) :: (3, .getfield 15, 8, 1) :: (1, .aload_n 0, 0, 0) :: (3, .getfield 18, 8, 2) :: (3, .getfield 48, 3, 9) :: (1, .iload_n 1, 0, 0) :: (1, .iaload, 0, 0) :: (1, .iaload, 0, 0) :: (1, .ireturn, 0, 0) :: [])]
def mt_LatticefitLaw_chipOutput_7 : List ma_AI := (3, .ifCond .eq (7), 0, 0) :: (1, .lconst 1, 0, 1) :: (3, .goto (4), 0, 0) :: []
def mb_LatticefitLaw_chipOutput : ma_Tb := [(0, [true, true, true, false], (1, .aload_n 2, 0, 0) :: (1, .iconst (0), 0, 0) :: (1, .aload_n 0, 0, 0) :: (1, .iload_n 1, 0, 0) :: (3, .invokevirtual 125, 165, 10) :: mt_LatticefitLaw_chipOutput_7),
  (14, [false, false, false, false], (1, .lconst 0, 0, 0) :: []),
  (15, [false, false, false, false], (1, .lastore, 0, 0) :: (3, .goto (9), 0, 0) :: []),
  (19, [false, false, false, false], (1, .astore_n 3, 0, 0) :: (1, .iconst (1), 0, 1) :: (1, .ireturn, 0, 0) :: []),
  (22, [false, false, false, false], (1, .astore_n 3, 0, 0) :: (1, .iconst (2), 0, 2) :: (1, .ireturn, 0, 0) :: []),
  (25, [false, false, false, false], (1, .iconst (0), 0, 0) :: (1, .ireturn, 0, 0) :: [])]
def mt_Latticefit_chipOutput_20 : List ma_AI := (3, .ifCond .eq (7), 0, 0) :: (1, .iconst (1), 0, 1) :: (3, .goto (4), 0, 0) :: []
def mt_Latticefit_chipOutput_12 : List ma_AI := (1, .aload_n 0, 0, 0) :: (3, .getfield 76, 10, 8) :: (1, .iload_n 1, 0, 0) :: (3, .invokevirtual 320, 166, 2) :: mt_Latticefit_chipOutput_20
def mt_Latticefit_chipOutput_5 : List ma_AI := (1, .aload_n 0, 0, 0) :: (3, .getfield 76, 10, 8) :: (3, .invokevirtual 317, 152, 2) :: mt_Latticefit_chipOutput_12
def mb_Latticefit_chipOutput : ma_Tb := [(0, [true, true], (1, .aload_n 0, 0, 0) :: (1, .iload_n 1, 0, 0) :: (3, .invokevirtual 307, 162, 10) :: mt_Latticefit_chipOutput_5),
  (27, [false, false], (1, .iconst (0), 0, 0) :: []),
  (28, [false, false], (1, .ireturn, 0, 0) :: [])]
def mt_Chip_outputValue_27 : List ma_AI := (1, .ireturn, 0, 0) :: []
def mt_Chip_outputValue_20 : List ma_AI := (1, .aload_n 0, 0, 0) :: (3, .getfield 25, 2, 4) :: (3, .invokevirtual 69, 159, 2) :: mt_Chip_outputValue_27
def mb_Chip_outputValue : ma_Tb := [(0, [true, true], (1, .aload_n 0, 0, 0) :: (1, .aload_n 0, 0, 0) :: (3, .getfield 12, 2, 0) :: (1, .aload_n 0, 0, 0) :: (3, .getfield 12, 2, 0) :: (3, .getfield 73, 5, 0) :: (2, .bipush (13), 0, 13) :: (1, .aaload, 0, 0) :: (1, .iload_n 1, 0, 0) :: (1, .iaload, 0, 0) :: (3, .invokevirtual 59, 155, 5) :: mt_Chip_outputValue_20)]
def mt_LatticefitLaw_chipRegister_7 : List ma_AI := (3, .ifCond .eq (7), 0, 0) :: (1, .lconst 1, 0, 1) :: (3, .goto (4), 0, 0) :: []
def mb_LatticefitLaw_chipRegister : ma_Tb := [(0, [true, true, true, false], (1, .aload_n 2, 0, 0) :: (1, .iconst (0), 0, 0) :: (1, .aload_n 0, 0, 0) :: (1, .iload_n 1, 0, 0) :: (3, .invokevirtual 128, 168, 10) :: mt_LatticefitLaw_chipRegister_7),
  (14, [false, false, false, false], (1, .lconst 0, 0, 0) :: []),
  (15, [false, false, false, false], (1, .lastore, 0, 0) :: (3, .goto (9), 0, 0) :: []),
  (19, [false, false, false, false], (1, .astore_n 3, 0, 0) :: (1, .iconst (1), 0, 1) :: (1, .ireturn, 0, 0) :: []),
  (22, [false, false, false, false], (1, .astore_n 3, 0, 0) :: (1, .iconst (2), 0, 2) :: (1, .ireturn, 0, 0) :: []),
  (25, [false, false, false, false], (1, .iconst (0), 0, 0) :: (1, .ireturn, 0, 0) :: [])]
def mt_Latticefit_chipRegister_4 : List ma_AI := (3, .ifCond .ne (11), 0, 0) :: (8, .athrow, 2, 2) :: []
def mt_Latticefit_chipRegister_20 : List ma_AI := (1, .aload_n 0, 0, 0) :: (3, .getfield 76, 10, 8) :: (3, .getfield 288, 2, 2) :: (1, .iload_n 1, 0, 0) :: (1, .iaload, 0, 0) :: (3, .ifCond .eq (7), 0, 0) :: (1, .iconst (1), 0, 1) :: (3, .goto (4), 0, 0) :: []
def mb_Latticefit_chipRegister : ma_Tb := [(0, [true, true], (1, .iload_n 1, 0, 0) :: (3, .invokestatic 188, 57, 0) :: mt_Latticefit_chipRegister_4),
  (15, [true, true], (1, .aload_n 0, 0, 0) :: (1, .iconst (4), 0, 4) :: (3, .invokevirtual 207, 69, 10) :: mt_Latticefit_chipRegister_20),
  (36, [false, false], (1, .iconst (0), 0, 0) :: []),
  (37, [false, false], (1, .ireturn, 0, 0) :: [])]
def mt_LatticefitLaw_sourceOf_8 : List ma_AI := (1, .i2l, 0, 0) :: (1, .lastore, 0, 0) :: (3, .goto (15), 0, 0) :: []
def mb_LatticefitLaw_sourceOf : ma_Tb := [(0, [true, true, true, true, false], (1, .aload_n 3, 0, 0) :: (1, .iconst (0), 0, 0) :: (1, .aload_n 0, 0, 0) :: (1, .iload_n 1, 0, 0) :: (1, .iload_n 2, 0, 0) :: (3, .invokevirtual 131, 170, 10) :: mt_LatticefitLaw_sourceOf_8),
  (13, [false, false, false, false, false], (2, .astore 4, 0, 0) :: (1, .iconst (1), 0, 1) :: (1, .ireturn, 0, 0) :: []),
  (17, [false, false, false, false, false], (2, .astore 4, 0, 0) :: (1, .iconst (2), 0, 2) :: (1, .ireturn, 0, 0) :: []),
  (21, [false, false, false, false, false], (2, .astore 4, 0, 0) :: (1, .iconst (3), 0, 3) :: (1, .ireturn, 0, 0) :: []),
  (25, [false, false, false, false, false], (1, .iconst (0), 0, 0) :: (1, .ireturn, 0, 0) :: [])]
def mt_Latticefit_sourceOf_4 : List ma_AI := (3, .ifCond .eq (12), 0, 0) :: (1, .iload_n 2, 0, 0) :: (3, .ifCond .lt (8), 0, 0) :: (1, .iload_n 2, 0, 0) :: (1, .iconst (4), 0, 4) :: (3, .if_icmp .lt (11), 0, 0) :: []
def mt_Latticefit_sourceOf_60 : List ma_AI := (1, .istore_n 3, 0, 0) :: (1, .iload_n 3, 0, 0) :: (3, .ifCond .ge (11), 0, 0) :: (8, .athrow, 4, 4) :: []
def mt_Latticefit_sourceOf_57 : List ma_AI := (3, .invokevirtual 330, 171, 6) :: mt_Latticefit_sourceOf_60
def mt_Latticefit_sourceOf_54 : List ma_AI := (3, .invokevirtual 327, 155, 5) :: mt_Latticefit_sourceOf_57
def mt_Latticefit_sourceOf_29 : List ma_AI := (1, .aload_n 0, 0, 0) :: (3, .getfield 37, 10, 3) :: (1, .aload_n 0, 0, 0) :: (3, .getfield 76, 10, 8) :: (3, .getfield 321, 2, 0) :: (1, .aload_n 0, 0, 0) :: (3, .getfield 76, 10, 8) :: (3, .getfield 321, 2, 0) :: (1, .iload_n 1, 0, 0) :: (1, .iconst (1), 0, 1) :: (1, .iload_n 2, 0, 0) :: (1, .iadd, 0, 0) :: (3, .invokevirtual 324, 154, 5) :: mt_Latticefit_sourceOf_54
def mb_Latticefit_sourceOf : ma_Tb := [(0, [true, true, true, false], (1, .iload_n 1, 0, 0) :: (3, .invokestatic 188, 57, 0) :: mt_Latticefit_sourceOf_4),
  (16, [false, false, false, false], (8, .athrow, 2, 2) :: []),
  (24, [true, true, true, false], (1, .aload_n 0, 0, 0) :: (1, .iconst (4), 0, 4) :: (3, .invokevirtual 207, 69, 10) :: mt_Latticefit_sourceOf_29),
  (73, [false, false, false, true], (1, .iload_n 3, 0, 0) :: (1, .ireturn, 0, 0) :: [])]
def mb_Places_nodeOfCode : ma_Tb := [(0, [true, true, false], (1, .iload_n 1, 0, 0) :: (3, .sipush (300), 0, 300) :: (3, .if_icmp .lt (32), 0, 0) :: (1, .iload_n 1, 0, 0) :: (3, .sipush (300), 0, 300) :: (1, .aload_n 0, 0, 0) :: (3, .getfield 37, 6, 8) :: (3, .getfield 76, 3, 11) :: (1, .iadd, 0, 0) :: (3, .if_icmp .ge (17), 0, 0) :: (1, .aload_n 0, 0, 0) :: (3, .getfield 37, 6, 8) :: (3, .getfield 79, 3, 7) :: (1, .iload_n 1, 0, 0) :: (3, .sipush (300), 0, 300) :: (1, .isub, 0, 0) :: (1, .iaload, 0, 0) :: (1, .ireturn, 0, 0) :: []),
  (36, [true, true, false], (1, .iload_n 1, 0, 0) :: (3, .sipush (200), 0, 200) :: (3, .if_icmp .lt (10), 0, 0) :: (1, .iload_n 1, 0, 0) :: (3, .sipush (272), 0, 272) :: (3, .if_icmp .lt (5), 0, 0) :: []),
  (50, [false, false, false], (1, .iconst (-1), 0, (-1)) :: (1, .ireturn, 0, 0) :: []),
  (52, [true, true, false], (1, .aload_n 0, 0, 0) :: (3, .getfield 15, 6, 1) :: (1, .iload_n 1, 0, 0) :: (3, .sipush (200), 0, 200) :: (1, .isub, 0, 0) :: (1, .iconst (2), 0, 2) :: (1, .idiv, 0, 0) :: (1, .iaload, 0, 0) :: (1, .istore_n 2, 0, 0) :: (1, .iload_n 2, 0, 0) :: (3, .ifCond .ge (5), 0, 0) :: (1, .iconst (-1), 0, (-1)) :: (1, .ireturn, 0, 0) :: []),
  (71, [true, true, true], (1, .iload_n 1, 0, 0) :: (1, .iconst (2), 0, 2) :: (1, .irem, 0, 0) :: (3, .ifCond .ne (15), 0, 0) :: (1, .aload_n 0, 0, 0) :: (3, .getfield 41, 6, 9) :: (3, .getfield 82, 0, 0) :: (1, .iload_n 2, 0, 0) :: (1, .iaload, 0, 0) :: (3, .goto (12), 0, 0) :: []),
  (89, [true, false, true], (1, .aload_n 0, 0, 0) :: (3, .getfield 41, 6, 9) :: (3, .getfield 85, 0, 1) :: (1, .iload_n 2, 0, 0) :: (1, .iaload, 0, 0) :: []),
  (98, [false, false, false], (1, .ireturn, 0, 0) :: [])]
def mt_LatticefitLaw_flip_10 : List ma_AI := (1, .i2l, 0, 0) :: (1, .lastore, 0, 0) :: (3, .goto (15), 0, 0) :: []
def mb_LatticefitLaw_flip : ma_Tb := [(0, [true, true, true, true, true, false], (2, .aload 4, 0, 0) :: (1, .iconst (0), 0, 0) :: (1, .aload_n 0, 0, 0) :: (1, .iload_n 1, 0, 0) :: (1, .iload_n 2, 0, 0) :: (1, .iload_n 3, 0, 0) :: (3, .invokevirtual 134, 173, 10) :: mt_LatticefitLaw_flip_10),
  (15, [false, false, false, false, false, false], (2, .astore 5, 0, 0) :: (1, .iconst (1), 0, 1) :: (1, .ireturn, 0, 0) :: []),
  (19, [false, false, false, false, false, false], (2, .astore 5, 0, 0) :: (1, .iconst (2), 0, 2) :: (1, .ireturn, 0, 0) :: []),
  (23, [false, false, false, false, false, false], (2, .astore 5, 0, 0) :: (1, .iconst (3), 0, 3) :: (1, .ireturn, 0, 0) :: []),
  (27, [false, false, false, false, false, false], (1, .iconst (0), 0, 0) :: (1, .ireturn, 0, 0) :: [])]
def mt_Latticefit_flip_33 : List ma_AI := (3, .if_icmp .lt (11), 0, 0) :: []
def mt_Latticefit_flip_24 : List ma_AI := (1, .iload_n 2, 0, 0) :: (3, .ifCond .lt (11), 0, 0) :: (1, .iload_n 2, 0, 0) :: (1, .iload_n 1, 0, 0) :: (3, .invokestatic 272, 136, 0) :: mt_Latticefit_flip_33
def mb_Latticefit_flip : ma_Tb := [(0, [true, true, true, true], (1, .iload_n 3, 0, 0) :: (3, .ifCond .lt (9), 0, 0) :: (1, .iload_n 3, 0, 0) :: (2, .bipush (16), 0, 16) :: (3, .if_icmp .lt (11), 0, 0) :: []),
  (10, [false, false, false, false], (8, .athrow, 2, 2) :: []),
  (18, [true, true, true, true], (1, .aload_n 0, 0, 0) :: (1, .iload_n 1, 0, 0) :: (1, .iconst (4), 0, 4) :: (3, .invokevirtual 269, 135, 10) :: mt_Latticefit_flip_24),
  (36, [false, false, false, false], (8, .athrow, 4, 4) :: []),
  (44, [true, true, true, true], (1, .aload_n 0, 0, 0) :: (3, .getfield 76, 10, 8) :: (3, .getfield 321, 2, 0) :: (3, .getfield 273, 5, 0) :: (1, .iload_n 1, 0, 0) :: (1, .aaload, 0, 0) :: (1, .iload_n 2, 0, 0) :: (1, .dup2, 0, 0) :: (1, .iaload, 0, 0) :: (1, .iconst (1), 0, 1) :: (1, .iload_n 3, 0, 0) :: (1, .ishl, 0, 0) :: (1, .ixor, 0, 0) :: (1, .iastore, 0, 0) :: (1, .aload_n 0, 0, 0) :: (3, .getfield 76, 10, 8) :: (3, .getfield 321, 2, 0) :: (3, .getfield 273, 5, 0) :: (1, .iload_n 1, 0, 0) :: (1, .aaload, 0, 0) :: (1, .iload_n 2, 0, 0) :: (1, .iaload, 0, 0) :: (1, .ireturn, 0, 0) :: [])]
def mt_LatticefitLaw_isBad_7 : List ma_AI := (3, .ifCond .eq (7), 0, 0) :: (1, .lconst 1, 0, 1) :: (3, .goto (4), 0, 0) :: []
def mb_LatticefitLaw_isBad : ma_Tb := [(0, [true, true, true, false], (1, .aload_n 2, 0, 0) :: (1, .iconst (0), 0, 0) :: (1, .aload_n 0, 0, 0) :: (1, .iload_n 1, 0, 0) :: (3, .invokevirtual 137, 175, 10) :: mt_LatticefitLaw_isBad_7),
  (14, [false, false, false, false], (1, .lconst 0, 0, 0) :: []),
  (15, [false, false, false, false], (1, .lastore, 0, 0) :: (3, .goto (9), 0, 0) :: []),
  (19, [false, false, false, false], (1, .astore_n 3, 0, 0) :: (1, .iconst (1), 0, 1) :: (1, .ireturn, 0, 0) :: []),
  (22, [false, false, false, false], (1, .astore_n 3, 0, 0) :: (1, .iconst (2), 0, 2) :: (1, .ireturn, 0, 0) :: []),
  (25, [false, false, false, false], (1, .iconst (0), 0, 0) :: (1, .ireturn, 0, 0) :: [])]
def mt_Latticefit_isBad_25 : List ma_AI := (3, .if_icmp .eq (7), 0, 0) :: (1, .iconst (1), 0, 1) :: (3, .goto (4), 0, 0) :: []
def mt_Latticefit_isBad_17 : List ma_AI := (1, .aload_n 0, 0, 0) :: (3, .getfield 60, 10, 6) :: (1, .iload_n 1, 0, 0) :: (3, .invokevirtual 276, 139, 5) :: mt_Latticefit_isBad_25
def mt_Latticefit_isBad_6 : List ma_AI := (1, .aload_n 0, 0, 0) :: (3, .getfield 76, 10, 8) :: (3, .getfield 321, 2, 0) :: (1, .iload_n 1, 0, 0) :: (3, .invokevirtual 276, 139, 5) :: mt_Latticefit_isBad_17
def mb_Latticefit_isBad : ma_Tb := [(0, [true, true], (1, .aload_n 0, 0, 0) :: (1, .iload_n 1, 0, 0) :: (1, .iconst (4), 0, 4) :: (3, .invokevirtual 269, 135, 10) :: mt_Latticefit_isBad_6),
  (32, [false, false], (1, .iconst (0), 0, 0) :: []),
  (33, [false, false], (1, .ireturn, 0, 0) :: [])]
def mt_LatticefitLaw_scrub_6 : List ma_AI := (1, .i2l, 0, 0) :: (1, .lastore, 0, 0) :: (3, .goto (6), 0, 0) :: []
def mb_LatticefitLaw_scrub : ma_Tb := [(0, [true, true, false], (1, .aload_n 1, 0, 0) :: (1, .iconst (0), 0, 0) :: (1, .aload_n 0, 0, 0) :: (3, .invokevirtual 140, 177, 10) :: mt_LatticefitLaw_scrub_6),
  (11, [false, false, false], (1, .astore_n 2, 0, 0) :: (1, .iconst (1), 0, 1) :: (1, .ireturn, 0, 0) :: []),
  (14, [false, false, false], (1, .iconst (0), 0, 0) :: (1, .ireturn, 0, 0) :: [])]
def mt_Latticefit_scrub_5 : List ma_AI := (1, .iconst (0), 0, 0) :: (1, .istore_n 1, 0, 0) :: (1, .iconst (0), 0, 0) :: (1, .istore_n 2, 0, 0) :: []
def mt_Latticefit_scrub_52 : List ma_AI := (3, .iinc 1 (1), 0, 0) :: []
def mt_Latticefit_scrub_34 : List ma_AI := (3, .if_icmp .eq (21), 0, 0) :: (1, .aload_n 0, 0, 0) :: (3, .getfield 76, 10, 8) :: (3, .getfield 321, 2, 0) :: (1, .aload_n 0, 0, 0) :: (3, .getfield 60, 10, 6) :: (1, .iload_n 2, 0, 0) :: (3, .invokevirtual 333, 143, 5) :: mt_Latticefit_scrub_52
def mt_Latticefit_scrub_26 : List ma_AI := (1, .aload_n 0, 0, 0) :: (3, .getfield 60, 10, 6) :: (1, .iload_n 2, 0, 0) :: (3, .invokevirtual 276, 139, 5) :: mt_Latticefit_scrub_34
def mb_Latticefit_scrub : ma_Tb := [(0, [true, false, false], (1, .aload_n 0, 0, 0) :: (1, .iconst (4), 0, 4) :: (3, .invokevirtual 207, 69, 10) :: mt_Latticefit_scrub_5),
  (9, [true, true, true], (1, .iload_n 2, 0, 0) :: (2, .bipush (14), 0, 14) :: (3, .if_icmp .ge (49), 0, 0) :: (1, .aload_n 0, 0, 0) :: (3, .getfield 76, 10, 8) :: (3, .getfield 321, 2, 0) :: (1, .iload_n 2, 0, 0) :: (3, .invokevirtual 276, 139, 5) :: mt_Latticefit_scrub_26),
  (55, [true, true, true], (3, .iinc 2 (1), 0, 0) :: (3, .goto (-49), 0, 0) :: []),
  (61, [false, true, false], (1, .iload_n 1, 0, 0) :: (1, .ireturn, 0, 0) :: [])]
def mt_LatticefitLaw_agrees_6 : List ma_AI := (3, .ifCond .eq (7), 0, 0) :: (1, .lconst 1, 0, 1) :: (3, .goto (4), 0, 0) :: []
def mb_LatticefitLaw_agrees : ma_Tb := [(0, [true, true, false], (1, .aload_n 1, 0, 0) :: (1, .iconst (0), 0, 0) :: (1, .aload_n 0, 0, 0) :: (3, .invokevirtual 143, 179, 10) :: mt_LatticefitLaw_agrees_6),
  (13, [false, false, false], (1, .lconst 0, 0, 0) :: []),
  (14, [false, false, false], (1, .lastore, 0, 0) :: (3, .goto (6), 0, 0) :: []),
  (18, [false, false, false], (1, .astore_n 2, 0, 0) :: (1, .iconst (1), 0, 1) :: (1, .ireturn, 0, 0) :: []),
  (21, [false, false, false], (1, .iconst (0), 0, 0) :: (1, .ireturn, 0, 0) :: [])]
def mt_Latticefit_agrees_26 : List ma_AI := (1, .iconst (0), 0, 0) :: (1, .istore_n 1, 0, 0) :: []
def mt_Latticefit_agrees_19 : List ma_AI := (1, .aload_n 0, 0, 0) :: (3, .getfield 76, 10, 8) :: (3, .invokevirtual 317, 152, 2) :: mt_Latticefit_agrees_26
def mt_Latticefit_agrees_5 : List ma_AI := (1, .aload_n 0, 0, 0) :: (3, .getfield 83, 10, 9) :: (1, .aload_n 0, 0, 0) :: (3, .getfield 76, 10, 8) :: (3, .getfield 295, 2, 1) :: (3, .invokevirtual 310, 150, 8) :: mt_Latticefit_agrees_19
def mt_Latticefit_agrees_55 : List ma_AI := (3, .if_icmp .eq (5), 0, 0) :: (1, .iconst (0), 0, 0) :: (1, .ireturn, 0, 0) :: []
def mt_Latticefit_agrees_47 : List ma_AI := (1, .aload_n 0, 0, 0) :: (3, .getfield 76, 10, 8) :: (1, .iload_n 1, 0, 0) :: (3, .invokevirtual 320, 166, 2) :: mt_Latticefit_agrees_55
def mt_Latticefit_agrees_113 : List ma_AI := (1, .iaload, 0, 0) :: (3, .if_icmp .eq (5), 0, 0) :: (1, .iconst (0), 0, 0) :: (1, .ireturn, 0, 0) :: []
def mb_Latticefit_agrees : ma_Tb := [(0, [true, false, false], (1, .aload_n 0, 0, 0) :: (1, .iconst (4), 0, 4) :: (3, .invokevirtual 207, 69, 10) :: mt_Latticefit_agrees_5),
  (28, [true, true, false], (1, .iload_n 1, 0, 0) :: (1, .aload_n 0, 0, 0) :: (3, .getfield 10, 10, 0) :: (3, .getfield 133, 3, 13) :: (3, .if_icmp .ge (30), 0, 0) :: (1, .aload_n 0, 0, 0) :: (3, .getfield 83, 10, 9) :: (1, .iload_n 1, 0, 0) :: (3, .invokevirtual 314, 163, 8) :: mt_Latticefit_agrees_47),
  (60, [true, true, false], (3, .iinc 1 (1), 0, 0) :: (3, .goto (-35), 0, 0) :: []),
  (66, [true, false, false], (1, .iconst (0), 0, 0) :: (1, .istore_n 1, 0, 0) :: []),
  (68, [true, true, false], (1, .iload_n 1, 0, 0) :: (1, .aload_n 0, 0, 0) :: (3, .getfield 10, 10, 0) :: (3, .getfield 107, 3, 12) :: (3, .if_icmp .ge (49), 0, 0) :: (1, .aload_n 0, 0, 0) :: (3, .getfield 10, 10, 0) :: (3, .getfield 285, 3, 8) :: (1, .iload_n 1, 0, 0) :: (1, .iaload, 0, 0) :: (1, .istore_n 2, 0, 0) :: (1, .aload_n 0, 0, 0) :: (3, .getfield 83, 10, 9) :: (3, .getfield 337, 8, 0) :: (1, .iload_n 2, 0, 0) :: (1, .iaload, 0, 0) :: (1, .aload_n 0, 0, 0) :: (3, .getfield 76, 10, 8) :: (3, .getfield 288, 2, 2) :: (1, .aload_n 0, 0, 0) :: (3, .getfield 37, 10, 3) :: (1, .iload_n 2, 0, 0) :: (3, .invokevirtual 289, 62, 6) :: mt_Latticefit_agrees_113),
  (119, [true, true, false], (3, .iinc 1 (1), 0, 0) :: (3, .goto (-54), 0, 0) :: []),
  (125, [false, false, false], (1, .iconst (1), 0, 1) :: (1, .ireturn, 0, 0) :: [])]
def mt_LatticefitLaw_fill_6 : List ma_AI := (1, .f2d, 0, 0) :: (1, .dastore, 0, 0) :: (3, .goto (6), 0, 0) :: []
def mb_LatticefitLaw_fill : ma_Tb := [(0, [true, true, false], (1, .aload_n 1, 0, 0) :: (1, .iconst (0), 0, 0) :: (1, .aload_n 0, 0, 0) :: (3, .invokevirtual 147, 181, 10) :: mt_LatticefitLaw_fill_6),
  (11, [false, false, false], (1, .astore_n 2, 0, 0) :: (1, .iconst (1), 0, 1) :: (1, .ireturn, 0, 0) :: []),
  (14, [false, false, false], (1, .iconst (0), 0, 0) :: (1, .ireturn, 0, 0) :: [])]
def mt_Latticefit_fill_5 : List ma_AI := (1, .iconst (0), 0, 0) :: (1, .istore_n 1, 0, 0) :: (1, .iconst (0), 0, 0) :: (1, .istore_n 2, 0, 0) :: []
def mt_Latticefit_fill_29 : List ma_AI := (1, .iadd, 0, 0) :: (1, .istore_n 1, 0, 0) :: (3, .iinc 2 (1), 0, 0) :: (3, .goto (-25), 0, 0) :: []
def mb_Latticefit_fill : ma_Tb := [(0, [true, false, false], (1, .aload_n 0, 0, 0) :: (1, .iconst (2), 0, 2) :: (3, .invokevirtual 207, 69, 10) :: mt_Latticefit_fill_5),
  (9, [true, true, true], (1, .iload_n 2, 0, 0) :: (1, .aload_n 0, 0, 0) :: (3, .getfield 10, 10, 0) :: (3, .getfield 91, 3, 10) :: (3, .if_icmp .ge (20), 0, 0) :: (1, .iload_n 1, 0, 0) :: (1, .aload_n 0, 0, 0) :: (3, .getfield 44, 10, 4) :: (1, .iload_n 2, 0, 0) :: (3, .invokevirtual 257, 119, 7) :: mt_Latticefit_fill_29),
  (37, [false, true, false], (1, .iload_n 1, 0, 0) :: (1, .i2f, 0, 0) :: (3, .ldc_w 340, 1, 1126694912) :: (1, .fdiv, 0, 0) :: (1, .freturn, 0, 0) :: [])]
def mt_LatticefitModel_column_4 : List ma_AI := (2, .bipush (7), 0, 7) :: (1, .idiv, 0, 0) :: (1, .ireturn, 0, 0) :: []
def mb_LatticefitModel_column : ma_Tb := [(0, [true], (1, .iload_n 0, 0, 0) :: (3, .invokestatic 299, 183, 0) :: mt_LatticefitModel_column_4)]
def mb_LatticefitModel_low : ma_Tb := [(0, [true], (1, .iload_n 0, 0, 0) :: (2, .bipush (42), 0, 42) :: (3, .if_icmp .ge (7), 0, 0) :: (1, .iload_n 0, 0, 0) :: (3, .goto (21), 0, 0) :: []),
  (10, [true], (2, .bipush (7), 0, 7) :: (1, .iload_n 0, 0, 0) :: (2, .bipush (42), 0, 42) :: (1, .isub, 0, 0) :: (2, .bipush (6), 0, 6) :: (1, .idiv, 0, 0) :: (1, .imul, 0, 0) :: (1, .iload_n 0, 0, 0) :: (2, .bipush (42), 0, 42) :: (1, .isub, 0, 0) :: (2, .bipush (6), 0, 6) :: (1, .irem, 0, 0) :: (1, .iadd, 0, 0) :: []),
  (28, [false], (1, .ireturn, 0, 0) :: [])]
def mb_LatticefitModel_thrown : ma_Tb := [(0, [true], (1, .aload_n 0, 0, 0) :: (3, .getfield 137, 11, 50) :: (1, .ireturn, 0, 0) :: [])]
def mt_LatticefitModel_addInput_28 : List ma_AI := (3, .ifCond .eq (5), 0, 0) :: (1, .iconst (0), 0, 0) :: (1, .ireturn, 0, 0) :: []
def mt_LatticefitModel_addInput_62 : List ma_AI := (1, .ireturn, 0, 0) :: []
def mb_LatticefitModel_addInput : ma_Tb := [(0, [true], (1, .aload_n 0, 0, 0) :: (1, .aload_n 0, 0, 0) :: (3, .getfield 149, 11, 8) :: (2, .bipush (48), 0, 48) :: (3, .if_icmp .eq (12), 0, 0) :: (1, .aload_n 0, 0, 0) :: (3, .getfield 171, 11, 9) :: (2, .bipush (6), 0, 6) :: (3, .if_icmp .ne (7), 0, 0) :: []),
  (19, [true], (1, .iconst (1), 0, 1) :: (3, .goto (4), 0, 0) :: []),
  (23, [true], (1, .iconst (0), 0, 0) :: []),
  (24, [true], (1, .iconst (1), 0, 1) :: (3, .invokevirtual 145, 186, 11) :: mt_LatticefitModel_addInput_28),
  (33, [true], (1, .aload_n 0, 0, 0) :: (3, .getfield 26, 11, 5) :: (1, .aload_n 0, 0, 0) :: (3, .getfield 149, 11, 8) :: (1, .aload_n 0, 0, 0) :: (3, .getfield 171, 11, 9) :: (1, .iastore, 0, 0) :: (1, .aload_n 0, 0, 0) :: (1, .dup, 0, 0) :: (3, .getfield 171, 11, 9) :: (1, .iconst (1), 0, 1) :: (1, .iadd, 0, 0) :: (3, .putfield 171, 11, 9) :: (1, .aload_n 0, 0, 0) :: (2, .bipush (105), 0, 105) :: (3, .invokevirtual 174, 187, 11) :: mt_LatticefitModel_addInput_62)]
def mb_LatticefitModel_isThrown : ma_Tb := [(0, [true, true, true], (1, .aload_n 0, 0, 0) :: (1, .iload_n 1, 0, 0) :: (3, .ifCond .eq (7), 0, 0) :: (1, .iload_n 2, 0, 0) :: (3, .goto (4), 0, 0) :: []),
  (9, [false, true, false], (1, .iconst (0), 0, 0) :: []),
  (10, [false, true, false], (3, .putfield 137, 11, 50) :: (1, .iload_n 1, 0, 0) :: (1, .ireturn, 0, 0) :: [])]
def mt_LatticefitModel_newNode_37 : List ma_AI := (1, .aload_n 0, 0, 0) :: (3, .getfield 149, 11, 8) :: (1, .iconst (1), 0, 1) :: (1, .isub, 0, 0) :: (1, .ireturn, 0, 0) :: []
def mb_LatticefitModel_newNode : ma_Tb := [(0, [true, true], (1, .aload_n 0, 0, 0) :: (3, .getfield 9, 11, 0) :: (1, .aload_n 0, 0, 0) :: (3, .getfield 149, 11, 8) :: (1, .iload_n 1, 0, 0) :: (1, .castore, 0, 0) :: (1, .aload_n 0, 0, 0) :: (3, .getfield 23, 11, 4) :: (1, .aload_n 0, 0, 0) :: (3, .getfield 149, 11, 8) :: (1, .aload_n 0, 0, 0) :: (3, .getfield 149, 11, 8) :: (1, .iastore, 0, 0) :: (1, .aload_n 0, 0, 0) :: (1, .dup, 0, 0) :: (3, .getfield 149, 11, 8) :: (1, .iconst (1), 0, 1) :: (1, .iadd, 0, 0) :: (3, .putfield 149, 11, 8) :: (1, .aload_n 0, 0, 0) :: (3, .invokevirtual 152, 188, 11) :: mt_LatticefitModel_newNode_37)]
def mt_LatticefitModel_changes_9 : List ma_AI := (1, .iconst (0), 0, 0) :: (1, .istore_n 1, 0, 0) :: []
def mb_LatticefitModel_changes : ma_Tb := [(0, [true, false], (1, .aload_n 0, 0, 0) :: (1, .iconst (0), 0, 0) :: (3, .putfield 155, 11, 26) :: (1, .aload_n 0, 0, 0) :: (3, .invokevirtual 159, 189, 11) :: mt_LatticefitModel_changes_9),
  (11, [true, true], (1, .iload_n 1, 0, 0) :: (2, .bipush (84), 0, 84) :: (3, .if_icmp .ge (16), 0, 0) :: (1, .aload_n 0, 0, 0) :: (3, .getfield 91, 11, 35) :: (1, .iload_n 1, 0, 0) :: (1, .iconst (0), 0, 0) :: (1, .iastore, 0, 0) :: (3, .iinc 1 (1), 0, 0) :: (3, .goto (-16), 0, 0) :: []),
  (30, [false, false], (1, .return_, 0, 0) :: [])]
def mb_LatticefitModel_unroutes : ma_Tb := [(0, [true], (1, .aload_n 0, 0, 0) :: (1, .iconst (0), 0, 0) :: (3, .putfield 162, 11, 27) :: (1, .aload_n 0, 0, 0) :: (1, .iconst (0), 0, 0) :: (3, .putfield 165, 11, 28) :: (1, .aload_n 0, 0, 0) :: (1, .iconst (0), 0, 0) :: (3, .putfield 168, 11, 29) :: (1, .return_, 0, 0) :: [])]
def mt_LatticefitModel_addRegister_7 : List ma_AI := (3, .ifCond .ne (7), 0, 0) :: (1, .iconst (1), 0, 1) :: (3, .goto (4), 0, 0) :: []
def mt_LatticefitModel_addRegister_19 : List ma_AI := (3, .ifCond .ne (34), 0, 0) :: (1, .aload_n 0, 0, 0) :: (1, .aload_n 0, 0, 0) :: (3, .getfield 149, 11, 8) :: (2, .bipush (48), 0, 48) :: (3, .if_icmp .eq (12), 0, 0) :: (1, .aload_n 0, 0, 0) :: (3, .getfield 178, 11, 10) :: (2, .bipush (8), 0, 8) :: (3, .if_icmp .ne (7), 0, 0) :: []
def mt_LatticefitModel_addRegister_50 : List ma_AI := (3, .ifCond .eq (5), 0, 0) :: []
def mt_LatticefitModel_addRegister_91 : List ma_AI := (1, .ireturn, 0, 0) :: []
def mb_LatticefitModel_addRegister : ma_Tb := [(0, [true, true, true], (1, .aload_n 0, 0, 0) :: (1, .iload_n 2, 0, 0) :: (1, .iconst (0), 0, 0) :: (1, .iconst (2), 0, 2) :: (3, .invokestatic 141, 191, 0) :: mt_LatticefitModel_addRegister_7),
  (14, [true, true, true], (1, .iconst (0), 0, 0) :: []),
  (15, [true, true, true], (1, .iconst (1), 0, 1) :: (3, .invokevirtual 145, 186, 11) :: mt_LatticefitModel_addRegister_19),
  (41, [true, true, true], (1, .iconst (1), 0, 1) :: (3, .goto (4), 0, 0) :: []),
  (45, [true, true, true], (1, .iconst (0), 0, 0) :: []),
  (46, [true, true, true], (1, .iconst (2), 0, 2) :: (3, .invokevirtual 145, 186, 11) :: mt_LatticefitModel_addRegister_50),
  (53, [false, false, false], (1, .iconst (0), 0, 0) :: (1, .ireturn, 0, 0) :: []),
  (55, [true, true, true], (1, .aload_n 0, 0, 0) :: (3, .getfield 32, 11, 7) :: (1, .aload_n 0, 0, 0) :: (3, .getfield 149, 11, 8) :: (1, .iload_n 1, 0, 0) :: (1, .bastore, 0, 0) :: (1, .aload_n 0, 0, 0) :: (3, .getfield 20, 11, 3) :: (1, .aload_n 0, 0, 0) :: (3, .getfield 149, 11, 8) :: (1, .iload_n 2, 0, 0) :: (1, .iastore, 0, 0) :: (1, .aload_n 0, 0, 0) :: (1, .dup, 0, 0) :: (3, .getfield 178, 11, 10) :: (1, .iconst (1), 0, 1) :: (1, .iadd, 0, 0) :: (3, .putfield 178, 11, 10) :: (1, .aload_n 0, 0, 0) :: (2, .bipush (114), 0, 114) :: (3, .invokevirtual 174, 187, 11) :: mt_LatticefitModel_addRegister_91)]
def mb_LatticefitModel_isIn : ma_Tb := [(0, [true, true, true], (1, .iload_n 0, 0, 0) :: (1, .iload_n 1, 0, 0) :: (3, .if_icmp .lt (12), 0, 0) :: (1, .iload_n 0, 0, 0) :: (1, .iload_n 2, 0, 0) :: (3, .if_icmp .gt (7), 0, 0) :: (1, .iconst (1), 0, 1) :: (3, .goto (4), 0, 0) :: []),
  (14, [false, false, false], (1, .iconst (0), 0, 0) :: []),
  (15, [false, false, false], (1, .ireturn, 0, 0) :: [])]
def mt_LatticefitModel_addGate_81 : List ma_AI := (3, .ifCond .ne (7), 0, 0) :: []
def mt_LatticefitModel_addGate_61 : List ma_AI := (3, .ifCond .eq (23), 0, 0) :: (1, .iload_n 1, 0, 0) :: (2, .bipush (110), 0, 110) :: (3, .if_icmp .eq (21), 0, 0) :: (1, .iload_n 3, 0, 0) :: (1, .iconst (0), 0, 0) :: (1, .aload_n 0, 0, 0) :: (3, .getfield 149, 11, 8) :: (1, .iconst (1), 0, 1) :: (1, .isub, 0, 0) :: (3, .invokestatic 141, 191, 0) :: mt_LatticefitModel_addGate_81
def mt_LatticefitModel_addGate_46 : List ma_AI := (3, .ifCond .ne (72), 0, 0) :: (1, .aload_n 0, 0, 0) :: (1, .iload_n 2, 0, 0) :: (1, .iconst (0), 0, 0) :: (1, .aload_n 0, 0, 0) :: (3, .getfield 149, 11, 8) :: (1, .iconst (1), 0, 1) :: (1, .isub, 0, 0) :: (3, .invokestatic 141, 191, 0) :: mt_LatticefitModel_addGate_61
def mt_LatticefitModel_addGate_93 : List ma_AI := (3, .ifCond .ne (25), 0, 0) :: (1, .aload_n 0, 0, 0) :: (1, .aload_n 0, 0, 0) :: (3, .getfield 149, 11, 8) :: (2, .bipush (48), 0, 48) :: (3, .if_icmp .ne (7), 0, 0) :: (1, .iconst (1), 0, 1) :: (3, .goto (4), 0, 0) :: []
def mt_LatticefitModel_addGate_115 : List ma_AI := (3, .ifCond .eq (5), 0, 0) :: []
def mt_LatticefitModel_addGate_155 : List ma_AI := (1, .ireturn, 0, 0) :: []
def mb_LatticefitModel_addGate : ma_Tb := [(0, [true, true, true, true, false], (1, .iload_n 1, 0, 0) :: (2, .bipush (97), 0, 97) :: (3, .if_icmp .eq (21), 0, 0) :: (1, .iload_n 1, 0, 0) :: (2, .bipush (111), 0, 111) :: (3, .if_icmp .eq (15), 0, 0) :: (1, .iload_n 1, 0, 0) :: (2, .bipush (120), 0, 120) :: (3, .if_icmp .eq (9), 0, 0) :: (1, .iload_n 1, 0, 0) :: (2, .bipush (110), 0, 110) :: (3, .if_icmp .ne (7), 0, 0) :: []),
  (24, [true, true, true, true, false], (1, .iconst (1), 0, 1) :: (3, .goto (4), 0, 0) :: []),
  (28, [true, true, true, true, false], (1, .iconst (0), 0, 0) :: []),
  (29, [true, true, true, true, false], (2, .istore 4, 0, 0) :: (1, .aload_n 0, 0, 0) :: (2, .iload 4, 0, 0) :: (3, .ifCond .ne (7), 0, 0) :: (1, .iconst (1), 0, 1) :: (3, .goto (4), 0, 0) :: []),
  (41, [true, true, true, true, false], (1, .iconst (0), 0, 0) :: []),
  (42, [true, true, true, true, false], (1, .iconst (1), 0, 1) :: (3, .invokevirtual 145, 186, 11) :: mt_LatticefitModel_addGate_46),
  (84, [true, true, true, true, false], (1, .iconst (1), 0, 1) :: (3, .goto (4), 0, 0) :: []),
  (88, [true, true, true, true, false], (1, .iconst (0), 0, 0) :: []),
  (89, [true, true, true, true, false], (1, .iconst (2), 0, 2) :: (3, .invokevirtual 145, 186, 11) :: mt_LatticefitModel_addGate_93),
  (110, [true, true, true, true, false], (1, .iconst (0), 0, 0) :: []),
  (111, [true, true, true, true, false], (1, .iconst (3), 0, 3) :: (3, .invokevirtual 145, 186, 11) :: mt_LatticefitModel_addGate_115),
  (118, [false, false, false, false, false], (1, .iconst (0), 0, 0) :: (1, .ireturn, 0, 0) :: []),
  (120, [true, true, true, true, false], (1, .aload_n 0, 0, 0) :: (3, .getfield 13, 11, 1) :: (1, .aload_n 0, 0, 0) :: (3, .getfield 149, 11, 8) :: (1, .iload_n 2, 0, 0) :: (1, .iastore, 0, 0) :: (1, .aload_n 0, 0, 0) :: (3, .getfield 17, 11, 2) :: (1, .aload_n 0, 0, 0) :: (3, .getfield 149, 11, 8) :: (1, .iload_n 1, 0, 0) :: (2, .bipush (110), 0, 110) :: (3, .if_icmp .ne (7), 0, 0) :: (1, .iload_n 2, 0, 0) :: (3, .goto (4), 0, 0) :: []),
  (148, [true, true, false, true, false], (1, .iload_n 3, 0, 0) :: []),
  (149, [true, true, false, false, false], (1, .iastore, 0, 0) :: (1, .aload_n 0, 0, 0) :: (1, .iload_n 1, 0, 0) :: (3, .invokevirtual 174, 187, 11) :: mt_LatticefitModel_addGate_155)]
def mt_LatticefitModel_feed_26 : List ma_AI := (3, .ifCond .ne (7), 0, 0) :: []
def mt_LatticefitModel_feed_12 : List ma_AI := (3, .ifCond .eq (17), 0, 0) :: (1, .iload_n 2, 0, 0) :: (1, .iconst (0), 0, 0) :: (1, .aload_n 0, 0, 0) :: (3, .getfield 149, 11, 8) :: (1, .iconst (1), 0, 1) :: (1, .isub, 0, 0) :: (3, .invokestatic 141, 191, 0) :: mt_LatticefitModel_feed_26
def mt_LatticefitModel_feed_38 : List ma_AI := (3, .ifCond .ne (27), 0, 0) :: (1, .aload_n 0, 0, 0) :: (1, .aload_n 0, 0, 0) :: (3, .getfield 9, 11, 0) :: (1, .iload_n 1, 0, 0) :: (1, .caload, 0, 0) :: (2, .bipush (114), 0, 114) :: (3, .if_icmp .eq (7), 0, 0) :: (1, .iconst (1), 0, 1) :: (3, .goto (4), 0, 0) :: []
def mt_LatticefitModel_feed_62 : List ma_AI := (3, .ifCond .eq (5), 0, 0) :: []
def mt_LatticefitModel_feed_85 : List ma_AI := (1, .iload_n 3, 0, 0) :: (1, .ireturn, 0, 0) :: []
def mb_LatticefitModel_feed : ma_Tb := [(0, [true, true, true, false], (1, .aload_n 0, 0, 0) :: (1, .iload_n 1, 0, 0) :: (1, .iconst (0), 0, 0) :: (1, .aload_n 0, 0, 0) :: (3, .getfield 149, 11, 8) :: (1, .iconst (1), 0, 1) :: (1, .isub, 0, 0) :: (3, .invokestatic 141, 191, 0) :: mt_LatticefitModel_feed_12),
  (29, [true, true, true, false], (1, .iconst (1), 0, 1) :: (3, .goto (4), 0, 0) :: []),
  (33, [true, true, true, false], (1, .iconst (0), 0, 0) :: []),
  (34, [true, true, true, false], (1, .iconst (1), 0, 1) :: (3, .invokevirtual 145, 186, 11) :: mt_LatticefitModel_feed_38),
  (57, [true, true, true, false], (1, .iconst (0), 0, 0) :: []),
  (58, [true, true, true, false], (1, .iconst (2), 0, 2) :: (3, .invokevirtual 145, 186, 11) :: mt_LatticefitModel_feed_62),
  (65, [false, false, false, false], (1, .iconst (0), 0, 0) :: (1, .ireturn, 0, 0) :: []),
  (67, [true, true, true, false], (1, .aload_n 0, 0, 0) :: (3, .getfield 23, 11, 4) :: (1, .iload_n 1, 0, 0) :: (1, .iaload, 0, 0) :: (1, .istore_n 3, 0, 0) :: (1, .aload_n 0, 0, 0) :: (3, .getfield 23, 11, 4) :: (1, .iload_n 1, 0, 0) :: (1, .iload_n 2, 0, 0) :: (1, .iastore, 0, 0) :: (1, .aload_n 0, 0, 0) :: (3, .invokevirtual 152, 188, 11) :: mt_LatticefitModel_feed_85)]
def mt_LatticefitModel_addOutput_9 : List ma_AI := (3, .ifCond .ne (25), 0, 0) :: (1, .aload_n 0, 0, 0) :: (1, .aload_n 0, 0, 0) :: (3, .getfield 185, 11, 11) :: (2, .bipush (6), 0, 6) :: (3, .if_icmp .ne (7), 0, 0) :: (1, .iconst (1), 0, 1) :: (3, .goto (4), 0, 0) :: []
def mt_LatticefitModel_addOutput_31 : List ma_AI := (3, .ifCond .eq (5), 0, 0) :: []
def mt_LatticefitModel_addOutput_60 : List ma_AI := (1, .aload_n 0, 0, 0) :: (3, .getfield 185, 11, 11) :: (1, .iconst (1), 0, 1) :: (1, .isub, 0, 0) :: (1, .ireturn, 0, 0) :: []
def mb_LatticefitModel_addOutput : ma_Tb := [(0, [true, true], (1, .aload_n 0, 0, 0) :: (1, .iload_n 1, 0, 0) :: (1, .aload_n 0, 0, 0) :: (3, .getfield 149, 11, 8) :: (3, .invokevirtual 181, 195, 11) :: mt_LatticefitModel_addOutput_9),
  (26, [true, true], (1, .iconst (0), 0, 0) :: []),
  (27, [true, true], (1, .iconst (2), 0, 2) :: (3, .invokevirtual 145, 186, 11) :: mt_LatticefitModel_addOutput_31),
  (34, [false, false], (1, .iconst (0), 0, 0) :: (1, .ireturn, 0, 0) :: []),
  (36, [true, true], (1, .aload_n 0, 0, 0) :: (3, .getfield 29, 11, 6) :: (1, .aload_n 0, 0, 0) :: (3, .getfield 185, 11, 11) :: (1, .iload_n 1, 0, 0) :: (1, .iastore, 0, 0) :: (1, .aload_n 0, 0, 0) :: (1, .dup, 0, 0) :: (3, .getfield 185, 11, 11) :: (1, .iconst (1), 0, 1) :: (1, .iadd, 0, 0) :: (3, .putfield 185, 11, 11) :: (1, .aload_n 0, 0, 0) :: (3, .invokevirtual 152, 188, 11) :: mt_LatticefitModel_addOutput_60)]
def mt_LatticefitModel_isNo_9 : List ma_AI := (3, .ifCond .ne (7), 0, 0) :: (1, .iconst (1), 0, 1) :: (3, .goto (4), 0, 0) :: []
def mt_LatticefitModel_isNo_21 : List ma_AI := (1, .ireturn, 0, 0) :: []
def mb_LatticefitModel_isNo : ma_Tb := [(0, [true, true, true], (1, .aload_n 0, 0, 0) :: (1, .iload_n 1, 0, 0) :: (1, .iconst (0), 0, 0) :: (1, .iload_n 2, 0, 0) :: (1, .iconst (1), 0, 1) :: (1, .isub, 0, 0) :: (3, .invokestatic 141, 191, 0) :: mt_LatticefitModel_isNo_9),
  (16, [false, false, false], (1, .iconst (0), 0, 0) :: []),
  (17, [false, false, false], (1, .iconst (1), 0, 1) :: (3, .invokevirtual 145, 186, 11) :: mt_LatticefitModel_isNo_21)]
def mt_LatticefitModel_kindOf_9 : List ma_AI := (3, .ifCond .eq (8), 0, 0) :: (2, .bipush (45), 0, 45) :: (3, .goto (9), 0, 0) :: []
def mb_LatticefitModel_kindOf : ma_Tb := [(0, [true, true], (1, .aload_n 0, 0, 0) :: (1, .iload_n 1, 0, 0) :: (1, .aload_n 0, 0, 0) :: (3, .getfield 149, 11, 8) :: (3, .invokevirtual 181, 195, 11) :: mt_LatticefitModel_kindOf_9),
  (17, [true, true], (1, .aload_n 0, 0, 0) :: (3, .getfield 9, 11, 0) :: (1, .iload_n 1, 0, 0) :: (1, .caload, 0, 0) :: []),
  (23, [false, false], (1, .ireturn, 0, 0) :: [])]
def mt_LatticefitModel_map_17 : List ma_AI := (3, .ifCond .eq (5), 0, 0) :: (1, .iconst (0), 0, 0) :: (1, .ireturn, 0, 0) :: []
def mt_LatticefitModel_map_27 : List ma_AI := (2, .bipush (36), 0, 36) :: (3, .if_icmp .le (7), 0, 0) :: (1, .iconst (1), 0, 1) :: (3, .goto (4), 0, 0) :: []
def mt_LatticefitModel_map_41 : List ma_AI := (3, .ifCond .eq (5), 0, 0) :: (1, .iconst (0), 0, 0) :: (1, .ireturn, 0, 0) :: []
def mt_LatticefitModel_map_130 : List ma_AI := (1, .pop, 0, 0) :: []
def mt_LatticefitModel_map_171 : List ma_AI := (1, .pop, 0, 0) :: []
def mt_LatticefitModel_map_238 : List ma_AI := (1, .aload_n 0, 0, 0) :: (1, .iconst (1), 0, 1) :: (3, .putfield 155, 11, 26) :: (1, .aload_n 0, 0, 0) :: (3, .getfield 231, 11, 25) :: (1, .ireturn, 0, 0) :: []
def mb_LatticefitModel_map : ma_Tb := [(0, [true, false, false], (1, .aload_n 0, 0, 0) :: (1, .aload_n 0, 0, 0) :: (3, .getfield 185, 11, 11) :: (3, .ifCond .ne (7), 0, 0) :: (1, .iconst (1), 0, 1) :: (3, .goto (4), 0, 0) :: []),
  (12, [true, false, false], (1, .iconst (0), 0, 0) :: []),
  (13, [true, false, false], (1, .iconst (1), 0, 1) :: (3, .invokevirtual 145, 186, 11) :: mt_LatticefitModel_map_17),
  (22, [true, false, false], (1, .aload_n 0, 0, 0) :: (1, .aload_n 0, 0, 0) :: (3, .invokevirtual 245, 198, 11) :: mt_LatticefitModel_map_27),
  (36, [true, false, false], (1, .iconst (0), 0, 0) :: []),
  (37, [true, false, false], (1, .iconst (2), 0, 2) :: (3, .invokevirtual 145, 186, 11) :: mt_LatticefitModel_map_41),
  (46, [true, false, false], (1, .aload_n 0, 0, 0) :: (1, .iconst (0), 0, 0) :: (3, .putfield 231, 11, 25) :: (1, .iconst (0), 0, 0) :: (1, .istore_n 1, 0, 0) :: []),
  (53, [true, true, false], (1, .iload_n 1, 0, 0) :: (1, .aload_n 0, 0, 0) :: (3, .getfield 149, 11, 8) :: (3, .if_icmp .ge (16), 0, 0) :: (1, .aload_n 0, 0, 0) :: (3, .getfield 46, 11, 15) :: (1, .iload_n 1, 0, 0) :: (1, .iconst (-1), 0, (-1)) :: (1, .iastore, 0, 0) :: (3, .iinc 1 (1), 0, 0) :: (3, .goto (-18), 0, 0) :: []),
  (74, [true, false, false], (1, .iconst (0), 0, 0) :: (1, .istore_n 1, 0, 0) :: []),
  (76, [true, true, false], (1, .iload_n 1, 0, 0) :: (1, .aload_n 0, 0, 0) :: (3, .getfield 149, 11, 8) :: (3, .if_icmp .ge (56), 0, 0) :: (1, .aload_n 0, 0, 0) :: (3, .getfield 9, 11, 0) :: (1, .iload_n 1, 0, 0) :: (1, .caload, 0, 0) :: (2, .bipush (114), 0, 114) :: (3, .if_icmp .ne (39), 0, 0) :: (1, .aload_n 0, 0, 0) :: (3, .getfield 23, 11, 4) :: (1, .iload_n 1, 0, 0) :: (1, .iaload, 0, 0) :: (1, .istore_n 2, 0, 0) :: (1, .aload_n 0, 0, 0) :: (1, .iload_n 1, 0, 0) :: (1, .aload_n 0, 0, 0) :: (3, .getfield 49, 11, 16) :: (1, .iload_n 2, 0, 0) :: (1, .baload, 0, 0) :: (3, .ifCond .eq (16), 0, 0) :: (1, .aload_n 0, 0, 0) :: (3, .getfield 46, 11, 15) :: (1, .iload_n 2, 0, 0) :: (1, .iaload, 0, 0) :: (3, .ifCond .ge (7), 0, 0) :: (1, .iload_n 2, 0, 0) :: (3, .goto (4), 0, 0) :: []),
  (126, [true, true, false], (1, .iconst (-1), 0, (-1)) :: []),
  (127, [true, true, false], (3, .invokevirtual 248, 206, 11) :: mt_LatticefitModel_map_130),
  (131, [true, true, false], (3, .iinc 1 (1), 0, 0) :: (3, .goto (-58), 0, 0) :: []),
  (137, [true, false, false], (1, .iconst (0), 0, 0) :: (1, .istore_n 1, 0, 0) :: []),
  (139, [true, true, false], (1, .iload_n 1, 0, 0) :: (1, .aload_n 0, 0, 0) :: (3, .getfield 149, 11, 8) :: (3, .if_icmp .ge (34), 0, 0) :: (1, .aload_n 0, 0, 0) :: (3, .getfield 49, 11, 16) :: (1, .iload_n 1, 0, 0) :: (1, .baload, 0, 0) :: (3, .ifCond .eq (19), 0, 0) :: (1, .aload_n 0, 0, 0) :: (3, .getfield 46, 11, 15) :: (1, .iload_n 1, 0, 0) :: (1, .iaload, 0, 0) :: (3, .ifCond .ge (10), 0, 0) :: (1, .aload_n 0, 0, 0) :: (1, .iconst (-1), 0, (-1)) :: (1, .iload_n 1, 0, 0) :: (3, .invokevirtual 248, 206, 11) :: mt_LatticefitModel_map_171),
  (172, [true, true, false], (3, .iinc 1 (1), 0, 0) :: (3, .goto (-36), 0, 0) :: []),
  (178, [true, false, false], (1, .iconst (0), 0, 0) :: (1, .istore_n 1, 0, 0) :: []),
  (180, [true, true, false], (1, .iload_n 1, 0, 0) :: (2, .bipush (36), 0, 36) :: (3, .if_icmp .ge (28), 0, 0) :: (1, .aload_n 0, 0, 0) :: (3, .getfield 70, 11, 23) :: (1, .iload_n 1, 0, 0) :: (1, .iload_n 1, 0, 0) :: (1, .aload_n 0, 0, 0) :: (3, .getfield 231, 11, 25) :: (3, .if_icmp .ge (7), 0, 0) :: (1, .iload_n 1, 0, 0) :: (3, .goto (4), 0, 0) :: []),
  (203, [true, true, false], (1, .iconst (-1), 0, (-1)) :: []),
  (204, [true, true, false], (1, .iastore, 0, 0) :: (3, .iinc 1 (1), 0, 0) :: (3, .goto (-28), 0, 0) :: []),
  (211, [true, false, false], (1, .iconst (0), 0, 0) :: (1, .istore_n 1, 0, 0) :: []),
  (213, [true, true, false], (1, .iload_n 1, 0, 0) :: (1, .aload_n 0, 0, 0) :: (3, .getfield 231, 11, 25) :: (3, .if_icmp .ge (16), 0, 0) :: (1, .aload_n 0, 0, 0) :: (3, .getfield 58, 11, 19) :: (1, .iload_n 1, 0, 0) :: (1, .iload_n 1, 0, 0) :: (1, .iastore, 0, 0) :: (3, .iinc 1 (1), 0, 0) :: (3, .goto (-18), 0, 0) :: []),
  (234, [true, false, false], (1, .aload_n 0, 0, 0) :: (3, .invokevirtual 152, 188, 11) :: mt_LatticefitModel_map_238)]
def mt_LatticefitModel_blocksThen_4 : List ma_AI := (1, .aload_n 0, 0, 0) :: (3, .getfield 178, 11, 10) :: (1, .iadd, 0, 0) :: (1, .istore_n 1, 0, 0) :: (1, .iconst (0), 0, 0) :: (1, .istore_n 2, 0, 0) :: []
def mb_LatticefitModel_blocksThen : ma_Tb := [(0, [true, false, false, false, false], (1, .aload_n 0, 0, 0) :: (3, .invokevirtual 241, 199, 11) :: mt_LatticefitModel_blocksThen_4),
  (12, [true, true, true, false, false], (1, .iload_n 2, 0, 0) :: (1, .aload_n 0, 0, 0) :: (3, .getfield 149, 11, 8) :: (3, .if_icmp .ge (81), 0, 0) :: (1, .iconst (0), 0, 0) :: (1, .istore_n 3, 0, 0) :: (1, .iconst (0), 0, 0) :: (2, .istore 4, 0, 0) :: []),
  (25, [true, true, true, true, true], (2, .iload 4, 0, 0) :: (1, .aload_n 0, 0, 0) :: (3, .getfield 149, 11, 8) :: (3, .if_icmp .ge (40), 0, 0) :: (1, .iload_n 3, 0, 0) :: (1, .aload_n 0, 0, 0) :: (3, .getfield 9, 11, 0) :: (2, .iload 4, 0, 0) :: (1, .caload, 0, 0) :: (2, .bipush (114), 0, 114) :: (3, .if_icmp .ne (18), 0, 0) :: (1, .aload_n 0, 0, 0) :: (3, .getfield 23, 11, 4) :: (2, .iload 4, 0, 0) :: (1, .iaload, 0, 0) :: (1, .iload_n 2, 0, 0) :: (3, .if_icmp .ne (7), 0, 0) :: (1, .iconst (1), 0, 1) :: (3, .goto (4), 0, 0) :: []),
  (62, [true, true, true, false, true], (1, .iconst (0), 0, 0) :: []),
  (63, [true, true, true, false, true], (1, .ior, 0, 0) :: (1, .istore_n 3, 0, 0) :: (3, .iinc 4 (1), 0, 0) :: (3, .goto (-43), 0, 0) :: []),
  (71, [true, true, true, true, false], (1, .iload_n 1, 0, 0) :: (1, .aload_n 0, 0, 0) :: (3, .getfield 49, 11, 16) :: (1, .iload_n 2, 0, 0) :: (1, .baload, 0, 0) :: (3, .ifCond .eq (11), 0, 0) :: (1, .iload_n 3, 0, 0) :: (3, .ifCond .eq (7), 0, 0) :: (1, .iconst (1), 0, 1) :: (3, .goto (4), 0, 0) :: []),
  (89, [true, false, true, false, false], (1, .iconst (0), 0, 0) :: []),
  (90, [true, false, true, false, false], (1, .isub, 0, 0) :: (1, .istore_n 1, 0, 0) :: (3, .iinc 2 (1), 0, 0) :: (3, .goto (-83), 0, 0) :: []),
  (98, [false, true, false, false, false], (1, .iload_n 1, 0, 0) :: (1, .ireturn, 0, 0) :: [])]
def mt_LatticefitModel_neededGates_24 : List ma_AI := (3, .iinc 2 (1), 0, 0) :: (3, .goto (-23), 0, 0) :: []
def mt_LatticefitModel_neededGates_50 : List ma_AI := (3, .iinc 2 (1), 0, 0) :: (3, .goto (-21), 0, 0) :: []
def mb_LatticefitModel_neededGates : ma_Tb := [(0, [true, false, false], (1, .iconst (0), 0, 0) :: (1, .istore_n 1, 0, 0) :: (1, .iconst (0), 0, 0) :: (1, .istore_n 2, 0, 0) :: []),
  (4, [true, true, true], (1, .iload_n 2, 0, 0) :: (1, .aload_n 0, 0, 0) :: (3, .getfield 149, 11, 8) :: (3, .if_icmp .ge (21), 0, 0) :: (1, .aload_n 0, 0, 0) :: (3, .getfield 49, 11, 16) :: (1, .iload_n 2, 0, 0) :: (1, .iconst (0), 0, 0) :: (1, .bastore, 0, 0) :: (1, .aload_n 0, 0, 0) :: (1, .iload_n 2, 0, 0) :: (3, .invokevirtual 238, 200, 11) :: mt_LatticefitModel_neededGates_24),
  (30, [true, true, false], (1, .iconst (0), 0, 0) :: (1, .istore_n 2, 0, 0) :: []),
  (32, [true, true, true], (1, .iload_n 2, 0, 0) :: (1, .aload_n 0, 0, 0) :: (3, .getfield 185, 11, 11) :: (3, .if_icmp .ge (19), 0, 0) :: (1, .aload_n 0, 0, 0) :: (1, .aload_n 0, 0, 0) :: (3, .getfield 29, 11, 6) :: (1, .iload_n 2, 0, 0) :: (1, .iaload, 0, 0) :: (3, .invokevirtual 218, 205, 11) :: mt_LatticefitModel_neededGates_50),
  (56, [true, true, false], (1, .iconst (0), 0, 0) :: (1, .istore_n 2, 0, 0) :: []),
  (58, [true, true, true], (1, .iload_n 2, 0, 0) :: (1, .aload_n 0, 0, 0) :: (3, .getfield 149, 11, 8) :: (3, .if_icmp .ge (30), 0, 0) :: (1, .aload_n 0, 0, 0) :: (3, .getfield 9, 11, 0) :: (1, .iload_n 2, 0, 0) :: (1, .caload, 0, 0) :: (2, .bipush (114), 0, 114) :: (3, .if_icmp .ne (13), 0, 0) :: (1, .aload_n 0, 0, 0) :: (1, .aload_n 0, 0, 0) :: (3, .getfield 23, 11, 4) :: (1, .iload_n 2, 0, 0) :: (1, .iaload, 0, 0) :: (3, .invokevirtual 218, 205, 11) :: []),
  (87, [true, true, true], (3, .iinc 2 (1), 0, 0) :: (3, .goto (-32), 0, 0) :: []),
  (93, [true, true, false], (1, .iconst (0), 0, 0) :: (1, .istore_n 2, 0, 0) :: []),
  (95, [true, true, true], (1, .iload_n 2, 0, 0) :: (1, .aload_n 0, 0, 0) :: (3, .getfield 149, 11, 8) :: (3, .if_icmp .ge (26), 0, 0) :: (1, .iload_n 1, 0, 0) :: (1, .aload_n 0, 0, 0) :: (3, .getfield 49, 11, 16) :: (1, .iload_n 2, 0, 0) :: (1, .baload, 0, 0) :: (3, .ifCond .eq (7), 0, 0) :: (1, .iconst (1), 0, 1) :: (3, .goto (4), 0, 0) :: []),
  (117, [true, false, true], (1, .iconst (0), 0, 0) :: []),
  (118, [true, false, true], (1, .iadd, 0, 0) :: (1, .istore_n 1, 0, 0) :: (3, .iinc 2 (1), 0, 0) :: (3, .goto (-28), 0, 0) :: []),
  (126, [false, true, false], (1, .iload_n 1, 0, 0) :: (1, .ireturn, 0, 0) :: [])]
def mt_LatticefitModel_findsCuts_19 : List ma_AI := (3, .ifCond .eq (136), 0, 0) :: (1, .iconst (0), 0, 0) :: (1, .istore_n 2, 0, 0) :: []
def mt_LatticefitModel_findsCuts_124 : List ma_AI := (3, .iinc 3 (1), 0, 0) :: (3, .goto (-86), 0, 0) :: []
def mt_LatticefitModel_findsCuts_154 : List ma_AI := (1, .iastore, 0, 0) :: []
def mb_LatticefitModel_findsCuts : ma_Tb := [(0, [true, true, false, false], (1, .aload_n 0, 0, 0) :: (3, .getfield 40, 11, 13) :: (1, .iload_n 1, 0, 0) :: (1, .iconst (0), 0, 0) :: (1, .iastore, 0, 0) :: (1, .aload_n 0, 0, 0) :: (3, .getfield 43, 11, 14) :: (1, .iload_n 1, 0, 0) :: (1, .iconst (0), 0, 0) :: (1, .iastore, 0, 0) :: (1, .aload_n 0, 0, 0) :: (1, .iload_n 1, 0, 0) :: (3, .invokevirtual 210, 201, 11) :: mt_LatticefitModel_findsCuts_19),
  (24, [true, true, true, false], (1, .iload_n 2, 0, 0) :: (1, .aload_n 0, 0, 0) :: (3, .getfield 40, 11, 13) :: (1, .aload_n 0, 0, 0) :: (3, .getfield 13, 11, 1) :: (1, .iload_n 1, 0, 0) :: (1, .iaload, 0, 0) :: (1, .iaload, 0, 0) :: (3, .if_icmp .ge (100), 0, 0) :: (1, .iconst (0), 0, 0) :: (1, .istore_n 3, 0, 0) :: []),
  (41, [true, true, true, true], (1, .iload_n 3, 0, 0) :: (1, .aload_n 0, 0, 0) :: (3, .getfield 9, 11, 0) :: (1, .iload_n 1, 0, 0) :: (1, .caload, 0, 0) :: (2, .bipush (110), 0, 110) :: (3, .if_icmp .ne (7), 0, 0) :: (1, .iconst (1), 0, 1) :: (3, .goto (14), 0, 0) :: []),
  (57, [true, true, true, true], (1, .aload_n 0, 0, 0) :: (3, .getfield 40, 11, 13) :: (1, .aload_n 0, 0, 0) :: (3, .getfield 17, 11, 2) :: (1, .iload_n 1, 0, 0) :: (1, .iaload, 0, 0) :: (1, .iaload, 0, 0) :: []),
  (68, [true, true, true, true], (3, .if_icmp .ge (62), 0, 0) :: (1, .aload_n 0, 0, 0) :: (1, .iload_n 1, 0, 0) :: (1, .aload_n 0, 0, 0) :: (3, .getfield 36, 11, 12) :: (1, .aload_n 0, 0, 0) :: (3, .getfield 13, 11, 1) :: (1, .iload_n 1, 0, 0) :: (1, .iaload, 0, 0) :: (2, .bipush (7), 0, 7) :: (1, .imul, 0, 0) :: (1, .iload_n 2, 0, 0) :: (1, .iadd, 0, 0) :: (1, .laload, 0, 0) :: (1, .aload_n 0, 0, 0) :: (3, .getfield 9, 11, 0) :: (1, .iload_n 1, 0, 0) :: (1, .caload, 0, 0) :: (2, .bipush (110), 0, 110) :: (3, .if_icmp .ne (7), 0, 0) :: (1, .lconst 0, 0, 0) :: (3, .goto (19), 0, 0) :: []),
  (104, [true, true, true, true], (1, .aload_n 0, 0, 0) :: (3, .getfield 36, 11, 12) :: (1, .aload_n 0, 0, 0) :: (3, .getfield 17, 11, 2) :: (1, .iload_n 1, 0, 0) :: (1, .iaload, 0, 0) :: (2, .bipush (7), 0, 7) :: (1, .imul, 0, 0) :: (1, .iload_n 3, 0, 0) :: (1, .iadd, 0, 0) :: (1, .laload, 0, 0) :: []),
  (120, [true, true, true, true], (1, .lor, 0, 0) :: (3, .invokevirtual 214, 202, 11) :: mt_LatticefitModel_findsCuts_124),
  (130, [true, true, true, false], (3, .iinc 2 (1), 0, 0) :: (3, .goto (-109), 0, 0) :: []),
  (136, [true, true, false, false], (1, .aload_n 0, 0, 0) :: (3, .getfield 43, 11, 14) :: (1, .iload_n 1, 0, 0) :: (1, .aload_n 0, 0, 0) :: (1, .aload_n 0, 0, 0) :: (3, .getfield 36, 11, 12) :: (1, .iload_n 1, 0, 0) :: (2, .bipush (7), 0, 7) :: (1, .imul, 0, 0) :: (1, .laload, 0, 0) :: (3, .invokevirtual 194, 204, 11) :: mt_LatticefitModel_findsCuts_154),
  (155, [true, true, false, false], (1, .aload_n 0, 0, 0) :: (3, .getfield 36, 11, 12) :: (1, .iload_n 1, 0, 0) :: (2, .bipush (7), 0, 7) :: (1, .imul, 0, 0) :: (1, .aload_n 0, 0, 0) :: (3, .getfield 40, 11, 13) :: (1, .iload_n 1, 0, 0) :: (1, .iaload, 0, 0) :: (1, .iadd, 0, 0) :: (1, .lconst 1, 0, 1) :: (1, .iload_n 1, 0, 0) :: (1, .lshl, 0, 0) :: (1, .lastore, 0, 0) :: (1, .aload_n 0, 0, 0) :: (3, .getfield 40, 11, 13) :: (1, .iload_n 1, 0, 0) :: (1, .dup2, 0, 0) :: (1, .iaload, 0, 0) :: (1, .iconst (1), 0, 1) :: (1, .iadd, 0, 0) :: (1, .iastore, 0, 0) :: (1, .return_, 0, 0) :: [])]
def mb_LatticefitModel_isGate : ma_Tb := [(0, [true, true], (1, .aload_n 0, 0, 0) :: (3, .getfield 9, 11, 0) :: (1, .iload_n 1, 0, 0) :: (1, .caload, 0, 0) :: (2, .bipush (105), 0, 105) :: (3, .if_icmp .eq (18), 0, 0) :: (1, .aload_n 0, 0, 0) :: (3, .getfield 9, 11, 0) :: (1, .iload_n 1, 0, 0) :: (1, .caload, 0, 0) :: (2, .bipush (114), 0, 114) :: (3, .if_icmp .eq (7), 0, 0) :: (1, .iconst (1), 0, 1) :: (3, .goto (4), 0, 0) :: []),
  (26, [false, false], (1, .iconst (0), 0, 0) :: []),
  (27, [false, false], (1, .ireturn, 0, 0) :: [])]
def mt_LatticefitModel_offers_10 : List ma_AI := (1, .iconst (4), 0, 4) :: (3, .if_icmp .gt (7), 0, 0) :: (1, .iconst (1), 0, 1) :: (3, .goto (4), 0, 0) :: []
def mt_LatticefitModel_offers_101 : List ma_AI := (3, .ifCond .eq (9), 0, 0) :: (3, .iinc 6 (-1), 0, 0) :: (3, .goto (-33), 0, 0) :: []
def mb_LatticefitModel_offers : ma_Tb := [(0, [true, true, true, false, false, false, false, false], (1, .iload_n 1, 0, 0) :: (2, .bipush (7), 0, 7) :: (1, .imul, 0, 0) :: (2, .istore 4, 0, 0) :: (1, .lload_n 2, 0, 0) :: (3, .invokestatic 198, 28, 0) :: mt_LatticefitModel_offers_10),
  (18, [true, true, true, false, true, false, false, false], (1, .iconst (0), 0, 0) :: []),
  (19, [true, true, true, false, true, false, false, false], (2, .istore 5, 0, 0) :: (1, .iconst (0), 0, 0) :: (2, .istore 6, 0, 0) :: []),
  (24, [true, true, true, false, true, true, true, false], (2, .iload 6, 0, 0) :: (1, .aload_n 0, 0, 0) :: (3, .getfield 40, 11, 13) :: (1, .iload_n 1, 0, 0) :: (1, .iaload, 0, 0) :: (3, .if_icmp .ge (34), 0, 0) :: (2, .iload 5, 0, 0) :: (1, .aload_n 0, 0, 0) :: (3, .getfield 36, 11, 12) :: (2, .iload 4, 0, 0) :: (2, .iload 6, 0, 0) :: (1, .iadd, 0, 0) :: (1, .laload, 0, 0) :: (1, .lload_n 2, 0, 0) :: (1, .lcmp, 0, 0) :: (3, .ifCond .eq (7), 0, 0) :: (1, .iconst (1), 0, 1) :: (3, .goto (4), 0, 0) :: []),
  (56, [true, true, true, false, true, false, true, false], (1, .iconst (0), 0, 0) :: []),
  (57, [true, true, true, false, true, false, true, false], (1, .iand, 0, 0) :: (2, .istore 5, 0, 0) :: (3, .iinc 6 (1), 0, 0) :: (3, .goto (-39), 0, 0) :: []),
  (66, [true, true, true, false, true, true, false, false], (1, .aload_n 0, 0, 0) :: (3, .getfield 40, 11, 13) :: (1, .iload_n 1, 0, 0) :: (1, .iaload, 0, 0) :: (2, .istore 6, 0, 0) :: []),
  (74, [true, true, true, false, true, true, true, false], (2, .iload 6, 0, 0) :: (3, .ifCond .le (34), 0, 0) :: (2, .iload 5, 0, 0) :: (3, .ifCond .eq (29), 0, 0) :: (1, .aload_n 0, 0, 0) :: (1, .lload_n 2, 0, 0) :: (1, .aload_n 0, 0, 0) :: (3, .getfield 36, 11, 12) :: (2, .iload 4, 0, 0) :: (2, .iload 6, 0, 0) :: (1, .iadd, 0, 0) :: (1, .iconst (1), 0, 1) :: (1, .isub, 0, 0) :: (1, .laload, 0, 0) :: (3, .invokevirtual 203, 203, 11) :: mt_LatticefitModel_offers_101),
  (110, [true, true, true, false, true, true, true, false], (2, .iload 5, 0, 0) :: (3, .ifCond .eq (10), 0, 0) :: (2, .iload 6, 0, 0) :: (2, .bipush (6), 0, 6) :: (3, .if_icmp .ne (4), 0, 0) :: []),
  (122, [false, false, false, false, false, false, false, false], (1, .return_, 0, 0) :: []),
  (123, [true, true, true, false, true, false, true, false], (1, .aload_n 0, 0, 0) :: (3, .getfield 40, 11, 13) :: (1, .iload_n 1, 0, 0) :: (2, .bipush (6), 0, 6) :: (1, .aload_n 0, 0, 0) :: (3, .getfield 40, 11, 13) :: (1, .iload_n 1, 0, 0) :: (1, .iaload, 0, 0) :: (1, .iconst (1), 0, 1) :: (1, .iadd, 0, 0) :: (3, .invokestatic 207, 10003, 0) :: (1, .iastore, 0, 0) :: (1, .aload_n 0, 0, 0) :: (3, .getfield 40, 11, 13) :: (1, .iload_n 1, 0, 0) :: (1, .iaload, 0, 0) :: (1, .iconst (1), 0, 1) :: (1, .isub, 0, 0) :: (2, .istore 7, 0, 0) :: []),
  (152, [true, false, true, false, true, false, true, true], (2, .iload 7, 0, 0) :: (2, .iload 6, 0, 0) :: (3, .if_icmp .le (31), 0, 0) :: (1, .aload_n 0, 0, 0) :: (3, .getfield 36, 11, 12) :: (2, .iload 4, 0, 0) :: (2, .iload 7, 0, 0) :: (1, .iadd, 0, 0) :: (1, .aload_n 0, 0, 0) :: (3, .getfield 36, 11, 12) :: (2, .iload 4, 0, 0) :: (2, .iload 7, 0, 0) :: (1, .iadd, 0, 0) :: (1, .iconst (1), 0, 1) :: (1, .isub, 0, 0) :: (1, .laload, 0, 0) :: (1, .lastore, 0, 0) :: (3, .iinc 7 (-1), 0, 0) :: (3, .goto (-32), 0, 0) :: []),
  (187, [true, false, true, false, true, false, true, false], (1, .aload_n 0, 0, 0) :: (3, .getfield 36, 11, 12) :: (2, .iload 4, 0, 0) :: (2, .iload 6, 0, 0) :: (1, .iadd, 0, 0) :: (1, .lload_n 2, 0, 0) :: (1, .lastore, 0, 0) :: (1, .return_, 0, 0) :: [])]
def mt_LatticefitModel_isBetter_21 : List ma_AI := (1, .isub, 0, 0) :: (2, .istore 6, 0, 0) :: (2, .iload 5, 0, 0) :: (3, .ifCond .eq (16), 0, 0) :: (2, .iload 5, 0, 0) :: (3, .ifCond .ge (7), 0, 0) :: (1, .iconst (1), 0, 1) :: (3, .goto (36), 0, 0) :: []
def mt_LatticefitModel_isBetter_17 : List ma_AI := (1, .lload_n 3, 0, 0) :: (3, .invokestatic 198, 28, 0) :: mt_LatticefitModel_isBetter_21
def mt_LatticefitModel_isBetter_10 : List ma_AI := (1, .isub, 0, 0) :: (2, .istore 5, 0, 0) :: (1, .lload_n 1, 0, 0) :: (3, .invokestatic 198, 28, 0) :: mt_LatticefitModel_isBetter_17
def mt_LatticefitModel_isBetter_5 : List ma_AI := (1, .aload_n 0, 0, 0) :: (1, .lload_n 3, 0, 0) :: (3, .invokevirtual 194, 204, 11) :: mt_LatticefitModel_isBetter_10
def mb_LatticefitModel_isBetter : ma_Tb := [(0, [true, true, false, true, false, false, false], (1, .aload_n 0, 0, 0) :: (1, .lload_n 1, 0, 0) :: (3, .invokevirtual 194, 204, 11) :: mt_LatticefitModel_isBetter_5),
  (38, [false, false, false, false, false, false, false], (1, .iconst (0), 0, 0) :: (3, .goto (32), 0, 0) :: []),
  (42, [false, true, false, true, false, false, true], (2, .iload 6, 0, 0) :: (3, .ifCond .eq (16), 0, 0) :: (2, .iload 6, 0, 0) :: (3, .ifCond .ge (7), 0, 0) :: (1, .iconst (1), 0, 1) :: (3, .goto (18), 0, 0) :: []),
  (56, [false, false, false, false, false, false, false], (1, .iconst (0), 0, 0) :: (3, .goto (14), 0, 0) :: []),
  (60, [false, true, false, true, false, false, false], (1, .lload_n 1, 0, 0) :: (1, .lload_n 3, 0, 0) :: (1, .lcmp, 0, 0) :: (3, .ifCond .ge (7), 0, 0) :: (1, .iconst (1), 0, 1) :: (3, .goto (4), 0, 0) :: []),
  (70, [false, false, false, false, false, false, false], (1, .iconst (0), 0, 0) :: []),
  (71, [false, false, false, false, false, false, false], (1, .ireturn, 0, 0) :: [])]
def mb_LatticefitModel_depthOf : ma_Tb := [(0, [true, true, false, false, false], (1, .iconst (0), 0, 0) :: (1, .istore_n 3, 0, 0) :: (1, .iconst (0), 0, 0) :: (2, .istore 4, 0, 0) :: []),
  (5, [true, true, false, true, true], (2, .iload 4, 0, 0) :: (1, .aload_n 0, 0, 0) :: (3, .getfield 149, 11, 8) :: (3, .if_icmp .ge (36), 0, 0) :: (1, .lload_n 1, 0, 0) :: (2, .iload 4, 0, 0) :: (1, .lshr, 0, 0) :: (1, .lconst 1, 0, 1) :: (1, .land, 0, 0) :: (1, .lconst 1, 0, 1) :: (1, .lcmp, 0, 0) :: (3, .ifCond .ne (17), 0, 0) :: (1, .iload_n 3, 0, 0) :: (1, .aload_n 0, 0, 0) :: (3, .getfield 43, 11, 14) :: (2, .iload 4, 0, 0) :: (1, .iaload, 0, 0) :: (3, .invokestatic 188, 10002, 0) :: (3, .goto (4), 0, 0) :: []),
  (39, [true, true, false, true, true], (1, .iload_n 3, 0, 0) :: []),
  (40, [true, true, false, false, true], (1, .istore_n 3, 0, 0) :: (3, .iinc 4 (1), 0, 0) :: (3, .goto (-39), 0, 0) :: []),
  (47, [false, false, false, true, false], (1, .iload_n 3, 0, 0) :: (1, .iconst (1), 0, 1) :: (1, .iadd, 0, 0) :: (1, .ireturn, 0, 0) :: [])]
def mt_LatticefitModel_needs_5 : List ma_AI := (3, .ifCond .eq (55), 0, 0) :: (1, .aload_n 0, 0, 0) :: (3, .getfield 49, 11, 16) :: (1, .iload_n 1, 0, 0) :: (1, .baload, 0, 0) :: (3, .ifCond .ne (46), 0, 0) :: (1, .aload_n 0, 0, 0) :: (3, .getfield 49, 11, 16) :: (1, .iload_n 1, 0, 0) :: (1, .iconst (1), 0, 1) :: (1, .bastore, 0, 0) :: (1, .iconst (0), 0, 0) :: (1, .istore_n 2, 0, 0) :: []
def mb_LatticefitModel_needs : ma_Tb := [(0, [true, true, false], (1, .aload_n 0, 0, 0) :: (1, .iload_n 1, 0, 0) :: (3, .invokevirtual 210, 201, 11) :: mt_LatticefitModel_needs_5),
  (26, [true, true, true], (1, .iload_n 2, 0, 0) :: (1, .iload_n 1, 0, 0) :: (3, .if_icmp .ge (32), 0, 0) :: (1, .aload_n 0, 0, 0) :: (3, .getfield 36, 11, 12) :: (1, .iload_n 1, 0, 0) :: (2, .bipush (7), 0, 7) :: (1, .imul, 0, 0) :: (1, .laload, 0, 0) :: (1, .iload_n 2, 0, 0) :: (1, .lshr, 0, 0) :: (1, .lconst 1, 0, 1) :: (1, .land, 0, 0) :: (1, .lconst 1, 0, 1) :: (1, .lcmp, 0, 0) :: (3, .ifCond .ne (8), 0, 0) :: (1, .aload_n 0, 0, 0) :: (1, .iload_n 2, 0, 0) :: (3, .invokevirtual 218, 205, 11) :: []),
  (54, [true, true, true], (3, .iinc 2 (1), 0, 0) :: (3, .goto (-31), 0, 0) :: []),
  (60, [false, false, false], (1, .return_, 0, 0) :: [])]
def mt_LatticefitModel_newBlock_63 : List ma_AI := (1, .iload_n 2, 0, 0) :: (3, .ifCond .lt (13), 0, 0) :: (1, .aload_n 0, 0, 0) :: (3, .getfield 46, 11, 15) :: (1, .iload_n 2, 0, 0) :: (1, .aload_n 0, 0, 0) :: (3, .getfield 231, 11, 25) :: (1, .iastore, 0, 0) :: []
def mb_LatticefitModel_newBlock : ma_Tb := [(0, [true, true, true], (1, .aload_n 0, 0, 0) :: (3, .getfield 52, 11, 17) :: (1, .aload_n 0, 0, 0) :: (3, .getfield 231, 11, 25) :: (1, .iload_n 2, 0, 0) :: (1, .iastore, 0, 0) :: (1, .aload_n 0, 0, 0) :: (3, .getfield 55, 11, 18) :: (1, .aload_n 0, 0, 0) :: (3, .getfield 231, 11, 25) :: (1, .iload_n 1, 0, 0) :: (1, .iastore, 0, 0) :: (1, .aload_n 0, 0, 0) :: (3, .getfield 73, 11, 24) :: (1, .aload_n 0, 0, 0) :: (3, .getfield 231, 11, 25) :: (1, .iconst (0), 0, 0) :: (1, .bastore, 0, 0) :: (1, .aload_n 0, 0, 0) :: (1, .aload_n 0, 0, 0) :: (3, .getfield 231, 11, 25) :: (1, .iload_n 2, 0, 0) :: (3, .ifCond .ge (14), 0, 0) :: (1, .lconst 1, 0, 1) :: (1, .aload_n 0, 0, 0) :: (3, .getfield 23, 11, 4) :: (1, .iload_n 1, 0, 0) :: (1, .iaload, 0, 0) :: (1, .lshl, 0, 0) :: (3, .goto (12), 0, 0) :: []),
  (50, [true, true, true], (1, .aload_n 0, 0, 0) :: (3, .getfield 36, 11, 12) :: (1, .iload_n 2, 0, 0) :: (2, .bipush (7), 0, 7) :: (1, .imul, 0, 0) :: (1, .laload, 0, 0) :: []),
  (59, [true, true, true], (1, .iload_n 2, 0, 0) :: (3, .invokevirtual 234, 207, 11) :: mt_LatticefitModel_newBlock_63),
  (77, [true, true, false], (1, .iload_n 1, 0, 0) :: (3, .ifCond .lt (13), 0, 0) :: (1, .aload_n 0, 0, 0) :: (3, .getfield 46, 11, 15) :: (1, .iload_n 1, 0, 0) :: (1, .aload_n 0, 0, 0) :: (3, .getfield 231, 11, 25) :: (1, .iastore, 0, 0) :: []),
  (91, [true, false, false], (1, .aload_n 0, 0, 0) :: (1, .dup, 0, 0) :: (3, .getfield 231, 11, 25) :: (1, .iconst (1), 0, 1) :: (1, .iadd, 0, 0) :: (3, .putfield 231, 11, 25) :: (1, .aload_n 0, 0, 0) :: (3, .getfield 231, 11, 25) :: (1, .iconst (1), 0, 1) :: (1, .isub, 0, 0) :: (1, .ireturn, 0, 0) :: [])]
def mt_LatticefitModel_tabled_122 : List ma_AI := (2, .istore 7, 0, 0) :: (1, .aload_n 0, 0, 0) :: (3, .getfield 61, 11, 20) :: (1, .iload_n 1, 0, 0) :: (1, .dup2, 0, 0) :: (1, .iaload, 0, 0) :: (2, .iload 7, 0, 0) :: (3, .ifCond .eq (10), 0, 0) :: (1, .iconst (1), 0, 1) :: (2, .iload 6, 0, 0) :: (1, .ishl, 0, 0) :: (3, .goto (4), 0, 0) :: []
def mt_LatticefitModel_tabled_119 : List ma_AI := (3, .invokevirtual 226, 209, 11) :: mt_LatticefitModel_tabled_122
def mt_LatticefitModel_tabled_105 : List ma_AI := (1, .aload_n 0, 0, 0) :: (1, .aload_n 0, 0, 0) :: (3, .getfield 17, 11, 2) :: (2, .iload 4, 0, 0) :: (1, .iaload, 0, 0) :: (1, .lload_n 2, 0, 0) :: (2, .iload 6, 0, 0) :: (3, .invokevirtual 222, 208, 11) :: mt_LatticefitModel_tabled_119
def mb_LatticefitModel_tabled : ma_Tb := [(0, [true, true, true, false, true, false, false, false], (1, .iconst (0), 0, 0) :: (2, .istore 5, 0, 0) :: (1, .iconst (0), 0, 0) :: (2, .istore 6, 0, 0) :: []),
  (6, [true, true, true, false, true, true, true, false], (2, .iload 6, 0, 0) :: (1, .aload_n 0, 0, 0) :: (3, .getfield 149, 11, 8) :: (3, .if_icmp .ge (36), 0, 0) :: (1, .lload_n 2, 0, 0) :: (2, .iload 6, 0, 0) :: (1, .lshr, 0, 0) :: (1, .lconst 1, 0, 1) :: (1, .land, 0, 0) :: (1, .lconst 1, 0, 1) :: (1, .lcmp, 0, 0) :: (3, .ifCond .ne (19), 0, 0) :: (1, .aload_n 0, 0, 0) :: (3, .getfield 67, 11, 22) :: (1, .iconst (4), 0, 4) :: (1, .iload_n 1, 0, 0) :: (1, .imul, 0, 0) :: (2, .iload 5, 0, 0) :: (1, .iadd, 0, 0) :: (2, .iload 6, 0, 0) :: (1, .iastore, 0, 0) :: (3, .iinc 5 (1), 0, 0) :: []),
  (42, [true, true, true, false, true, true, true, false], (3, .iinc 6 (1), 0, 0) :: (3, .goto (-39), 0, 0) :: []),
  (48, [true, true, true, false, true, true, false, false], (1, .aload_n 0, 0, 0) :: (3, .getfield 64, 11, 21) :: (1, .iload_n 1, 0, 0) :: (2, .iload 5, 0, 0) :: (1, .iastore, 0, 0) :: (1, .aload_n 0, 0, 0) :: (3, .getfield 61, 11, 20) :: (1, .iload_n 1, 0, 0) :: (2, .iload 4, 0, 0) :: (3, .ifCond .ge (8), 0, 0) :: (2, .ldc 230, 0, 43690) :: (3, .goto (4), 0, 0) :: []),
  (71, [true, true, true, false, true, false, false, false], (1, .iconst (0), 0, 0) :: []),
  (72, [true, true, true, false, true, false, false, false], (1, .iastore, 0, 0) :: (1, .iconst (0), 0, 0) :: (2, .istore 6, 0, 0) :: []),
  (76, [true, true, true, false, true, false, true, false], (2, .iload 6, 0, 0) :: (2, .bipush (16), 0, 16) :: (3, .if_icmp .ge (72), 0, 0) :: (2, .iload 4, 0, 0) :: (3, .ifCond .lt (67), 0, 0) :: (1, .aload_n 0, 0, 0) :: (2, .iload 4, 0, 0) :: (1, .aload_n 0, 0, 0) :: (1, .aload_n 0, 0, 0) :: (3, .getfield 13, 11, 1) :: (2, .iload 4, 0, 0) :: (1, .iaload, 0, 0) :: (1, .lload_n 2, 0, 0) :: (2, .iload 6, 0, 0) :: (3, .invokevirtual 222, 208, 11) :: mt_LatticefitModel_tabled_105),
  (143, [true, true, true, false, true, false, true, false], (1, .iconst (0), 0, 0) :: []),
  (144, [true, true, true, false, true, false, true, false], (1, .ior, 0, 0) :: (1, .iastore, 0, 0) :: (3, .iinc 6 (1), 0, 0) :: (3, .goto (-73), 0, 0) :: []),
  (152, [false, false, false, false, false, false, false, false], (1, .return_, 0, 0) :: [])]
def mt_LatticefitModel_valueIn_22 : List ma_AI := (1, .ishr, 0, 0) :: (1, .iconst (1), 0, 1) :: (1, .iand, 0, 0) :: (1, .iconst (1), 0, 1) :: (3, .if_icmp .ne (7), 0, 0) :: (1, .iconst (1), 0, 1) :: (3, .goto (4), 0, 0) :: []
def mt_LatticefitModel_valueIn_66 : List ma_AI := (1, .ireturn, 0, 0) :: []
def mt_LatticefitModel_valueIn_63 : List ma_AI := (3, .invokevirtual 226, 209, 11) :: mt_LatticefitModel_valueIn_66
def mt_LatticefitModel_valueIn_50 : List ma_AI := (1, .aload_n 0, 0, 0) :: (1, .aload_n 0, 0, 0) :: (3, .getfield 17, 11, 2) :: (1, .iload_n 1, 0, 0) :: (1, .iaload, 0, 0) :: (1, .lload_n 2, 0, 0) :: (2, .iload 4, 0, 0) :: (3, .invokevirtual 222, 208, 11) :: mt_LatticefitModel_valueIn_63
def mb_LatticefitModel_valueIn : ma_Tb := [(0, [true, true, true, false, true], (1, .lload_n 2, 0, 0) :: (1, .iload_n 1, 0, 0) :: (1, .lshr, 0, 0) :: (1, .lconst 1, 0, 1) :: (1, .land, 0, 0) :: (1, .lconst 1, 0, 1) :: (1, .lcmp, 0, 0) :: (3, .ifCond .ne (28), 0, 0) :: (2, .iload 4, 0, 0) :: (1, .lload_n 2, 0, 0) :: (1, .lconst 1, 0, 1) :: (1, .iload_n 1, 0, 0) :: (1, .lshl, 0, 0) :: (1, .lconst 1, 0, 1) :: (1, .lsub, 0, 0) :: (1, .land, 0, 0) :: (3, .invokestatic 198, 28, 0) :: mt_LatticefitModel_valueIn_22),
  (33, [false, false, false, false, false], (1, .iconst (0), 0, 0) :: []),
  (34, [false, false, false, false, false], (1, .ireturn, 0, 0) :: []),
  (35, [true, true, true, false, true], (1, .aload_n 0, 0, 0) :: (1, .iload_n 1, 0, 0) :: (1, .aload_n 0, 0, 0) :: (1, .aload_n 0, 0, 0) :: (3, .getfield 13, 11, 1) :: (1, .iload_n 1, 0, 0) :: (1, .iaload, 0, 0) :: (1, .lload_n 2, 0, 0) :: (2, .iload 4, 0, 0) :: (3, .invokevirtual 222, 208, 11) :: mt_LatticefitModel_valueIn_50)]
def mb_LatticefitModel_of : ma_Tb := [(0, [true, true, true, true], (1, .aload_n 0, 0, 0) :: (3, .getfield 9, 11, 0) :: (1, .iload_n 1, 0, 0) :: (1, .caload, 0, 0) :: (2, .bipush (97), 0, 97) :: (3, .if_icmp .ne (19), 0, 0) :: (1, .iload_n 2, 0, 0) :: (3, .ifCond .eq (11), 0, 0) :: (1, .iload_n 3, 0, 0) :: (3, .ifCond .eq (7), 0, 0) :: (1, .iconst (1), 0, 1) :: (3, .goto (67), 0, 0) :: []),
  (23, [false, false, false, false], (1, .iconst (0), 0, 0) :: (3, .goto (63), 0, 0) :: []),
  (27, [true, true, true, true], (1, .aload_n 0, 0, 0) :: (3, .getfield 9, 11, 0) :: (1, .iload_n 1, 0, 0) :: (1, .caload, 0, 0) :: (2, .bipush (111), 0, 111) :: (3, .if_icmp .ne (19), 0, 0) :: (1, .iload_n 2, 0, 0) :: (3, .ifCond .ne (7), 0, 0) :: (1, .iload_n 3, 0, 0) :: (3, .ifCond .eq (7), 0, 0) :: []),
  (46, [false, false, false, false], (1, .iconst (1), 0, 1) :: (3, .goto (40), 0, 0) :: []),
  (50, [false, false, false, false], (1, .iconst (0), 0, 0) :: (3, .goto (36), 0, 0) :: []),
  (54, [true, true, true, true], (1, .aload_n 0, 0, 0) :: (3, .getfield 9, 11, 0) :: (1, .iload_n 1, 0, 0) :: (1, .caload, 0, 0) :: (2, .bipush (120), 0, 120) :: (3, .if_icmp .ne (16), 0, 0) :: (1, .iload_n 2, 0, 0) :: (1, .iload_n 3, 0, 0) :: (3, .if_icmp .eq (7), 0, 0) :: (1, .iconst (1), 0, 1) :: (3, .goto (16), 0, 0) :: []),
  (74, [false, false, false, false], (1, .iconst (0), 0, 0) :: (3, .goto (12), 0, 0) :: []),
  (78, [false, false, true, false], (1, .iload_n 2, 0, 0) :: (3, .ifCond .ne (7), 0, 0) :: (1, .iconst (1), 0, 1) :: (3, .goto (4), 0, 0) :: []),
  (86, [false, false, false, false], (1, .iconst (0), 0, 0) :: []),
  (87, [false, false, false, false], (1, .ireturn, 0, 0) :: [])]
def mt_LatticefitModel_depth_9 : List ma_AI := (3, .ifCond .eq (7), 0, 0) :: (1, .iconst (0), 0, 0) :: (3, .goto (9), 0, 0) :: []
def mb_LatticefitModel_depth : ma_Tb := [(0, [true, true], (1, .aload_n 0, 0, 0) :: (1, .iload_n 1, 0, 0) :: (1, .aload_n 0, 0, 0) :: (3, .getfield 149, 11, 8) :: (3, .invokevirtual 251, 211, 11) :: mt_LatticefitModel_depth_9),
  (16, [true, true], (1, .aload_n 0, 0, 0) :: (3, .getfield 43, 11, 14) :: (1, .iload_n 1, 0, 0) :: (1, .iaload, 0, 0) :: []),
  (22, [false, false], (1, .ireturn, 0, 0) :: [])]
def mt_LatticefitModel_isUnmapped_6 : List ma_AI := (3, .ifCond .ne (23), 0, 0) :: (1, .aload_n 0, 0, 0) :: (1, .aload_n 0, 0, 0) :: (3, .getfield 155, 11, 26) :: (3, .ifCond .ne (7), 0, 0) :: (1, .iconst (1), 0, 1) :: (3, .goto (4), 0, 0) :: []
def mt_LatticefitModel_isUnmapped_26 : List ma_AI := (3, .ifCond .eq (7), 0, 0) :: []
def mb_LatticefitModel_isUnmapped : ma_Tb := [(0, [true, true, true], (1, .aload_n 0, 0, 0) :: (1, .iload_n 1, 0, 0) :: (1, .iload_n 2, 0, 0) :: (3, .invokevirtual 181, 195, 11) :: mt_LatticefitModel_isUnmapped_6),
  (21, [false, false, false], (1, .iconst (0), 0, 0) :: []),
  (22, [false, false, false], (1, .iconst (2), 0, 2) :: (3, .invokevirtual 145, 186, 11) :: mt_LatticefitModel_isUnmapped_26),
  (29, [false, false, false], (1, .iconst (1), 0, 1) :: (3, .goto (4), 0, 0) :: []),
  (33, [false, false, false], (1, .iconst (0), 0, 0) :: []),
  (34, [false, false, false], (1, .ireturn, 0, 0) :: [])]
def mt_LatticefitModel_isNeeded_9 : List ma_AI := (3, .ifCond .ne (16), 0, 0) :: (1, .aload_n 0, 0, 0) :: (3, .getfield 49, 11, 16) :: (1, .iload_n 1, 0, 0) :: (1, .baload, 0, 0) :: (3, .ifCond .eq (7), 0, 0) :: (1, .iconst (1), 0, 1) :: (3, .goto (4), 0, 0) :: []
def mb_LatticefitModel_isNeeded : ma_Tb := [(0, [true, true], (1, .aload_n 0, 0, 0) :: (1, .iload_n 1, 0, 0) :: (1, .aload_n 0, 0, 0) :: (3, .getfield 149, 11, 8) :: (3, .invokevirtual 251, 211, 11) :: mt_LatticefitModel_isNeeded_9),
  (25, [false, false], (1, .iconst (0), 0, 0) :: []),
  (26, [false, false], (1, .ireturn, 0, 0) :: [])]
def mt_LatticefitModel_word_5 : List ma_AI := (3, .ifCond .eq (7), 0, 0) :: (1, .iconst (0), 0, 0) :: (3, .goto (9), 0, 0) :: []
def mb_LatticefitModel_word : ma_Tb := [(0, [true, true], (1, .aload_n 0, 0, 0) :: (1, .iload_n 1, 0, 0) :: (3, .invokevirtual 254, 214, 11) :: mt_LatticefitModel_word_5),
  (12, [true, true], (1, .aload_n 0, 0, 0) :: (3, .getfield 61, 11, 20) :: (1, .iload_n 1, 0, 0) :: (1, .iaload, 0, 0) :: []),
  (18, [false, false], (1, .ireturn, 0, 0) :: [])]
def mt_LatticefitModel_isNoBlock_19 : List ma_AI := (3, .ifCond .ne (7), 0, 0) :: (1, .iconst (1), 0, 1) :: (3, .goto (4), 0, 0) :: []
def mt_LatticefitModel_isNoBlock_31 : List ma_AI := (3, .ifCond .ne (23), 0, 0) :: (1, .aload_n 0, 0, 0) :: (1, .aload_n 0, 0, 0) :: (3, .getfield 155, 11, 26) :: (3, .ifCond .ne (7), 0, 0) :: (1, .iconst (1), 0, 1) :: (3, .goto (4), 0, 0) :: []
def mt_LatticefitModel_isNoBlock_51 : List ma_AI := (3, .ifCond .eq (7), 0, 0) :: []
def mb_LatticefitModel_isNoBlock : ma_Tb := [(0, [true, true], (1, .aload_n 0, 0, 0) :: (1, .aload_n 0, 0, 0) :: (3, .getfield 155, 11, 26) :: (3, .ifCond .eq (21), 0, 0) :: (1, .iload_n 1, 0, 0) :: (1, .iconst (0), 0, 0) :: (1, .aload_n 0, 0, 0) :: (3, .getfield 231, 11, 25) :: (1, .iconst (1), 0, 1) :: (1, .isub, 0, 0) :: (3, .invokestatic 141, 191, 0) :: mt_LatticefitModel_isNoBlock_19),
  (26, [true, false], (1, .iconst (0), 0, 0) :: []),
  (27, [true, false], (1, .iconst (1), 0, 1) :: (3, .invokevirtual 145, 186, 11) :: mt_LatticefitModel_isNoBlock_31),
  (46, [false, false], (1, .iconst (0), 0, 0) :: []),
  (47, [false, false], (1, .iconst (2), 0, 2) :: (3, .invokevirtual 145, 186, 11) :: mt_LatticefitModel_isNoBlock_51),
  (54, [false, false], (1, .iconst (1), 0, 1) :: (3, .goto (4), 0, 0) :: []),
  (58, [false, false], (1, .iconst (0), 0, 0) :: []),
  (59, [false, false], (1, .ireturn, 0, 0) :: [])]
def mt_LatticefitModel_inputOf_22 : List ma_AI := (3, .ifCond .ne (7), 0, 0) :: (1, .iconst (1), 0, 1) :: (3, .goto (4), 0, 0) :: []
def mt_LatticefitModel_inputOf_5 : List ma_AI := (3, .ifCond .ne (32), 0, 0) :: (1, .aload_n 0, 0, 0) :: (1, .iload_n 2, 0, 0) :: (1, .iconst (0), 0, 0) :: (1, .aload_n 0, 0, 0) :: (3, .getfield 64, 11, 21) :: (1, .iload_n 1, 0, 0) :: (1, .iaload, 0, 0) :: (1, .iconst (1), 0, 1) :: (1, .isub, 0, 0) :: (3, .invokestatic 141, 191, 0) :: mt_LatticefitModel_inputOf_22
def mt_LatticefitModel_inputOf_34 : List ma_AI := (3, .ifCond .eq (7), 0, 0) :: []
def mb_LatticefitModel_inputOf : ma_Tb := [(0, [true, true, true], (1, .aload_n 0, 0, 0) :: (1, .iload_n 1, 0, 0) :: (3, .invokevirtual 254, 214, 11) :: mt_LatticefitModel_inputOf_5),
  (29, [true, true, true], (1, .iconst (0), 0, 0) :: []),
  (30, [true, true, true], (1, .iconst (3), 0, 3) :: (3, .invokevirtual 145, 186, 11) :: mt_LatticefitModel_inputOf_34),
  (37, [false, false, false], (1, .iconst (0), 0, 0) :: (3, .goto (13), 0, 0) :: []),
  (41, [true, true, true], (1, .aload_n 0, 0, 0) :: (3, .getfield 67, 11, 22) :: (1, .iconst (4), 0, 4) :: (1, .iload_n 1, 0, 0) :: (1, .imul, 0, 0) :: (1, .iload_n 2, 0, 0) :: (1, .iadd, 0, 0) :: (1, .iaload, 0, 0) :: []),
  (51, [false, false, false], (1, .ireturn, 0, 0) :: [])]
def mt_LatticefitModel_gateOf_5 : List ma_AI := (3, .ifCond .ne (25), 0, 0) :: (1, .aload_n 0, 0, 0) :: (1, .aload_n 0, 0, 0) :: (3, .getfield 52, 11, 17) :: (1, .iload_n 1, 0, 0) :: (1, .iaload, 0, 0) :: (3, .ifCond .ge (7), 0, 0) :: (1, .iconst (1), 0, 1) :: (3, .goto (4), 0, 0) :: []
def mt_LatticefitModel_gateOf_27 : List ma_AI := (3, .ifCond .eq (7), 0, 0) :: []
def mb_LatticefitModel_gateOf : ma_Tb := [(0, [true, true], (1, .aload_n 0, 0, 0) :: (1, .iload_n 1, 0, 0) :: (3, .invokevirtual 254, 214, 11) :: mt_LatticefitModel_gateOf_5),
  (22, [true, true], (1, .iconst (0), 0, 0) :: []),
  (23, [true, true], (1, .iconst (3), 0, 3) :: (3, .invokevirtual 145, 186, 11) :: mt_LatticefitModel_gateOf_27),
  (30, [false, false], (1, .iconst (0), 0, 0) :: (3, .goto (9), 0, 0) :: []),
  (34, [true, true], (1, .aload_n 0, 0, 0) :: (3, .getfield 52, 11, 17) :: (1, .iload_n 1, 0, 0) :: (1, .iaload, 0, 0) :: []),
  (40, [false, false], (1, .ireturn, 0, 0) :: [])]
def mt_LatticefitModel_registerOf_5 : List ma_AI := (3, .ifCond .ne (25), 0, 0) :: (1, .aload_n 0, 0, 0) :: (1, .aload_n 0, 0, 0) :: (3, .getfield 55, 11, 18) :: (1, .iload_n 1, 0, 0) :: (1, .iaload, 0, 0) :: (3, .ifCond .ge (7), 0, 0) :: (1, .iconst (1), 0, 1) :: (3, .goto (4), 0, 0) :: []
def mt_LatticefitModel_registerOf_27 : List ma_AI := (3, .ifCond .eq (7), 0, 0) :: []
def mb_LatticefitModel_registerOf : ma_Tb := [(0, [true, true], (1, .aload_n 0, 0, 0) :: (1, .iload_n 1, 0, 0) :: (3, .invokevirtual 254, 214, 11) :: mt_LatticefitModel_registerOf_5),
  (22, [true, true], (1, .iconst (0), 0, 0) :: []),
  (23, [true, true], (1, .iconst (3), 0, 3) :: (3, .invokevirtual 145, 186, 11) :: mt_LatticefitModel_registerOf_27),
  (30, [false, false], (1, .iconst (0), 0, 0) :: (3, .goto (9), 0, 0) :: []),
  (34, [true, true], (1, .aload_n 0, 0, 0) :: (3, .getfield 55, 11, 18) :: (1, .iload_n 1, 0, 0) :: (1, .iaload, 0, 0) :: []),
  (40, [false, false], (1, .ireturn, 0, 0) :: [])]
def mt_LatticefitModel_fix_29 : List ma_AI := (3, .ifCond .ne (7), 0, 0) :: []
def mt_LatticefitModel_fix_8 : List ma_AI := (3, .ifCond .eq (24), 0, 0) :: (1, .aload_n 0, 0, 0) :: (3, .getfield 155, 11, 26) :: (3, .ifCond .eq (21), 0, 0) :: (1, .iload_n 1, 0, 0) :: (1, .iconst (0), 0, 0) :: (1, .aload_n 0, 0, 0) :: (3, .getfield 231, 11, 25) :: (1, .iconst (1), 0, 1) :: (1, .isub, 0, 0) :: (3, .invokestatic 141, 191, 0) :: mt_LatticefitModel_fix_29
def mt_LatticefitModel_fix_41 : List ma_AI := (3, .ifCond .ne (23), 0, 0) :: (1, .aload_n 0, 0, 0) :: (1, .aload_n 0, 0, 0) :: (3, .getfield 155, 11, 26) :: (3, .ifCond .ne (7), 0, 0) :: (1, .iconst (1), 0, 1) :: (3, .goto (4), 0, 0) :: []
def mt_LatticefitModel_fix_61 : List ma_AI := (3, .ifCond .eq (5), 0, 0) :: []
def mt_LatticefitModel_fix_108 : List ma_AI := (3, .ifCond .eq (5), 0, 0) :: (1, .iconst (0), 0, 0) :: (1, .ireturn, 0, 0) :: []
def mt_LatticefitModel_fix_139 : List ma_AI := (1, .ireturn, 0, 0) :: []
def mt_LatticefitModel_fix_135 : List ma_AI := (1, .aload_n 0, 0, 0) :: (3, .invokevirtual 280, 220, 11) :: mt_LatticefitModel_fix_139
def mt_LatticefitModel_fix_124 : List ma_AI := (1, .aload_n 0, 0, 0) :: (3, .getfield 73, 11, 24) :: (1, .iload_n 1, 0, 0) :: (1, .iconst (1), 0, 1) :: (1, .bastore, 0, 0) :: (1, .aload_n 0, 0, 0) :: (3, .invokevirtual 159, 189, 11) :: mt_LatticefitModel_fix_135
def mb_LatticefitModel_fix : ma_Tb := [(0, [true, true, true], (1, .aload_n 0, 0, 0) :: (1, .iload_n 2, 0, 0) :: (1, .iconst (0), 0, 0) :: (2, .bipush (35), 0, 35) :: (3, .invokestatic 141, 191, 0) :: mt_LatticefitModel_fix_8),
  (32, [true, true, true], (1, .iconst (1), 0, 1) :: (3, .goto (4), 0, 0) :: []),
  (36, [true, true, true], (1, .iconst (0), 0, 0) :: []),
  (37, [true, true, true], (1, .iconst (1), 0, 1) :: (3, .invokevirtual 145, 186, 11) :: mt_LatticefitModel_fix_41),
  (56, [true, true, true], (1, .iconst (0), 0, 0) :: []),
  (57, [true, true, true], (1, .iconst (2), 0, 2) :: (3, .invokevirtual 145, 186, 11) :: mt_LatticefitModel_fix_61),
  (64, [false, false, false], (1, .iconst (0), 0, 0) :: (1, .ireturn, 0, 0) :: []),
  (66, [true, true, true], (1, .aload_n 0, 0, 0) :: (1, .aload_n 0, 0, 0) :: (3, .getfield 73, 11, 24) :: (1, .iload_n 1, 0, 0) :: (1, .baload, 0, 0) :: (3, .ifCond .ne (26), 0, 0) :: (1, .aload_n 0, 0, 0) :: (3, .getfield 70, 11, 23) :: (1, .iload_n 2, 0, 0) :: (1, .iaload, 0, 0) :: (3, .ifCond .lt (21), 0, 0) :: (1, .aload_n 0, 0, 0) :: (3, .getfield 73, 11, 24) :: (1, .aload_n 0, 0, 0) :: (3, .getfield 70, 11, 23) :: (1, .iload_n 2, 0, 0) :: (1, .iaload, 0, 0) :: (1, .baload, 0, 0) :: (3, .ifCond .eq (7), 0, 0) :: []),
  (99, [true, true, true], (1, .iconst (1), 0, 1) :: (3, .goto (4), 0, 0) :: []),
  (103, [true, true, true], (1, .iconst (0), 0, 0) :: []),
  (104, [true, true, true], (1, .iconst (3), 0, 3) :: (3, .invokevirtual 145, 186, 11) :: mt_LatticefitModel_fix_108),
  (113, [true, true, true], (1, .aload_n 0, 0, 0) :: (1, .aload_n 0, 0, 0) :: (3, .getfield 58, 11, 19) :: (1, .iload_n 1, 0, 0) :: (1, .iaload, 0, 0) :: (1, .iload_n 2, 0, 0) :: (3, .invokevirtual 277, 219, 11) :: mt_LatticefitModel_fix_124)]
def mb_LatticefitModel_exchanges : ma_Tb := [(0, [true, true, true, false], (1, .aload_n 0, 0, 0) :: (3, .getfield 70, 11, 23) :: (1, .iload_n 1, 0, 0) :: (1, .iaload, 0, 0) :: (1, .istore_n 3, 0, 0) :: (1, .aload_n 0, 0, 0) :: (3, .getfield 70, 11, 23) :: (1, .iload_n 1, 0, 0) :: (1, .aload_n 0, 0, 0) :: (3, .getfield 70, 11, 23) :: (1, .iload_n 2, 0, 0) :: (1, .iaload, 0, 0) :: (1, .iastore, 0, 0) :: (1, .aload_n 0, 0, 0) :: (3, .getfield 70, 11, 23) :: (1, .iload_n 2, 0, 0) :: (1, .iload_n 3, 0, 0) :: (1, .iastore, 0, 0) :: (1, .aload_n 0, 0, 0) :: (3, .getfield 70, 11, 23) :: (1, .iload_n 1, 0, 0) :: (1, .iaload, 0, 0) :: (3, .ifCond .lt (15), 0, 0) :: (1, .aload_n 0, 0, 0) :: (3, .getfield 58, 11, 19) :: (1, .aload_n 0, 0, 0) :: (3, .getfield 70, 11, 23) :: (1, .iload_n 1, 0, 0) :: (1, .iaload, 0, 0) :: (1, .iload_n 1, 0, 0) :: (1, .iastore, 0, 0) :: []),
  (47, [true, false, true, false], (1, .aload_n 0, 0, 0) :: (3, .getfield 70, 11, 23) :: (1, .iload_n 2, 0, 0) :: (1, .iaload, 0, 0) :: (3, .ifCond .lt (15), 0, 0) :: (1, .aload_n 0, 0, 0) :: (3, .getfield 58, 11, 19) :: (1, .aload_n 0, 0, 0) :: (3, .getfield 70, 11, 23) :: (1, .iload_n 2, 0, 0) :: (1, .iaload, 0, 0) :: (1, .iload_n 2, 0, 0) :: (1, .iastore, 0, 0) :: []),
  (68, [false, false, false, false], (1, .return_, 0, 0) :: [])]
def mt_LatticefitModel_costNow_4 : List ma_AI := (1, .iconst (0), 0, 0) :: (1, .istore_n 1, 0, 0) :: (1, .iconst (0), 0, 0) :: (1, .istore_n 2, 0, 0) :: []
def mt_LatticefitModel_costNow_31 : List ma_AI := (3, .goto (4), 0, 0) :: []
def mb_LatticefitModel_costNow : ma_Tb := [(0, [true, false, false], (1, .aload_n 0, 0, 0) :: (3, .invokevirtual 267, 221, 11) :: mt_LatticefitModel_costNow_4),
  (8, [true, true, true], (1, .iload_n 2, 0, 0) :: (1, .aload_n 0, 0, 0) :: (3, .getfield 149, 11, 8) :: (3, .if_icmp .ge (30), 0, 0) :: (1, .iload_n 1, 0, 0) :: (1, .aload_n 0, 0, 0) :: (3, .getfield 79, 11, 31) :: (1, .iload_n 2, 0, 0) :: (1, .baload, 0, 0) :: (3, .ifCond .eq (11), 0, 0) :: (1, .aload_n 0, 0, 0) :: (1, .iload_n 2, 0, 0) :: (3, .invokevirtual 270, 224, 11) :: mt_LatticefitModel_costNow_31),
  (34, [true, false, true], (1, .iconst (0), 0, 0) :: []),
  (35, [true, false, true], (1, .iadd, 0, 0) :: (1, .istore_n 1, 0, 0) :: (3, .iinc 2 (1), 0, 0) :: (3, .goto (-32), 0, 0) :: []),
  (43, [false, true, false], (1, .iload_n 1, 0, 0) :: (1, .ireturn, 0, 0) :: [])]
def mt_LatticefitModel_findsNets_94 : List ma_AI := (3, .iinc 2 (1), 0, 0) :: (3, .goto (-36), 0, 0) :: []
def mt_LatticefitModel_findsNets_91 : List ma_AI := (3, .invokevirtual 260, 223, 11) :: mt_LatticefitModel_findsNets_94
def mt_LatticefitModel_findsNets_130 : List ma_AI := (3, .iinc 1 (1), 0, 0) :: (3, .goto (-25), 0, 0) :: []
def mb_LatticefitModel_findsNets : ma_Tb := [(0, [true, false, false], (1, .iconst (0), 0, 0) :: (1, .istore_n 1, 0, 0) :: []),
  (2, [true, true, false], (1, .iload_n 1, 0, 0) :: (1, .aload_n 0, 0, 0) :: (3, .getfield 149, 11, 8) :: (3, .if_icmp .ge (42), 0, 0) :: (1, .aload_n 0, 0, 0) :: (3, .getfield 79, 11, 31) :: (1, .iload_n 1, 0, 0) :: (1, .iconst (0), 0, 0) :: (1, .bastore, 0, 0) :: (1, .iconst (0), 0, 0) :: (1, .istore_n 2, 0, 0) :: []),
  (19, [true, true, true], (1, .iload_n 2, 0, 0) :: (2, .bipush (49), 0, 49) :: (3, .if_icmp .ge (21), 0, 0) :: (1, .aload_n 0, 0, 0) :: (3, .getfield 82, 11, 32) :: (1, .iload_n 1, 0, 0) :: (2, .bipush (49), 0, 49) :: (1, .imul, 0, 0) :: (1, .iload_n 2, 0, 0) :: (1, .iadd, 0, 0) :: (1, .iconst (0), 0, 0) :: (1, .bastore, 0, 0) :: (3, .iinc 2 (1), 0, 0) :: (3, .goto (-21), 0, 0) :: []),
  (43, [true, true, false], (3, .iinc 1 (1), 0, 0) :: (3, .goto (-44), 0, 0) :: []),
  (49, [true, false, false], (1, .iconst (0), 0, 0) :: (1, .istore_n 1, 0, 0) :: []),
  (51, [true, true, false], (1, .iload_n 1, 0, 0) :: (1, .aload_n 0, 0, 0) :: (3, .getfield 231, 11, 25) :: (3, .if_icmp .ge (50), 0, 0) :: (1, .iconst (0), 0, 0) :: (1, .istore_n 2, 0, 0) :: []),
  (61, [true, true, true], (1, .iload_n 2, 0, 0) :: (1, .aload_n 0, 0, 0) :: (3, .getfield 64, 11, 21) :: (1, .iload_n 1, 0, 0) :: (1, .iaload, 0, 0) :: (3, .if_icmp .ge (32), 0, 0) :: (1, .aload_n 0, 0, 0) :: (1, .aload_n 0, 0, 0) :: (3, .getfield 67, 11, 22) :: (1, .iconst (4), 0, 4) :: (1, .iload_n 1, 0, 0) :: (1, .imul, 0, 0) :: (1, .iload_n 2, 0, 0) :: (1, .iadd, 0, 0) :: (1, .iaload, 0, 0) :: (1, .aload_n 0, 0, 0) :: (3, .getfield 58, 11, 19) :: (1, .iload_n 1, 0, 0) :: (1, .iaload, 0, 0) :: (3, .invokestatic 257, 222, 0) :: mt_LatticefitModel_findsNets_91),
  (100, [true, true, false], (3, .iinc 1 (1), 0, 0) :: (3, .goto (-52), 0, 0) :: []),
  (106, [true, false, false], (1, .iconst (0), 0, 0) :: (1, .istore_n 1, 0, 0) :: []),
  (108, [true, true, false], (1, .iload_n 1, 0, 0) :: (1, .aload_n 0, 0, 0) :: (3, .getfield 185, 11, 11) :: (3, .if_icmp .ge (23), 0, 0) :: (1, .aload_n 0, 0, 0) :: (1, .aload_n 0, 0, 0) :: (3, .getfield 29, 11, 6) :: (1, .iload_n 1, 0, 0) :: (1, .iaload, 0, 0) :: (2, .bipush (42), 0, 42) :: (1, .iload_n 1, 0, 0) :: (1, .iadd, 0, 0) :: (3, .invokevirtual 260, 223, 11) :: mt_LatticefitModel_findsNets_130),
  (136, [false, false, false], (1, .return_, 0, 0) :: [])]
def mb_LatticefitModel_crossing : ma_Tb := [(0, [true], (2, .bipush (7), 0, 7) :: (1, .iload_n 0, 0, 0) :: (2, .bipush (6), 0, 6) :: (1, .idiv, 0, 0) :: (1, .imul, 0, 0) :: (1, .iload_n 0, 0, 0) :: (2, .bipush (6), 0, 6) :: (1, .irem, 0, 0) :: (1, .iadd, 0, 0) :: (1, .ireturn, 0, 0) :: [])]
def mb_LatticefitModel_sinks : ma_Tb := [(0, [true, true, true], (1, .aload_n 0, 0, 0) :: (3, .getfield 79, 11, 31) :: (1, .iload_n 1, 0, 0) :: (1, .iconst (1), 0, 1) :: (1, .bastore, 0, 0) :: (1, .aload_n 0, 0, 0) :: (3, .getfield 82, 11, 32) :: (1, .iload_n 1, 0, 0) :: (2, .bipush (49), 0, 49) :: (1, .imul, 0, 0) :: (1, .iload_n 2, 0, 0) :: (1, .iadd, 0, 0) :: (1, .iconst (1), 0, 1) :: (1, .bastore, 0, 0) :: (1, .return_, 0, 0) :: [])]
def mt_LatticefitModel_length_44 : List ma_AI := (3, .if_icmp .ne (47), 0, 0) :: []
def mb_LatticefitModel_length : ma_Tb := [(0, [true, true, false, false, false, false, false], (2, .bipush (6), 0, 6) :: (1, .istore_n 2, 0, 0) :: (1, .iconst (0), 0, 0) :: (1, .istore_n 3, 0, 0) :: (2, .bipush (6), 0, 6) :: (2, .istore 4, 0, 0) :: (1, .iconst (0), 0, 0) :: (2, .istore 5, 0, 0) :: (1, .iconst (0), 0, 0) :: (2, .istore 6, 0, 0) :: []),
  (15, [true, true, true, true, true, true, true], (2, .iload 6, 0, 0) :: (2, .bipush (49), 0, 49) :: (3, .if_icmp .ge (78), 0, 0) :: (1, .aload_n 0, 0, 0) :: (3, .getfield 82, 11, 32) :: (1, .iload_n 1, 0, 0) :: (2, .bipush (49), 0, 49) :: (1, .imul, 0, 0) :: (2, .iload 6, 0, 0) :: (1, .iadd, 0, 0) :: (1, .baload, 0, 0) :: (3, .ifCond .ne (13), 0, 0) :: (2, .iload 6, 0, 0) :: (1, .aload_n 0, 0, 0) :: (1, .iload_n 1, 0, 0) :: (3, .invokevirtual 264, 225, 11) :: mt_LatticefitModel_length_44),
  (47, [true, true, true, true, true, true, true], (1, .iload_n 2, 0, 0) :: (2, .iload 6, 0, 0) :: (2, .bipush (7), 0, 7) :: (1, .idiv, 0, 0) :: (3, .invokestatic 207, 10003, 0) :: (1, .istore_n 2, 0, 0) :: (1, .iload_n 3, 0, 0) :: (2, .iload 6, 0, 0) :: (2, .bipush (7), 0, 7) :: (1, .idiv, 0, 0) :: (3, .invokestatic 188, 10002, 0) :: (1, .istore_n 3, 0, 0) :: (2, .iload 4, 0, 0) :: (2, .iload 6, 0, 0) :: (2, .bipush (7), 0, 7) :: (1, .irem, 0, 0) :: (3, .invokestatic 207, 10003, 0) :: (2, .istore 4, 0, 0) :: (2, .iload 5, 0, 0) :: (2, .iload 6, 0, 0) :: (2, .bipush (7), 0, 7) :: (1, .irem, 0, 0) :: (3, .invokestatic 188, 10002, 0) :: (2, .istore 5, 0, 0) :: []),
  (91, [true, true, true, true, true, true, true], (3, .iinc 6 (1), 0, 0) :: (3, .goto (-79), 0, 0) :: []),
  (97, [false, false, true, true, true, true, false], (1, .iload_n 3, 0, 0) :: (1, .iload_n 2, 0, 0) :: (1, .isub, 0, 0) :: (2, .iload 5, 0, 0) :: (1, .iadd, 0, 0) :: (2, .iload 4, 0, 0) :: (1, .isub, 0, 0) :: (1, .ireturn, 0, 0) :: [])]
def mb_LatticefitModel_sourceAt : ma_Tb := [(0, [true, true], (1, .aload_n 0, 0, 0) :: (3, .getfield 9, 11, 0) :: (1, .iload_n 1, 0, 0) :: (1, .caload, 0, 0) :: (2, .bipush (105), 0, 105) :: (3, .if_icmp .ne (12), 0, 0) :: (1, .aload_n 0, 0, 0) :: (3, .getfield 26, 11, 5) :: (1, .iload_n 1, 0, 0) :: (1, .iaload, 0, 0) :: (3, .goto (17), 0, 0) :: []),
  (20, [true, true], (1, .aload_n 0, 0, 0) :: (3, .getfield 58, 11, 19) :: (1, .aload_n 0, 0, 0) :: (3, .getfield 46, 11, 15) :: (1, .iload_n 1, 0, 0) :: (1, .iaload, 0, 0) :: (1, .iaload, 0, 0) :: (3, .invokestatic 257, 222, 0) :: []),
  (34, [false, false], (1, .ireturn, 0, 0) :: [])]
def mt_LatticefitModel_anneal_23 : List ma_AI := (3, .ifCond .ne (7), 0, 0) :: []
def mt_LatticefitModel_anneal_13 : List ma_AI := (3, .ifCond .eq (13), 0, 0) :: (1, .iload_n 3, 0, 0) :: (1, .iconst (1), 0, 1) :: (2, .bipush (50), 0, 50) :: (3, .invokestatic 141, 191, 0) :: mt_LatticefitModel_anneal_23
def mt_LatticefitModel_anneal_35 : List ma_AI := (3, .ifCond .ne (23), 0, 0) :: (1, .aload_n 0, 0, 0) :: (1, .aload_n 0, 0, 0) :: (3, .getfield 155, 11, 26) :: (3, .ifCond .ne (7), 0, 0) :: (1, .iconst (1), 0, 1) :: (3, .goto (4), 0, 0) :: []
def mt_LatticefitModel_anneal_55 : List ma_AI := (3, .ifCond .eq (5), 0, 0) :: []
def mt_LatticefitModel_anneal_181 : List ma_AI := (2, .iload 11, 0, 0) :: (1, .isub, 0, 0) :: (2, .iload 6, 0, 0) :: (3, .if_icmp .ge (7), 0, 0) :: (1, .iconst (1), 0, 1) :: (3, .goto (4), 0, 0) :: []
def mt_LatticefitModel_anneal_172 : List ma_AI := (2, .iload 12, 0, 0) :: (3, .if_icmp .gt (19), 0, 0) :: (1, .aload_n 0, 0, 0) :: (3, .invokevirtual 280, 220, 11) :: mt_LatticefitModel_anneal_181
def mt_LatticefitModel_anneal_168 : List ma_AI := (1, .aload_n 0, 0, 0) :: (3, .invokevirtual 296, 228, 11) :: mt_LatticefitModel_anneal_172
def mt_LatticefitModel_anneal_158 : List ma_AI := (2, .istore 12, 0, 0) :: (1, .aload_n 0, 0, 0) :: (2, .iload 9, 0, 0) :: (2, .iload 10, 0, 0) :: (3, .invokevirtual 277, 219, 11) :: mt_LatticefitModel_anneal_168
def mt_LatticefitModel_anneal_152 : List ma_AI := (2, .istore 11, 0, 0) :: (1, .aload_n 0, 0, 0) :: (3, .invokevirtual 296, 228, 11) :: mt_LatticefitModel_anneal_158
def mt_LatticefitModel_anneal_145 : List ma_AI := (3, .ifCond .eq (79), 0, 0) :: (1, .aload_n 0, 0, 0) :: (3, .invokevirtual 280, 220, 11) :: mt_LatticefitModel_anneal_152
def mb_LatticefitModel_anneal : ma_Tb := [(0, [true, true, true, true, false, false, false, false, false, false, false, false, false, false], (1, .aload_n 0, 0, 0) :: (1, .iload_n 1, 0, 0) :: (3, .ifCond .lt (24), 0, 0) :: (1, .iload_n 2, 0, 0) :: (1, .iconst (1), 0, 1) :: (3, .sipush (200), 0, 200) :: (3, .invokestatic 141, 191, 0) :: mt_LatticefitModel_anneal_13),
  (26, [true, true, true, true, false, false, false, false, false, false, false, false, false, false], (1, .iconst (1), 0, 1) :: (3, .goto (4), 0, 0) :: []),
  (30, [true, true, true, true, false, false, false, false, false, false, false, false, false, false], (1, .iconst (0), 0, 0) :: []),
  (31, [true, true, true, true, false, false, false, false, false, false, false, false, false, false], (1, .iconst (1), 0, 1) :: (3, .invokevirtual 145, 186, 11) :: mt_LatticefitModel_anneal_35),
  (50, [true, true, true, true, false, false, false, false, false, false, false, false, false, false], (1, .iconst (0), 0, 0) :: []),
  (51, [true, true, true, true, false, false, false, false, false, false, false, false, false, false], (1, .iconst (2), 0, 2) :: (3, .invokevirtual 145, 186, 11) :: mt_LatticefitModel_anneal_55),
  (58, [false, false, false, false, false, false, false, false, false, false, false, false, false, false], (1, .iconst (0), 0, 0) :: (1, .ireturn, 0, 0) :: []),
  (60, [true, true, true, true, false, false, false, false, false, false, false, false, false, false], (1, .iload_n 1, 0, 0) :: (1, .i2l, 0, 0) :: (2, .lstore 4, 0, 0) :: (1, .iload_n 3, 0, 0) :: (2, .istore 6, 0, 0) :: (1, .iconst (0), 0, 0) :: (2, .istore 7, 0, 0) :: (1, .iconst (1), 0, 1) :: (2, .istore 8, 0, 0) :: []),
  (73, [true, false, true, false, true, false, true, true, true, false, false, false, false, false], (2, .iload 8, 0, 0) :: (1, .iload_n 2, 0, 0) :: (3, .if_icmp .gt (177), 0, 0) :: (2, .lload 4, 0, 0) :: (3, .ldc2_w 283, 0, 1103515245) :: (1, .lmul, 0, 0) :: (3, .ldc2_w 285, 0, 12345) :: (1, .ladd, 0, 0) :: (3, .ldc2_w 287, 0, 2147483648) :: (1, .lrem, 0, 0) :: (2, .lstore 4, 0, 0) :: (2, .lload 4, 0, 0) :: (3, .ldc2_w 289, 0, 65536) :: (1, .ldiv, 0, 0) :: (3, .ldc2_w 291, 0, 36) :: (1, .lrem, 0, 0) :: (1, .l2i, 0, 0) :: (2, .istore 9, 0, 0) :: (2, .lload 4, 0, 0) :: (3, .ldc2_w 283, 0, 1103515245) :: (1, .lmul, 0, 0) :: (3, .ldc2_w 285, 0, 12345) :: (1, .ladd, 0, 0) :: (3, .ldc2_w 287, 0, 2147483648) :: (1, .lrem, 0, 0) :: (2, .lstore 4, 0, 0) :: (2, .lload 4, 0, 0) :: (3, .ldc2_w 289, 0, 65536) :: (1, .ldiv, 0, 0) :: (3, .ldc2_w 291, 0, 36) :: (1, .lrem, 0, 0) :: (1, .l2i, 0, 0) :: (2, .istore 10, 0, 0) :: (1, .aload_n 0, 0, 0) :: (2, .iload 9, 0, 0) :: (2, .iload 10, 0, 0) :: (3, .invokevirtual 293, 227, 11) :: mt_LatticefitModel_anneal_145),
  (193, [true, false, true, false, true, false, true, true, true, true, true, false, false, false], (1, .iconst (0), 0, 0) :: []),
  (194, [true, false, true, false, true, false, true, true, true, true, true, false, false, false], (2, .istore 13, 0, 0) :: (2, .iload 7, 0, 0) :: (2, .iload 13, 0, 0) :: (3, .ifCond .eq (7), 0, 0) :: (1, .iconst (1), 0, 1) :: (3, .goto (4), 0, 0) :: []),
  (207, [true, false, true, false, true, false, true, false, true, true, true, false, false, true], (1, .iconst (0), 0, 0) :: []),
  (208, [true, false, true, false, true, false, true, false, true, true, true, false, false, true], (1, .iadd, 0, 0) :: (2, .istore 7, 0, 0) :: (2, .iload 13, 0, 0) :: (3, .ifCond .ne (11), 0, 0) :: (1, .aload_n 0, 0, 0) :: (2, .iload 9, 0, 0) :: (2, .iload 10, 0, 0) :: (3, .invokevirtual 277, 219, 11) :: []),
  (224, [true, false, true, false, true, false, true, true, true, false, false, false, false, false], (2, .iload 8, 0, 0) :: (2, .bipush (8), 0, 8) :: (1, .irem, 0, 0) :: (3, .ifCond .ne (14), 0, 0) :: (1, .iconst (1), 0, 1) :: (2, .iload 6, 0, 0) :: (1, .iconst (1), 0, 1) :: (1, .isub, 0, 0) :: (3, .invokestatic 188, 10002, 0) :: (3, .goto (5), 0, 0) :: []),
  (243, [true, false, true, false, true, false, true, true, true, false, false, false, false, false], (2, .iload 6, 0, 0) :: []),
  (245, [true, false, true, false, true, false, false, true, true, false, false, false, false, false], (2, .istore 6, 0, 0) :: (3, .iinc 8 (1), 0, 0) :: (3, .goto (-177), 0, 0) :: []),
  (253, [true, false, false, false, false, false, false, true, false, false, false, false, false, false], (2, .iload 7, 0, 0) :: (3, .ifCond .le (7), 0, 0) :: (1, .aload_n 0, 0, 0) :: (3, .invokevirtual 159, 189, 11) :: []),
  (262, [false, false, false, false, false, false, false, true, false, false, false, false, false, false], (2, .iload 7, 0, 0) :: (1, .ireturn, 0, 0) :: [])]
def mb_LatticefitModel_canSwap : ma_Tb := [(0, [true, true, true, false], (1, .aload_n 0, 0, 0) :: (3, .getfield 70, 11, 23) :: (1, .iload_n 1, 0, 0) :: (1, .iaload, 0, 0) :: (3, .ifCond .lt (17), 0, 0) :: (1, .aload_n 0, 0, 0) :: (3, .getfield 73, 11, 24) :: (1, .aload_n 0, 0, 0) :: (3, .getfield 70, 11, 23) :: (1, .iload_n 1, 0, 0) :: (1, .iaload, 0, 0) :: (1, .baload, 0, 0) :: (3, .ifCond .ne (26), 0, 0) :: []),
  (23, [true, true, true, false], (1, .aload_n 0, 0, 0) :: (3, .getfield 70, 11, 23) :: (1, .iload_n 2, 0, 0) :: (1, .iaload, 0, 0) :: (3, .ifCond .lt (21), 0, 0) :: (1, .aload_n 0, 0, 0) :: (3, .getfield 73, 11, 24) :: (1, .aload_n 0, 0, 0) :: (3, .getfield 70, 11, 23) :: (1, .iload_n 2, 0, 0) :: (1, .iaload, 0, 0) :: (1, .baload, 0, 0) :: (3, .ifCond .eq (7), 0, 0) :: []),
  (46, [true, true, true, false], (1, .iconst (1), 0, 1) :: (3, .goto (4), 0, 0) :: []),
  (50, [true, true, true, false], (1, .iconst (0), 0, 0) :: []),
  (51, [true, true, true, false], (1, .istore_n 3, 0, 0) :: (1, .iload_n 1, 0, 0) :: (1, .iload_n 2, 0, 0) :: (3, .if_icmp .eq (29), 0, 0) :: (1, .aload_n 0, 0, 0) :: (3, .getfield 70, 11, 23) :: (1, .iload_n 1, 0, 0) :: (1, .iaload, 0, 0) :: (3, .ifCond .ge (12), 0, 0) :: (1, .aload_n 0, 0, 0) :: (3, .getfield 70, 11, 23) :: (1, .iload_n 2, 0, 0) :: (1, .iaload, 0, 0) :: (3, .ifCond .lt (11), 0, 0) :: []),
  (75, [false, false, false, true], (1, .iload_n 3, 0, 0) :: (3, .ifCond .ne (7), 0, 0) :: (1, .iconst (1), 0, 1) :: (3, .goto (4), 0, 0) :: []),
  (83, [false, false, false, false], (1, .iconst (0), 0, 0) :: []),
  (84, [false, false, false, false], (1, .ireturn, 0, 0) :: [])]
def mt_LatticefitModel_excessNow_104 : List ma_AI := (1, .iconst (2), 0, 2) :: (1, .isub, 0, 0) :: (3, .invokestatic 188, 10002, 0) :: (1, .iadd, 0, 0) :: (1, .istore_n 1, 0, 0) :: (3, .iinc 2 (1), 0, 0) :: (3, .goto (-110), 0, 0) :: []
def mb_LatticefitModel_excessNow : ma_Tb := [(0, [true, false, false, false, false, false], (1, .iconst (0), 0, 0) :: (1, .istore_n 1, 0, 0) :: (1, .iconst (0), 0, 0) :: (1, .istore_n 2, 0, 0) :: []),
  (4, [true, true, true, false, false, false], (1, .iload_n 2, 0, 0) :: (1, .iconst (3), 0, 3) :: (3, .if_icmp .ge (111), 0, 0) :: (1, .iconst (0), 0, 0) :: (1, .istore_n 3, 0, 0) :: (2, .bipush (12), 0, 12) :: (1, .iload_n 2, 0, 0) :: (1, .imul, 0, 0) :: (2, .istore 4, 0, 0) :: []),
  (17, [true, true, true, true, true, false], (2, .iload 4, 0, 0) :: (2, .bipush (12), 0, 12) :: (1, .iload_n 2, 0, 0) :: (1, .imul, 0, 0) :: (2, .bipush (12), 0, 12) :: (1, .iadd, 0, 0) :: (3, .if_icmp .ge (72), 0, 0) :: (1, .aload_n 0, 0, 0) :: (3, .getfield 70, 11, 23) :: (2, .iload 4, 0, 0) :: (1, .iaload, 0, 0) :: (3, .ifCond .lt (22), 0, 0) :: (1, .aload_n 0, 0, 0) :: (3, .getfield 55, 11, 18) :: (1, .aload_n 0, 0, 0) :: (3, .getfield 70, 11, 23) :: (2, .iload 4, 0, 0) :: (1, .iaload, 0, 0) :: (1, .iaload, 0, 0) :: (3, .ifCond .lt (7), 0, 0) :: (1, .iconst (1), 0, 1) :: (3, .goto (4), 0, 0) :: []),
  (58, [true, true, true, true, true, false], (1, .iconst (0), 0, 0) :: []),
  (59, [true, true, true, true, true, false], (2, .istore 5, 0, 0) :: (1, .iload_n 3, 0, 0) :: (2, .iload 5, 0, 0) :: (3, .ifCond .eq (25), 0, 0) :: (1, .iconst (1), 0, 1) :: (1, .aload_n 0, 0, 0) :: (3, .getfield 20, 11, 3) :: (1, .aload_n 0, 0, 0) :: (3, .getfield 55, 11, 18) :: (1, .aload_n 0, 0, 0) :: (3, .getfield 70, 11, 23) :: (2, .iload 4, 0, 0) :: (1, .iaload, 0, 0) :: (1, .iaload, 0, 0) :: (1, .iaload, 0, 0) :: (1, .ishl, 0, 0) :: (3, .goto (4), 0, 0) :: []),
  (89, [true, true, true, false, true, false], (1, .iconst (0), 0, 0) :: []),
  (90, [true, true, true, false, true, false], (1, .ior, 0, 0) :: (1, .istore_n 3, 0, 0) :: (3, .iinc 4 (1), 0, 0) :: (3, .goto (-78), 0, 0) :: []),
  (98, [true, true, true, true, false, false], (1, .iload_n 1, 0, 0) :: (1, .iconst (0), 0, 0) :: (1, .iload_n 3, 0, 0) :: (3, .invokestatic 273, 76, 0) :: mt_LatticefitModel_excessNow_104),
  (117, [false, true, false, false, false, false], (1, .iload_n 1, 0, 0) :: (1, .ireturn, 0, 0) :: [])]
def mt_LatticefitModel_cellOf_5 : List ma_AI := (3, .ifCond .eq (7), 0, 0) :: (1, .iconst (0), 0, 0) :: (3, .goto (9), 0, 0) :: []
def mb_LatticefitModel_cellOf : ma_Tb := [(0, [true, true], (1, .aload_n 0, 0, 0) :: (1, .iload_n 1, 0, 0) :: (3, .invokevirtual 254, 214, 11) :: mt_LatticefitModel_cellOf_5),
  (12, [true, true], (1, .aload_n 0, 0, 0) :: (3, .getfield 58, 11, 19) :: (1, .iload_n 1, 0, 0) :: (1, .iaload, 0, 0) :: []),
  (18, [false, false], (1, .ireturn, 0, 0) :: [])]
def mt_LatticefitModel_cost_17 : List ma_AI := (3, .ifCond .eq (7), 0, 0) :: (1, .iconst (0), 0, 0) :: (3, .goto (7), 0, 0) :: []
def mb_LatticefitModel_cost : ma_Tb := [(0, [true], (1, .aload_n 0, 0, 0) :: (1, .aload_n 0, 0, 0) :: (3, .getfield 155, 11, 26) :: (3, .ifCond .ne (7), 0, 0) :: (1, .iconst (1), 0, 1) :: (3, .goto (4), 0, 0) :: []),
  (12, [true], (1, .iconst (0), 0, 0) :: []),
  (13, [true], (1, .iconst (1), 0, 1) :: (3, .invokevirtual 145, 186, 11) :: mt_LatticefitModel_cost_17),
  (24, [true], (1, .aload_n 0, 0, 0) :: (3, .invokevirtual 280, 220, 11) :: []),
  (28, [false], (1, .ireturn, 0, 0) :: [])]
def mt_LatticefitModel_excess_17 : List ma_AI := (3, .ifCond .eq (7), 0, 0) :: (1, .iconst (0), 0, 0) :: (3, .goto (7), 0, 0) :: []
def mb_LatticefitModel_excess : ma_Tb := [(0, [true], (1, .aload_n 0, 0, 0) :: (1, .aload_n 0, 0, 0) :: (3, .getfield 155, 11, 26) :: (3, .ifCond .ne (7), 0, 0) :: (1, .iconst (1), 0, 1) :: (3, .goto (4), 0, 0) :: []),
  (12, [true], (1, .iconst (0), 0, 0) :: []),
  (13, [true], (1, .iconst (1), 0, 1) :: (3, .invokevirtual 145, 186, 11) :: mt_LatticefitModel_excess_17),
  (24, [true], (1, .aload_n 0, 0, 0) :: (3, .invokevirtual 296, 228, 11) :: []),
  (28, [false], (1, .ireturn, 0, 0) :: [])]
def mt_LatticefitModel_route_8 : List ma_AI := (3, .ifCond .ne (7), 0, 0) :: (1, .iconst (1), 0, 1) :: (3, .goto (4), 0, 0) :: []
def mt_LatticefitModel_route_20 : List ma_AI := (3, .ifCond .ne (23), 0, 0) :: (1, .aload_n 0, 0, 0) :: (1, .aload_n 0, 0, 0) :: (3, .getfield 155, 11, 26) :: (3, .ifCond .ne (7), 0, 0) :: (1, .iconst (1), 0, 1) :: (3, .goto (4), 0, 0) :: []
def mt_LatticefitModel_route_40 : List ma_AI := (3, .ifCond .eq (5), 0, 0) :: []
def mt_LatticefitModel_route_53 : List ma_AI := (1, .iconst (0), 0, 0) :: (1, .istore_n 2, 0, 0) :: []
def mt_LatticefitModel_route_49 : List ma_AI := (1, .aload_n 0, 0, 0) :: (3, .invokevirtual 267, 221, 11) :: mt_LatticefitModel_route_53
def mb_LatticefitModel_route : ma_Tb := [(0, [true, true, false, false], (1, .aload_n 0, 0, 0) :: (1, .iload_n 1, 0, 0) :: (1, .iconst (1), 0, 1) :: (2, .bipush (20), 0, 20) :: (3, .invokestatic 141, 191, 0) :: mt_LatticefitModel_route_8),
  (15, [true, true, false, false], (1, .iconst (0), 0, 0) :: []),
  (16, [true, true, false, false], (1, .iconst (1), 0, 1) :: (3, .invokevirtual 145, 186, 11) :: mt_LatticefitModel_route_20),
  (35, [true, true, false, false], (1, .iconst (0), 0, 0) :: []),
  (36, [true, true, false, false], (1, .iconst (2), 0, 2) :: (3, .invokevirtual 145, 186, 11) :: mt_LatticefitModel_route_40),
  (43, [false, false, false, false], (1, .iconst (0), 0, 0) :: (1, .ireturn, 0, 0) :: []),
  (45, [true, true, false, false], (1, .aload_n 0, 0, 0) :: (3, .invokevirtual 159, 189, 11) :: mt_LatticefitModel_route_49),
  (55, [true, true, true, false], (1, .iload_n 2, 0, 0) :: (2, .bipush (84), 0, 84) :: (3, .if_icmp .ge (49), 0, 0) :: (1, .aload_n 0, 0, 0) :: (3, .getfield 91, 11, 35) :: (1, .iload_n 2, 0, 0) :: (1, .iconst (0), 0, 0) :: (1, .iastore, 0, 0) :: (1, .aload_n 0, 0, 0) :: (3, .getfield 94, 11, 36) :: (1, .iload_n 2, 0, 0) :: (1, .iconst (0), 0, 0) :: (1, .iastore, 0, 0) :: (1, .iconst (0), 0, 0) :: (1, .istore_n 3, 0, 0) :: []),
  (77, [true, true, true, true], (1, .iload_n 3, 0, 0) :: (2, .bipush (48), 0, 48) :: (3, .if_icmp .ge (21), 0, 0) :: (1, .aload_n 0, 0, 0) :: (3, .getfield 76, 11, 30) :: (1, .iload_n 3, 0, 0) :: (2, .bipush (84), 0, 84) :: (1, .imul, 0, 0) :: (1, .iload_n 2, 0, 0) :: (1, .iadd, 0, 0) :: (1, .iconst (0), 0, 0) :: (1, .bastore, 0, 0) :: (3, .iinc 3 (1), 0, 0) :: (3, .goto (-21), 0, 0) :: []),
  (101, [true, true, true, false], (3, .iinc 2 (1), 0, 0) :: (3, .goto (-49), 0, 0) :: []),
  (107, [true, true, false, false], (1, .iconst (0), 0, 0) :: (1, .istore_n 2, 0, 0) :: []),
  (109, [true, true, true, false], (1, .iload_n 2, 0, 0) :: (1, .iload_n 1, 0, 0) :: (3, .if_icmp .ge (111), 0, 0) :: (1, .aload_n 0, 0, 0) :: (3, .getfield 162, 11, 27) :: (3, .ifCond .ne (104), 0, 0) :: (3, .iinc 2 (1), 0, 0) :: (1, .iconst (0), 0, 0) :: (1, .istore_n 3, 0, 0) :: []),
  (126, [true, true, true, true], (1, .iload_n 3, 0, 0) :: (1, .aload_n 0, 0, 0) :: (3, .getfield 149, 11, 8) :: (3, .if_icmp .ge (24), 0, 0) :: (1, .aload_n 0, 0, 0) :: (3, .getfield 79, 11, 31) :: (1, .iload_n 3, 0, 0) :: (1, .baload, 0, 0) :: (3, .ifCond .eq (9), 0, 0) :: (1, .aload_n 0, 0, 0) :: (1, .iload_n 3, 0, 0) :: (1, .iload_n 2, 0, 0) :: (3, .invokevirtual 315, 233, 11) :: []),
  (149, [true, true, true, true], (3, .iinc 3 (1), 0, 0) :: (3, .goto (-26), 0, 0) :: []),
  (155, [true, true, true, false], (1, .aload_n 0, 0, 0) :: (1, .iconst (1), 0, 1) :: (3, .putfield 162, 11, 27) :: (1, .iconst (0), 0, 0) :: (1, .istore_n 3, 0, 0) :: []),
  (162, [true, true, true, true], (1, .iload_n 3, 0, 0) :: (2, .bipush (84), 0, 84) :: (3, .if_icmp .ge (54), 0, 0) :: (1, .aload_n 0, 0, 0) :: (3, .getfield 94, 11, 36) :: (1, .iload_n 3, 0, 0) :: (1, .dup2, 0, 0) :: (1, .iaload, 0, 0) :: (1, .iconst (0), 0, 0) :: (1, .aload_n 0, 0, 0) :: (3, .getfield 91, 11, 35) :: (1, .iload_n 3, 0, 0) :: (1, .iaload, 0, 0) :: (1, .iconst (2), 0, 2) :: (1, .isub, 0, 0) :: (3, .invokestatic 188, 10002, 0) :: (1, .iadd, 0, 0) :: (1, .iastore, 0, 0) :: (1, .aload_n 0, 0, 0) :: (1, .dup, 0, 0) :: (3, .getfield 162, 11, 27) :: (1, .aload_n 0, 0, 0) :: (3, .getfield 91, 11, 35) :: (1, .iload_n 3, 0, 0) :: (1, .iaload, 0, 0) :: (1, .iconst (2), 0, 2) :: (3, .if_icmp .gt (7), 0, 0) :: (1, .iconst (1), 0, 1) :: (3, .goto (4), 0, 0) :: []),
  (208, [true, true, true, true], (1, .iconst (0), 0, 0) :: []),
  (209, [true, true, true, true], (1, .iand, 0, 0) :: (3, .putfield 162, 11, 27) :: (3, .iinc 3 (1), 0, 0) :: (3, .goto (-54), 0, 0) :: []),
  (219, [true, true, true, false], (3, .goto (-110), 0, 0) :: []),
  (222, [false, false, true, false], (1, .iload_n 2, 0, 0) :: (1, .ireturn, 0, 0) :: [])]
def mt_LatticefitModel_gives_78 : List ma_AI := (3, .if_icmp .ne (7), 0, 0) :: (1, .iconst (1), 0, 1) :: (3, .goto (4), 0, 0) :: []
def mb_LatticefitModel_gives : ma_Tb := [(0, [true, true, true, false], (1, .iconst (0), 0, 0) :: (1, .istore_n 3, 0, 0) :: []),
  (2, [true, true, true, true], (1, .iload_n 3, 0, 0) :: (2, .bipush (84), 0, 84) :: (3, .if_icmp .ge (49), 0, 0) :: (1, .aload_n 0, 0, 0) :: (3, .getfield 91, 11, 35) :: (1, .iload_n 3, 0, 0) :: (1, .dup2, 0, 0) :: (1, .iaload, 0, 0) :: (1, .aload_n 0, 0, 0) :: (3, .getfield 76, 11, 30) :: (1, .iload_n 1, 0, 0) :: (2, .bipush (84), 0, 84) :: (1, .imul, 0, 0) :: (1, .iload_n 3, 0, 0) :: (1, .iadd, 0, 0) :: (1, .baload, 0, 0) :: (3, .ifCond .eq (7), 0, 0) :: (1, .iconst (1), 0, 1) :: (3, .goto (4), 0, 0) :: []),
  (33, [true, true, true, true], (1, .iconst (0), 0, 0) :: []),
  (34, [true, true, true, true], (1, .isub, 0, 0) :: (1, .iastore, 0, 0) :: (1, .aload_n 0, 0, 0) :: (3, .getfield 76, 11, 30) :: (1, .iload_n 1, 0, 0) :: (2, .bipush (84), 0, 84) :: (1, .imul, 0, 0) :: (1, .iload_n 3, 0, 0) :: (1, .iadd, 0, 0) :: (1, .iconst (0), 0, 0) :: (1, .bastore, 0, 0) :: (3, .iinc 3 (1), 0, 0) :: (3, .goto (-49), 0, 0) :: []),
  (54, [true, true, true, false], (1, .iconst (0), 0, 0) :: (1, .istore_n 3, 0, 0) :: []),
  (56, [true, true, true, true], (1, .iload_n 3, 0, 0) :: (2, .bipush (49), 0, 49) :: (3, .if_icmp .ge (46), 0, 0) :: (1, .aload_n 0, 0, 0) :: (3, .getfield 85, 11, 33) :: (1, .iload_n 1, 0, 0) :: (2, .bipush (49), 0, 49) :: (1, .imul, 0, 0) :: (1, .iload_n 3, 0, 0) :: (1, .iadd, 0, 0) :: (1, .iload_n 3, 0, 0) :: (1, .aload_n 0, 0, 0) :: (1, .iload_n 1, 0, 0) :: (3, .invokevirtual 264, 225, 11) :: mt_LatticefitModel_gives_78),
  (85, [true, true, true, true], (1, .iconst (0), 0, 0) :: []),
  (86, [true, true, true, true], (1, .bastore, 0, 0) :: (1, .aload_n 0, 0, 0) :: (3, .getfield 88, 11, 34) :: (1, .iload_n 1, 0, 0) :: (2, .bipush (49), 0, 49) :: (1, .imul, 0, 0) :: (1, .iload_n 3, 0, 0) :: (1, .iadd, 0, 0) :: (1, .iconst (-1), 0, (-1)) :: (1, .iastore, 0, 0) :: (3, .iinc 3 (1), 0, 0) :: (3, .goto (-46), 0, 0) :: []),
  (105, [true, true, true, false], (1, .iconst (0), 0, 0) :: (1, .istore_n 3, 0, 0) :: []),
  (107, [true, true, true, true], (1, .iload_n 3, 0, 0) :: (2, .bipush (49), 0, 49) :: (3, .if_icmp .ge (44), 0, 0) :: (1, .aload_n 0, 0, 0) :: (3, .getfield 82, 11, 32) :: (1, .iload_n 1, 0, 0) :: (2, .bipush (49), 0, 49) :: (1, .imul, 0, 0) :: (1, .iload_n 3, 0, 0) :: (1, .iadd, 0, 0) :: (1, .baload, 0, 0) :: (3, .ifCond .eq (24), 0, 0) :: (1, .aload_n 0, 0, 0) :: (3, .getfield 85, 11, 33) :: (1, .iload_n 1, 0, 0) :: (2, .bipush (49), 0, 49) :: (1, .imul, 0, 0) :: (1, .iload_n 3, 0, 0) :: (1, .iadd, 0, 0) :: (1, .baload, 0, 0) :: (3, .ifCond .ne (10), 0, 0) :: (1, .aload_n 0, 0, 0) :: (1, .iload_n 1, 0, 0) :: (1, .iload_n 3, 0, 0) :: (1, .iload_n 2, 0, 0) :: (3, .invokevirtual 311, 234, 11) :: []),
  (148, [true, true, true, true], (3, .iinc 3 (1), 0, 0) :: (3, .goto (-44), 0, 0) :: []),
  (154, [true, true, false, false], (1, .iconst (0), 0, 0) :: (1, .istore_n 3, 0, 0) :: []),
  (156, [true, true, false, true], (1, .iload_n 3, 0, 0) :: (2, .bipush (84), 0, 84) :: (3, .if_icmp .ge (37), 0, 0) :: (1, .aload_n 0, 0, 0) :: (3, .getfield 91, 11, 35) :: (1, .iload_n 3, 0, 0) :: (1, .dup2, 0, 0) :: (1, .iaload, 0, 0) :: (1, .aload_n 0, 0, 0) :: (3, .getfield 76, 11, 30) :: (1, .iload_n 1, 0, 0) :: (2, .bipush (84), 0, 84) :: (1, .imul, 0, 0) :: (1, .iload_n 3, 0, 0) :: (1, .iadd, 0, 0) :: (1, .baload, 0, 0) :: (3, .ifCond .eq (7), 0, 0) :: (1, .iconst (1), 0, 1) :: (3, .goto (4), 0, 0) :: []),
  (187, [true, true, false, true], (1, .iconst (0), 0, 0) :: []),
  (188, [true, true, false, true], (1, .iadd, 0, 0) :: (1, .iastore, 0, 0) :: (3, .iinc 3 (1), 0, 0) :: (3, .goto (-37), 0, 0) :: []),
  (196, [false, false, false, false], (1, .return_, 0, 0) :: [])]
def mt_LatticefitModel_reaches_55 : List ma_AI := (2, .istore 4, 0, 0) :: (1, .aload_n 0, 0, 0) :: (3, .getfield 103, 11, 39) :: (2, .iload 4, 0, 0) :: (1, .iconst (1), 0, 1) :: (1, .bastore, 0, 0) :: []
def mt_LatticefitModel_reaches_96 : List ma_AI := (3, .goto (22), 0, 0) :: []
def mt_LatticefitModel_reaches_86 : List ma_AI := (2, .iload 4, 0, 0) :: (3, .if_icmp .ne (11), 0, 0) :: (2, .iload 5, 0, 0) :: (3, .invokestatic 305, 236, 0) :: mt_LatticefitModel_reaches_96
def mt_LatticefitModel_reaches_114 : List ma_AI := (3, .goto (4), 0, 0) :: []
def mt_LatticefitModel_reaches_104 : List ma_AI := (2, .iload 4, 0, 0) :: (3, .if_icmp .ne (11), 0, 0) :: (2, .iload 5, 0, 0) :: (3, .invokestatic 299, 183, 0) :: mt_LatticefitModel_reaches_114
def mt_LatticefitModel_reaches_134 : List ma_AI := (1, .iadd, 0, 0) :: (2, .istore 7, 0, 0) :: (2, .iload 6, 0, 0) :: (3, .ifCond .lt (53), 0, 0) :: (1, .aload_n 0, 0, 0) :: (3, .getfield 103, 11, 39) :: (2, .iload 6, 0, 0) :: (1, .baload, 0, 0) :: (3, .ifCond .ne (43), 0, 0) :: (1, .aload_n 0, 0, 0) :: (3, .getfield 97, 11, 37) :: (2, .iload 6, 0, 0) :: (1, .iaload, 0, 0) :: (3, .ifCond .lt (15), 0, 0) :: (1, .aload_n 0, 0, 0) :: (3, .getfield 97, 11, 37) :: (2, .iload 6, 0, 0) :: (1, .iaload, 0, 0) :: (2, .iload 7, 0, 0) :: (3, .if_icmp .le (21), 0, 0) :: []
def mt_LatticefitModel_reaches_202 : List ma_AI := (2, .istore 4, 0, 0) :: (1, .aload_n 0, 0, 0) :: (3, .getfield 103, 11, 39) :: (2, .iload 4, 0, 0) :: (1, .iconst (1), 0, 1) :: (1, .bastore, 0, 0) :: (3, .goto (-147), 0, 0) :: []
def mt_LatticefitModel_reaches_294 : List ma_AI := (3, .goto (8), 0, 0) :: []
def mt_LatticefitModel_reaches_284 : List ma_AI := (2, .iload 4, 0, 0) :: (3, .if_icmp .ne (11), 0, 0) :: (2, .iload 5, 0, 0) :: (3, .invokestatic 305, 236, 0) :: mt_LatticefitModel_reaches_294
def mb_LatticefitModel_reaches : ma_Tb := [(0, [true, true, true, true, false, false, false, false], (1, .iconst (0), 0, 0) :: (2, .istore 4, 0, 0) :: []),
  (3, [true, true, true, true, true, false, false, false], (2, .iload 4, 0, 0) :: (2, .bipush (49), 0, 49) :: (3, .if_icmp .ge (44), 0, 0) :: (1, .aload_n 0, 0, 0) :: (3, .getfield 97, 11, 37) :: (2, .iload 4, 0, 0) :: (1, .aload_n 0, 0, 0) :: (3, .getfield 85, 11, 33) :: (1, .iload_n 1, 0, 0) :: (2, .bipush (49), 0, 49) :: (1, .imul, 0, 0) :: (2, .iload 4, 0, 0) :: (1, .iadd, 0, 0) :: (1, .baload, 0, 0) :: (3, .ifCond .eq (7), 0, 0) :: (1, .iconst (0), 0, 0) :: (3, .goto (4), 0, 0) :: []),
  (35, [true, true, true, true, true, false, false, false], (1, .iconst (-1), 0, (-1)) :: []),
  (36, [true, true, true, true, true, false, false, false], (1, .iastore, 0, 0) :: (1, .aload_n 0, 0, 0) :: (3, .getfield 103, 11, 39) :: (2, .iload 4, 0, 0) :: (1, .iconst (0), 0, 0) :: (1, .bastore, 0, 0) :: (3, .iinc 4 (1), 0, 0) :: (3, .goto (-45), 0, 0) :: []),
  (51, [true, true, true, true, false, false, false, false], (1, .aload_n 0, 0, 0) :: (3, .invokevirtual 302, 235, 11) :: mt_LatticefitModel_reaches_55),
  (65, [true, true, true, true, true, false, false, false], (2, .iload 4, 0, 0) :: (1, .iload_n 2, 0, 0) :: (3, .if_icmp .eq (147), 0, 0) :: (1, .iconst (0), 0, 0) :: (2, .istore 5, 0, 0) :: []),
  (74, [true, true, true, true, true, true, false, false], (2, .iload 5, 0, 0) :: (2, .bipush (84), 0, 84) :: (3, .if_icmp .ge (120), 0, 0) :: (2, .iload 5, 0, 0) :: (3, .invokestatic 299, 183, 0) :: mt_LatticefitModel_reaches_86),
  (99, [true, true, true, true, true, true, false, false], (2, .iload 5, 0, 0) :: (3, .invokestatic 305, 236, 0) :: mt_LatticefitModel_reaches_104),
  (117, [true, true, true, true, true, true, false, false], (1, .iconst (-1), 0, (-1)) :: []),
  (118, [true, true, true, true, true, true, false, false], (2, .istore 6, 0, 0) :: (1, .aload_n 0, 0, 0) :: (3, .getfield 97, 11, 37) :: (2, .iload 4, 0, 0) :: (1, .iaload, 0, 0) :: (1, .aload_n 0, 0, 0) :: (2, .iload 5, 0, 0) :: (1, .iload_n 3, 0, 0) :: (3, .invokevirtual 308, 237, 11) :: mt_LatticefitModel_reaches_134),
  (174, [true, true, true, true, true, true, true, true], (1, .aload_n 0, 0, 0) :: (3, .getfield 97, 11, 37) :: (2, .iload 6, 0, 0) :: (2, .iload 7, 0, 0) :: (1, .iastore, 0, 0) :: (1, .aload_n 0, 0, 0) :: (3, .getfield 100, 11, 38) :: (2, .iload 6, 0, 0) :: (2, .iload 5, 0, 0) :: (1, .iastore, 0, 0) :: []),
  (192, [true, true, true, true, true, true, false, false], (3, .iinc 5 (1), 0, 0) :: (3, .goto (-121), 0, 0) :: []),
  (198, [true, true, true, true, false, false, false, false], (1, .aload_n 0, 0, 0) :: (3, .invokevirtual 302, 235, 11) :: mt_LatticefitModel_reaches_202),
  (215, [true, true, false, false, true, false, false, false], (1, .aload_n 0, 0, 0) :: (3, .getfield 85, 11, 33) :: (1, .iload_n 1, 0, 0) :: (2, .bipush (49), 0, 49) :: (1, .imul, 0, 0) :: (2, .iload 4, 0, 0) :: (1, .iadd, 0, 0) :: (1, .baload, 0, 0) :: (3, .ifCond .ne (80), 0, 0) :: (1, .aload_n 0, 0, 0) :: (3, .getfield 100, 11, 38) :: (2, .iload 4, 0, 0) :: (1, .iaload, 0, 0) :: (2, .istore 5, 0, 0) :: (1, .aload_n 0, 0, 0) :: (3, .getfield 85, 11, 33) :: (1, .iload_n 1, 0, 0) :: (2, .bipush (49), 0, 49) :: (1, .imul, 0, 0) :: (2, .iload 4, 0, 0) :: (1, .iadd, 0, 0) :: (1, .iconst (1), 0, 1) :: (1, .bastore, 0, 0) :: (1, .aload_n 0, 0, 0) :: (3, .getfield 88, 11, 34) :: (1, .iload_n 1, 0, 0) :: (2, .bipush (49), 0, 49) :: (1, .imul, 0, 0) :: (2, .iload 4, 0, 0) :: (1, .iadd, 0, 0) :: (2, .iload 5, 0, 0) :: (1, .iastore, 0, 0) :: (1, .aload_n 0, 0, 0) :: (3, .getfield 76, 11, 30) :: (1, .iload_n 1, 0, 0) :: (2, .bipush (84), 0, 84) :: (1, .imul, 0, 0) :: (2, .iload 5, 0, 0) :: (1, .iadd, 0, 0) :: (1, .iconst (1), 0, 1) :: (1, .bastore, 0, 0) :: (2, .iload 5, 0, 0) :: (3, .invokestatic 299, 183, 0) :: mt_LatticefitModel_reaches_284),
  (297, [true, true, false, false, false, true, false, false], (2, .iload 5, 0, 0) :: (3, .invokestatic 299, 183, 0) :: []),
  (302, [true, true, false, false, false, false, false, false], (2, .istore 4, 0, 0) :: (3, .goto (-89), 0, 0) :: []),
  (307, [false, false, false, false, false, false, false, false], (1, .return_, 0, 0) :: [])]
def mb_LatticefitModel_nearest : ma_Tb := [(0, [true, false, false], (1, .iconst (-1), 0, (-1)) :: (1, .istore_n 1, 0, 0) :: (1, .iconst (0), 0, 0) :: (1, .istore_n 2, 0, 0) :: []),
  (4, [true, true, true], (1, .iload_n 2, 0, 0) :: (2, .bipush (49), 0, 49) :: (3, .if_icmp .ge (52), 0, 0) :: (1, .aload_n 0, 0, 0) :: (3, .getfield 103, 11, 39) :: (1, .iload_n 2, 0, 0) :: (1, .baload, 0, 0) :: (3, .ifCond .ne (35), 0, 0) :: (1, .aload_n 0, 0, 0) :: (3, .getfield 97, 11, 37) :: (1, .iload_n 2, 0, 0) :: (1, .iaload, 0, 0) :: (3, .ifCond .lt (26), 0, 0) :: (1, .iload_n 1, 0, 0) :: (3, .ifCond .lt (18), 0, 0) :: (1, .aload_n 0, 0, 0) :: (3, .getfield 97, 11, 37) :: (1, .iload_n 2, 0, 0) :: (1, .iaload, 0, 0) :: (1, .aload_n 0, 0, 0) :: (3, .getfield 97, 11, 37) :: (1, .iload_n 1, 0, 0) :: (1, .iaload, 0, 0) :: (3, .if_icmp .ge (7), 0, 0) :: []),
  (47, [true, false, true], (1, .iload_n 2, 0, 0) :: (3, .goto (4), 0, 0) :: []),
  (51, [true, true, true], (1, .iload_n 1, 0, 0) :: []),
  (52, [true, false, true], (1, .istore_n 1, 0, 0) :: (3, .iinc 2 (1), 0, 0) :: (3, .goto (-52), 0, 0) :: []),
  (59, [false, true, false], (1, .iload_n 1, 0, 0) :: (1, .ireturn, 0, 0) :: [])]
def mt_LatticefitModel_high_4 : List ma_AI := (1, .iload_n 0, 0, 0) :: (2, .bipush (42), 0, 42) :: (3, .if_icmp .ge (8), 0, 0) :: (2, .bipush (7), 0, 7) :: (3, .goto (4), 0, 0) :: []
def mb_LatticefitModel_high : ma_Tb := [(0, [true], (1, .iload_n 0, 0, 0) :: (3, .invokestatic 299, 183, 0) :: mt_LatticefitModel_high_4),
  (15, [false], (1, .iconst (1), 0, 1) :: []),
  (16, [false], (1, .iadd, 0, 0) :: (1, .ireturn, 0, 0) :: [])]
def mb_LatticefitModel_tollOf : ma_Tb := [(0, [true, true, true], (1, .iconst (1), 0, 1) :: (1, .aload_n 0, 0, 0) :: (3, .getfield 94, 11, 36) :: (1, .iload_n 1, 0, 0) :: (1, .iaload, 0, 0) :: (1, .iadd, 0, 0) :: (1, .iconst (4), 0, 4) :: (1, .iload_n 2, 0, 0) :: (1, .imul, 0, 0) :: (1, .iconst (0), 0, 0) :: (1, .aload_n 0, 0, 0) :: (3, .getfield 91, 11, 35) :: (1, .iload_n 1, 0, 0) :: (1, .iaload, 0, 0) :: (1, .iconst (1), 0, 1) :: (1, .iadd, 0, 0) :: (1, .iconst (2), 0, 2) :: (1, .isub, 0, 0) :: (3, .invokestatic 188, 10002, 0) :: (1, .imul, 0, 0) :: (1, .iadd, 0, 0) :: (1, .ireturn, 0, 0) :: [])]
def mb_LatticefitModel_isRouted : ma_Tb := [(0, [true], (1, .aload_n 0, 0, 0) :: (1, .iconst (0), 0, 0) :: (3, .putfield 137, 11, 50) :: (1, .aload_n 0, 0, 0) :: (3, .getfield 162, 11, 27) :: (1, .ireturn, 0, 0) :: [])]
def mt_LatticefitModel_netsOn_7 : List ma_AI := (3, .ifCond .eq (7), 0, 0) :: (1, .iconst (0), 0, 0) :: (3, .goto (9), 0, 0) :: []
def mb_LatticefitModel_netsOn : ma_Tb := [(0, [true, true], (1, .aload_n 0, 0, 0) :: (1, .iload_n 1, 0, 0) :: (2, .bipush (84), 0, 84) :: (3, .invokevirtual 181, 195, 11) :: mt_LatticefitModel_netsOn_7),
  (14, [true, true], (1, .aload_n 0, 0, 0) :: (3, .getfield 91, 11, 35) :: (1, .iload_n 1, 0, 0) :: (1, .iaload, 0, 0) :: []),
  (20, [false, false], (1, .ireturn, 0, 0) :: [])]
def mt_LatticefitModel_wireOf_22 : List ma_AI := (3, .ifCond .ne (7), 0, 0) :: []
def mt_LatticefitModel_wireOf_12 : List ma_AI := (3, .ifCond .eq (13), 0, 0) :: (1, .iload_n 2, 0, 0) :: (1, .iconst (0), 0, 0) :: (2, .bipush (83), 0, 83) :: (3, .invokestatic 141, 191, 0) :: mt_LatticefitModel_wireOf_22
def mt_LatticefitModel_wireOf_34 : List ma_AI := (3, .ifCond .ne (23), 0, 0) :: (1, .aload_n 0, 0, 0) :: (1, .aload_n 0, 0, 0) :: (3, .getfield 162, 11, 27) :: (3, .ifCond .ne (7), 0, 0) :: (1, .iconst (1), 0, 1) :: (3, .goto (4), 0, 0) :: []
def mt_LatticefitModel_wireOf_54 : List ma_AI := (3, .ifCond .eq (5), 0, 0) :: []
def mt_LatticefitModel_wireOf_92 : List ma_AI := (3, .ifCond .eq (7), 0, 0) :: (1, .iconst (0), 0, 0) :: (3, .goto (9), 0, 0) :: []
def mb_LatticefitModel_wireOf : ma_Tb := [(0, [true, true, true], (1, .aload_n 0, 0, 0) :: (1, .iload_n 1, 0, 0) :: (1, .iconst (0), 0, 0) :: (1, .aload_n 0, 0, 0) :: (3, .getfield 149, 11, 8) :: (1, .iconst (1), 0, 1) :: (1, .isub, 0, 0) :: (3, .invokestatic 141, 191, 0) :: mt_LatticefitModel_wireOf_12),
  (25, [true, true, true], (1, .iconst (1), 0, 1) :: (3, .goto (4), 0, 0) :: []),
  (29, [true, true, true], (1, .iconst (0), 0, 0) :: []),
  (30, [true, true, true], (1, .iconst (1), 0, 1) :: (3, .invokevirtual 145, 186, 11) :: mt_LatticefitModel_wireOf_34),
  (49, [true, true, true], (1, .iconst (0), 0, 0) :: []),
  (50, [true, true, true], (1, .iconst (2), 0, 2) :: (3, .invokevirtual 145, 186, 11) :: mt_LatticefitModel_wireOf_54),
  (57, [false, false, false], (1, .iconst (0), 0, 0) :: (1, .ireturn, 0, 0) :: []),
  (59, [true, true, true], (1, .aload_n 0, 0, 0) :: (1, .aload_n 0, 0, 0) :: (3, .getfield 79, 11, 31) :: (1, .iload_n 1, 0, 0) :: (1, .baload, 0, 0) :: (3, .ifCond .eq (17), 0, 0) :: (1, .aload_n 0, 0, 0) :: (3, .getfield 76, 11, 30) :: (1, .iload_n 1, 0, 0) :: (2, .bipush (84), 0, 84) :: (1, .imul, 0, 0) :: (1, .iload_n 2, 0, 0) :: (1, .iadd, 0, 0) :: (1, .baload, 0, 0) :: (3, .ifCond .ne (7), 0, 0) :: []),
  (83, [true, true, true], (1, .iconst (1), 0, 1) :: (3, .goto (4), 0, 0) :: []),
  (87, [true, true, true], (1, .iconst (0), 0, 0) :: []),
  (88, [true, true, true], (1, .iconst (3), 0, 3) :: (3, .invokevirtual 145, 186, 11) :: mt_LatticefitModel_wireOf_92),
  (99, [true, true, true], (1, .aload_n 0, 0, 0) :: (1, .iload_n 1, 0, 0) :: (1, .iload_n 2, 0, 0) :: (3, .invokevirtual 318, 241, 11) :: []),
  (105, [false, false, false], (1, .ireturn, 0, 0) :: [])]
def mb_LatticefitModel_wire : ma_Tb := [(0, [true, true, true, false, false], (1, .iconst (0), 0, 0) :: (1, .istore_n 3, 0, 0) :: (1, .iconst (0), 0, 0) :: (2, .istore 4, 0, 0) :: []),
  (5, [true, true, true, true, true], (2, .iload 4, 0, 0) :: (1, .iload_n 1, 0, 0) :: (3, .if_icmp .ge (42), 0, 0) :: (1, .iload_n 3, 0, 0) :: (1, .aload_n 0, 0, 0) :: (3, .getfield 79, 11, 31) :: (2, .iload 4, 0, 0) :: (1, .baload, 0, 0) :: (3, .ifCond .eq (22), 0, 0) :: (1, .aload_n 0, 0, 0) :: (3, .getfield 76, 11, 30) :: (2, .iload 4, 0, 0) :: (2, .bipush (84), 0, 84) :: (1, .imul, 0, 0) :: (1, .iload_n 2, 0, 0) :: (1, .iadd, 0, 0) :: (1, .baload, 0, 0) :: (3, .ifCond .eq (7), 0, 0) :: (1, .iconst (1), 0, 1) :: (3, .goto (4), 0, 0) :: []),
  (41, [true, true, true, false, true], (1, .iconst (0), 0, 0) :: []),
  (42, [true, true, true, false, true], (1, .iadd, 0, 0) :: (1, .istore_n 3, 0, 0) :: (3, .iinc 4 (1), 0, 0) :: (3, .goto (-42), 0, 0) :: []),
  (50, [false, false, false, true, false], (1, .iload_n 3, 0, 0) :: (1, .ireturn, 0, 0) :: [])]
def mt_LatticefitModel_timeOf_9 : List ma_AI := (3, .ifCond .ne (23), 0, 0) :: (1, .aload_n 0, 0, 0) :: (1, .aload_n 0, 0, 0) :: (3, .getfield 162, 11, 27) :: (3, .ifCond .ne (7), 0, 0) :: (1, .iconst (1), 0, 1) :: (3, .goto (4), 0, 0) :: []
def mt_LatticefitModel_timeOf_29 : List ma_AI := (3, .ifCond .eq (5), 0, 0) :: []
def mt_LatticefitModel_timeOf_40 : List ma_AI := (3, .ifCond .eq (16), 0, 0) :: (1, .aload_n 0, 0, 0) :: (3, .getfield 49, 11, 16) :: (1, .iload_n 1, 0, 0) :: (1, .baload, 0, 0) :: (3, .ifCond .ne (7), 0, 0) :: (1, .iconst (1), 0, 1) :: (3, .goto (4), 0, 0) :: []
def mt_LatticefitModel_timeOf_61 : List ma_AI := (3, .ifCond .eq (7), 0, 0) :: (1, .iconst (0), 0, 0) :: (3, .goto (8), 0, 0) :: []
def mb_LatticefitModel_timeOf : ma_Tb := [(0, [true, true], (1, .aload_n 0, 0, 0) :: (1, .iload_n 1, 0, 0) :: (1, .aload_n 0, 0, 0) :: (3, .getfield 149, 11, 8) :: (3, .invokevirtual 181, 195, 11) :: mt_LatticefitModel_timeOf_9),
  (24, [true, true], (1, .iconst (0), 0, 0) :: []),
  (25, [true, true], (1, .iconst (2), 0, 2) :: (3, .invokevirtual 145, 186, 11) :: mt_LatticefitModel_timeOf_29),
  (32, [false, false], (1, .iconst (0), 0, 0) :: (1, .ireturn, 0, 0) :: []),
  (34, [true, true], (1, .aload_n 0, 0, 0) :: (1, .aload_n 0, 0, 0) :: (1, .iload_n 1, 0, 0) :: (3, .invokevirtual 210, 201, 11) :: mt_LatticefitModel_timeOf_40),
  (56, [true, true], (1, .iconst (0), 0, 0) :: []),
  (57, [true, true], (1, .iconst (3), 0, 3) :: (3, .invokevirtual 145, 186, 11) :: mt_LatticefitModel_timeOf_61),
  (68, [true, true], (1, .aload_n 0, 0, 0) :: (1, .iload_n 1, 0, 0) :: (3, .invokevirtual 321, 243, 11) :: []),
  (73, [false, false], (1, .ireturn, 0, 0) :: [])]
def mt_LatticefitModel_time_18 : List ma_AI := (3, .goto (4), 0, 0) :: []
def mt_LatticefitModel_time_5 : List ma_AI := (3, .ifCond .eq (16), 0, 0) :: (1, .aload_n 0, 0, 0) :: (1, .aload_n 0, 0, 0) :: (3, .getfield 46, 11, 15) :: (1, .iload_n 1, 0, 0) :: (1, .iaload, 0, 0) :: (3, .invokevirtual 327, 244, 11) :: mt_LatticefitModel_time_18
def mb_LatticefitModel_time : ma_Tb := [(0, [true, true], (1, .aload_n 0, 0, 0) :: (1, .iload_n 1, 0, 0) :: (3, .invokevirtual 210, 201, 11) :: mt_LatticefitModel_time_5),
  (21, [false, false], (1, .iconst (0), 0, 0) :: []),
  (22, [false, false], (1, .ireturn, 0, 0) :: [])]
def mt_LatticefitModel_tableTime_38 : List ma_AI := (3, .invokestatic 188, 10002, 0) :: (1, .istore_n 2, 0, 0) :: (3, .iinc 3 (1), 0, 0) :: (3, .goto (-41), 0, 0) :: []
def mt_LatticefitModel_tableTime_35 : List ma_AI := (3, .invokevirtual 324, 245, 11) :: mt_LatticefitModel_tableTime_38
def mb_LatticefitModel_tableTime : ma_Tb := [(0, [true, true, false, false], (1, .iconst (0), 0, 0) :: (1, .istore_n 2, 0, 0) :: (1, .iconst (0), 0, 0) :: (1, .istore_n 3, 0, 0) :: []),
  (4, [true, true, true, true], (1, .iload_n 3, 0, 0) :: (1, .aload_n 0, 0, 0) :: (3, .getfield 64, 11, 21) :: (1, .iload_n 1, 0, 0) :: (1, .iaload, 0, 0) :: (3, .if_icmp .ge (37), 0, 0) :: (1, .iload_n 2, 0, 0) :: (1, .aload_n 0, 0, 0) :: (1, .aload_n 0, 0, 0) :: (3, .getfield 67, 11, 22) :: (1, .iconst (4), 0, 4) :: (1, .iload_n 1, 0, 0) :: (1, .imul, 0, 0) :: (1, .iload_n 3, 0, 0) :: (1, .iadd, 0, 0) :: (1, .iaload, 0, 0) :: (1, .aload_n 0, 0, 0) :: (3, .getfield 58, 11, 19) :: (1, .iload_n 1, 0, 0) :: (1, .iaload, 0, 0) :: (3, .invokestatic 257, 222, 0) :: mt_LatticefitModel_tableTime_35),
  (48, [false, false, true, false], (1, .iload_n 2, 0, 0) :: (1, .iconst (3), 0, 3) :: (1, .iadd, 0, 0) :: (1, .ireturn, 0, 0) :: [])]
def mt_LatticefitModel_arrival_5 : List ma_AI := (1, .istore_n 3, 0, 0) :: (1, .iload_n 2, 0, 0) :: (2, .istore 4, 0, 0) :: []
def mt_LatticefitModel_arrival_53 : List ma_AI := (3, .goto (8), 0, 0) :: []
def mt_LatticefitModel_arrival_43 : List ma_AI := (2, .iload 4, 0, 0) :: (3, .if_icmp .ne (11), 0, 0) :: (2, .iload 5, 0, 0) :: (3, .invokestatic 305, 236, 0) :: mt_LatticefitModel_arrival_53
def mb_LatticefitModel_arrival : ma_Tb := [(0, [true, true, true, false, false, false], (1, .aload_n 0, 0, 0) :: (1, .iload_n 1, 0, 0) :: (3, .invokevirtual 321, 243, 11) :: mt_LatticefitModel_arrival_5),
  (9, [true, true, false, true, true, false], (1, .aload_n 0, 0, 0) :: (3, .getfield 88, 11, 34) :: (1, .iload_n 1, 0, 0) :: (2, .bipush (49), 0, 49) :: (1, .imul, 0, 0) :: (2, .iload 4, 0, 0) :: (1, .iadd, 0, 0) :: (1, .iaload, 0, 0) :: (3, .ifCond .lt (48), 0, 0) :: (1, .aload_n 0, 0, 0) :: (3, .getfield 88, 11, 34) :: (1, .iload_n 1, 0, 0) :: (2, .bipush (49), 0, 49) :: (1, .imul, 0, 0) :: (2, .iload 4, 0, 0) :: (1, .iadd, 0, 0) :: (1, .iaload, 0, 0) :: (2, .istore 5, 0, 0) :: (2, .iload 5, 0, 0) :: (3, .invokestatic 299, 183, 0) :: mt_LatticefitModel_arrival_43),
  (56, [true, true, false, true, false, true], (2, .iload 5, 0, 0) :: (3, .invokestatic 299, 183, 0) :: []),
  (61, [true, true, false, true, false, false], (2, .istore 4, 0, 0) :: (3, .iinc 3 (1), 0, 0) :: (3, .goto (-57), 0, 0) :: []),
  (69, [false, false, false, true, false, false], (1, .iload_n 3, 0, 0) :: (1, .ireturn, 0, 0) :: [])]
def mt_LatticefitModel_slowest_17 : List ma_AI := (3, .ifCond .eq (5), 0, 0) :: (1, .iconst (0), 0, 0) :: (1, .ireturn, 0, 0) :: []
def mt_LatticefitModel_slowest_49 : List ma_AI := (3, .invokestatic 188, 10002, 0) :: (1, .istore_n 1, 0, 0) :: (3, .iinc 2 (1), 0, 0) :: (3, .goto (-30), 0, 0) :: []
def mt_LatticefitModel_slowest_84 : List ma_AI := (3, .invokestatic 188, 10002, 0) :: (3, .goto (4), 0, 0) :: []
def mb_LatticefitModel_slowest : ma_Tb := [(0, [true, false, false], (1, .aload_n 0, 0, 0) :: (1, .aload_n 0, 0, 0) :: (3, .getfield 162, 11, 27) :: (3, .ifCond .ne (7), 0, 0) :: (1, .iconst (1), 0, 1) :: (3, .goto (4), 0, 0) :: []),
  (12, [true, false, false], (1, .iconst (0), 0, 0) :: []),
  (13, [true, false, false], (1, .iconst (1), 0, 1) :: (3, .invokevirtual 145, 186, 11) :: mt_LatticefitModel_slowest_17),
  (22, [true, false, false], (1, .iconst (0), 0, 0) :: (1, .istore_n 1, 0, 0) :: (1, .iconst (0), 0, 0) :: (1, .istore_n 2, 0, 0) :: []),
  (26, [true, true, true], (1, .iload_n 2, 0, 0) :: (1, .aload_n 0, 0, 0) :: (3, .getfield 185, 11, 11) :: (3, .if_icmp .ge (28), 0, 0) :: (1, .iload_n 1, 0, 0) :: (1, .aload_n 0, 0, 0) :: (1, .aload_n 0, 0, 0) :: (3, .getfield 29, 11, 6) :: (1, .iload_n 2, 0, 0) :: (1, .iaload, 0, 0) :: (2, .bipush (42), 0, 42) :: (1, .iload_n 2, 0, 0) :: (1, .iadd, 0, 0) :: (3, .invokevirtual 324, 245, 11) :: mt_LatticefitModel_slowest_49),
  (59, [true, true, false], (1, .iconst (0), 0, 0) :: (1, .istore_n 2, 0, 0) :: []),
  (61, [true, true, true], (1, .iload_n 2, 0, 0) :: (1, .aload_n 0, 0, 0) :: (3, .getfield 231, 11, 25) :: (3, .if_icmp .ge (32), 0, 0) :: (1, .aload_n 0, 0, 0) :: (3, .getfield 55, 11, 18) :: (1, .iload_n 2, 0, 0) :: (1, .iaload, 0, 0) :: (3, .ifCond .lt (15), 0, 0) :: (1, .iload_n 1, 0, 0) :: (1, .aload_n 0, 0, 0) :: (1, .iload_n 2, 0, 0) :: (3, .invokevirtual 327, 244, 11) :: mt_LatticefitModel_slowest_84),
  (90, [true, true, true], (1, .iload_n 1, 0, 0) :: []),
  (91, [true, false, true], (1, .istore_n 1, 0, 0) :: (3, .iinc 2 (1), 0, 0) :: (3, .goto (-34), 0, 0) :: []),
  (98, [false, true, false], (1, .iload_n 1, 0, 0) :: (1, .ireturn, 0, 0) :: [])]
def mt_LatticefitModel_worstStretch_17 : List ma_AI := (3, .ifCond .eq (5), 0, 0) :: (1, .dconst 0, 0, 0) :: (1, .dreturn, 0, 0) :: []
def mt_LatticefitModel_worstStretch_30 : List ma_AI := (1, .iconst (0), 0, 0) :: (1, .istore_n 3, 0, 0) :: []
def mt_LatticefitModel_worstStretch_69 : List ma_AI := (1, .i2d, 0, 0) :: (1, .ddiv, 0, 0) :: (3, .invokestatic 335, 10004, 0) :: (1, .dstore_n 1, 0, 0) :: []
def mt_LatticefitModel_worstStretch_63 : List ma_AI := (1, .i2d, 0, 0) :: (1, .aload_n 0, 0, 0) :: (1, .iload_n 3, 0, 0) :: (3, .invokevirtual 270, 224, 11) :: mt_LatticefitModel_worstStretch_69
def mt_LatticefitModel_worstStretch_54 : List ma_AI := (3, .ifCond .le (21), 0, 0) :: (1, .dload_n 1, 0, 0) :: (1, .aload_n 0, 0, 0) :: (1, .iload_n 3, 0, 0) :: (3, .invokevirtual 332, 248, 11) :: mt_LatticefitModel_worstStretch_63
def mt_LatticefitModel_worstStretch_97 : List ma_AI := (3, .ifCond .eq (7), 0, 0) :: (1, .dconst 0, 0, 0) :: (3, .goto (4), 0, 0) :: []
def mb_LatticefitModel_worstStretch : ma_Tb := [(0, [true, false, false, false], (1, .aload_n 0, 0, 0) :: (1, .aload_n 0, 0, 0) :: (3, .getfield 162, 11, 27) :: (3, .ifCond .ne (7), 0, 0) :: (1, .iconst (1), 0, 1) :: (3, .goto (4), 0, 0) :: []),
  (12, [true, false, false, false], (1, .iconst (0), 0, 0) :: []),
  (13, [true, false, false, false], (1, .iconst (1), 0, 1) :: (3, .invokevirtual 145, 186, 11) :: mt_LatticefitModel_worstStretch_17),
  (22, [true, false, false, false], (3, .ldc2_w 330, 1, 13830554455654793216) :: (1, .dstore_n 1, 0, 0) :: (1, .aload_n 0, 0, 0) :: (3, .invokevirtual 267, 221, 11) :: mt_LatticefitModel_worstStretch_30),
  (32, [true, true, false, true], (1, .iload_n 3, 0, 0) :: (1, .aload_n 0, 0, 0) :: (3, .getfield 149, 11, 8) :: (3, .if_icmp .ge (44), 0, 0) :: (1, .aload_n 0, 0, 0) :: (3, .getfield 79, 11, 31) :: (1, .iload_n 3, 0, 0) :: (1, .baload, 0, 0) :: (3, .ifCond .eq (29), 0, 0) :: (1, .aload_n 0, 0, 0) :: (1, .iload_n 3, 0, 0) :: (3, .invokevirtual 270, 224, 11) :: mt_LatticefitModel_worstStretch_54),
  (75, [true, true, false, true], (3, .iinc 3 (1), 0, 0) :: (3, .goto (-46), 0, 0) :: []),
  (81, [true, true, false, false], (1, .aload_n 0, 0, 0) :: (1, .dload_n 1, 0, 0) :: (1, .dconst 0, 0, 0) :: (1, .dcmp .g, 0, 0) :: (3, .ifCond .ge (7), 0, 0) :: (1, .iconst (1), 0, 1) :: (3, .goto (4), 0, 0) :: []),
  (92, [false, true, false, false], (1, .iconst (0), 0, 0) :: []),
  (93, [false, true, false, false], (1, .iconst (2), 0, 2) :: (3, .invokevirtual 145, 186, 11) :: mt_LatticefitModel_worstStretch_97),
  (104, [false, true, false, false], (1, .dload_n 1, 0, 0) :: []),
  (105, [false, false, false, false], (1, .dreturn, 0, 0) :: [])]
def mb_LatticefitModel_edgesOf : ma_Tb := [(0, [true, true, false, false], (1, .iconst (0), 0, 0) :: (1, .istore_n 2, 0, 0) :: (1, .iconst (0), 0, 0) :: (1, .istore_n 3, 0, 0) :: []),
  (4, [true, true, true, true], (1, .iload_n 3, 0, 0) :: (2, .bipush (84), 0, 84) :: (3, .if_icmp .ge (31), 0, 0) :: (1, .iload_n 2, 0, 0) :: (1, .aload_n 0, 0, 0) :: (3, .getfield 76, 11, 30) :: (1, .iload_n 1, 0, 0) :: (2, .bipush (84), 0, 84) :: (1, .imul, 0, 0) :: (1, .iload_n 3, 0, 0) :: (1, .iadd, 0, 0) :: (1, .baload, 0, 0) :: (3, .ifCond .eq (7), 0, 0) :: (1, .iconst (1), 0, 1) :: (3, .goto (4), 0, 0) :: []),
  (29, [true, true, false, true], (1, .iconst (0), 0, 0) :: []),
  (30, [true, true, false, true], (1, .iadd, 0, 0) :: (1, .istore_n 2, 0, 0) :: (3, .iinc 3 (1), 0, 0) :: (3, .goto (-31), 0, 0) :: []),
  (38, [false, false, true, false], (1, .iload_n 2, 0, 0) :: (1, .ireturn, 0, 0) :: [])]
def mt_LatticefitModel_build_17 : List ma_AI := (3, .ifCond .eq (5), 0, 0) :: (1, .iconst (0), 0, 0) :: (1, .ireturn, 0, 0) :: []
def mt_LatticefitModel_build_136 : List ma_AI := (1, .iastore, 0, 0) :: (3, .iinc 3 (1), 0, 0) :: (3, .goto (-46), 0, 0) :: []
def mt_LatticefitModel_build_133 : List ma_AI := (3, .invokevirtual 341, 250, 11) :: mt_LatticefitModel_build_136
def mt_LatticefitModel_build_273 : List ma_AI := (3, .goto (7), 0, 0) :: []
def mt_LatticefitModel_build_265 : List ma_AI := (1, .iload_n 2, 0, 0) :: (3, .if_icmp .ne (10), 0, 0) :: (1, .iload_n 3, 0, 0) :: (3, .invokestatic 305, 236, 0) :: mt_LatticefitModel_build_273
def mt_LatticefitModel_build_257 : List ma_AI := (1, .iadd, 0, 0) :: (1, .iaload, 0, 0) :: (1, .aload_n 0, 0, 0) :: (1, .iload_n 1, 0, 0) :: (1, .iload_n 3, 0, 0) :: (3, .invokestatic 299, 183, 0) :: mt_LatticefitModel_build_265
def mt_LatticefitModel_build_283 : List ma_AI := (1, .iastore, 0, 0) :: []
def mt_LatticefitModel_build_331 : List ma_AI := (1, .iastore, 0, 0) :: (3, .iinc 2 (1), 0, 0) :: (3, .goto (-35), 0, 0) :: []
def mb_LatticefitModel_build : ma_Tb := [(0, [true, false, false, false], (1, .aload_n 0, 0, 0) :: (1, .aload_n 0, 0, 0) :: (3, .getfield 162, 11, 27) :: (3, .ifCond .ne (7), 0, 0) :: (1, .iconst (1), 0, 1) :: (3, .goto (4), 0, 0) :: []),
  (12, [true, false, false, false], (1, .iconst (0), 0, 0) :: []),
  (13, [true, false, false, false], (1, .iconst (1), 0, 1) :: (3, .invokevirtual 145, 186, 11) :: mt_LatticefitModel_build_17),
  (22, [true, false, false, false], (1, .iconst (0), 0, 0) :: (1, .istore_n 1, 0, 0) :: []),
  (24, [true, true, false, false], (1, .iload_n 1, 0, 0) :: (3, .sipush (504), 0, 504) :: (3, .if_icmp .ge (16), 0, 0) :: (1, .aload_n 0, 0, 0) :: (3, .getfield 106, 11, 40) :: (1, .iload_n 1, 0, 0) :: (1, .iconst (0), 0, 0) :: (1, .iastore, 0, 0) :: (3, .iinc 1 (1), 0, 0) :: (3, .goto (-17), 0, 0) :: []),
  (44, [true, false, false, false], (1, .iconst (0), 0, 0) :: (1, .istore_n 1, 0, 0) :: []),
  (46, [true, true, false, false], (1, .iload_n 1, 0, 0) :: (1, .aload_n 0, 0, 0) :: (3, .getfield 231, 11, 25) :: (3, .if_icmp .ge (146), 0, 0) :: (2, .bipush (36), 0, 36) :: (1, .aload_n 0, 0, 0) :: (3, .getfield 58, 11, 19) :: (1, .iload_n 1, 0, 0) :: (1, .iaload, 0, 0) :: (2, .bipush (6), 0, 6) :: (1, .idiv, 0, 0) :: (1, .imul, 0, 0) :: (2, .bipush (6), 0, 6) :: (1, .aload_n 0, 0, 0) :: (3, .getfield 58, 11, 19) :: (1, .iload_n 1, 0, 0) :: (1, .iaload, 0, 0) :: (2, .bipush (6), 0, 6) :: (1, .irem, 0, 0) :: (1, .imul, 0, 0) :: (1, .iadd, 0, 0) :: (1, .istore_n 2, 0, 0) :: (1, .aload_n 0, 0, 0) :: (3, .getfield 106, 11, 40) :: (1, .iload_n 2, 0, 0) :: (1, .aload_n 0, 0, 0) :: (3, .getfield 61, 11, 20) :: (1, .iload_n 1, 0, 0) :: (1, .iaload, 0, 0) :: (1, .iastore, 0, 0) :: (1, .iconst (0), 0, 0) :: (1, .istore_n 3, 0, 0) :: []),
  (94, [true, true, true, true], (1, .iload_n 3, 0, 0) :: (1, .aload_n 0, 0, 0) :: (3, .getfield 64, 11, 21) :: (1, .iload_n 1, 0, 0) :: (1, .iaload, 0, 0) :: (3, .if_icmp .ge (42), 0, 0) :: (1, .aload_n 0, 0, 0) :: (3, .getfield 106, 11, 40) :: (1, .iload_n 2, 0, 0) :: (1, .iconst (1), 0, 1) :: (1, .iadd, 0, 0) :: (1, .iload_n 3, 0, 0) :: (1, .iadd, 0, 0) :: (1, .aload_n 0, 0, 0) :: (1, .aload_n 0, 0, 0) :: (3, .getfield 67, 11, 22) :: (1, .iconst (4), 0, 4) :: (1, .iload_n 1, 0, 0) :: (1, .imul, 0, 0) :: (1, .iload_n 3, 0, 0) :: (1, .iadd, 0, 0) :: (1, .iaload, 0, 0) :: (1, .aload_n 0, 0, 0) :: (3, .getfield 58, 11, 19) :: (1, .iload_n 1, 0, 0) :: (1, .iaload, 0, 0) :: (3, .invokestatic 257, 222, 0) :: mt_LatticefitModel_build_133),
  (143, [true, true, true, false], (1, .aload_n 0, 0, 0) :: (3, .getfield 55, 11, 18) :: (1, .iload_n 1, 0, 0) :: (1, .iaload, 0, 0) :: (1, .istore_n 3, 0, 0) :: (1, .aload_n 0, 0, 0) :: (3, .getfield 106, 11, 40) :: (1, .iload_n 2, 0, 0) :: (1, .iconst (5), 0, 5) :: (1, .iadd, 0, 0) :: (1, .iload_n 3, 0, 0) :: (3, .ifCond .ge (7), 0, 0) :: (1, .iconst (0), 0, 0) :: (3, .goto (28), 0, 0) :: []),
  (165, [true, true, false, true], (1, .iconst (1), 0, 1) :: (1, .aload_n 0, 0, 0) :: (3, .getfield 32, 11, 7) :: (1, .iload_n 3, 0, 0) :: (1, .baload, 0, 0) :: (3, .ifCond .eq (7), 0, 0) :: (1, .iconst (2), 0, 2) :: (3, .goto (4), 0, 0) :: []),
  (179, [true, true, false, true], (1, .iconst (0), 0, 0) :: []),
  (180, [true, true, false, true], (1, .iadd, 0, 0) :: (1, .iconst (4), 0, 4) :: (1, .aload_n 0, 0, 0) :: (3, .getfield 20, 11, 3) :: (1, .iload_n 3, 0, 0) :: (1, .iaload, 0, 0) :: (1, .imul, 0, 0) :: (1, .iadd, 0, 0) :: []),
  (190, [true, true, false, false], (1, .iastore, 0, 0) :: (3, .iinc 1 (1), 0, 0) :: (3, .goto (-148), 0, 0) :: []),
  (197, [true, false, false, false], (1, .iconst (0), 0, 0) :: (1, .istore_n 1, 0, 0) :: []),
  (199, [true, true, false, false], (1, .iload_n 1, 0, 0) :: (1, .aload_n 0, 0, 0) :: (3, .getfield 149, 11, 8) :: (3, .if_icmp .ge (92), 0, 0) :: (1, .iconst (0), 0, 0) :: (1, .istore_n 2, 0, 0) :: []),
  (209, [true, true, true, false], (1, .iload_n 2, 0, 0) :: (2, .bipush (49), 0, 49) :: (3, .if_icmp .ge (78), 0, 0) :: (1, .aload_n 0, 0, 0) :: (3, .getfield 79, 11, 31) :: (1, .iload_n 1, 0, 0) :: (1, .baload, 0, 0) :: (3, .ifCond .eq (69), 0, 0) :: (1, .aload_n 0, 0, 0) :: (3, .getfield 88, 11, 34) :: (1, .iload_n 1, 0, 0) :: (2, .bipush (49), 0, 49) :: (1, .imul, 0, 0) :: (1, .iload_n 2, 0, 0) :: (1, .iadd, 0, 0) :: (1, .iaload, 0, 0) :: (1, .istore_n 3, 0, 0) :: (1, .iload_n 3, 0, 0) :: (3, .ifCond .lt (47), 0, 0) :: (1, .aload_n 0, 0, 0) :: (3, .getfield 106, 11, 40) :: (1, .aload_n 0, 0, 0) :: (3, .getfield 130, 11, 48) :: (1, .iconst (2), 0, 2) :: (1, .iload_n 3, 0, 0) :: (1, .imul, 0, 0) :: (1, .aload_n 0, 0, 0) :: (1, .iload_n 1, 0, 0) :: (1, .iload_n 3, 0, 0) :: (3, .invokevirtual 318, 241, 11) :: mt_LatticefitModel_build_257),
  (276, [true, true, true, true], (1, .iload_n 3, 0, 0) :: (3, .invokestatic 299, 183, 0) :: []),
  (280, [true, true, true, false], (3, .invokevirtual 341, 250, 11) :: mt_LatticefitModel_build_283),
  (284, [true, true, true, false], (3, .iinc 2 (1), 0, 0) :: (3, .goto (-78), 0, 0) :: []),
  (290, [true, true, false, false], (3, .iinc 1 (1), 0, 0) :: (3, .goto (-94), 0, 0) :: []),
  (296, [true, false, false, false], (1, .iconst (0), 0, 0) :: (1, .istore_n 1, 0, 0) :: (1, .iconst (0), 0, 0) :: (1, .istore_n 2, 0, 0) :: []),
  (300, [true, true, true, false], (1, .iload_n 2, 0, 0) :: (1, .aload_n 0, 0, 0) :: (3, .getfield 185, 11, 11) :: (3, .if_icmp .ge (33), 0, 0) :: (1, .aload_n 0, 0, 0) :: (3, .getfield 106, 11, 40) :: (3, .sipush (468), 0, 468) :: (1, .iload_n 2, 0, 0) :: (1, .iadd, 0, 0) :: (1, .aload_n 0, 0, 0) :: (1, .aload_n 0, 0, 0) :: (3, .getfield 29, 11, 6) :: (1, .iload_n 2, 0, 0) :: (1, .iaload, 0, 0) :: (2, .bipush (42), 0, 42) :: (1, .iload_n 2, 0, 0) :: (1, .iadd, 0, 0) :: (3, .invokevirtual 341, 250, 11) :: mt_LatticefitModel_build_331),
  (338, [true, true, false, false], (1, .iconst (0), 0, 0) :: (1, .istore_n 2, 0, 0) :: []),
  (340, [true, true, true, false], (1, .iload_n 2, 0, 0) :: (3, .sipush (504), 0, 504) :: (3, .if_icmp .ge (26), 0, 0) :: (1, .iload_n 1, 0, 0) :: (1, .aload_n 0, 0, 0) :: (3, .getfield 106, 11, 40) :: (1, .iload_n 2, 0, 0) :: (1, .iaload, 0, 0) :: (3, .ifCond .ne (7), 0, 0) :: (1, .iconst (0), 0, 0) :: (3, .goto (4), 0, 0) :: []),
  (361, [true, false, true, false], (1, .iconst (1), 0, 1) :: []),
  (362, [true, false, true, false], (1, .iadd, 0, 0) :: (1, .istore_n 1, 0, 0) :: (3, .iinc 2 (1), 0, 0) :: (3, .goto (-27), 0, 0) :: []),
  (370, [true, true, false, false], (1, .aload_n 0, 0, 0) :: (1, .iconst (1), 0, 1) :: (3, .putfield 165, 11, 28) :: (1, .aload_n 0, 0, 0) :: (1, .iconst (0), 0, 0) :: (3, .putfield 168, 11, 29) :: (1, .iload_n 1, 0, 0) :: (1, .ireturn, 0, 0) :: [])]
def mt_LatticefitModel_codeAt_21 : List ma_AI := (3, .goto (15), 0, 0) :: []
def mt_LatticefitModel_codeAt_35 : List ma_AI := (1, .iadd, 0, 0) :: []
def mb_LatticefitModel_codeAt : ma_Tb := [(0, [true, true, true, false], (1, .aload_n 0, 0, 0) :: (3, .getfield 88, 11, 34) :: (1, .iload_n 1, 0, 0) :: (2, .bipush (49), 0, 49) :: (1, .imul, 0, 0) :: (1, .iload_n 2, 0, 0) :: (1, .iadd, 0, 0) :: (1, .iaload, 0, 0) :: (1, .istore_n 3, 0, 0) :: (1, .iload_n 3, 0, 0) :: (3, .ifCond .ge (11), 0, 0) :: (1, .aload_n 0, 0, 0) :: (1, .iload_n 1, 0, 0) :: (3, .invokevirtual 338, 251, 11) :: mt_LatticefitModel_codeAt_21),
  (24, [true, true, false, true], (1, .iconst (1), 0, 1) :: (1, .iconst (2), 0, 2) :: (1, .iload_n 3, 0, 0) :: (1, .imul, 0, 0) :: (1, .iadd, 0, 0) :: (1, .aload_n 0, 0, 0) :: (1, .iload_n 1, 0, 0) :: (1, .iload_n 3, 0, 0) :: (3, .invokevirtual 318, 241, 11) :: mt_LatticefitModel_codeAt_35),
  (36, [false, false, false, false], (1, .ireturn, 0, 0) :: [])]
def mb_LatticefitModel_sourceCode : ma_Tb := [(0, [true, true], (1, .aload_n 0, 0, 0) :: (3, .getfield 9, 11, 0) :: (1, .iload_n 1, 0, 0) :: (1, .caload, 0, 0) :: (2, .bipush (105), 0, 105) :: (3, .if_icmp .ne (16), 0, 0) :: (3, .sipush (300), 0, 300) :: (1, .aload_n 0, 0, 0) :: (3, .getfield 26, 11, 5) :: (1, .iload_n 1, 0, 0) :: (1, .iaload, 0, 0) :: (1, .iadd, 0, 0) :: (3, .goto (37), 0, 0) :: []),
  (24, [true, true], (1, .aload_n 0, 0, 0) :: (3, .getfield 9, 11, 0) :: (1, .iload_n 1, 0, 0) :: (1, .caload, 0, 0) :: (2, .bipush (114), 0, 114) :: (3, .if_icmp .ne (9), 0, 0) :: (3, .sipush (201), 0, 201) :: (3, .goto (6), 0, 0) :: []),
  (41, [true, true], (3, .sipush (200), 0, 200) :: []),
  (44, [true, true], (1, .iconst (2), 0, 2) :: (1, .aload_n 0, 0, 0) :: (3, .getfield 58, 11, 19) :: (1, .aload_n 0, 0, 0) :: (3, .getfield 46, 11, 15) :: (1, .iload_n 1, 0, 0) :: (1, .iaload, 0, 0) :: (1, .iaload, 0, 0) :: (1, .imul, 0, 0) :: (1, .iadd, 0, 0) :: []),
  (58, [false, false], (1, .ireturn, 0, 0) :: [])]
def mt_LatticefitModel_wordAt_7 : List ma_AI := (3, .ifCond .ne (23), 0, 0) :: (1, .aload_n 0, 0, 0) :: (1, .aload_n 0, 0, 0) :: (3, .getfield 165, 11, 28) :: (3, .ifCond .ne (7), 0, 0) :: (1, .iconst (1), 0, 1) :: (3, .goto (4), 0, 0) :: []
def mt_LatticefitModel_wordAt_27 : List ma_AI := (3, .ifCond .eq (5), 0, 0) :: []
def mt_LatticefitModel_wordAt_44 : List ma_AI := (3, .ifCond .ne (7), 0, 0) :: (1, .iconst (1), 0, 1) :: (3, .goto (4), 0, 0) :: []
def mt_LatticefitModel_wordAt_39 : List ma_AI := (1, .iconst (1), 0, 1) :: (1, .isub, 0, 0) :: (3, .invokestatic 141, 191, 0) :: mt_LatticefitModel_wordAt_44
def mt_LatticefitModel_wordAt_56 : List ma_AI := (3, .ifCond .eq (7), 0, 0) :: (1, .iconst (0), 0, 0) :: (3, .goto (14), 0, 0) :: []
def mb_LatticefitModel_wordAt : ma_Tb := [(0, [true, true, true], (1, .aload_n 0, 0, 0) :: (1, .iload_n 1, 0, 0) :: (2, .bipush (14), 0, 14) :: (3, .invokevirtual 181, 195, 11) :: mt_LatticefitModel_wordAt_7),
  (22, [true, true, true], (1, .iconst (0), 0, 0) :: []),
  (23, [true, true, true], (1, .iconst (2), 0, 2) :: (3, .invokevirtual 145, 186, 11) :: mt_LatticefitModel_wordAt_27),
  (30, [false, false, false], (1, .iconst (0), 0, 0) :: (1, .ireturn, 0, 0) :: []),
  (32, [true, true, true], (1, .aload_n 0, 0, 0) :: (1, .iload_n 2, 0, 0) :: (1, .iconst (0), 0, 0) :: (1, .iload_n 1, 0, 0) :: (3, .invokestatic 344, 253, 0) :: mt_LatticefitModel_wordAt_39),
  (51, [true, true, true], (1, .iconst (0), 0, 0) :: []),
  (52, [true, true, true], (1, .iconst (3), 0, 3) :: (3, .invokevirtual 145, 186, 11) :: mt_LatticefitModel_wordAt_56),
  (63, [true, true, true], (1, .aload_n 0, 0, 0) :: (3, .getfield 106, 11, 40) :: (2, .bipush (36), 0, 36) :: (1, .iload_n 1, 0, 0) :: (1, .imul, 0, 0) :: (1, .iload_n 2, 0, 0) :: (1, .iadd, 0, 0) :: (1, .iaload, 0, 0) :: []),
  (74, [false, false, false], (1, .ireturn, 0, 0) :: [])]
def mb_LatticefitModel_words : ma_Tb := [(0, [true], (1, .iload_n 0, 0, 0) :: (2, .bipush (6), 0, 6) :: (3, .if_icmp .ge (8), 0, 0) :: (2, .bipush (36), 0, 36) :: (3, .goto (27), 0, 0) :: []),
  (11, [true], (1, .iload_n 0, 0, 0) :: (2, .bipush (12), 0, 12) :: (3, .if_icmp .ge (8), 0, 0) :: (2, .bipush (26), 0, 26) :: (3, .goto (16), 0, 0) :: []),
  (22, [true], (1, .iload_n 0, 0, 0) :: (2, .bipush (12), 0, 12) :: (3, .if_icmp .ne (8), 0, 0) :: (2, .bipush (12), 0, 12) :: (3, .goto (5), 0, 0) :: []),
  (33, [false], (2, .bipush (6), 0, 6) :: []),
  (35, [false], (1, .ireturn, 0, 0) :: [])]
def mt_LatticefitModel_check_7 : List ma_AI := (3, .ifCond .ne (23), 0, 0) :: (1, .aload_n 0, 0, 0) :: (1, .aload_n 0, 0, 0) :: (3, .getfield 165, 11, 28) :: (3, .ifCond .ne (7), 0, 0) :: (1, .iconst (1), 0, 1) :: (3, .goto (4), 0, 0) :: []
def mt_LatticefitModel_check_27 : List ma_AI := (3, .ifCond .eq (7), 0, 0) :: []
def mb_LatticefitModel_check : ma_Tb := [(0, [true, true], (1, .aload_n 0, 0, 0) :: (1, .iload_n 1, 0, 0) :: (2, .bipush (14), 0, 14) :: (3, .invokevirtual 181, 195, 11) :: mt_LatticefitModel_check_7),
  (22, [true, true], (1, .iconst (0), 0, 0) :: []),
  (23, [true, true], (1, .iconst (2), 0, 2) :: (3, .invokevirtual 145, 186, 11) :: mt_LatticefitModel_check_27),
  (30, [false, false], (1, .iconst (0), 0, 0) :: (3, .goto (11), 0, 0) :: []),
  (34, [true, true], (1, .aload_n 0, 0, 0) :: (3, .getfield 106, 11, 40) :: (1, .iload_n 1, 0, 0) :: (3, .invokestatic 351, 255, 0) :: []),
  (42, [false, false], (1, .ireturn, 0, 0) :: [])]
def mt_LatticefitModel_checkOf_11 : List ma_AI := (3, .if_icmp .ge (30), 0, 0) :: (3, .ldc2_w 347, 0, 31) :: (1, .lload_n 2, 0, 0) :: (1, .lmul, 0, 0) :: (1, .aload_n 0, 0, 0) :: (2, .bipush (36), 0, 36) :: (1, .iload_n 1, 0, 0) :: (1, .imul, 0, 0) :: (2, .iload 4, 0, 0) :: (1, .iadd, 0, 0) :: (1, .iaload, 0, 0) :: (1, .i2l, 0, 0) :: (1, .ladd, 0, 0) :: (3, .ldc2_w 349, 0, 65521) :: (1, .lrem, 0, 0) :: (1, .lstore_n 2, 0, 0) :: (3, .iinc 4 (1), 0, 0) :: (3, .goto (-33), 0, 0) :: []
def mb_LatticefitModel_checkOf : ma_Tb := [(0, [true, true, false, false, false], (1, .lconst 1, 0, 1) :: (1, .lstore_n 2, 0, 0) :: (1, .iconst (0), 0, 0) :: (2, .istore 4, 0, 0) :: []),
  (5, [true, true, true, false, true], (2, .iload 4, 0, 0) :: (1, .iload_n 1, 0, 0) :: (3, .invokestatic 344, 253, 0) :: mt_LatticefitModel_checkOf_11),
  (41, [false, false, true, false, false], (1, .lload_n 2, 0, 0) :: (1, .l2i, 0, 0) :: (1, .ireturn, 0, 0) :: [])]
def mt_LatticefitModel_start_17 : List ma_AI := (3, .ifCond .eq (5), 0, 0) :: (1, .iconst (0), 0, 0) :: (1, .ireturn, 0, 0) :: []
def mb_LatticefitModel_start : ma_Tb := [(0, [true, false], (1, .aload_n 0, 0, 0) :: (1, .aload_n 0, 0, 0) :: (3, .getfield 165, 11, 28) :: (3, .ifCond .ne (7), 0, 0) :: (1, .iconst (1), 0, 1) :: (3, .goto (4), 0, 0) :: []),
  (12, [true, false], (1, .iconst (0), 0, 0) :: []),
  (13, [true, false], (1, .iconst (1), 0, 1) :: (3, .invokevirtual 145, 186, 11) :: mt_LatticefitModel_start_17),
  (22, [true, false], (1, .iconst (0), 0, 0) :: (1, .istore_n 1, 0, 0) :: []),
  (24, [true, true], (1, .iload_n 1, 0, 0) :: (3, .sipush (504), 0, 504) :: (3, .if_icmp .ge (21), 0, 0) :: (1, .aload_n 0, 0, 0) :: (3, .getfield 109, 11, 41) :: (1, .iload_n 1, 0, 0) :: (1, .aload_n 0, 0, 0) :: (3, .getfield 106, 11, 40) :: (1, .iload_n 1, 0, 0) :: (1, .iaload, 0, 0) :: (1, .iastore, 0, 0) :: (3, .iinc 1 (1), 0, 0) :: (3, .goto (-22), 0, 0) :: []),
  (49, [true, false], (1, .iconst (0), 0, 0) :: (1, .istore_n 1, 0, 0) :: []),
  (51, [true, true], (1, .iload_n 1, 0, 0) :: (2, .bipush (36), 0, 36) :: (3, .if_icmp .ge (62), 0, 0) :: (1, .aload_n 0, 0, 0) :: (3, .getfield 115, 11, 43) :: (1, .iload_n 1, 0, 0) :: (1, .aload_n 0, 0, 0) :: (3, .getfield 70, 11, 23) :: (1, .iload_n 1, 0, 0) :: (1, .iaload, 0, 0) :: (3, .ifCond .lt (40), 0, 0) :: (1, .aload_n 0, 0, 0) :: (3, .getfield 55, 11, 18) :: (1, .aload_n 0, 0, 0) :: (3, .getfield 70, 11, 23) :: (1, .iload_n 1, 0, 0) :: (1, .iaload, 0, 0) :: (1, .iaload, 0, 0) :: (3, .ifCond .lt (26), 0, 0) :: (1, .aload_n 0, 0, 0) :: (3, .getfield 32, 11, 7) :: (1, .aload_n 0, 0, 0) :: (3, .getfield 55, 11, 18) :: (1, .aload_n 0, 0, 0) :: (3, .getfield 70, 11, 23) :: (1, .iload_n 1, 0, 0) :: (1, .iaload, 0, 0) :: (1, .iaload, 0, 0) :: (1, .baload, 0, 0) :: (3, .ifCond .eq (7), 0, 0) :: (1, .iconst (1), 0, 1) :: (3, .goto (4), 0, 0) :: []),
  (108, [true, true], (1, .iconst (0), 0, 0) :: []),
  (109, [true, true], (1, .bastore, 0, 0) :: (3, .iinc 1 (1), 0, 0) :: (3, .goto (-62), 0, 0) :: []),
  (116, [true, false], (1, .iconst (0), 0, 0) :: (1, .istore_n 1, 0, 0) :: []),
  (118, [true, true], (1, .iload_n 1, 0, 0) :: (1, .aload_n 0, 0, 0) :: (3, .getfield 149, 11, 8) :: (3, .if_icmp .ge (21), 0, 0) :: (1, .aload_n 0, 0, 0) :: (3, .getfield 112, 11, 42) :: (1, .iload_n 1, 0, 0) :: (1, .aload_n 0, 0, 0) :: (3, .getfield 32, 11, 7) :: (1, .iload_n 1, 0, 0) :: (1, .baload, 0, 0) :: (1, .bastore, 0, 0) :: (3, .iinc 1 (1), 0, 0) :: (3, .goto (-23), 0, 0) :: []),
  (144, [true, false], (1, .iconst (0), 0, 0) :: (1, .istore_n 1, 0, 0) :: []),
  (146, [true, true], (1, .iload_n 1, 0, 0) :: (2, .bipush (6), 0, 6) :: (3, .if_icmp .ge (16), 0, 0) :: (1, .aload_n 0, 0, 0) :: (3, .getfield 118, 11, 44) :: (1, .iload_n 1, 0, 0) :: (1, .iconst (0), 0, 0) :: (1, .bastore, 0, 0) :: (3, .iinc 1 (1), 0, 0) :: (3, .goto (-16), 0, 0) :: []),
  (165, [true, false], (1, .aload_n 0, 0, 0) :: (1, .lconst 0, 0, 0) :: (3, .putfield 355, 11, 49) :: (1, .aload_n 0, 0, 0) :: (1, .iconst (1), 0, 1) :: (3, .putfield 168, 11, 29) :: (1, .aload_n 0, 0, 0) :: (3, .getfield 185, 11, 11) :: (1, .ireturn, 0, 0) :: [])]
def mt_LatticefitModel_setInput_9 : List ma_AI := (3, .ifCond .ne (23), 0, 0) :: (1, .aload_n 0, 0, 0) :: (1, .aload_n 0, 0, 0) :: (3, .getfield 168, 11, 29) :: (3, .ifCond .ne (7), 0, 0) :: (1, .iconst (1), 0, 1) :: (3, .goto (4), 0, 0) :: []
def mt_LatticefitModel_setInput_29 : List ma_AI := (3, .ifCond .eq (5), 0, 0) :: []
def mb_LatticefitModel_setInput : ma_Tb := [(0, [true, true, true, false], (1, .aload_n 0, 0, 0) :: (1, .iload_n 1, 0, 0) :: (1, .aload_n 0, 0, 0) :: (3, .getfield 171, 11, 9) :: (3, .invokevirtual 181, 195, 11) :: mt_LatticefitModel_setInput_9),
  (24, [true, true, true, false], (1, .iconst (0), 0, 0) :: []),
  (25, [true, true, true, false], (1, .iconst (2), 0, 2) :: (3, .invokevirtual 145, 186, 11) :: mt_LatticefitModel_setInput_29),
  (32, [false, false, false, false], (1, .iconst (0), 0, 0) :: (1, .ireturn, 0, 0) :: []),
  (34, [true, true, true, false], (1, .aload_n 0, 0, 0) :: (3, .getfield 118, 11, 44) :: (1, .iload_n 1, 0, 0) :: (1, .baload, 0, 0) :: (1, .istore_n 3, 0, 0) :: (1, .aload_n 0, 0, 0) :: (3, .getfield 118, 11, 44) :: (1, .iload_n 1, 0, 0) :: (1, .iload_n 2, 0, 0) :: (1, .bastore, 0, 0) :: (1, .iload_n 3, 0, 0) :: (1, .ireturn, 0, 0) :: [])]
def mt_LatticefitModel_tick_7 : List ma_AI := (3, .ifCond .ne (7), 0, 0) :: (1, .iconst (1), 0, 1) :: (3, .goto (4), 0, 0) :: []
def mt_LatticefitModel_tick_19 : List ma_AI := (3, .ifCond .ne (23), 0, 0) :: (1, .aload_n 0, 0, 0) :: (1, .aload_n 0, 0, 0) :: (3, .getfield 168, 11, 29) :: (3, .ifCond .ne (7), 0, 0) :: (1, .iconst (1), 0, 1) :: (3, .goto (4), 0, 0) :: []
def mt_LatticefitModel_tick_39 : List ma_AI := (3, .ifCond .eq (5), 0, 0) :: []
def mt_LatticefitModel_tick_52 : List ma_AI := (1, .iconst (0), 0, 0) :: (1, .istore_n 2, 0, 0) :: []
def mt_LatticefitModel_tick_48 : List ma_AI := (1, .aload_n 0, 0, 0) :: (3, .invokevirtual 371, 260, 11) :: mt_LatticefitModel_tick_52
def mt_LatticefitModel_tick_131 : List ma_AI := (1, .iconst (5), 0, 5) :: (1, .iadd, 0, 0) :: (1, .iaload, 0, 0) :: (1, .istore_n 3, 0, 0) :: (1, .aload_n 0, 0, 0) :: (3, .getfield 115, 11, 43) :: (1, .iload_n 2, 0, 0) :: (1, .iload_n 3, 0, 0) :: (1, .iconst (2), 0, 2) :: (1, .irem, 0, 0) :: (3, .ifCond .eq (21), 0, 0) :: (1, .iload_n 3, 0, 0) :: (1, .iconst (4), 0, 4) :: (1, .idiv, 0, 0) :: (1, .iconst (4), 0, 4) :: (1, .irem, 0, 0) :: (1, .iload_n 1, 0, 0) :: (3, .if_icmp .ne (12), 0, 0) :: (1, .aload_n 0, 0, 0) :: (3, .getfield 124, 11, 46) :: (1, .iload_n 2, 0, 0) :: (1, .baload, 0, 0) :: (3, .goto (9), 0, 0) :: []
def mb_LatticefitModel_tick : ma_Tb := [(0, [true, true, false, false], (1, .aload_n 0, 0, 0) :: (1, .iload_n 1, 0, 0) :: (1, .iconst (0), 0, 0) :: (1, .iconst (2), 0, 2) :: (3, .invokestatic 141, 191, 0) :: mt_LatticefitModel_tick_7),
  (14, [true, true, false, false], (1, .iconst (0), 0, 0) :: []),
  (15, [true, true, false, false], (1, .iconst (1), 0, 1) :: (3, .invokevirtual 145, 186, 11) :: mt_LatticefitModel_tick_19),
  (34, [true, true, false, false], (1, .iconst (0), 0, 0) :: []),
  (35, [true, true, false, false], (1, .iconst (2), 0, 2) :: (3, .invokevirtual 145, 186, 11) :: mt_LatticefitModel_tick_39),
  (42, [false, false, false, false], (1, .lconst 0, 0, 0) :: (1, .lreturn, 0, 0) :: []),
  (44, [true, true, false, false], (1, .aload_n 0, 0, 0) :: (3, .invokevirtual 368, 259, 11) :: mt_LatticefitModel_tick_48),
  (54, [true, true, true, false], (1, .iload_n 2, 0, 0) :: (1, .aload_n 0, 0, 0) :: (3, .getfield 149, 11, 8) :: (3, .if_icmp .ge (56), 0, 0) :: (1, .aload_n 0, 0, 0) :: (3, .getfield 112, 11, 42) :: (1, .iload_n 2, 0, 0) :: (1, .aload_n 0, 0, 0) :: (3, .getfield 9, 11, 0) :: (1, .iload_n 2, 0, 0) :: (1, .caload, 0, 0) :: (2, .bipush (114), 0, 114) :: (3, .if_icmp .ne (27), 0, 0) :: (1, .aload_n 0, 0, 0) :: (3, .getfield 20, 11, 3) :: (1, .iload_n 2, 0, 0) :: (1, .iaload, 0, 0) :: (1, .iload_n 1, 0, 0) :: (3, .if_icmp .ne (17), 0, 0) :: (1, .aload_n 0, 0, 0) :: (3, .getfield 121, 11, 45) :: (1, .aload_n 0, 0, 0) :: (3, .getfield 23, 11, 4) :: (1, .iload_n 2, 0, 0) :: (1, .iaload, 0, 0) :: (1, .baload, 0, 0) :: (3, .goto (9), 0, 0) :: []),
  (102, [true, true, true, false], (1, .aload_n 0, 0, 0) :: (3, .getfield 112, 11, 42) :: (1, .iload_n 2, 0, 0) :: (1, .baload, 0, 0) :: []),
  (108, [true, true, true, false], (1, .bastore, 0, 0) :: (3, .iinc 2 (1), 0, 0) :: (3, .goto (-58), 0, 0) :: []),
  (115, [true, true, false, false], (1, .iconst (0), 0, 0) :: (1, .istore_n 2, 0, 0) :: []),
  (117, [true, true, true, false], (1, .iload_n 2, 0, 0) :: (2, .bipush (36), 0, 36) :: (3, .if_icmp .ge (57), 0, 0) :: (1, .aload_n 0, 0, 0) :: (3, .getfield 109, 11, 41) :: (1, .iload_n 2, 0, 0) :: (3, .invokestatic 362, 261, 0) :: mt_LatticefitModel_tick_131),
  (164, [true, true, true, false], (1, .aload_n 0, 0, 0) :: (3, .getfield 115, 11, 43) :: (1, .iload_n 2, 0, 0) :: (1, .baload, 0, 0) :: []),
  (170, [true, true, true, false], (1, .bastore, 0, 0) :: (3, .iinc 2 (1), 0, 0) :: (3, .goto (-57), 0, 0) :: []),
  (177, [true, false, false, false], (1, .aload_n 0, 0, 0) :: (1, .dup, 0, 0) :: (3, .getfield 355, 11, 49) :: (1, .lconst 1, 0, 1) :: (1, .ladd, 0, 0) :: (3, .putfield 355, 11, 49) :: (1, .aload_n 0, 0, 0) :: (3, .getfield 355, 11, 49) :: (1, .lreturn, 0, 0) :: [])]
def mb_LatticefitModel_runs : ma_Tb := [(0, [true, false], (1, .iconst (0), 0, 0) :: (1, .istore_n 1, 0, 0) :: []),
  (2, [true, true], (1, .iload_n 1, 0, 0) :: (1, .aload_n 0, 0, 0) :: (3, .getfield 149, 11, 8) :: (3, .if_icmp .ge (87), 0, 0) :: (1, .aload_n 0, 0, 0) :: (3, .getfield 121, 11, 45) :: (1, .iload_n 1, 0, 0) :: (1, .aload_n 0, 0, 0) :: (3, .getfield 9, 11, 0) :: (1, .iload_n 1, 0, 0) :: (1, .caload, 0, 0) :: (2, .bipush (105), 0, 105) :: (3, .if_icmp .ne (17), 0, 0) :: (1, .aload_n 0, 0, 0) :: (3, .getfield 118, 11, 44) :: (1, .aload_n 0, 0, 0) :: (3, .getfield 26, 11, 5) :: (1, .iload_n 1, 0, 0) :: (1, .iaload, 0, 0) :: (1, .baload, 0, 0) :: (3, .goto (50), 0, 0) :: []),
  (40, [true, true], (1, .aload_n 0, 0, 0) :: (3, .getfield 9, 11, 0) :: (1, .iload_n 1, 0, 0) :: (1, .caload, 0, 0) :: (2, .bipush (114), 0, 114) :: (3, .if_icmp .ne (12), 0, 0) :: (1, .aload_n 0, 0, 0) :: (3, .getfield 112, 11, 42) :: (1, .iload_n 1, 0, 0) :: (1, .baload, 0, 0) :: (3, .goto (30), 0, 0) :: []),
  (60, [true, true], (1, .aload_n 0, 0, 0) :: (1, .iload_n 1, 0, 0) :: (1, .aload_n 0, 0, 0) :: (3, .getfield 121, 11, 45) :: (1, .aload_n 0, 0, 0) :: (3, .getfield 13, 11, 1) :: (1, .iload_n 1, 0, 0) :: (1, .iaload, 0, 0) :: (1, .baload, 0, 0) :: (1, .aload_n 0, 0, 0) :: (3, .getfield 121, 11, 45) :: (1, .aload_n 0, 0, 0) :: (3, .getfield 17, 11, 2) :: (1, .iload_n 1, 0, 0) :: (1, .iaload, 0, 0) :: (1, .baload, 0, 0) :: (3, .invokevirtual 226, 209, 11) :: []),
  (87, [true, true], (1, .bastore, 0, 0) :: (3, .iinc 1 (1), 0, 0) :: (3, .goto (-89), 0, 0) :: []),
  (94, [false, false], (1, .return_, 0, 0) :: [])]
def mt_LatticefitModel_settles_67 : List ma_AI := (3, .ifCond .eq (10), 0, 0) :: (1, .iconst (1), 0, 1) :: (2, .iload 4, 0, 0) :: (1, .ishl, 0, 0) :: (3, .goto (4), 0, 0) :: []
def mt_LatticefitModel_settles_58 : List ma_AI := (1, .iconst (1), 0, 1) :: (1, .iadd, 0, 0) :: (2, .iload 4, 0, 0) :: (1, .iadd, 0, 0) :: (1, .iaload, 0, 0) :: (3, .invokevirtual 365, 262, 11) :: mt_LatticefitModel_settles_67
def mt_LatticefitModel_settles_99 : List ma_AI := (1, .iaload, 0, 0) :: (1, .iload_n 3, 0, 0) :: (1, .ishr, 0, 0) :: (1, .iconst (1), 0, 1) :: (1, .iand, 0, 0) :: (1, .iconst (1), 0, 1) :: (3, .if_icmp .ne (7), 0, 0) :: (1, .iconst (1), 0, 1) :: (3, .goto (4), 0, 0) :: []
def mb_LatticefitModel_settles : ma_Tb := [(0, [true, false, false, false, false], (1, .iconst (0), 0, 0) :: (1, .istore_n 1, 0, 0) :: []),
  (2, [true, true, false, false, false], (1, .iload_n 1, 0, 0) :: (2, .bipush (36), 0, 36) :: (3, .if_icmp .ge (16), 0, 0) :: (1, .aload_n 0, 0, 0) :: (3, .getfield 124, 11, 46) :: (1, .iload_n 1, 0, 0) :: (1, .iconst (0), 0, 0) :: (1, .bastore, 0, 0) :: (3, .iinc 1 (1), 0, 0) :: (3, .goto (-16), 0, 0) :: []),
  (21, [true, false, false, false, false], (1, .iconst (0), 0, 0) :: (1, .istore_n 1, 0, 0) :: []),
  (23, [true, true, false, false, false], (1, .iload_n 1, 0, 0) :: (2, .bipush (40), 0, 40) :: (3, .if_icmp .ge (118), 0, 0) :: (1, .iconst (0), 0, 0) :: (1, .istore_n 2, 0, 0) :: []),
  (31, [true, true, true, false, false], (1, .iload_n 2, 0, 0) :: (2, .bipush (36), 0, 36) :: (3, .if_icmp .ge (86), 0, 0) :: (1, .iconst (0), 0, 0) :: (1, .istore_n 3, 0, 0) :: (1, .iconst (0), 0, 0) :: (2, .istore 4, 0, 0) :: []),
  (42, [true, true, true, true, true], (2, .iload 4, 0, 0) :: (1, .iconst (4), 0, 4) :: (3, .if_icmp .ge (41), 0, 0) :: (1, .iload_n 3, 0, 0) :: (1, .aload_n 0, 0, 0) :: (1, .aload_n 0, 0, 0) :: (3, .getfield 109, 11, 41) :: (1, .iload_n 2, 0, 0) :: (3, .invokestatic 362, 261, 0) :: mt_LatticefitModel_settles_58),
  (77, [true, true, true, false, true], (1, .iconst (0), 0, 0) :: []),
  (78, [true, true, true, false, true], (1, .ior, 0, 0) :: (1, .istore_n 3, 0, 0) :: (3, .iinc 4 (1), 0, 0) :: (3, .goto (-41), 0, 0) :: []),
  (86, [true, true, true, true, false], (1, .aload_n 0, 0, 0) :: (3, .getfield 127, 11, 47) :: (1, .iload_n 2, 0, 0) :: (1, .aload_n 0, 0, 0) :: (3, .getfield 109, 11, 41) :: (1, .iload_n 2, 0, 0) :: (3, .invokestatic 362, 261, 0) :: mt_LatticefitModel_settles_99),
  (112, [true, true, true, false, false], (1, .iconst (0), 0, 0) :: []),
  (113, [true, true, true, false, false], (1, .bastore, 0, 0) :: (3, .iinc 2 (1), 0, 0) :: (3, .goto (-86), 0, 0) :: []),
  (120, [true, true, false, false, false], (1, .aload_n 0, 0, 0) :: (3, .getfield 124, 11, 46) :: (1, .astore_n 2, 0, 0) :: (1, .aload_n 0, 0, 0) :: (1, .aload_n 0, 0, 0) :: (3, .getfield 127, 11, 47) :: (3, .putfield 124, 11, 46) :: (1, .aload_n 0, 0, 0) :: (1, .aload_n 2, 0, 0) :: (3, .putfield 127, 11, 47) :: (3, .iinc 1 (1), 0, 0) :: (3, .goto (-118), 0, 0) :: []),
  (144, [false, false, false, false, false], (1, .return_, 0, 0) :: [])]
def mb_LatticefitModel_cellAt : ma_Tb := [(0, [true], (2, .bipush (36), 0, 36) :: (1, .iload_n 0, 0, 0) :: (2, .bipush (6), 0, 6) :: (1, .idiv, 0, 0) :: (1, .imul, 0, 0) :: (2, .bipush (6), 0, 6) :: (1, .iload_n 0, 0, 0) :: (2, .bipush (6), 0, 6) :: (1, .irem, 0, 0) :: (1, .imul, 0, 0) :: (1, .iadd, 0, 0) :: (1, .ireturn, 0, 0) :: [])]
def mt_LatticefitModel_valueOf_16 : List ma_AI := (3, .ifCond .eq (37), 0, 0) :: (1, .iload_n 2, 0, 0) :: (1, .iconst (2), 0, 2) :: (1, .irem, 0, 0) :: (3, .ifCond .ne (18), 0, 0) :: (1, .aload_n 0, 0, 0) :: (3, .getfield 124, 11, 46) :: (1, .iload_n 2, 0, 0) :: (3, .sipush (200), 0, 200) :: (1, .isub, 0, 0) :: (1, .iconst (2), 0, 2) :: (1, .idiv, 0, 0) :: (1, .baload, 0, 0) :: (3, .goto (15), 0, 0) :: []
def mt_LatticefitModel_valueOf_5 : List ma_AI := (1, .istore_n 2, 0, 0) :: (1, .iload_n 2, 0, 0) :: (3, .sipush (200), 0, 200) :: (3, .sipush (271), 0, 271) :: (3, .invokestatic 141, 191, 0) :: mt_LatticefitModel_valueOf_16
def mt_LatticefitModel_valueOf_68 : List ma_AI := (3, .ifCond .eq (20), 0, 0) :: (1, .aload_n 0, 0, 0) :: (3, .getfield 118, 11, 44) :: (1, .iload_n 2, 0, 0) :: (3, .sipush (300), 0, 300) :: (1, .isub, 0, 0) :: (1, .baload, 0, 0) :: (3, .ifCond .eq (7), 0, 0) :: (1, .iconst (1), 0, 1) :: (3, .goto (4), 0, 0) :: []
def mb_LatticefitModel_valueOf : ma_Tb := [(0, [true, true, false], (1, .aload_n 0, 0, 0) :: (1, .iload_n 1, 0, 0) :: (3, .invokevirtual 359, 263, 11) :: mt_LatticefitModel_valueOf_5),
  (40, [true, false, true], (1, .aload_n 0, 0, 0) :: (3, .getfield 115, 11, 43) :: (1, .iload_n 2, 0, 0) :: (3, .sipush (200), 0, 200) :: (1, .isub, 0, 0) :: (1, .iconst (2), 0, 2) :: (1, .idiv, 0, 0) :: (1, .baload, 0, 0) :: []),
  (52, [false, false, false], (1, .ireturn, 0, 0) :: []),
  (53, [true, false, true], (1, .iload_n 2, 0, 0) :: (3, .sipush (300), 0, 300) :: (3, .sipush (299), 0, 299) :: (1, .aload_n 0, 0, 0) :: (3, .getfield 171, 11, 9) :: (1, .iadd, 0, 0) :: (3, .invokestatic 141, 191, 0) :: mt_LatticefitModel_valueOf_68),
  (88, [false, false, false], (1, .iconst (0), 0, 0) :: []),
  (89, [false, false, false], (1, .ireturn, 0, 0) :: [])]
def mt_LatticefitModel_behind_19 : List ma_AI := (3, .ifCond .eq (23), 0, 0) :: (1, .aload_n 0, 0, 0) :: (3, .getfield 109, 11, 41) :: (1, .aload_n 0, 0, 0) :: (3, .getfield 130, 11, 48) :: (1, .iload_n 2, 0, 0) :: (1, .iconst (1), 0, 1) :: (1, .isub, 0, 0) :: (1, .iaload, 0, 0) :: (1, .iaload, 0, 0) :: (1, .istore_n 2, 0, 0) :: (3, .iinc 3 (1), 0, 0) :: (3, .goto (-35), 0, 0) :: []
def mt_LatticefitModel_behind_50 : List ma_AI := (3, .ifCond .eq (7), 0, 0) :: (1, .iconst (0), 0, 0) :: (3, .goto (4), 0, 0) :: []
def mb_LatticefitModel_behind : ma_Tb := [(0, [true, true, false, false], (1, .iload_n 1, 0, 0) :: (1, .istore_n 2, 0, 0) :: (1, .iconst (0), 0, 0) :: (1, .istore_n 3, 0, 0) :: []),
  (4, [true, false, true, true], (1, .iload_n 3, 0, 0) :: (3, .sipush (200), 0, 200) :: (3, .if_icmp .ge (34), 0, 0) :: (1, .iload_n 2, 0, 0) :: (1, .iconst (1), 0, 1) :: (3, .sipush (168), 0, 168) :: (3, .invokestatic 141, 191, 0) :: mt_LatticefitModel_behind_19),
  (42, [false, false, true, false], (1, .iload_n 2, 0, 0) :: (1, .iconst (1), 0, 1) :: (3, .sipush (168), 0, 168) :: (3, .invokestatic 141, 191, 0) :: mt_LatticefitModel_behind_50),
  (57, [false, false, true, false], (1, .iload_n 2, 0, 0) :: []),
  (58, [false, false, false, false], (1, .ireturn, 0, 0) :: [])]
def mt_LatticefitModel_circuitOutput_9 : List ma_AI := (3, .ifCond .eq (5), 0, 0) :: (1, .iconst (0), 0, 0) :: (1, .ireturn, 0, 0) :: []
def mt_LatticefitModel_circuitOutput_18 : List ma_AI := (1, .aload_n 0, 0, 0) :: (3, .getfield 121, 11, 45) :: (1, .aload_n 0, 0, 0) :: (3, .getfield 29, 11, 6) :: (1, .iload_n 1, 0, 0) :: (1, .iaload, 0, 0) :: (1, .baload, 0, 0) :: (1, .ireturn, 0, 0) :: []
def mb_LatticefitModel_circuitOutput : ma_Tb := [(0, [true, true], (1, .aload_n 0, 0, 0) :: (1, .iload_n 1, 0, 0) :: (1, .aload_n 0, 0, 0) :: (3, .getfield 185, 11, 11) :: (3, .invokevirtual 374, 265, 11) :: mt_LatticefitModel_circuitOutput_9),
  (14, [true, true], (1, .aload_n 0, 0, 0) :: (3, .invokevirtual 368, 259, 11) :: mt_LatticefitModel_circuitOutput_18)]
def mt_LatticefitModel_isIdle_6 : List ma_AI := (3, .ifCond .ne (23), 0, 0) :: (1, .aload_n 0, 0, 0) :: (1, .aload_n 0, 0, 0) :: (3, .getfield 168, 11, 29) :: (3, .ifCond .ne (7), 0, 0) :: (1, .iconst (1), 0, 1) :: (3, .goto (4), 0, 0) :: []
def mt_LatticefitModel_isIdle_26 : List ma_AI := (3, .ifCond .eq (7), 0, 0) :: []
def mb_LatticefitModel_isIdle : ma_Tb := [(0, [true, true, true], (1, .aload_n 0, 0, 0) :: (1, .iload_n 1, 0, 0) :: (1, .iload_n 2, 0, 0) :: (3, .invokevirtual 181, 195, 11) :: mt_LatticefitModel_isIdle_6),
  (21, [false, false, false], (1, .iconst (0), 0, 0) :: []),
  (22, [false, false, false], (1, .iconst (2), 0, 2) :: (3, .invokevirtual 145, 186, 11) :: mt_LatticefitModel_isIdle_26),
  (29, [false, false, false], (1, .iconst (1), 0, 1) :: (3, .goto (4), 0, 0) :: []),
  (33, [false, false, false], (1, .iconst (0), 0, 0) :: []),
  (34, [false, false, false], (1, .ireturn, 0, 0) :: [])]
def mt_LatticefitModel_chipOutput_9 : List ma_AI := (3, .ifCond .eq (5), 0, 0) :: (1, .iconst (0), 0, 0) :: (1, .ireturn, 0, 0) :: []
def mt_LatticefitModel_chipOutput_32 : List ma_AI := (1, .ireturn, 0, 0) :: []
def mt_LatticefitModel_chipOutput_18 : List ma_AI := (1, .aload_n 0, 0, 0) :: (1, .aload_n 0, 0, 0) :: (3, .getfield 109, 11, 41) :: (3, .sipush (468), 0, 468) :: (1, .iload_n 1, 0, 0) :: (1, .iadd, 0, 0) :: (1, .iaload, 0, 0) :: (3, .invokevirtual 365, 262, 11) :: mt_LatticefitModel_chipOutput_32
def mb_LatticefitModel_chipOutput : ma_Tb := [(0, [true, true], (1, .aload_n 0, 0, 0) :: (1, .iload_n 1, 0, 0) :: (1, .aload_n 0, 0, 0) :: (3, .getfield 185, 11, 11) :: (3, .invokevirtual 374, 265, 11) :: mt_LatticefitModel_chipOutput_9),
  (14, [true, true], (1, .aload_n 0, 0, 0) :: (3, .invokevirtual 371, 260, 11) :: mt_LatticefitModel_chipOutput_18)]
def mt_LatticefitModel_chipRegister_7 : List ma_AI := (3, .ifCond .ne (16), 0, 0) :: (1, .aload_n 0, 0, 0) :: (3, .getfield 115, 11, 43) :: (1, .iload_n 1, 0, 0) :: (1, .baload, 0, 0) :: (3, .ifCond .eq (7), 0, 0) :: (1, .iconst (1), 0, 1) :: (3, .goto (4), 0, 0) :: []
def mb_LatticefitModel_chipRegister : ma_Tb := [(0, [true, true], (1, .aload_n 0, 0, 0) :: (1, .iload_n 1, 0, 0) :: (2, .bipush (36), 0, 36) :: (3, .invokevirtual 374, 265, 11) :: mt_LatticefitModel_chipRegister_7),
  (23, [false, false], (1, .iconst (0), 0, 0) :: []),
  (24, [false, false], (1, .ireturn, 0, 0) :: [])]
def mt_LatticefitModel_sourceOf_17 : List ma_AI := (3, .ifCond .ne (7), 0, 0) :: []
def mt_LatticefitModel_sourceOf_8 : List ma_AI := (3, .ifCond .eq (12), 0, 0) :: (1, .iload_n 2, 0, 0) :: (1, .iconst (0), 0, 0) :: (1, .iconst (3), 0, 3) :: (3, .invokestatic 141, 191, 0) :: mt_LatticefitModel_sourceOf_17
def mt_LatticefitModel_sourceOf_29 : List ma_AI := (3, .ifCond .ne (23), 0, 0) :: (1, .aload_n 0, 0, 0) :: (1, .aload_n 0, 0, 0) :: (3, .getfield 168, 11, 29) :: (3, .ifCond .ne (7), 0, 0) :: (1, .iconst (1), 0, 1) :: (3, .goto (4), 0, 0) :: []
def mt_LatticefitModel_sourceOf_49 : List ma_AI := (3, .ifCond .eq (5), 0, 0) :: []
def mt_LatticefitModel_sourceOf_71 : List ma_AI := (1, .istore_n 3, 0, 0) :: (1, .aload_n 0, 0, 0) :: (1, .iload_n 3, 0, 0) :: (3, .ifCond .ge (7), 0, 0) :: (1, .iconst (1), 0, 1) :: (3, .goto (4), 0, 0) :: []
def mt_LatticefitModel_sourceOf_63 : List ma_AI := (1, .iconst (1), 0, 1) :: (1, .iadd, 0, 0) :: (1, .iload_n 2, 0, 0) :: (1, .iadd, 0, 0) :: (1, .iaload, 0, 0) :: (3, .invokevirtual 380, 269, 11) :: mt_LatticefitModel_sourceOf_71
def mt_LatticefitModel_sourceOf_86 : List ma_AI := (3, .ifCond .eq (7), 0, 0) :: (1, .iconst (0), 0, 0) :: (3, .goto (4), 0, 0) :: []
def mb_LatticefitModel_sourceOf : ma_Tb := [(0, [true, true, true, false], (1, .aload_n 0, 0, 0) :: (1, .iload_n 1, 0, 0) :: (1, .iconst (0), 0, 0) :: (2, .bipush (35), 0, 35) :: (3, .invokestatic 141, 191, 0) :: mt_LatticefitModel_sourceOf_8),
  (20, [true, true, true, false], (1, .iconst (1), 0, 1) :: (3, .goto (4), 0, 0) :: []),
  (24, [true, true, true, false], (1, .iconst (0), 0, 0) :: []),
  (25, [true, true, true, false], (1, .iconst (1), 0, 1) :: (3, .invokevirtual 145, 186, 11) :: mt_LatticefitModel_sourceOf_29),
  (44, [true, true, true, false], (1, .iconst (0), 0, 0) :: []),
  (45, [true, true, true, false], (1, .iconst (2), 0, 2) :: (3, .invokevirtual 145, 186, 11) :: mt_LatticefitModel_sourceOf_49),
  (52, [false, false, false, false], (1, .iconst (0), 0, 0) :: (1, .ireturn, 0, 0) :: []),
  (54, [true, true, true, false], (1, .aload_n 0, 0, 0) :: (1, .aload_n 0, 0, 0) :: (3, .getfield 109, 11, 41) :: (1, .iload_n 1, 0, 0) :: (3, .invokestatic 362, 261, 0) :: mt_LatticefitModel_sourceOf_63),
  (81, [false, false, false, true], (1, .iconst (0), 0, 0) :: []),
  (82, [false, false, false, true], (1, .iconst (3), 0, 3) :: (3, .invokevirtual 145, 186, 11) :: mt_LatticefitModel_sourceOf_86),
  (93, [false, false, false, true], (1, .iload_n 3, 0, 0) :: []),
  (94, [false, false, false, false], (1, .ireturn, 0, 0) :: [])]
def mt_LatticefitModel_arrives_16 : List ma_AI := (3, .ifCond .eq (46), 0, 0) :: (1, .aload_n 0, 0, 0) :: (3, .getfield 70, 11, 23) :: (1, .iload_n 2, 0, 0) :: (3, .sipush (200), 0, 200) :: (1, .isub, 0, 0) :: (1, .iconst (2), 0, 2) :: (1, .idiv, 0, 0) :: (1, .iaload, 0, 0) :: (1, .istore_n 3, 0, 0) :: (1, .iload_n 3, 0, 0) :: (3, .ifCond .ge (7), 0, 0) :: (1, .iconst (-1), 0, (-1)) :: (3, .goto (24), 0, 0) :: []
def mt_LatticefitModel_arrives_5 : List ma_AI := (1, .istore_n 2, 0, 0) :: (1, .iload_n 2, 0, 0) :: (3, .sipush (200), 0, 200) :: (3, .sipush (271), 0, 271) :: (3, .invokestatic 141, 191, 0) :: mt_LatticefitModel_arrives_16
def mt_LatticefitModel_arrives_84 : List ma_AI := (3, .goto (4), 0, 0) :: []
def mt_LatticefitModel_arrives_72 : List ma_AI := (3, .ifCond .eq (15), 0, 0) :: (1, .aload_n 0, 0, 0) :: (1, .iload_n 2, 0, 0) :: (3, .sipush (300), 0, 300) :: (1, .isub, 0, 0) :: (3, .invokevirtual 377, 270, 11) :: mt_LatticefitModel_arrives_84
def mb_LatticefitModel_arrives : ma_Tb := [(0, [true, true, false, false], (1, .aload_n 0, 0, 0) :: (1, .iload_n 1, 0, 0) :: (3, .invokevirtual 359, 263, 11) :: mt_LatticefitModel_arrives_5),
  (40, [true, false, true, true], (1, .iload_n 2, 0, 0) :: (1, .iconst (2), 0, 2) :: (1, .irem, 0, 0) :: (3, .ifCond .ne (12), 0, 0) :: (1, .aload_n 0, 0, 0) :: (3, .getfield 52, 11, 17) :: (1, .iload_n 3, 0, 0) :: (1, .iaload, 0, 0) :: (3, .goto (9), 0, 0) :: []),
  (55, [true, false, false, true], (1, .aload_n 0, 0, 0) :: (3, .getfield 55, 11, 18) :: (1, .iload_n 3, 0, 0) :: (1, .iaload, 0, 0) :: []),
  (61, [false, false, false, false], (1, .ireturn, 0, 0) :: []),
  (62, [true, false, true, false], (1, .iload_n 2, 0, 0) :: (3, .sipush (300), 0, 300) :: (3, .sipush (305), 0, 305) :: (3, .invokestatic 141, 191, 0) :: mt_LatticefitModel_arrives_72),
  (87, [false, false, false, false], (1, .iconst (-1), 0, (-1)) :: []),
  (88, [false, false, false, false], (1, .ireturn, 0, 0) :: [])]
def mb_LatticefitModel_inputAt : ma_Tb := [(0, [true, true, false, false], (1, .iconst (-1), 0, (-1)) :: (1, .istore_n 2, 0, 0) :: (1, .iconst (0), 0, 0) :: (1, .istore_n 3, 0, 0) :: []),
  (4, [true, true, true, true], (1, .iload_n 3, 0, 0) :: (1, .aload_n 0, 0, 0) :: (3, .getfield 149, 11, 8) :: (3, .if_icmp .ge (36), 0, 0) :: (1, .aload_n 0, 0, 0) :: (3, .getfield 9, 11, 0) :: (1, .iload_n 3, 0, 0) :: (1, .caload, 0, 0) :: (2, .bipush (105), 0, 105) :: (3, .if_icmp .ne (17), 0, 0) :: (1, .aload_n 0, 0, 0) :: (3, .getfield 26, 11, 5) :: (1, .iload_n 3, 0, 0) :: (1, .iaload, 0, 0) :: (1, .iload_n 1, 0, 0) :: (3, .if_icmp .ne (7), 0, 0) :: (1, .iload_n 3, 0, 0) :: (3, .goto (4), 0, 0) :: []),
  (37, [true, true, true, true], (1, .iload_n 2, 0, 0) :: []),
  (38, [true, true, false, true], (1, .istore_n 2, 0, 0) :: (3, .iinc 3 (1), 0, 0) :: (3, .goto (-38), 0, 0) :: []),
  (45, [false, false, true, false], (1, .iload_n 2, 0, 0) :: (1, .ireturn, 0, 0) :: [])]
def mt_LatticefitModel_flip_18 : List ma_AI := (3, .ifCond .ne (7), 0, 0) :: []
def mt_LatticefitModel_flip_8 : List ma_AI := (3, .ifCond .eq (13), 0, 0) :: (1, .iload_n 3, 0, 0) :: (1, .iconst (0), 0, 0) :: (2, .bipush (15), 0, 15) :: (3, .invokestatic 141, 191, 0) :: mt_LatticefitModel_flip_18
def mt_LatticefitModel_flip_30 : List ma_AI := (3, .ifCond .ne (50), 0, 0) :: (1, .aload_n 0, 0, 0) :: (1, .aload_n 0, 0, 0) :: (3, .getfield 168, 11, 29) :: (3, .ifCond .ne (7), 0, 0) :: (1, .iconst (1), 0, 1) :: (3, .goto (4), 0, 0) :: []
def mt_LatticefitModel_flip_65 : List ma_AI := (3, .ifCond .ne (7), 0, 0) :: (1, .iconst (1), 0, 1) :: (3, .goto (4), 0, 0) :: []
def mt_LatticefitModel_flip_60 : List ma_AI := (1, .iconst (1), 0, 1) :: (1, .isub, 0, 0) :: (3, .invokestatic 141, 191, 0) :: mt_LatticefitModel_flip_65
def mt_LatticefitModel_flip_50 : List ma_AI := (3, .ifCond .ne (30), 0, 0) :: (1, .aload_n 0, 0, 0) :: (1, .iload_n 2, 0, 0) :: (1, .iconst (0), 0, 0) :: (1, .iload_n 1, 0, 0) :: (3, .invokestatic 344, 253, 0) :: mt_LatticefitModel_flip_60
def mt_LatticefitModel_flip_77 : List ma_AI := (3, .ifCond .eq (5), 0, 0) :: []
def mb_LatticefitModel_flip : ma_Tb := [(0, [true, true, true, true], (1, .aload_n 0, 0, 0) :: (1, .iload_n 1, 0, 0) :: (1, .iconst (0), 0, 0) :: (2, .bipush (13), 0, 13) :: (3, .invokestatic 141, 191, 0) :: mt_LatticefitModel_flip_8),
  (21, [true, true, true, true], (1, .iconst (1), 0, 1) :: (3, .goto (4), 0, 0) :: []),
  (25, [true, true, true, true], (1, .iconst (0), 0, 0) :: []),
  (26, [true, true, true, true], (1, .iconst (1), 0, 1) :: (3, .invokevirtual 145, 186, 11) :: mt_LatticefitModel_flip_30),
  (45, [true, true, true, true], (1, .iconst (0), 0, 0) :: []),
  (46, [true, true, true, true], (1, .iconst (2), 0, 2) :: (3, .invokevirtual 145, 186, 11) :: mt_LatticefitModel_flip_50),
  (72, [true, true, true, true], (1, .iconst (0), 0, 0) :: []),
  (73, [true, true, true, true], (1, .iconst (3), 0, 3) :: (3, .invokevirtual 145, 186, 11) :: mt_LatticefitModel_flip_77),
  (80, [false, false, false, false], (1, .iconst (0), 0, 0) :: (1, .ireturn, 0, 0) :: []),
  (82, [true, true, true, true], (1, .aload_n 0, 0, 0) :: (3, .getfield 109, 11, 41) :: (2, .bipush (36), 0, 36) :: (1, .iload_n 1, 0, 0) :: (1, .imul, 0, 0) :: (1, .iload_n 2, 0, 0) :: (1, .iadd, 0, 0) :: (1, .dup2, 0, 0) :: (1, .iaload, 0, 0) :: (1, .iconst (1), 0, 1) :: (1, .iload_n 3, 0, 0) :: (1, .ishl, 0, 0) :: (1, .ixor, 0, 0) :: (1, .iastore, 0, 0) :: (1, .aload_n 0, 0, 0) :: (3, .getfield 109, 11, 41) :: (2, .bipush (36), 0, 36) :: (1, .iload_n 1, 0, 0) :: (1, .imul, 0, 0) :: (1, .iload_n 2, 0, 0) :: (1, .iadd, 0, 0) :: (1, .iaload, 0, 0) :: (1, .ireturn, 0, 0) :: [])]
def mt_LatticefitModel_isBad_15 : List ma_AI := (3, .ifCond .eq (7), 0, 0) :: (1, .iconst (1), 0, 1) :: (3, .goto (4), 0, 0) :: []
def mt_LatticefitModel_isBad_7 : List ma_AI := (3, .ifCond .ne (15), 0, 0) :: (1, .aload_n 0, 0, 0) :: (1, .iload_n 1, 0, 0) :: (3, .invokevirtual 383, 273, 11) :: mt_LatticefitModel_isBad_15
def mb_LatticefitModel_isBad : ma_Tb := [(0, [true, true], (1, .aload_n 0, 0, 0) :: (1, .iload_n 1, 0, 0) :: (2, .bipush (14), 0, 14) :: (3, .invokevirtual 374, 265, 11) :: mt_LatticefitModel_isBad_7),
  (22, [false, false], (1, .iconst (0), 0, 0) :: []),
  (23, [false, false], (1, .ireturn, 0, 0) :: [])]
def mt_LatticefitModel_bad_16 : List ma_AI := (3, .if_icmp .eq (7), 0, 0) :: (1, .iconst (1), 0, 1) :: (3, .goto (4), 0, 0) :: []
def mt_LatticefitModel_bad_8 : List ma_AI := (1, .aload_n 0, 0, 0) :: (3, .getfield 106, 11, 40) :: (1, .iload_n 1, 0, 0) :: (3, .invokestatic 351, 255, 0) :: mt_LatticefitModel_bad_16
def mb_LatticefitModel_bad : ma_Tb := [(0, [true, true], (1, .aload_n 0, 0, 0) :: (3, .getfield 109, 11, 41) :: (1, .iload_n 1, 0, 0) :: (3, .invokestatic 351, 255, 0) :: mt_LatticefitModel_bad_8),
  (23, [false, false], (1, .iconst (0), 0, 0) :: []),
  (24, [false, false], (1, .ireturn, 0, 0) :: [])]
def mt_LatticefitModel_scrub_17 : List ma_AI := (3, .ifCond .eq (5), 0, 0) :: (1, .iconst (0), 0, 0) :: (1, .ireturn, 0, 0) :: []
def mt_LatticefitModel_scrub_37 : List ma_AI := (1, .istore_n 3, 0, 0) :: (1, .iload_n 1, 0, 0) :: (1, .iload_n 3, 0, 0) :: (3, .ifCond .eq (7), 0, 0) :: (1, .iconst (1), 0, 1) :: (3, .goto (4), 0, 0) :: []
def mb_LatticefitModel_scrub : ma_Tb := [(0, [true, false, false, false, false], (1, .aload_n 0, 0, 0) :: (1, .aload_n 0, 0, 0) :: (3, .getfield 168, 11, 29) :: (3, .ifCond .ne (7), 0, 0) :: (1, .iconst (1), 0, 1) :: (3, .goto (4), 0, 0) :: []),
  (12, [true, false, false, false, false], (1, .iconst (0), 0, 0) :: []),
  (13, [true, false, false, false, false], (1, .iconst (1), 0, 1) :: (3, .invokevirtual 145, 186, 11) :: mt_LatticefitModel_scrub_17),
  (22, [true, false, false, false, false], (1, .iconst (0), 0, 0) :: (1, .istore_n 1, 0, 0) :: (1, .iconst (0), 0, 0) :: (1, .istore_n 2, 0, 0) :: []),
  (26, [true, true, true, false, false], (1, .iload_n 2, 0, 0) :: (2, .bipush (14), 0, 14) :: (3, .if_icmp .ge (71), 0, 0) :: (1, .aload_n 0, 0, 0) :: (1, .iload_n 2, 0, 0) :: (3, .invokevirtual 383, 273, 11) :: mt_LatticefitModel_scrub_37),
  (47, [true, false, true, true, false], (1, .iconst (0), 0, 0) :: []),
  (48, [true, false, true, true, false], (1, .iadd, 0, 0) :: (1, .istore_n 1, 0, 0) :: (1, .iconst (0), 0, 0) :: (2, .istore 4, 0, 0) :: []),
  (53, [true, true, true, true, true], (2, .iload 4, 0, 0) :: (2, .bipush (36), 0, 36) :: (3, .if_icmp .ge (37), 0, 0) :: (1, .iload_n 3, 0, 0) :: (3, .ifCond .eq (33), 0, 0) :: (1, .aload_n 0, 0, 0) :: (3, .getfield 109, 11, 41) :: (2, .bipush (36), 0, 36) :: (1, .iload_n 2, 0, 0) :: (1, .imul, 0, 0) :: (2, .iload 4, 0, 0) :: (1, .iadd, 0, 0) :: (1, .aload_n 0, 0, 0) :: (3, .getfield 106, 11, 40) :: (2, .bipush (36), 0, 36) :: (1, .iload_n 2, 0, 0) :: (1, .imul, 0, 0) :: (2, .iload 4, 0, 0) :: (1, .iadd, 0, 0) :: (1, .iaload, 0, 0) :: (1, .iastore, 0, 0) :: (3, .iinc 4 (1), 0, 0) :: (3, .goto (-38), 0, 0) :: []),
  (94, [true, true, true, false, false], (3, .iinc 2 (1), 0, 0) :: (3, .goto (-71), 0, 0) :: []),
  (100, [false, true, false, false, false], (1, .iload_n 1, 0, 0) :: (1, .ireturn, 0, 0) :: [])]
def mt_LatticefitModel_agrees_17 : List ma_AI := (3, .ifCond .eq (5), 0, 0) :: (1, .iconst (0), 0, 0) :: (1, .ireturn, 0, 0) :: []
def mt_LatticefitModel_agrees_30 : List ma_AI := (1, .iconst (1), 0, 1) :: (1, .istore_n 1, 0, 0) :: (1, .iconst (0), 0, 0) :: (1, .istore_n 2, 0, 0) :: []
def mt_LatticefitModel_agrees_26 : List ma_AI := (1, .aload_n 0, 0, 0) :: (3, .invokevirtual 371, 260, 11) :: mt_LatticefitModel_agrees_30
def mt_LatticefitModel_agrees_68 : List ma_AI := (3, .if_icmp .ne (7), 0, 0) :: (1, .iconst (1), 0, 1) :: (3, .goto (4), 0, 0) :: []
def mb_LatticefitModel_agrees : ma_Tb := [(0, [true, false, false], (1, .aload_n 0, 0, 0) :: (1, .aload_n 0, 0, 0) :: (3, .getfield 168, 11, 29) :: (3, .ifCond .ne (7), 0, 0) :: (1, .iconst (1), 0, 1) :: (3, .goto (4), 0, 0) :: []),
  (12, [true, false, false], (1, .iconst (0), 0, 0) :: []),
  (13, [true, false, false], (1, .iconst (1), 0, 1) :: (3, .invokevirtual 145, 186, 11) :: mt_LatticefitModel_agrees_17),
  (22, [true, false, false], (1, .aload_n 0, 0, 0) :: (3, .invokevirtual 368, 259, 11) :: mt_LatticefitModel_agrees_26),
  (34, [true, true, true], (1, .iload_n 2, 0, 0) :: (1, .aload_n 0, 0, 0) :: (3, .getfield 185, 11, 11) :: (3, .if_icmp .ge (45), 0, 0) :: (1, .iload_n 1, 0, 0) :: (1, .aload_n 0, 0, 0) :: (3, .getfield 121, 11, 45) :: (1, .aload_n 0, 0, 0) :: (3, .getfield 29, 11, 6) :: (1, .iload_n 2, 0, 0) :: (1, .iaload, 0, 0) :: (1, .baload, 0, 0) :: (1, .aload_n 0, 0, 0) :: (1, .aload_n 0, 0, 0) :: (3, .getfield 109, 11, 41) :: (3, .sipush (468), 0, 468) :: (1, .iload_n 2, 0, 0) :: (1, .iadd, 0, 0) :: (1, .iaload, 0, 0) :: (3, .invokevirtual 365, 262, 11) :: mt_LatticefitModel_agrees_68),
  (75, [true, false, true], (1, .iconst (0), 0, 0) :: []),
  (76, [true, false, true], (1, .iand, 0, 0) :: (1, .istore_n 1, 0, 0) :: (3, .iinc 2 (1), 0, 0) :: (3, .goto (-47), 0, 0) :: []),
  (84, [true, true, false], (1, .iconst (0), 0, 0) :: (1, .istore_n 2, 0, 0) :: []),
  (86, [true, true, true], (1, .iload_n 2, 0, 0) :: (1, .aload_n 0, 0, 0) :: (3, .getfield 149, 11, 8) :: (3, .if_icmp .ge (53), 0, 0) :: (1, .iload_n 1, 0, 0) :: (1, .aload_n 0, 0, 0) :: (3, .getfield 9, 11, 0) :: (1, .iload_n 2, 0, 0) :: (1, .caload, 0, 0) :: (2, .bipush (114), 0, 114) :: (3, .if_icmp .ne (28), 0, 0) :: (1, .aload_n 0, 0, 0) :: (3, .getfield 112, 11, 42) :: (1, .iload_n 2, 0, 0) :: (1, .baload, 0, 0) :: (1, .aload_n 0, 0, 0) :: (3, .getfield 115, 11, 43) :: (1, .aload_n 0, 0, 0) :: (3, .getfield 58, 11, 19) :: (1, .aload_n 0, 0, 0) :: (3, .getfield 46, 11, 15) :: (1, .iload_n 2, 0, 0) :: (1, .iaload, 0, 0) :: (1, .iaload, 0, 0) :: (1, .baload, 0, 0) :: (3, .if_icmp .ne (7), 0, 0) :: []),
  (131, [true, false, true], (1, .iconst (1), 0, 1) :: (3, .goto (4), 0, 0) :: []),
  (135, [true, false, true], (1, .iconst (0), 0, 0) :: []),
  (136, [true, false, true], (1, .iand, 0, 0) :: (1, .istore_n 1, 0, 0) :: (3, .iinc 2 (1), 0, 0) :: (3, .goto (-55), 0, 0) :: []),
  (144, [false, true, false], (1, .iload_n 1, 0, 0) :: (1, .ireturn, 0, 0) :: [])]
def mt_LatticefitModel_fill_17 : List ma_AI := (3, .ifCond .eq (5), 0, 0) :: (1, .fconst 0, 0, 0) :: (1, .freturn, 0, 0) :: []
def mb_LatticefitModel_fill : ma_Tb := [(0, [true, false, false], (1, .aload_n 0, 0, 0) :: (1, .aload_n 0, 0, 0) :: (3, .getfield 162, 11, 27) :: (3, .ifCond .ne (7), 0, 0) :: (1, .iconst (1), 0, 1) :: (3, .goto (4), 0, 0) :: []),
  (12, [true, false, false], (1, .iconst (0), 0, 0) :: []),
  (13, [true, false, false], (1, .iconst (1), 0, 1) :: (3, .invokevirtual 145, 186, 11) :: mt_LatticefitModel_fill_17),
  (22, [true, false, false], (1, .iconst (0), 0, 0) :: (1, .istore_n 1, 0, 0) :: (1, .iconst (0), 0, 0) :: (1, .istore_n 2, 0, 0) :: []),
  (26, [true, true, true], (1, .iload_n 2, 0, 0) :: (2, .bipush (84), 0, 84) :: (3, .if_icmp .ge (18), 0, 0) :: (1, .iload_n 1, 0, 0) :: (1, .aload_n 0, 0, 0) :: (3, .getfield 91, 11, 35) :: (1, .iload_n 2, 0, 0) :: (1, .iaload, 0, 0) :: (1, .iadd, 0, 0) :: (1, .istore_n 1, 0, 0) :: (3, .iinc 2 (1), 0, 0) :: (3, .goto (-18), 0, 0) :: []),
  (47, [false, true, false], (1, .iload_n 1, 0, 0) :: (1, .i2f, 0, 0) :: (3, .ldc_w 386, 1, 1126694912) :: (1, .fdiv, 0, 0) :: (1, .freturn, 0, 0) :: [])]
def mb_LatticefitModel_isConsistent : ma_Tb := [(0, [true], (1, .aload_n 0, 0, 0) :: (1, .iconst (0), 0, 0) :: (3, .putfield 137, 11, 50) :: (1, .iconst (1), 0, 1) :: (1, .ireturn, 0, 0) :: [])]
def mt_law_241 : List ma_AI := (2, .iload 6, 0, 0) :: (3, .if_icmp .eq (5), 0, 0) :: (1, .iconst (0), 0, 0) :: (1, .ireturn, 0, 0) :: []
def mt_law_235 : List ma_AI := (2, .istore 7, 0, 0) :: (1, .aload_n 2, 0, 0) :: (3, .invokevirtual 161, 184, 11) :: mt_law_241
def mt_law_229 : List ma_AI := (2, .istore 6, 0, 0) :: (1, .aload_n 2, 0, 0) :: (3, .invokevirtual 160, 185, 11) :: mt_law_235
def mt_law_293 : List ma_AI := (2, .istore 6, 0, 0) :: (1, .aload_n 2, 0, 0) :: (1, .aload_n 0, 0, 0) :: (2, .iload 5, 0, 0) :: (1, .iconst (1), 0, 1) :: (1, .iadd, 0, 0) :: (1, .iaload, 0, 0) :: (3, .ifCond .eq (7), 0, 0) :: (1, .iconst (1), 0, 1) :: (3, .goto (4), 0, 0) :: []
def mt_law_325 : List ma_AI := (2, .iload 6, 0, 0) :: (3, .if_icmp .eq (5), 0, 0) :: (1, .iconst (0), 0, 0) :: (1, .ireturn, 0, 0) :: []
def mt_law_319 : List ma_AI := (2, .istore 7, 0, 0) :: (1, .aload_n 2, 0, 0) :: (3, .invokevirtual 161, 184, 11) :: mt_law_325
def mt_law_407 : List ma_AI := (2, .iload 6, 0, 0) :: (3, .if_icmp .eq (5), 0, 0) :: (1, .iconst (0), 0, 0) :: (1, .ireturn, 0, 0) :: []
def mt_law_401 : List ma_AI := (2, .istore 7, 0, 0) :: (1, .aload_n 2, 0, 0) :: (3, .invokevirtual 161, 184, 11) :: mt_law_407
def mt_law_376 : List ma_AI := (2, .istore 6, 0, 0) :: (1, .aload_n 2, 0, 0) :: (1, .aload_n 0, 0, 0) :: (2, .iload 5, 0, 0) :: (1, .iconst (1), 0, 1) :: (1, .iadd, 0, 0) :: (1, .iaload, 0, 0) :: (1, .i2c, 0, 0) :: (1, .aload_n 0, 0, 0) :: (2, .iload 5, 0, 0) :: (1, .iconst (2), 0, 2) :: (1, .iadd, 0, 0) :: (1, .iaload, 0, 0) :: (1, .aload_n 0, 0, 0) :: (2, .iload 5, 0, 0) :: (1, .iconst (3), 0, 3) :: (1, .iadd, 0, 0) :: (1, .iaload, 0, 0) :: (3, .invokevirtual 171, 192, 11) :: mt_law_401
def mt_law_475 : List ma_AI := (2, .iload 6, 0, 0) :: (3, .if_icmp .eq (5), 0, 0) :: (1, .iconst (0), 0, 0) :: (1, .ireturn, 0, 0) :: []
def mt_law_469 : List ma_AI := (2, .istore 7, 0, 0) :: (1, .aload_n 2, 0, 0) :: (3, .invokevirtual 161, 184, 11) :: mt_law_475
def mt_law_451 : List ma_AI := (2, .istore 6, 0, 0) :: (1, .aload_n 2, 0, 0) :: (1, .aload_n 0, 0, 0) :: (2, .iload 5, 0, 0) :: (1, .iconst (1), 0, 1) :: (1, .iadd, 0, 0) :: (1, .iaload, 0, 0) :: (1, .aload_n 0, 0, 0) :: (2, .iload 5, 0, 0) :: (1, .iconst (2), 0, 2) :: (1, .iadd, 0, 0) :: (1, .iaload, 0, 0) :: (3, .invokevirtual 175, 193, 11) :: mt_law_469
def mt_law_531 : List ma_AI := (2, .iload 6, 0, 0) :: (3, .if_icmp .eq (5), 0, 0) :: (1, .iconst (0), 0, 0) :: (1, .ireturn, 0, 0) :: []
def mt_law_525 : List ma_AI := (2, .istore 7, 0, 0) :: (1, .aload_n 2, 0, 0) :: (3, .invokevirtual 161, 184, 11) :: mt_law_531
def mt_law_513 : List ma_AI := (2, .istore 6, 0, 0) :: (1, .aload_n 2, 0, 0) :: (1, .aload_n 0, 0, 0) :: (2, .iload 5, 0, 0) :: (1, .iconst (1), 0, 1) :: (1, .iadd, 0, 0) :: (1, .iaload, 0, 0) :: (3, .invokevirtual 179, 194, 11) :: mt_law_525
def mt_law_587 : List ma_AI := (2, .iload 6, 0, 0) :: (3, .if_icmp .eq (5), 0, 0) :: (1, .iconst (0), 0, 0) :: (1, .ireturn, 0, 0) :: []
def mt_law_581 : List ma_AI := (2, .istore 7, 0, 0) :: (1, .aload_n 2, 0, 0) :: (3, .invokevirtual 161, 184, 11) :: mt_law_587
def mt_law_569 : List ma_AI := (2, .istore 6, 0, 0) :: (1, .aload_n 2, 0, 0) :: (1, .aload_n 0, 0, 0) :: (2, .iload 5, 0, 0) :: (1, .iconst (1), 0, 1) :: (1, .iadd, 0, 0) :: (1, .iaload, 0, 0) :: (3, .invokevirtual 182, 196, 11) :: mt_law_581
def mt_law_631 : List ma_AI := (2, .iload 6, 0, 0) :: (3, .if_icmp .eq (5), 0, 0) :: (1, .iconst (0), 0, 0) :: (1, .ireturn, 0, 0) :: []
def mt_law_625 : List ma_AI := (2, .istore 7, 0, 0) :: (1, .aload_n 2, 0, 0) :: (3, .invokevirtual 161, 184, 11) :: mt_law_631
def mt_law_619 : List ma_AI := (2, .istore 6, 0, 0) :: (1, .aload_n 2, 0, 0) :: (3, .invokevirtual 185, 197, 11) :: mt_law_625
def mt_law_687 : List ma_AI := (2, .iload 6, 0, 0) :: (3, .if_icmp .eq (5), 0, 0) :: (1, .iconst (0), 0, 0) :: (1, .ireturn, 0, 0) :: []
def mt_law_681 : List ma_AI := (2, .istore 7, 0, 0) :: (1, .aload_n 2, 0, 0) :: (3, .invokevirtual 161, 184, 11) :: mt_law_687
def mt_law_669 : List ma_AI := (2, .istore 6, 0, 0) :: (1, .aload_n 2, 0, 0) :: (1, .aload_n 0, 0, 0) :: (2, .iload 5, 0, 0) :: (1, .iconst (1), 0, 1) :: (1, .iadd, 0, 0) :: (1, .iaload, 0, 0) :: (3, .invokevirtual 188, 210, 11) :: mt_law_681
def mt_law_743 : List ma_AI := (2, .iload 6, 0, 0) :: (3, .if_icmp .eq (5), 0, 0) :: (1, .iconst (0), 0, 0) :: (1, .ireturn, 0, 0) :: []
def mt_law_737 : List ma_AI := (2, .istore 7, 0, 0) :: (1, .aload_n 2, 0, 0) :: (3, .invokevirtual 161, 184, 11) :: mt_law_743
def mt_law_725 : List ma_AI := (2, .istore 6, 0, 0) :: (1, .aload_n 2, 0, 0) :: (1, .aload_n 0, 0, 0) :: (2, .iload 5, 0, 0) :: (1, .iconst (1), 0, 1) :: (1, .iadd, 0, 0) :: (1, .iaload, 0, 0) :: (3, .invokevirtual 191, 212, 11) :: mt_law_737
def mt_law_806 : List ma_AI := (2, .iload 6, 0, 0) :: (3, .if_icmp .eq (5), 0, 0) :: (1, .iconst (0), 0, 0) :: (1, .ireturn, 0, 0) :: []
def mt_law_800 : List ma_AI := (2, .istore 7, 0, 0) :: (1, .aload_n 2, 0, 0) :: (3, .invokevirtual 161, 184, 11) :: mt_law_806
def mt_law_788 : List ma_AI := (2, .istore 6, 0, 0) :: (1, .aload_n 2, 0, 0) :: (1, .aload_n 0, 0, 0) :: (2, .iload 5, 0, 0) :: (1, .iconst (1), 0, 1) :: (1, .iadd, 0, 0) :: (1, .iaload, 0, 0) :: (3, .invokevirtual 194, 213, 11) :: mt_law_800
def mt_law_874 : List ma_AI := (2, .iload 6, 0, 0) :: (3, .if_icmp .eq (5), 0, 0) :: (1, .iconst (0), 0, 0) :: (1, .ireturn, 0, 0) :: []
def mt_law_868 : List ma_AI := (2, .istore 7, 0, 0) :: (1, .aload_n 2, 0, 0) :: (3, .invokevirtual 161, 184, 11) :: mt_law_874
def mt_law_850 : List ma_AI := (2, .istore 6, 0, 0) :: (1, .aload_n 2, 0, 0) :: (1, .aload_n 0, 0, 0) :: (2, .iload 5, 0, 0) :: (1, .iconst (1), 0, 1) :: (1, .iadd, 0, 0) :: (1, .iaload, 0, 0) :: (1, .aload_n 0, 0, 0) :: (2, .iload 5, 0, 0) :: (1, .iconst (2), 0, 2) :: (1, .iadd, 0, 0) :: (1, .iaload, 0, 0) :: (3, .invokevirtual 197, 215, 11) :: mt_law_868
def mt_law_930 : List ma_AI := (2, .iload 6, 0, 0) :: (3, .if_icmp .eq (5), 0, 0) :: (1, .iconst (0), 0, 0) :: (1, .ireturn, 0, 0) :: []
def mt_law_924 : List ma_AI := (2, .istore 7, 0, 0) :: (1, .aload_n 2, 0, 0) :: (3, .invokevirtual 161, 184, 11) :: mt_law_930
def mt_law_912 : List ma_AI := (2, .istore 6, 0, 0) :: (1, .aload_n 2, 0, 0) :: (1, .aload_n 0, 0, 0) :: (2, .iload 5, 0, 0) :: (1, .iconst (1), 0, 1) :: (1, .iadd, 0, 0) :: (1, .iaload, 0, 0) :: (3, .invokevirtual 200, 216, 11) :: mt_law_924
def mt_law_986 : List ma_AI := (2, .iload 6, 0, 0) :: (3, .if_icmp .eq (5), 0, 0) :: (1, .iconst (0), 0, 0) :: (1, .ireturn, 0, 0) :: []
def mt_law_980 : List ma_AI := (2, .istore 7, 0, 0) :: (1, .aload_n 2, 0, 0) :: (3, .invokevirtual 161, 184, 11) :: mt_law_986
def mt_law_968 : List ma_AI := (2, .istore 6, 0, 0) :: (1, .aload_n 2, 0, 0) :: (1, .aload_n 0, 0, 0) :: (2, .iload 5, 0, 0) :: (1, .iconst (1), 0, 1) :: (1, .iadd, 0, 0) :: (1, .iaload, 0, 0) :: (3, .invokevirtual 203, 217, 11) :: mt_law_980
def mt_law_1054 : List ma_AI := (2, .iload 6, 0, 0) :: (3, .if_icmp .eq (5), 0, 0) :: (1, .iconst (0), 0, 0) :: (1, .ireturn, 0, 0) :: []
def mt_law_1048 : List ma_AI := (2, .istore 7, 0, 0) :: (1, .aload_n 2, 0, 0) :: (3, .invokevirtual 161, 184, 11) :: mt_law_1054
def mt_law_1030 : List ma_AI := (2, .istore 6, 0, 0) :: (1, .aload_n 2, 0, 0) :: (1, .aload_n 0, 0, 0) :: (2, .iload 5, 0, 0) :: (1, .iconst (1), 0, 1) :: (1, .iadd, 0, 0) :: (1, .iaload, 0, 0) :: (1, .aload_n 0, 0, 0) :: (2, .iload 5, 0, 0) :: (1, .iconst (2), 0, 2) :: (1, .iadd, 0, 0) :: (1, .iaload, 0, 0) :: (3, .invokevirtual 206, 218, 11) :: mt_law_1048
def mt_law_1134 : List ma_AI := (2, .iload 6, 0, 0) :: (3, .if_icmp .eq (5), 0, 0) :: (1, .iconst (0), 0, 0) :: (1, .ireturn, 0, 0) :: []
def mt_law_1128 : List ma_AI := (2, .istore 7, 0, 0) :: (1, .aload_n 2, 0, 0) :: (3, .invokevirtual 161, 184, 11) :: mt_law_1134
def mt_law_1104 : List ma_AI := (2, .istore 6, 0, 0) :: (1, .aload_n 2, 0, 0) :: (1, .aload_n 0, 0, 0) :: (2, .iload 5, 0, 0) :: (1, .iconst (1), 0, 1) :: (1, .iadd, 0, 0) :: (1, .iaload, 0, 0) :: (1, .aload_n 0, 0, 0) :: (2, .iload 5, 0, 0) :: (1, .iconst (2), 0, 2) :: (1, .iadd, 0, 0) :: (1, .iaload, 0, 0) :: (1, .aload_n 0, 0, 0) :: (2, .iload 5, 0, 0) :: (1, .iconst (3), 0, 3) :: (1, .iadd, 0, 0) :: (1, .iaload, 0, 0) :: (3, .invokevirtual 210, 226, 11) :: mt_law_1128
def mt_law_1190 : List ma_AI := (2, .iload 6, 0, 0) :: (3, .if_icmp .eq (5), 0, 0) :: (1, .iconst (0), 0, 0) :: (1, .ireturn, 0, 0) :: []
def mt_law_1184 : List ma_AI := (2, .istore 7, 0, 0) :: (1, .aload_n 2, 0, 0) :: (3, .invokevirtual 161, 184, 11) :: mt_law_1190
def mt_law_1172 : List ma_AI := (2, .istore 6, 0, 0) :: (1, .aload_n 2, 0, 0) :: (1, .aload_n 0, 0, 0) :: (2, .iload 5, 0, 0) :: (1, .iconst (1), 0, 1) :: (1, .iadd, 0, 0) :: (1, .iaload, 0, 0) :: (3, .invokevirtual 213, 229, 11) :: mt_law_1184
def mt_law_1234 : List ma_AI := (2, .iload 6, 0, 0) :: (3, .if_icmp .eq (5), 0, 0) :: (1, .iconst (0), 0, 0) :: (1, .ireturn, 0, 0) :: []
def mt_law_1228 : List ma_AI := (2, .istore 7, 0, 0) :: (1, .aload_n 2, 0, 0) :: (3, .invokevirtual 161, 184, 11) :: mt_law_1234
def mt_law_1222 : List ma_AI := (2, .istore 6, 0, 0) :: (1, .aload_n 2, 0, 0) :: (3, .invokevirtual 216, 230, 11) :: mt_law_1228
def mt_law_1278 : List ma_AI := (2, .iload 6, 0, 0) :: (3, .if_icmp .eq (5), 0, 0) :: (1, .iconst (0), 0, 0) :: (1, .ireturn, 0, 0) :: []
def mt_law_1272 : List ma_AI := (2, .istore 7, 0, 0) :: (1, .aload_n 2, 0, 0) :: (3, .invokevirtual 161, 184, 11) :: mt_law_1278
def mt_law_1266 : List ma_AI := (2, .istore 6, 0, 0) :: (1, .aload_n 2, 0, 0) :: (3, .invokevirtual 219, 231, 11) :: mt_law_1272
def mt_law_1334 : List ma_AI := (2, .iload 6, 0, 0) :: (3, .if_icmp .eq (5), 0, 0) :: (1, .iconst (0), 0, 0) :: (1, .ireturn, 0, 0) :: []
def mt_law_1328 : List ma_AI := (2, .istore 7, 0, 0) :: (1, .aload_n 2, 0, 0) :: (3, .invokevirtual 161, 184, 11) :: mt_law_1334
def mt_law_1316 : List ma_AI := (2, .istore 6, 0, 0) :: (1, .aload_n 2, 0, 0) :: (1, .aload_n 0, 0, 0) :: (2, .iload 5, 0, 0) :: (1, .iconst (1), 0, 1) :: (1, .iadd, 0, 0) :: (1, .iaload, 0, 0) :: (3, .invokevirtual 222, 232, 11) :: mt_law_1328
def mt_law_1369 : List ma_AI := (3, .if_icmp .eq (1226), 0, 0) :: (1, .iconst (0), 0, 0) :: (1, .ireturn, 0, 0) :: []
def mt_law_1365 : List ma_AI := (1, .aload_n 2, 0, 0) :: (3, .invokevirtual 226, 238, 11) :: mt_law_1369
def mt_law_1403 : List ma_AI := (2, .iload 6, 0, 0) :: (3, .if_icmp .eq (5), 0, 0) :: (1, .iconst (0), 0, 0) :: (1, .ireturn, 0, 0) :: []
def mt_law_1397 : List ma_AI := (2, .istore 7, 0, 0) :: (1, .aload_n 2, 0, 0) :: (3, .invokevirtual 161, 184, 11) :: mt_law_1403
def mt_law_1385 : List ma_AI := (2, .istore 6, 0, 0) :: (1, .aload_n 2, 0, 0) :: (1, .aload_n 0, 0, 0) :: (2, .iload 5, 0, 0) :: (1, .iconst (1), 0, 1) :: (1, .iadd, 0, 0) :: (1, .iaload, 0, 0) :: (3, .invokevirtual 229, 239, 11) :: mt_law_1397
def mt_law_1471 : List ma_AI := (2, .iload 6, 0, 0) :: (3, .if_icmp .eq (5), 0, 0) :: (1, .iconst (0), 0, 0) :: (1, .ireturn, 0, 0) :: []
def mt_law_1465 : List ma_AI := (2, .istore 7, 0, 0) :: (1, .aload_n 2, 0, 0) :: (3, .invokevirtual 161, 184, 11) :: mt_law_1471
def mt_law_1447 : List ma_AI := (2, .istore 6, 0, 0) :: (1, .aload_n 2, 0, 0) :: (1, .aload_n 0, 0, 0) :: (2, .iload 5, 0, 0) :: (1, .iconst (1), 0, 1) :: (1, .iadd, 0, 0) :: (1, .iaload, 0, 0) :: (1, .aload_n 0, 0, 0) :: (2, .iload 5, 0, 0) :: (1, .iconst (2), 0, 2) :: (1, .iadd, 0, 0) :: (1, .iaload, 0, 0) :: (3, .invokevirtual 232, 240, 11) :: mt_law_1465
def mt_law_1527 : List ma_AI := (2, .iload 6, 0, 0) :: (3, .if_icmp .eq (5), 0, 0) :: (1, .iconst (0), 0, 0) :: (1, .ireturn, 0, 0) :: []
def mt_law_1521 : List ma_AI := (2, .istore 7, 0, 0) :: (1, .aload_n 2, 0, 0) :: (3, .invokevirtual 161, 184, 11) :: mt_law_1527
def mt_law_1509 : List ma_AI := (2, .istore 6, 0, 0) :: (1, .aload_n 2, 0, 0) :: (1, .aload_n 0, 0, 0) :: (2, .iload 5, 0, 0) :: (1, .iconst (1), 0, 1) :: (1, .iadd, 0, 0) :: (1, .iaload, 0, 0) :: (3, .invokevirtual 235, 242, 11) :: mt_law_1521
def mt_law_1571 : List ma_AI := (2, .iload 6, 0, 0) :: (3, .if_icmp .eq (5), 0, 0) :: (1, .iconst (0), 0, 0) :: (1, .ireturn, 0, 0) :: []
def mt_law_1565 : List ma_AI := (2, .istore 7, 0, 0) :: (1, .aload_n 2, 0, 0) :: (3, .invokevirtual 161, 184, 11) :: mt_law_1571
def mt_law_1559 : List ma_AI := (2, .istore 6, 0, 0) :: (1, .aload_n 2, 0, 0) :: (3, .invokevirtual 238, 246, 11) :: mt_law_1565
def mt_law_1616 : List ma_AI := (2, .iload 6, 0, 0) :: (3, .if_icmp .eq (5), 0, 0) :: (1, .iconst (0), 0, 0) :: (1, .ireturn, 0, 0) :: []
def mt_law_1610 : List ma_AI := (2, .dstore 7, 0, 0) :: (1, .aload_n 2, 0, 0) :: (3, .invokevirtual 161, 184, 11) :: mt_law_1616
def mt_law_1604 : List ma_AI := (2, .istore 6, 0, 0) :: (1, .aload_n 2, 0, 0) :: (3, .invokevirtual 242, 247, 11) :: mt_law_1610
def mt_law_1680 : List ma_AI := (2, .iload 6, 0, 0) :: (3, .if_icmp .eq (5), 0, 0) :: (1, .iconst (0), 0, 0) :: (1, .ireturn, 0, 0) :: []
def mt_law_1674 : List ma_AI := (2, .istore 7, 0, 0) :: (1, .aload_n 2, 0, 0) :: (3, .invokevirtual 161, 184, 11) :: mt_law_1680
def mt_law_1668 : List ma_AI := (2, .istore 6, 0, 0) :: (1, .aload_n 2, 0, 0) :: (3, .invokevirtual 245, 249, 11) :: mt_law_1674
def mt_law_1748 : List ma_AI := (2, .iload 6, 0, 0) :: (3, .if_icmp .eq (5), 0, 0) :: (1, .iconst (0), 0, 0) :: (1, .ireturn, 0, 0) :: []
def mt_law_1742 : List ma_AI := (2, .istore 7, 0, 0) :: (1, .aload_n 2, 0, 0) :: (3, .invokevirtual 161, 184, 11) :: mt_law_1748
def mt_law_1724 : List ma_AI := (2, .istore 6, 0, 0) :: (1, .aload_n 2, 0, 0) :: (1, .aload_n 0, 0, 0) :: (2, .iload 5, 0, 0) :: (1, .iconst (1), 0, 1) :: (1, .iadd, 0, 0) :: (1, .iaload, 0, 0) :: (1, .aload_n 0, 0, 0) :: (2, .iload 5, 0, 0) :: (1, .iconst (2), 0, 2) :: (1, .iadd, 0, 0) :: (1, .iaload, 0, 0) :: (3, .invokevirtual 248, 252, 11) :: mt_law_1742
def mt_law_1804 : List ma_AI := (2, .iload 6, 0, 0) :: (3, .if_icmp .eq (5), 0, 0) :: (1, .iconst (0), 0, 0) :: (1, .ireturn, 0, 0) :: []
def mt_law_1798 : List ma_AI := (2, .istore 7, 0, 0) :: (1, .aload_n 2, 0, 0) :: (3, .invokevirtual 161, 184, 11) :: mt_law_1804
def mt_law_1786 : List ma_AI := (2, .istore 6, 0, 0) :: (1, .aload_n 2, 0, 0) :: (1, .aload_n 0, 0, 0) :: (2, .iload 5, 0, 0) :: (1, .iconst (1), 0, 1) :: (1, .iadd, 0, 0) :: (1, .iaload, 0, 0) :: (3, .invokevirtual 251, 254, 11) :: mt_law_1798
def mt_law_1848 : List ma_AI := (2, .iload 6, 0, 0) :: (3, .if_icmp .eq (5), 0, 0) :: (1, .iconst (0), 0, 0) :: (1, .ireturn, 0, 0) :: []
def mt_law_1842 : List ma_AI := (2, .istore 7, 0, 0) :: (1, .aload_n 2, 0, 0) :: (3, .invokevirtual 161, 184, 11) :: mt_law_1848
def mt_law_1836 : List ma_AI := (2, .istore 6, 0, 0) :: (1, .aload_n 2, 0, 0) :: (3, .invokevirtual 254, 256, 11) :: mt_law_1842
def mt_law_1900 : List ma_AI := (2, .istore 6, 0, 0) :: (1, .aload_n 2, 0, 0) :: (1, .aload_n 0, 0, 0) :: (2, .iload 5, 0, 0) :: (1, .iconst (1), 0, 1) :: (1, .iadd, 0, 0) :: (1, .iaload, 0, 0) :: (1, .aload_n 0, 0, 0) :: (2, .iload 5, 0, 0) :: (1, .iconst (2), 0, 2) :: (1, .iadd, 0, 0) :: (1, .iaload, 0, 0) :: (3, .ifCond .eq (7), 0, 0) :: (1, .iconst (1), 0, 1) :: (3, .goto (4), 0, 0) :: []
def mt_law_1932 : List ma_AI := (2, .iload 6, 0, 0) :: (3, .if_icmp .eq (5), 0, 0) :: (1, .iconst (0), 0, 0) :: (1, .ireturn, 0, 0) :: []
def mt_law_1926 : List ma_AI := (2, .istore 7, 0, 0) :: (1, .aload_n 2, 0, 0) :: (3, .invokevirtual 161, 184, 11) :: mt_law_1932
def mt_law_1995 : List ma_AI := (2, .iload 6, 0, 0) :: (3, .if_icmp .eq (5), 0, 0) :: (1, .iconst (0), 0, 0) :: (1, .ireturn, 0, 0) :: []
def mt_law_1989 : List ma_AI := (2, .lstore 7, 0, 0) :: (1, .aload_n 2, 0, 0) :: (3, .invokevirtual 161, 184, 11) :: mt_law_1995
def mt_law_1977 : List ma_AI := (2, .istore 6, 0, 0) :: (1, .aload_n 2, 0, 0) :: (1, .aload_n 0, 0, 0) :: (2, .iload 5, 0, 0) :: (1, .iconst (1), 0, 1) :: (1, .iadd, 0, 0) :: (1, .iaload, 0, 0) :: (3, .invokevirtual 261, 258, 11) :: mt_law_1989
def mt_law_2050 : List ma_AI := (2, .iload 6, 0, 0) :: (3, .if_icmp .eq (5), 0, 0) :: (1, .iconst (0), 0, 0) :: (1, .ireturn, 0, 0) :: []
def mt_law_2044 : List ma_AI := (2, .istore 7, 0, 0) :: (1, .aload_n 2, 0, 0) :: (3, .invokevirtual 161, 184, 11) :: mt_law_2050
def mt_law_2032 : List ma_AI := (2, .istore 6, 0, 0) :: (1, .aload_n 2, 0, 0) :: (1, .aload_n 0, 0, 0) :: (2, .iload 5, 0, 0) :: (1, .iconst (1), 0, 1) :: (1, .iadd, 0, 0) :: (1, .iaload, 0, 0) :: (3, .invokevirtual 264, 264, 11) :: mt_law_2044
def mt_law_2113 : List ma_AI := (2, .iload 6, 0, 0) :: (3, .if_icmp .eq (5), 0, 0) :: (1, .iconst (0), 0, 0) :: (1, .ireturn, 0, 0) :: []
def mt_law_2107 : List ma_AI := (2, .istore 7, 0, 0) :: (1, .aload_n 2, 0, 0) :: (3, .invokevirtual 161, 184, 11) :: mt_law_2113
def mt_law_2095 : List ma_AI := (2, .istore 6, 0, 0) :: (1, .aload_n 2, 0, 0) :: (1, .aload_n 0, 0, 0) :: (2, .iload 5, 0, 0) :: (1, .iconst (1), 0, 1) :: (1, .iadd, 0, 0) :: (1, .iaload, 0, 0) :: (3, .invokevirtual 267, 266, 11) :: mt_law_2107
def mt_law_2176 : List ma_AI := (2, .iload 6, 0, 0) :: (3, .if_icmp .eq (5), 0, 0) :: (1, .iconst (0), 0, 0) :: (1, .ireturn, 0, 0) :: []
def mt_law_2170 : List ma_AI := (2, .istore 7, 0, 0) :: (1, .aload_n 2, 0, 0) :: (3, .invokevirtual 161, 184, 11) :: mt_law_2176
def mt_law_2158 : List ma_AI := (2, .istore 6, 0, 0) :: (1, .aload_n 2, 0, 0) :: (1, .aload_n 0, 0, 0) :: (2, .iload 5, 0, 0) :: (1, .iconst (1), 0, 1) :: (1, .iadd, 0, 0) :: (1, .iaload, 0, 0) :: (3, .invokevirtual 270, 267, 11) :: mt_law_2170
def mt_law_2251 : List ma_AI := (2, .iload 6, 0, 0) :: (3, .if_icmp .eq (5), 0, 0) :: (1, .iconst (0), 0, 0) :: (1, .ireturn, 0, 0) :: []
def mt_law_2245 : List ma_AI := (2, .istore 7, 0, 0) :: (1, .aload_n 2, 0, 0) :: (3, .invokevirtual 161, 184, 11) :: mt_law_2251
def mt_law_2227 : List ma_AI := (2, .istore 6, 0, 0) :: (1, .aload_n 2, 0, 0) :: (1, .aload_n 0, 0, 0) :: (2, .iload 5, 0, 0) :: (1, .iconst (1), 0, 1) :: (1, .iadd, 0, 0) :: (1, .iaload, 0, 0) :: (1, .aload_n 0, 0, 0) :: (2, .iload 5, 0, 0) :: (1, .iconst (2), 0, 2) :: (1, .iadd, 0, 0) :: (1, .iaload, 0, 0) :: (3, .invokevirtual 273, 268, 11) :: mt_law_2245
def mt_law_2331 : List ma_AI := (2, .iload 6, 0, 0) :: (3, .if_icmp .eq (5), 0, 0) :: (1, .iconst (0), 0, 0) :: (1, .ireturn, 0, 0) :: []
def mt_law_2325 : List ma_AI := (2, .istore 7, 0, 0) :: (1, .aload_n 2, 0, 0) :: (3, .invokevirtual 161, 184, 11) :: mt_law_2331
def mt_law_2301 : List ma_AI := (2, .istore 6, 0, 0) :: (1, .aload_n 2, 0, 0) :: (1, .aload_n 0, 0, 0) :: (2, .iload 5, 0, 0) :: (1, .iconst (1), 0, 1) :: (1, .iadd, 0, 0) :: (1, .iaload, 0, 0) :: (1, .aload_n 0, 0, 0) :: (2, .iload 5, 0, 0) :: (1, .iconst (2), 0, 2) :: (1, .iadd, 0, 0) :: (1, .iaload, 0, 0) :: (1, .aload_n 0, 0, 0) :: (2, .iload 5, 0, 0) :: (1, .iconst (3), 0, 3) :: (1, .iadd, 0, 0) :: (1, .iaload, 0, 0) :: (3, .invokevirtual 276, 271, 11) :: mt_law_2325
def mt_law_2387 : List ma_AI := (2, .iload 6, 0, 0) :: (3, .if_icmp .eq (5), 0, 0) :: (1, .iconst (0), 0, 0) :: (1, .ireturn, 0, 0) :: []
def mt_law_2381 : List ma_AI := (2, .istore 7, 0, 0) :: (1, .aload_n 2, 0, 0) :: (3, .invokevirtual 161, 184, 11) :: mt_law_2387
def mt_law_2369 : List ma_AI := (2, .istore 6, 0, 0) :: (1, .aload_n 2, 0, 0) :: (1, .aload_n 0, 0, 0) :: (2, .iload 5, 0, 0) :: (1, .iconst (1), 0, 1) :: (1, .iadd, 0, 0) :: (1, .iaload, 0, 0) :: (3, .invokevirtual 279, 272, 11) :: mt_law_2381
def mt_law_2438 : List ma_AI := (2, .iload 6, 0, 0) :: (3, .if_icmp .eq (5), 0, 0) :: (1, .iconst (0), 0, 0) :: (1, .ireturn, 0, 0) :: []
def mt_law_2432 : List ma_AI := (2, .istore 7, 0, 0) :: (1, .aload_n 2, 0, 0) :: (3, .invokevirtual 161, 184, 11) :: mt_law_2438
def mt_law_2426 : List ma_AI := (2, .istore 6, 0, 0) :: (1, .aload_n 2, 0, 0) :: (3, .invokevirtual 282, 274, 11) :: mt_law_2432
def mt_law_2482 : List ma_AI := (2, .iload 6, 0, 0) :: (3, .if_icmp .eq (5), 0, 0) :: (1, .iconst (0), 0, 0) :: (1, .ireturn, 0, 0) :: []
def mt_law_2476 : List ma_AI := (2, .istore 7, 0, 0) :: (1, .aload_n 2, 0, 0) :: (3, .invokevirtual 161, 184, 11) :: mt_law_2482
def mt_law_2470 : List ma_AI := (2, .istore 6, 0, 0) :: (1, .aload_n 2, 0, 0) :: (3, .invokevirtual 285, 275, 11) :: mt_law_2476
def mt_law_2534 : List ma_AI := (2, .iload 6, 0, 0) :: (3, .if_icmp .eq (5), 0, 0) :: (1, .iconst (0), 0, 0) :: (1, .ireturn, 0, 0) :: []
def mt_law_2528 : List ma_AI := (2, .fstore 7, 0, 0) :: (1, .aload_n 2, 0, 0) :: (3, .invokevirtual 161, 184, 11) :: mt_law_2534
def mt_law_2522 : List ma_AI := (2, .istore 6, 0, 0) :: (1, .aload_n 2, 0, 0) :: (3, .invokevirtual 288, 276, 11) :: mt_law_2528
def mt_law_2590 : List ma_AI := (3, .if_icmp .eq (5), 0, 0) :: (1, .iconst (0), 0, 0) :: (1, .ireturn, 0, 0) :: []
def mt_law_2586 : List ma_AI := (1, .aload_n 2, 0, 0) :: (3, .invokevirtual 292, 277, 11) :: mt_law_2590
def mb_law : ma_Tb := [(0, [true, false, false, false, false, false, false, false, false], (3, .new 8, 0, 0) :: (1, .dup, 0, 0) :: (3, .invokespecial 151, 0, 0) :: (1, .astore_n 1, 0, 0) :: (3, .new 152, 0, 0) :: (1, .dup, 0, 0) :: (3, .invokespecial 154, 0, 0) :: (1, .astore_n 2, 0, 0) :: (1, .iconst (1), 0, 1) :: (2, .newarray .long, 0, 0) :: (1, .astore_n 3, 0, 0) :: (1, .iconst (1), 0, 1) :: (2, .newarray .double, 0, 0) :: (2, .astore 4, 0, 0) :: (1, .iconst (0), 0, 0) :: (2, .istore 5, 0, 0) :: []),
  (28, [true, true, true, true, true, true, false, false, false], (2, .iload 5, 0, 0) :: (1, .aload_n 0, 0, 0) :: (1, .arraylength, 0, 0) :: (1, .iconst (4), 0, 4) :: (1, .isub, 0, 0) :: (3, .if_icmp .gt (2567), 0, 0) :: (1, .aload_n 0, 0, 0) :: (2, .iload 5, 0, 0) :: (1, .iaload, 0, 0) :: (2, .bipush (63), 0, 63) :: (1, .iand, 0, 0) :: (180, .tableswitch (2551) (0) (40) #[(180), (224), (308), (390), (458), (514), (570), (614), (670), (733), (789), (857), (913), (969), (1037), (1117), (1173), (1217), (1261), (1317), (1330), (1386), (1454), (1510), (1554), (1619), (1663), (1731), (1787), (1831), (1922), (1977), (2040), (2103), (2166), (2234), (2314), (2377), (2421), (2472), (2538)], 0, 0) :: []),
  (224, [true, true, true, true, true, true, false, false, false], (1, .aload_n 1, 0, 0) :: (1, .aload_n 3, 0, 0) :: (3, .invokestatic 155, 7, 0) :: mt_law_229),
  (248, [true, true, true, true, true, true, true, true, false], (2, .iload 6, 0, 0) :: (3, .ifCond .ne (15), 0, 0) :: (1, .aload_n 3, 0, 0) :: (1, .iconst (0), 0, 0) :: (1, .laload, 0, 0) :: (2, .iload 7, 0, 0) :: (1, .i2l, 0, 0) :: (1, .lcmp, 0, 0) :: (3, .ifCond .eq (5), 0, 0) :: (1, .iconst (0), 0, 0) :: (1, .ireturn, 0, 0) :: []),
  (265, [true, true, true, true, true, true, false, false, false], (3, .goto (2330), 0, 0) :: []),
  (268, [true, true, true, true, true, true, false, false, false], (1, .aload_n 1, 0, 0) :: (1, .aload_n 0, 0, 0) :: (2, .iload 5, 0, 0) :: (1, .iconst (1), 0, 1) :: (1, .iadd, 0, 0) :: (1, .iaload, 0, 0) :: (3, .ifCond .eq (7), 0, 0) :: (1, .iconst (1), 0, 1) :: (3, .goto (4), 0, 0) :: []),
  (282, [true, true, true, true, true, true, false, false, false], (1, .iconst (0), 0, 0) :: []),
  (283, [true, true, true, true, true, true, false, false, false], (1, .aload_n 0, 0, 0) :: (2, .iload 5, 0, 0) :: (1, .iconst (2), 0, 2) :: (1, .iadd, 0, 0) :: (1, .iaload, 0, 0) :: (1, .aload_n 3, 0, 0) :: (3, .invokestatic 164, 10, 0) :: mt_law_293),
  (309, [true, true, true, true, true, true, true, false, false], (1, .iconst (0), 0, 0) :: []),
  (310, [true, true, true, true, true, true, true, false, false], (1, .aload_n 0, 0, 0) :: (2, .iload 5, 0, 0) :: (1, .iconst (2), 0, 2) :: (1, .iadd, 0, 0) :: (1, .iaload, 0, 0) :: (3, .invokevirtual 167, 190, 11) :: mt_law_319),
  (332, [true, true, true, true, true, true, true, true, false], (2, .iload 6, 0, 0) :: (3, .ifCond .ne (15), 0, 0) :: (1, .aload_n 3, 0, 0) :: (1, .iconst (0), 0, 0) :: (1, .laload, 0, 0) :: (2, .iload 7, 0, 0) :: (1, .i2l, 0, 0) :: (1, .lcmp, 0, 0) :: (3, .ifCond .eq (5), 0, 0) :: (1, .iconst (0), 0, 0) :: (1, .ireturn, 0, 0) :: []),
  (349, [true, true, true, true, true, true, false, false, false], (3, .goto (2246), 0, 0) :: []),
  (352, [true, true, true, true, true, true, false, false, false], (1, .aload_n 1, 0, 0) :: (1, .aload_n 0, 0, 0) :: (2, .iload 5, 0, 0) :: (1, .iconst (1), 0, 1) :: (1, .iadd, 0, 0) :: (1, .iaload, 0, 0) :: (1, .i2c, 0, 0) :: (1, .aload_n 0, 0, 0) :: (2, .iload 5, 0, 0) :: (1, .iconst (2), 0, 2) :: (1, .iadd, 0, 0) :: (1, .iaload, 0, 0) :: (1, .aload_n 0, 0, 0) :: (2, .iload 5, 0, 0) :: (1, .iconst (3), 0, 3) :: (1, .iadd, 0, 0) :: (1, .iaload, 0, 0) :: (1, .aload_n 3, 0, 0) :: (3, .invokestatic 168, 13, 0) :: mt_law_376),
  (414, [true, true, true, true, true, true, true, true, false], (2, .iload 6, 0, 0) :: (3, .ifCond .ne (15), 0, 0) :: (1, .aload_n 3, 0, 0) :: (1, .iconst (0), 0, 0) :: (1, .laload, 0, 0) :: (2, .iload 7, 0, 0) :: (1, .i2l, 0, 0) :: (1, .lcmp, 0, 0) :: (3, .ifCond .eq (5), 0, 0) :: (1, .iconst (0), 0, 0) :: (1, .ireturn, 0, 0) :: []),
  (431, [true, true, true, true, true, true, false, false, false], (3, .goto (2164), 0, 0) :: []),
  (434, [true, true, true, true, true, true, false, false, false], (1, .aload_n 1, 0, 0) :: (1, .aload_n 0, 0, 0) :: (2, .iload 5, 0, 0) :: (1, .iconst (1), 0, 1) :: (1, .iadd, 0, 0) :: (1, .iaload, 0, 0) :: (1, .aload_n 0, 0, 0) :: (2, .iload 5, 0, 0) :: (1, .iconst (2), 0, 2) :: (1, .iadd, 0, 0) :: (1, .iaload, 0, 0) :: (1, .aload_n 3, 0, 0) :: (3, .invokestatic 172, 16, 0) :: mt_law_451),
  (482, [true, true, true, true, true, true, true, true, false], (2, .iload 6, 0, 0) :: (3, .ifCond .ne (15), 0, 0) :: (1, .aload_n 3, 0, 0) :: (1, .iconst (0), 0, 0) :: (1, .laload, 0, 0) :: (2, .iload 7, 0, 0) :: (1, .i2l, 0, 0) :: (1, .lcmp, 0, 0) :: (3, .ifCond .eq (5), 0, 0) :: (1, .iconst (0), 0, 0) :: (1, .ireturn, 0, 0) :: []),
  (499, [true, true, true, true, true, true, false, false, false], (3, .goto (2096), 0, 0) :: []),
  (502, [true, true, true, true, true, true, false, false, false], (1, .aload_n 1, 0, 0) :: (1, .aload_n 0, 0, 0) :: (2, .iload 5, 0, 0) :: (1, .iconst (1), 0, 1) :: (1, .iadd, 0, 0) :: (1, .iaload, 0, 0) :: (1, .aload_n 3, 0, 0) :: (3, .invokestatic 176, 18, 0) :: mt_law_513),
  (538, [true, true, true, true, true, true, true, true, false], (2, .iload 6, 0, 0) :: (3, .ifCond .ne (15), 0, 0) :: (1, .aload_n 3, 0, 0) :: (1, .iconst (0), 0, 0) :: (1, .laload, 0, 0) :: (2, .iload 7, 0, 0) :: (1, .i2l, 0, 0) :: (1, .lcmp, 0, 0) :: (3, .ifCond .eq (5), 0, 0) :: (1, .iconst (0), 0, 0) :: (1, .ireturn, 0, 0) :: []),
  (555, [true, true, true, true, true, true, false, false, false], (3, .goto (2040), 0, 0) :: []),
  (558, [true, true, true, true, true, true, false, false, false], (1, .aload_n 1, 0, 0) :: (1, .aload_n 0, 0, 0) :: (2, .iload 5, 0, 0) :: (1, .iconst (1), 0, 1) :: (1, .iadd, 0, 0) :: (1, .iaload, 0, 0) :: (1, .aload_n 3, 0, 0) :: (3, .invokestatic 180, 21, 0) :: mt_law_569),
  (594, [true, true, true, true, true, true, true, true, false], (2, .iload 6, 0, 0) :: (3, .ifCond .ne (15), 0, 0) :: (1, .aload_n 3, 0, 0) :: (1, .iconst (0), 0, 0) :: (1, .laload, 0, 0) :: (2, .iload 7, 0, 0) :: (1, .i2l, 0, 0) :: (1, .lcmp, 0, 0) :: (3, .ifCond .eq (5), 0, 0) :: (1, .iconst (0), 0, 0) :: (1, .ireturn, 0, 0) :: []),
  (611, [true, true, true, true, true, true, false, false, false], (3, .goto (1984), 0, 0) :: []),
  (614, [true, true, true, true, true, true, false, false, false], (1, .aload_n 1, 0, 0) :: (1, .aload_n 3, 0, 0) :: (3, .invokestatic 183, 23, 0) :: mt_law_619),
  (638, [true, true, true, true, true, true, true, true, false], (2, .iload 6, 0, 0) :: (3, .ifCond .ne (15), 0, 0) :: (1, .aload_n 3, 0, 0) :: (1, .iconst (0), 0, 0) :: (1, .laload, 0, 0) :: (2, .iload 7, 0, 0) :: (1, .i2l, 0, 0) :: (1, .lcmp, 0, 0) :: (3, .ifCond .eq (5), 0, 0) :: (1, .iconst (0), 0, 0) :: (1, .ireturn, 0, 0) :: []),
  (655, [true, true, true, true, true, true, false, false, false], (3, .goto (1940), 0, 0) :: []),
  (658, [true, true, true, true, true, true, false, false, false], (1, .aload_n 1, 0, 0) :: (1, .aload_n 0, 0, 0) :: (2, .iload 5, 0, 0) :: (1, .iconst (1), 0, 1) :: (1, .iadd, 0, 0) :: (1, .iaload, 0, 0) :: (1, .aload_n 3, 0, 0) :: (3, .invokestatic 186, 42, 0) :: mt_law_669),
  (694, [true, true, true, true, true, true, true, true, false], (2, .iload 6, 0, 0) :: (3, .ifCond .ne (15), 0, 0) :: (1, .aload_n 3, 0, 0) :: (1, .iconst (0), 0, 0) :: (1, .laload, 0, 0) :: (2, .iload 7, 0, 0) :: (1, .i2l, 0, 0) :: (1, .lcmp, 0, 0) :: (3, .ifCond .eq (5), 0, 0) :: (1, .iconst (0), 0, 0) :: (1, .ireturn, 0, 0) :: []),
  (711, [true, true, true, true, true, true, false, false, false], (3, .goto (1884), 0, 0) :: []),
  (714, [true, true, true, true, true, true, false, false, false], (1, .aload_n 1, 0, 0) :: (1, .aload_n 0, 0, 0) :: (2, .iload 5, 0, 0) :: (1, .iconst (1), 0, 1) :: (1, .iadd, 0, 0) :: (1, .iaload, 0, 0) :: (1, .aload_n 3, 0, 0) :: (3, .invokestatic 189, 44, 0) :: mt_law_725),
  (750, [true, true, true, true, true, true, true, true, false], (2, .iload 6, 0, 0) :: (3, .ifCond .ne (22), 0, 0) :: (1, .aload_n 3, 0, 0) :: (1, .iconst (0), 0, 0) :: (1, .laload, 0, 0) :: (2, .iload 7, 0, 0) :: (3, .ifCond .eq (7), 0, 0) :: (1, .lconst 1, 0, 1) :: (3, .goto (4), 0, 0) :: []),
  (767, [true, true, true, true, true, true, false, false, false], (1, .lconst 0, 0, 0) :: []),
  (768, [true, true, true, true, true, true, false, false, false], (1, .lcmp, 0, 0) :: (3, .ifCond .eq (5), 0, 0) :: (1, .iconst (0), 0, 0) :: (1, .ireturn, 0, 0) :: []),
  (774, [true, true, true, true, true, true, false, false, false], (3, .goto (1821), 0, 0) :: []),
  (777, [true, true, true, true, true, true, false, false, false], (1, .aload_n 1, 0, 0) :: (1, .aload_n 0, 0, 0) :: (2, .iload 5, 0, 0) :: (1, .iconst (1), 0, 1) :: (1, .iadd, 0, 0) :: (1, .iaload, 0, 0) :: (1, .aload_n 3, 0, 0) :: (3, .invokestatic 192, 46, 0) :: mt_law_788),
  (813, [true, true, true, true, true, true, true, true, false], (2, .iload 6, 0, 0) :: (3, .ifCond .ne (15), 0, 0) :: (1, .aload_n 3, 0, 0) :: (1, .iconst (0), 0, 0) :: (1, .laload, 0, 0) :: (2, .iload 7, 0, 0) :: (1, .i2l, 0, 0) :: (1, .lcmp, 0, 0) :: (3, .ifCond .eq (5), 0, 0) :: (1, .iconst (0), 0, 0) :: (1, .ireturn, 0, 0) :: []),
  (830, [true, true, true, true, true, true, false, false, false], (3, .goto (1765), 0, 0) :: []),
  (833, [true, true, true, true, true, true, false, false, false], (1, .aload_n 1, 0, 0) :: (1, .aload_n 0, 0, 0) :: (2, .iload 5, 0, 0) :: (1, .iconst (1), 0, 1) :: (1, .iadd, 0, 0) :: (1, .iaload, 0, 0) :: (1, .aload_n 0, 0, 0) :: (2, .iload 5, 0, 0) :: (1, .iconst (2), 0, 2) :: (1, .iadd, 0, 0) :: (1, .iaload, 0, 0) :: (1, .aload_n 3, 0, 0) :: (3, .invokestatic 195, 49, 0) :: mt_law_850),
  (881, [true, true, true, true, true, true, true, true, false], (2, .iload 6, 0, 0) :: (3, .ifCond .ne (15), 0, 0) :: (1, .aload_n 3, 0, 0) :: (1, .iconst (0), 0, 0) :: (1, .laload, 0, 0) :: (2, .iload 7, 0, 0) :: (1, .i2l, 0, 0) :: (1, .lcmp, 0, 0) :: (3, .ifCond .eq (5), 0, 0) :: (1, .iconst (0), 0, 0) :: (1, .ireturn, 0, 0) :: []),
  (898, [true, true, true, true, true, true, false, false, false], (3, .goto (1697), 0, 0) :: []),
  (901, [true, true, true, true, true, true, false, false, false], (1, .aload_n 1, 0, 0) :: (1, .aload_n 0, 0, 0) :: (2, .iload 5, 0, 0) :: (1, .iconst (1), 0, 1) :: (1, .iadd, 0, 0) :: (1, .iaload, 0, 0) :: (1, .aload_n 3, 0, 0) :: (3, .invokestatic 198, 51, 0) :: mt_law_912),
  (937, [true, true, true, true, true, true, true, true, false], (2, .iload 6, 0, 0) :: (3, .ifCond .ne (15), 0, 0) :: (1, .aload_n 3, 0, 0) :: (1, .iconst (0), 0, 0) :: (1, .laload, 0, 0) :: (2, .iload 7, 0, 0) :: (1, .i2l, 0, 0) :: (1, .lcmp, 0, 0) :: (3, .ifCond .eq (5), 0, 0) :: (1, .iconst (0), 0, 0) :: (1, .ireturn, 0, 0) :: []),
  (954, [true, true, true, true, true, true, false, false, false], (3, .goto (1641), 0, 0) :: []),
  (957, [true, true, true, true, true, true, false, false, false], (1, .aload_n 1, 0, 0) :: (1, .aload_n 0, 0, 0) :: (2, .iload 5, 0, 0) :: (1, .iconst (1), 0, 1) :: (1, .iadd, 0, 0) :: (1, .iaload, 0, 0) :: (1, .aload_n 3, 0, 0) :: (3, .invokestatic 201, 53, 0) :: mt_law_968),
  (993, [true, true, true, true, true, true, true, true, false], (2, .iload 6, 0, 0) :: (3, .ifCond .ne (15), 0, 0) :: (1, .aload_n 3, 0, 0) :: (1, .iconst (0), 0, 0) :: (1, .laload, 0, 0) :: (2, .iload 7, 0, 0) :: (1, .i2l, 0, 0) :: (1, .lcmp, 0, 0) :: (3, .ifCond .eq (5), 0, 0) :: (1, .iconst (0), 0, 0) :: (1, .ireturn, 0, 0) :: []),
  (1010, [true, true, true, true, true, true, false, false, false], (3, .goto (1585), 0, 0) :: []),
  (1013, [true, true, true, true, true, true, false, false, false], (1, .aload_n 1, 0, 0) :: (1, .aload_n 0, 0, 0) :: (2, .iload 5, 0, 0) :: (1, .iconst (1), 0, 1) :: (1, .iadd, 0, 0) :: (1, .iaload, 0, 0) :: (1, .aload_n 0, 0, 0) :: (2, .iload 5, 0, 0) :: (1, .iconst (2), 0, 2) :: (1, .iadd, 0, 0) :: (1, .iaload, 0, 0) :: (1, .aload_n 3, 0, 0) :: (3, .invokestatic 204, 55, 0) :: mt_law_1030),
  (1061, [true, true, true, true, true, true, true, true, false], (2, .iload 6, 0, 0) :: (3, .ifCond .ne (15), 0, 0) :: (1, .aload_n 3, 0, 0) :: (1, .iconst (0), 0, 0) :: (1, .laload, 0, 0) :: (2, .iload 7, 0, 0) :: (1, .i2l, 0, 0) :: (1, .lcmp, 0, 0) :: (3, .ifCond .eq (5), 0, 0) :: (1, .iconst (0), 0, 0) :: (1, .ireturn, 0, 0) :: []),
  (1078, [true, true, true, true, true, true, false, false, false], (3, .goto (1517), 0, 0) :: []),
  (1081, [true, true, true, true, true, true, false, false, false], (1, .aload_n 1, 0, 0) :: (1, .aload_n 0, 0, 0) :: (2, .iload 5, 0, 0) :: (1, .iconst (1), 0, 1) :: (1, .iadd, 0, 0) :: (1, .iaload, 0, 0) :: (1, .aload_n 0, 0, 0) :: (2, .iload 5, 0, 0) :: (1, .iconst (2), 0, 2) :: (1, .iadd, 0, 0) :: (1, .iaload, 0, 0) :: (1, .aload_n 0, 0, 0) :: (2, .iload 5, 0, 0) :: (1, .iconst (3), 0, 3) :: (1, .iadd, 0, 0) :: (1, .iaload, 0, 0) :: (1, .aload_n 3, 0, 0) :: (3, .invokestatic 207, 67, 0) :: mt_law_1104),
  (1141, [true, true, true, true, true, true, true, true, false], (2, .iload 6, 0, 0) :: (3, .ifCond .ne (15), 0, 0) :: (1, .aload_n 3, 0, 0) :: (1, .iconst (0), 0, 0) :: (1, .laload, 0, 0) :: (2, .iload 7, 0, 0) :: (1, .i2l, 0, 0) :: (1, .lcmp, 0, 0) :: (3, .ifCond .eq (5), 0, 0) :: (1, .iconst (0), 0, 0) :: (1, .ireturn, 0, 0) :: []),
  (1158, [true, true, true, true, true, true, false, false, false], (3, .goto (1437), 0, 0) :: []),
  (1161, [true, true, true, true, true, true, false, false, false], (1, .aload_n 1, 0, 0) :: (1, .aload_n 0, 0, 0) :: (2, .iload 5, 0, 0) :: (1, .iconst (1), 0, 1) :: (1, .iadd, 0, 0) :: (1, .iaload, 0, 0) :: (1, .aload_n 3, 0, 0) :: (3, .invokestatic 211, 77, 0) :: mt_law_1172),
  (1197, [true, true, true, true, true, true, true, true, false], (2, .iload 6, 0, 0) :: (3, .ifCond .ne (15), 0, 0) :: (1, .aload_n 3, 0, 0) :: (1, .iconst (0), 0, 0) :: (1, .laload, 0, 0) :: (2, .iload 7, 0, 0) :: (1, .i2l, 0, 0) :: (1, .lcmp, 0, 0) :: (3, .ifCond .eq (5), 0, 0) :: (1, .iconst (0), 0, 0) :: (1, .ireturn, 0, 0) :: []),
  (1214, [true, true, true, true, true, true, false, false, false], (3, .goto (1381), 0, 0) :: []),
  (1217, [true, true, true, true, true, true, false, false, false], (1, .aload_n 1, 0, 0) :: (1, .aload_n 3, 0, 0) :: (3, .invokestatic 214, 79, 0) :: mt_law_1222),
  (1241, [true, true, true, true, true, true, true, true, false], (2, .iload 6, 0, 0) :: (3, .ifCond .ne (15), 0, 0) :: (1, .aload_n 3, 0, 0) :: (1, .iconst (0), 0, 0) :: (1, .laload, 0, 0) :: (2, .iload 7, 0, 0) :: (1, .i2l, 0, 0) :: (1, .lcmp, 0, 0) :: (3, .ifCond .eq (5), 0, 0) :: (1, .iconst (0), 0, 0) :: (1, .ireturn, 0, 0) :: []),
  (1258, [true, true, true, true, true, true, false, false, false], (3, .goto (1337), 0, 0) :: []),
  (1261, [true, true, true, true, true, true, false, false, false], (1, .aload_n 1, 0, 0) :: (1, .aload_n 3, 0, 0) :: (3, .invokestatic 217, 81, 0) :: mt_law_1266),
  (1285, [true, true, true, true, true, true, true, true, false], (2, .iload 6, 0, 0) :: (3, .ifCond .ne (15), 0, 0) :: (1, .aload_n 3, 0, 0) :: (1, .iconst (0), 0, 0) :: (1, .laload, 0, 0) :: (2, .iload 7, 0, 0) :: (1, .i2l, 0, 0) :: (1, .lcmp, 0, 0) :: (3, .ifCond .eq (5), 0, 0) :: (1, .iconst (0), 0, 0) :: (1, .ireturn, 0, 0) :: []),
  (1302, [true, true, true, true, true, true, false, false, false], (3, .goto (1293), 0, 0) :: []),
  (1305, [true, true, true, true, true, true, false, false, false], (1, .aload_n 1, 0, 0) :: (1, .aload_n 0, 0, 0) :: (2, .iload 5, 0, 0) :: (1, .iconst (1), 0, 1) :: (1, .iadd, 0, 0) :: (1, .iaload, 0, 0) :: (1, .aload_n 3, 0, 0) :: (3, .invokestatic 220, 83, 0) :: mt_law_1316),
  (1341, [true, true, true, true, true, true, true, true, false], (2, .iload 6, 0, 0) :: (3, .ifCond .ne (15), 0, 0) :: (1, .aload_n 3, 0, 0) :: (1, .iconst (0), 0, 0) :: (1, .laload, 0, 0) :: (2, .iload 7, 0, 0) :: (1, .i2l, 0, 0) :: (1, .lcmp, 0, 0) :: (3, .ifCond .eq (5), 0, 0) :: (1, .iconst (0), 0, 0) :: (1, .ireturn, 0, 0) :: []),
  (1358, [true, true, true, true, true, true, false, false, false], (3, .goto (1237), 0, 0) :: []),
  (1361, [true, true, true, true, true, true, false, false, false], (1, .aload_n 1, 0, 0) :: (3, .invokevirtual 223, 0, 10) :: mt_law_1365),
  (1374, [true, true, true, true, true, true, false, false, false], (1, .aload_n 1, 0, 0) :: (1, .aload_n 0, 0, 0) :: (2, .iload 5, 0, 0) :: (1, .iconst (1), 0, 1) :: (1, .iadd, 0, 0) :: (1, .iaload, 0, 0) :: (1, .aload_n 3, 0, 0) :: (3, .invokestatic 227, 102, 0) :: mt_law_1385),
  (1410, [true, true, true, true, true, true, true, true, false], (2, .iload 6, 0, 0) :: (3, .ifCond .ne (15), 0, 0) :: (1, .aload_n 3, 0, 0) :: (1, .iconst (0), 0, 0) :: (1, .laload, 0, 0) :: (2, .iload 7, 0, 0) :: (1, .i2l, 0, 0) :: (1, .lcmp, 0, 0) :: (3, .ifCond .eq (5), 0, 0) :: (1, .iconst (0), 0, 0) :: (1, .ireturn, 0, 0) :: []),
  (1427, [true, true, true, true, true, true, false, false, false], (3, .goto (1168), 0, 0) :: []),
  (1430, [true, true, true, true, true, true, false, false, false], (1, .aload_n 1, 0, 0) :: (1, .aload_n 0, 0, 0) :: (2, .iload 5, 0, 0) :: (1, .iconst (1), 0, 1) :: (1, .iadd, 0, 0) :: (1, .iaload, 0, 0) :: (1, .aload_n 0, 0, 0) :: (2, .iload 5, 0, 0) :: (1, .iconst (2), 0, 2) :: (1, .iadd, 0, 0) :: (1, .iaload, 0, 0) :: (1, .aload_n 3, 0, 0) :: (3, .invokestatic 230, 104, 0) :: mt_law_1447),
  (1478, [true, true, true, true, true, true, true, true, false], (2, .iload 6, 0, 0) :: (3, .ifCond .ne (15), 0, 0) :: (1, .aload_n 3, 0, 0) :: (1, .iconst (0), 0, 0) :: (1, .laload, 0, 0) :: (2, .iload 7, 0, 0) :: (1, .i2l, 0, 0) :: (1, .lcmp, 0, 0) :: (3, .ifCond .eq (5), 0, 0) :: (1, .iconst (0), 0, 0) :: (1, .ireturn, 0, 0) :: []),
  (1495, [true, true, true, true, true, true, false, false, false], (3, .goto (1100), 0, 0) :: []),
  (1498, [true, true, true, true, true, true, false, false, false], (1, .aload_n 1, 0, 0) :: (1, .aload_n 0, 0, 0) :: (2, .iload 5, 0, 0) :: (1, .iconst (1), 0, 1) :: (1, .iadd, 0, 0) :: (1, .iaload, 0, 0) :: (1, .aload_n 3, 0, 0) :: (3, .invokestatic 233, 108, 0) :: mt_law_1509),
  (1534, [true, true, true, true, true, true, true, true, false], (2, .iload 6, 0, 0) :: (3, .ifCond .ne (15), 0, 0) :: (1, .aload_n 3, 0, 0) :: (1, .iconst (0), 0, 0) :: (1, .laload, 0, 0) :: (2, .iload 7, 0, 0) :: (1, .i2l, 0, 0) :: (1, .lcmp, 0, 0) :: (3, .ifCond .eq (5), 0, 0) :: (1, .iconst (0), 0, 0) :: (1, .ireturn, 0, 0) :: []),
  (1551, [true, true, true, true, true, true, false, false, false], (3, .goto (1044), 0, 0) :: []),
  (1554, [true, true, true, true, true, true, false, false, false], (1, .aload_n 1, 0, 0) :: (1, .aload_n 3, 0, 0) :: (3, .invokestatic 236, 114, 0) :: mt_law_1559),
  (1578, [true, true, true, true, true, true, true, true, false], (2, .iload 6, 0, 0) :: (3, .ifCond .ne (15), 0, 0) :: (1, .aload_n 3, 0, 0) :: (1, .iconst (0), 0, 0) :: (1, .laload, 0, 0) :: (2, .iload 7, 0, 0) :: (1, .i2l, 0, 0) :: (1, .lcmp, 0, 0) :: (3, .ifCond .eq (5), 0, 0) :: (1, .iconst (0), 0, 0) :: (1, .ireturn, 0, 0) :: []),
  (1595, [true, true, true, true, true, true, false, false, false], (3, .goto (1000), 0, 0) :: []),
  (1598, [true, true, true, true, true, true, false, false, false], (1, .aload_n 1, 0, 0) :: (2, .aload 4, 0, 0) :: (3, .invokestatic 239, 117, 0) :: mt_law_1604),
  (1623, [true, true, true, true, true, true, true, true, false], (2, .iload 6, 0, 0) :: (3, .ifCond .ne (35), 0, 0) :: (2, .aload 4, 0, 0) :: (1, .iconst (0), 0, 0) :: (1, .daload, 0, 0) :: (2, .dload 7, 0, 0) :: (1, .dcmp .l, 0, 0) :: (3, .ifCond .eq (25), 0, 0) :: (2, .aload 4, 0, 0) :: (1, .iconst (0), 0, 0) :: (1, .daload, 0, 0) :: (2, .aload 4, 0, 0) :: (1, .iconst (0), 0, 0) :: (1, .daload, 0, 0) :: (1, .dcmp .l, 0, 0) :: (3, .ifCond .eq (11), 0, 0) :: (2, .dload 7, 0, 0) :: (2, .dload 7, 0, 0) :: (1, .dcmp .l, 0, 0) :: (3, .ifCond .ne (5), 0, 0) :: []),
  (1658, [false, false, false, false, false, false, false, false, false], (1, .iconst (0), 0, 0) :: (1, .ireturn, 0, 0) :: []),
  (1660, [true, true, true, true, true, true, false, false, false], (3, .goto (935), 0, 0) :: []),
  (1663, [true, true, true, true, true, true, false, false, false], (1, .aload_n 1, 0, 0) :: (1, .aload_n 3, 0, 0) :: (3, .invokestatic 243, 120, 0) :: mt_law_1668),
  (1687, [true, true, true, true, true, true, true, true, false], (2, .iload 6, 0, 0) :: (3, .ifCond .ne (15), 0, 0) :: (1, .aload_n 3, 0, 0) :: (1, .iconst (0), 0, 0) :: (1, .laload, 0, 0) :: (2, .iload 7, 0, 0) :: (1, .i2l, 0, 0) :: (1, .lcmp, 0, 0) :: (3, .ifCond .eq (5), 0, 0) :: (1, .iconst (0), 0, 0) :: (1, .ireturn, 0, 0) :: []),
  (1704, [true, true, true, true, true, true, false, false, false], (3, .goto (891), 0, 0) :: []),
  (1707, [true, true, true, true, true, true, false, false, false], (1, .aload_n 1, 0, 0) :: (1, .aload_n 0, 0, 0) :: (2, .iload 5, 0, 0) :: (1, .iconst (1), 0, 1) :: (1, .iadd, 0, 0) :: (1, .iaload, 0, 0) :: (1, .aload_n 0, 0, 0) :: (2, .iload 5, 0, 0) :: (1, .iconst (2), 0, 2) :: (1, .iadd, 0, 0) :: (1, .iaload, 0, 0) :: (1, .aload_n 3, 0, 0) :: (3, .invokestatic 246, 133, 0) :: mt_law_1724),
  (1755, [true, true, true, true, true, true, true, true, false], (2, .iload 6, 0, 0) :: (3, .ifCond .ne (15), 0, 0) :: (1, .aload_n 3, 0, 0) :: (1, .iconst (0), 0, 0) :: (1, .laload, 0, 0) :: (2, .iload 7, 0, 0) :: (1, .i2l, 0, 0) :: (1, .lcmp, 0, 0) :: (3, .ifCond .eq (5), 0, 0) :: (1, .iconst (0), 0, 0) :: (1, .ireturn, 0, 0) :: []),
  (1772, [true, true, true, true, true, true, false, false, false], (3, .goto (823), 0, 0) :: []),
  (1775, [true, true, true, true, true, true, false, false, false], (1, .aload_n 1, 0, 0) :: (1, .aload_n 0, 0, 0) :: (2, .iload 5, 0, 0) :: (1, .iconst (1), 0, 1) :: (1, .iadd, 0, 0) :: (1, .iaload, 0, 0) :: (1, .aload_n 3, 0, 0) :: (3, .invokestatic 249, 137, 0) :: mt_law_1786),
  (1811, [true, true, true, true, true, true, true, true, false], (2, .iload 6, 0, 0) :: (3, .ifCond .ne (15), 0, 0) :: (1, .aload_n 3, 0, 0) :: (1, .iconst (0), 0, 0) :: (1, .laload, 0, 0) :: (2, .iload 7, 0, 0) :: (1, .i2l, 0, 0) :: (1, .lcmp, 0, 0) :: (3, .ifCond .eq (5), 0, 0) :: (1, .iconst (0), 0, 0) :: (1, .ireturn, 0, 0) :: []),
  (1828, [true, true, true, true, true, true, false, false, false], (3, .goto (767), 0, 0) :: []),
  (1831, [true, true, true, true, true, true, false, false, false], (1, .aload_n 1, 0, 0) :: (1, .aload_n 3, 0, 0) :: (3, .invokestatic 252, 140, 0) :: mt_law_1836),
  (1855, [true, true, true, true, true, true, true, true, false], (2, .iload 6, 0, 0) :: (3, .ifCond .ne (15), 0, 0) :: (1, .aload_n 3, 0, 0) :: (1, .iconst (0), 0, 0) :: (1, .laload, 0, 0) :: (2, .iload 7, 0, 0) :: (1, .i2l, 0, 0) :: (1, .lcmp, 0, 0) :: (3, .ifCond .eq (5), 0, 0) :: (1, .iconst (0), 0, 0) :: (1, .ireturn, 0, 0) :: []),
  (1872, [true, true, true, true, true, true, false, false, false], (3, .goto (723), 0, 0) :: []),
  (1875, [true, true, true, true, true, true, false, false, false], (1, .aload_n 1, 0, 0) :: (1, .aload_n 0, 0, 0) :: (2, .iload 5, 0, 0) :: (1, .iconst (1), 0, 1) :: (1, .iadd, 0, 0) :: (1, .iaload, 0, 0) :: (1, .aload_n 0, 0, 0) :: (2, .iload 5, 0, 0) :: (1, .iconst (2), 0, 2) :: (1, .iadd, 0, 0) :: (1, .iaload, 0, 0) :: (3, .ifCond .eq (7), 0, 0) :: (1, .iconst (1), 0, 1) :: (3, .goto (4), 0, 0) :: []),
  (1895, [true, true, true, true, true, true, false, false, false], (1, .iconst (0), 0, 0) :: []),
  (1896, [true, true, true, true, true, true, false, false, false], (1, .aload_n 3, 0, 0) :: (3, .invokestatic 255, 145, 0) :: mt_law_1900),
  (1922, [true, true, true, true, true, true, true, false, false], (1, .iconst (0), 0, 0) :: []),
  (1923, [true, true, true, true, true, true, true, false, false], (3, .invokevirtual 258, 257, 11) :: mt_law_1926),
  (1939, [true, true, true, true, true, true, true, true, false], (2, .iload 6, 0, 0) :: (3, .ifCond .ne (22), 0, 0) :: (1, .aload_n 3, 0, 0) :: (1, .iconst (0), 0, 0) :: (1, .laload, 0, 0) :: (2, .iload 7, 0, 0) :: (3, .ifCond .eq (7), 0, 0) :: (1, .lconst 1, 0, 1) :: (3, .goto (4), 0, 0) :: []),
  (1956, [true, true, true, true, true, true, false, false, false], (1, .lconst 0, 0, 0) :: []),
  (1957, [true, true, true, true, true, true, false, false, false], (1, .lcmp, 0, 0) :: (3, .ifCond .eq (5), 0, 0) :: (1, .iconst (0), 0, 0) :: (1, .ireturn, 0, 0) :: []),
  (1963, [true, true, true, true, true, true, false, false, false], (3, .goto (632), 0, 0) :: []),
  (1966, [true, true, true, true, true, true, false, false, false], (1, .aload_n 1, 0, 0) :: (1, .aload_n 0, 0, 0) :: (2, .iload 5, 0, 0) :: (1, .iconst (1), 0, 1) :: (1, .iadd, 0, 0) :: (1, .iaload, 0, 0) :: (1, .aload_n 3, 0, 0) :: (3, .invokestatic 259, 147, 0) :: mt_law_1977),
  (2002, [true, true, true, true, true, true, true, true, false], (2, .iload 6, 0, 0) :: (3, .ifCond .ne (14), 0, 0) :: (1, .aload_n 3, 0, 0) :: (1, .iconst (0), 0, 0) :: (1, .laload, 0, 0) :: (2, .lload 7, 0, 0) :: (1, .lcmp, 0, 0) :: (3, .ifCond .eq (5), 0, 0) :: (1, .iconst (0), 0, 0) :: (1, .ireturn, 0, 0) :: []),
  (2018, [true, true, true, true, true, true, false, false, false], (3, .goto (577), 0, 0) :: []),
  (2021, [true, true, true, true, true, true, false, false, false], (1, .aload_n 1, 0, 0) :: (1, .aload_n 0, 0, 0) :: (2, .iload 5, 0, 0) :: (1, .iconst (1), 0, 1) :: (1, .iadd, 0, 0) :: (1, .iaload, 0, 0) :: (1, .aload_n 3, 0, 0) :: (3, .invokestatic 262, 160, 0) :: mt_law_2032),
  (2057, [true, true, true, true, true, true, true, true, false], (2, .iload 6, 0, 0) :: (3, .ifCond .ne (22), 0, 0) :: (1, .aload_n 3, 0, 0) :: (1, .iconst (0), 0, 0) :: (1, .laload, 0, 0) :: (2, .iload 7, 0, 0) :: (3, .ifCond .eq (7), 0, 0) :: (1, .lconst 1, 0, 1) :: (3, .goto (4), 0, 0) :: []),
  (2074, [true, true, true, true, true, true, false, false, false], (1, .lconst 0, 0, 0) :: []),
  (2075, [true, true, true, true, true, true, false, false, false], (1, .lcmp, 0, 0) :: (3, .ifCond .eq (5), 0, 0) :: (1, .iconst (0), 0, 0) :: (1, .ireturn, 0, 0) :: []),
  (2081, [true, true, true, true, true, true, false, false, false], (3, .goto (514), 0, 0) :: []),
  (2084, [true, true, true, true, true, true, false, false, false], (1, .aload_n 1, 0, 0) :: (1, .aload_n 0, 0, 0) :: (2, .iload 5, 0, 0) :: (1, .iconst (1), 0, 1) :: (1, .iadd, 0, 0) :: (1, .iaload, 0, 0) :: (1, .aload_n 3, 0, 0) :: (3, .invokestatic 265, 164, 0) :: mt_law_2095),
  (2120, [true, true, true, true, true, true, true, true, false], (2, .iload 6, 0, 0) :: (3, .ifCond .ne (22), 0, 0) :: (1, .aload_n 3, 0, 0) :: (1, .iconst (0), 0, 0) :: (1, .laload, 0, 0) :: (2, .iload 7, 0, 0) :: (3, .ifCond .eq (7), 0, 0) :: (1, .lconst 1, 0, 1) :: (3, .goto (4), 0, 0) :: []),
  (2137, [true, true, true, true, true, true, false, false, false], (1, .lconst 0, 0, 0) :: []),
  (2138, [true, true, true, true, true, true, false, false, false], (1, .lcmp, 0, 0) :: (3, .ifCond .eq (5), 0, 0) :: (1, .iconst (0), 0, 0) :: (1, .ireturn, 0, 0) :: []),
  (2144, [true, true, true, true, true, true, false, false, false], (3, .goto (451), 0, 0) :: []),
  (2147, [true, true, true, true, true, true, false, false, false], (1, .aload_n 1, 0, 0) :: (1, .aload_n 0, 0, 0) :: (2, .iload 5, 0, 0) :: (1, .iconst (1), 0, 1) :: (1, .iadd, 0, 0) :: (1, .iaload, 0, 0) :: (1, .aload_n 3, 0, 0) :: (3, .invokestatic 268, 167, 0) :: mt_law_2158),
  (2183, [true, true, true, true, true, true, true, true, false], (2, .iload 6, 0, 0) :: (3, .ifCond .ne (22), 0, 0) :: (1, .aload_n 3, 0, 0) :: (1, .iconst (0), 0, 0) :: (1, .laload, 0, 0) :: (2, .iload 7, 0, 0) :: (3, .ifCond .eq (7), 0, 0) :: (1, .lconst 1, 0, 1) :: (3, .goto (4), 0, 0) :: []),
  (2200, [true, true, true, true, true, true, false, false, false], (1, .lconst 0, 0, 0) :: []),
  (2201, [true, true, true, true, true, true, false, false, false], (1, .lcmp, 0, 0) :: (3, .ifCond .eq (5), 0, 0) :: (1, .iconst (0), 0, 0) :: (1, .ireturn, 0, 0) :: []),
  (2207, [true, true, true, true, true, true, false, false, false], (3, .goto (388), 0, 0) :: []),
  (2210, [true, true, true, true, true, true, false, false, false], (1, .aload_n 1, 0, 0) :: (1, .aload_n 0, 0, 0) :: (2, .iload 5, 0, 0) :: (1, .iconst (1), 0, 1) :: (1, .iadd, 0, 0) :: (1, .iaload, 0, 0) :: (1, .aload_n 0, 0, 0) :: (2, .iload 5, 0, 0) :: (1, .iconst (2), 0, 2) :: (1, .iadd, 0, 0) :: (1, .iaload, 0, 0) :: (1, .aload_n 3, 0, 0) :: (3, .invokestatic 271, 169, 0) :: mt_law_2227),
  (2258, [true, true, true, true, true, true, true, true, false], (2, .iload 6, 0, 0) :: (3, .ifCond .ne (15), 0, 0) :: (1, .aload_n 3, 0, 0) :: (1, .iconst (0), 0, 0) :: (1, .laload, 0, 0) :: (2, .iload 7, 0, 0) :: (1, .i2l, 0, 0) :: (1, .lcmp, 0, 0) :: (3, .ifCond .eq (5), 0, 0) :: (1, .iconst (0), 0, 0) :: (1, .ireturn, 0, 0) :: []),
  (2275, [true, true, true, true, true, true, false, false, false], (3, .goto (320), 0, 0) :: []),
  (2278, [true, true, true, true, true, true, false, false, false], (1, .aload_n 1, 0, 0) :: (1, .aload_n 0, 0, 0) :: (2, .iload 5, 0, 0) :: (1, .iconst (1), 0, 1) :: (1, .iadd, 0, 0) :: (1, .iaload, 0, 0) :: (1, .aload_n 0, 0, 0) :: (2, .iload 5, 0, 0) :: (1, .iconst (2), 0, 2) :: (1, .iadd, 0, 0) :: (1, .iaload, 0, 0) :: (1, .aload_n 0, 0, 0) :: (2, .iload 5, 0, 0) :: (1, .iconst (3), 0, 3) :: (1, .iadd, 0, 0) :: (1, .iaload, 0, 0) :: (1, .aload_n 3, 0, 0) :: (3, .invokestatic 274, 172, 0) :: mt_law_2301),
  (2338, [true, true, true, true, true, true, true, true, false], (2, .iload 6, 0, 0) :: (3, .ifCond .ne (15), 0, 0) :: (1, .aload_n 3, 0, 0) :: (1, .iconst (0), 0, 0) :: (1, .laload, 0, 0) :: (2, .iload 7, 0, 0) :: (1, .i2l, 0, 0) :: (1, .lcmp, 0, 0) :: (3, .ifCond .eq (5), 0, 0) :: (1, .iconst (0), 0, 0) :: (1, .ireturn, 0, 0) :: []),
  (2355, [true, true, true, true, true, true, false, false, false], (3, .goto (240), 0, 0) :: []),
  (2358, [true, true, true, true, true, true, false, false, false], (1, .aload_n 1, 0, 0) :: (1, .aload_n 0, 0, 0) :: (2, .iload 5, 0, 0) :: (1, .iconst (1), 0, 1) :: (1, .iadd, 0, 0) :: (1, .iaload, 0, 0) :: (1, .aload_n 3, 0, 0) :: (3, .invokestatic 277, 174, 0) :: mt_law_2369),
  (2394, [true, true, true, true, true, true, true, true, false], (2, .iload 6, 0, 0) :: (3, .ifCond .ne (22), 0, 0) :: (1, .aload_n 3, 0, 0) :: (1, .iconst (0), 0, 0) :: (1, .laload, 0, 0) :: (2, .iload 7, 0, 0) :: (3, .ifCond .eq (7), 0, 0) :: (1, .lconst 1, 0, 1) :: (3, .goto (4), 0, 0) :: []),
  (2411, [true, true, true, true, true, true, false, false, false], (1, .lconst 0, 0, 0) :: []),
  (2412, [true, true, true, true, true, true, false, false, false], (1, .lcmp, 0, 0) :: (3, .ifCond .eq (5), 0, 0) :: (1, .iconst (0), 0, 0) :: (1, .ireturn, 0, 0) :: []),
  (2418, [true, true, true, true, true, true, false, false, false], (3, .goto (177), 0, 0) :: []),
  (2421, [true, true, true, true, true, true, false, false, false], (1, .aload_n 1, 0, 0) :: (1, .aload_n 3, 0, 0) :: (3, .invokestatic 280, 176, 0) :: mt_law_2426),
  (2445, [true, true, true, true, true, true, true, true, false], (2, .iload 6, 0, 0) :: (3, .ifCond .ne (15), 0, 0) :: (1, .aload_n 3, 0, 0) :: (1, .iconst (0), 0, 0) :: (1, .laload, 0, 0) :: (2, .iload 7, 0, 0) :: (1, .i2l, 0, 0) :: (1, .lcmp, 0, 0) :: (3, .ifCond .eq (5), 0, 0) :: (1, .iconst (0), 0, 0) :: (1, .ireturn, 0, 0) :: []),
  (2462, [true, true, true, true, true, true, false, false, false], (3, .goto (133), 0, 0) :: []),
  (2465, [true, true, true, true, true, true, false, false, false], (1, .aload_n 1, 0, 0) :: (1, .aload_n 3, 0, 0) :: (3, .invokestatic 283, 178, 0) :: mt_law_2470),
  (2489, [true, true, true, true, true, true, true, true, false], (2, .iload 6, 0, 0) :: (3, .ifCond .ne (22), 0, 0) :: (1, .aload_n 3, 0, 0) :: (1, .iconst (0), 0, 0) :: (1, .laload, 0, 0) :: (2, .iload 7, 0, 0) :: (3, .ifCond .eq (7), 0, 0) :: (1, .lconst 1, 0, 1) :: (3, .goto (4), 0, 0) :: []),
  (2506, [true, true, true, true, true, true, false, false, false], (1, .lconst 0, 0, 0) :: []),
  (2507, [true, true, true, true, true, true, false, false, false], (1, .lcmp, 0, 0) :: (3, .ifCond .eq (5), 0, 0) :: (1, .iconst (0), 0, 0) :: (1, .ireturn, 0, 0) :: []),
  (2513, [true, true, true, true, true, true, false, false, false], (3, .goto (82), 0, 0) :: []),
  (2516, [true, true, true, true, true, true, false, false, false], (1, .aload_n 1, 0, 0) :: (2, .aload 4, 0, 0) :: (3, .invokestatic 286, 180, 0) :: mt_law_2522),
  (2541, [true, true, true, true, true, true, true, true, false], (2, .iload 6, 0, 0) :: (3, .ifCond .ne (36), 0, 0) :: (2, .aload 4, 0, 0) :: (1, .iconst (0), 0, 0) :: (1, .daload, 0, 0) :: (2, .fload 7, 0, 0) :: (1, .f2d, 0, 0) :: (1, .dcmp .l, 0, 0) :: (3, .ifCond .eq (25), 0, 0) :: (2, .aload 4, 0, 0) :: (1, .iconst (0), 0, 0) :: (1, .daload, 0, 0) :: (2, .aload 4, 0, 0) :: (1, .iconst (0), 0, 0) :: (1, .daload, 0, 0) :: (1, .dcmp .l, 0, 0) :: (3, .ifCond .eq (11), 0, 0) :: (2, .fload 7, 0, 0) :: (2, .fload 7, 0, 0) :: (1, .fcmp .l, 0, 0) :: (3, .ifCond .ne (5), 0, 0) :: []),
  (2577, [false, false, false, false, false, false, false, false, false], (1, .iconst (0), 0, 0) :: (1, .ireturn, 0, 0) :: []),
  (2579, [true, true, true, true, true, true, false, false, false], (3, .goto (16), 0, 0) :: []),
  (2582, [true, true, true, true, true, true, false, false, false], (1, .aload_n 1, 0, 0) :: (3, .invokevirtual 289, 1, 10) :: mt_law_2586),
  (2595, [true, true, true, true, true, true, false, false, false], (3, .iinc 5 (4), 0, 0) :: (3, .goto (-2570), 0, 0) :: []),
  (2601, [false, false, false, false, false, false, false, false, false], (1, .iconst (1), 0, 1) :: (1, .ireturn, 0, 0) :: [])]
def ma_bts : List ma_Tb := [mb_Latticefit_isRouted, mb_Latticefit_isConsistent, mb_Circuit_isSound, mb_Circuit_isGate, mb_Circuit_isNode, mb_Places_isSound, mb_Routes_isCrowded, mb_LatticefitLaw_addInput, mb_Latticefit_addInput, mb_Circuit_putInput, mb_LatticefitLaw_addRegister, mb_Latticefit_addRegister, mb_Circuit_putRegister, mb_LatticefitLaw_addGate, mb_Latticefit_addGate, mb_Circuit_putGate, mb_LatticefitLaw_feed, mb_Latticefit_feed, mb_LatticefitLaw_addOutput, mb_Latticefit_addOutput, mb_Circuit_putOutput, mb_LatticefitLaw_kindOf, mb_Latticefit_kindOf, mb_LatticefitLaw_map, mb_Latticefit_map, mb_Cuts_findAll, mb_Cuts_offerAll, mb_Cuts_offer, mb_Long_bitCount, mb_Cuts_isBehind, mb_Blocks_pack, mb_Blocks_markNeeded, mb_Cuts_own, mb_Blocks_markCut, mb_Blocks_isIn, mb_Arrays_fill_AIIV, mb_Blocks_putRegister, mb_Blocks_putGate, mb_Circuit_joined, mb_Places_putAnew, mb_Routes_clear, mb_Arrays_fill_AJJV, mb_LatticefitLaw_depth, mb_Latticefit_depth, mb_LatticefitLaw_isNeeded, mb_Latticefit_isNeeded, mb_LatticefitLaw_word, mb_Latticefit_word, mb_Latticefit_needBlock, mb_LatticefitLaw_inputOf, mb_Latticefit_inputOf, mb_LatticefitLaw_gateOf, mb_Latticefit_gateOf, mb_LatticefitLaw_registerOf, mb_Latticefit_registerOf, mb_LatticefitLaw_fix, mb_Latticefit_fix, mb_Latticefit_isCell, mb_Places_holdsFixed, mb_Places_exchange, mb_Places_findLengths, mb_Places_sourceCrossing, mb_Places_cellOfNode, mb_Places_crossingAt, mb_Places_stretchTo, mb_Places_crossingOfOutput, mb_Places_lengthOf, mb_LatticefitLaw_anneal, mb_Latticefit_anneal, mb_Latticefit_needStage, mb_Places_swapByChance, mb_Places_nextChance, mb_Places_cellTold, mb_Places_maySwap, mb_Places_swapIfGood, mb_Places_clockExcess, mb_Integer_bitCount, mb_LatticefitLaw_cellOf, mb_Latticefit_cellOf, mb_LatticefitLaw_cost, mb_Latticefit_cost, mb_LatticefitLaw_excess, mb_Latticefit_excess, mb_LatticefitLaw_route, mb_Latticefit_route, mb_Places_putPins, mb_Routes_addSink, mb_Routes_makeRounds, mb_Routes_giveUp, mb_Latticefit_isEdge, mb_Routes_layTree, mb_Routes_isInTree, mb_Routes_addWay, mb_Routes_openTree, mb_Routes_takeCheapest, mb_Routes_openNeighbours, mb_Routes_offerWay, mb_Routes_tollOf, mb_Routes_takeWay, mb_Routes_otherEnd, mb_Routes_lowEnd, mb_Routes_raisePrices, mb_LatticefitLaw_netsOn, mb_Latticefit_netsOn, mb_LatticefitLaw_wireOf, mb_Latticefit_wireOf, mb_Routes_has, mb_Routes_wire, mb_LatticefitLaw_timeOf, mb_Latticefit_timeOf, mb_Times_findAll, mb_Times_ofTable, mb_Times_arrival, mb_Routes_wayTo, mb_LatticefitLaw_slowest, mb_Latticefit_slowest, mb_Times_latest, mb_LatticefitLaw_worstStretch, mb_Latticefit_worstStretch, mb_Routes_edgesOf, mb_LatticefitLaw_build, mb_Latticefit_build, mb_Builder_fillFrames, mb_Frames_clear, mb_Builder_putBlock, mb_Frames_putCellWord, mb_Builder_codeAt, mb_Places_sourceCode, mb_Builder_putNet, mb_Frames_putWireWord, mb_Frames_frameOfEdge, mb_Frames_indexOfEdge, mb_Frames_wordsInUse, mb_LatticefitLaw_wordAt, mb_Latticefit_wordAt, mb_Latticefit_needFrame, mb_Frames_lengthOf, mb_LatticefitLaw_check, mb_Latticefit_check, mb_Frames_sumOf, mb_LatticefitLaw_start, mb_Latticefit_start, mb_Chip_reset, mb_Frames_copyFrame, mb_Runner_reset, mb_LatticefitLaw_setInput, mb_Latticefit_setInput, mb_LatticefitLaw_tick, mb_Latticefit_tick, mb_Runner_takeTick, mb_Runner_findValues, mb_Chip_takeTick, mb_Chip_findTables, mb_Chip_findEnds, mb_Frames_cellWord, mb_Frames_endOf, mb_Frames_isWire, mb_Frames_wireWord, mb_Chip_renewTables, mb_Chip_valueOfEnd, mb_LatticefitLaw_circuitOutput, mb_Latticefit_circuitOutput, mb_Latticefit_needOutput, mb_Runner_outputValue, mb_LatticefitLaw_chipOutput, mb_Latticefit_chipOutput, mb_Chip_outputValue, mb_LatticefitLaw_chipRegister, mb_Latticefit_chipRegister, mb_LatticefitLaw_sourceOf, mb_Latticefit_sourceOf, mb_Places_nodeOfCode, mb_LatticefitLaw_flip, mb_Latticefit_flip, mb_LatticefitLaw_isBad, mb_Latticefit_isBad, mb_LatticefitLaw_scrub, mb_Latticefit_scrub, mb_LatticefitLaw_agrees, mb_Latticefit_agrees, mb_LatticefitLaw_fill, mb_Latticefit_fill, mb_LatticefitModel_column, mb_LatticefitModel_low, mb_LatticefitModel_thrown, mb_LatticefitModel_addInput, mb_LatticefitModel_isThrown, mb_LatticefitModel_newNode, mb_LatticefitModel_changes, mb_LatticefitModel_unroutes, mb_LatticefitModel_addRegister, mb_LatticefitModel_isIn, mb_LatticefitModel_addGate, mb_LatticefitModel_feed, mb_LatticefitModel_addOutput, mb_LatticefitModel_isNo, mb_LatticefitModel_kindOf, mb_LatticefitModel_map, mb_LatticefitModel_blocksThen, mb_LatticefitModel_neededGates, mb_LatticefitModel_findsCuts, mb_LatticefitModel_isGate, mb_LatticefitModel_offers, mb_LatticefitModel_isBetter, mb_LatticefitModel_depthOf, mb_LatticefitModel_needs, mb_LatticefitModel_newBlock, mb_LatticefitModel_tabled, mb_LatticefitModel_valueIn, mb_LatticefitModel_of, mb_LatticefitModel_depth, mb_LatticefitModel_isUnmapped, mb_LatticefitModel_isNeeded, mb_LatticefitModel_word, mb_LatticefitModel_isNoBlock, mb_LatticefitModel_inputOf, mb_LatticefitModel_gateOf, mb_LatticefitModel_registerOf, mb_LatticefitModel_fix, mb_LatticefitModel_exchanges, mb_LatticefitModel_costNow, mb_LatticefitModel_findsNets, mb_LatticefitModel_crossing, mb_LatticefitModel_sinks, mb_LatticefitModel_length, mb_LatticefitModel_sourceAt, mb_LatticefitModel_anneal, mb_LatticefitModel_canSwap, mb_LatticefitModel_excessNow, mb_LatticefitModel_cellOf, mb_LatticefitModel_cost, mb_LatticefitModel_excess, mb_LatticefitModel_route, mb_LatticefitModel_gives, mb_LatticefitModel_reaches, mb_LatticefitModel_nearest, mb_LatticefitModel_high, mb_LatticefitModel_tollOf, mb_LatticefitModel_isRouted, mb_LatticefitModel_netsOn, mb_LatticefitModel_wireOf, mb_LatticefitModel_wire, mb_LatticefitModel_timeOf, mb_LatticefitModel_time, mb_LatticefitModel_tableTime, mb_LatticefitModel_arrival, mb_LatticefitModel_slowest, mb_LatticefitModel_worstStretch, mb_LatticefitModel_edgesOf, mb_LatticefitModel_build, mb_LatticefitModel_codeAt, mb_LatticefitModel_sourceCode, mb_LatticefitModel_wordAt, mb_LatticefitModel_words, mb_LatticefitModel_check, mb_LatticefitModel_checkOf, mb_LatticefitModel_start, mb_LatticefitModel_setInput, mb_LatticefitModel_tick, mb_LatticefitModel_runs, mb_LatticefitModel_settles, mb_LatticefitModel_cellAt, mb_LatticefitModel_valueOf, mb_LatticefitModel_behind, mb_LatticefitModel_circuitOutput, mb_LatticefitModel_isIdle, mb_LatticefitModel_chipOutput, mb_LatticefitModel_chipRegister, mb_LatticefitModel_sourceOf, mb_LatticefitModel_arrives, mb_LatticefitModel_inputAt, mb_LatticefitModel_flip, mb_LatticefitModel_isBad, mb_LatticefitModel_bad, mb_LatticefitModel_scrub, mb_LatticefitModel_agrees, mb_LatticefitModel_fill, mb_LatticefitModel_isConsistent]
def ma_bt (y : Nat) : ma_Tb := ma_bts.getD y []
def ma_cis : List Nat := [10, 10, 3, 3, 3, 6, 7, 12, 10, 3, 12, 10, 3, 12, 10, 3, 12, 10, 12, 10, 3, 12, 10, 12, 10, 4, 4, 4, 14, 4, 0, 0, 4, 0, 0, 15, 0, 0, 3, 6, 7, 15, 12, 10, 12, 10, 12, 10, 10, 12, 10, 12, 10, 12, 10, 12, 10, 10, 6, 6, 6, 6, 6, 6, 6, 6, 6, 12, 10, 10, 6, 6, 6, 6, 6, 6, 13, 12, 10, 12, 10, 12, 10, 12, 10, 6, 7, 7, 7, 10, 7, 7, 7, 7, 7, 7, 7, 7, 7, 7, 7, 7, 12, 10, 12, 10, 7, 7, 12, 10, 9, 9, 9, 7, 12, 10, 9, 12, 10, 7, 12, 10, 1, 5, 1, 5, 1, 6, 1, 5, 5, 5, 5, 12, 10, 10, 5, 12, 10, 5, 12, 10, 2, 5, 8, 12, 10, 12, 10, 8, 8, 2, 2, 2, 5, 5, 5, 5, 2, 2, 12, 10, 10, 8, 12, 10, 2, 12, 10, 12, 10, 6, 12, 10, 12, 10, 12, 10, 12, 10, 12, 10, 11, 11, 11, 11, 11, 11, 11, 11, 11, 11, 11, 11, 11, 11, 11, 11, 11, 11, 11, 11, 11, 11, 11, 11, 11, 11, 11, 11, 11, 11, 11, 11, 11, 11, 11, 11, 11, 11, 11, 11, 11, 11, 11, 11, 11, 11, 11, 11, 11, 11, 11, 11, 11, 11, 11, 11, 11, 11, 11, 11, 11, 11, 11, 11, 11, 11, 11, 11, 11, 11, 11, 11, 11, 11, 11, 11, 11, 11, 11, 11, 11, 11, 11, 11, 11, 11, 11, 11, 11, 11, 11, 11, 11, 11, 11, 11]
/-- the class of a method, by its number among the owners -/
def ma_oi (y : Nat) : Nat := ma_cis.getD y 0
