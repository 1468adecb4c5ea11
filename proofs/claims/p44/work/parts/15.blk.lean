/-! the blocks of the methods, written by a program from their bytes -/
def mb_Latticefit_isRouted : ma_Tb := [(0, [true], (1, .aload_n 0, 0, 0) :: (3, .getfield 87, 10, 10) :: (1, .iconst (2), 0, 2) :: (3, .if_icmp .lt (7), 0, 0) :: (1, .iconst (1), 0, 1) :: (3, .goto (4), 0, 0) :: []),
  (12, [false], (1, .iconst (0), 0, 0) :: []),
  (13, [false], (1, .ireturn, 0, 0) :: [])]
def mt_Latticefit_isConsistent_7 : List ma_AI := (3, .ifCond .ne (5), 0, 0) :: (1, .iconst (0), 0, 0) :: (1, .ireturn, 0, 0) :: []
def mt_Latticefit_isConsistent_27 : List ma_AI := (3, .ifCond .ne (5), 0, 0) :: (1, .iconst (0), 0, 0) :: (1, .ireturn, 0, 0) :: []
def mt_Latticefit_isConsistent_47 : List ma_AI := (3, .ifCond .ne (7), 0, 0) :: []
def mb_Latticefit_isConsistent : ma_Tb := [(0, [true], (1, .aload_n 0, 0, 0) :: (3, .getfield 10, 10, 0) :: (3, .invokevirtual 341, 2, 3) :: mt_Latticefit_isConsistent_7),
  (12, [true], (1, .aload_n 0, 0, 0) :: (3, .getfield 87, 10, 10) :: (1, .iconst (1), 0, 1) :: (3, .if_icmp .lt (15), 0, 0) :: (1, .aload_n 0, 0, 0) :: (3, .getfield 37, 10, 3) :: (3, .invokevirtual 344, 5, 6) :: mt_Latticefit_isConsistent_27),
  (32, [true], (1, .aload_n 0, 0, 0) :: (3, .getfield 87, 10, 10) :: (1, .iconst (2), 0, 2) :: (3, .if_icmp .lt (13), 0, 0) :: (1, .aload_n 0, 0, 0) :: (3, .getfield 44, 10, 4) :: (3, .invokevirtual 224, 6, 7) :: mt_Latticefit_isConsistent_47),
  (50, [false], (1, .iconst (1), 0, 1) :: (3, .goto (4), 0, 0) :: []),
  (54, [false], (1, .iconst (0), 0, 0) :: []),
  (55, [false], (1, .ireturn, 0, 0) :: [])]
def mt_Circuit_isSound_15 : List ma_AI := (3, .ifCond .eq (25), 0, 0) :: (1, .aload_n 0, 0, 0) :: (3, .getfield 15, 3, 1) :: (1, .iload_n 1, 0, 0) :: (1, .iaload, 0, 0) :: (1, .iload_n 1, 0, 0) :: (3, .if_icmp .ge (13), 0, 0) :: (1, .aload_n 0, 0, 0) :: (3, .getfield 19, 3, 2) :: (1, .iload_n 1, 0, 0) :: (1, .iaload, 0, 0) :: (1, .iload_n 1, 0, 0) :: (3, .if_icmp .lt (5), 0, 0) :: []
def mt_Circuit_isSound_61 : List ma_AI := (3, .ifCond .ne (5), 0, 0) :: (1, .iconst (0), 0, 0) :: (1, .ireturn, 0, 0) :: []
def mt_Circuit_isSound_92 : List ma_AI := (3, .ifCond .ne (5), 0, 0) :: (1, .iconst (0), 0, 0) :: (1, .ireturn, 0, 0) :: []
def mb_Circuit_isSound : ma_Tb := [(0, [true, false], (1, .iconst (0), 0, 0) :: (1, .istore_n 1, 0, 0) :: []),
  (2, [true, true], (1, .iload_n 1, 0, 0) :: (1, .aload_n 0, 0, 0) :: (3, .getfield 43, 3, 10) :: (3, .if_icmp .ge (65), 0, 0) :: (1, .aload_n 0, 0, 0) :: (1, .iload_n 1, 0, 0) :: (3, .invokevirtual 57, 3, 3) :: mt_Circuit_isSound_15),
  (38, [false, false], (1, .iconst (0), 0, 0) :: (1, .ireturn, 0, 0) :: []),
  (40, [true, true], (1, .aload_n 0, 0, 0) :: (3, .getfield 9, 3, 0) :: (1, .iload_n 1, 0, 0) :: (1, .caload, 0, 0) :: (2, .bipush (114), 0, 114) :: (3, .if_icmp .ne (18), 0, 0) :: (1, .aload_n 0, 0, 0) :: (1, .aload_n 0, 0, 0) :: (3, .getfield 22, 3, 3) :: (1, .iload_n 1, 0, 0) :: (1, .iaload, 0, 0) :: (3, .invokevirtual 61, 4, 3) :: mt_Circuit_isSound_61),
  (66, [true, true], (3, .iinc 1 (1), 0, 0) :: (3, .goto (-67), 0, 0) :: []),
  (72, [true, false], (1, .iconst (0), 0, 0) :: (1, .istore_n 1, 0, 0) :: []),
  (74, [true, true], (1, .iload_n 1, 0, 0) :: (1, .aload_n 0, 0, 0) :: (3, .getfield 53, 3, 13) :: (3, .if_icmp .ge (24), 0, 0) :: (1, .aload_n 0, 0, 0) :: (1, .aload_n 0, 0, 0) :: (3, .getfield 40, 3, 9) :: (1, .iload_n 1, 0, 0) :: (1, .iaload, 0, 0) :: (3, .invokevirtual 61, 4, 3) :: mt_Circuit_isSound_92),
  (97, [true, true], (3, .iinc 1 (1), 0, 0) :: (3, .goto (-26), 0, 0) :: []),
  (103, [false, false], (1, .iconst (1), 0, 1) :: (1, .ireturn, 0, 0) :: [])]
def mb_Circuit_isGate : ma_Tb := [(0, [true, true], (1, .aload_n 0, 0, 0) :: (3, .getfield 9, 3, 0) :: (1, .iload_n 1, 0, 0) :: (1, .caload, 0, 0) :: (2, .bipush (105), 0, 105) :: (3, .if_icmp .eq (18), 0, 0) :: (1, .aload_n 0, 0, 0) :: (3, .getfield 9, 3, 0) :: (1, .iload_n 1, 0, 0) :: (1, .caload, 0, 0) :: (2, .bipush (114), 0, 114) :: (3, .if_icmp .eq (7), 0, 0) :: (1, .iconst (1), 0, 1) :: (3, .goto (4), 0, 0) :: []),
  (26, [false, false], (1, .iconst (0), 0, 0) :: []),
  (27, [false, false], (1, .ireturn, 0, 0) :: [])]
def mb_Circuit_isNode : ma_Tb := [(0, [true, true], (1, .iload_n 1, 0, 0) :: (3, .ifCond .lt (15), 0, 0) :: (1, .iload_n 1, 0, 0) :: (1, .aload_n 0, 0, 0) :: (3, .getfield 43, 3, 10) :: (3, .if_icmp .ge (7), 0, 0) :: (1, .iconst (1), 0, 1) :: (3, .goto (4), 0, 0) :: []),
  (16, [false, false], (1, .iconst (0), 0, 0) :: []),
  (17, [false, false], (1, .ireturn, 0, 0) :: [])]
def mb_Places_isSound : ma_Tb := [(0, [true, false, false, false], (1, .iconst (0), 0, 0) :: (1, .istore_n 1, 0, 0) :: (1, .iconst (0), 0, 0) :: (1, .istore_n 2, 0, 0) :: []),
  (4, [true, true, true, false], (1, .iload_n 2, 0, 0) :: (2, .bipush (36), 0, 36) :: (3, .if_icmp .ge (55), 0, 0) :: (1, .aload_n 0, 0, 0) :: (3, .getfield 15, 6, 1) :: (1, .iload_n 2, 0, 0) :: (1, .iaload, 0, 0) :: (1, .istore_n 3, 0, 0) :: (1, .iload_n 3, 0, 0) :: (1, .aload_n 0, 0, 0) :: (3, .getfield 41, 6, 9) :: (3, .getfield 51, 0, 7) :: (3, .if_icmp .ge (17), 0, 0) :: (1, .iload_n 3, 0, 0) :: (3, .ifCond .lt (15), 0, 0) :: (1, .aload_n 0, 0, 0) :: (3, .getfield 9, 6, 0) :: (1, .iload_n 3, 0, 0) :: (1, .iaload, 0, 0) :: (1, .iload_n 2, 0, 0) :: (3, .if_icmp .eq (5), 0, 0) :: []),
  (42, [false, false, false, false], (1, .iconst (0), 0, 0) :: (1, .ireturn, 0, 0) :: []),
  (44, [true, true, true, true], (1, .iload_n 1, 0, 0) :: (1, .iload_n 3, 0, 0) :: (3, .ifCond .lt (7), 0, 0) :: (1, .iconst (1), 0, 1) :: (3, .goto (4), 0, 0) :: []),
  (53, [true, false, true, false], (1, .iconst (0), 0, 0) :: []),
  (54, [true, false, true, false], (1, .iadd, 0, 0) :: (1, .istore_n 1, 0, 0) :: (3, .iinc 2 (1), 0, 0) :: (3, .goto (-55), 0, 0) :: []),
  (62, [true, true, false, false], (1, .iload_n 1, 0, 0) :: (1, .aload_n 0, 0, 0) :: (3, .getfield 41, 6, 9) :: (3, .getfield 51, 0, 7) :: (3, .if_icmp .ne (7), 0, 0) :: (1, .iconst (1), 0, 1) :: (3, .goto (4), 0, 0) :: []),
  (77, [false, false, false, false], (1, .iconst (0), 0, 0) :: []),
  (78, [false, false, false, false], (1, .ireturn, 0, 0) :: [])]
def mb_Routes_isCrowded : ma_Tb := [(0, [true, false], (1, .iconst (0), 0, 0) :: (1, .istore_n 1, 0, 0) :: []),
  (2, [true, true], (1, .iload_n 1, 0, 0) :: (2, .bipush (84), 0, 84) :: (3, .if_icmp .ge (21), 0, 0) :: (1, .aload_n 0, 0, 0) :: (3, .getfield 20, 7, 2) :: (1, .iload_n 1, 0, 0) :: (1, .iaload, 0, 0) :: (1, .iconst (2), 0, 2) :: (3, .if_icmp .le (5), 0, 0) :: (1, .iconst (1), 0, 1) :: (1, .ireturn, 0, 0) :: []),
  (20, [true, true], (3, .iinc 1 (1), 0, 0) :: (3, .goto (-21), 0, 0) :: []),
  (26, [false, false], (1, .iconst (0), 0, 0) :: (1, .ireturn, 0, 0) :: [])]
def mt_LatticefitLaw_map_4 : List ma_AI := (1, .ireturn, 0, 0) :: []
def mb_LatticefitLaw_map : ma_Tb := [(0, [true, false], (1, .aload_n 0, 0, 0) :: (3, .invokevirtual 40, 8, 10) :: mt_LatticefitLaw_map_4),
  (5, [false, false], (1, .astore_n 1, 0, 0) :: (2, .ldc 17, 0, (-900001)) :: (1, .ireturn, 0, 0) :: []),
  (9, [false, false], (1, .astore_n 1, 0, 0) :: (2, .ldc 24, 0, (-900002)) :: (1, .ireturn, 0, 0) :: [])]
def mt_Latticefit_map_36 : List ma_AI := (1, .aload_n 0, 0, 0) :: (3, .getfield 28, 10, 2) :: (3, .getfield 147, 0, 7) :: (2, .bipush (36), 0, 36) :: (3, .if_icmp .le (11), 0, 0) :: (8, .athrow, 1, 1) :: []
def mt_Latticefit_map_25 : List ma_AI := (1, .aload_n 0, 0, 0) :: (3, .getfield 28, 10, 2) :: (1, .aload_n 0, 0, 0) :: (3, .getfield 21, 10, 1) :: (3, .invokevirtual 143, 14, 0) :: mt_Latticefit_map_36
def mt_Latticefit_map_70 : List ma_AI := (1, .aload_n 0, 0, 0) :: (1, .iconst (1), 0, 1) :: (3, .putfield 87, 10, 10) :: (1, .aload_n 0, 0, 0) :: (3, .getfield 28, 10, 2) :: (3, .getfield 147, 0, 7) :: (1, .ireturn, 0, 0) :: []
def mt_Latticefit_map_63 : List ma_AI := (1, .aload_n 0, 0, 0) :: (3, .getfield 44, 10, 4) :: (3, .invokevirtual 156, 24, 7) :: mt_Latticefit_map_70
def mb_Latticefit_map : ma_Tb := [(0, [true], (1, .aload_n 0, 0, 0) :: (3, .getfield 10, 10, 0) :: (3, .getfield 133, 3, 13) :: (3, .ifCond .ne (11), 0, 0) :: (8, .athrow, 0, 0) :: []),
  (18, [true], (1, .aload_n 0, 0, 0) :: (3, .getfield 21, 10, 1) :: (3, .invokevirtual 140, 9, 4) :: mt_Latticefit_map_25),
  (56, [true], (1, .aload_n 0, 0, 0) :: (3, .getfield 37, 10, 3) :: (3, .invokevirtual 153, 23, 6) :: mt_Latticefit_map_63)]
def mt_Cuts_findAll_43 : List ma_AI := (1, .aload_n 0, 0, 0) :: (3, .getfield 25, 4, 3) :: (1, .iload_n 1, 0, 0) :: (1, .iconst (1), 0, 1) :: (1, .aload_n 0, 0, 0) :: (3, .getfield 18, 4, 1) :: (1, .iload_n 1, 0, 0) :: (1, .aaload, 0, 0) :: (1, .iconst (0), 0, 0) :: (1, .iaload, 0, 0) :: (1, .iadd, 0, 0) :: (1, .iastore, 0, 0) :: []
def mt_Cuts_findAll_35 : List ma_AI := (3, .ifCond .eq (24), 0, 0) :: (1, .aload_n 0, 0, 0) :: (1, .iload_n 1, 0, 0) :: (3, .invokevirtual 42, 10, 4) :: mt_Cuts_findAll_43
def mb_Cuts_findAll : ma_Tb := [(0, [true, false], (1, .iconst (0), 0, 0) :: (1, .istore_n 1, 0, 0) :: []),
  (2, [true, true], (1, .iload_n 1, 0, 0) :: (1, .aload_n 0, 0, 0) :: (3, .getfield 28, 4, 4) :: (3, .getfield 32, 3, 10) :: (3, .if_icmp .ge (100), 0, 0) :: (1, .aload_n 0, 0, 0) :: (3, .getfield 21, 4, 2) :: (1, .iload_n 1, 0, 0) :: (1, .iconst (0), 0, 0) :: (1, .iastore, 0, 0) :: (1, .aload_n 0, 0, 0) :: (3, .getfield 25, 4, 3) :: (1, .iload_n 1, 0, 0) :: (1, .iconst (0), 0, 0) :: (1, .iastore, 0, 0) :: (1, .aload_n 0, 0, 0) :: (3, .getfield 28, 4, 4) :: (1, .iload_n 1, 0, 0) :: (3, .invokevirtual 38, 3, 3) :: mt_Cuts_findAll_35),
  (59, [true, true], (1, .aload_n 0, 0, 0) :: (3, .getfield 11, 4, 0) :: (1, .iload_n 1, 0, 0) :: (1, .aaload, 0, 0) :: (1, .aload_n 0, 0, 0) :: (3, .getfield 21, 4, 2) :: (1, .iload_n 1, 0, 0) :: (1, .iaload, 0, 0) :: (1, .lconst 1, 0, 1) :: (1, .iload_n 1, 0, 0) :: (1, .lshl, 0, 0) :: (1, .lastore, 0, 0) :: (1, .aload_n 0, 0, 0) :: (3, .getfield 18, 4, 1) :: (1, .iload_n 1, 0, 0) :: (1, .aaload, 0, 0) :: (1, .aload_n 0, 0, 0) :: (3, .getfield 21, 4, 2) :: (1, .iload_n 1, 0, 0) :: (1, .iaload, 0, 0) :: (1, .aload_n 0, 0, 0) :: (3, .getfield 25, 4, 3) :: (1, .iload_n 1, 0, 0) :: (1, .iaload, 0, 0) :: (1, .iastore, 0, 0) :: (1, .aload_n 0, 0, 0) :: (3, .getfield 21, 4, 2) :: (1, .iload_n 1, 0, 0) :: (1, .dup2, 0, 0) :: (1, .iaload, 0, 0) :: (1, .iconst (1), 0, 1) :: (1, .iadd, 0, 0) :: (1, .iastore, 0, 0) :: (3, .iinc 1 (1), 0, 0) :: (3, .goto (-105), 0, 0) :: []),
  (110, [false, false], (1, .return_, 0, 0) :: [])]
def mt_Cuts_offerAll_83 : List ma_AI := (3, .goto (68), 0, 0) :: []
def mt_Cuts_offerAll_145 : List ma_AI := (3, .iinc 6 (1), 0, 0) :: (3, .goto (-59), 0, 0) :: []
def mb_Cuts_offerAll : ma_Tb := [(0, [true, true, false, false, false, false, false], (1, .aload_n 0, 0, 0) :: (3, .getfield 28, 4, 4) :: (3, .getfield 46, 3, 1) :: (1, .iload_n 1, 0, 0) :: (1, .iaload, 0, 0) :: (1, .istore_n 2, 0, 0) :: (1, .aload_n 0, 0, 0) :: (3, .getfield 28, 4, 4) :: (3, .getfield 49, 3, 2) :: (1, .iload_n 1, 0, 0) :: (1, .iaload, 0, 0) :: (1, .istore_n 3, 0, 0) :: (1, .aload_n 0, 0, 0) :: (3, .getfield 28, 4, 4) :: (3, .getfield 52, 3, 0) :: (1, .iload_n 1, 0, 0) :: (1, .caload, 0, 0) :: (2, .bipush (110), 0, 110) :: (3, .if_icmp .ne (7), 0, 0) :: (1, .iconst (1), 0, 1) :: (3, .goto (4), 0, 0) :: []),
  (38, [true, true, true, true, false, false, false], (1, .iconst (0), 0, 0) :: []),
  (39, [true, true, true, true, false, false, false], (2, .istore 4, 0, 0) :: (1, .iconst (0), 0, 0) :: (2, .istore 5, 0, 0) :: []),
  (44, [true, true, true, true, true, true, false], (2, .iload 5, 0, 0) :: (1, .aload_n 0, 0, 0) :: (3, .getfield 21, 4, 2) :: (1, .iload_n 2, 0, 0) :: (1, .iaload, 0, 0) :: (3, .if_icmp .ge (105), 0, 0) :: (2, .iload 4, 0, 0) :: (3, .ifCond .eq (29), 0, 0) :: (1, .aload_n 0, 0, 0) :: (1, .iload_n 1, 0, 0) :: (1, .aload_n 0, 0, 0) :: (3, .getfield 11, 4, 0) :: (1, .iload_n 2, 0, 0) :: (1, .aaload, 0, 0) :: (2, .iload 5, 0, 0) :: (1, .laload, 0, 0) :: (1, .aload_n 0, 0, 0) :: (3, .getfield 18, 4, 1) :: (1, .iload_n 2, 0, 0) :: (1, .aaload, 0, 0) :: (2, .iload 5, 0, 0) :: (1, .iaload, 0, 0) :: (3, .invokevirtual 56, 11, 4) :: mt_Cuts_offerAll_83),
  (86, [true, true, true, true, true, true, false], (1, .iconst (0), 0, 0) :: (2, .istore 6, 0, 0) :: []),
  (89, [true, true, true, true, true, true, true], (2, .iload 6, 0, 0) :: (1, .aload_n 0, 0, 0) :: (3, .getfield 21, 4, 2) :: (1, .iload_n 3, 0, 0) :: (1, .iaload, 0, 0) :: (3, .if_icmp .ge (54), 0, 0) :: (1, .aload_n 0, 0, 0) :: (1, .iload_n 1, 0, 0) :: (1, .aload_n 0, 0, 0) :: (3, .getfield 11, 4, 0) :: (1, .iload_n 2, 0, 0) :: (1, .aaload, 0, 0) :: (2, .iload 5, 0, 0) :: (1, .laload, 0, 0) :: (1, .aload_n 0, 0, 0) :: (3, .getfield 11, 4, 0) :: (1, .iload_n 3, 0, 0) :: (1, .aaload, 0, 0) :: (2, .iload 6, 0, 0) :: (1, .laload, 0, 0) :: (1, .lor, 0, 0) :: (1, .aload_n 0, 0, 0) :: (3, .getfield 18, 4, 1) :: (1, .iload_n 2, 0, 0) :: (1, .aaload, 0, 0) :: (2, .iload 5, 0, 0) :: (1, .iaload, 0, 0) :: (1, .aload_n 0, 0, 0) :: (3, .getfield 18, 4, 1) :: (1, .iload_n 3, 0, 0) :: (1, .aaload, 0, 0) :: (2, .iload 6, 0, 0) :: (1, .iaload, 0, 0) :: (3, .invokestatic 60, 10002, 0) :: (3, .invokevirtual 56, 11, 4) :: mt_Cuts_offerAll_145),
  (151, [true, true, true, true, true, true, false], (3, .iinc 5 (1), 0, 0) :: (3, .goto (-110), 0, 0) :: []),
  (157, [false, false, false, false, false, false, false], (1, .return_, 0, 0) :: [])]
def mt_Cuts_offer_4 : List ma_AI := (1, .iconst (4), 0, 4) :: (3, .if_icmp .le (4), 0, 0) :: (1, .return_, 0, 0) :: []
def mt_Cuts_offer_33 : List ma_AI := (3, .ifCond .eq (9), 0, 0) :: (3, .iinc 5 (1), 0, 0) :: (3, .goto (-27), 0, 0) :: []
def mb_Cuts_offer : ma_Tb := [(0, [true, true, true, false, true, false, false, false], (1, .lload_n 2, 0, 0) :: (3, .invokestatic 66, 12, 0) :: mt_Cuts_offer_4),
  (9, [true, true, true, false, true, false, false, false], (1, .iconst (0), 0, 0) :: (2, .istore 5, 0, 0) :: []),
  (12, [true, true, true, false, true, true, false, false], (2, .iload 5, 0, 0) :: (1, .aload_n 0, 0, 0) :: (3, .getfield 21, 4, 2) :: (1, .iload_n 1, 0, 0) :: (1, .iaload, 0, 0) :: (3, .if_icmp .ge (22), 0, 0) :: (1, .aload_n 0, 0, 0) :: (1, .iload_n 1, 0, 0) :: (2, .iload 5, 0, 0) :: (1, .lload_n 2, 0, 0) :: (2, .iload 4, 0, 0) :: (3, .invokevirtual 72, 13, 4) :: mt_Cuts_offer_33),
  (42, [true, true, true, false, true, true, false, false], (2, .iload 5, 0, 0) :: (1, .aload_n 0, 0, 0) :: (3, .getfield 21, 4, 2) :: (1, .iload_n 1, 0, 0) :: (1, .iaload, 0, 0) :: (3, .if_icmp .ge (21), 0, 0) :: (1, .aload_n 0, 0, 0) :: (3, .getfield 11, 4, 0) :: (1, .iload_n 1, 0, 0) :: (1, .aaload, 0, 0) :: (2, .iload 5, 0, 0) :: (1, .laload, 0, 0) :: (1, .lload_n 2, 0, 0) :: (1, .lcmp, 0, 0) :: (3, .ifCond .ne (7), 0, 0) :: (1, .iconst (1), 0, 1) :: (3, .goto (4), 0, 0) :: []),
  (71, [true, true, true, false, true, true, false, false], (1, .iconst (0), 0, 0) :: []),
  (72, [true, true, true, false, true, true, false, false], (2, .istore 6, 0, 0) :: (2, .iload 6, 0, 0) :: (3, .ifCond .ne (10), 0, 0) :: (2, .iload 5, 0, 0) :: (2, .bipush (6), 0, 6) :: (3, .if_icmp .lt (4), 0, 0) :: []),
  (86, [false, false, false, false, false, false, false, false], (1, .return_, 0, 0) :: []),
  (87, [true, true, true, false, true, true, false, false], (1, .aload_n 0, 0, 0) :: (3, .getfield 21, 4, 2) :: (1, .iload_n 1, 0, 0) :: (1, .iaload, 0, 0) :: (2, .bipush (6), 0, 6) :: (3, .if_icmp .ge (13), 0, 0) :: (1, .aload_n 0, 0, 0) :: (3, .getfield 21, 4, 2) :: (1, .iload_n 1, 0, 0) :: (1, .dup2, 0, 0) :: (1, .iaload, 0, 0) :: (1, .iconst (1), 0, 1) :: (1, .iadd, 0, 0) :: (1, .iastore, 0, 0) :: []),
  (108, [true, true, true, false, true, true, false, false], (1, .aload_n 0, 0, 0) :: (3, .getfield 21, 4, 2) :: (1, .iload_n 1, 0, 0) :: (1, .iaload, 0, 0) :: (1, .iconst (1), 0, 1) :: (1, .isub, 0, 0) :: (2, .istore 7, 0, 0) :: []),
  (118, [true, true, true, false, true, true, false, true], (2, .iload 7, 0, 0) :: (2, .iload 5, 0, 0) :: (3, .if_icmp .le (49), 0, 0) :: (1, .aload_n 0, 0, 0) :: (3, .getfield 11, 4, 0) :: (1, .iload_n 1, 0, 0) :: (1, .aaload, 0, 0) :: (2, .iload 7, 0, 0) :: (1, .aload_n 0, 0, 0) :: (3, .getfield 11, 4, 0) :: (1, .iload_n 1, 0, 0) :: (1, .aaload, 0, 0) :: (2, .iload 7, 0, 0) :: (1, .iconst (1), 0, 1) :: (1, .isub, 0, 0) :: (1, .laload, 0, 0) :: (1, .lastore, 0, 0) :: (1, .aload_n 0, 0, 0) :: (3, .getfield 18, 4, 1) :: (1, .iload_n 1, 0, 0) :: (1, .aaload, 0, 0) :: (2, .iload 7, 0, 0) :: (1, .aload_n 0, 0, 0) :: (3, .getfield 18, 4, 1) :: (1, .iload_n 1, 0, 0) :: (1, .aaload, 0, 0) :: (2, .iload 7, 0, 0) :: (1, .iconst (1), 0, 1) :: (1, .isub, 0, 0) :: (1, .iaload, 0, 0) :: (1, .iastore, 0, 0) :: (3, .iinc 7 (-1), 0, 0) :: (3, .goto (-50), 0, 0) :: []),
  (171, [true, true, true, false, true, true, false, false], (1, .aload_n 0, 0, 0) :: (3, .getfield 11, 4, 0) :: (1, .iload_n 1, 0, 0) :: (1, .aaload, 0, 0) :: (2, .iload 5, 0, 0) :: (1, .lload_n 2, 0, 0) :: (1, .lastore, 0, 0) :: (1, .aload_n 0, 0, 0) :: (3, .getfield 18, 4, 1) :: (1, .iload_n 1, 0, 0) :: (1, .aaload, 0, 0) :: (2, .iload 5, 0, 0) :: (2, .iload 4, 0, 0) :: (1, .iastore, 0, 0) :: (1, .return_, 0, 0) :: [])]
def mb_Long_bitCount : ma_Tb := [(0, [true, false], (1, .lload_n 0, 0, 0) :: (1, .lload_n 0, 0, 0) :: (1, .iconst (1), 0, 1) :: (1, .lushr, 0, 0) :: (3, .ldc2_w 314, 0, 6148914691236517205) :: (1, .land, 0, 0) :: (1, .lsub, 0, 0) :: (1, .lstore_n 0, 0, 0) :: (1, .lload_n 0, 0, 0) :: (3, .ldc2_w 316, 0, 3689348814741910323) :: (1, .land, 0, 0) :: (1, .lload_n 0, 0, 0) :: (1, .iconst (2), 0, 2) :: (1, .lushr, 0, 0) :: (3, .ldc2_w 316, 0, 3689348814741910323) :: (1, .land, 0, 0) :: (1, .ladd, 0, 0) :: (1, .lstore_n 0, 0, 0) :: (1, .lload_n 0, 0, 0) :: (1, .lload_n 0, 0, 0) :: (1, .iconst (4), 0, 4) :: (1, .lushr, 0, 0) :: (1, .ladd, 0, 0) :: (3, .ldc2_w 318, 0, 1085102592571150095) :: (1, .land, 0, 0) :: (1, .lstore_n 0, 0, 0) :: (1, .lload_n 0, 0, 0) :: (1, .lload_n 0, 0, 0) :: (2, .bipush (8), 0, 8) :: (1, .lushr, 0, 0) :: (1, .ladd, 0, 0) :: (1, .lstore_n 0, 0, 0) :: (1, .lload_n 0, 0, 0) :: (1, .lload_n 0, 0, 0) :: (2, .bipush (16), 0, 16) :: (1, .lushr, 0, 0) :: (1, .ladd, 0, 0) :: (1, .lstore_n 0, 0, 0) :: (1, .lload_n 0, 0, 0) :: (1, .lload_n 0, 0, 0) :: (2, .bipush (32), 0, 32) :: (1, .lushr, 0, 0) :: (1, .ladd, 0, 0) :: (1, .lstore_n 0, 0, 0) :: (1, .lload_n 0, 0, 0) :: (1, .l2i, 0, 0) :: (2, .bipush (127), 0, 127) :: (1, .iand, 0, 0) :: (1, .ireturn, 0, 0) :: [])]
def mt_Cuts_isBehind_49 : List ma_AI := (2, .istore 7, 0, 0) :: (2, .iload 6, 0, 0) :: (2, .iload 7, 0, 0) :: (3, .if_icmp .eq (16), 0, 0) :: (2, .iload 6, 0, 0) :: (2, .iload 7, 0, 0) :: (3, .if_icmp .ge (7), 0, 0) :: (1, .iconst (1), 0, 1) :: (3, .goto (4), 0, 0) :: []
def mt_Cuts_isBehind_43 : List ma_AI := (2, .istore 6, 0, 0) :: (1, .lload_n 3, 0, 0) :: (3, .invokestatic 66, 12, 0) :: mt_Cuts_isBehind_49
def mb_Cuts_isBehind : ma_Tb := [(0, [true, true, true, true, false, true, false, false], (1, .aload_n 0, 0, 0) :: (3, .getfield 18, 4, 1) :: (1, .iload_n 1, 0, 0) :: (1, .aaload, 0, 0) :: (1, .iload_n 2, 0, 0) :: (1, .iaload, 0, 0) :: (2, .iload 5, 0, 0) :: (3, .if_icmp .eq (22), 0, 0) :: (1, .aload_n 0, 0, 0) :: (3, .getfield 18, 4, 1) :: (1, .iload_n 1, 0, 0) :: (1, .aaload, 0, 0) :: (1, .iload_n 2, 0, 0) :: (1, .iaload, 0, 0) :: (2, .iload 5, 0, 0) :: (3, .if_icmp .ge (7), 0, 0) :: (1, .iconst (1), 0, 1) :: (3, .goto (4), 0, 0) :: []),
  (30, [false, false, false, false, false, false, false, false], (1, .iconst (0), 0, 0) :: []),
  (31, [false, false, false, false, false, false, false, false], (1, .ireturn, 0, 0) :: []),
  (32, [true, true, true, true, false, false, false, false], (1, .aload_n 0, 0, 0) :: (3, .getfield 11, 4, 0) :: (1, .iload_n 1, 0, 0) :: (1, .aaload, 0, 0) :: (1, .iload_n 2, 0, 0) :: (1, .laload, 0, 0) :: (3, .invokestatic 66, 12, 0) :: mt_Cuts_isBehind_43),
  (69, [false, false, false, false, false, false, false, false], (1, .iconst (0), 0, 0) :: []),
  (70, [false, false, false, false, false, false, false, false], (1, .ireturn, 0, 0) :: []),
  (71, [true, true, true, true, false, false, false, false], (1, .aload_n 0, 0, 0) :: (3, .getfield 11, 4, 0) :: (1, .iload_n 1, 0, 0) :: (1, .aaload, 0, 0) :: (1, .iload_n 2, 0, 0) :: (1, .laload, 0, 0) :: (1, .lload_n 3, 0, 0) :: (1, .lcmp, 0, 0) :: (3, .ifCond .ge (7), 0, 0) :: (1, .iconst (1), 0, 1) :: (3, .goto (4), 0, 0) :: []),
  (88, [false, false, false, false, false, false, false, false], (1, .iconst (0), 0, 0) :: []),
  (89, [false, false, false, false, false, false, false, false], (1, .ireturn, 0, 0) :: [])]
def mt_Blocks_pack_18 : List ma_AI := (1, .iconst (0), 0, 0) :: (1, .istore_n 2, 0, 0) :: []
def mt_Blocks_pack_5 : List ma_AI := (1, .aload_n 0, 0, 0) :: (1, .iconst (0), 0, 0) :: (3, .putfield 47, 0, 7) :: (1, .aload_n 0, 0, 0) :: (3, .getfield 29, 0, 5) :: (1, .iconst (-1), 0, (-1)) :: (3, .invokestatic 51, 19, 0) :: mt_Blocks_pack_18
def mt_Blocks_pack_45 : List ma_AI := (3, .iinc 2 (1), 0, 0) :: (3, .goto (-28), 0, 0) :: []
def mt_Blocks_pack_92 : List ma_AI := (1, .aload_n 0, 0, 0) :: (3, .getfield 15, 0, 1) :: (1, .aload_n 0, 0, 0) :: (3, .getfield 47, 0, 7) :: (1, .iconst (-1), 0, (-1)) :: (1, .iastore, 0, 0) :: (1, .aload_n 0, 0, 0) :: (1, .dup, 0, 0) :: (3, .getfield 47, 0, 7) :: (1, .iconst (1), 0, 1) :: (1, .iadd, 0, 0) :: (3, .putfield 47, 0, 7) :: []
def mt_Blocks_pack_89 : List ma_AI := (3, .invokevirtual 78, 21, 0) :: mt_Blocks_pack_92
def mb_Blocks_pack : ma_Tb := [(0, [true, true, false], (1, .aload_n 0, 0, 0) :: (1, .aload_n 1, 0, 0) :: (3, .invokevirtual 43, 15, 0) :: mt_Blocks_pack_5),
  (20, [true, true, true], (1, .iload_n 2, 0, 0) :: (1, .aload_n 0, 0, 0) :: (3, .getfield 39, 0, 9) :: (3, .getfield 57, 3, 12) :: (3, .if_icmp .ge (23), 0, 0) :: (1, .aload_n 0, 0, 0) :: (1, .aload_n 0, 0, 0) :: (3, .getfield 39, 0, 9) :: (3, .getfield 62, 3, 8) :: (1, .iload_n 2, 0, 0) :: (1, .iaload, 0, 0) :: (1, .aload_n 1, 0, 0) :: (3, .invokevirtual 65, 20, 0) :: mt_Blocks_pack_45),
  (51, [true, true, false], (1, .iconst (0), 0, 0) :: (1, .istore_n 2, 0, 0) :: []),
  (53, [true, true, true], (1, .iload_n 2, 0, 0) :: (1, .aload_n 0, 0, 0) :: (3, .getfield 39, 0, 9) :: (3, .getfield 69, 3, 10) :: (3, .if_icmp .ge (57), 0, 0) :: (1, .aload_n 0, 0, 0) :: (3, .getfield 32, 0, 6) :: (1, .iload_n 2, 0, 0) :: (1, .baload, 0, 0) :: (3, .ifCond .eq (42), 0, 0) :: (1, .aload_n 0, 0, 0) :: (3, .getfield 29, 0, 5) :: (1, .iload_n 2, 0, 0) :: (1, .iaload, 0, 0) :: (3, .ifCond .ge (33), 0, 0) :: (1, .aload_n 0, 0, 0) :: (1, .iload_n 2, 0, 0) :: (1, .aload_n 1, 0, 0) :: (1, .iload_n 2, 0, 0) :: (3, .invokevirtual 72, 16, 4) :: mt_Blocks_pack_89),
  (112, [true, true, true], (3, .iinc 2 (1), 0, 0) :: (3, .goto (-62), 0, 0) :: []),
  (118, [false, false, false], (1, .return_, 0, 0) :: [])]
def mt_Blocks_markNeeded_63 : List ma_AI := (1, .bastore, 0, 0) :: (3, .iinc 2 (1), 0, 0) :: (3, .goto (-44), 0, 0) :: []
def mt_Blocks_markNeeded_114 : List ma_AI := (1, .bastore, 0, 0) :: (3, .iinc 2 (1), 0, 0) :: (3, .goto (-46), 0, 0) :: []
def mt_Blocks_markNeeded_150 : List ma_AI := (1, .iload_n 2, 0, 0) :: (3, .invokevirtual 95, 17, 0) :: []
def mb_Blocks_markNeeded : ma_Tb := [(0, [true, true, false, false], (1, .iconst (0), 0, 0) :: (1, .istore_n 2, 0, 0) :: []),
  (2, [true, true, true, false], (1, .iload_n 2, 0, 0) :: (2, .bipush (48), 0, 48) :: (3, .if_icmp .ge (16), 0, 0) :: (1, .aload_n 0, 0, 0) :: (3, .getfield 32, 0, 6) :: (1, .iload_n 2, 0, 0) :: (1, .iconst (0), 0, 0) :: (1, .bastore, 0, 0) :: (3, .iinc 2 (1), 0, 0) :: (3, .goto (-16), 0, 0) :: []),
  (21, [true, true, false, false], (1, .iconst (0), 0, 0) :: (1, .istore_n 2, 0, 0) :: []),
  (23, [true, true, true, false], (1, .iload_n 2, 0, 0) :: (1, .aload_n 0, 0, 0) :: (3, .getfield 39, 0, 9) :: (3, .getfield 82, 3, 13) :: (3, .if_icmp .ge (39), 0, 0) :: (1, .aload_n 0, 0, 0) :: (3, .getfield 32, 0, 6) :: (1, .aload_n 0, 0, 0) :: (3, .getfield 39, 0, 9) :: (3, .getfield 85, 3, 9) :: (1, .iload_n 2, 0, 0) :: (1, .iaload, 0, 0) :: (1, .aload_n 0, 0, 0) :: (3, .getfield 39, 0, 9) :: (1, .aload_n 0, 0, 0) :: (3, .getfield 39, 0, 9) :: (3, .getfield 85, 3, 9) :: (1, .iload_n 2, 0, 0) :: (1, .iaload, 0, 0) :: (3, .invokevirtual 88, 3, 3) :: mt_Blocks_markNeeded_63),
  (70, [true, true, false, false], (1, .iconst (0), 0, 0) :: (1, .istore_n 2, 0, 0) :: []),
  (72, [true, true, true, false], (1, .iload_n 2, 0, 0) :: (1, .aload_n 0, 0, 0) :: (3, .getfield 39, 0, 9) :: (3, .getfield 57, 3, 12) :: (3, .if_icmp .ge (41), 0, 0) :: (1, .aload_n 0, 0, 0) :: (3, .getfield 39, 0, 9) :: (3, .getfield 92, 3, 3) :: (1, .aload_n 0, 0, 0) :: (3, .getfield 39, 0, 9) :: (3, .getfield 62, 3, 8) :: (1, .iload_n 2, 0, 0) :: (1, .iaload, 0, 0) :: (1, .iaload, 0, 0) :: (1, .istore_n 3, 0, 0) :: (1, .aload_n 0, 0, 0) :: (3, .getfield 32, 0, 6) :: (1, .iload_n 3, 0, 0) :: (1, .aload_n 0, 0, 0) :: (3, .getfield 39, 0, 9) :: (1, .iload_n 3, 0, 0) :: (3, .invokevirtual 88, 3, 3) :: mt_Blocks_markNeeded_114),
  (121, [true, true, false, false], (1, .aload_n 0, 0, 0) :: (3, .getfield 39, 0, 9) :: (3, .getfield 69, 3, 10) :: (1, .iconst (1), 0, 1) :: (1, .isub, 0, 0) :: (1, .istore_n 2, 0, 0) :: []),
  (131, [true, true, true, false], (1, .iload_n 2, 0, 0) :: (3, .ifCond .lt (28), 0, 0) :: (1, .aload_n 0, 0, 0) :: (3, .getfield 32, 0, 6) :: (1, .iload_n 2, 0, 0) :: (1, .baload, 0, 0) :: (3, .ifCond .eq (13), 0, 0) :: (1, .aload_n 0, 0, 0) :: (1, .aload_n 1, 0, 0) :: (1, .iload_n 2, 0, 0) :: (3, .invokevirtual 72, 16, 4) :: mt_Blocks_markNeeded_150),
  (154, [true, true, true, false], (3, .iinc 2 (-1), 0, 0) :: (3, .goto (-26), 0, 0) :: []),
  (160, [false, false, false, false], (1, .return_, 0, 0) :: [])]
def mb_Cuts_own : ma_Tb := [(0, [true, true], (1, .aload_n 0, 0, 0) :: (3, .getfield 11, 4, 0) :: (1, .iload_n 1, 0, 0) :: (1, .aaload, 0, 0) :: (1, .iconst (0), 0, 0) :: (1, .laload, 0, 0) :: (1, .lreturn, 0, 0) :: [])]
def mt_Blocks_markCut_27 : List ma_AI := (3, .ifCond .eq (11), 0, 0) :: (1, .aload_n 0, 0, 0) :: (3, .getfield 32, 0, 6) :: (2, .iload 4, 0, 0) :: (1, .iconst (1), 0, 1) :: (1, .bastore, 0, 0) :: []
def mt_Blocks_markCut_15 : List ma_AI := (3, .ifCond .eq (23), 0, 0) :: (1, .aload_n 0, 0, 0) :: (3, .getfield 39, 0, 9) :: (2, .iload 4, 0, 0) :: (3, .invokevirtual 88, 3, 3) :: mt_Blocks_markCut_27
def mb_Blocks_markCut : ma_Tb := [(0, [true, true, false, true, false], (1, .iconst (0), 0, 0) :: (2, .istore 4, 0, 0) :: []),
  (3, [true, true, false, true, true], (2, .iload 4, 0, 0) :: (1, .iload_n 3, 0, 0) :: (3, .if_icmp .ge (38), 0, 0) :: (1, .lload_n 1, 0, 0) :: (2, .iload 4, 0, 0) :: (3, .invokestatic 99, 18, 0) :: mt_Blocks_markCut_15),
  (38, [true, true, false, true, true], (3, .iinc 4 (1), 0, 0) :: (3, .goto (-38), 0, 0) :: []),
  (44, [false, false, false, false, false], (1, .return_, 0, 0) :: [])]
def mb_Blocks_isIn : ma_Tb := [(0, [true, false, true], (1, .lload_n 0, 0, 0) :: (1, .iload_n 2, 0, 0) :: (1, .lshr, 0, 0) :: (1, .lconst 1, 0, 1) :: (1, .land, 0, 0) :: (1, .lconst 0, 0, 0) :: (1, .lcmp, 0, 0) :: (3, .ifCond .eq (7), 0, 0) :: (1, .iconst (1), 0, 1) :: (3, .goto (4), 0, 0) :: []),
  (14, [false, false, false], (1, .iconst (0), 0, 0) :: []),
  (15, [false, false, false], (1, .ireturn, 0, 0) :: [])]
def mb_Arrays_fill_AIIV : ma_Tb := [(0, [true, true, false, false], (1, .iconst (0), 0, 0) :: (1, .istore_n 2, 0, 0) :: (1, .aload_n 0, 0, 0) :: (1, .arraylength, 0, 0) :: (1, .istore_n 3, 0, 0) :: []),
  (5, [true, true, true, true], (1, .iload_n 2, 0, 0) :: (1, .iload_n 3, 0, 0) :: (3, .if_icmp .ge (13), 0, 0) :: (1, .aload_n 0, 0, 0) :: (1, .iload_n 2, 0, 0) :: (1, .iload_n 1, 0, 0) :: (1, .iastore, 0, 0) :: (3, .iinc 2 (1), 0, 0) :: (3, .goto (-12), 0, 0) :: []),
  (20, [false, false, false, false], (1, .return_, 0, 0) :: [])]
def mt_Blocks_putRegister_58 : List ma_AI := (3, .goto (49), 0, 0) :: []
def mt_Blocks_putRegister_55 : List ma_AI := (3, .invokevirtual 78, 21, 0) :: mt_Blocks_putRegister_58
def mb_Blocks_putRegister : ma_Tb := [(0, [true, true, true, false], (1, .aload_n 0, 0, 0) :: (3, .getfield 39, 0, 9) :: (3, .getfield 92, 3, 3) :: (1, .iload_n 1, 0, 0) :: (1, .iaload, 0, 0) :: (1, .istore_n 3, 0, 0) :: (1, .aload_n 0, 0, 0) :: (3, .getfield 15, 0, 1) :: (1, .aload_n 0, 0, 0) :: (3, .getfield 47, 0, 7) :: (1, .iload_n 1, 0, 0) :: (1, .iastore, 0, 0) :: (1, .aload_n 0, 0, 0) :: (3, .getfield 29, 0, 5) :: (1, .iload_n 1, 0, 0) :: (1, .aload_n 0, 0, 0) :: (3, .getfield 47, 0, 7) :: (1, .iastore, 0, 0) :: (1, .aload_n 0, 0, 0) :: (3, .getfield 32, 0, 6) :: (1, .iload_n 3, 0, 0) :: (1, .baload, 0, 0) :: (3, .ifCond .eq (25), 0, 0) :: (1, .aload_n 0, 0, 0) :: (3, .getfield 29, 0, 5) :: (1, .iload_n 3, 0, 0) :: (1, .iaload, 0, 0) :: (3, .ifCond .ge (16), 0, 0) :: (1, .aload_n 0, 0, 0) :: (1, .iload_n 3, 0, 0) :: (1, .aload_n 2, 0, 0) :: (1, .iload_n 3, 0, 0) :: (3, .invokevirtual 72, 16, 4) :: mt_Blocks_putRegister_55),
  (61, [true, false, false, true], (1, .aload_n 0, 0, 0) :: (3, .getfield 9, 0, 0) :: (1, .aload_n 0, 0, 0) :: (3, .getfield 47, 0, 7) :: (1, .iconst (-1), 0, (-1)) :: (1, .iastore, 0, 0) :: (1, .aload_n 0, 0, 0) :: (3, .getfield 18, 0, 2) :: (1, .aload_n 0, 0, 0) :: (3, .getfield 47, 0, 7) :: (3, .getstatic 103, 0, 0) :: (1, .iconst (0), 0, 0) :: (1, .iaload, 0, 0) :: (1, .iastore, 0, 0) :: (1, .aload_n 0, 0, 0) :: (3, .getfield 21, 0, 3) :: (1, .aload_n 0, 0, 0) :: (3, .getfield 47, 0, 7) :: (1, .iconst (1), 0, 1) :: (1, .iastore, 0, 0) :: (1, .aload_n 0, 0, 0) :: (3, .getfield 26, 0, 4) :: (1, .aload_n 0, 0, 0) :: (3, .getfield 47, 0, 7) :: (1, .aaload, 0, 0) :: (1, .iconst (0), 0, 0) :: (1, .iload_n 3, 0, 0) :: (1, .iastore, 0, 0) :: []),
  (107, [true, false, false, false], (1, .aload_n 0, 0, 0) :: (1, .dup, 0, 0) :: (3, .getfield 47, 0, 7) :: (1, .iconst (1), 0, 1) :: (1, .iadd, 0, 0) :: (3, .putfield 47, 0, 7) :: (1, .return_, 0, 0) :: [])]
def mt_Blocks_putGate_18 : List ma_AI := (3, .ifCond .eq (42), 0, 0) :: (2, .iload 4, 0, 0) :: (1, .iconst (4), 0, 4) :: (3, .if_icmp .ge (36), 0, 0) :: (1, .aload_n 0, 0, 0) :: (3, .getfield 36, 0, 8) :: (2, .iload 5, 0, 0) :: (3, .getstatic 103, 0, 0) :: (2, .iload 4, 0, 0) :: (1, .iaload, 0, 0) :: (1, .iastore, 0, 0) :: (1, .aload_n 0, 0, 0) :: (3, .getfield 26, 0, 4) :: (1, .aload_n 0, 0, 0) :: (3, .getfield 47, 0, 7) :: (1, .aaload, 0, 0) :: (2, .iload 4, 0, 0) :: (2, .iload 5, 0, 0) :: (1, .iastore, 0, 0) :: (3, .iinc 4 (1), 0, 0) :: (3, .goto (39), 0, 0) :: []
def mt_Blocks_putGate_91 : List ma_AI := (3, .goto (4), 0, 0) :: []
def mt_Blocks_putGate_75 : List ma_AI := (3, .ifCond .eq (19), 0, 0) :: (1, .aload_n 0, 0, 0) :: (3, .getfield 39, 0, 9) :: (2, .iload 5, 0, 0) :: (1, .aload_n 0, 0, 0) :: (3, .getfield 36, 0, 8) :: (3, .invokevirtual 106, 22, 3) :: mt_Blocks_putGate_91
def mb_Blocks_putGate : ma_Tb := [(0, [true, true, true, false, false, false], (1, .iconst (0), 0, 0) :: (2, .istore 4, 0, 0) :: (1, .iconst (0), 0, 0) :: (2, .istore 5, 0, 0) :: []),
  (6, [true, true, true, false, true, true], (2, .iload 5, 0, 0) :: (1, .iload_n 1, 0, 0) :: (3, .if_icmp .gt (93), 0, 0) :: (1, .lload_n 2, 0, 0) :: (2, .iload 5, 0, 0) :: (3, .invokestatic 99, 18, 0) :: mt_Blocks_putGate_18),
  (60, [true, true, true, false, true, true], (1, .aload_n 0, 0, 0) :: (3, .getfield 36, 0, 8) :: (2, .iload 5, 0, 0) :: (1, .aload_n 0, 0, 0) :: (3, .getfield 39, 0, 9) :: (2, .iload 5, 0, 0) :: (3, .invokevirtual 88, 3, 3) :: mt_Blocks_putGate_75),
  (94, [true, true, true, false, true, true], (1, .iconst (0), 0, 0) :: []),
  (95, [true, true, true, false, true, true], (1, .iastore, 0, 0) :: []),
  (96, [true, true, true, false, true, true], (3, .iinc 5 (1), 0, 0) :: (3, .goto (-93), 0, 0) :: []),
  (102, [true, true, false, false, true, false], (1, .aload_n 0, 0, 0) :: (3, .getfield 9, 0, 0) :: (1, .aload_n 0, 0, 0) :: (3, .getfield 47, 0, 7) :: (1, .iload_n 1, 0, 0) :: (1, .iastore, 0, 0) :: (1, .aload_n 0, 0, 0) :: (3, .getfield 18, 0, 2) :: (1, .aload_n 0, 0, 0) :: (3, .getfield 47, 0, 7) :: (1, .aload_n 0, 0, 0) :: (3, .getfield 36, 0, 8) :: (1, .iload_n 1, 0, 0) :: (1, .iaload, 0, 0) :: (1, .iastore, 0, 0) :: (1, .aload_n 0, 0, 0) :: (3, .getfield 21, 0, 3) :: (1, .aload_n 0, 0, 0) :: (3, .getfield 47, 0, 7) :: (2, .iload 4, 0, 0) :: (1, .iastore, 0, 0) :: (1, .aload_n 0, 0, 0) :: (3, .getfield 29, 0, 5) :: (1, .iload_n 1, 0, 0) :: (1, .aload_n 0, 0, 0) :: (3, .getfield 47, 0, 7) :: (1, .iastore, 0, 0) :: (1, .return_, 0, 0) :: [])]
def mb_Circuit_joined : ma_Tb := [(0, [true, true, true, false, false, false], (1, .aload_n 2, 0, 0) :: (1, .aload_n 0, 0, 0) :: (3, .getfield 15, 3, 1) :: (1, .iload_n 1, 0, 0) :: (1, .iaload, 0, 0) :: (1, .iaload, 0, 0) :: (1, .istore_n 3, 0, 0) :: (1, .aload_n 2, 0, 0) :: (1, .aload_n 0, 0, 0) :: (3, .getfield 19, 3, 2) :: (1, .iload_n 1, 0, 0) :: (1, .iaload, 0, 0) :: (1, .iaload, 0, 0) :: (2, .istore 4, 0, 0) :: (1, .aload_n 0, 0, 0) :: (3, .getfield 9, 3, 0) :: (1, .iload_n 1, 0, 0) :: (1, .caload, 0, 0) :: (2, .istore 5, 0, 0) :: (2, .iload 5, 0, 0) :: (2, .bipush (97), 0, 97) :: (3, .if_icmp .ne (8), 0, 0) :: (1, .iload_n 3, 0, 0) :: (2, .iload 4, 0, 0) :: (1, .iand, 0, 0) :: (1, .ireturn, 0, 0) :: []),
  (39, [false, false, false, true, true, true], (2, .iload 5, 0, 0) :: (2, .bipush (111), 0, 111) :: (3, .if_icmp .ne (8), 0, 0) :: (1, .iload_n 3, 0, 0) :: (2, .iload 4, 0, 0) :: (1, .ior, 0, 0) :: (1, .ireturn, 0, 0) :: []),
  (51, [false, false, false, true, true, true], (2, .iload 5, 0, 0) :: (2, .bipush (120), 0, 120) :: (3, .if_icmp .ne (8), 0, 0) :: (1, .iload_n 3, 0, 0) :: (2, .iload 4, 0, 0) :: (1, .ixor, 0, 0) :: (1, .ireturn, 0, 0) :: []),
  (63, [false, false, false, true, false, false], (1, .iload_n 3, 0, 0) :: (1, .iconst (-1), 0, (-1)) :: (1, .ixor, 0, 0) :: (2, .ldc 56, 0, 65535) :: (1, .iand, 0, 0) :: (1, .ireturn, 0, 0) :: [])]
def mt_Places_putAnew_8 : List ma_AI := (1, .iconst (0), 0, 0) :: (1, .istore_n 1, 0, 0) :: []
def mb_Places_putAnew : ma_Tb := [(0, [true, false], (1, .aload_n 0, 0, 0) :: (3, .getfield 15, 6, 1) :: (1, .iconst (-1), 0, (-1)) :: (3, .invokestatic 45, 19, 0) :: mt_Places_putAnew_8),
  (10, [true, true], (1, .iload_n 1, 0, 0) :: (1, .aload_n 0, 0, 0) :: (3, .getfield 41, 6, 9) :: (3, .getfield 51, 0, 7) :: (3, .if_icmp .ge (36), 0, 0) :: (1, .iload_n 1, 0, 0) :: (2, .bipush (36), 0, 36) :: (3, .if_icmp .ge (30), 0, 0) :: (1, .aload_n 0, 0, 0) :: (3, .getfield 9, 6, 0) :: (1, .iload_n 1, 0, 0) :: (1, .iload_n 1, 0, 0) :: (1, .iastore, 0, 0) :: (1, .aload_n 0, 0, 0) :: (3, .getfield 15, 6, 1) :: (1, .iload_n 1, 0, 0) :: (1, .iload_n 1, 0, 0) :: (1, .iastore, 0, 0) :: (1, .aload_n 0, 0, 0) :: (3, .getfield 18, 6, 2) :: (1, .iload_n 1, 0, 0) :: (1, .iconst (0), 0, 0) :: (1, .bastore, 0, 0) :: (3, .iinc 1 (1), 0, 0) :: (3, .goto (-41), 0, 0) :: []),
  (54, [false, false], (1, .return_, 0, 0) :: [])]
def mt_Routes_clear_18 : List ma_AI := (3, .iinc 1 (1), 0, 0) :: (3, .goto (-19), 0, 0) :: []
def mt_Routes_clear_48 : List ma_AI := (1, .return_, 0, 0) :: []
def mt_Routes_clear_40 : List ma_AI := (1, .aload_n 0, 0, 0) :: (3, .getfield 23, 7, 3) :: (1, .lconst 0, 0, 0) :: (3, .invokestatic 53, 25, 0) :: mt_Routes_clear_48
def mt_Routes_clear_32 : List ma_AI := (1, .aload_n 0, 0, 0) :: (3, .getfield 27, 7, 4) :: (1, .iconst (0), 0, 0) :: (3, .invokestatic 47, 19, 0) :: mt_Routes_clear_40
def mb_Routes_clear : ma_Tb := [(0, [true, false], (1, .iconst (0), 0, 0) :: (1, .istore_n 1, 0, 0) :: []),
  (2, [true, true], (1, .iload_n 1, 0, 0) :: (2, .bipush (48), 0, 48) :: (3, .if_icmp .ge (19), 0, 0) :: (1, .aload_n 0, 0, 0) :: (3, .getfield 11, 7, 0) :: (1, .iload_n 1, 0, 0) :: (1, .aaload, 0, 0) :: (1, .iconst (-1), 0, (-1)) :: (3, .invokestatic 47, 19, 0) :: mt_Routes_clear_18),
  (24, [true, false], (1, .aload_n 0, 0, 0) :: (3, .getfield 20, 7, 2) :: (1, .iconst (0), 0, 0) :: (3, .invokestatic 47, 19, 0) :: mt_Routes_clear_32)]
def mb_Arrays_fill_AJJV : ma_Tb := [(0, [true, true, false, false, false], (1, .iconst (0), 0, 0) :: (1, .istore_n 3, 0, 0) :: (1, .aload_n 0, 0, 0) :: (1, .arraylength, 0, 0) :: (2, .istore 4, 0, 0) :: []),
  (6, [true, true, false, true, true], (1, .iload_n 3, 0, 0) :: (2, .iload 4, 0, 0) :: (3, .if_icmp .ge (13), 0, 0) :: (1, .aload_n 0, 0, 0) :: (1, .iload_n 3, 0, 0) :: (1, .lload_n 1, 0, 0) :: (1, .lastore, 0, 0) :: (3, .iinc 3 (1), 0, 0) :: (3, .goto (-13), 0, 0) :: []),
  (22, [false, false, false, false, false], (1, .return_, 0, 0) :: [])]
def mt_LatticefitLaw_anneal_7 : List ma_AI := (1, .ireturn, 0, 0) :: []
def mb_LatticefitLaw_anneal : ma_Tb := [(0, [true, true, true, true, false], (1, .aload_n 0, 0, 0) :: (1, .iload_n 1, 0, 0) :: (1, .iload_n 2, 0, 0) :: (1, .iload_n 3, 0, 0) :: (3, .invokevirtual 50, 27, 10) :: mt_LatticefitLaw_anneal_7),
  (8, [false, false, false, false, false], (2, .astore 4, 0, 0) :: (2, .ldc 17, 0, (-900001)) :: (1, .ireturn, 0, 0) :: []),
  (13, [false, false, false, false, false], (2, .astore 4, 0, 0) :: (2, .ldc 24, 0, (-900002)) :: (1, .ireturn, 0, 0) :: [])]
def mt_Latticefit_anneal_50 : List ma_AI := (2, .istore 4, 0, 0) :: (2, .iload 4, 0, 0) :: (3, .ifCond .le (8), 0, 0) :: (1, .aload_n 0, 0, 0) :: (1, .iconst (1), 0, 1) :: (3, .putfield 87, 10, 10) :: []
def mt_Latticefit_anneal_40 : List ma_AI := (1, .aload_n 0, 0, 0) :: (3, .getfield 37, 10, 3) :: (1, .iload_n 1, 0, 0) :: (1, .iload_n 2, 0, 0) :: (1, .iload_n 3, 0, 0) :: (3, .invokevirtual 210, 29, 6) :: mt_Latticefit_anneal_50
def mb_Latticefit_anneal : ma_Tb := [(0, [true, true, true, true, false], (1, .iload_n 1, 0, 0) :: (3, .ifCond .lt (26), 0, 0) :: (1, .iload_n 2, 0, 0) :: (1, .iconst (1), 0, 1) :: (3, .if_icmp .lt (21), 0, 0) :: (1, .iload_n 2, 0, 0) :: (3, .sipush (200), 0, 200) :: (3, .if_icmp .gt (14), 0, 0) :: (1, .iload_n 3, 0, 0) :: (1, .iconst (1), 0, 1) :: (3, .if_icmp .lt (9), 0, 0) :: (1, .iload_n 3, 0, 0) :: (2, .bipush (50), 0, 50) :: (3, .if_icmp .le (11), 0, 0) :: []),
  (27, [false, false, false, false, false], (8, .athrow, 2, 2) :: []),
  (35, [true, true, true, true, false], (1, .aload_n 0, 0, 0) :: (1, .iconst (1), 0, 1) :: (3, .invokevirtual 207, 28, 10) :: mt_Latticefit_anneal_40),
  (62, [false, false, false, false, true], (2, .iload 4, 0, 0) :: (1, .ireturn, 0, 0) :: [])]
def mb_Latticefit_needStage : ma_Tb := [(0, [true, true], (1, .aload_n 0, 0, 0) :: (3, .getfield 87, 10, 10) :: (1, .iload_n 1, 0, 0) :: (3, .if_icmp .ge (11), 0, 0) :: (8, .athrow, 0, 0) :: []),
  (16, [false, false], (1, .return_, 0, 0) :: [])]
def mt_Places_swapByChance_68 : List ma_AI := (3, .ifCond .eq (6), 0, 0) :: (3, .iinc 7 (1), 0, 0) :: []
def mt_Places_swapByChance_55 : List ma_AI := (3, .ifCond .eq (19), 0, 0) :: (1, .aload_n 0, 0, 0) :: (2, .iload 9, 0, 0) :: (2, .iload 10, 0, 0) :: (2, .iload 6, 0, 0) :: (3, .invokevirtual 159, 34, 6) :: mt_Places_swapByChance_68
def mt_Places_swapByChance_45 : List ma_AI := (2, .istore 10, 0, 0) :: (1, .aload_n 0, 0, 0) :: (2, .iload 9, 0, 0) :: (2, .iload 10, 0, 0) :: (3, .invokevirtual 155, 32, 6) :: mt_Places_swapByChance_55
def mt_Places_swapByChance_38 : List ma_AI := (2, .lstore 4, 0, 0) :: (2, .lload 4, 0, 0) :: (3, .invokestatic 151, 31, 0) :: mt_Places_swapByChance_45
def mt_Places_swapByChance_31 : List ma_AI := (2, .istore 9, 0, 0) :: (2, .lload 4, 0, 0) :: (3, .invokestatic 147, 30, 0) :: mt_Places_swapByChance_38
def mt_Places_swapByChance_24 : List ma_AI := (2, .lstore 4, 0, 0) :: (2, .lload 4, 0, 0) :: (3, .invokestatic 151, 31, 0) :: mt_Places_swapByChance_31
def mb_Places_swapByChance : ma_Tb := [(0, [true, true, true, true, false, false, false, false, false, false, false], (1, .iload_n 1, 0, 0) :: (1, .i2l, 0, 0) :: (2, .lstore 4, 0, 0) :: (1, .iload_n 3, 0, 0) :: (2, .istore 6, 0, 0) :: (1, .iconst (0), 0, 0) :: (2, .istore 7, 0, 0) :: (1, .iconst (1), 0, 1) :: (2, .istore 8, 0, 0) :: []),
  (13, [true, false, true, false, true, false, true, true, true, false, false], (2, .iload 8, 0, 0) :: (1, .iload_n 2, 0, 0) :: (3, .if_icmp .gt (81), 0, 0) :: (2, .lload 4, 0, 0) :: (3, .invokestatic 147, 30, 0) :: mt_Places_swapByChance_24),
  (74, [true, false, true, false, true, false, true, true, true, false, false], (2, .iload 8, 0, 0) :: (2, .bipush (8), 0, 8) :: (1, .irem, 0, 0) :: (3, .ifCond .ne (12), 0, 0) :: (2, .iload 6, 0, 0) :: (1, .iconst (1), 0, 1) :: (3, .if_icmp .le (6), 0, 0) :: (3, .iinc 6 (-1), 0, 0) :: []),
  (91, [true, false, true, false, true, false, true, true, true, false, false], (3, .iinc 8 (1), 0, 0) :: (3, .goto (-81), 0, 0) :: []),
  (97, [false, false, false, false, false, false, false, true, false, false, false], (2, .iload 7, 0, 0) :: (1, .ireturn, 0, 0) :: [])]
def mb_Places_nextChance : ma_Tb := [(0, [true, false], (1, .lload_n 0, 0, 0) :: (3, .ldc2_w 163, 0, 1103515245) :: (1, .lmul, 0, 0) :: (3, .ldc2_w 165, 0, 12345) :: (1, .ladd, 0, 0) :: (3, .ldc2_w 167, 0, 2147483648) :: (1, .lrem, 0, 0) :: (1, .lreturn, 0, 0) :: [])]
def mb_Places_cellTold : ma_Tb := [(0, [true, false], (1, .lload_n 0, 0, 0) :: (3, .ldc2_w 169, 0, 65536) :: (1, .ldiv, 0, 0) :: (3, .ldc2_w 171, 0, 36) :: (1, .lrem, 0, 0) :: (1, .l2i, 0, 0) :: (1, .ireturn, 0, 0) :: [])]
def mt_Places_maySwap_38 : List ma_AI := (3, .ifCond .ne (7), 0, 0) :: (1, .iconst (1), 0, 1) :: (3, .goto (4), 0, 0) :: []
def mt_Places_maySwap_30 : List ma_AI := (3, .ifCond .ne (15), 0, 0) :: (1, .aload_n 0, 0, 0) :: (1, .iload_n 2, 0, 0) :: (3, .invokevirtual 173, 33, 6) :: mt_Places_maySwap_38
def mb_Places_maySwap : ma_Tb := [(0, [true, true, true], (1, .iload_n 1, 0, 0) :: (1, .iload_n 2, 0, 0) :: (3, .if_icmp .eq (21), 0, 0) :: (1, .aload_n 0, 0, 0) :: (3, .getfield 15, 6, 1) :: (1, .iload_n 1, 0, 0) :: (1, .iaload, 0, 0) :: (3, .ifCond .ge (14), 0, 0) :: (1, .aload_n 0, 0, 0) :: (3, .getfield 15, 6, 1) :: (1, .iload_n 2, 0, 0) :: (1, .iaload, 0, 0) :: (3, .ifCond .ge (5), 0, 0) :: []),
  (23, [false, false, false], (1, .iconst (0), 0, 0) :: (1, .ireturn, 0, 0) :: []),
  (25, [true, true, true], (1, .aload_n 0, 0, 0) :: (1, .iload_n 1, 0, 0) :: (3, .invokevirtual 173, 33, 6) :: mt_Places_maySwap_30),
  (45, [false, false, false], (1, .iconst (0), 0, 0) :: []),
  (46, [false, false, false], (1, .ireturn, 0, 0) :: [])]
def mb_Places_holdsFixed : ma_Tb := [(0, [true, true], (1, .aload_n 0, 0, 0) :: (3, .getfield 15, 6, 1) :: (1, .iload_n 1, 0, 0) :: (1, .iaload, 0, 0) :: (3, .ifCond .lt (21), 0, 0) :: (1, .aload_n 0, 0, 0) :: (3, .getfield 18, 6, 2) :: (1, .aload_n 0, 0, 0) :: (3, .getfield 15, 6, 1) :: (1, .iload_n 1, 0, 0) :: (1, .iaload, 0, 0) :: (1, .baload, 0, 0) :: (3, .ifCond .eq (7), 0, 0) :: (1, .iconst (1), 0, 1) :: (3, .goto (4), 0, 0) :: []),
  (27, [false, false], (1, .iconst (0), 0, 0) :: []),
  (28, [false, false], (1, .ireturn, 0, 0) :: [])]
def mt_Places_swapIfGood_31 : List ma_AI := (2, .iload 5, 0, 0) :: (1, .isub, 0, 0) :: (1, .iload_n 3, 0, 0) :: (3, .if_icmp .ge (5), 0, 0) :: (1, .iconst (1), 0, 1) :: (1, .ireturn, 0, 0) :: []
def mt_Places_swapIfGood_22 : List ma_AI := (2, .iload 4, 0, 0) :: (3, .if_icmp .gt (16), 0, 0) :: (1, .aload_n 0, 0, 0) :: (3, .invokevirtual 181, 38, 6) :: mt_Places_swapIfGood_31
def mt_Places_swapIfGood_18 : List ma_AI := (1, .aload_n 0, 0, 0) :: (3, .invokevirtual 177, 35, 6) :: mt_Places_swapIfGood_22
def mt_Places_swapIfGood_10 : List ma_AI := (2, .istore 5, 0, 0) :: (1, .aload_n 0, 0, 0) :: (1, .iload_n 1, 0, 0) :: (1, .iload_n 2, 0, 0) :: (3, .invokevirtual 184, 44, 6) :: mt_Places_swapIfGood_18
def mt_Places_swapIfGood_4 : List ma_AI := (2, .istore 4, 0, 0) :: (1, .aload_n 0, 0, 0) :: (3, .invokevirtual 181, 38, 6) :: mt_Places_swapIfGood_10
def mt_Places_swapIfGood_46 : List ma_AI := (1, .iconst (0), 0, 0) :: (1, .ireturn, 0, 0) :: []
def mb_Places_swapIfGood : ma_Tb := [(0, [true, true, true, true, false, false], (1, .aload_n 0, 0, 0) :: (3, .invokevirtual 177, 35, 6) :: mt_Places_swapIfGood_4),
  (40, [true, true, true, false, false, false], (1, .aload_n 0, 0, 0) :: (1, .iload_n 1, 0, 0) :: (1, .iload_n 2, 0, 0) :: (3, .invokevirtual 184, 44, 6) :: mt_Places_swapIfGood_46)]
def mt_Places_clockExcess_8 : List ma_AI := (1, .iconst (0), 0, 0) :: (1, .istore_n 1, 0, 0) :: []
def mt_Places_clockExcess_40 : List ma_AI := (2, .bipush (12), 0, 12) :: (1, .idiv, 0, 0) :: (1, .dup2, 0, 0) :: (1, .iaload, 0, 0) :: (1, .iconst (1), 0, 1) :: (1, .aload_n 0, 0, 0) :: (3, .getfield 37, 6, 8) :: (3, .getfield 139, 3, 5) :: (1, .iload_n 2, 0, 0) :: (1, .iaload, 0, 0) :: (1, .ishl, 0, 0) :: (1, .ior, 0, 0) :: (1, .iastore, 0, 0) :: (3, .iinc 1 (1), 0, 0) :: (3, .goto (-51), 0, 0) :: []
def mt_Places_clockExcess_88 : List ma_AI := (1, .iconst (2), 0, 2) :: (1, .isub, 0, 0) :: (3, .invokestatic 130, 10002, 0) :: (1, .iadd, 0, 0) :: (1, .istore_n 1, 0, 0) :: (3, .iinc 2 (1), 0, 0) :: (3, .goto (-30), 0, 0) :: []
def mb_Places_clockExcess : ma_Tb := [(0, [true, false, false], (1, .aload_n 0, 0, 0) :: (3, .getfield 34, 6, 7) :: (1, .iconst (0), 0, 0) :: (3, .invokestatic 45, 19, 0) :: mt_Places_clockExcess_8),
  (10, [true, true, false], (1, .iload_n 1, 0, 0) :: (1, .aload_n 0, 0, 0) :: (3, .getfield 37, 6, 8) :: (3, .getfield 133, 3, 12) :: (3, .if_icmp .ge (46), 0, 0) :: (1, .aload_n 0, 0, 0) :: (3, .getfield 37, 6, 8) :: (3, .getfield 136, 3, 8) :: (1, .iload_n 1, 0, 0) :: (1, .iaload, 0, 0) :: (1, .istore_n 2, 0, 0) :: (1, .aload_n 0, 0, 0) :: (3, .getfield 34, 6, 7) :: (1, .aload_n 0, 0, 0) :: (1, .iload_n 2, 0, 0) :: (3, .invokevirtual 69, 36, 6) :: mt_Places_clockExcess_40),
  (64, [true, false, false], (1, .iconst (0), 0, 0) :: (1, .istore_n 1, 0, 0) :: (1, .iconst (0), 0, 0) :: (1, .istore_n 2, 0, 0) :: []),
  (68, [true, true, true], (1, .iload_n 2, 0, 0) :: (1, .aload_n 0, 0, 0) :: (3, .getfield 34, 6, 7) :: (1, .arraylength, 0, 0) :: (3, .if_icmp .ge (27), 0, 0) :: (1, .iload_n 1, 0, 0) :: (1, .iconst (0), 0, 0) :: (1, .aload_n 0, 0, 0) :: (3, .getfield 34, 6, 7) :: (1, .iload_n 2, 0, 0) :: (1, .iaload, 0, 0) :: (3, .invokestatic 142, 37, 0) :: mt_Places_clockExcess_88),
  (101, [false, true, false], (1, .iload_n 1, 0, 0) :: (1, .ireturn, 0, 0) :: [])]
def mb_Places_cellOfNode : ma_Tb := [(0, [true, true, false], (1, .aload_n 0, 0, 0) :: (3, .getfield 41, 6, 9) :: (3, .getfield 57, 0, 5) :: (1, .iload_n 1, 0, 0) :: (1, .iaload, 0, 0) :: (1, .istore_n 2, 0, 0) :: (1, .iload_n 2, 0, 0) :: (3, .ifCond .ge (7), 0, 0) :: (1, .iconst (0), 0, 0) :: (3, .goto (9), 0, 0) :: []),
  (18, [true, false, true], (1, .aload_n 0, 0, 0) :: (3, .getfield 9, 6, 0) :: (1, .iload_n 2, 0, 0) :: (1, .iaload, 0, 0) :: []),
  (24, [false, false, false], (1, .ireturn, 0, 0) :: [])]
def mb_Integer_bitCount : ma_Tb := [(0, [true], (1, .iload_n 0, 0, 0) :: (1, .iload_n 0, 0, 0) :: (1, .iconst (1), 0, 1) :: (1, .iushr, 0, 0) :: (3, .ldc_w 265, 0, 1431655765) :: (1, .iand, 0, 0) :: (1, .isub, 0, 0) :: (1, .istore_n 0, 0, 0) :: (1, .iload_n 0, 0, 0) :: (3, .ldc_w 266, 0, 858993459) :: (1, .iand, 0, 0) :: (1, .iload_n 0, 0, 0) :: (1, .iconst (2), 0, 2) :: (1, .iushr, 0, 0) :: (3, .ldc_w 266, 0, 858993459) :: (1, .iand, 0, 0) :: (1, .iadd, 0, 0) :: (1, .istore_n 0, 0, 0) :: (1, .iload_n 0, 0, 0) :: (1, .iload_n 0, 0, 0) :: (1, .iconst (4), 0, 4) :: (1, .iushr, 0, 0) :: (1, .iadd, 0, 0) :: (3, .ldc_w 267, 0, 252645135) :: (1, .iand, 0, 0) :: (1, .istore_n 0, 0, 0) :: (1, .iload_n 0, 0, 0) :: (1, .iload_n 0, 0, 0) :: (2, .bipush (8), 0, 8) :: (1, .iushr, 0, 0) :: (1, .iadd, 0, 0) :: (1, .istore_n 0, 0, 0) :: (1, .iload_n 0, 0, 0) :: (1, .iload_n 0, 0, 0) :: (2, .bipush (16), 0, 16) :: (1, .iushr, 0, 0) :: (1, .iadd, 0, 0) :: (1, .istore_n 0, 0, 0) :: (1, .iload_n 0, 0, 0) :: (2, .bipush (63), 0, 63) :: (1, .iand, 0, 0) :: (1, .ireturn, 0, 0) :: [])]
def mt_Places_findLengths_18 : List ma_AI := (1, .istore_n 2, 0, 0) :: (1, .aload_n 0, 0, 0) :: (3, .getfield 22, 6, 3) :: (1, .iload_n 1, 0, 0) :: (1, .iload_n 2, 0, 0) :: (2, .bipush (7), 0, 7) :: (1, .idiv, 0, 0) :: (1, .iastore, 0, 0) :: (1, .aload_n 0, 0, 0) :: (3, .getfield 25, 6, 4) :: (1, .iload_n 1, 0, 0) :: (1, .aload_n 0, 0, 0) :: (3, .getfield 22, 6, 3) :: (1, .iload_n 1, 0, 0) :: (1, .iaload, 0, 0) :: (1, .iastore, 0, 0) :: (1, .aload_n 0, 0, 0) :: (3, .getfield 28, 6, 5) :: (1, .iload_n 1, 0, 0) :: (1, .iload_n 2, 0, 0) :: (2, .bipush (7), 0, 7) :: (1, .irem, 0, 0) :: (1, .iastore, 0, 0) :: (1, .aload_n 0, 0, 0) :: (3, .getfield 31, 6, 6) :: (1, .iload_n 1, 0, 0) :: (1, .aload_n 0, 0, 0) :: (3, .getfield 28, 6, 5) :: (1, .iload_n 1, 0, 0) :: (1, .iaload, 0, 0) :: (1, .iastore, 0, 0) :: (3, .iinc 1 (1), 0, 0) :: (3, .goto (-64), 0, 0) :: []
def mt_Places_findLengths_121 : List ma_AI := (3, .iinc 2 (1), 0, 0) :: (3, .goto (-40), 0, 0) :: []
def mt_Places_findLengths_118 : List ma_AI := (3, .invokevirtual 118, 41, 6) :: mt_Places_findLengths_121
def mt_Places_findLengths_163 : List ma_AI := (3, .iinc 1 (1), 0, 0) :: (3, .goto (-31), 0, 0) :: []
def mt_Places_findLengths_160 : List ma_AI := (3, .invokevirtual 118, 41, 6) :: mt_Places_findLengths_163
def mt_Places_findLengths_190 : List ma_AI := (1, .iadd, 0, 0) :: (1, .istore_n 1, 0, 0) :: (3, .iinc 2 (1), 0, 0) :: (3, .goto (-22), 0, 0) :: []
def mb_Places_findLengths : ma_Tb := [(0, [true, false, false], (1, .iconst (0), 0, 0) :: (1, .istore_n 1, 0, 0) :: []),
  (2, [true, true, false], (1, .iload_n 1, 0, 0) :: (1, .aload_n 0, 0, 0) :: (3, .getfield 37, 6, 8) :: (3, .getfield 88, 3, 10) :: (3, .if_icmp .ge (59), 0, 0) :: (1, .aload_n 0, 0, 0) :: (1, .iload_n 1, 0, 0) :: (3, .invokevirtual 96, 39, 6) :: mt_Places_findLengths_18),
  (69, [true, false, false], (1, .iconst (0), 0, 0) :: (1, .istore_n 1, 0, 0) :: []),
  (71, [true, true, false], (1, .iload_n 1, 0, 0) :: (1, .aload_n 0, 0, 0) :: (3, .getfield 41, 6, 9) :: (3, .getfield 51, 0, 7) :: (3, .if_icmp .ge (54), 0, 0) :: (1, .iconst (0), 0, 0) :: (1, .istore_n 2, 0, 0) :: []),
  (84, [true, true, true], (1, .iload_n 2, 0, 0) :: (1, .aload_n 0, 0, 0) :: (3, .getfield 41, 6, 9) :: (3, .getfield 99, 0, 3) :: (1, .iload_n 1, 0, 0) :: (1, .iaload, 0, 0) :: (3, .if_icmp .ge (33), 0, 0) :: (1, .aload_n 0, 0, 0) :: (1, .aload_n 0, 0, 0) :: (3, .getfield 41, 6, 9) :: (3, .getfield 101, 0, 4) :: (1, .iload_n 1, 0, 0) :: (1, .aaload, 0, 0) :: (1, .iload_n 2, 0, 0) :: (1, .iaload, 0, 0) :: (1, .aload_n 0, 0, 0) :: (3, .getfield 9, 6, 0) :: (1, .iload_n 1, 0, 0) :: (1, .iaload, 0, 0) :: (3, .invokestatic 73, 40, 0) :: mt_Places_findLengths_118),
  (127, [true, true, false], (3, .iinc 1 (1), 0, 0) :: (3, .goto (-59), 0, 0) :: []),
  (133, [true, false, false], (1, .iconst (0), 0, 0) :: (1, .istore_n 1, 0, 0) :: []),
  (135, [true, true, false], (1, .iload_n 1, 0, 0) :: (1, .aload_n 0, 0, 0) :: (3, .getfield 37, 6, 8) :: (3, .getfield 109, 3, 13) :: (3, .if_icmp .ge (26), 0, 0) :: (1, .aload_n 0, 0, 0) :: (1, .aload_n 0, 0, 0) :: (3, .getfield 37, 6, 8) :: (3, .getfield 112, 3, 9) :: (1, .iload_n 1, 0, 0) :: (1, .iaload, 0, 0) :: (1, .iload_n 1, 0, 0) :: (3, .invokestatic 115, 42, 0) :: mt_Places_findLengths_160),
  (169, [true, false, false], (1, .iconst (0), 0, 0) :: (1, .istore_n 1, 0, 0) :: (1, .iconst (0), 0, 0) :: (1, .istore_n 2, 0, 0) :: []),
  (173, [true, true, true], (1, .iload_n 2, 0, 0) :: (1, .aload_n 0, 0, 0) :: (3, .getfield 37, 6, 8) :: (3, .getfield 88, 3, 10) :: (3, .if_icmp .ge (17), 0, 0) :: (1, .iload_n 1, 0, 0) :: (1, .aload_n 0, 0, 0) :: (1, .iload_n 2, 0, 0) :: (3, .invokevirtual 121, 43, 6) :: mt_Places_findLengths_190),
  (198, [false, true, false], (1, .iload_n 1, 0, 0) :: (1, .ireturn, 0, 0) :: [])]
def mt_Places_sourceCrossing_32 : List ma_AI := (1, .ireturn, 0, 0) :: []
def mt_Places_sourceCrossing_29 : List ma_AI := (3, .invokestatic 73, 40, 0) :: mt_Places_sourceCrossing_32
def mb_Places_sourceCrossing : ma_Tb := [(0, [true, true], (1, .aload_n 0, 0, 0) :: (3, .getfield 37, 6, 8) :: (3, .getfield 60, 3, 0) :: (1, .iload_n 1, 0, 0) :: (1, .caload, 0, 0) :: (2, .bipush (105), 0, 105) :: (3, .if_icmp .ne (13), 0, 0) :: (1, .aload_n 0, 0, 0) :: (3, .getfield 37, 6, 8) :: (3, .getfield 66, 3, 6) :: (1, .iload_n 1, 0, 0) :: (1, .iaload, 0, 0) :: (1, .ireturn, 0, 0) :: []),
  (24, [true, true], (1, .aload_n 0, 0, 0) :: (1, .iload_n 1, 0, 0) :: (3, .invokevirtual 69, 36, 6) :: mt_Places_sourceCrossing_29)]
def mb_Places_crossingAt : ma_Tb := [(0, [true], (2, .bipush (7), 0, 7) :: (1, .iload_n 0, 0, 0) :: (2, .bipush (6), 0, 6) :: (1, .idiv, 0, 0) :: (1, .imul, 0, 0) :: (1, .iload_n 0, 0, 0) :: (2, .bipush (6), 0, 6) :: (1, .irem, 0, 0) :: (1, .iadd, 0, 0) :: (1, .ireturn, 0, 0) :: [])]
def mb_Places_stretchTo : ma_Tb := [(0, [true, true, true, false, false], (1, .iload_n 2, 0, 0) :: (2, .bipush (7), 0, 7) :: (1, .idiv, 0, 0) :: (1, .istore_n 3, 0, 0) :: (1, .iload_n 2, 0, 0) :: (2, .bipush (7), 0, 7) :: (1, .irem, 0, 0) :: (2, .istore 4, 0, 0) :: (1, .aload_n 0, 0, 0) :: (3, .getfield 22, 6, 3) :: (1, .iload_n 1, 0, 0) :: (1, .aload_n 0, 0, 0) :: (3, .getfield 22, 6, 3) :: (1, .iload_n 1, 0, 0) :: (1, .iaload, 0, 0) :: (1, .iload_n 3, 0, 0) :: (3, .invokestatic 124, 10003, 0) :: (1, .iastore, 0, 0) :: (1, .aload_n 0, 0, 0) :: (3, .getfield 25, 6, 4) :: (1, .iload_n 1, 0, 0) :: (1, .aload_n 0, 0, 0) :: (3, .getfield 25, 6, 4) :: (1, .iload_n 1, 0, 0) :: (1, .iaload, 0, 0) :: (1, .iload_n 3, 0, 0) :: (3, .invokestatic 130, 10002, 0) :: (1, .iastore, 0, 0) :: (1, .aload_n 0, 0, 0) :: (3, .getfield 28, 6, 5) :: (1, .iload_n 1, 0, 0) :: (1, .aload_n 0, 0, 0) :: (3, .getfield 28, 6, 5) :: (1, .iload_n 1, 0, 0) :: (1, .iaload, 0, 0) :: (2, .iload 4, 0, 0) :: (3, .invokestatic 124, 10003, 0) :: (1, .iastore, 0, 0) :: (1, .aload_n 0, 0, 0) :: (3, .getfield 31, 6, 6) :: (1, .iload_n 1, 0, 0) :: (1, .aload_n 0, 0, 0) :: (3, .getfield 31, 6, 6) :: (1, .iload_n 1, 0, 0) :: (1, .iaload, 0, 0) :: (2, .iload 4, 0, 0) :: (3, .invokestatic 130, 10002, 0) :: (1, .iastore, 0, 0) :: (1, .return_, 0, 0) :: [])]
def mb_Places_crossingOfOutput : ma_Tb := [(0, [true], (2, .bipush (42), 0, 42) :: (1, .iload_n 0, 0, 0) :: (1, .iadd, 0, 0) :: (1, .ireturn, 0, 0) :: [])]
def mb_Places_lengthOf : ma_Tb := [(0, [true, true], (1, .aload_n 0, 0, 0) :: (3, .getfield 25, 6, 4) :: (1, .iload_n 1, 0, 0) :: (1, .iaload, 0, 0) :: (1, .aload_n 0, 0, 0) :: (3, .getfield 22, 6, 3) :: (1, .iload_n 1, 0, 0) :: (1, .iaload, 0, 0) :: (1, .isub, 0, 0) :: (1, .aload_n 0, 0, 0) :: (3, .getfield 31, 6, 6) :: (1, .iload_n 1, 0, 0) :: (1, .iaload, 0, 0) :: (1, .iadd, 0, 0) :: (1, .aload_n 0, 0, 0) :: (3, .getfield 28, 6, 5) :: (1, .iload_n 1, 0, 0) :: (1, .iaload, 0, 0) :: (1, .isub, 0, 0) :: (1, .ireturn, 0, 0) :: [])]
def mb_Places_exchange : ma_Tb := [(0, [true, true, true, false], (1, .aload_n 0, 0, 0) :: (3, .getfield 15, 6, 1) :: (1, .iload_n 1, 0, 0) :: (1, .iaload, 0, 0) :: (1, .istore_n 3, 0, 0) :: (1, .aload_n 0, 0, 0) :: (3, .getfield 15, 6, 1) :: (1, .iload_n 1, 0, 0) :: (1, .aload_n 0, 0, 0) :: (3, .getfield 15, 6, 1) :: (1, .iload_n 2, 0, 0) :: (1, .iaload, 0, 0) :: (1, .iastore, 0, 0) :: (1, .aload_n 0, 0, 0) :: (3, .getfield 15, 6, 1) :: (1, .iload_n 2, 0, 0) :: (1, .iload_n 3, 0, 0) :: (1, .iastore, 0, 0) :: (1, .aload_n 0, 0, 0) :: (3, .getfield 15, 6, 1) :: (1, .iload_n 1, 0, 0) :: (1, .iaload, 0, 0) :: (3, .ifCond .lt (15), 0, 0) :: (1, .aload_n 0, 0, 0) :: (3, .getfield 9, 6, 0) :: (1, .aload_n 0, 0, 0) :: (3, .getfield 15, 6, 1) :: (1, .iload_n 1, 0, 0) :: (1, .iaload, 0, 0) :: (1, .iload_n 1, 0, 0) :: (1, .iastore, 0, 0) :: []),
  (47, [true, false, true, false], (1, .aload_n 0, 0, 0) :: (3, .getfield 15, 6, 1) :: (1, .iload_n 2, 0, 0) :: (1, .iaload, 0, 0) :: (3, .ifCond .lt (15), 0, 0) :: (1, .aload_n 0, 0, 0) :: (3, .getfield 9, 6, 0) :: (1, .aload_n 0, 0, 0) :: (3, .getfield 15, 6, 1) :: (1, .iload_n 2, 0, 0) :: (1, .iaload, 0, 0) :: (1, .iload_n 2, 0, 0) :: (1, .iastore, 0, 0) :: []),
  (68, [false, false, false, false], (1, .return_, 0, 0) :: [])]
def mt_LatticefitLaw_route_5 : List ma_AI := (1, .ireturn, 0, 0) :: []
def mb_LatticefitLaw_route : ma_Tb := [(0, [true, true, false], (1, .aload_n 0, 0, 0) :: (1, .iload_n 1, 0, 0) :: (3, .invokevirtual 57, 46, 10) :: mt_LatticefitLaw_route_5),
  (6, [false, false, false], (1, .astore_n 2, 0, 0) :: (2, .ldc 17, 0, (-900001)) :: (1, .ireturn, 0, 0) :: []),
  (10, [false, false, false], (1, .astore_n 2, 0, 0) :: (2, .ldc 24, 0, (-900002)) :: (1, .ireturn, 0, 0) :: [])]
def mt_Latticefit_route_63 : List ma_AI := (3, .ifCond .ne (8), 0, 0) :: (1, .aload_n 0, 0, 0) :: (1, .iconst (2), 0, 2) :: (3, .putfield 87, 10, 10) :: []
def mt_Latticefit_route_55 : List ma_AI := (1, .istore_n 2, 0, 0) :: (1, .aload_n 0, 0, 0) :: (3, .getfield 44, 10, 4) :: (3, .invokevirtual 224, 6, 7) :: mt_Latticefit_route_63
def mt_Latticefit_route_47 : List ma_AI := (1, .aload_n 0, 0, 0) :: (3, .getfield 44, 10, 4) :: (1, .iload_n 1, 0, 0) :: (3, .invokevirtual 221, 49, 7) :: mt_Latticefit_route_55
def mt_Latticefit_route_36 : List ma_AI := (1, .aload_n 0, 0, 0) :: (3, .getfield 37, 10, 3) :: (1, .aload_n 0, 0, 0) :: (3, .getfield 44, 10, 4) :: (3, .invokevirtual 217, 47, 6) :: mt_Latticefit_route_47
def mt_Latticefit_route_24 : List ma_AI := (1, .aload_n 0, 0, 0) :: (1, .iconst (1), 0, 1) :: (3, .putfield 87, 10, 10) :: (1, .aload_n 0, 0, 0) :: (3, .getfield 44, 10, 4) :: (3, .invokevirtual 156, 24, 7) :: mt_Latticefit_route_36
def mb_Latticefit_route : ma_Tb := [(0, [true, true, false], (1, .iload_n 1, 0, 0) :: (1, .iconst (1), 0, 1) :: (3, .if_icmp .lt (9), 0, 0) :: (1, .iload_n 1, 0, 0) :: (2, .bipush (20), 0, 20) :: (3, .if_icmp .le (11), 0, 0) :: []),
  (11, [false, false, false], (8, .athrow, 2, 2) :: []),
  (19, [true, true, false], (1, .aload_n 0, 0, 0) :: (1, .iconst (1), 0, 1) :: (3, .invokevirtual 207, 28, 10) :: mt_Latticefit_route_24),
  (71, [false, false, true], (1, .iload_n 2, 0, 0) :: (1, .ireturn, 0, 0) :: [])]
def mt_Places_putPins_23 : List ma_AI := (1, .iastore, 0, 0) :: (3, .iinc 2 (1), 0, 0) :: (3, .goto (-25), 0, 0) :: []
def mt_Places_putPins_82 : List ma_AI := (3, .iinc 3 (1), 0, 0) :: (3, .goto (-40), 0, 0) :: []
def mt_Places_putPins_79 : List ma_AI := (3, .invokevirtual 105, 48, 7) :: mt_Places_putPins_82
def mt_Places_putPins_124 : List ma_AI := (3, .iinc 2 (1), 0, 0) :: (3, .goto (-31), 0, 0) :: []
def mt_Places_putPins_121 : List ma_AI := (3, .invokevirtual 105, 48, 7) :: mt_Places_putPins_124
def mb_Places_putPins : ma_Tb := [(0, [true, true, false, false], (1, .iconst (0), 0, 0) :: (1, .istore_n 2, 0, 0) :: []),
  (2, [true, true, true, false], (1, .iload_n 2, 0, 0) :: (1, .aload_n 0, 0, 0) :: (3, .getfield 37, 6, 8) :: (3, .getfield 88, 3, 10) :: (3, .if_icmp .ge (20), 0, 0) :: (1, .aload_n 1, 0, 0) :: (3, .getfield 91, 7, 1) :: (1, .iload_n 2, 0, 0) :: (1, .aload_n 0, 0, 0) :: (1, .iload_n 2, 0, 0) :: (3, .invokevirtual 96, 39, 6) :: mt_Places_putPins_23),
  (30, [true, true, false, false], (1, .iconst (0), 0, 0) :: (1, .istore_n 2, 0, 0) :: []),
  (32, [true, true, true, false], (1, .iload_n 2, 0, 0) :: (1, .aload_n 0, 0, 0) :: (3, .getfield 41, 6, 9) :: (3, .getfield 51, 0, 7) :: (3, .if_icmp .ge (54), 0, 0) :: (1, .iconst (0), 0, 0) :: (1, .istore_n 3, 0, 0) :: []),
  (45, [true, true, true, true], (1, .iload_n 3, 0, 0) :: (1, .aload_n 0, 0, 0) :: (3, .getfield 41, 6, 9) :: (3, .getfield 99, 0, 3) :: (1, .iload_n 2, 0, 0) :: (1, .iaload, 0, 0) :: (3, .if_icmp .ge (33), 0, 0) :: (1, .aload_n 1, 0, 0) :: (1, .aload_n 0, 0, 0) :: (3, .getfield 41, 6, 9) :: (3, .getfield 101, 0, 4) :: (1, .iload_n 2, 0, 0) :: (1, .aaload, 0, 0) :: (1, .iload_n 3, 0, 0) :: (1, .iaload, 0, 0) :: (1, .aload_n 0, 0, 0) :: (3, .getfield 9, 6, 0) :: (1, .iload_n 2, 0, 0) :: (1, .iaload, 0, 0) :: (3, .invokestatic 73, 40, 0) :: mt_Places_putPins_79),
  (88, [true, true, true, false], (3, .iinc 2 (1), 0, 0) :: (3, .goto (-59), 0, 0) :: []),
  (94, [true, true, false, false], (1, .iconst (0), 0, 0) :: (1, .istore_n 2, 0, 0) :: []),
  (96, [true, true, true, false], (1, .iload_n 2, 0, 0) :: (1, .aload_n 0, 0, 0) :: (3, .getfield 37, 6, 8) :: (3, .getfield 109, 3, 13) :: (3, .if_icmp .ge (26), 0, 0) :: (1, .aload_n 1, 0, 0) :: (1, .aload_n 0, 0, 0) :: (3, .getfield 37, 6, 8) :: (3, .getfield 112, 3, 9) :: (1, .iload_n 2, 0, 0) :: (1, .iaload, 0, 0) :: (1, .iload_n 2, 0, 0) :: (3, .invokestatic 115, 42, 0) :: mt_Places_putPins_121),
  (130, [false, false, false, false], (1, .return_, 0, 0) :: [])]
def mb_Routes_addSink : ma_Tb := [(0, [true, true, true], (1, .aload_n 0, 0, 0) :: (3, .getfield 23, 7, 3) :: (1, .iload_n 1, 0, 0) :: (1, .dup2, 0, 0) :: (1, .laload, 0, 0) :: (1, .lconst 1, 0, 1) :: (1, .iload_n 2, 0, 0) :: (1, .lshl, 0, 0) :: (1, .lor, 0, 0) :: (1, .lastore, 0, 0) :: (1, .return_, 0, 0) :: [])]
def mt_Routes_makeRounds_35 : List ma_AI := (3, .iinc 3 (1), 0, 0) :: (3, .goto (-24), 0, 0) :: []
def mt_Routes_makeRounds_30 : List ma_AI := (1, .aload_n 0, 0, 0) :: (1, .iload_n 3, 0, 0) :: (3, .invokevirtual 69, 52, 7) :: mt_Routes_makeRounds_35
def mt_Routes_makeRounds_45 : List ma_AI := (3, .ifCond .ne (5), 0, 0) :: (1, .iload_n 2, 0, 0) :: (1, .ireturn, 0, 0) :: []
def mt_Routes_makeRounds_54 : List ma_AI := (3, .iinc 2 (1), 0, 0) :: (3, .goto (-55), 0, 0) :: []
def mb_Routes_makeRounds : ma_Tb := [(0, [true, true, false, false], (1, .iconst (1), 0, 1) :: (1, .istore_n 2, 0, 0) :: []),
  (2, [true, true, true, false], (1, .iload_n 2, 0, 0) :: (1, .iload_n 1, 0, 0) :: (3, .if_icmp .gt (56), 0, 0) :: (1, .aload_n 0, 0, 0) :: (1, .iload_n 2, 0, 0) :: (3, .putfield 56, 7, 10) :: (1, .iconst (0), 0, 0) :: (1, .istore_n 3, 0, 0) :: []),
  (14, [true, true, true, true], (1, .iload_n 3, 0, 0) :: (1, .aload_n 0, 0, 0) :: (3, .getfield 43, 7, 11) :: (3, .getfield 60, 3, 10) :: (3, .if_icmp .ge (19), 0, 0) :: (1, .aload_n 0, 0, 0) :: (1, .iload_n 3, 0, 0) :: (3, .invokevirtual 65, 50, 7) :: mt_Routes_makeRounds_30),
  (41, [true, true, true, false], (1, .aload_n 0, 0, 0) :: (3, .invokevirtual 72, 6, 7) :: mt_Routes_makeRounds_45),
  (50, [true, true, true, false], (1, .aload_n 0, 0, 0) :: (3, .invokevirtual 76, 63, 7) :: mt_Routes_makeRounds_54),
  (60, [false, true, false, false], (1, .iload_n 1, 0, 0) :: (1, .ireturn, 0, 0) :: [])]
def mt_Routes_giveUp_21 : List ma_AI := (3, .ifCond .eq (22), 0, 0) :: (1, .aload_n 0, 0, 0) :: (3, .getfield 20, 7, 2) :: (1, .iload_n 3, 0, 0) :: (1, .dup2, 0, 0) :: (1, .iaload, 0, 0) :: (1, .iconst (1), 0, 1) :: (1, .isub, 0, 0) :: (1, .iastore, 0, 0) :: (1, .aload_n 0, 0, 0) :: (3, .getfield 11, 7, 0) :: (1, .iload_n 1, 0, 0) :: (1, .aaload, 0, 0) :: (1, .iload_n 2, 0, 0) :: (1, .iconst (-1), 0, (-1)) :: (1, .iastore, 0, 0) :: []
def mb_Routes_giveUp : ma_Tb := [(0, [true, true, false, false], (1, .iconst (0), 0, 0) :: (1, .istore_n 2, 0, 0) :: []),
  (2, [true, true, true, false], (1, .iload_n 2, 0, 0) :: (2, .bipush (49), 0, 49) :: (3, .if_icmp .ge (44), 0, 0) :: (1, .aload_n 0, 0, 0) :: (3, .getfield 11, 7, 0) :: (1, .iload_n 1, 0, 0) :: (1, .aaload, 0, 0) :: (1, .iload_n 2, 0, 0) :: (1, .iaload, 0, 0) :: (1, .istore_n 3, 0, 0) :: (1, .iload_n 3, 0, 0) :: (3, .invokestatic 85, 51, 0) :: mt_Routes_giveUp_21),
  (43, [true, true, true, false], (3, .iinc 2 (1), 0, 0) :: (3, .goto (-44), 0, 0) :: []),
  (49, [false, false, false, false], (1, .return_, 0, 0) :: [])]
def mb_Latticefit_isEdge : ma_Tb := [(0, [true], (1, .iload_n 0, 0, 0) :: (3, .ifCond .lt (13), 0, 0) :: (1, .iload_n 0, 0, 0) :: (2, .bipush (84), 0, 84) :: (3, .if_icmp .ge (7), 0, 0) :: (1, .iconst (1), 0, 1) :: (3, .goto (4), 0, 0) :: []),
  (14, [false], (1, .iconst (0), 0, 0) :: []),
  (15, [false], (1, .ireturn, 0, 0) :: [])]
def mt_Routes_layTree_29 : List ma_AI := (3, .ifCond .ne (9), 0, 0) :: (1, .aload_n 0, 0, 0) :: (1, .iload_n 1, 0, 0) :: (1, .iload_n 2, 0, 0) :: (3, .invokevirtual 93, 54, 7) :: []
def mb_Routes_layTree : ma_Tb := [(0, [true, true, false], (1, .iconst (0), 0, 0) :: (1, .istore_n 2, 0, 0) :: []),
  (2, [true, true, true], (1, .iload_n 2, 0, 0) :: (2, .bipush (49), 0, 49) :: (3, .if_icmp .ge (39), 0, 0) :: (1, .aload_n 0, 0, 0) :: (3, .getfield 23, 7, 3) :: (1, .iload_n 1, 0, 0) :: (1, .laload, 0, 0) :: (1, .iload_n 2, 0, 0) :: (1, .lshr, 0, 0) :: (1, .lconst 1, 0, 1) :: (1, .land, 0, 0) :: (1, .lconst 0, 0, 0) :: (1, .lcmp, 0, 0) :: (3, .ifCond .eq (18), 0, 0) :: (1, .aload_n 0, 0, 0) :: (1, .iload_n 1, 0, 0) :: (1, .iload_n 2, 0, 0) :: (3, .invokevirtual 89, 53, 7) :: mt_Routes_layTree_29),
  (38, [true, true, true], (3, .iinc 2 (1), 0, 0) :: (3, .goto (-39), 0, 0) :: []),
  (44, [false, false, false], (1, .return_, 0, 0) :: [])]
def mb_Routes_isInTree : ma_Tb := [(0, [true, true, true], (1, .iload_n 2, 0, 0) :: (1, .aload_n 0, 0, 0) :: (3, .getfield 16, 7, 1) :: (1, .iload_n 1, 0, 0) :: (1, .iaload, 0, 0) :: (3, .if_icmp .eq (14), 0, 0) :: (1, .aload_n 0, 0, 0) :: (3, .getfield 11, 7, 0) :: (1, .iload_n 1, 0, 0) :: (1, .aaload, 0, 0) :: (1, .iload_n 2, 0, 0) :: (1, .iaload, 0, 0) :: (3, .ifCond .lt (7), 0, 0) :: []),
  (21, [false, false, false], (1, .iconst (1), 0, 1) :: (3, .goto (4), 0, 0) :: []),
  (25, [false, false, false], (1, .iconst (0), 0, 0) :: []),
  (26, [false, false, false], (1, .ireturn, 0, 0) :: [])]
def mt_Routes_addWay_5 : List ma_AI := (1, .iconst (0), 0, 0) :: (1, .istore_n 3, 0, 0) :: []
def mt_Routes_addWay_24 : List ma_AI := (2, .istore 4, 0, 0) :: (1, .aload_n 0, 0, 0) :: (3, .getfield 36, 7, 7) :: (2, .iload 4, 0, 0) :: (1, .iconst (1), 0, 1) :: (1, .bastore, 0, 0) :: (2, .iload 4, 0, 0) :: (1, .iload_n 2, 0, 0) :: (3, .if_icmp .ne (6), 0, 0) :: (3, .goto (15), 0, 0) :: []
def mt_Routes_addWay_49 : List ma_AI := (3, .iinc 3 (1), 0, 0) :: (3, .goto (-45), 0, 0) :: []
def mt_Routes_addWay_61 : List ma_AI := (1, .return_, 0, 0) :: []
def mb_Routes_addWay : ma_Tb := [(0, [true, true, true, false, false], (1, .aload_n 0, 0, 0) :: (1, .iload_n 1, 0, 0) :: (3, .invokevirtual 97, 55, 7) :: mt_Routes_addWay_5),
  (7, [true, true, true, true, false], (1, .iload_n 3, 0, 0) :: (2, .bipush (49), 0, 49) :: (3, .if_icmp .ge (45), 0, 0) :: (1, .aload_n 0, 0, 0) :: (3, .getfield 100, 7, 9) :: (3, .ifCond .le (38), 0, 0) :: (1, .aload_n 0, 0, 0) :: (3, .invokevirtual 103, 56, 7) :: mt_Routes_addWay_24),
  (43, [true, true, true, true, true], (1, .aload_n 0, 0, 0) :: (2, .iload 4, 0, 0) :: (3, .invokevirtual 107, 57, 7) :: mt_Routes_addWay_49),
  (55, [true, true, true, false, false], (1, .aload_n 0, 0, 0) :: (1, .iload_n 1, 0, 0) :: (1, .iload_n 2, 0, 0) :: (3, .invokevirtual 110, 60, 7) :: mt_Routes_addWay_61)]
def mt_Routes_openTree_40 : List ma_AI := (3, .ifCond .eq (30), 0, 0) :: (1, .aload_n 0, 0, 0) :: (3, .getfield 30, 7, 5) :: (1, .iload_n 2, 0, 0) :: (1, .iconst (0), 0, 0) :: (1, .iastore, 0, 0) :: (1, .aload_n 0, 0, 0) :: (3, .getfield 40, 7, 8) :: (1, .aload_n 0, 0, 0) :: (3, .getfield 100, 7, 9) :: (1, .iload_n 2, 0, 0) :: (1, .iastore, 0, 0) :: (1, .aload_n 0, 0, 0) :: (1, .dup, 0, 0) :: (3, .getfield 100, 7, 9) :: (1, .iconst (1), 0, 1) :: (1, .iadd, 0, 0) :: (3, .putfield 100, 7, 9) :: []
def mb_Routes_openTree : ma_Tb := [(0, [true, true, false], (1, .aload_n 0, 0, 0) :: (1, .iconst (0), 0, 0) :: (3, .putfield 100, 7, 9) :: (1, .iconst (0), 0, 0) :: (1, .istore_n 2, 0, 0) :: []),
  (7, [true, true, true], (1, .iload_n 2, 0, 0) :: (2, .bipush (49), 0, 49) :: (3, .if_icmp .ge (66), 0, 0) :: (1, .aload_n 0, 0, 0) :: (3, .getfield 36, 7, 7) :: (1, .iload_n 2, 0, 0) :: (1, .iconst (0), 0, 0) :: (1, .bastore, 0, 0) :: (1, .aload_n 0, 0, 0) :: (3, .getfield 30, 7, 5) :: (1, .iload_n 2, 0, 0) :: (1, .iconst (-1), 0, (-1)) :: (1, .iastore, 0, 0) :: (1, .aload_n 0, 0, 0) :: (3, .getfield 33, 7, 6) :: (1, .iload_n 2, 0, 0) :: (1, .iconst (-1), 0, (-1)) :: (1, .iastore, 0, 0) :: (1, .aload_n 0, 0, 0) :: (1, .iload_n 1, 0, 0) :: (1, .iload_n 2, 0, 0) :: (3, .invokevirtual 89, 53, 7) :: mt_Routes_openTree_40),
  (70, [true, true, true], (3, .iinc 2 (1), 0, 0) :: (3, .goto (-66), 0, 0) :: []),
  (76, [false, false, false], (1, .return_, 0, 0) :: [])]
def mb_Routes_takeCheapest : ma_Tb := [(0, [true, false, false, false], (1, .iconst (0), 0, 0) :: (1, .istore_n 1, 0, 0) :: (1, .iconst (1), 0, 1) :: (1, .istore_n 2, 0, 0) :: []),
  (4, [true, true, true, false], (1, .iload_n 2, 0, 0) :: (1, .aload_n 0, 0, 0) :: (3, .getfield 100, 7, 9) :: (3, .if_icmp .ge (58), 0, 0) :: (1, .aload_n 0, 0, 0) :: (3, .getfield 30, 7, 5) :: (1, .aload_n 0, 0, 0) :: (3, .getfield 40, 7, 8) :: (1, .iload_n 1, 0, 0) :: (1, .iaload, 0, 0) :: (1, .iaload, 0, 0) :: (1, .aload_n 0, 0, 0) :: (3, .getfield 30, 7, 5) :: (1, .aload_n 0, 0, 0) :: (3, .getfield 40, 7, 8) :: (1, .iload_n 2, 0, 0) :: (1, .iaload, 0, 0) :: (1, .iaload, 0, 0) :: (1, .isub, 0, 0) :: (1, .istore_n 3, 0, 0) :: (1, .iload_n 3, 0, 0) :: (3, .ifCond .gt (22), 0, 0) :: (1, .iload_n 3, 0, 0) :: (3, .ifCond .ne (20), 0, 0) :: (1, .aload_n 0, 0, 0) :: (3, .getfield 40, 7, 8) :: (1, .iload_n 2, 0, 0) :: (1, .iaload, 0, 0) :: (1, .aload_n 0, 0, 0) :: (3, .getfield 40, 7, 8) :: (1, .iload_n 1, 0, 0) :: (1, .iaload, 0, 0) :: (3, .if_icmp .ge (5), 0, 0) :: []),
  (59, [true, false, true, false], (1, .iload_n 2, 0, 0) :: (1, .istore_n 1, 0, 0) :: []),
  (61, [true, true, true, false], (3, .iinc 2 (1), 0, 0) :: (3, .goto (-60), 0, 0) :: []),
  (67, [true, true, false, false], (1, .aload_n 0, 0, 0) :: (3, .getfield 40, 7, 8) :: (1, .iload_n 1, 0, 0) :: (1, .iaload, 0, 0) :: (1, .istore_n 2, 0, 0) :: (1, .aload_n 0, 0, 0) :: (1, .dup, 0, 0) :: (3, .getfield 100, 7, 9) :: (1, .iconst (1), 0, 1) :: (1, .isub, 0, 0) :: (3, .putfield 100, 7, 9) :: (1, .aload_n 0, 0, 0) :: (3, .getfield 40, 7, 8) :: (1, .iload_n 1, 0, 0) :: (1, .aload_n 0, 0, 0) :: (3, .getfield 40, 7, 8) :: (1, .aload_n 0, 0, 0) :: (3, .getfield 100, 7, 9) :: (1, .iaload, 0, 0) :: (1, .iastore, 0, 0) :: (1, .iload_n 2, 0, 0) :: (1, .ireturn, 0, 0) :: [])]
def mb_Routes_openNeighbours : ma_Tb := [(0, [true, true, false, false, false], (1, .iload_n 1, 0, 0) :: (2, .bipush (7), 0, 7) :: (1, .idiv, 0, 0) :: (1, .istore_n 2, 0, 0) :: (1, .iload_n 1, 0, 0) :: (2, .bipush (7), 0, 7) :: (1, .irem, 0, 0) :: (1, .istore_n 3, 0, 0) :: (2, .bipush (42), 0, 42) :: (2, .bipush (6), 0, 6) :: (1, .iload_n 2, 0, 0) :: (1, .imul, 0, 0) :: (1, .iadd, 0, 0) :: (1, .iload_n 3, 0, 0) :: (1, .iadd, 0, 0) :: (2, .istore 4, 0, 0) :: (1, .iload_n 2, 0, 0) :: (3, .ifCond .le (16), 0, 0) :: (1, .aload_n 0, 0, 0) :: (1, .iload_n 1, 0, 0) :: (1, .iload_n 1, 0, 0) :: (2, .bipush (7), 0, 7) :: (1, .isub, 0, 0) :: (1, .iload_n 1, 0, 0) :: (2, .bipush (7), 0, 7) :: (1, .isub, 0, 0) :: (3, .invokevirtual 113, 58, 7) :: []),
  (38, [true, true, true, true, true], (1, .iload_n 2, 0, 0) :: (2, .bipush (6), 0, 6) :: (3, .if_icmp .ge (13), 0, 0) :: (1, .aload_n 0, 0, 0) :: (1, .iload_n 1, 0, 0) :: (1, .iload_n 1, 0, 0) :: (1, .iload_n 1, 0, 0) :: (2, .bipush (7), 0, 7) :: (1, .iadd, 0, 0) :: (3, .invokevirtual 113, 58, 7) :: []),
  (54, [true, true, false, true, true], (1, .iload_n 3, 0, 0) :: (3, .ifCond .le (15), 0, 0) :: (1, .aload_n 0, 0, 0) :: (1, .iload_n 1, 0, 0) :: (2, .iload 4, 0, 0) :: (1, .iconst (1), 0, 1) :: (1, .isub, 0, 0) :: (1, .iload_n 1, 0, 0) :: (1, .iconst (1), 0, 1) :: (1, .isub, 0, 0) :: (3, .invokevirtual 113, 58, 7) :: []),
  (70, [true, true, false, true, true], (1, .iload_n 3, 0, 0) :: (2, .bipush (6), 0, 6) :: (3, .if_icmp .ge (13), 0, 0) :: (1, .aload_n 0, 0, 0) :: (1, .iload_n 1, 0, 0) :: (2, .iload 4, 0, 0) :: (1, .iload_n 1, 0, 0) :: (1, .iconst (1), 0, 1) :: (1, .iadd, 0, 0) :: (3, .invokevirtual 113, 58, 7) :: []),
  (86, [false, false, false, false, false], (1, .return_, 0, 0) :: [])]
def mt_Routes_offerWay_21 : List ma_AI := (1, .iadd, 0, 0) :: (2, .istore 4, 0, 0) :: (1, .aload_n 0, 0, 0) :: (3, .getfield 30, 7, 5) :: (1, .iload_n 3, 0, 0) :: (1, .iaload, 0, 0) :: (3, .ifCond .ge (26), 0, 0) :: (1, .aload_n 0, 0, 0) :: (3, .getfield 40, 7, 8) :: (1, .aload_n 0, 0, 0) :: (3, .getfield 100, 7, 9) :: (1, .iload_n 3, 0, 0) :: (1, .iastore, 0, 0) :: (1, .aload_n 0, 0, 0) :: (1, .dup, 0, 0) :: (3, .getfield 100, 7, 9) :: (1, .iconst (1), 0, 1) :: (1, .iadd, 0, 0) :: (3, .putfield 100, 7, 9) :: (3, .goto (15), 0, 0) :: []
def mb_Routes_offerWay : ma_Tb := [(0, [true, true, true, true, false], (1, .aload_n 0, 0, 0) :: (3, .getfield 36, 7, 7) :: (1, .iload_n 3, 0, 0) :: (1, .baload, 0, 0) :: (3, .ifCond .eq (4), 0, 0) :: (1, .return_, 0, 0) :: []),
  (10, [true, true, true, true, false], (1, .aload_n 0, 0, 0) :: (3, .getfield 30, 7, 5) :: (1, .iload_n 1, 0, 0) :: (1, .iaload, 0, 0) :: (1, .aload_n 0, 0, 0) :: (1, .iload_n 2, 0, 0) :: (3, .invokevirtual 117, 59, 7) :: mt_Routes_offerWay_21),
  (56, [true, false, true, true, true], (1, .aload_n 0, 0, 0) :: (3, .getfield 30, 7, 5) :: (1, .iload_n 3, 0, 0) :: (1, .iaload, 0, 0) :: (2, .iload 4, 0, 0) :: (3, .if_icmp .gt (4), 0, 0) :: (1, .return_, 0, 0) :: []),
  (68, [true, false, true, true, true], (1, .aload_n 0, 0, 0) :: (3, .getfield 30, 7, 5) :: (1, .iload_n 3, 0, 0) :: (2, .iload 4, 0, 0) :: (1, .iastore, 0, 0) :: (1, .aload_n 0, 0, 0) :: (3, .getfield 33, 7, 6) :: (1, .iload_n 3, 0, 0) :: (1, .iload_n 2, 0, 0) :: (1, .iastore, 0, 0) :: (1, .return_, 0, 0) :: [])]
def mb_Routes_tollOf : ma_Tb := [(0, [true, true, false], (1, .aload_n 0, 0, 0) :: (3, .getfield 20, 7, 2) :: (1, .iload_n 1, 0, 0) :: (1, .iaload, 0, 0) :: (1, .iconst (1), 0, 1) :: (1, .iadd, 0, 0) :: (1, .iconst (2), 0, 2) :: (1, .isub, 0, 0) :: (1, .istore_n 2, 0, 0) :: (1, .iconst (1), 0, 1) :: (1, .aload_n 0, 0, 0) :: (3, .getfield 27, 7, 4) :: (1, .iload_n 1, 0, 0) :: (1, .iaload, 0, 0) :: (1, .iadd, 0, 0) :: (1, .iload_n 2, 0, 0) :: (3, .ifCond .le (14), 0, 0) :: (1, .iconst (4), 0, 4) :: (1, .aload_n 0, 0, 0) :: (3, .getfield 56, 7, 10) :: (1, .imul, 0, 0) :: (1, .iload_n 2, 0, 0) :: (1, .imul, 0, 0) :: (3, .goto (4), 0, 0) :: []),
  (34, [false, false, false], (1, .iconst (0), 0, 0) :: []),
  (35, [false, false, false], (1, .iadd, 0, 0) :: (1, .ireturn, 0, 0) :: [])]
def mt_Routes_takeWay_34 : List ma_AI := (3, .ifCond .ne (4), 0, 0) :: (1, .return_, 0, 0) :: []
def mt_Routes_takeWay_18 : List ma_AI := (3, .ifCond .ne (54), 0, 0) :: (1, .aload_n 0, 0, 0) :: (3, .getfield 33, 7, 6) :: (1, .iload_n 3, 0, 0) :: (1, .iaload, 0, 0) :: (2, .istore 5, 0, 0) :: (2, .iload 5, 0, 0) :: (3, .invokestatic 85, 51, 0) :: mt_Routes_takeWay_34
def mt_Routes_takeWay_65 : List ma_AI := (1, .istore_n 3, 0, 0) :: (3, .iinc 4 (1), 0, 0) :: (3, .goto (-64), 0, 0) :: []
def mb_Routes_takeWay : ma_Tb := [(0, [true, true, true, false, false, false], (1, .iload_n 2, 0, 0) :: (1, .istore_n 3, 0, 0) :: (1, .iconst (0), 0, 0) :: (2, .istore 4, 0, 0) :: []),
  (5, [true, true, false, true, true, false], (2, .iload 4, 0, 0) :: (2, .bipush (49), 0, 49) :: (3, .if_icmp .ge (63), 0, 0) :: (1, .aload_n 0, 0, 0) :: (1, .iload_n 1, 0, 0) :: (1, .iload_n 3, 0, 0) :: (3, .invokevirtual 89, 53, 7) :: mt_Routes_takeWay_18),
  (38, [true, true, false, true, true, true], (1, .aload_n 0, 0, 0) :: (3, .getfield 11, 7, 0) :: (1, .iload_n 1, 0, 0) :: (1, .aaload, 0, 0) :: (1, .iload_n 3, 0, 0) :: (2, .iload 5, 0, 0) :: (1, .iastore, 0, 0) :: (1, .aload_n 0, 0, 0) :: (3, .getfield 20, 7, 2) :: (2, .iload 5, 0, 0) :: (1, .dup2, 0, 0) :: (1, .iaload, 0, 0) :: (1, .iconst (1), 0, 1) :: (1, .iadd, 0, 0) :: (1, .iastore, 0, 0) :: (2, .iload 5, 0, 0) :: (1, .iload_n 3, 0, 0) :: (3, .invokestatic 121, 61, 0) :: mt_Routes_takeWay_65),
  (72, [false, false, false, false, false, false], (1, .return_, 0, 0) :: [])]
def mt_Routes_otherEnd_4 : List ma_AI := (1, .istore_n 2, 0, 0) :: (1, .iload_n 2, 0, 0) :: (1, .iload_n 0, 0, 0) :: (2, .bipush (42), 0, 42) :: (3, .if_icmp .ge (8), 0, 0) :: (2, .bipush (7), 0, 7) :: (3, .goto (4), 0, 0) :: []
def mb_Routes_otherEnd : ma_Tb := [(0, [true, true, false, false], (1, .iload_n 0, 0, 0) :: (3, .invokestatic 124, 62, 0) :: mt_Routes_otherEnd_4),
  (17, [false, true, true, false], (1, .iconst (1), 0, 1) :: []),
  (18, [false, true, true, false], (1, .iadd, 0, 0) :: (1, .istore_n 3, 0, 0) :: (1, .iload_n 1, 0, 0) :: (1, .iload_n 2, 0, 0) :: (3, .if_icmp .ne (7), 0, 0) :: (1, .iload_n 3, 0, 0) :: (3, .goto (4), 0, 0) :: []),
  (29, [false, false, true, false], (1, .iload_n 2, 0, 0) :: []),
  (30, [false, false, false, false], (1, .ireturn, 0, 0) :: [])]
def mb_Routes_lowEnd : ma_Tb := [(0, [true, false], (1, .iload_n 0, 0, 0) :: (2, .bipush (42), 0, 42) :: (3, .if_icmp .ge (5), 0, 0) :: (1, .iload_n 0, 0, 0) :: (1, .ireturn, 0, 0) :: []),
  (8, [true, false], (1, .iload_n 0, 0, 0) :: (2, .bipush (42), 0, 42) :: (1, .isub, 0, 0) :: (1, .istore_n 1, 0, 0) :: (2, .bipush (7), 0, 7) :: (1, .iload_n 1, 0, 0) :: (2, .bipush (6), 0, 6) :: (1, .idiv, 0, 0) :: (1, .imul, 0, 0) :: (1, .iload_n 1, 0, 0) :: (2, .bipush (6), 0, 6) :: (1, .irem, 0, 0) :: (1, .iadd, 0, 0) :: (1, .ireturn, 0, 0) :: [])]
def mb_Routes_raisePrices : ma_Tb := [(0, [true, false], (1, .iconst (0), 0, 0) :: (1, .istore_n 1, 0, 0) :: []),
  (2, [true, true], (1, .iload_n 1, 0, 0) :: (2, .bipush (84), 0, 84) :: (3, .if_icmp .ge (30), 0, 0) :: (1, .aload_n 0, 0, 0) :: (3, .getfield 27, 7, 4) :: (1, .iload_n 1, 0, 0) :: (1, .dup2, 0, 0) :: (1, .iaload, 0, 0) :: (1, .iconst (0), 0, 0) :: (1, .aload_n 0, 0, 0) :: (3, .getfield 20, 7, 2) :: (1, .iload_n 1, 0, 0) :: (1, .iaload, 0, 0) :: (1, .iconst (2), 0, 2) :: (1, .isub, 0, 0) :: (3, .invokestatic 79, 10002, 0) :: (1, .iadd, 0, 0) :: (1, .iastore, 0, 0) :: (3, .iinc 1 (1), 0, 0) :: (3, .goto (-30), 0, 0) :: []),
  (35, [false, false], (1, .return_, 0, 0) :: [])]
def mt_LatticefitLaw_build_4 : List ma_AI := (1, .ireturn, 0, 0) :: []
def mb_LatticefitLaw_build : ma_Tb := [(0, [true, false], (1, .aload_n 0, 0, 0) :: (3, .invokevirtual 60, 65, 10) :: mt_LatticefitLaw_build_4),
  (5, [false, false], (1, .astore_n 1, 0, 0) :: (2, .ldc 17, 0, (-900001)) :: (1, .ireturn, 0, 0) :: [])]
def mt_Latticefit_build_24 : List ma_AI := (1, .ireturn, 0, 0) :: []
def mt_Latticefit_build_12 : List ma_AI := (1, .aload_n 0, 0, 0) :: (1, .iconst (3), 0, 3) :: (3, .putfield 87, 10, 10) :: (1, .aload_n 0, 0, 0) :: (3, .getfield 60, 10, 6) :: (3, .invokevirtual 266, 78, 5) :: mt_Latticefit_build_24
def mt_Latticefit_build_5 : List ma_AI := (1, .aload_n 0, 0, 0) :: (3, .getfield 69, 10, 7) :: (3, .invokevirtual 263, 66, 1) :: mt_Latticefit_build_12
def mb_Latticefit_build : ma_Tb := [(0, [true], (1, .aload_n 0, 0, 0) :: (1, .iconst (2), 0, 2) :: (3, .invokevirtual 207, 28, 10) :: mt_Latticefit_build_5)]
def mt_Builder_fillFrames_7 : List ma_AI := (1, .iconst (0), 0, 0) :: (1, .istore_n 1, 0, 0) :: []
def mt_Builder_fillFrames_25 : List ma_AI := (3, .iinc 1 (1), 0, 0) :: (3, .goto (-19), 0, 0) :: []
def mt_Builder_fillFrames_49 : List ma_AI := (3, .iinc 1 (1), 0, 0) :: (3, .goto (-19), 0, 0) :: []
def mt_Builder_fillFrames_98 : List ma_AI := (1, .iastore, 0, 0) :: (3, .iinc 1 (1), 0, 0) :: (3, .goto (-45), 0, 0) :: []
def mt_Builder_fillFrames_95 : List ma_AI := (3, .invokevirtual 71, 70, 1) :: mt_Builder_fillFrames_98
def mb_Builder_fillFrames : ma_Tb := [(0, [true, false, false], (1, .aload_n 0, 0, 0) :: (3, .getfield 27, 1, 4) :: (3, .invokevirtual 31, 67, 5) :: mt_Builder_fillFrames_7),
  (9, [true, true, false], (1, .iload_n 1, 0, 0) :: (1, .aload_n 0, 0, 0) :: (3, .getfield 15, 1, 1) :: (3, .getfield 36, 0, 7) :: (3, .if_icmp .ge (14), 0, 0) :: (1, .aload_n 0, 0, 0) :: (1, .iload_n 1, 0, 0) :: (3, .invokevirtual 42, 68, 1) :: mt_Builder_fillFrames_25),
  (31, [true, false, false], (1, .iconst (0), 0, 0) :: (1, .istore_n 1, 0, 0) :: []),
  (33, [true, true, false], (1, .iload_n 1, 0, 0) :: (1, .aload_n 0, 0, 0) :: (3, .getfield 9, 1, 0) :: (3, .getfield 46, 3, 10) :: (3, .if_icmp .ge (14), 0, 0) :: (1, .aload_n 0, 0, 0) :: (1, .iload_n 1, 0, 0) :: (3, .invokevirtual 51, 74, 1) :: mt_Builder_fillFrames_49),
  (55, [true, false, false], (1, .iconst (0), 0, 0) :: (1, .istore_n 1, 0, 0) :: []),
  (57, [true, true, false], (1, .iload_n 1, 0, 0) :: (1, .aload_n 0, 0, 0) :: (3, .getfield 9, 1, 0) :: (3, .getfield 54, 3, 13) :: (3, .if_icmp .ge (40), 0, 0) :: (1, .aload_n 0, 0, 0) :: (3, .getfield 9, 1, 0) :: (3, .getfield 57, 3, 9) :: (1, .iload_n 1, 0, 0) :: (1, .iaload, 0, 0) :: (1, .istore_n 2, 0, 0) :: (1, .aload_n 0, 0, 0) :: (3, .getfield 27, 1, 4) :: (3, .getfield 61, 5, 0) :: (2, .bipush (13), 0, 13) :: (1, .aaload, 0, 0) :: (1, .iload_n 1, 0, 0) :: (1, .aload_n 0, 0, 0) :: (1, .iload_n 2, 0, 0) :: (1, .iload_n 1, 0, 0) :: (3, .invokestatic 65, 42, 0) :: mt_Builder_fillFrames_95),
  (105, [false, false, false], (1, .return_, 0, 0) :: [])]
def mt_Frames_clear_18 : List ma_AI := (3, .iinc 1 (1), 0, 0) :: (3, .goto (-19), 0, 0) :: []
def mb_Frames_clear : ma_Tb := [(0, [true, false], (1, .iconst (0), 0, 0) :: (1, .istore_n 1, 0, 0) :: []),
  (2, [true, true], (1, .iload_n 1, 0, 0) :: (2, .bipush (14), 0, 14) :: (3, .if_icmp .ge (19), 0, 0) :: (1, .aload_n 0, 0, 0) :: (3, .getfield 11, 5, 0) :: (1, .iload_n 1, 0, 0) :: (1, .aaload, 0, 0) :: (1, .iconst (0), 0, 0) :: (3, .invokestatic 16, 19, 0) :: mt_Frames_clear_18),
  (24, [false, false], (1, .return_, 0, 0) :: [])]
def mt_Builder_putBlock_28 : List ma_AI := (1, .iconst (0), 0, 0) :: (1, .istore_n 3, 0, 0) :: []
def mt_Builder_putBlock_77 : List ma_AI := (3, .iinc 3 (1), 0, 0) :: (3, .goto (-50), 0, 0) :: []
def mt_Builder_putBlock_62 : List ma_AI := (2, .istore 4, 0, 0) :: (1, .aload_n 0, 0, 0) :: (3, .getfield 27, 1, 4) :: (1, .iload_n 2, 0, 0) :: (1, .iconst (1), 0, 1) :: (1, .iload_n 3, 0, 0) :: (1, .iadd, 0, 0) :: (2, .iload 4, 0, 0) :: (3, .invokevirtual 81, 69, 5) :: mt_Builder_putBlock_77
def mt_Builder_putBlock_59 : List ma_AI := (3, .invokevirtual 71, 70, 1) :: mt_Builder_putBlock_62
def mb_Builder_putBlock : ma_Tb := [(0, [true, true, false, false, false], (1, .aload_n 0, 0, 0) :: (3, .getfield 19, 1, 2) :: (3, .getfield 75, 6, 0) :: (1, .iload_n 1, 0, 0) :: (1, .iaload, 0, 0) :: (1, .istore_n 2, 0, 0) :: (1, .aload_n 0, 0, 0) :: (3, .getfield 27, 1, 4) :: (1, .iload_n 2, 0, 0) :: (1, .iconst (0), 0, 0) :: (1, .aload_n 0, 0, 0) :: (3, .getfield 15, 1, 1) :: (3, .getfield 78, 0, 2) :: (1, .iload_n 1, 0, 0) :: (1, .iaload, 0, 0) :: (3, .invokevirtual 81, 69, 5) :: mt_Builder_putBlock_28),
  (30, [true, true, true, true, false], (1, .iload_n 3, 0, 0) :: (1, .aload_n 0, 0, 0) :: (3, .getfield 15, 1, 1) :: (3, .getfield 85, 0, 3) :: (1, .iload_n 1, 0, 0) :: (1, .iaload, 0, 0) :: (3, .if_icmp .ge (43), 0, 0) :: (1, .aload_n 0, 0, 0) :: (1, .aload_n 0, 0, 0) :: (3, .getfield 15, 1, 1) :: (3, .getfield 88, 0, 4) :: (1, .iload_n 1, 0, 0) :: (1, .aaload, 0, 0) :: (1, .iload_n 3, 0, 0) :: (1, .iaload, 0, 0) :: (1, .iload_n 2, 0, 0) :: (3, .invokestatic 91, 40, 0) :: mt_Builder_putBlock_59),
  (83, [true, true, true, false, false], (1, .aload_n 0, 0, 0) :: (3, .getfield 15, 1, 1) :: (3, .getfield 94, 0, 1) :: (1, .iload_n 1, 0, 0) :: (1, .iaload, 0, 0) :: (1, .istore_n 3, 0, 0) :: (1, .iload_n 3, 0, 0) :: (3, .ifCond .lt (41), 0, 0) :: (1, .iconst (1), 0, 1) :: (1, .iconst (2), 0, 2) :: (1, .aload_n 0, 0, 0) :: (3, .getfield 9, 1, 0) :: (3, .getfield 97, 3, 4) :: (1, .iload_n 3, 0, 0) :: (1, .iaload, 0, 0) :: (1, .imul, 0, 0) :: (1, .iadd, 0, 0) :: (1, .iconst (4), 0, 4) :: (1, .aload_n 0, 0, 0) :: (3, .getfield 9, 1, 0) :: (3, .getfield 100, 3, 5) :: (1, .iload_n 3, 0, 0) :: (1, .iaload, 0, 0) :: (1, .imul, 0, 0) :: (1, .iadd, 0, 0) :: (2, .istore 4, 0, 0) :: (1, .aload_n 0, 0, 0) :: (3, .getfield 27, 1, 4) :: (1, .iload_n 2, 0, 0) :: (1, .iconst (5), 0, 5) :: (2, .iload 4, 0, 0) :: (3, .invokevirtual 81, 69, 5) :: []),
  (135, [false, false, false, false, false], (1, .return_, 0, 0) :: [])]
def mb_Frames_putCellWord : ma_Tb := [(0, [true, true, true, true], (1, .aload_n 0, 0, 0) :: (3, .getfield 11, 5, 0) :: (1, .iload_n 1, 0, 0) :: (2, .bipush (6), 0, 6) :: (1, .idiv, 0, 0) :: (1, .aaload, 0, 0) :: (2, .bipush (6), 0, 6) :: (1, .iload_n 1, 0, 0) :: (2, .bipush (6), 0, 6) :: (1, .irem, 0, 0) :: (1, .imul, 0, 0) :: (1, .iload_n 2, 0, 0) :: (1, .iadd, 0, 0) :: (1, .iload_n 3, 0, 0) :: (1, .iastore, 0, 0) :: (1, .return_, 0, 0) :: [])]
def mt_Builder_codeAt_27 : List ma_AI := (1, .ireturn, 0, 0) :: []
def mt_Builder_codeAt_16 : List ma_AI := (3, .ifCond .ne (12), 0, 0) :: (1, .aload_n 0, 0, 0) :: (3, .getfield 19, 1, 2) :: (1, .iload_n 1, 0, 0) :: (3, .invokevirtual 119, 71, 6) :: mt_Builder_codeAt_27
def mt_Builder_codeAt_42 : List ma_AI := (1, .iadd, 0, 0) :: (1, .ireturn, 0, 0) :: []
def mb_Builder_codeAt : ma_Tb := [(0, [true, true, true, false], (1, .aload_n 0, 0, 0) :: (3, .getfield 23, 1, 3) :: (3, .getfield 103, 7, 0) :: (1, .iload_n 1, 0, 0) :: (1, .aaload, 0, 0) :: (1, .iload_n 2, 0, 0) :: (1, .iaload, 0, 0) :: (1, .istore_n 3, 0, 0) :: (1, .iload_n 3, 0, 0) :: (3, .invokestatic 108, 51, 0) :: mt_Builder_codeAt_16),
  (28, [true, true, false, true], (1, .iconst (1), 0, 1) :: (1, .iconst (2), 0, 2) :: (1, .iload_n 3, 0, 0) :: (1, .imul, 0, 0) :: (1, .iadd, 0, 0) :: (1, .aload_n 0, 0, 0) :: (3, .getfield 23, 1, 3) :: (1, .iload_n 1, 0, 0) :: (1, .iload_n 3, 0, 0) :: (3, .invokevirtual 122, 72, 7) :: mt_Builder_codeAt_42)]
def mt_Places_sourceCode_59 : List ma_AI := (1, .imul, 0, 0) :: (1, .iadd, 0, 0) :: (1, .ireturn, 0, 0) :: []
def mb_Places_sourceCode : ma_Tb := [(0, [true, true, false], (1, .aload_n 0, 0, 0) :: (3, .getfield 37, 6, 8) :: (3, .getfield 60, 3, 0) :: (1, .iload_n 1, 0, 0) :: (1, .caload, 0, 0) :: (2, .bipush (105), 0, 105) :: (3, .if_icmp .ne (17), 0, 0) :: (3, .sipush (300), 0, 300) :: (1, .aload_n 0, 0, 0) :: (3, .getfield 37, 6, 8) :: (3, .getfield 66, 3, 6) :: (1, .iload_n 1, 0, 0) :: (1, .iaload, 0, 0) :: (1, .iadd, 0, 0) :: (1, .ireturn, 0, 0) :: []),
  (28, [true, true, false], (1, .aload_n 0, 0, 0) :: (3, .getfield 37, 6, 8) :: (3, .getfield 60, 3, 0) :: (1, .iload_n 1, 0, 0) :: (1, .caload, 0, 0) :: (2, .bipush (114), 0, 114) :: (3, .if_icmp .ne (9), 0, 0) :: (3, .sipush (201), 0, 201) :: (3, .goto (6), 0, 0) :: []),
  (48, [true, true, false], (3, .sipush (200), 0, 200) :: []),
  (51, [true, true, false], (1, .istore_n 2, 0, 0) :: (1, .iload_n 2, 0, 0) :: (1, .iconst (2), 0, 2) :: (1, .aload_n 0, 0, 0) :: (1, .iload_n 1, 0, 0) :: (3, .invokevirtual 69, 36, 6) :: mt_Places_sourceCode_59)]
def mt_Routes_wire_19 : List ma_AI := (3, .ifCond .eq (7), 0, 0) :: (1, .iconst (1), 0, 1) :: (3, .goto (4), 0, 0) :: []
def mb_Routes_wire : ma_Tb := [(0, [true, true, true, false, false], (1, .iconst (0), 0, 0) :: (1, .istore_n 3, 0, 0) :: (1, .iconst (0), 0, 0) :: (2, .istore 4, 0, 0) :: []),
  (5, [true, true, true, true, true], (2, .iload 4, 0, 0) :: (1, .iload_n 1, 0, 0) :: (3, .if_icmp .ge (27), 0, 0) :: (1, .iload_n 3, 0, 0) :: (1, .aload_n 0, 0, 0) :: (2, .iload 4, 0, 0) :: (1, .iload_n 2, 0, 0) :: (3, .invokevirtual 127, 73, 7) :: mt_Routes_wire_19),
  (26, [true, true, true, false, true], (1, .iconst (0), 0, 0) :: []),
  (27, [true, true, true, false, true], (1, .iadd, 0, 0) :: (1, .istore_n 3, 0, 0) :: (3, .iinc 4 (1), 0, 0) :: (3, .goto (-27), 0, 0) :: []),
  (35, [false, false, false, true, false], (1, .iload_n 3, 0, 0) :: (1, .ireturn, 0, 0) :: [])]
def mt_Routes_has_28 : List ma_AI := (1, .iaload, 0, 0) :: (1, .iload_n 2, 0, 0) :: (3, .if_icmp .ne (7), 0, 0) :: []
def mt_Routes_has_4 : List ma_AI := (1, .istore_n 3, 0, 0) :: (1, .aload_n 0, 0, 0) :: (3, .getfield 11, 7, 0) :: (1, .iload_n 1, 0, 0) :: (1, .aaload, 0, 0) :: (1, .iload_n 3, 0, 0) :: (1, .iaload, 0, 0) :: (1, .iload_n 2, 0, 0) :: (3, .if_icmp .eq (19), 0, 0) :: (1, .aload_n 0, 0, 0) :: (3, .getfield 11, 7, 0) :: (1, .iload_n 1, 0, 0) :: (1, .aaload, 0, 0) :: (1, .iload_n 2, 0, 0) :: (1, .iload_n 3, 0, 0) :: (3, .invokestatic 121, 61, 0) :: mt_Routes_has_28
def mb_Routes_has : ma_Tb := [(0, [true, true, true, false], (1, .iload_n 2, 0, 0) :: (3, .invokestatic 124, 62, 0) :: mt_Routes_has_4),
  (33, [false, false, false, false], (1, .iconst (1), 0, 1) :: (3, .goto (4), 0, 0) :: []),
  (37, [false, false, false, false], (1, .iconst (0), 0, 0) :: []),
  (38, [false, false, false, false], (1, .ireturn, 0, 0) :: [])]
def mt_Builder_putNet_51 : List ma_AI := (3, .invokevirtual 115, 75, 5) :: []
def mt_Builder_putNet_44 : List ma_AI := (1, .aload_n 0, 0, 0) :: (1, .iload_n 1, 0, 0) :: (2, .iload 4, 0, 0) :: (3, .invokevirtual 71, 70, 1) :: mt_Builder_putNet_51
def mt_Builder_putNet_32 : List ma_AI := (2, .istore 4, 0, 0) :: (1, .aload_n 0, 0, 0) :: (3, .getfield 27, 1, 4) :: (1, .aload_n 0, 0, 0) :: (1, .iload_n 1, 0, 0) :: (1, .iload_n 2, 0, 0) :: (3, .invokevirtual 71, 70, 1) :: mt_Builder_putNet_44
def mt_Builder_putNet_24 : List ma_AI := (3, .ifCond .eq (30), 0, 0) :: (1, .iload_n 3, 0, 0) :: (1, .iload_n 2, 0, 0) :: (3, .invokestatic 112, 61, 0) :: mt_Builder_putNet_32
def mb_Builder_putNet : ma_Tb := [(0, [true, true, false, false, false], (1, .iconst (0), 0, 0) :: (1, .istore_n 2, 0, 0) :: []),
  (2, [true, true, true, false, false], (1, .iload_n 2, 0, 0) :: (2, .bipush (49), 0, 49) :: (3, .if_icmp .ge (55), 0, 0) :: (1, .aload_n 0, 0, 0) :: (3, .getfield 23, 1, 3) :: (3, .getfield 103, 7, 0) :: (1, .iload_n 1, 0, 0) :: (1, .aaload, 0, 0) :: (1, .iload_n 2, 0, 0) :: (1, .iaload, 0, 0) :: (1, .istore_n 3, 0, 0) :: (1, .iload_n 3, 0, 0) :: (3, .invokestatic 108, 51, 0) :: mt_Builder_putNet_24),
  (54, [true, true, true, false, false], (3, .iinc 2 (1), 0, 0) :: (3, .goto (-55), 0, 0) :: []),
  (60, [false, false, false, false, false], (1, .return_, 0, 0) :: [])]
def mt_Frames_putWireWord_19 : List ma_AI := (1, .iload_n 1, 0, 0) :: (1, .iconst (1), 0, 1) :: (1, .isub, 0, 0) :: (1, .iconst (2), 0, 2) :: (1, .irem, 0, 0) :: (1, .iadd, 0, 0) :: (1, .iload_n 2, 0, 0) :: (1, .iastore, 0, 0) :: (1, .return_, 0, 0) :: []
def mt_Frames_putWireWord_14 : List ma_AI := (1, .aaload, 0, 0) :: (1, .iload_n 3, 0, 0) :: (3, .invokestatic 36, 77, 0) :: mt_Frames_putWireWord_19
def mb_Frames_putWireWord : ma_Tb := [(0, [true, true, true, false], (1, .iload_n 1, 0, 0) :: (1, .iconst (1), 0, 1) :: (1, .isub, 0, 0) :: (1, .iconst (2), 0, 2) :: (1, .idiv, 0, 0) :: (1, .istore_n 3, 0, 0) :: (1, .aload_n 0, 0, 0) :: (3, .getfield 11, 5, 0) :: (1, .iload_n 3, 0, 0) :: (3, .invokestatic 33, 76, 0) :: mt_Frames_putWireWord_14)]
def mt_Frames_frameOfEdge_6 : List ma_AI := (2, .bipush (7), 0, 7) :: (1, .idiv, 0, 0) :: (1, .iadd, 0, 0) :: (1, .ireturn, 0, 0) :: []
def mb_Frames_frameOfEdge : ma_Tb := [(0, [true], (2, .bipush (6), 0, 6) :: (1, .iload_n 0, 0, 0) :: (3, .invokestatic 39, 62, 0) :: mt_Frames_frameOfEdge_6)]
def mt_Frames_indexOfEdge_4 : List ma_AI := (2, .bipush (7), 0, 7) :: (1, .irem, 0, 0) :: (1, .istore_n 1, 0, 0) :: (1, .iload_n 0, 0, 0) :: (2, .bipush (42), 0, 42) :: (3, .if_icmp .ge (7), 0, 0) :: (1, .iconst (1), 0, 1) :: (3, .goto (4), 0, 0) :: []
def mt_Frames_indexOfEdge_24 : List ma_AI := (2, .bipush (42), 0, 42) :: (3, .if_icmp .lt (7), 0, 0) :: (1, .iconst (1), 0, 1) :: (3, .goto (4), 0, 0) :: []
def mb_Frames_indexOfEdge : ma_Tb := [(0, [true, false, false, false], (1, .iload_n 0, 0, 0) :: (3, .invokestatic 39, 62, 0) :: mt_Frames_indexOfEdge_4),
  (18, [true, true, false, false], (1, .iconst (0), 0, 0) :: []),
  (19, [true, true, false, false], (1, .istore_n 2, 0, 0) :: (1, .iload_n 0, 0, 0) :: (3, .invokestatic 39, 62, 0) :: mt_Frames_indexOfEdge_24),
  (33, [false, true, true, false], (1, .iconst (0), 0, 0) :: []),
  (34, [false, true, true, false], (1, .istore_n 3, 0, 0) :: (1, .iconst (2), 0, 2) :: (1, .iload_n 2, 0, 0) :: (3, .ifCond .ne (7), 0, 0) :: (1, .iload_n 3, 0, 0) :: (3, .ifCond .eq (7), 0, 0) :: []),
  (44, [false, true, false, false], (1, .iload_n 1, 0, 0) :: (3, .goto (7), 0, 0) :: []),
  (48, [false, true, false, false], (2, .bipush (7), 0, 7) :: (1, .iload_n 1, 0, 0) :: (1, .iadd, 0, 0) :: []),
  (52, [false, false, false, false], (1, .imul, 0, 0) :: (1, .ireturn, 0, 0) :: [])]
def mb_Frames_wordsInUse : ma_Tb := [(0, [true, false, false, false], (1, .iconst (0), 0, 0) :: (1, .istore_n 1, 0, 0) :: (1, .iconst (0), 0, 0) :: (1, .istore_n 2, 0, 0) :: []),
  (4, [true, true, true, false], (1, .iload_n 2, 0, 0) :: (2, .bipush (14), 0, 14) :: (3, .if_icmp .ge (42), 0, 0) :: (1, .iconst (0), 0, 0) :: (1, .istore_n 3, 0, 0) :: []),
  (12, [true, true, true, true], (1, .iload_n 3, 0, 0) :: (2, .bipush (36), 0, 36) :: (3, .if_icmp .ge (28), 0, 0) :: (1, .iload_n 1, 0, 0) :: (1, .aload_n 0, 0, 0) :: (3, .getfield 11, 5, 0) :: (1, .iload_n 2, 0, 0) :: (1, .aaload, 0, 0) :: (1, .iload_n 3, 0, 0) :: (1, .iaload, 0, 0) :: (3, .ifCond .eq (7), 0, 0) :: (1, .iconst (1), 0, 1) :: (3, .goto (4), 0, 0) :: []),
  (34, [true, false, true, true], (1, .iconst (0), 0, 0) :: []),
  (35, [true, false, true, true], (1, .iadd, 0, 0) :: (1, .istore_n 1, 0, 0) :: (3, .iinc 3 (1), 0, 0) :: (3, .goto (-28), 0, 0) :: []),
  (43, [true, true, true, false], (3, .iinc 2 (1), 0, 0) :: (3, .goto (-42), 0, 0) :: []),
  (49, [false, true, false, false], (1, .iload_n 1, 0, 0) :: (1, .ireturn, 0, 0) :: [])]
def mt_LatticefitLaw_wordAt_6 : List ma_AI := (1, .ireturn, 0, 0) :: []
def mb_LatticefitLaw_wordAt : ma_Tb := [(0, [true, true, true, false], (1, .aload_n 0, 0, 0) :: (1, .iload_n 1, 0, 0) :: (1, .iload_n 2, 0, 0) :: (3, .invokevirtual 63, 80, 10) :: mt_LatticefitLaw_wordAt_6),
  (7, [false, false, false, false], (1, .astore_n 3, 0, 0) :: (2, .ldc 17, 0, (-900001)) :: (1, .ireturn, 0, 0) :: []),
  (11, [false, false, false, false], (1, .astore_n 3, 0, 0) :: (2, .ldc 24, 0, (-900002)) :: (1, .ireturn, 0, 0) :: []),
  (15, [false, false, false, false], (1, .astore_n 3, 0, 0) :: (2, .ldc 31, 0, (-900003)) :: (1, .ireturn, 0, 0) :: [])]
def mt_Latticefit_wordAt_15 : List ma_AI := (3, .if_icmp .lt (11), 0, 0) :: []
def mt_Latticefit_wordAt_6 : List ma_AI := (1, .iload_n 2, 0, 0) :: (3, .ifCond .lt (11), 0, 0) :: (1, .iload_n 2, 0, 0) :: (1, .iload_n 1, 0, 0) :: (3, .invokestatic 272, 82, 0) :: mt_Latticefit_wordAt_15
def mb_Latticefit_wordAt : ma_Tb := [(0, [true, true, true], (1, .aload_n 0, 0, 0) :: (1, .iload_n 1, 0, 0) :: (1, .iconst (3), 0, 3) :: (3, .invokevirtual 269, 81, 10) :: mt_Latticefit_wordAt_6),
  (18, [false, false, false], (8, .athrow, 4, 4) :: []),
  (26, [true, true, true], (1, .aload_n 0, 0, 0) :: (3, .getfield 60, 10, 6) :: (3, .getfield 273, 5, 0) :: (1, .iload_n 1, 0, 0) :: (1, .aaload, 0, 0) :: (1, .iload_n 2, 0, 0) :: (1, .iaload, 0, 0) :: (1, .ireturn, 0, 0) :: [])]
def mt_Latticefit_needFrame_23 : List ma_AI := (1, .return_, 0, 0) :: []
def mb_Latticefit_needFrame : ma_Tb := [(0, [true, true, true], (1, .iload_n 1, 0, 0) :: (3, .ifCond .lt (9), 0, 0) :: (1, .iload_n 1, 0, 0) :: (2, .bipush (14), 0, 14) :: (3, .if_icmp .lt (11), 0, 0) :: []),
  (10, [false, false, false], (8, .athrow, 3, 3) :: []),
  (18, [true, false, true], (1, .aload_n 0, 0, 0) :: (1, .iload_n 2, 0, 0) :: (3, .invokevirtual 207, 28, 10) :: mt_Latticefit_needFrame_23)]
def mb_Frames_lengthOf : ma_Tb := [(0, [true, false], (1, .iload_n 0, 0, 0) :: (2, .bipush (6), 0, 6) :: (3, .if_icmp .ge (6), 0, 0) :: (2, .bipush (36), 0, 36) :: (1, .ireturn, 0, 0) :: []),
  (9, [true, false], (1, .iload_n 0, 0, 0) :: (2, .bipush (13), 0, 13) :: (3, .if_icmp .ne (6), 0, 0) :: (2, .bipush (6), 0, 6) :: (1, .ireturn, 0, 0) :: []),
  (18, [true, false], (2, .bipush (12), 0, 12) :: (1, .istore_n 1, 0, 0) :: (1, .iload_n 0, 0, 0) :: (2, .bipush (12), 0, 12) :: (3, .if_icmp .ne (7), 0, 0) :: (1, .iload_n 1, 0, 0) :: (3, .goto (7), 0, 0) :: []),
  (31, [false, true], (1, .iload_n 1, 0, 0) :: (2, .bipush (14), 0, 14) :: (1, .iadd, 0, 0) :: []),
  (35, [false, false], (1, .ireturn, 0, 0) :: [])]
def mt_LatticefitLaw_start_4 : List ma_AI := (1, .ireturn, 0, 0) :: []
def mb_LatticefitLaw_start : ma_Tb := [(0, [true, false], (1, .aload_n 0, 0, 0) :: (3, .invokevirtual 66, 84, 10) :: mt_LatticefitLaw_start_4),
  (5, [false, false], (1, .astore_n 1, 0, 0) :: (2, .ldc 17, 0, (-900001)) :: (1, .ireturn, 0, 0) :: [])]
def mt_Latticefit_start_23 : List ma_AI := (1, .iconst (0), 0, 0) :: (1, .istore_n 1, 0, 0) :: []
def mt_Latticefit_start_16 : List ma_AI := (1, .aload_n 0, 0, 0) :: (3, .getfield 83, 10, 9) :: (3, .invokevirtual 283, 87, 8) :: mt_Latticefit_start_23
def mt_Latticefit_start_5 : List ma_AI := (1, .aload_n 0, 0, 0) :: (3, .getfield 76, 10, 8) :: (1, .aload_n 0, 0, 0) :: (3, .getfield 60, 10, 6) :: (3, .invokevirtual 279, 85, 2) :: mt_Latticefit_start_16
def mt_Latticefit_start_61 : List ma_AI := (1, .aload_n 0, 0, 0) :: (3, .getfield 10, 10, 0) :: (3, .getfield 292, 3, 4) :: (1, .iload_n 2, 0, 0) :: (1, .iaload, 0, 0) :: (1, .iastore, 0, 0) :: (3, .iinc 1 (1), 0, 0) :: (3, .goto (-49), 0, 0) :: []
def mb_Latticefit_start : ma_Tb := [(0, [true, false, false], (1, .aload_n 0, 0, 0) :: (1, .iconst (3), 0, 3) :: (3, .invokevirtual 207, 28, 10) :: mt_Latticefit_start_5),
  (25, [true, true, false], (1, .iload_n 1, 0, 0) :: (1, .aload_n 0, 0, 0) :: (3, .getfield 10, 10, 0) :: (3, .getfield 107, 3, 12) :: (3, .if_icmp .ge (44), 0, 0) :: (1, .aload_n 0, 0, 0) :: (3, .getfield 10, 10, 0) :: (3, .getfield 285, 3, 8) :: (1, .iload_n 1, 0, 0) :: (1, .iaload, 0, 0) :: (1, .istore_n 2, 0, 0) :: (1, .aload_n 0, 0, 0) :: (3, .getfield 76, 10, 8) :: (3, .getfield 288, 2, 2) :: (1, .aload_n 0, 0, 0) :: (3, .getfield 37, 10, 3) :: (1, .iload_n 2, 0, 0) :: (3, .invokevirtual 289, 36, 6) :: mt_Latticefit_start_61),
  (77, [true, false, false], (1, .aload_n 0, 0, 0) :: (1, .iconst (4), 0, 4) :: (3, .putfield 87, 10, 10) :: (1, .aload_n 0, 0, 0) :: (3, .getfield 10, 10, 0) :: (3, .getfield 133, 3, 13) :: (1, .ireturn, 0, 0) :: [])]
def mt_Chip_reset_17 : List ma_AI := (3, .iinc 2 (1), 0, 0) :: (3, .goto (-18), 0, 0) :: []
def mt_Chip_reset_39 : List ma_AI := (1, .aload_n 0, 0, 0) :: (1, .lconst 0, 0, 0) :: (3, .putfield 44, 2, 3) :: (1, .return_, 0, 0) :: []
def mt_Chip_reset_31 : List ma_AI := (1, .aload_n 0, 0, 0) :: (3, .getfield 22, 2, 2) :: (1, .iconst (0), 0, 0) :: (3, .invokestatic 38, 19, 0) :: mt_Chip_reset_39
def mb_Chip_reset : ma_Tb := [(0, [true, true, false], (1, .iconst (0), 0, 0) :: (1, .istore_n 2, 0, 0) :: []),
  (2, [true, true, true], (1, .iload_n 2, 0, 0) :: (2, .bipush (14), 0, 14) :: (3, .if_icmp .ge (18), 0, 0) :: (1, .aload_n 0, 0, 0) :: (3, .getfield 12, 2, 0) :: (1, .aload_n 1, 0, 0) :: (1, .iload_n 2, 0, 0) :: (3, .invokevirtual 34, 86, 5) :: mt_Chip_reset_17),
  (23, [true, false, false], (1, .aload_n 0, 0, 0) :: (3, .getfield 18, 2, 1) :: (1, .iconst (0), 0, 0) :: (3, .invokestatic 38, 19, 0) :: mt_Chip_reset_31)]
def mb_Frames_copyFrame : ma_Tb := [(0, [true, true, true], (1, .aload_n 1, 0, 0) :: (3, .getfield 11, 5, 0) :: (1, .iload_n 2, 0, 0) :: (1, .aaload, 0, 0) :: (1, .iconst (0), 0, 0) :: (1, .aload_n 0, 0, 0) :: (3, .getfield 11, 5, 0) :: (1, .iload_n 2, 0, 0) :: (1, .aaload, 0, 0) :: (1, .iconst (0), 0, 0) :: (2, .bipush (36), 0, 36) :: (3, .invokestatic 22, 10000, 0) :: (1, .return_, 0, 0) :: [])]
def mb_Runner_reset : ma_Tb := [(0, [true, false], (1, .iconst (0), 0, 0) :: (1, .istore_n 1, 0, 0) :: []),
  (2, [true, true], (1, .iload_n 1, 0, 0) :: (1, .aload_n 0, 0, 0) :: (3, .getfield 18, 8, 2) :: (3, .getfield 22, 3, 12) :: (3, .if_icmp .ge (40), 0, 0) :: (1, .aload_n 0, 0, 0) :: (3, .getfield 9, 8, 0) :: (1, .aload_n 0, 0, 0) :: (3, .getfield 18, 8, 2) :: (3, .getfield 28, 3, 8) :: (1, .iload_n 1, 0, 0) :: (1, .iaload, 0, 0) :: (1, .aload_n 0, 0, 0) :: (3, .getfield 18, 8, 2) :: (3, .getfield 31, 3, 4) :: (1, .aload_n 0, 0, 0) :: (3, .getfield 18, 8, 2) :: (3, .getfield 28, 3, 8) :: (1, .iload_n 1, 0, 0) :: (1, .iaload, 0, 0) :: (1, .iaload, 0, 0) :: (1, .iastore, 0, 0) :: (3, .iinc 1 (1), 0, 0) :: (3, .goto (-45), 0, 0) :: []),
  (50, [false, false], (1, .return_, 0, 0) :: [])]
def mt_LatticefitLaw_tick_5 : List ma_AI := (1, .lreturn, 0, 0) :: []
def mb_LatticefitLaw_tick : ma_Tb := [(0, [true, true, false], (1, .aload_n 0, 0, 0) :: (1, .iload_n 1, 0, 0) :: (3, .invokevirtual 69, 89, 10) :: mt_LatticefitLaw_tick_5),
  (6, [false, false, false], (1, .astore_n 2, 0, 0) :: (3, .ldc2_w 73, 0, (-900001)) :: (1, .lreturn, 0, 0) :: []),
  (11, [false, false, false], (1, .astore_n 2, 0, 0) :: (3, .ldc2_w 75, 0, (-900002)) :: (1, .lreturn, 0, 0) :: [])]
def mt_Latticefit_tick_45 : List ma_AI := (1, .aload_n 0, 0, 0) :: (3, .getfield 76, 10, 8) :: (3, .getfield 303, 2, 3) :: (1, .lreturn, 0, 0) :: []
def mt_Latticefit_tick_37 : List ma_AI := (1, .aload_n 0, 0, 0) :: (3, .getfield 76, 10, 8) :: (1, .iload_n 1, 0, 0) :: (3, .invokevirtual 301, 92, 2) :: mt_Latticefit_tick_45
def mt_Latticefit_tick_22 : List ma_AI := (1, .aload_n 0, 0, 0) :: (3, .getfield 83, 10, 9) :: (1, .iload_n 1, 0, 0) :: (1, .aload_n 0, 0, 0) :: (3, .getfield 76, 10, 8) :: (3, .getfield 295, 2, 1) :: (3, .invokevirtual 297, 90, 8) :: mt_Latticefit_tick_37
def mb_Latticefit_tick : ma_Tb := [(0, [true, true], (1, .iload_n 1, 0, 0) :: (3, .ifCond .lt (8), 0, 0) :: (1, .iload_n 1, 0, 0) :: (1, .iconst (3), 0, 3) :: (3, .if_icmp .lt (11), 0, 0) :: []),
  (9, [false, false], (8, .athrow, 2, 2) :: []),
  (17, [true, true], (1, .aload_n 0, 0, 0) :: (1, .iconst (4), 0, 4) :: (3, .invokevirtual 207, 28, 10) :: mt_Latticefit_tick_22)]
def mt_Runner_takeTick_5 : List ma_AI := (1, .iconst (0), 0, 0) :: (1, .istore_n 3, 0, 0) :: []
def mb_Runner_takeTick : ma_Tb := [(0, [true, true, true, false, false], (1, .aload_n 0, 0, 0) :: (1, .aload_n 2, 0, 0) :: (3, .invokevirtual 51, 91, 8) :: mt_Runner_takeTick_5),
  (7, [true, true, false, true, false], (1, .iload_n 3, 0, 0) :: (1, .aload_n 0, 0, 0) :: (3, .getfield 18, 8, 2) :: (3, .getfield 22, 3, 12) :: (3, .if_icmp .ge (56), 0, 0) :: (1, .aload_n 0, 0, 0) :: (3, .getfield 18, 8, 2) :: (3, .getfield 28, 3, 8) :: (1, .iload_n 3, 0, 0) :: (1, .iaload, 0, 0) :: (2, .istore 4, 0, 0) :: (1, .aload_n 0, 0, 0) :: (3, .getfield 18, 8, 2) :: (3, .getfield 55, 3, 5) :: (2, .iload 4, 0, 0) :: (1, .iaload, 0, 0) :: (1, .iload_n 1, 0, 0) :: (3, .if_icmp .ne (25), 0, 0) :: (1, .aload_n 0, 0, 0) :: (3, .getfield 9, 8, 0) :: (2, .iload 4, 0, 0) :: (1, .aload_n 0, 0, 0) :: (3, .getfield 15, 8, 1) :: (1, .aload_n 0, 0, 0) :: (3, .getfield 18, 8, 2) :: (3, .getfield 58, 3, 3) :: (2, .iload 4, 0, 0) :: (1, .iaload, 0, 0) :: (1, .iaload, 0, 0) :: (1, .iastore, 0, 0) :: []),
  (65, [true, true, false, true, false], (3, .iinc 3 (1), 0, 0) :: (3, .goto (-61), 0, 0) :: []),
  (71, [false, false, false, false, false], (1, .return_, 0, 0) :: [])]
def mt_Runner_findValues_93 : List ma_AI := (1, .iconst (1), 0, 1) :: (1, .iand, 0, 0) :: (1, .iastore, 0, 0) :: []
def mb_Runner_findValues : ma_Tb := [(0, [true, true, false], (1, .iconst (0), 0, 0) :: (1, .istore_n 2, 0, 0) :: []),
  (2, [true, true, true], (1, .iload_n 2, 0, 0) :: (1, .aload_n 0, 0, 0) :: (3, .getfield 18, 8, 2) :: (3, .getfield 34, 3, 10) :: (3, .if_icmp .ge (92), 0, 0) :: (1, .aload_n 0, 0, 0) :: (3, .getfield 18, 8, 2) :: (3, .getfield 37, 3, 0) :: (1, .iload_n 2, 0, 0) :: (1, .caload, 0, 0) :: (2, .bipush (105), 0, 105) :: (3, .if_icmp .ne (23), 0, 0) :: (1, .aload_n 0, 0, 0) :: (3, .getfield 15, 8, 1) :: (1, .iload_n 2, 0, 0) :: (1, .aload_n 1, 0, 0) :: (1, .aload_n 0, 0, 0) :: (3, .getfield 18, 8, 2) :: (3, .getfield 41, 3, 6) :: (1, .iload_n 2, 0, 0) :: (1, .iaload, 0, 0) :: (1, .iaload, 0, 0) :: (1, .iastore, 0, 0) :: (3, .goto (52), 0, 0) :: []),
  (47, [true, true, true], (1, .aload_n 0, 0, 0) :: (3, .getfield 18, 8, 2) :: (3, .getfield 37, 3, 0) :: (1, .iload_n 2, 0, 0) :: (1, .caload, 0, 0) :: (2, .bipush (114), 0, 114) :: (3, .if_icmp .ne (18), 0, 0) :: (1, .aload_n 0, 0, 0) :: (3, .getfield 15, 8, 1) :: (1, .iload_n 2, 0, 0) :: (1, .aload_n 0, 0, 0) :: (3, .getfield 9, 8, 0) :: (1, .iload_n 2, 0, 0) :: (1, .iaload, 0, 0) :: (1, .iastore, 0, 0) :: (3, .goto (23), 0, 0) :: []),
  (76, [true, true, true], (1, .aload_n 0, 0, 0) :: (3, .getfield 15, 8, 1) :: (1, .iload_n 2, 0, 0) :: (1, .aload_n 0, 0, 0) :: (3, .getfield 18, 8, 2) :: (1, .iload_n 2, 0, 0) :: (1, .aload_n 0, 0, 0) :: (3, .getfield 15, 8, 1) :: (3, .invokevirtual 44, 22, 3) :: mt_Runner_findValues_93),
  (96, [true, true, true], (3, .iinc 2 (1), 0, 0) :: (3, .goto (-97), 0, 0) :: []),
  (102, [false, false, false], (1, .return_, 0, 0) :: [])]
def mt_Chip_takeTick_4 : List ma_AI := (1, .iconst (0), 0, 0) :: (1, .istore_n 2, 0, 0) :: []
def mt_Chip_takeTick_21 : List ma_AI := (1, .istore_n 3, 0, 0) :: (1, .iload_n 3, 0, 0) :: (1, .iconst (2), 0, 2) :: (1, .irem, 0, 0) :: (1, .iconst (1), 0, 1) :: (3, .if_icmp .ne (24), 0, 0) :: (1, .iload_n 3, 0, 0) :: (1, .iconst (4), 0, 4) :: (1, .idiv, 0, 0) :: (1, .iconst (4), 0, 4) :: (1, .irem, 0, 0) :: (1, .iload_n 1, 0, 0) :: (3, .if_icmp .ne (15), 0, 0) :: (1, .aload_n 0, 0, 0) :: (3, .getfield 22, 2, 2) :: (1, .iload_n 2, 0, 0) :: (1, .aload_n 0, 0, 0) :: (3, .getfield 25, 2, 4) :: (1, .iload_n 2, 0, 0) :: (1, .iaload, 0, 0) :: (1, .iastore, 0, 0) :: []
def mb_Chip_takeTick : ma_Tb := [(0, [true, true, false, false], (1, .aload_n 0, 0, 0) :: (3, .invokevirtual 77, 93, 2) :: mt_Chip_takeTick_4),
  (6, [true, true, true, false], (1, .iload_n 2, 0, 0) :: (2, .bipush (36), 0, 36) :: (3, .if_icmp .ge (47), 0, 0) :: (1, .aload_n 0, 0, 0) :: (3, .getfield 12, 2, 0) :: (1, .iload_n 2, 0, 0) :: (1, .iconst (5), 0, 5) :: (3, .invokevirtual 55, 95, 5) :: mt_Chip_takeTick_21),
  (50, [true, true, true, false], (3, .iinc 2 (1), 0, 0) :: (3, .goto (-47), 0, 0) :: []),
  (56, [true, false, false, false], (1, .aload_n 0, 0, 0) :: (1, .dup, 0, 0) :: (3, .getfield 44, 2, 3) :: (1, .lconst 1, 0, 1) :: (1, .ladd, 0, 0) :: (3, .putfield 44, 2, 3) :: (1, .return_, 0, 0) :: [])]
def mt_Chip_findTables_12 : List ma_AI := (1, .iconst (1), 0, 1) :: (1, .istore_n 1, 0, 0) :: (1, .iconst (0), 0, 0) :: (1, .istore_n 2, 0, 0) :: []
def mt_Chip_findTables_4 : List ma_AI := (1, .aload_n 0, 0, 0) :: (3, .getfield 25, 2, 4) :: (1, .iconst (0), 0, 0) :: (3, .invokestatic 38, 19, 0) :: mt_Chip_findTables_12
def mt_Chip_findTables_30 : List ma_AI := (1, .istore_n 1, 0, 0) :: (3, .iinc 2 (1), 0, 0) :: (3, .goto (-18), 0, 0) :: []
def mb_Chip_findTables : ma_Tb := [(0, [true, false, false], (1, .aload_n 0, 0, 0) :: (3, .invokevirtual 48, 94, 2) :: mt_Chip_findTables_4),
  (16, [true, true, true], (1, .iload_n 2, 0, 0) :: (2, .bipush (40), 0, 40) :: (3, .if_icmp .ge (18), 0, 0) :: (1, .iload_n 1, 0, 0) :: (3, .ifCond .eq (14), 0, 0) :: (1, .aload_n 0, 0, 0) :: (3, .invokevirtual 51, 99, 2) :: mt_Chip_findTables_30),
  (37, [false, false, false], (1, .return_, 0, 0) :: [])]
def mt_Chip_findEnds_42 : List ma_AI := (1, .iastore, 0, 0) :: (3, .iinc 2 (1), 0, 0) :: (3, .goto (-36), 0, 0) :: []
def mt_Chip_findEnds_39 : List ma_AI := (3, .invokevirtual 59, 96, 5) :: mt_Chip_findEnds_42
def mb_Chip_findEnds : ma_Tb := [(0, [true, false, false], (1, .iconst (0), 0, 0) :: (1, .istore_n 1, 0, 0) :: []),
  (2, [true, true, false], (1, .iload_n 1, 0, 0) :: (2, .bipush (36), 0, 36) :: (3, .if_icmp .ge (50), 0, 0) :: (1, .iconst (0), 0, 0) :: (1, .istore_n 2, 0, 0) :: []),
  (10, [true, true, true], (1, .iload_n 2, 0, 0) :: (1, .iconst (4), 0, 4) :: (3, .if_icmp .ge (37), 0, 0) :: (1, .aload_n 0, 0, 0) :: (3, .getfield 31, 2, 6) :: (1, .iconst (4), 0, 4) :: (1, .iload_n 1, 0, 0) :: (1, .imul, 0, 0) :: (1, .iload_n 2, 0, 0) :: (1, .iadd, 0, 0) :: (1, .aload_n 0, 0, 0) :: (3, .getfield 12, 2, 0) :: (1, .aload_n 0, 0, 0) :: (3, .getfield 12, 2, 0) :: (1, .iload_n 1, 0, 0) :: (1, .iconst (1), 0, 1) :: (1, .iload_n 2, 0, 0) :: (1, .iadd, 0, 0) :: (3, .invokevirtual 55, 95, 5) :: mt_Chip_findEnds_39),
  (49, [true, true, false], (3, .iinc 1 (1), 0, 0) :: (3, .goto (-50), 0, 0) :: []),
  (55, [false, false, false], (1, .return_, 0, 0) :: [])]
def mb_Frames_cellWord : ma_Tb := [(0, [true, true, true], (1, .aload_n 0, 0, 0) :: (3, .getfield 11, 5, 0) :: (1, .iload_n 1, 0, 0) :: (2, .bipush (6), 0, 6) :: (1, .idiv, 0, 0) :: (1, .aaload, 0, 0) :: (2, .bipush (6), 0, 6) :: (1, .iload_n 1, 0, 0) :: (2, .bipush (6), 0, 6) :: (1, .irem, 0, 0) :: (1, .imul, 0, 0) :: (1, .iload_n 2, 0, 0) :: (1, .iadd, 0, 0) :: (1, .iaload, 0, 0) :: (1, .ireturn, 0, 0) :: [])]
def mt_Frames_endOf_23 : List ma_AI := (1, .istore_n 2, 0, 0) :: (3, .iinc 3 (1), 0, 0) :: (3, .goto (-23), 0, 0) :: []
def mt_Frames_endOf_15 : List ma_AI := (3, .ifCond .eq (15), 0, 0) :: (1, .aload_n 0, 0, 0) :: (1, .iload_n 2, 0, 0) :: (3, .invokevirtual 48, 98, 5) :: mt_Frames_endOf_23
def mt_Frames_endOf_34 : List ma_AI := (3, .ifCond .eq (7), 0, 0) :: (1, .iconst (0), 0, 0) :: (3, .goto (4), 0, 0) :: []
def mb_Frames_endOf : ma_Tb := [(0, [true, true, false, false], (1, .iload_n 1, 0, 0) :: (1, .istore_n 2, 0, 0) :: (1, .iconst (0), 0, 0) :: (1, .istore_n 3, 0, 0) :: []),
  (4, [true, false, true, true], (1, .iload_n 3, 0, 0) :: (3, .sipush (200), 0, 200) :: (3, .if_icmp .ge (22), 0, 0) :: (1, .iload_n 2, 0, 0) :: (3, .invokestatic 44, 97, 0) :: mt_Frames_endOf_15),
  (30, [false, false, true, false], (1, .iload_n 2, 0, 0) :: (3, .invokestatic 44, 97, 0) :: mt_Frames_endOf_34),
  (41, [false, false, true, false], (1, .iload_n 2, 0, 0) :: []),
  (42, [false, false, false, false], (1, .ireturn, 0, 0) :: [])]
def mb_Frames_isWire : ma_Tb := [(0, [true], (1, .iload_n 0, 0, 0) :: (1, .iconst (1), 0, 1) :: (3, .if_icmp .lt (14), 0, 0) :: (1, .iload_n 0, 0, 0) :: (3, .sipush (168), 0, 168) :: (3, .if_icmp .gt (7), 0, 0) :: (1, .iconst (1), 0, 1) :: (3, .goto (4), 0, 0) :: []),
  (16, [false], (1, .iconst (0), 0, 0) :: []),
  (17, [false], (1, .ireturn, 0, 0) :: [])]
def mt_Frames_wireWord_19 : List ma_AI := (1, .iload_n 1, 0, 0) :: (1, .iconst (1), 0, 1) :: (1, .isub, 0, 0) :: (1, .iconst (2), 0, 2) :: (1, .irem, 0, 0) :: (1, .iadd, 0, 0) :: (1, .iaload, 0, 0) :: (1, .ireturn, 0, 0) :: []
def mt_Frames_wireWord_14 : List ma_AI := (1, .aaload, 0, 0) :: (1, .iload_n 2, 0, 0) :: (3, .invokestatic 36, 77, 0) :: mt_Frames_wireWord_19
def mb_Frames_wireWord : ma_Tb := [(0, [true, true, false], (1, .iload_n 1, 0, 0) :: (1, .iconst (1), 0, 1) :: (1, .isub, 0, 0) :: (1, .iconst (2), 0, 2) :: (1, .idiv, 0, 0) :: (1, .istore_n 2, 0, 0) :: (1, .aload_n 0, 0, 0) :: (3, .getfield 11, 5, 0) :: (1, .iload_n 2, 0, 0) :: (3, .invokestatic 33, 76, 0) :: mt_Frames_wireWord_14)]
def mt_Chip_renewTables_56 : List ma_AI := (2, .iload 4, 0, 0) :: (1, .ishl, 0, 0) :: (1, .ior, 0, 0) :: (1, .istore_n 3, 0, 0) :: (3, .iinc 4 (1), 0, 0) :: (3, .goto (-34), 0, 0) :: []
def mt_Chip_renewTables_81 : List ma_AI := (1, .iload_n 3, 0, 0) :: (1, .ishr, 0, 0) :: (1, .iconst (1), 0, 1) :: (1, .iand, 0, 0) :: (1, .iastore, 0, 0) :: (1, .aload_n 0, 0, 0) :: (3, .getfield 25, 2, 4) :: (1, .iload_n 2, 0, 0) :: (1, .iaload, 0, 0) :: (1, .aload_n 0, 0, 0) :: (3, .getfield 28, 2, 5) :: (1, .iload_n 2, 0, 0) :: (1, .iaload, 0, 0) :: (3, .if_icmp .eq (5), 0, 0) :: (1, .iconst (1), 0, 1) :: (1, .istore_n 1, 0, 0) :: []
def mb_Chip_renewTables : ma_Tb := [(0, [true, false, false, false, false], (1, .aload_n 0, 0, 0) :: (3, .getfield 25, 2, 4) :: (1, .iconst (0), 0, 0) :: (1, .aload_n 0, 0, 0) :: (3, .getfield 28, 2, 5) :: (1, .iconst (0), 0, 0) :: (2, .bipush (36), 0, 36) :: (3, .invokestatic 63, 10000, 0) :: (1, .iconst (0), 0, 0) :: (1, .istore_n 1, 0, 0) :: (1, .iconst (0), 0, 0) :: (1, .istore_n 2, 0, 0) :: []),
  (19, [true, true, true, false, false], (1, .iload_n 2, 0, 0) :: (2, .bipush (36), 0, 36) :: (3, .if_icmp .ge (87), 0, 0) :: (1, .iconst (0), 0, 0) :: (1, .istore_n 3, 0, 0) :: (1, .iconst (0), 0, 0) :: (2, .istore 4, 0, 0) :: []),
  (30, [true, true, true, true, true], (2, .iload 4, 0, 0) :: (1, .iconst (4), 0, 4) :: (3, .if_icmp .ge (34), 0, 0) :: (1, .iload_n 3, 0, 0) :: (1, .aload_n 0, 0, 0) :: (1, .aload_n 0, 0, 0) :: (3, .getfield 31, 2, 6) :: (1, .iconst (4), 0, 4) :: (1, .iload_n 2, 0, 0) :: (1, .imul, 0, 0) :: (2, .iload 4, 0, 0) :: (1, .iadd, 0, 0) :: (1, .iaload, 0, 0) :: (1, .aload_n 0, 0, 0) :: (3, .getfield 28, 2, 5) :: (3, .invokevirtual 69, 100, 2) :: mt_Chip_renewTables_56),
  (67, [true, true, true, true, false], (1, .aload_n 0, 0, 0) :: (3, .getfield 25, 2, 4) :: (1, .iload_n 2, 0, 0) :: (1, .aload_n 0, 0, 0) :: (3, .getfield 12, 2, 0) :: (1, .iload_n 2, 0, 0) :: (1, .iconst (0), 0, 0) :: (3, .invokevirtual 55, 95, 5) :: mt_Chip_renewTables_81),
  (103, [true, true, true, false, false], (3, .iinc 2 (1), 0, 0) :: (3, .goto (-87), 0, 0) :: []),
  (109, [false, true, false, false, false], (1, .iload_n 1, 0, 0) :: (1, .ireturn, 0, 0) :: [])]
def mb_Chip_valueOfEnd : ma_Tb := [(0, [true, true, true, false], (1, .iload_n 1, 0, 0) :: (3, .sipush (300), 0, 300) :: (3, .if_icmp .lt (21), 0, 0) :: (1, .iload_n 1, 0, 0) :: (3, .sipush (306), 0, 306) :: (3, .if_icmp .ge (14), 0, 0) :: (1, .aload_n 0, 0, 0) :: (3, .getfield 18, 2, 1) :: (1, .iload_n 1, 0, 0) :: (3, .sipush (300), 0, 300) :: (1, .isub, 0, 0) :: (1, .iaload, 0, 0) :: (1, .ireturn, 0, 0) :: []),
  (25, [true, true, true, false], (1, .iload_n 1, 0, 0) :: (3, .sipush (200), 0, 200) :: (3, .if_icmp .lt (10), 0, 0) :: (1, .iload_n 1, 0, 0) :: (3, .sipush (272), 0, 272) :: (3, .if_icmp .lt (5), 0, 0) :: []),
  (39, [false, false, false, false], (1, .iconst (0), 0, 0) :: (1, .ireturn, 0, 0) :: []),
  (41, [true, true, true, false], (1, .iload_n 1, 0, 0) :: (3, .sipush (200), 0, 200) :: (1, .isub, 0, 0) :: (1, .iconst (2), 0, 2) :: (1, .idiv, 0, 0) :: (1, .istore_n 3, 0, 0) :: (1, .iload_n 1, 0, 0) :: (1, .iconst (2), 0, 2) :: (1, .irem, 0, 0) :: (3, .ifCond .ne (9), 0, 0) :: (1, .aload_n 2, 0, 0) :: (1, .iload_n 3, 0, 0) :: (1, .iaload, 0, 0) :: (3, .goto (9), 0, 0) :: []),
  (61, [true, false, false, true], (1, .aload_n 0, 0, 0) :: (3, .getfield 22, 2, 2) :: (1, .iload_n 3, 0, 0) :: (1, .iaload, 0, 0) :: []),
  (67, [false, false, false, false], (1, .ireturn, 0, 0) :: [])]
def mt_LatticefitLaw_sourceOf_6 : List ma_AI := (1, .ireturn, 0, 0) :: []
def mb_LatticefitLaw_sourceOf : ma_Tb := [(0, [true, true, true, false], (1, .aload_n 0, 0, 0) :: (1, .iload_n 1, 0, 0) :: (1, .iload_n 2, 0, 0) :: (3, .invokevirtual 77, 102, 10) :: mt_LatticefitLaw_sourceOf_6),
  (7, [false, false, false, false], (1, .astore_n 3, 0, 0) :: (2, .ldc 17, 0, (-900001)) :: (1, .ireturn, 0, 0) :: []),
  (11, [false, false, false, false], (1, .astore_n 3, 0, 0) :: (2, .ldc 24, 0, (-900002)) :: (1, .ireturn, 0, 0) :: []),
  (15, [false, false, false, false], (1, .astore_n 3, 0, 0) :: (2, .ldc 31, 0, (-900003)) :: (1, .ireturn, 0, 0) :: [])]
def mt_Latticefit_sourceOf_4 : List ma_AI := (3, .ifCond .eq (12), 0, 0) :: (1, .iload_n 2, 0, 0) :: (3, .ifCond .lt (8), 0, 0) :: (1, .iload_n 2, 0, 0) :: (1, .iconst (4), 0, 4) :: (3, .if_icmp .lt (11), 0, 0) :: []
def mt_Latticefit_sourceOf_60 : List ma_AI := (1, .istore_n 3, 0, 0) :: (1, .iload_n 3, 0, 0) :: (3, .ifCond .ge (11), 0, 0) :: (8, .athrow, 4, 4) :: []
def mt_Latticefit_sourceOf_57 : List ma_AI := (3, .invokevirtual 330, 104, 6) :: mt_Latticefit_sourceOf_60
def mt_Latticefit_sourceOf_54 : List ma_AI := (3, .invokevirtual 327, 96, 5) :: mt_Latticefit_sourceOf_57
def mt_Latticefit_sourceOf_29 : List ma_AI := (1, .aload_n 0, 0, 0) :: (3, .getfield 37, 10, 3) :: (1, .aload_n 0, 0, 0) :: (3, .getfield 76, 10, 8) :: (3, .getfield 321, 2, 0) :: (1, .aload_n 0, 0, 0) :: (3, .getfield 76, 10, 8) :: (3, .getfield 321, 2, 0) :: (1, .iload_n 1, 0, 0) :: (1, .iconst (1), 0, 1) :: (1, .iload_n 2, 0, 0) :: (1, .iadd, 0, 0) :: (3, .invokevirtual 324, 95, 5) :: mt_Latticefit_sourceOf_54
def mb_Latticefit_sourceOf : ma_Tb := [(0, [true, true, true, false], (1, .iload_n 1, 0, 0) :: (3, .invokestatic 188, 103, 0) :: mt_Latticefit_sourceOf_4),
  (16, [false, false, false, false], (8, .athrow, 3, 3) :: []),
  (24, [true, true, true, false], (1, .aload_n 0, 0, 0) :: (1, .iconst (4), 0, 4) :: (3, .invokevirtual 207, 28, 10) :: mt_Latticefit_sourceOf_29),
  (73, [false, false, false, true], (1, .iload_n 3, 0, 0) :: (1, .ireturn, 0, 0) :: [])]
def mb_Latticefit_isCell : ma_Tb := [(0, [true], (1, .iload_n 0, 0, 0) :: (3, .ifCond .lt (13), 0, 0) :: (1, .iload_n 0, 0, 0) :: (2, .bipush (36), 0, 36) :: (3, .if_icmp .ge (7), 0, 0) :: (1, .iconst (1), 0, 1) :: (3, .goto (4), 0, 0) :: []),
  (14, [false], (1, .iconst (0), 0, 0) :: []),
  (15, [false], (1, .ireturn, 0, 0) :: [])]
def mb_Places_nodeOfCode : ma_Tb := [(0, [true, true, false], (1, .iload_n 1, 0, 0) :: (3, .sipush (300), 0, 300) :: (3, .if_icmp .lt (32), 0, 0) :: (1, .iload_n 1, 0, 0) :: (3, .sipush (300), 0, 300) :: (1, .aload_n 0, 0, 0) :: (3, .getfield 37, 6, 8) :: (3, .getfield 76, 3, 11) :: (1, .iadd, 0, 0) :: (3, .if_icmp .ge (17), 0, 0) :: (1, .aload_n 0, 0, 0) :: (3, .getfield 37, 6, 8) :: (3, .getfield 79, 3, 7) :: (1, .iload_n 1, 0, 0) :: (3, .sipush (300), 0, 300) :: (1, .isub, 0, 0) :: (1, .iaload, 0, 0) :: (1, .ireturn, 0, 0) :: []),
  (36, [true, true, false], (1, .iload_n 1, 0, 0) :: (3, .sipush (200), 0, 200) :: (3, .if_icmp .lt (10), 0, 0) :: (1, .iload_n 1, 0, 0) :: (3, .sipush (272), 0, 272) :: (3, .if_icmp .lt (5), 0, 0) :: []),
  (50, [false, false, false], (1, .iconst (-1), 0, (-1)) :: (1, .ireturn, 0, 0) :: []),
  (52, [true, true, false], (1, .aload_n 0, 0, 0) :: (3, .getfield 15, 6, 1) :: (1, .iload_n 1, 0, 0) :: (3, .sipush (200), 0, 200) :: (1, .isub, 0, 0) :: (1, .iconst (2), 0, 2) :: (1, .idiv, 0, 0) :: (1, .iaload, 0, 0) :: (1, .istore_n 2, 0, 0) :: (1, .iload_n 2, 0, 0) :: (3, .ifCond .ge (5), 0, 0) :: (1, .iconst (-1), 0, (-1)) :: (1, .ireturn, 0, 0) :: []),
  (71, [true, true, true], (1, .iload_n 1, 0, 0) :: (1, .iconst (2), 0, 2) :: (1, .irem, 0, 0) :: (3, .ifCond .ne (15), 0, 0) :: (1, .aload_n 0, 0, 0) :: (3, .getfield 41, 6, 9) :: (3, .getfield 82, 0, 0) :: (1, .iload_n 2, 0, 0) :: (1, .iaload, 0, 0) :: (3, .goto (12), 0, 0) :: []),
  (89, [true, false, true], (1, .aload_n 0, 0, 0) :: (3, .getfield 41, 6, 9) :: (3, .getfield 85, 0, 1) :: (1, .iload_n 2, 0, 0) :: (1, .iaload, 0, 0) :: []),
  (98, [false, false, false], (1, .ireturn, 0, 0) :: [])]
def mt_LatticefitLaw_flip_7 : List ma_AI := (1, .ireturn, 0, 0) :: []
def mb_LatticefitLaw_flip : ma_Tb := [(0, [true, true, true, true, false], (1, .aload_n 0, 0, 0) :: (1, .iload_n 1, 0, 0) :: (1, .iload_n 2, 0, 0) :: (1, .iload_n 3, 0, 0) :: (3, .invokevirtual 80, 106, 10) :: mt_LatticefitLaw_flip_7),
  (8, [false, false, false, false, false], (2, .astore 4, 0, 0) :: (2, .ldc 17, 0, (-900001)) :: (1, .ireturn, 0, 0) :: []),
  (13, [false, false, false, false, false], (2, .astore 4, 0, 0) :: (2, .ldc 24, 0, (-900002)) :: (1, .ireturn, 0, 0) :: []),
  (18, [false, false, false, false, false], (2, .astore 4, 0, 0) :: (2, .ldc 31, 0, (-900003)) :: (1, .ireturn, 0, 0) :: [])]
def mt_Latticefit_flip_33 : List ma_AI := (3, .if_icmp .lt (11), 0, 0) :: []
def mt_Latticefit_flip_24 : List ma_AI := (1, .iload_n 2, 0, 0) :: (3, .ifCond .lt (11), 0, 0) :: (1, .iload_n 2, 0, 0) :: (1, .iload_n 1, 0, 0) :: (3, .invokestatic 272, 82, 0) :: mt_Latticefit_flip_33
def mb_Latticefit_flip : ma_Tb := [(0, [true, true, true, true], (1, .iload_n 3, 0, 0) :: (3, .ifCond .lt (9), 0, 0) :: (1, .iload_n 3, 0, 0) :: (2, .bipush (16), 0, 16) :: (3, .if_icmp .lt (11), 0, 0) :: []),
  (10, [false, false, false, false], (8, .athrow, 3, 3) :: []),
  (18, [true, true, true, true], (1, .aload_n 0, 0, 0) :: (1, .iload_n 1, 0, 0) :: (1, .iconst (4), 0, 4) :: (3, .invokevirtual 269, 81, 10) :: mt_Latticefit_flip_24),
  (36, [false, false, false, false], (8, .athrow, 4, 4) :: []),
  (44, [true, true, true, true], (1, .aload_n 0, 0, 0) :: (3, .getfield 76, 10, 8) :: (3, .getfield 321, 2, 0) :: (3, .getfield 273, 5, 0) :: (1, .iload_n 1, 0, 0) :: (1, .aaload, 0, 0) :: (1, .iload_n 2, 0, 0) :: (1, .dup2, 0, 0) :: (1, .iaload, 0, 0) :: (1, .iconst (1), 0, 1) :: (1, .iload_n 3, 0, 0) :: (1, .ishl, 0, 0) :: (1, .ixor, 0, 0) :: (1, .iastore, 0, 0) :: (1, .aload_n 0, 0, 0) :: (3, .getfield 76, 10, 8) :: (3, .getfield 321, 2, 0) :: (3, .getfield 273, 5, 0) :: (1, .iload_n 1, 0, 0) :: (1, .aaload, 0, 0) :: (1, .iload_n 2, 0, 0) :: (1, .iaload, 0, 0) :: (1, .ireturn, 0, 0) :: [])]
def mt_LatticefitLaw_scrub_4 : List ma_AI := (1, .ireturn, 0, 0) :: []
def mb_LatticefitLaw_scrub : ma_Tb := [(0, [true, false], (1, .aload_n 0, 0, 0) :: (3, .invokevirtual 83, 108, 10) :: mt_LatticefitLaw_scrub_4),
  (5, [false, false], (1, .astore_n 1, 0, 0) :: (2, .ldc 17, 0, (-900001)) :: (1, .ireturn, 0, 0) :: [])]
def mt_Latticefit_scrub_5 : List ma_AI := (1, .iconst (0), 0, 0) :: (1, .istore_n 1, 0, 0) :: (1, .iconst (0), 0, 0) :: (1, .istore_n 2, 0, 0) :: []
def mt_Latticefit_scrub_52 : List ma_AI := (3, .iinc 1 (1), 0, 0) :: []
def mt_Latticefit_scrub_34 : List ma_AI := (3, .if_icmp .eq (21), 0, 0) :: (1, .aload_n 0, 0, 0) :: (3, .getfield 76, 10, 8) :: (3, .getfield 321, 2, 0) :: (1, .aload_n 0, 0, 0) :: (3, .getfield 60, 10, 6) :: (1, .iload_n 2, 0, 0) :: (3, .invokevirtual 333, 86, 5) :: mt_Latticefit_scrub_52
def mt_Latticefit_scrub_26 : List ma_AI := (1, .aload_n 0, 0, 0) :: (3, .getfield 60, 10, 6) :: (1, .iload_n 2, 0, 0) :: (3, .invokevirtual 276, 109, 5) :: mt_Latticefit_scrub_34
def mb_Latticefit_scrub : ma_Tb := [(0, [true, false, false], (1, .aload_n 0, 0, 0) :: (1, .iconst (4), 0, 4) :: (3, .invokevirtual 207, 28, 10) :: mt_Latticefit_scrub_5),
  (9, [true, true, true], (1, .iload_n 2, 0, 0) :: (2, .bipush (14), 0, 14) :: (3, .if_icmp .ge (49), 0, 0) :: (1, .aload_n 0, 0, 0) :: (3, .getfield 76, 10, 8) :: (3, .getfield 321, 2, 0) :: (1, .iload_n 2, 0, 0) :: (3, .invokevirtual 276, 109, 5) :: mt_Latticefit_scrub_26),
  (55, [true, true, true], (3, .iinc 2 (1), 0, 0) :: (3, .goto (-49), 0, 0) :: []),
  (61, [false, true, false], (1, .iload_n 1, 0, 0) :: (1, .ireturn, 0, 0) :: [])]
def mt_Frames_sumOf_6 : List ma_AI := (1, .istore_n 3, 0, 0) :: (1, .iconst (0), 0, 0) :: (2, .istore 4, 0, 0) :: []
def mb_Frames_sumOf : ma_Tb := [(0, [true, true, false, false, false], (1, .iconst (1), 0, 1) :: (1, .istore_n 2, 0, 0) :: (1, .iload_n 1, 0, 0) :: (3, .invokestatic 28, 82, 0) :: mt_Frames_sumOf_6),
  (10, [true, true, true, true, true], (2, .iload 4, 0, 0) :: (1, .iload_n 3, 0, 0) :: (3, .if_icmp .ge (27), 0, 0) :: (2, .bipush (31), 0, 31) :: (1, .iload_n 2, 0, 0) :: (1, .imul, 0, 0) :: (1, .aload_n 0, 0, 0) :: (3, .getfield 11, 5, 0) :: (1, .iload_n 1, 0, 0) :: (1, .aaload, 0, 0) :: (2, .iload 4, 0, 0) :: (1, .iaload, 0, 0) :: (1, .iadd, 0, 0) :: (2, .ldc 32, 0, 65521) :: (1, .irem, 0, 0) :: (1, .istore_n 2, 0, 0) :: (3, .iinc 4 (1), 0, 0) :: (3, .goto (-27), 0, 0) :: []),
  (40, [false, false, true, false, false], (1, .iload_n 2, 0, 0) :: (1, .ireturn, 0, 0) :: [])]
def mt_LatticefitLaw_setInput_6 : List ma_AI := (3, .ifCond .eq (7), 0, 0) :: (1, .iconst (1), 0, 1) :: (3, .goto (4), 0, 0) :: []
def mb_LatticefitLaw_setInput : ma_Tb := [(0, [true, true, true, false], (1, .aload_n 0, 0, 0) :: (1, .iload_n 1, 0, 0) :: (1, .iload_n 2, 0, 0) :: (3, .invokevirtual 86, 111, 10) :: mt_LatticefitLaw_setInput_6),
  (13, [false, false, false, false], (1, .iconst (0), 0, 0) :: []),
  (14, [false, false, false, false], (1, .ireturn, 0, 0) :: []),
  (15, [false, false, false, false], (1, .astore_n 3, 0, 0) :: (2, .ldc 17, 0, (-900001)) :: (1, .ireturn, 0, 0) :: []),
  (19, [false, false, false, false], (1, .astore_n 3, 0, 0) :: (2, .ldc 24, 0, (-900002)) :: (1, .ireturn, 0, 0) :: [])]
def mt_Latticefit_setInput_28 : List ma_AI := (1, .aload_n 0, 0, 0) :: (3, .getfield 76, 10, 8) :: (3, .getfield 295, 2, 1) :: (1, .iload_n 1, 0, 0) :: (1, .iaload, 0, 0) :: (3, .ifCond .eq (7), 0, 0) :: (1, .iconst (1), 0, 1) :: (3, .goto (4), 0, 0) :: []
def mb_Latticefit_setInput : ma_Tb := [(0, [true, true, true, false], (1, .iload_n 1, 0, 0) :: (3, .ifCond .lt (14), 0, 0) :: (1, .iload_n 1, 0, 0) :: (1, .aload_n 0, 0, 0) :: (3, .getfield 10, 10, 0) :: (3, .getfield 94, 3, 11) :: (3, .if_icmp .lt (11), 0, 0) :: []),
  (15, [false, false, false, false], (8, .athrow, 3, 3) :: []),
  (23, [true, true, true, false], (1, .aload_n 0, 0, 0) :: (1, .iconst (4), 0, 4) :: (3, .invokevirtual 207, 28, 10) :: mt_Latticefit_setInput_28),
  (44, [true, true, true, false], (1, .iconst (0), 0, 0) :: []),
  (45, [true, true, true, false], (1, .istore_n 3, 0, 0) :: (1, .aload_n 0, 0, 0) :: (3, .getfield 76, 10, 8) :: (3, .getfield 295, 2, 1) :: (1, .iload_n 1, 0, 0) :: (1, .iload_n 2, 0, 0) :: (3, .ifCond .eq (7), 0, 0) :: (1, .iconst (1), 0, 1) :: (3, .goto (4), 0, 0) :: []),
  (62, [false, false, false, true], (1, .iconst (0), 0, 0) :: []),
  (63, [false, false, false, true], (1, .iastore, 0, 0) :: (1, .iload_n 3, 0, 0) :: (1, .ireturn, 0, 0) :: [])]
def mt_LatticefitLaw_circuitOutput_5 : List ma_AI := (3, .ifCond .eq (7), 0, 0) :: (1, .iconst (1), 0, 1) :: (3, .goto (4), 0, 0) :: []
def mb_LatticefitLaw_circuitOutput : ma_Tb := [(0, [true, true, false], (1, .aload_n 0, 0, 0) :: (1, .iload_n 1, 0, 0) :: (3, .invokevirtual 90, 113, 10) :: mt_LatticefitLaw_circuitOutput_5),
  (12, [false, false, false], (1, .iconst (0), 0, 0) :: []),
  (13, [false, false, false], (1, .ireturn, 0, 0) :: []),
  (14, [false, false, false], (1, .astore_n 2, 0, 0) :: (2, .ldc 17, 0, (-900001)) :: (1, .ireturn, 0, 0) :: []),
  (18, [false, false, false], (1, .astore_n 2, 0, 0) :: (2, .ldc 24, 0, (-900002)) :: (1, .ireturn, 0, 0) :: [])]
def mt_Latticefit_circuitOutput_27 : List ma_AI := (3, .ifCond .eq (7), 0, 0) :: (1, .iconst (1), 0, 1) :: (3, .goto (4), 0, 0) :: []
def mt_Latticefit_circuitOutput_19 : List ma_AI := (1, .aload_n 0, 0, 0) :: (3, .getfield 83, 10, 9) :: (1, .iload_n 1, 0, 0) :: (3, .invokevirtual 314, 115, 8) :: mt_Latticefit_circuitOutput_27
def mt_Latticefit_circuitOutput_5 : List ma_AI := (1, .aload_n 0, 0, 0) :: (3, .getfield 83, 10, 9) :: (1, .aload_n 0, 0, 0) :: (3, .getfield 76, 10, 8) :: (3, .getfield 295, 2, 1) :: (3, .invokevirtual 310, 91, 8) :: mt_Latticefit_circuitOutput_19
def mb_Latticefit_circuitOutput : ma_Tb := [(0, [true, true], (1, .aload_n 0, 0, 0) :: (1, .iload_n 1, 0, 0) :: (3, .invokevirtual 307, 114, 10) :: mt_Latticefit_circuitOutput_5),
  (34, [false, false], (1, .iconst (0), 0, 0) :: []),
  (35, [false, false], (1, .ireturn, 0, 0) :: [])]
def mt_Latticefit_needOutput_28 : List ma_AI := (1, .return_, 0, 0) :: []
def mb_Latticefit_needOutput : ma_Tb := [(0, [true, true], (1, .iload_n 1, 0, 0) :: (3, .ifCond .lt (14), 0, 0) :: (1, .iload_n 1, 0, 0) :: (1, .aload_n 0, 0, 0) :: (3, .getfield 10, 10, 0) :: (3, .getfield 133, 3, 13) :: (3, .if_icmp .lt (11), 0, 0) :: []),
  (15, [false, false], (8, .athrow, 3, 3) :: []),
  (23, [true, false], (1, .aload_n 0, 0, 0) :: (1, .iconst (4), 0, 4) :: (3, .invokevirtual 207, 28, 10) :: mt_Latticefit_needOutput_28)]
def mb_Runner_outputValue : ma_Tb := [(0, [true, true], (1, .aload_n 0, 0, 0) :: (3, .getfield 15, 8, 1) :: (1, .aload_n 0, 0, 0) :: (3, .getfield 18, 8, 2) :: (3, .getfield 48, 3, 9) :: (1, .iload_n 1, 0, 0) :: (1, .iaload, 0, 0) :: (1, .iaload, 0, 0) :: (1, .ireturn, 0, 0) :: [])]
def mt_LatticefitLaw_chipOutput_5 : List ma_AI := (3, .ifCond .eq (7), 0, 0) :: (1, .iconst (1), 0, 1) :: (3, .goto (4), 0, 0) :: []
def mb_LatticefitLaw_chipOutput : ma_Tb := [(0, [true, true, false], (1, .aload_n 0, 0, 0) :: (1, .iload_n 1, 0, 0) :: (3, .invokevirtual 94, 117, 10) :: mt_LatticefitLaw_chipOutput_5),
  (12, [false, false, false], (1, .iconst (0), 0, 0) :: []),
  (13, [false, false, false], (1, .ireturn, 0, 0) :: []),
  (14, [false, false, false], (1, .astore_n 2, 0, 0) :: (2, .ldc 17, 0, (-900001)) :: (1, .ireturn, 0, 0) :: []),
  (18, [false, false, false], (1, .astore_n 2, 0, 0) :: (2, .ldc 24, 0, (-900002)) :: (1, .ireturn, 0, 0) :: [])]
def mt_Latticefit_chipOutput_20 : List ma_AI := (3, .ifCond .eq (7), 0, 0) :: (1, .iconst (1), 0, 1) :: (3, .goto (4), 0, 0) :: []
def mt_Latticefit_chipOutput_12 : List ma_AI := (1, .aload_n 0, 0, 0) :: (3, .getfield 76, 10, 8) :: (1, .iload_n 1, 0, 0) :: (3, .invokevirtual 320, 118, 2) :: mt_Latticefit_chipOutput_20
def mt_Latticefit_chipOutput_5 : List ma_AI := (1, .aload_n 0, 0, 0) :: (3, .getfield 76, 10, 8) :: (3, .invokevirtual 317, 93, 2) :: mt_Latticefit_chipOutput_12
def mb_Latticefit_chipOutput : ma_Tb := [(0, [true, true], (1, .aload_n 0, 0, 0) :: (1, .iload_n 1, 0, 0) :: (3, .invokevirtual 307, 114, 10) :: mt_Latticefit_chipOutput_5),
  (27, [false, false], (1, .iconst (0), 0, 0) :: []),
  (28, [false, false], (1, .ireturn, 0, 0) :: [])]
def mt_Chip_outputValue_27 : List ma_AI := (1, .ireturn, 0, 0) :: []
def mt_Chip_outputValue_20 : List ma_AI := (1, .aload_n 0, 0, 0) :: (3, .getfield 25, 2, 4) :: (3, .invokevirtual 69, 100, 2) :: mt_Chip_outputValue_27
def mb_Chip_outputValue : ma_Tb := [(0, [true, true], (1, .aload_n 0, 0, 0) :: (1, .aload_n 0, 0, 0) :: (3, .getfield 12, 2, 0) :: (1, .aload_n 0, 0, 0) :: (3, .getfield 12, 2, 0) :: (3, .getfield 73, 5, 0) :: (2, .bipush (13), 0, 13) :: (1, .aaload, 0, 0) :: (1, .iload_n 1, 0, 0) :: (1, .iaload, 0, 0) :: (3, .invokevirtual 59, 96, 5) :: mt_Chip_outputValue_20)]
def mt_LatticefitLaw_chipRegister_5 : List ma_AI := (3, .ifCond .eq (7), 0, 0) :: (1, .iconst (1), 0, 1) :: (3, .goto (4), 0, 0) :: []
def mb_LatticefitLaw_chipRegister : ma_Tb := [(0, [true, true, false], (1, .aload_n 0, 0, 0) :: (1, .iload_n 1, 0, 0) :: (3, .invokevirtual 97, 120, 10) :: mt_LatticefitLaw_chipRegister_5),
  (12, [false, false, false], (1, .iconst (0), 0, 0) :: []),
  (13, [false, false, false], (1, .ireturn, 0, 0) :: []),
  (14, [false, false, false], (1, .astore_n 2, 0, 0) :: (2, .ldc 17, 0, (-900001)) :: (1, .ireturn, 0, 0) :: []),
  (18, [false, false, false], (1, .astore_n 2, 0, 0) :: (2, .ldc 24, 0, (-900002)) :: (1, .ireturn, 0, 0) :: [])]
def mt_Latticefit_chipRegister_4 : List ma_AI := (3, .ifCond .ne (11), 0, 0) :: (8, .athrow, 3, 3) :: []
def mt_Latticefit_chipRegister_20 : List ma_AI := (1, .aload_n 0, 0, 0) :: (3, .getfield 76, 10, 8) :: (3, .getfield 288, 2, 2) :: (1, .iload_n 1, 0, 0) :: (1, .iaload, 0, 0) :: (3, .ifCond .eq (7), 0, 0) :: (1, .iconst (1), 0, 1) :: (3, .goto (4), 0, 0) :: []
def mb_Latticefit_chipRegister : ma_Tb := [(0, [true, true], (1, .iload_n 1, 0, 0) :: (3, .invokestatic 188, 103, 0) :: mt_Latticefit_chipRegister_4),
  (15, [true, true], (1, .aload_n 0, 0, 0) :: (1, .iconst (4), 0, 4) :: (3, .invokevirtual 207, 28, 10) :: mt_Latticefit_chipRegister_20),
  (36, [false, false], (1, .iconst (0), 0, 0) :: []),
  (37, [false, false], (1, .ireturn, 0, 0) :: [])]
def mt_LatticefitLaw_isBad_5 : List ma_AI := (3, .ifCond .eq (7), 0, 0) :: (1, .iconst (1), 0, 1) :: (3, .goto (4), 0, 0) :: []
def mb_LatticefitLaw_isBad : ma_Tb := [(0, [true, true, false], (1, .aload_n 0, 0, 0) :: (1, .iload_n 1, 0, 0) :: (3, .invokevirtual 100, 122, 10) :: mt_LatticefitLaw_isBad_5),
  (12, [false, false, false], (1, .iconst (0), 0, 0) :: []),
  (13, [false, false, false], (1, .ireturn, 0, 0) :: []),
  (14, [false, false, false], (1, .astore_n 2, 0, 0) :: (2, .ldc 17, 0, (-900001)) :: (1, .ireturn, 0, 0) :: []),
  (18, [false, false, false], (1, .astore_n 2, 0, 0) :: (2, .ldc 24, 0, (-900002)) :: (1, .ireturn, 0, 0) :: [])]
def mt_Latticefit_isBad_25 : List ma_AI := (3, .if_icmp .eq (7), 0, 0) :: (1, .iconst (1), 0, 1) :: (3, .goto (4), 0, 0) :: []
def mt_Latticefit_isBad_17 : List ma_AI := (1, .aload_n 0, 0, 0) :: (3, .getfield 60, 10, 6) :: (1, .iload_n 1, 0, 0) :: (3, .invokevirtual 276, 109, 5) :: mt_Latticefit_isBad_25
def mt_Latticefit_isBad_6 : List ma_AI := (1, .aload_n 0, 0, 0) :: (3, .getfield 76, 10, 8) :: (3, .getfield 321, 2, 0) :: (1, .iload_n 1, 0, 0) :: (3, .invokevirtual 276, 109, 5) :: mt_Latticefit_isBad_17
def mb_Latticefit_isBad : ma_Tb := [(0, [true, true], (1, .aload_n 0, 0, 0) :: (1, .iload_n 1, 0, 0) :: (1, .iconst (4), 0, 4) :: (3, .invokevirtual 269, 81, 10) :: mt_Latticefit_isBad_6),
  (32, [false, false], (1, .iconst (0), 0, 0) :: []),
  (33, [false, false], (1, .ireturn, 0, 0) :: [])]
def mt_LatticefitLaw_in_5 : List ma_AI := (2, .ldc 113, 0, 2147483647) :: (1, .iand, 0, 0) :: (1, .iload_n 2, 0, 0) :: (1, .irem, 0, 0) :: (1, .ireturn, 0, 0) :: []
def mb_LatticefitLaw_in : ma_Tb := [(0, [true, true, true], (1, .aload_n 0, 0, 0) :: (1, .iload_n 1, 0, 0) :: (3, .invokestatic 107, 124, 0) :: mt_LatticefitLaw_in_5)]
def mb_LatticefitLaw_cell : ma_Tb := [(0, [true, true, false], (2, .ldc 7, 0, 69069) :: (1, .iload_n 1, 0, 0) :: (1, .aload_n 0, 0, 0) :: (1, .arraylength, 0, 0) :: (3, .if_icmp .ge (9), 0, 0) :: (1, .aload_n 0, 0, 0) :: (1, .iload_n 1, 0, 0) :: (1, .iaload, 0, 0) :: (3, .goto (4), 0, 0) :: []),
  (14, [false, true, false], (1, .iconst (0), 0, 0) :: []),
  (15, [false, true, false], (3, .sipush (1009), 0, 1009) :: (1, .iload_n 1, 0, 0) :: (1, .imul, 1, 0) :: (1, .iadd, 1, 0) :: (1, .imul, 1, 0) :: (3, .sipush (12345), 0, 12345) :: (1, .iadd, 1, 0) :: (1, .istore_n 2, 0, 0) :: (1, .iload_n 2, 0, 0) :: (1, .iload_n 2, 0, 0) :: (2, .bipush (13), 0, 13) :: (1, .iushr, 0, 0) :: (1, .ixor, 0, 0) :: (2, .ldc 8, 0, 1103515245) :: (1, .imul, 1, 0) :: (1, .istore_n 2, 0, 0) :: (1, .iload_n 2, 0, 0) :: (1, .iload_n 2, 0, 0) :: (2, .bipush (16), 0, 16) :: (1, .iushr, 0, 0) :: (1, .ixor, 0, 0) :: (1, .ireturn, 0, 0) :: [])]
def mt_LatticefitLaw_isNode_10 : List ma_AI := (2, .istore 6, 0, 0) :: (1, .aload_n 1, 0, 0) :: (2, .iload 6, 0, 0) :: (1, .iload_n 2, 0, 0) :: (1, .iastore, 0, 0) :: (1, .aload_n 1, 0, 0) :: (2, .iload 6, 0, 0) :: (1, .iconst (1), 0, 1) :: (1, .iadd, 0, 0) :: (1, .iload_n 3, 0, 0) :: (1, .iastore, 0, 0) :: (1, .aload_n 1, 0, 0) :: (2, .iload 6, 0, 0) :: (1, .iconst (2), 0, 2) :: (1, .iadd, 0, 0) :: (1, .iload_n 2, 0, 0) :: (2, .bipush (110), 0, 110) :: (3, .if_icmp .ne (7), 0, 0) :: (1, .iload_n 3, 0, 0) :: (3, .goto (5), 0, 0) :: []
def mt_LatticefitLaw_isNode_84 : List ma_AI := (2, .iload 5, 0, 0) :: (3, .if_icmp .ne (7), 0, 0) :: (1, .iconst (1), 0, 1) :: (3, .goto (4), 0, 0) :: []
def mt_LatticefitLaw_isNode_147 : List ma_AI := (2, .iload 5, 0, 0) :: (3, .if_icmp .ne (7), 0, 0) :: (1, .iconst (1), 0, 1) :: (3, .goto (4), 0, 0) :: []
def mt_LatticefitLaw_isNode_167 : List ma_AI := (2, .iload 5, 0, 0) :: (3, .if_icmp .ne (7), 0, 0) :: (1, .iconst (1), 0, 1) :: (3, .goto (4), 0, 0) :: []
def mb_LatticefitLaw_isNode : ma_Tb := [(0, [true, true, true, true, true, false, false], (1, .aload_n 1, 0, 0) :: (1, .iconst (0), 0, 0) :: (1, .iaload, 0, 0) :: (2, .istore 5, 0, 0) :: (2, .iload 5, 0, 0) :: (3, .invokestatic 114, 127, 0) :: mt_LatticefitLaw_isNode_10),
  (39, [true, true, true, true, true, true, true], (2, .iload 4, 0, 0) :: []),
  (41, [true, true, true, true, true, true, true], (1, .iastore, 0, 0) :: (1, .aload_n 1, 0, 0) :: (2, .iload 6, 0, 0) :: (1, .iconst (5), 0, 5) :: (1, .iadd, 0, 0) :: (2, .iload 5, 0, 0) :: (1, .iastore, 0, 0) :: (1, .aload_n 1, 0, 0) :: (1, .iconst (0), 0, 0) :: (1, .dup2, 0, 0) :: (1, .iaload, 0, 0) :: (1, .iconst (1), 0, 1) :: (1, .iadd, 0, 0) :: (1, .iastore, 0, 0) :: (1, .iload_n 2, 0, 0) :: (2, .bipush (105), 0, 105) :: (3, .if_icmp .ne (35), 0, 0) :: (1, .aload_n 1, 0, 0) :: (2, .iload 6, 0, 0) :: (2, .bipush (7), 0, 7) :: (1, .iadd, 0, 0) :: (1, .aload_n 1, 0, 0) :: (1, .iconst (1), 0, 1) :: (1, .iaload, 0, 0) :: (1, .iastore, 0, 0) :: (1, .aload_n 1, 0, 0) :: (1, .iconst (1), 0, 1) :: (1, .dup2, 0, 0) :: (1, .iaload, 0, 0) :: (1, .iconst (1), 0, 1) :: (1, .iadd, 0, 0) :: (1, .iastore, 0, 0) :: (1, .aload_n 0, 0, 0) :: (3, .invokestatic 117, 128, 0) :: mt_LatticefitLaw_isNode_84),
  (93, [false, false, false, false, false, false, false], (1, .iconst (0), 0, 0) :: []),
  (94, [false, false, false, false, false, false, false], (1, .ireturn, 0, 0) :: []),
  (95, [true, true, true, true, true, true, true], (1, .iload_n 2, 0, 0) :: (2, .bipush (114), 0, 114) :: (3, .if_icmp .ne (60), 0, 0) :: (1, .aload_n 1, 0, 0) :: (2, .iload 6, 0, 0) :: (1, .iconst (3), 0, 3) :: (1, .iadd, 0, 0) :: (1, .iload_n 3, 0, 0) :: (1, .iconst (2), 0, 2) :: (1, .irem, 0, 0) :: (1, .iastore, 0, 0) :: (1, .aload_n 1, 0, 0) :: (2, .iload 6, 0, 0) :: (1, .iconst (4), 0, 4) :: (1, .iadd, 0, 0) :: (2, .iload 4, 0, 0) :: (1, .iconst (3), 0, 3) :: (1, .irem, 0, 0) :: (1, .iastore, 0, 0) :: (1, .aload_n 1, 0, 0) :: (1, .iconst (2), 0, 2) :: (1, .dup2, 0, 0) :: (1, .iaload, 0, 0) :: (1, .iconst (1), 0, 1) :: (1, .iadd, 0, 0) :: (1, .iastore, 0, 0) :: (1, .aload_n 0, 0, 0) :: (1, .iload_n 3, 0, 0) :: (1, .iconst (2), 0, 2) :: (1, .irem, 0, 0) :: (1, .iconst (1), 0, 1) :: (3, .if_icmp .ne (7), 0, 0) :: (1, .iconst (1), 0, 1) :: (3, .goto (4), 0, 0) :: []),
  (139, [false, false, false, false, true, true, false], (1, .iconst (0), 0, 0) :: []),
  (140, [false, false, false, false, true, true, false], (2, .iload 4, 0, 0) :: (1, .iconst (3), 0, 3) :: (1, .irem, 0, 0) :: (3, .invokestatic 120, 131, 0) :: mt_LatticefitLaw_isNode_147),
  (156, [false, false, false, false, false, false, false], (1, .iconst (0), 0, 0) :: []),
  (157, [false, false, false, false, false, false, false], (1, .ireturn, 0, 0) :: []),
  (158, [true, false, true, true, true, true, false], (1, .aload_n 0, 0, 0) :: (1, .iload_n 2, 0, 0) :: (1, .i2c, 0, 0) :: (1, .iload_n 3, 0, 0) :: (2, .iload 4, 0, 0) :: (3, .invokestatic 123, 134, 0) :: mt_LatticefitLaw_isNode_167),
  (176, [false, false, false, false, false, false, false], (1, .iconst (0), 0, 0) :: []),
  (177, [false, false, false, false, false, false, false], (1, .ireturn, 0, 0) :: [])]
def mb_LatticefitLaw_at : ma_Tb := [(0, [true], (2, .bipush (10), 0, 10) :: (2, .bipush (8), 0, 8) :: (1, .iload_n 0, 0, 0) :: (1, .imul, 0, 0) :: (1, .iadd, 0, 0) :: (1, .ireturn, 0, 0) :: [])]
def mt_LatticefitLaw_addInput_4 : List ma_AI := (1, .ireturn, 0, 0) :: []
def mb_LatticefitLaw_addInput : ma_Tb := [(0, [true, false], (1, .aload_n 0, 0, 0) :: (3, .invokevirtual 9, 129, 10) :: mt_LatticefitLaw_addInput_4),
  (5, [false, false], (1, .astore_n 1, 0, 0) :: (2, .ldc 17, 0, (-900001)) :: (1, .ireturn, 0, 0) :: [])]
def mt_Latticefit_addInput_44 : List ma_AI := (1, .ireturn, 0, 0) :: []
def mb_Latticefit_addInput : ma_Tb := [(0, [true], (1, .aload_n 0, 0, 0) :: (3, .getfield 10, 10, 0) :: (3, .getfield 91, 3, 10) :: (2, .bipush (48), 0, 48) :: (3, .if_icmp .ge (15), 0, 0) :: (1, .aload_n 0, 0, 0) :: (3, .getfield 10, 10, 0) :: (3, .getfield 94, 3, 11) :: (2, .bipush (6), 0, 6) :: (3, .if_icmp .lt (11), 0, 0) :: []),
  (24, [false], (8, .athrow, 0, 0) :: []),
  (32, [true], (1, .aload_n 0, 0, 0) :: (1, .iconst (0), 0, 0) :: (3, .putfield 87, 10, 10) :: (1, .aload_n 0, 0, 0) :: (3, .getfield 10, 10, 0) :: (3, .invokevirtual 100, 130, 3) :: mt_Latticefit_addInput_44)]
def mb_Circuit_putInput : ma_Tb := [(0, [true], (1, .aload_n 0, 0, 0) :: (3, .getfield 9, 3, 0) :: (1, .aload_n 0, 0, 0) :: (3, .getfield 43, 3, 10) :: (2, .bipush (105), 0, 105) :: (1, .castore, 0, 0) :: (1, .aload_n 0, 0, 0) :: (3, .getfield 31, 3, 6) :: (1, .aload_n 0, 0, 0) :: (3, .getfield 43, 3, 10) :: (1, .aload_n 0, 0, 0) :: (3, .getfield 47, 3, 11) :: (1, .iastore, 0, 0) :: (1, .aload_n 0, 0, 0) :: (3, .getfield 34, 3, 7) :: (1, .aload_n 0, 0, 0) :: (3, .getfield 47, 3, 11) :: (1, .aload_n 0, 0, 0) :: (3, .getfield 43, 3, 10) :: (1, .iastore, 0, 0) :: (1, .aload_n 0, 0, 0) :: (1, .dup, 0, 0) :: (3, .getfield 47, 3, 11) :: (1, .iconst (1), 0, 1) :: (1, .iadd, 0, 0) :: (3, .putfield 47, 3, 11) :: (1, .aload_n 0, 0, 0) :: (1, .dup, 0, 0) :: (3, .getfield 43, 3, 10) :: (1, .dup_x1, 0, 0) :: (1, .iconst (1), 0, 1) :: (1, .iadd, 0, 0) :: (3, .putfield 43, 3, 10) :: (1, .ireturn, 0, 0) :: [])]
def mt_LatticefitLaw_addRegister_6 : List ma_AI := (1, .ireturn, 0, 0) :: []
def mb_LatticefitLaw_addRegister : ma_Tb := [(0, [true, true, true, false], (1, .aload_n 0, 0, 0) :: (1, .iload_n 1, 0, 0) :: (1, .iload_n 2, 0, 0) :: (3, .invokevirtual 18, 132, 10) :: mt_LatticefitLaw_addRegister_6),
  (7, [false, false, false, false], (1, .astore_n 3, 0, 0) :: (2, .ldc 17, 0, (-900001)) :: (1, .ireturn, 0, 0) :: []),
  (11, [false, false, false, false], (1, .astore_n 3, 0, 0) :: (2, .ldc 24, 0, (-900002)) :: (1, .ireturn, 0, 0) :: [])]
def mt_Latticefit_addRegister_63 : List ma_AI := (1, .ireturn, 0, 0) :: []
def mb_Latticefit_addRegister : ma_Tb := [(0, [true, true, true], (1, .iload_n 2, 0, 0) :: (3, .ifCond .lt (8), 0, 0) :: (1, .iload_n 2, 0, 0) :: (1, .iconst (3), 0, 3) :: (3, .if_icmp .lt (11), 0, 0) :: []),
  (9, [false, false, false], (8, .athrow, 2, 2) :: []),
  (17, [true, true, true], (1, .aload_n 0, 0, 0) :: (3, .getfield 10, 10, 0) :: (3, .getfield 91, 3, 10) :: (2, .bipush (48), 0, 48) :: (3, .if_icmp .ge (15), 0, 0) :: (1, .aload_n 0, 0, 0) :: (3, .getfield 10, 10, 0) :: (3, .getfield 107, 3, 12) :: (2, .bipush (8), 0, 8) :: (3, .if_icmp .lt (11), 0, 0) :: []),
  (41, [false, false, false], (8, .athrow, 0, 0) :: []),
  (49, [true, true, true], (1, .aload_n 0, 0, 0) :: (1, .iconst (0), 0, 0) :: (3, .putfield 87, 10, 10) :: (1, .aload_n 0, 0, 0) :: (3, .getfield 10, 10, 0) :: (1, .iload_n 1, 0, 0) :: (1, .iload_n 2, 0, 0) :: (3, .invokevirtual 110, 133, 3) :: mt_Latticefit_addRegister_63)]
def mb_Circuit_putRegister : ma_Tb := [(0, [true, true, true], (1, .aload_n 0, 0, 0) :: (3, .getfield 9, 3, 0) :: (1, .aload_n 0, 0, 0) :: (3, .getfield 43, 3, 10) :: (2, .bipush (114), 0, 114) :: (1, .castore, 0, 0) :: (1, .aload_n 0, 0, 0) :: (3, .getfield 25, 3, 4) :: (1, .aload_n 0, 0, 0) :: (3, .getfield 43, 3, 10) :: (1, .iload_n 1, 0, 0) :: (3, .ifCond .eq (7), 0, 0) :: (1, .iconst (1), 0, 1) :: (3, .goto (4), 0, 0) :: []),
  (27, [true, false, true], (1, .iconst (0), 0, 0) :: []),
  (28, [true, false, true], (1, .iastore, 0, 0) :: (1, .aload_n 0, 0, 0) :: (3, .getfield 28, 3, 5) :: (1, .aload_n 0, 0, 0) :: (3, .getfield 43, 3, 10) :: (1, .iload_n 2, 0, 0) :: (1, .iastore, 0, 0) :: (1, .aload_n 0, 0, 0) :: (3, .getfield 22, 3, 3) :: (1, .aload_n 0, 0, 0) :: (3, .getfield 43, 3, 10) :: (1, .aload_n 0, 0, 0) :: (3, .getfield 43, 3, 10) :: (1, .iastore, 0, 0) :: (1, .aload_n 0, 0, 0) :: (3, .getfield 37, 3, 8) :: (1, .aload_n 0, 0, 0) :: (3, .getfield 50, 3, 12) :: (1, .aload_n 0, 0, 0) :: (3, .getfield 43, 3, 10) :: (1, .iastore, 0, 0) :: (1, .aload_n 0, 0, 0) :: (1, .dup, 0, 0) :: (3, .getfield 50, 3, 12) :: (1, .iconst (1), 0, 1) :: (1, .iadd, 0, 0) :: (3, .putfield 50, 3, 12) :: (1, .aload_n 0, 0, 0) :: (1, .dup, 0, 0) :: (3, .getfield 43, 3, 10) :: (1, .dup_x1, 0, 0) :: (1, .iconst (1), 0, 1) :: (1, .iadd, 0, 0) :: (3, .putfield 43, 3, 10) :: (1, .ireturn, 0, 0) :: [])]
def mt_LatticefitLaw_addGate_7 : List ma_AI := (1, .ireturn, 0, 0) :: []
def mb_LatticefitLaw_addGate : ma_Tb := [(0, [true, true, true, true, false], (1, .aload_n 0, 0, 0) :: (1, .iload_n 1, 0, 0) :: (1, .iload_n 2, 0, 0) :: (1, .iload_n 3, 0, 0) :: (3, .invokevirtual 25, 135, 10) :: mt_LatticefitLaw_addGate_7),
  (8, [false, false, false, false, false], (2, .astore 4, 0, 0) :: (2, .ldc 17, 0, (-900001)) :: (1, .ireturn, 0, 0) :: []),
  (13, [false, false, false, false, false], (2, .astore 4, 0, 0) :: (2, .ldc 24, 0, (-900002)) :: (1, .ireturn, 0, 0) :: []),
  (18, [false, false, false, false, false], (2, .astore 4, 0, 0) :: (2, .ldc 31, 0, (-900003)) :: (1, .ireturn, 0, 0) :: [])]
def mt_Latticefit_addGate_57 : List ma_AI := (3, .ifCond .ne (11), 0, 0) :: []
def mt_Latticefit_addGate_40 : List ma_AI := (3, .ifCond .eq (20), 0, 0) :: (1, .iload_n 1, 0, 0) :: (2, .bipush (110), 0, 110) :: (3, .if_icmp .eq (22), 0, 0) :: (1, .aload_n 0, 0, 0) :: (3, .getfield 10, 10, 0) :: (1, .iload_n 3, 0, 0) :: (3, .invokevirtual 114, 4, 3) :: mt_Latticefit_addGate_57
def mt_Latticefit_addGate_113 : List ma_AI := (1, .ireturn, 0, 0) :: []
def mb_Latticefit_addGate : ma_Tb := [(0, [true, true, true, true], (1, .iload_n 1, 0, 0) :: (2, .bipush (97), 0, 97) :: (3, .if_icmp .eq (29), 0, 0) :: (1, .iload_n 1, 0, 0) :: (2, .bipush (111), 0, 111) :: (3, .if_icmp .eq (23), 0, 0) :: (1, .iload_n 1, 0, 0) :: (2, .bipush (120), 0, 120) :: (3, .if_icmp .eq (17), 0, 0) :: (1, .iload_n 1, 0, 0) :: (2, .bipush (110), 0, 110) :: (3, .if_icmp .eq (11), 0, 0) :: (8, .athrow, 2, 2) :: []),
  (32, [true, true, true, true], (1, .aload_n 0, 0, 0) :: (3, .getfield 10, 10, 0) :: (1, .iload_n 2, 0, 0) :: (3, .invokevirtual 114, 4, 3) :: mt_Latticefit_addGate_40),
  (60, [false, false, false, false], (8, .athrow, 3, 3) :: []),
  (68, [true, true, true, true], (1, .aload_n 0, 0, 0) :: (3, .getfield 10, 10, 0) :: (3, .getfield 91, 3, 10) :: (2, .bipush (48), 0, 48) :: (3, .if_icmp .lt (11), 0, 0) :: (8, .athrow, 0, 0) :: []),
  (88, [true, true, true, true], (1, .aload_n 0, 0, 0) :: (1, .iconst (0), 0, 0) :: (3, .putfield 87, 10, 10) :: (1, .aload_n 0, 0, 0) :: (3, .getfield 10, 10, 0) :: (1, .iload_n 1, 0, 0) :: (1, .iload_n 2, 0, 0) :: (1, .iload_n 1, 0, 0) :: (2, .bipush (110), 0, 110) :: (3, .if_icmp .ne (7), 0, 0) :: (1, .iload_n 2, 0, 0) :: (3, .goto (4), 0, 0) :: []),
  (109, [false, false, false, true], (1, .iload_n 3, 0, 0) :: []),
  (110, [false, false, false, false], (3, .invokevirtual 121, 136, 3) :: mt_Latticefit_addGate_113)]
def mb_Circuit_putGate : ma_Tb := [(0, [true, true, true, true], (1, .aload_n 0, 0, 0) :: (3, .getfield 9, 3, 0) :: (1, .aload_n 0, 0, 0) :: (3, .getfield 43, 3, 10) :: (1, .iload_n 1, 0, 0) :: (1, .castore, 0, 0) :: (1, .aload_n 0, 0, 0) :: (3, .getfield 15, 3, 1) :: (1, .aload_n 0, 0, 0) :: (3, .getfield 43, 3, 10) :: (1, .iload_n 2, 0, 0) :: (1, .iastore, 0, 0) :: (1, .aload_n 0, 0, 0) :: (3, .getfield 19, 3, 2) :: (1, .aload_n 0, 0, 0) :: (3, .getfield 43, 3, 10) :: (1, .iload_n 3, 0, 0) :: (1, .iastore, 0, 0) :: (1, .aload_n 0, 0, 0) :: (1, .dup, 0, 0) :: (3, .getfield 43, 3, 10) :: (1, .dup_x1, 0, 0) :: (1, .iconst (1), 0, 1) :: (1, .iadd, 0, 0) :: (3, .putfield 43, 3, 10) :: (1, .ireturn, 0, 0) :: [])]
def mt_LatticefitLaw_feed_6 : List ma_AI := (1, .ireturn, 0, 0) :: []
def mb_LatticefitLaw_feed : ma_Tb := [(0, [true, true, true, false], (1, .aload_n 0, 0, 0) :: (1, .iload_n 1, 0, 0) :: (1, .iload_n 2, 0, 0) :: (3, .invokevirtual 32, 138, 10) :: mt_LatticefitLaw_feed_6),
  (7, [false, false, false, false], (1, .astore_n 3, 0, 0) :: (2, .ldc 17, 0, (-900001)) :: (1, .ireturn, 0, 0) :: []),
  (11, [false, false, false, false], (1, .astore_n 3, 0, 0) :: (2, .ldc 24, 0, (-900002)) :: (1, .ireturn, 0, 0) :: [])]
def mt_Latticefit_feed_19 : List ma_AI := (3, .ifCond .ne (11), 0, 0) :: []
def mt_Latticefit_feed_8 : List ma_AI := (3, .ifCond .eq (14), 0, 0) :: (1, .aload_n 0, 0, 0) :: (3, .getfield 10, 10, 0) :: (1, .iload_n 2, 0, 0) :: (3, .invokevirtual 114, 4, 3) :: mt_Latticefit_feed_19
def mb_Latticefit_feed : ma_Tb := [(0, [true, true, true, false], (1, .aload_n 0, 0, 0) :: (3, .getfield 10, 10, 0) :: (1, .iload_n 1, 0, 0) :: (3, .invokevirtual 114, 4, 3) :: mt_Latticefit_feed_8),
  (22, [false, false, false, false], (8, .athrow, 3, 3) :: []),
  (30, [true, true, true, false], (1, .aload_n 0, 0, 0) :: (3, .getfield 10, 10, 0) :: (3, .getfield 125, 3, 0) :: (1, .iload_n 1, 0, 0) :: (1, .caload, 0, 0) :: (2, .bipush (114), 0, 114) :: (3, .if_icmp .eq (11), 0, 0) :: (8, .athrow, 0, 0) :: []),
  (52, [true, true, true, false], (1, .aload_n 0, 0, 0) :: (1, .iconst (0), 0, 0) :: (3, .putfield 87, 10, 10) :: (1, .aload_n 0, 0, 0) :: (3, .getfield 10, 10, 0) :: (3, .getfield 129, 3, 3) :: (1, .iload_n 1, 0, 0) :: (1, .iaload, 0, 0) :: (1, .istore_n 3, 0, 0) :: (1, .aload_n 0, 0, 0) :: (3, .getfield 10, 10, 0) :: (3, .getfield 129, 3, 3) :: (1, .iload_n 1, 0, 0) :: (1, .iload_n 2, 0, 0) :: (1, .iastore, 0, 0) :: (1, .iload_n 3, 0, 0) :: (1, .ireturn, 0, 0) :: [])]
def mt_LatticefitLaw_addOutput_5 : List ma_AI := (1, .ireturn, 0, 0) :: []
def mb_LatticefitLaw_addOutput : ma_Tb := [(0, [true, true, false], (1, .aload_n 0, 0, 0) :: (1, .iload_n 1, 0, 0) :: (3, .invokevirtual 36, 140, 10) :: mt_LatticefitLaw_addOutput_5),
  (6, [false, false, false], (1, .astore_n 2, 0, 0) :: (2, .ldc 17, 0, (-900001)) :: (1, .ireturn, 0, 0) :: []),
  (10, [false, false, false], (1, .astore_n 2, 0, 0) :: (2, .ldc 24, 0, (-900002)) :: (1, .ireturn, 0, 0) :: [])]
def mt_Latticefit_addOutput_8 : List ma_AI := (3, .ifCond .ne (11), 0, 0) :: (8, .athrow, 3, 3) :: []
def mt_Latticefit_addOutput_52 : List ma_AI := (1, .ireturn, 0, 0) :: []
def mb_Latticefit_addOutput : ma_Tb := [(0, [true, true], (1, .aload_n 0, 0, 0) :: (3, .getfield 10, 10, 0) :: (1, .iload_n 1, 0, 0) :: (3, .invokevirtual 114, 4, 3) :: mt_Latticefit_addOutput_8),
  (19, [true, true], (1, .aload_n 0, 0, 0) :: (3, .getfield 10, 10, 0) :: (3, .getfield 133, 3, 13) :: (2, .bipush (6), 0, 6) :: (3, .if_icmp .lt (11), 0, 0) :: (8, .athrow, 0, 0) :: []),
  (39, [true, true], (1, .aload_n 0, 0, 0) :: (1, .iconst (0), 0, 0) :: (3, .putfield 87, 10, 10) :: (1, .aload_n 0, 0, 0) :: (3, .getfield 10, 10, 0) :: (1, .iload_n 1, 0, 0) :: (3, .invokevirtual 136, 141, 3) :: mt_Latticefit_addOutput_52)]
def mb_Circuit_putOutput : ma_Tb := [(0, [true, true], (1, .aload_n 0, 0, 0) :: (3, .getfield 40, 3, 9) :: (1, .aload_n 0, 0, 0) :: (3, .getfield 53, 3, 13) :: (1, .iload_n 1, 0, 0) :: (1, .iastore, 0, 0) :: (1, .aload_n 0, 0, 0) :: (1, .dup, 0, 0) :: (3, .getfield 53, 3, 13) :: (1, .dup_x1, 0, 0) :: (1, .iconst (1), 0, 1) :: (1, .iadd, 0, 0) :: (3, .putfield 53, 3, 13) :: (1, .ireturn, 0, 0) :: [])]
def mb_LatticefitLaw_of : ma_Tb := [(0, [true, true, true], (1, .iload_n 0, 0, 0) :: (2, .bipush (97), 0, 97) :: (3, .if_icmp .ne (9), 0, 0) :: (1, .iload_n 1, 0, 0) :: (1, .iload_n 2, 0, 0) :: (1, .iand, 0, 0) :: (3, .goto (30), 0, 0) :: []),
  (12, [true, true, true], (1, .iload_n 0, 0, 0) :: (2, .bipush (111), 0, 111) :: (3, .if_icmp .ne (9), 0, 0) :: (1, .iload_n 1, 0, 0) :: (1, .iload_n 2, 0, 0) :: (1, .ior, 0, 0) :: (3, .goto (18), 0, 0) :: []),
  (24, [true, true, true], (1, .iload_n 0, 0, 0) :: (2, .bipush (120), 0, 120) :: (3, .if_icmp .ne (9), 0, 0) :: (1, .iload_n 1, 0, 0) :: (1, .iload_n 2, 0, 0) :: (1, .ixor, 0, 0) :: (3, .goto (6), 0, 0) :: []),
  (36, [false, true, false], (1, .iconst (1), 0, 1) :: (1, .iload_n 1, 0, 0) :: (1, .isub, 0, 0) :: []),
  (39, [false, false, false], (1, .ireturn, 0, 0) :: [])]
def mt_LatticefitLaw_agrees_4 : List ma_AI := (3, .ifCond .eq (7), 0, 0) :: (1, .iconst (1), 0, 1) :: (3, .goto (4), 0, 0) :: []
def mb_LatticefitLaw_agrees : ma_Tb := [(0, [true, false], (1, .aload_n 0, 0, 0) :: (3, .invokevirtual 103, 146, 10) :: mt_LatticefitLaw_agrees_4),
  (11, [false, false], (1, .iconst (0), 0, 0) :: []),
  (12, [false, false], (1, .ireturn, 0, 0) :: []),
  (13, [false, false], (1, .astore_n 1, 0, 0) :: (2, .ldc 17, 0, (-900001)) :: (1, .ireturn, 0, 0) :: [])]
def mt_Latticefit_agrees_26 : List ma_AI := (1, .iconst (0), 0, 0) :: (1, .istore_n 1, 0, 0) :: []
def mt_Latticefit_agrees_19 : List ma_AI := (1, .aload_n 0, 0, 0) :: (3, .getfield 76, 10, 8) :: (3, .invokevirtual 317, 93, 2) :: mt_Latticefit_agrees_26
def mt_Latticefit_agrees_5 : List ma_AI := (1, .aload_n 0, 0, 0) :: (3, .getfield 83, 10, 9) :: (1, .aload_n 0, 0, 0) :: (3, .getfield 76, 10, 8) :: (3, .getfield 295, 2, 1) :: (3, .invokevirtual 310, 91, 8) :: mt_Latticefit_agrees_19
def mt_Latticefit_agrees_55 : List ma_AI := (3, .if_icmp .eq (5), 0, 0) :: (1, .iconst (0), 0, 0) :: (1, .ireturn, 0, 0) :: []
def mt_Latticefit_agrees_47 : List ma_AI := (1, .aload_n 0, 0, 0) :: (3, .getfield 76, 10, 8) :: (1, .iload_n 1, 0, 0) :: (3, .invokevirtual 320, 118, 2) :: mt_Latticefit_agrees_55
def mt_Latticefit_agrees_113 : List ma_AI := (1, .iaload, 0, 0) :: (3, .if_icmp .eq (5), 0, 0) :: (1, .iconst (0), 0, 0) :: (1, .ireturn, 0, 0) :: []
def mb_Latticefit_agrees : ma_Tb := [(0, [true, false, false], (1, .aload_n 0, 0, 0) :: (1, .iconst (4), 0, 4) :: (3, .invokevirtual 207, 28, 10) :: mt_Latticefit_agrees_5),
  (28, [true, true, false], (1, .iload_n 1, 0, 0) :: (1, .aload_n 0, 0, 0) :: (3, .getfield 10, 10, 0) :: (3, .getfield 133, 3, 13) :: (3, .if_icmp .ge (30), 0, 0) :: (1, .aload_n 0, 0, 0) :: (3, .getfield 83, 10, 9) :: (1, .iload_n 1, 0, 0) :: (3, .invokevirtual 314, 115, 8) :: mt_Latticefit_agrees_47),
  (60, [true, true, false], (3, .iinc 1 (1), 0, 0) :: (3, .goto (-35), 0, 0) :: []),
  (66, [true, false, false], (1, .iconst (0), 0, 0) :: (1, .istore_n 1, 0, 0) :: []),
  (68, [true, true, false], (1, .iload_n 1, 0, 0) :: (1, .aload_n 0, 0, 0) :: (3, .getfield 10, 10, 0) :: (3, .getfield 107, 3, 12) :: (3, .if_icmp .ge (49), 0, 0) :: (1, .aload_n 0, 0, 0) :: (3, .getfield 10, 10, 0) :: (3, .getfield 285, 3, 8) :: (1, .iload_n 1, 0, 0) :: (1, .iaload, 0, 0) :: (1, .istore_n 2, 0, 0) :: (1, .aload_n 0, 0, 0) :: (3, .getfield 83, 10, 9) :: (3, .getfield 337, 8, 0) :: (1, .iload_n 2, 0, 0) :: (1, .iaload, 0, 0) :: (1, .aload_n 0, 0, 0) :: (3, .getfield 76, 10, 8) :: (3, .getfield 288, 2, 2) :: (1, .aload_n 0, 0, 0) :: (3, .getfield 37, 10, 3) :: (1, .iload_n 2, 0, 0) :: (3, .invokevirtual 289, 36, 6) :: mt_Latticefit_agrees_113),
  (119, [true, true, false], (3, .iinc 1 (1), 0, 0) :: (3, .goto (-54), 0, 0) :: []),
  (125, [false, false, false], (1, .iconst (1), 0, 1) :: (1, .ireturn, 0, 0) :: [])]
def mt_LatticefitLaw_begins_22 : List ma_AI := (1, .iconst (3), 0, 3) :: (1, .iadd, 0, 0) :: (1, .iaload, 0, 0) :: (1, .iastore, 0, 0) :: (3, .iinc 1 (1), 0, 0) :: (3, .goto (-27), 0, 0) :: []
def mt_LatticefitLaw_begins_14 : List ma_AI := (2, .bipush (6), 0, 6) :: (1, .iadd, 0, 0) :: (1, .aload_n 0, 0, 0) :: (1, .iload_n 1, 0, 0) :: (3, .invokestatic 114, 127, 0) :: mt_LatticefitLaw_begins_22
def mb_LatticefitLaw_begins : ma_Tb := [(0, [true, false], (1, .iconst (0), 0, 0) :: (1, .istore_n 1, 0, 0) :: []),
  (2, [true, true], (1, .iload_n 1, 0, 0) :: (1, .aload_n 0, 0, 0) :: (1, .iconst (0), 0, 0) :: (1, .iaload, 0, 0) :: (3, .if_icmp .ge (26), 0, 0) :: (1, .aload_n 0, 0, 0) :: (1, .iload_n 1, 0, 0) :: (3, .invokestatic 114, 127, 0) :: mt_LatticefitLaw_begins_14),
  (32, [true, false], (1, .iconst (0), 0, 0) :: (1, .istore_n 1, 0, 0) :: []),
  (34, [true, true], (1, .iload_n 1, 0, 0) :: (2, .bipush (6), 0, 6) :: (3, .if_icmp .ge (17), 0, 0) :: (1, .aload_n 0, 0, 0) :: (3, .sipush (410), 0, 410) :: (1, .iload_n 1, 0, 0) :: (1, .iadd, 0, 0) :: (1, .iconst (0), 0, 0) :: (1, .iastore, 0, 0) :: (3, .iinc 1 (1), 0, 0) :: (3, .goto (-17), 0, 0) :: []),
  (54, [false, false], (1, .return_, 0, 0) :: [])]
def mt_LatticefitLaw_areSources_37 : List ma_AI := (3, .goto (5), 0, 0) :: []
def mt_LatticefitLaw_areSources_33 : List ma_AI := (1, .iload_n 3, 0, 0) :: (3, .invokestatic 158, 101, 0) :: mt_LatticefitLaw_areSources_37
def mt_LatticefitLaw_areSources_20 : List ma_AI := (2, .istore 4, 0, 0) :: (1, .iload_n 3, 0, 0) :: (1, .iconst (4), 0, 4) :: (3, .if_icmp .ge (16), 0, 0) :: (1, .aload_n 0, 0, 0) :: (1, .aload_n 0, 0, 0) :: (1, .iload_n 2, 0, 0) :: (3, .invokestatic 156, 153, 0) :: mt_LatticefitLaw_areSources_33
def mb_LatticefitLaw_areSources : ma_Tb := [(0, [true, true, false, false, false, false], (1, .iconst (0), 0, 0) :: (1, .istore_n 2, 0, 0) :: []),
  (2, [true, true, true, false, false, false], (1, .iload_n 2, 0, 0) :: (1, .iload_n 1, 0, 0) :: (3, .if_icmp .ge (80), 0, 0) :: (1, .iconst (0), 0, 0) :: (1, .istore_n 3, 0, 0) :: []),
  (9, [true, true, true, true, false, false], (1, .iload_n 3, 0, 0) :: (1, .iconst (5), 0, 5) :: (3, .if_icmp .ge (67), 0, 0) :: (1, .aload_n 0, 0, 0) :: (1, .iload_n 2, 0, 0) :: (1, .iload_n 3, 0, 0) :: (3, .invokestatic 154, 150, 0) :: mt_LatticefitLaw_areSources_20),
  (40, [true, true, true, true, true, false], (2, .ldc 17, 0, (-900001)) :: []),
  (42, [true, true, true, true, true, false], (2, .istore 5, 0, 0) :: (1, .iload_n 3, 0, 0) :: (1, .iconst (4), 0, 4) :: (3, .if_icmp .ge (26), 0, 0) :: (2, .iload 5, 0, 0) :: (2, .iload 4, 0, 0) :: (3, .if_icmp .eq (19), 0, 0) :: (2, .iload 4, 0, 0) :: (2, .ldc 31, 0, (-900003)) :: (3, .if_icmp .ne (10), 0, 0) :: (2, .iload 5, 0, 0) :: (2, .ldc 31, 0, (-900003)) :: (3, .if_icmp .eq (5), 0, 0) :: []),
  (70, [false, false, false, false, false, false], (1, .iconst (0), 0, 0) :: (1, .ireturn, 0, 0) :: []),
  (72, [true, true, true, true, false, false], (3, .iinc 3 (1), 0, 0) :: (3, .goto (-66), 0, 0) :: []),
  (78, [true, true, true, false, false, false], (3, .iinc 2 (1), 0, 0) :: (3, .goto (-79), 0, 0) :: []),
  (84, [false, false, false, false, false, false], (1, .iconst (1), 0, 1) :: (1, .ireturn, 0, 0) :: [])]
def mt_LatticefitLaw_inputOf_6 : List ma_AI := (1, .ireturn, 0, 0) :: []
def mb_LatticefitLaw_inputOf : ma_Tb := [(0, [true, true, true, false], (1, .aload_n 0, 0, 0) :: (1, .iload_n 1, 0, 0) :: (1, .iload_n 2, 0, 0) :: (3, .invokevirtual 45, 151, 10) :: mt_LatticefitLaw_inputOf_6),
  (7, [false, false, false, false], (1, .astore_n 3, 0, 0) :: (2, .ldc 17, 0, (-900001)) :: (1, .ireturn, 0, 0) :: []),
  (11, [false, false, false, false], (1, .astore_n 3, 0, 0) :: (2, .ldc 24, 0, (-900002)) :: (1, .ireturn, 0, 0) :: []),
  (15, [false, false, false, false], (1, .astore_n 3, 0, 0) :: (2, .ldc 31, 0, (-900003)) :: (1, .ireturn, 0, 0) :: [])]
def mt_Latticefit_inputOf_5 : List ma_AI := (1, .iload_n 2, 0, 0) :: (3, .ifCond .lt (16), 0, 0) :: (1, .iload_n 2, 0, 0) :: (1, .aload_n 0, 0, 0) :: (3, .getfield 28, 10, 2) :: (3, .getfield 173, 0, 3) :: (1, .iload_n 1, 0, 0) :: (1, .iaload, 0, 0) :: (3, .if_icmp .lt (11), 0, 0) :: []
def mb_Latticefit_inputOf : ma_Tb := [(0, [true, true, true], (1, .aload_n 0, 0, 0) :: (1, .iload_n 1, 0, 0) :: (3, .invokevirtual 166, 152, 10) :: mt_Latticefit_inputOf_5),
  (22, [false, false, false], (8, .athrow, 4, 4) :: []),
  (30, [true, true, true], (1, .aload_n 0, 0, 0) :: (3, .getfield 28, 10, 2) :: (3, .getfield 178, 0, 4) :: (1, .iload_n 1, 0, 0) :: (1, .aaload, 0, 0) :: (1, .iload_n 2, 0, 0) :: (1, .iaload, 0, 0) :: (1, .ireturn, 0, 0) :: [])]
def mb_Latticefit_needBlock : ma_Tb := [(0, [true, true], (1, .aload_n 0, 0, 0) :: (3, .getfield 87, 10, 10) :: (1, .iconst (1), 0, 1) :: (3, .if_icmp .ge (11), 0, 0) :: (8, .athrow, 0, 0) :: []),
  (16, [true, true], (1, .iload_n 1, 0, 0) :: (3, .ifCond .lt (14), 0, 0) :: (1, .iload_n 1, 0, 0) :: (1, .aload_n 0, 0, 0) :: (3, .getfield 28, 10, 2) :: (3, .getfield 147, 0, 7) :: (3, .if_icmp .lt (11), 0, 0) :: []),
  (31, [false, false], (8, .athrow, 3, 3) :: []),
  (39, [false, false], (1, .return_, 0, 0) :: [])]
def mt_LatticefitLaw_cellOf_5 : List ma_AI := (1, .ireturn, 0, 0) :: []
def mb_LatticefitLaw_cellOf : ma_Tb := [(0, [true, true, false], (1, .aload_n 0, 0, 0) :: (1, .iload_n 1, 0, 0) :: (3, .invokevirtual 54, 154, 10) :: mt_LatticefitLaw_cellOf_5),
  (6, [false, false, false], (1, .astore_n 2, 0, 0) :: (2, .ldc 17, 0, (-900001)) :: (1, .ireturn, 0, 0) :: []),
  (10, [false, false, false], (1, .astore_n 2, 0, 0) :: (2, .ldc 24, 0, (-900002)) :: (1, .ireturn, 0, 0) :: [])]
def mt_Latticefit_cellOf_5 : List ma_AI := (1, .aload_n 0, 0, 0) :: (3, .getfield 37, 10, 3) :: (3, .getfield 197, 6, 0) :: (1, .iload_n 1, 0, 0) :: (1, .iaload, 0, 0) :: (1, .ireturn, 0, 0) :: []
def mb_Latticefit_cellOf : ma_Tb := [(0, [true, true], (1, .aload_n 0, 0, 0) :: (1, .iload_n 1, 0, 0) :: (3, .invokevirtual 166, 152, 10) :: mt_Latticefit_cellOf_5)]
def mt_LatticefitLaw_begun_17 : List ma_AI := (1, .iadd, 0, 0) :: (2, .istore 4, 0, 0) :: []
def mt_LatticefitLaw_begun_35 : List ma_AI := (1, .iand, 0, 0) :: (1, .istore_n 3, 0, 0) :: (3, .iinc 4 (-1), 0, 0) :: (3, .goto (-20), 0, 0) :: []
def mt_LatticefitLaw_begun_49 : List ma_AI := (2, .istore 4, 0, 0) :: []
def mt_LatticefitLaw_begun_84 : List ma_AI := (1, .iand, 0, 0) :: (1, .istore_n 3, 0, 0) :: (3, .iinc 4 (-1), 0, 0) :: (3, .goto (-38), 0, 0) :: []
def mt_LatticefitLaw_begun_81 : List ma_AI := (3, .invokestatic 131, 126, 0) :: mt_LatticefitLaw_begun_84
def mt_LatticefitLaw_begun_70 : List ma_AI := (1, .aload_n 0, 0, 0) :: (1, .iconst (2), 0, 2) :: (2, .iload 4, 0, 0) :: (1, .imul, 0, 0) :: (1, .iconst (1), 0, 1) :: (1, .iadd, 0, 0) :: (1, .iconst (3), 0, 3) :: (3, .invokestatic 127, 123, 0) :: mt_LatticefitLaw_begun_81
def mt_LatticefitLaw_begun_100 : List ma_AI := (1, .iadd, 0, 0) :: (2, .istore 4, 0, 0) :: []
def mt_LatticefitLaw_begun_121 : List ma_AI := (2, .istore 5, 0, 0) :: (1, .aload_n 1, 0, 0) :: (1, .iconst (0), 0, 0) :: (1, .iaload, 0, 0) :: (2, .bipush (6), 0, 6) :: (3, .if_icmp .ge (9), 0, 0) :: (1, .aload_n 1, 0, 0) :: (1, .iconst (0), 0, 0) :: (1, .iaload, 0, 0) :: (3, .goto (5), 0, 0) :: []
def mt_LatticefitLaw_begun_174 : List ma_AI := (1, .isub, 0, 0) :: (3, .goto (17), 0, 0) :: []
def mt_LatticefitLaw_begun_153 : List ma_AI := (3, .ifCond .ne (25), 0, 0) :: (1, .aload_n 1, 0, 0) :: (1, .iconst (0), 0, 0) :: (1, .iaload, 0, 0) :: (1, .iconst (1), 0, 1) :: (1, .isub, 0, 0) :: (1, .aload_n 0, 0, 0) :: (2, .bipush (23), 0, 23) :: (1, .iconst (3), 0, 3) :: (2, .iload 4, 0, 0) :: (1, .imul, 0, 0) :: (1, .iadd, 0, 0) :: (2, .iload 6, 0, 0) :: (3, .invokestatic 127, 123, 0) :: mt_LatticefitLaw_begun_174
def mt_LatticefitLaw_begun_252 : List ma_AI := (1, .iand, 0, 0) :: (1, .istore_n 3, 0, 0) :: (3, .iinc 4 (-1), 0, 0) :: (3, .goto (-154), 0, 0) :: []
def mt_LatticefitLaw_begun_249 : List ma_AI := (3, .invokestatic 131, 126, 0) :: mt_LatticefitLaw_begun_252
def mt_LatticefitLaw_begun_312 : List ma_AI := (1, .iconst (5), 0, 5) :: (1, .iadd, 0, 0) :: (1, .iaload, 0, 0) :: (3, .if_icmp .ne (7), 0, 0) :: (1, .iconst (1), 0, 1) :: (3, .goto (4), 0, 0) :: []
def mt_LatticefitLaw_begun_306 : List ma_AI := (1, .aload_n 1, 0, 0) :: (2, .iload 4, 0, 0) :: (3, .invokestatic 114, 127, 0) :: mt_LatticefitLaw_begun_312
def mt_LatticefitLaw_begun_295 : List ma_AI := (2, .istore 5, 0, 0) :: (1, .iload_n 3, 0, 0) :: (1, .aload_n 2, 0, 0) :: (2, .iload 4, 0, 0) :: (2, .iload 5, 0, 0) :: (3, .invokestatic 135, 137, 0) :: mt_LatticefitLaw_begun_306
def mt_LatticefitLaw_begun_277 : List ma_AI := (1, .iaload, 0, 0) :: (2, .bipush (114), 0, 114) :: (3, .if_icmp .ne (56), 0, 0) :: (1, .aload_n 0, 0, 0) :: (2, .bipush (90), 0, 90) :: (2, .iload 4, 0, 0) :: (1, .iadd, 0, 0) :: (1, .aload_n 1, 0, 0) :: (1, .iconst (0), 0, 0) :: (1, .iaload, 0, 0) :: (3, .invokestatic 127, 123, 0) :: mt_LatticefitLaw_begun_295
def mt_LatticefitLaw_begun_331 : List ma_AI := (1, .iconst (5), 0, 5) :: (1, .iadd, 0, 0) :: (2, .iload 5, 0, 0) :: (1, .iastore, 0, 0) :: []
def mt_LatticefitLaw_begun_349 : List ma_AI := (1, .iadd, 0, 0) :: (2, .istore 4, 0, 0) :: []
def mt_LatticefitLaw_begun_371 : List ma_AI := (3, .ifCond .le (36), 0, 0) :: (1, .aload_n 1, 0, 0) :: (1, .iconst (0), 0, 0) :: (1, .iaload, 0, 0) :: (1, .iconst (1), 0, 1) :: (1, .isub, 0, 0) :: (1, .aload_n 0, 0, 0) :: (3, .sipush (130), 0, 130) :: (2, .iload 4, 0, 0) :: (1, .iadd, 0, 0) :: (1, .aload_n 1, 0, 0) :: (1, .iconst (0), 0, 0) :: (1, .iaload, 0, 0) :: (1, .iconst (5), 0, 5) :: (3, .if_icmp .ge (9), 0, 0) :: (1, .aload_n 1, 0, 0) :: (1, .iconst (0), 0, 0) :: (1, .iaload, 0, 0) :: (3, .goto (4), 0, 0) :: []
def mt_LatticefitLaw_begun_403 : List ma_AI := (1, .isub, 0, 0) :: (3, .goto (16), 0, 0) :: []
def mt_LatticefitLaw_begun_442 : List ma_AI := (1, .aload_n 1, 0, 0) :: (1, .iconst (3), 0, 3) :: (1, .iaload, 0, 0) :: (1, .iconst (1), 0, 1) :: (1, .isub, 0, 0) :: (3, .if_icmp .ne (7), 0, 0) :: (1, .iconst (1), 0, 1) :: (3, .goto (4), 0, 0) :: []
def mb_LatticefitLaw_begun : ma_Tb := [(7, [true, true, false, false, false, false, false, false], (1, .astore_n 2, 0, 0) :: (1, .iconst (1), 0, 1) :: (1, .istore_n 3, 0, 0) :: (1, .iconst (1), 0, 1) :: (1, .aload_n 0, 0, 0) :: (1, .iconst (0), 0, 0) :: (1, .iconst (4), 0, 4) :: (3, .invokestatic 127, 123, 0) :: mt_LatticefitLaw_begun_17),
  (20, [true, true, true, true, true, false, false, false], (2, .iload 4, 0, 0) :: (3, .ifCond .le (21), 0, 0) :: (1, .iload_n 3, 0, 0) :: (1, .aload_n 2, 0, 0) :: (1, .aload_n 1, 0, 0) :: (2, .bipush (105), 0, 105) :: (1, .iconst (0), 0, 0) :: (1, .iconst (0), 0, 0) :: (3, .invokestatic 131, 126, 0) :: mt_LatticefitLaw_begun_35),
  (43, [true, true, true, true, false, false, false, false], (1, .aload_n 0, 0, 0) :: (1, .iconst (1), 0, 1) :: (1, .iconst (5), 0, 5) :: (3, .invokestatic 127, 123, 0) :: mt_LatticefitLaw_begun_49),
  (51, [true, true, true, true, true, false, false, false], (2, .iload 4, 0, 0) :: (3, .ifCond .le (39), 0, 0) :: (1, .iload_n 3, 0, 0) :: (1, .aload_n 2, 0, 0) :: (1, .aload_n 1, 0, 0) :: (2, .bipush (114), 0, 114) :: (1, .aload_n 0, 0, 0) :: (1, .iconst (2), 0, 2) :: (2, .iload 4, 0, 0) :: (1, .imul, 0, 0) :: (1, .iconst (2), 0, 2) :: (3, .invokestatic 127, 123, 0) :: mt_LatticefitLaw_begun_70),
  (92, [true, true, true, true, false, false, false, false], (1, .iconst (3), 0, 3) :: (1, .aload_n 0, 0, 0) :: (1, .iconst (2), 0, 2) :: (2, .bipush (14), 0, 14) :: (3, .invokestatic 127, 123, 0) :: mt_LatticefitLaw_begun_100),
  (103, [true, true, true, true, true, false, false, false], (2, .iload 4, 0, 0) :: (3, .ifCond .le (155), 0, 0) :: (1, .aload_n 0, 0, 0) :: (2, .bipush (20), 0, 20) :: (1, .iconst (3), 0, 3) :: (2, .iload 4, 0, 0) :: (1, .imul, 0, 0) :: (1, .iadd, 0, 0) :: (2, .bipush (7), 0, 7) :: (3, .invokestatic 127, 123, 0) :: mt_LatticefitLaw_begun_121),
  (137, [true, true, true, true, true, true, false, false], (2, .bipush (6), 0, 6) :: []),
  (139, [true, true, true, true, true, true, false, false], (2, .istore 6, 0, 0) :: (1, .aload_n 0, 0, 0) :: (2, .bipush (21), 0, 21) :: (1, .iconst (3), 0, 3) :: (2, .iload 4, 0, 0) :: (1, .imul, 0, 0) :: (1, .iadd, 0, 0) :: (1, .iconst (2), 0, 2) :: (3, .invokestatic 127, 123, 0) :: mt_LatticefitLaw_begun_153),
  (178, [true, true, true, true, true, true, false, false], (1, .aload_n 0, 0, 0) :: (2, .bipush (23), 0, 23) :: (1, .iconst (3), 0, 3) :: (2, .iload 4, 0, 0) :: (1, .imul, 0, 0) :: (1, .iadd, 0, 0) :: (1, .aload_n 1, 0, 0) :: (1, .iconst (0), 0, 0) :: (1, .iaload, 0, 0) :: (3, .invokestatic 127, 123, 0) :: []),
  (192, [true, true, true, true, true, true, false, false], (2, .istore 7, 0, 0) :: (1, .iload_n 3, 0, 0) :: (1, .aload_n 2, 0, 0) :: (1, .aload_n 1, 0, 0) :: (2, .iload 5, 0, 0) :: (1, .iconst (2), 0, 2) :: (3, .if_icmp .ge (8), 0, 0) :: (2, .bipush (97), 0, 97) :: (3, .goto (28), 0, 0) :: []),
  (208, [true, true, true, false, true, true, false, true], (2, .iload 5, 0, 0) :: (1, .iconst (4), 0, 4) :: (3, .if_icmp .ge (8), 0, 0) :: (2, .bipush (111), 0, 111) :: (3, .goto (17), 0, 0) :: []),
  (219, [true, true, true, false, true, true, false, true], (2, .iload 5, 0, 0) :: (2, .bipush (6), 0, 6) :: (3, .if_icmp .ge (8), 0, 0) :: (2, .bipush (120), 0, 120) :: (3, .goto (5), 0, 0) :: []),
  (231, [true, true, true, false, true, false, false, true], (2, .bipush (110), 0, 110) :: []),
  (233, [true, true, true, false, true, false, false, true], (2, .iload 7, 0, 0) :: (1, .aload_n 0, 0, 0) :: (2, .bipush (22), 0, 22) :: (1, .iconst (3), 0, 3) :: (2, .iload 4, 0, 0) :: (1, .imul, 0, 0) :: (1, .iadd, 0, 0) :: (1, .aload_n 1, 0, 0) :: (1, .iconst (0), 0, 0) :: (1, .iaload, 0, 0) :: (3, .invokestatic 127, 123, 0) :: mt_LatticefitLaw_begun_249),
  (260, [true, true, true, true, false, false, false, false], (1, .iconst (0), 0, 0) :: (2, .istore 4, 0, 0) :: []),
  (263, [true, true, true, true, true, false, false, false], (2, .iload 4, 0, 0) :: (1, .aload_n 1, 0, 0) :: (1, .iconst (0), 0, 0) :: (1, .iaload, 0, 0) :: (3, .if_icmp .ge (74), 0, 0) :: (1, .aload_n 1, 0, 0) :: (2, .iload 4, 0, 0) :: (3, .invokestatic 114, 127, 0) :: mt_LatticefitLaw_begun_277),
  (322, [true, true, true, false, true, true, false, false], (1, .iconst (0), 0, 0) :: []),
  (323, [true, true, true, false, true, true, false, false], (1, .iand, 0, 0) :: (1, .istore_n 3, 0, 0) :: (1, .aload_n 1, 0, 0) :: (2, .iload 4, 0, 0) :: (3, .invokestatic 114, 127, 0) :: mt_LatticefitLaw_begun_331),
  (336, [true, true, true, true, true, false, false, false], (3, .iinc 4 (1), 0, 0) :: (3, .goto (-76), 0, 0) :: []),
  (342, [true, true, true, true, false, false, false, false], (1, .iconst (1), 0, 1) :: (1, .aload_n 0, 0, 0) :: (1, .iconst (3), 0, 3) :: (1, .iconst (4), 0, 4) :: (3, .invokestatic 127, 123, 0) :: mt_LatticefitLaw_begun_349),
  (352, [true, true, true, true, true, false, false, false], (2, .iload 4, 0, 0) :: (3, .ifCond .le (109), 0, 0) :: (1, .aload_n 1, 0, 0) :: (3, .sipush (400), 0, 400) :: (1, .aload_n 1, 0, 0) :: (1, .iconst (3), 0, 3) :: (1, .iaload, 0, 0) :: (1, .iadd, 0, 0) :: (1, .aload_n 0, 0, 0) :: (1, .iconst (5), 0, 5) :: (1, .iconst (3), 0, 3) :: (3, .invokestatic 127, 123, 0) :: mt_LatticefitLaw_begun_371),
  (399, [true, true, true, true, true, false, false, false], (1, .iconst (5), 0, 5) :: []),
  (400, [true, true, true, true, true, false, false, false], (3, .invokestatic 127, 123, 0) :: mt_LatticefitLaw_begun_403),
  (407, [true, true, true, true, true, false, false, false], (1, .aload_n 0, 0, 0) :: (3, .sipush (130), 0, 130) :: (2, .iload 4, 0, 0) :: (1, .iadd, 0, 0) :: (1, .aload_n 1, 0, 0) :: (1, .iconst (0), 0, 0) :: (1, .iaload, 0, 0) :: (3, .invokestatic 127, 123, 0) :: []),
  (420, [true, true, true, true, true, false, false, false], (1, .iastore, 0, 0) :: (1, .aload_n 1, 0, 0) :: (1, .iconst (3), 0, 3) :: (1, .dup2, 0, 0) :: (1, .iaload, 0, 0) :: (1, .iconst (1), 0, 1) :: (1, .iadd, 0, 0) :: (1, .iastore, 0, 0) :: (1, .iload_n 3, 0, 0) :: (1, .aload_n 2, 0, 0) :: (1, .aload_n 1, 0, 0) :: (3, .sipush (399), 0, 399) :: (1, .aload_n 1, 0, 0) :: (1, .iconst (3), 0, 3) :: (1, .iaload, 0, 0) :: (1, .iadd, 0, 0) :: (1, .iaload, 0, 0) :: (3, .invokestatic 138, 139, 0) :: mt_LatticefitLaw_begun_442),
  (454, [true, true, true, false, true, false, false, false], (1, .iconst (0), 0, 0) :: []),
  (455, [true, true, true, false, true, false, false, false], (1, .iand, 0, 0) :: (1, .istore_n 3, 0, 0) :: (3, .iinc 4 (-1), 0, 0) :: (3, .goto (-108), 0, 0) :: []),
  (463, [false, false, true, true, false, false, false, false], (1, .iload_n 3, 0, 0) :: (3, .ifCond .eq (7), 0, 0) :: [])]
def mt_LatticefitLaw_areOutputs_49 : List ma_AI := (2, .iload 5, 0, 0) :: (3, .if_icmp .eq (5), 0, 0) :: []
def mt_LatticefitLaw_areOutputs_34 : List ma_AI := (2, .iload 5, 0, 0) :: (3, .if_icmp .ne (18), 0, 0) :: (1, .iload_n 2, 0, 0) :: (3, .ifCond .eq (16), 0, 0) :: (1, .aload_n 0, 0, 0) :: (2, .iload 4, 0, 0) :: (3, .invokestatic 150, 116, 0) :: mt_LatticefitLaw_areOutputs_49
def mt_LatticefitLaw_areOutputs_70 : List ma_AI := (1, .iconst (1), 0, 1) :: (3, .if_icmp .ne (7), 0, 0) :: []
def mb_LatticefitLaw_areOutputs : ma_Tb := [(4, [true, true, true, false, false, false], (1, .astore_n 3, 0, 0) :: (1, .iconst (0), 0, 0) :: (2, .istore 4, 0, 0) :: []),
  (8, [true, true, true, true, true, false], (2, .iload 4, 0, 0) :: (1, .aload_n 1, 0, 0) :: (1, .iconst (3), 0, 3) :: (1, .iaload, 0, 0) :: (3, .if_icmp .ge (49), 0, 0) :: (1, .aload_n 3, 0, 0) :: (1, .aload_n 1, 0, 0) :: (3, .sipush (400), 0, 400) :: (2, .iload 4, 0, 0) :: (1, .iadd, 0, 0) :: (1, .iaload, 0, 0) :: (1, .iaload, 0, 0) :: (2, .istore 5, 0, 0) :: (1, .aload_n 0, 0, 0) :: (2, .iload 4, 0, 0) :: (3, .invokestatic 148, 112, 0) :: mt_LatticefitLaw_areOutputs_34),
  (54, [false, false, false, false, false, false], (1, .iconst (0), 0, 0) :: (1, .ireturn, 0, 0) :: []),
  (56, [true, true, true, true, true, false], (3, .iinc 4 (1), 0, 0) :: (3, .goto (-51), 0, 0) :: []),
  (62, [true, false, true, false, false, false], (1, .iload_n 2, 0, 0) :: (3, .ifCond .eq (11), 0, 0) :: (1, .aload_n 0, 0, 0) :: (3, .invokestatic 152, 145, 0) :: mt_LatticefitLaw_areOutputs_70),
  (74, [false, false, false, false, false, false], (1, .iconst (1), 0, 1) :: (3, .goto (4), 0, 0) :: []),
  (78, [false, false, false, false, false, false], (1, .iconst (0), 0, 0) :: []),
  (79, [false, false, false, false, false, false], (1, .ireturn, 0, 0) :: [])]
def mt_LatticefitLaw_values_18 : List ma_AI := (1, .istore_n 3, 0, 0) :: (1, .aload_n 1, 0, 0) :: (1, .iload_n 2, 0, 0) :: (1, .aload_n 0, 0, 0) :: (1, .iload_n 3, 0, 0) :: (1, .iaload, 0, 0) :: (2, .bipush (105), 0, 105) :: (3, .if_icmp .ne (18), 0, 0) :: (1, .aload_n 0, 0, 0) :: (3, .sipush (410), 0, 410) :: (1, .aload_n 0, 0, 0) :: (1, .iload_n 3, 0, 0) :: (2, .bipush (7), 0, 7) :: (1, .iadd, 0, 0) :: (1, .iaload, 0, 0) :: (1, .iadd, 0, 0) :: (1, .iaload, 0, 0) :: (3, .goto (40), 0, 0) :: []
def mb_LatticefitLaw_values : ma_Tb := [(4, [true, false, false, false], (1, .astore_n 1, 0, 0) :: (1, .iconst (0), 0, 0) :: (1, .istore_n 2, 0, 0) :: []),
  (7, [true, true, true, false], (1, .iload_n 2, 0, 0) :: (1, .aload_n 0, 0, 0) :: (1, .iconst (0), 0, 0) :: (1, .iaload, 0, 0) :: (3, .if_icmp .ge (77), 0, 0) :: (1, .iload_n 2, 0, 0) :: (3, .invokestatic 114, 127, 0) :: mt_LatticefitLaw_values_18),
  (44, [true, true, true, true], (1, .aload_n 0, 0, 0) :: (1, .iload_n 3, 0, 0) :: (1, .iaload, 0, 0) :: (2, .bipush (114), 0, 114) :: (3, .if_icmp .ne (12), 0, 0) :: (1, .aload_n 0, 0, 0) :: (1, .iload_n 3, 0, 0) :: (2, .bipush (6), 0, 6) :: (1, .iadd, 0, 0) :: (1, .iaload, 0, 0) :: (3, .goto (23), 0, 0) :: []),
  (61, [true, true, true, true], (1, .aload_n 0, 0, 0) :: (1, .iload_n 3, 0, 0) :: (1, .iaload, 0, 0) :: (1, .aload_n 1, 0, 0) :: (1, .aload_n 0, 0, 0) :: (1, .iload_n 3, 0, 0) :: (1, .iconst (1), 0, 1) :: (1, .iadd, 0, 0) :: (1, .iaload, 0, 0) :: (1, .iaload, 0, 0) :: (1, .aload_n 1, 0, 0) :: (1, .aload_n 0, 0, 0) :: (1, .iload_n 3, 0, 0) :: (1, .iconst (2), 0, 2) :: (1, .iadd, 0, 0) :: (1, .iaload, 0, 0) :: (1, .iaload, 0, 0) :: (3, .invokestatic 141, 144, 0) :: []),
  (81, [true, true, true, false], (1, .iastore, 0, 0) :: (3, .iinc 2 (1), 0, 0) :: (3, .goto (-78), 0, 0) :: [])]
def mt_LatticefitLaw_ticks_18 : List ma_AI := (2, .istore 4, 0, 0) :: (1, .aload_n 0, 0, 0) :: (2, .iload 4, 0, 0) :: (2, .bipush (6), 0, 6) :: (1, .iadd, 0, 0) :: (1, .aload_n 0, 0, 0) :: (2, .iload 4, 0, 0) :: (1, .iaload, 0, 0) :: (2, .bipush (114), 0, 114) :: (3, .if_icmp .ne (24), 0, 0) :: (1, .aload_n 0, 0, 0) :: (2, .iload 4, 0, 0) :: (1, .iconst (4), 0, 4) :: (1, .iadd, 0, 0) :: (1, .iaload, 0, 0) :: (1, .iload_n 1, 0, 0) :: (3, .if_icmp .ne (14), 0, 0) :: (1, .aload_n 2, 0, 0) :: (1, .aload_n 0, 0, 0) :: (2, .iload 4, 0, 0) :: (1, .iconst (5), 0, 5) :: (1, .iadd, 0, 0) :: (1, .iaload, 0, 0) :: (1, .iaload, 0, 0) :: (3, .goto (10), 0, 0) :: []
def mb_LatticefitLaw_ticks : ma_Tb := [(4, [true, true, false, false, false], (1, .astore_n 2, 0, 0) :: (1, .iconst (0), 0, 0) :: (1, .istore_n 3, 0, 0) :: []),
  (7, [true, true, true, true, false], (1, .iload_n 3, 0, 0) :: (1, .aload_n 0, 0, 0) :: (1, .iconst (0), 0, 0) :: (1, .iaload, 0, 0) :: (3, .if_icmp .ge (59), 0, 0) :: (1, .iload_n 3, 0, 0) :: (3, .invokestatic 114, 127, 0) :: mt_LatticefitLaw_ticks_18),
  (56, [true, true, true, true, true], (1, .aload_n 0, 0, 0) :: (2, .iload 4, 0, 0) :: (2, .bipush (6), 0, 6) :: (1, .iadd, 0, 0) :: (1, .iaload, 0, 0) :: []),
  (63, [true, true, true, true, false], (1, .iastore, 0, 0) :: (3, .iinc 3 (1), 0, 0) :: (3, .goto (-60), 0, 0) :: []),
  (70, [false, false, false, false, false], (1, .return_, 0, 0) :: [])]
def mt_law_37 : List ma_AI := (1, .istore_n 3, 0, 0) :: (1, .iload_n 3, 0, 0) :: (3, .ifCond .ge (15), 0, 0) :: (1, .iload_n 3, 0, 0) :: (2, .ldc 24, 0, (-900002)) :: (3, .if_icmp .ne (7), 0, 0) :: (1, .iconst (1), 0, 1) :: (3, .goto (4), 0, 0) :: []
def mt_law_126 : List ma_AI := (3, .ifCond .lt (7), 0, 0) :: (1, .iconst (1), 0, 1) :: (3, .goto (4), 0, 0) :: []
def mt_law_122 : List ma_AI := (1, .aload_n 2, 0, 0) :: (3, .invokestatic 174, 64, 0) :: mt_law_126
def mt_law_98 : List ma_AI := (2, .istore 5, 0, 0) :: (2, .iload 4, 0, 0) :: (3, .ifCond .lt (35), 0, 0) :: (2, .iload 5, 0, 0) :: (1, .iconst (1), 0, 1) :: (3, .if_icmp .lt (29), 0, 0) :: (2, .iload 5, 0, 0) :: (2, .bipush (20), 0, 20) :: (3, .if_icmp .gt (22), 0, 0) :: (1, .aload_n 2, 0, 0) :: (3, .invokevirtual 171, 0, 10) :: mt_law_122
def mt_law_90 : List ma_AI := (2, .istore 4, 0, 0) :: (1, .aload_n 2, 0, 0) :: (2, .bipush (20), 0, 20) :: (3, .invokestatic 169, 45, 0) :: mt_law_98
def mt_law_86 : List ma_AI := (1, .iadd, 0, 0) :: (3, .invokestatic 166, 26, 0) :: mt_law_90
def mt_law_75 : List ma_AI := (1, .iadd, 0, 0) :: (1, .iconst (1), 0, 1) :: (1, .aload_n 0, 0, 0) :: (3, .sipush (152), 0, 152) :: (2, .bipush (20), 0, 20) :: (3, .invokestatic 127, 123, 0) :: mt_law_86
def mt_law_65 : List ma_AI := (1, .iconst (1), 0, 1) :: (1, .aload_n 0, 0, 0) :: (3, .sipush (151), 0, 151) :: (2, .bipush (60), 0, 60) :: (3, .invokestatic 127, 123, 0) :: mt_law_75
def mt_law_157 : List ma_AI := (2, .ldc 17, 0, (-900001)) :: (3, .if_icmp .ne (7), 0, 0) :: (1, .iconst (1), 0, 1) :: (3, .goto (4), 0, 0) :: []
def mt_law_143 : List ma_AI := (3, .ifCond .ne (25), 0, 0) :: (2, .iload 5, 0, 0) :: (2, .bipush (20), 0, 20) :: (3, .if_icmp .ne (16), 0, 0) :: (1, .aload_n 2, 0, 0) :: (3, .invokestatic 176, 83, 0) :: mt_law_157
def mt_law_183 : List ma_AI := (3, .ifCond .ne (5), 0, 0) :: []
def mt_law_172 : List ma_AI := (1, .aload_n 1, 0, 0) :: (1, .iconst (3), 0, 3) :: (1, .iaload, 0, 0) :: (3, .if_icmp .ne (11), 0, 0) :: (1, .aload_n 2, 0, 0) :: (1, .iload_n 3, 0, 0) :: (3, .invokestatic 178, 149, 0) :: mt_law_183
def mt_law_192 : List ma_AI := (1, .lconst 0, 0, 0) :: (2, .lstore 6, 0, 0) :: (1, .iconst (0), 0, 0) :: (2, .istore 8, 0, 0) :: []
def mt_law_247 : List ma_AI := (2, .istore 11, 0, 0) :: (1, .aload_n 2, 0, 0) :: (2, .iload 10, 0, 0) :: (2, .iload 11, 0, 0) :: (1, .iconst (1), 0, 1) :: (3, .if_icmp .ne (7), 0, 0) :: (1, .iconst (1), 0, 1) :: (3, .goto (4), 0, 0) :: []
def mt_law_235 : List ma_AI := (3, .ifCond .ne (57), 0, 0) :: (1, .aload_n 0, 0, 0) :: (2, .iload 9, 0, 0) :: (1, .iconst (2), 0, 2) :: (1, .iadd, 0, 0) :: (1, .iconst (2), 0, 2) :: (3, .invokestatic 127, 123, 0) :: mt_law_247
def mt_law_226 : List ma_AI := (2, .istore 10, 0, 0) :: (1, .aload_n 0, 0, 0) :: (2, .iload 9, 0, 0) :: (1, .iconst (2), 0, 2) :: (3, .invokestatic 127, 123, 0) :: mt_law_235
def mt_law_266 : List ma_AI := (1, .aload_n 1, 0, 0) :: (3, .sipush (410), 0, 410) :: (2, .iload 10, 0, 0) :: (1, .iadd, 0, 0) :: (1, .iaload, 0, 0) :: (3, .if_icmp .eq (5), 0, 0) :: (1, .iconst (0), 0, 0) :: (1, .ireturn, 0, 0) :: []
def mt_law_324 : List ma_AI := (2, .lload 6, 0, 0) :: (1, .lcmp, 0, 0) :: (3, .ifCond .eq (5), 0, 0) :: (1, .iconst (0), 0, 0) :: (1, .ireturn, 0, 0) :: []
def mt_law_321 : List ma_AI := (3, .invokestatic 193, 88, 0) :: mt_law_324
def mt_law_418 : List ma_AI := (1, .iconst (1), 0, 1) :: (3, .if_icmp .ne (49), 0, 0) :: (1, .aload_n 2, 0, 0) :: (1, .aload_n 1, 0, 0) :: (1, .iconst (0), 0, 0) :: []
def mt_law_402 : List ma_AI := (2, .iload 11, 0, 0) :: (1, .iconst (1), 0, 1) :: (2, .iload 10, 0, 0) :: (1, .ishl, 0, 0) :: (1, .ixor, 0, 0) :: (3, .if_icmp .ne (59), 0, 0) :: (1, .aload_n 2, 0, 0) :: (2, .iload 8, 0, 0) :: (3, .invokestatic 204, 121, 0) :: mt_law_418
def mt_law_390 : List ma_AI := (2, .istore 11, 0, 0) :: (1, .aload_n 2, 0, 0) :: (2, .iload 8, 0, 0) :: (2, .iload 9, 0, 0) :: (2, .iload 10, 0, 0) :: (3, .invokestatic 202, 105, 0) :: mt_law_402
def mt_law_380 : List ma_AI := (2, .istore 10, 0, 0) :: (1, .aload_n 2, 0, 0) :: (2, .iload 8, 0, 0) :: (2, .iload 9, 0, 0) :: (3, .invokestatic 200, 79, 0) :: mt_law_390
def mt_law_369 : List ma_AI := (2, .istore 9, 0, 0) :: (1, .aload_n 0, 0, 0) :: (3, .sipush (212), 0, 212) :: (2, .bipush (12), 0, 12) :: (3, .invokestatic 127, 123, 0) :: mt_law_380
def mt_law_358 : List ma_AI := (2, .istore 8, 0, 0) :: (1, .aload_n 0, 0, 0) :: (3, .sipush (211), 0, 211) :: (2, .bipush (6), 0, 6) :: (3, .invokestatic 127, 123, 0) :: mt_law_369
def mt_law_452 : List ma_AI := (3, .ifCond .ne (16), 0, 0) :: (1, .aload_n 2, 0, 0) :: (1, .aload_n 1, 0, 0) :: (1, .iconst (1), 0, 1) :: []
def mt_law_445 : List ma_AI := (3, .ifCond .ne (23), 0, 0) :: (1, .aload_n 2, 0, 0) :: (3, .invokestatic 206, 107, 0) :: mt_law_452
def mt_law_435 : List ma_AI := (1, .iconst (1), 0, 1) :: (3, .if_icmp .ne (32), 0, 0) :: (1, .aload_n 2, 0, 0) :: (2, .iload 8, 0, 0) :: (3, .invokestatic 204, 121, 0) :: mt_law_445
def mt_law_608 : List ma_AI := (2, .ldc 17, 0, (-900001)) :: (3, .if_icmp .ne (7), 0, 0) :: (1, .iconst (1), 0, 1) :: (3, .goto (4), 0, 0) :: []
def mt_law_598 : List ma_AI := (2, .ldc 17, 0, (-900001)) :: (3, .if_icmp .ne (17), 0, 0) :: (1, .aload_n 2, 0, 0) :: (1, .iconst (-1), 0, (-1)) :: (3, .invokestatic 204, 121, 0) :: mt_law_608
def mt_law_585 : List ma_AI := (2, .ldc 31, 0, (-900003)) :: (3, .if_icmp .ne (30), 0, 0) :: (1, .aload_n 2, 0, 0) :: (1, .iconst (0), 0, 0) :: (1, .iconst (0), 0, 0) :: (2, .bipush (16), 0, 16) :: (3, .invokestatic 202, 105, 0) :: mt_law_598
def mt_law_572 : List ma_AI := (2, .ldc 17, 0, (-900001)) :: (3, .if_icmp .ne (43), 0, 0) :: (1, .aload_n 2, 0, 0) :: (1, .iconst (0), 0, 0) :: (2, .bipush (36), 0, 36) :: (1, .iconst (0), 0, 0) :: (3, .invokestatic 202, 105, 0) :: mt_law_585
def mt_law_559 : List ma_AI := (2, .ldc 17, 0, (-900001)) :: (3, .if_icmp .ne (56), 0, 0) :: (1, .aload_n 2, 0, 0) :: (2, .bipush (14), 0, 14) :: (1, .iconst (0), 0, 0) :: (1, .iconst (0), 0, 0) :: (3, .invokestatic 202, 105, 0) :: mt_law_572
def mt_law_548 : List ma_AI := (2, .ldc 17, 0, (-900001)) :: (3, .if_icmp .ne (67), 0, 0) :: (1, .aload_n 2, 0, 0) :: (1, .iconst (0), 0, 0) :: (1, .iconst (4), 0, 4) :: (3, .invokestatic 158, 101, 0) :: mt_law_559
def mt_law_536 : List ma_AI := (2, .ldc 17, 0, (-900001)) :: (3, .if_icmp .ne (79), 0, 0) :: (1, .aload_n 2, 0, 0) :: (2, .bipush (36), 0, 36) :: (1, .iconst (0), 0, 0) :: (3, .invokestatic 158, 101, 0) :: mt_law_548
def mt_law_525 : List ma_AI := (2, .ldc 17, 0, (-900001)) :: (3, .if_icmp .ne (90), 0, 0) :: (1, .aload_n 2, 0, 0) :: (2, .bipush (36), 0, 36) :: (3, .invokestatic 211, 119, 0) :: mt_law_536
def mt_law_515 : List ma_AI := (2, .ldc 17, 0, (-900001)) :: (3, .if_icmp .ne (100), 0, 0) :: (1, .aload_n 2, 0, 0) :: (1, .iconst (-1), 0, (-1)) :: (3, .invokestatic 150, 116, 0) :: mt_law_525
def mt_law_501 : List ma_AI := (3, .ldc2_w 73, 0, (-900001)) :: (1, .lcmp, 0, 0) :: (3, .ifCond .ne (112), 0, 0) :: (1, .aload_n 2, 0, 0) :: (1, .aload_n 1, 0, 0) :: (1, .iconst (3), 0, 3) :: (1, .iaload, 0, 0) :: (3, .invokestatic 148, 112, 0) :: mt_law_515
def mt_law_491 : List ma_AI := (2, .ldc 17, 0, (-900001)) :: (3, .if_icmp .ne (124), 0, 0) :: (1, .aload_n 2, 0, 0) :: (1, .iconst (3), 0, 3) :: (3, .invokestatic 193, 88, 0) :: mt_law_501
def mt_law_480 : List ma_AI := (3, .ifCond .eq (137), 0, 0) :: (1, .aload_n 2, 0, 0) :: (1, .aload_n 1, 0, 0) :: (1, .iconst (1), 0, 1) :: (1, .iaload, 0, 0) :: (1, .iconst (1), 0, 1) :: (3, .invokestatic 186, 110, 0) :: mt_law_491
def mb_law : ma_Tb := [(33, [true, true, true, false, false, false, false, false, false, false, false, false, false], (1, .aload_n 2, 0, 0) :: (3, .invokestatic 164, 7, 0) :: mt_law_37),
  (52, [false, false, false, false, false, false, false, false, false, false, false, false, false], (1, .iconst (0), 0, 0) :: []),
  (53, [false, false, false, false, false, false, false, false, false, false, false, false, false], (1, .ireturn, 0, 0) :: []),
  (54, [true, true, true, true, false, false, false, false, false, false, false, false, false], (1, .aload_n 2, 0, 0) :: (1, .aload_n 0, 0, 0) :: (3, .sipush (150), 0, 150) :: (3, .sipush (10000), 0, 10000) :: (3, .invokestatic 127, 123, 0) :: mt_law_65),
  (133, [true, true, true, true, false, true, false, false, false, false, false, false, false], (1, .iconst (0), 0, 0) :: []),
  (134, [true, true, true, true, false, true, false, false, false, false, false, false, false], (3, .if_icmp .eq (5), 0, 0) :: []),
  (137, [false, false, false, false, false, false, false, false, false, false, false, false, false], (1, .iconst (0), 0, 0) :: (1, .ireturn, 0, 0) :: []),
  (139, [true, true, true, true, false, true, false, false, false, false, false, false, false], (1, .aload_n 2, 0, 0) :: (3, .invokevirtual 171, 0, 10) :: mt_law_143),
  (166, [false, false, false, false, false, false, false, false, false, false, false, false, false], (1, .iconst (0), 0, 0) :: []),
  (167, [false, false, false, false, false, false, false, false, false, false, false, false, false], (1, .ireturn, 0, 0) :: []),
  (168, [true, true, true, true, false, false, false, false, false, false, false, false, false], (1, .aload_n 2, 0, 0) :: (3, .invokestatic 176, 83, 0) :: mt_law_172),
  (186, [false, false, false, false, false, false, false, false, false, false, false, false, false], (1, .iconst (0), 0, 0) :: (1, .ireturn, 0, 0) :: []),
  (188, [true, true, true, false, false, false, false, false, false, false, false, false, false], (1, .aload_n 1, 0, 0) :: (3, .invokestatic 182, 147, 0) :: mt_law_192),
  (198, [true, true, true, false, false, false, true, false, true, false, false, false, false], (2, .iload 8, 0, 0) :: (2, .bipush (14), 0, 14) :: (3, .if_icmp .ge (147), 0, 0) :: (3, .sipush (160), 0, 160) :: (1, .iconst (3), 0, 3) :: (2, .iload 8, 0, 0) :: (1, .imul, 0, 0) :: (1, .iadd, 0, 0) :: (2, .istore 9, 0, 0) :: (1, .aload_n 0, 0, 0) :: (2, .iload 9, 0, 0) :: (1, .iconst (1), 0, 1) :: (1, .iadd, 0, 0) :: (1, .aload_n 1, 0, 0) :: (1, .iconst (1), 0, 1) :: (1, .iaload, 0, 0) :: (3, .invokestatic 127, 123, 0) :: mt_law_226),
  (262, [true, true, true, false, false, false, true, false, true, false, true, true, false], (1, .iconst (0), 0, 0) :: []),
  (263, [true, true, true, false, false, false, true, false, true, false, true, true, false], (3, .invokestatic 186, 110, 0) :: mt_law_266),
  (279, [true, true, true, false, false, false, true, false, true, false, true, true, false], (1, .aload_n 1, 0, 0) :: (3, .sipush (410), 0, 410) :: (2, .iload 10, 0, 0) :: (1, .iadd, 0, 0) :: (2, .iload 11, 0, 0) :: (1, .iastore, 0, 0) :: (3, .goto (43), 0, 0) :: []),
  (292, [true, true, true, false, false, false, true, false, true, true, false, false, false], (2, .lload 6, 0, 0) :: (1, .lconst 1, 0, 1) :: (1, .ladd, 0, 0) :: (2, .lstore 6, 0, 0) :: (1, .aload_n 1, 0, 0) :: (1, .aload_n 0, 0, 0) :: (2, .iload 9, 0, 0) :: (1, .iconst (2), 0, 2) :: (1, .iadd, 0, 0) :: (1, .iconst (3), 0, 3) :: (3, .invokestatic 127, 123, 0) :: []),
  (311, [true, true, true, false, false, false, true, false, true, true, false, false, false], (1, .aload_n 2, 0, 0) :: (1, .aload_n 0, 0, 0) :: (2, .iload 9, 0, 0) :: (1, .iconst (2), 0, 2) :: (1, .iadd, 0, 0) :: (1, .iconst (3), 0, 3) :: (3, .invokestatic 127, 123, 0) :: mt_law_321),
  (332, [true, true, true, false, false, false, true, false, true, false, false, false, false], (1, .aload_n 2, 0, 0) :: (1, .aload_n 1, 0, 0) :: (1, .iconst (1), 0, 1) :: []),
  (338, [true, true, true, false, false, false, true, false, true, false, false, false, false], (3, .ifCond .ne (5), 0, 0) :: (1, .iconst (0), 0, 0) :: (1, .ireturn, 0, 0) :: []),
  (343, [true, true, true, false, false, false, true, false, true, false, false, false, false], (3, .iinc 8 (1), 0, 0) :: (3, .goto (-148), 0, 0) :: []),
  (349, [true, true, true, false, false, false, false, false, false, false, false, false, false], (1, .aload_n 0, 0, 0) :: (3, .sipush (210), 0, 210) :: (2, .bipush (14), 0, 14) :: (3, .invokestatic 127, 123, 0) :: mt_law_358),
  (428, [false, true, true, false, false, false, false, false, true, false, false, false, false], (3, .ifCond .eq (40), 0, 0) :: (1, .aload_n 2, 0, 0) :: (3, .invokestatic 206, 107, 0) :: mt_law_435),
  (461, [false, true, true, false, false, false, false, false, false, false, false, false, false], (3, .ifCond .eq (7), 0, 0) :: (1, .iconst (1), 0, 1) :: (3, .goto (4), 0, 0) :: []),
  (468, [false, true, true, false, false, false, false, false, false, false, false, false, false], (1, .iconst (0), 0, 0) :: []),
  (469, [false, true, true, false, false, false, false, false, false, false, false, false, false], (2, .istore 12, 0, 0) :: (2, .iload 12, 0, 0) :: (3, .ifCond .eq (144), 0, 0) :: (1, .aload_n 2, 0, 0) :: (3, .invokevirtual 208, 1, 10) :: mt_law_480),
  (617, [false, false, false, false, false, false, false, false, false, false, false, false, false], (1, .iconst (0), 0, 0) :: []),
  (618, [false, false, false, false, false, false, false, false, false, false, false, false, false], (1, .ireturn, 0, 0) :: [])]
def ma_bts : List ma_Tb := [mb_Latticefit_isRouted, mb_Latticefit_isConsistent, mb_Circuit_isSound, mb_Circuit_isGate, mb_Circuit_isNode, mb_Places_isSound, mb_Routes_isCrowded, mb_LatticefitLaw_map, mb_Latticefit_map, mb_Cuts_findAll, mb_Cuts_offerAll, mb_Cuts_offer, mb_Long_bitCount, mb_Cuts_isBehind, mb_Blocks_pack, mb_Blocks_markNeeded, mb_Cuts_own, mb_Blocks_markCut, mb_Blocks_isIn, mb_Arrays_fill_AIIV, mb_Blocks_putRegister, mb_Blocks_putGate, mb_Circuit_joined, mb_Places_putAnew, mb_Routes_clear, mb_Arrays_fill_AJJV, mb_LatticefitLaw_anneal, mb_Latticefit_anneal, mb_Latticefit_needStage, mb_Places_swapByChance, mb_Places_nextChance, mb_Places_cellTold, mb_Places_maySwap, mb_Places_holdsFixed, mb_Places_swapIfGood, mb_Places_clockExcess, mb_Places_cellOfNode, mb_Integer_bitCount, mb_Places_findLengths, mb_Places_sourceCrossing, mb_Places_crossingAt, mb_Places_stretchTo, mb_Places_crossingOfOutput, mb_Places_lengthOf, mb_Places_exchange, mb_LatticefitLaw_route, mb_Latticefit_route, mb_Places_putPins, mb_Routes_addSink, mb_Routes_makeRounds, mb_Routes_giveUp, mb_Latticefit_isEdge, mb_Routes_layTree, mb_Routes_isInTree, mb_Routes_addWay, mb_Routes_openTree, mb_Routes_takeCheapest, mb_Routes_openNeighbours, mb_Routes_offerWay, mb_Routes_tollOf, mb_Routes_takeWay, mb_Routes_otherEnd, mb_Routes_lowEnd, mb_Routes_raisePrices, mb_LatticefitLaw_build, mb_Latticefit_build, mb_Builder_fillFrames, mb_Frames_clear, mb_Builder_putBlock, mb_Frames_putCellWord, mb_Builder_codeAt, mb_Places_sourceCode, mb_Routes_wire, mb_Routes_has, mb_Builder_putNet, mb_Frames_putWireWord, mb_Frames_frameOfEdge, mb_Frames_indexOfEdge, mb_Frames_wordsInUse, mb_LatticefitLaw_wordAt, mb_Latticefit_wordAt, mb_Latticefit_needFrame, mb_Frames_lengthOf, mb_LatticefitLaw_start, mb_Latticefit_start, mb_Chip_reset, mb_Frames_copyFrame, mb_Runner_reset, mb_LatticefitLaw_tick, mb_Latticefit_tick, mb_Runner_takeTick, mb_Runner_findValues, mb_Chip_takeTick, mb_Chip_findTables, mb_Chip_findEnds, mb_Frames_cellWord, mb_Frames_endOf, mb_Frames_isWire, mb_Frames_wireWord, mb_Chip_renewTables, mb_Chip_valueOfEnd, mb_LatticefitLaw_sourceOf, mb_Latticefit_sourceOf, mb_Latticefit_isCell, mb_Places_nodeOfCode, mb_LatticefitLaw_flip, mb_Latticefit_flip, mb_LatticefitLaw_scrub, mb_Latticefit_scrub, mb_Frames_sumOf, mb_LatticefitLaw_setInput, mb_Latticefit_setInput, mb_LatticefitLaw_circuitOutput, mb_Latticefit_circuitOutput, mb_Latticefit_needOutput, mb_Runner_outputValue, mb_LatticefitLaw_chipOutput, mb_Latticefit_chipOutput, mb_Chip_outputValue, mb_LatticefitLaw_chipRegister, mb_Latticefit_chipRegister, mb_LatticefitLaw_isBad, mb_Latticefit_isBad, mb_LatticefitLaw_in, mb_LatticefitLaw_cell, [], mb_LatticefitLaw_isNode, mb_LatticefitLaw_at, mb_LatticefitLaw_addInput, mb_Latticefit_addInput, mb_Circuit_putInput, mb_LatticefitLaw_addRegister, mb_Latticefit_addRegister, mb_Circuit_putRegister, mb_LatticefitLaw_addGate, mb_Latticefit_addGate, mb_Circuit_putGate, mb_LatticefitLaw_feed, mb_Latticefit_feed, mb_LatticefitLaw_addOutput, mb_Latticefit_addOutput, mb_Circuit_putOutput, [], [], mb_LatticefitLaw_of, mb_LatticefitLaw_agrees, mb_Latticefit_agrees, mb_LatticefitLaw_begins, [], mb_LatticefitLaw_areSources, mb_LatticefitLaw_inputOf, mb_Latticefit_inputOf, mb_Latticefit_needBlock, mb_LatticefitLaw_cellOf, mb_Latticefit_cellOf]
def ma_bt (y : Nat) : ma_Tb := ma_bts.getD y []
def ma_cis : List Nat := [10, 10, 3, 3, 3, 6, 7, 11, 10, 4, 4, 4, 13, 4, 0, 0, 4, 0, 0, 14, 0, 0, 3, 6, 7, 14, 11, 10, 10, 6, 6, 6, 6, 6, 6, 6, 6, 12, 6, 6, 6, 6, 6, 6, 6, 11, 10, 6, 7, 7, 7, 10, 7, 7, 7, 7, 7, 7, 7, 7, 7, 7, 7, 7, 11, 10, 1, 5, 1, 5, 1, 6, 7, 7, 1, 5, 5, 5, 5, 11, 10, 10, 5, 11, 10, 2, 5, 8, 11, 10, 8, 8, 2, 2, 2, 5, 5, 5, 5, 2, 2, 11, 10, 10, 6, 11, 10, 11, 10, 5, 11, 10, 11, 10, 10, 8, 11, 10, 2, 11, 10, 11, 10, 11, 11, 11, 11, 11, 11, 10, 3, 11, 10, 3, 11, 10, 3, 11, 10, 11, 10, 3, 11, 11, 11, 11, 10, 11, 11, 11, 11, 10, 10, 11, 10]
/-- the class of a method, by its number among the owners -/
def ma_oi (y : Nat) : Nat := ma_cis.getD y 0
