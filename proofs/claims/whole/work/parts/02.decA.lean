theorem dX0_init_0 : decode cX0_init 0 = .ok (.aload_n 0, 1) := by decide +kernel
theorem dX0_init_1 : decode cX0_init 1 = .ok (.invokespecial 3, 3) := by decide +kernel
theorem dX0_init_4 : decode cX0_init 4 = .ok (.aload_n 0, 1) := by decide +kernel
theorem dX0_init_5 : decode cX0_init 5 = .ok (.aload_n 1, 1) := by decide +kernel
theorem dX0_init_6 : decode cX0_init 6 = .ok (.putfield 9, 3) := by decide +kernel
theorem dX0_init_9 : decode cX0_init 9 = .ok (.aload_n 0, 1) := by decide +kernel
theorem dX0_init_10 : decode cX0_init 10 = .ok (.bipush 6, 2) := by decide +kernel
theorem dX0_init_12 : decode cX0_init 12 = .ok (.bipush 7, 2) := by decide +kernel
theorem dX0_init_14 : decode cX0_init 14 = .ok (.multianewarray 15 2, 4) := by decide +kernel
theorem dX0_init_18 : decode cX0_init 18 = .ok (.putfield 17, 3) := by decide +kernel
theorem dX0_init_21 : decode cX0_init 21 = .ok (.aload_n 0, 1) := by decide +kernel
theorem dX0_init_22 : decode cX0_init 22 = .ok (.bipush 6, 2) := by decide +kernel
theorem dX0_init_24 : decode cX0_init 24 = .ok (.newarray .boolean, 2) := by decide +kernel
theorem dX0_init_26 : decode cX0_init 26 = .ok (.putfield 20, 3) := by decide +kernel
theorem dX0_init_29 : decode cX0_init 29 = .ok (.aload_n 0, 1) := by decide +kernel
theorem dX0_init_30 : decode cX0_init 30 = .ok (.bipush 6, 2) := by decide +kernel
theorem dX0_init_32 : decode cX0_init 32 = .ok (.newarray .long, 2) := by decide +kernel
theorem dX0_init_34 : decode cX0_init 34 = .ok (.putfield 24, 3) := by decide +kernel
theorem dX0_init_37 : decode cX0_init 37 = .ok (.aload_n 0, 1) := by decide +kernel
theorem dX0_init_38 : decode cX0_init 38 = .ok (.lconst 1, 1) := by decide +kernel
theorem dX0_init_39 : decode cX0_init 39 = .ok (.putfield 28, 3) := by decide +kernel
theorem dX0_init_42 : decode cX0_init 42 = .ok (.aload_n 0, 1) := by decide +kernel
theorem dX0_init_43 : decode cX0_init 43 = .ok (.bipush 6, 2) := by decide +kernel
theorem dX0_init_45 : decode cX0_init 45 = .ok (.newarray .long, 2) := by decide +kernel
theorem dX0_init_47 : decode cX0_init 47 = .ok (.putfield 32, 3) := by decide +kernel
theorem dX0_init_50 : decode cX0_init 50 = .ok (.aload_n 0, 1) := by decide +kernel
theorem dX0_init_51 : decode cX0_init 51 = .ok (.bipush 6, 2) := by decide +kernel
theorem dX0_init_53 : decode cX0_init 53 = .ok (.newarray .long, 2) := by decide +kernel
theorem dX0_init_55 : decode cX0_init 55 = .ok (.putfield 35, 3) := by decide +kernel
theorem dX0_init_58 : decode cX0_init 58 = .ok (.return_, 1) := by decide +kernel
theorem dX0_forget_0 : decode cX0_forget 0 = .ok (.aload_n 0, 1) := by decide +kernel
theorem dX0_forget_1 : decode cX0_forget 1 = .ok (.iconst 0, 1) := by decide +kernel
theorem dX0_forget_2 : decode cX0_forget 2 = .ok (.putfield 38, 3) := by decide +kernel
theorem dX0_forget_5 : decode cX0_forget 5 = .ok (.return_, 1) := by decide +kernel
set_option maxRecDepth 20000 in
theorem ggX0_find_X0_writeRows : GoodIn wsX0_find wsX0_writeRows := goodIn_r _ [6, 7, 8, 9, 10, 11, 12, 5, 13, 14, 15, 16, 17, 18, 19, 20, 21, 22, 23, 24, 25, 26, 27, 28, 29, 30, 31, 32, 33, 34, 35, 36, 37, 76, 77, 78, 79, 80, 81, 82, 83, 84, 85, 86, 87, 88, 89] (by decide +kernel) (by decide +kernel)
set_option maxRecDepth 20000 in
theorem gX0_find_X0_writeRows : GoodIn wsX0_find (wsV RX0 42 RX0 yX0_writeRows wsX0_writeRows) := goodIn_app (goodIn_of _ (by decide +kernel)) ggX0_find_X0_writeRows
set_option maxRecDepth 20000 in
theorem ggX0_find_X0_solveRows : GoodIn wsX0_find wsX0_solveRows := goodIn_r _ [41, 42, 43, 7, 44, 45, 46, 47, 5, 48, 8, 9, 49, 50, 51, 52, 53, 54, 29, 55, 76, 77, 78, 79, 80, 81, 82, 83, 84, 85, 86, 87, 88, 89] (by decide +kernel) (by decide +kernel)
set_option maxRecDepth 20000 in
theorem gX0_find_X0_solveRows : GoodIn wsX0_find (wsV RX0 45 RX0 yX0_solveRows wsX0_solveRows) := goodIn_app (goodIn_of _ (by decide +kernel)) ggX0_find_X0_solveRows
set_option maxRecDepth 20000 in
theorem ggX0_find_X0_makeWhole : GoodIn wsX0_find wsX0_makeWhole := goodIn_r _ [59, 60, 42, 53, 54, 29, 55, 61, 44, 62, 63, 64, 45, 46, 47, 5, 48, 8, 9, 65, 66, 67, 68, 69, 70, 71, 72, 73, 74, 75, 76, 77, 78, 79, 80, 81, 82, 83, 84, 85, 86, 87, 88, 89] (by decide +kernel) (by decide +kernel)
set_option maxRecDepth 20000 in
theorem gX0_find_X0_makeWhole : GoodIn wsX0_find (wsV RX0 48 RX0 yX0_makeWhole wsX0_makeWhole) := goodIn_app (goodIn_of _ (by decide +kernel)) ggX0_find_X0_makeWhole
theorem dX0_find_0 : decode cX0_find 0 = .ok (.aload_n 0, 1) := by decide +kernel
theorem dX0_find_1 : decode cX0_find 1 = .ok (.getfield 38, 3) := by decide +kernel
theorem dX0_find_4 : decode cX0_find 4 = .ok (.ifCond .eq 4, 3) := by decide +kernel
theorem dX0_find_7 : decode cX0_find 7 = .ok (.return_, 1) := by decide +kernel
theorem dX0_find_8 : decode cX0_find 8 = .ok (.aload_n 0, 1) := by decide +kernel
theorem dX0_find_9 : decode cX0_find 9 = .ok (.invokevirtual 42, 3) := by decide +kernel
theorem dX0_find_12 : decode cX0_find 12 = .ok (.aload_n 0, 1) := by decide +kernel
theorem dX0_find_13 : decode cX0_find 13 = .ok (.invokevirtual 45, 3) := by decide +kernel
theorem dX0_find_16 : decode cX0_find 16 = .ok (.aload_n 0, 1) := by decide +kernel
theorem dX0_find_17 : decode cX0_find 17 = .ok (.invokevirtual 48, 3) := by decide +kernel
theorem dX0_find_20 : decode cX0_find 20 = .ok (.aload_n 0, 1) := by decide +kernel
theorem dX0_find_21 : decode cX0_find 21 = .ok (.iconst 1, 1) := by decide +kernel
theorem dX0_find_22 : decode cX0_find 22 = .ok (.putfield 38, 3) := by decide +kernel
theorem dX0_find_25 : decode cX0_find 25 = .ok (.return_, 1) := by decide +kernel
theorem dX0_spaces_0 : decode cX0_spaces 0 = .ok (.iconst 2, 1) := by decide +kernel
theorem dX0_spaces_1 : decode cX0_spaces 1 = .ok (.aload_n 0, 1) := by decide +kernel
theorem dX0_spaces_2 : decode cX0_spaces 2 = .ok (.getfield 9, 3) := by decide +kernel
theorem dX0_spaces_5 : decode cX0_spaces 5 = .ok (.getfield 51, 3) := by decide +kernel
theorem dX0_spaces_8 : decode cX0_spaces 8 = .ok (.imul, 1) := by decide +kernel
theorem dX0_spaces_9 : decode cX0_spaces 9 = .ok (.ireturn, 1) := by decide +kernel
theorem dX0_numberOf_0 : decode cX0_numberOf 0 = .ok (.iload_n 2, 1) := by decide +kernel
theorem dX0_numberOf_1 : decode cX0_numberOf 1 = .ok (.iconst 1, 1) := by decide +kernel
theorem dX0_numberOf_2 : decode cX0_numberOf 2 = .ok (.if_icmp .ne 7, 3) := by decide +kernel
theorem dX0_numberOf_5 : decode cX0_numberOf 5 = .ok (.iload_n 1, 1) := by decide +kernel
theorem dX0_numberOf_6 : decode cX0_numberOf 6 = .ok (.goto 12, 3) := by decide +kernel
theorem dX0_numberOf_9 : decode cX0_numberOf 9 = .ok (.aload_n 0, 1) := by decide +kernel
theorem dX0_numberOf_10 : decode cX0_numberOf 10 = .ok (.getfield 9, 3) := by decide +kernel
theorem dX0_numberOf_13 : decode cX0_numberOf 13 = .ok (.getfield 51, 3) := by decide +kernel
theorem dX0_numberOf_16 : decode cX0_numberOf 16 = .ok (.iload_n 1, 1) := by decide +kernel
theorem dX0_numberOf_17 : decode cX0_numberOf 17 = .ok (.iadd, 1) := by decide +kernel
theorem dX0_numberOf_18 : decode cX0_numberOf 18 = .ok (.ireturn, 1) := by decide +kernel
set_option maxRecDepth 20000 in
theorem ggX0_writeRows_X0_addPair : GoodIn wsX0_writeRows wsX0_addPair := goodIn_r _ [8, 2, 9, 1, 10, 11, 12, 13, 14, 15, 16, 17, 18, 19, 20, 21, 22, 23, 24, 25, 26, 27, 28, 29, 30, 31, 7, 32, 3, 33, 34, 35, 36, 37, 38, 39, 40, 41, 42, 43, 44, 45, 46] (by decide +kernel) (by decide +kernel)
set_option maxRecDepth 20000 in
theorem gX0_writeRows_X0_addPair : GoodIn wsX0_writeRows (wsV RX0 57 RX0 yX0_addPair wsX0_addPair) := goodIn_app (goodIn_of _ (by decide +kernel)) ggX0_writeRows_X0_addPair
theorem dX0_writeRows_0 : decode cX0_writeRows 0 = .ok (.iconst 0, 1) := by decide +kernel
theorem dX0_writeRows_1 : decode cX0_writeRows 1 = .ok (.istore_n 1, 1) := by decide +kernel
theorem dX0_writeRows_2 : decode cX0_writeRows 2 = .ok (.iload_n 1, 1) := by decide +kernel
theorem dX0_writeRows_3 : decode cX0_writeRows 3 = .ok (.bipush 6, 2) := by decide +kernel
theorem dX0_writeRows_5 : decode cX0_writeRows 5 = .ok (.if_icmp .ge 32, 3) := by decide +kernel
theorem dX0_writeRows_8 : decode cX0_writeRows 8 = .ok (.iconst 0, 1) := by decide +kernel
theorem dX0_writeRows_9 : decode cX0_writeRows 9 = .ok (.istore_n 2, 1) := by decide +kernel
theorem dX0_writeRows_10 : decode cX0_writeRows 10 = .ok (.iload_n 2, 1) := by decide +kernel
theorem dX0_writeRows_11 : decode cX0_writeRows 11 = .ok (.bipush 6, 2) := by decide +kernel
theorem dX0_writeRows_13 : decode cX0_writeRows 13 = .ok (.if_icmp .gt 18, 3) := by decide +kernel
theorem dX0_writeRows_16 : decode cX0_writeRows 16 = .ok (.aload_n 0, 1) := by decide +kernel
theorem dX0_writeRows_17 : decode cX0_writeRows 17 = .ok (.getfield 17, 3) := by decide +kernel
theorem dX0_writeRows_20 : decode cX0_writeRows 20 = .ok (.iload_n 1, 1) := by decide +kernel
theorem dX0_writeRows_21 : decode cX0_writeRows 21 = .ok (.aaload, 1) := by decide +kernel
theorem dX0_writeRows_22 : decode cX0_writeRows 22 = .ok (.iload_n 2, 1) := by decide +kernel
theorem dX0_writeRows_23 : decode cX0_writeRows 23 = .ok (.lconst 0, 1) := by decide +kernel
theorem dX0_writeRows_24 : decode cX0_writeRows 24 = .ok (.lastore, 1) := by decide +kernel
theorem dX0_writeRows_25 : decode cX0_writeRows 25 = .ok (.iinc 2 1, 3) := by decide +kernel
theorem dX0_writeRows_28 : decode cX0_writeRows 28 = .ok (.goto (-18), 3) := by decide +kernel
theorem dX0_writeRows_31 : decode cX0_writeRows 31 = .ok (.iinc 1 1, 3) := by decide +kernel
theorem dX0_writeRows_34 : decode cX0_writeRows 34 = .ok (.goto (-32), 3) := by decide +kernel
theorem dX0_writeRows_37 : decode cX0_writeRows 37 = .ok (.iconst 0, 1) := by decide +kernel
theorem dX0_writeRows_38 : decode cX0_writeRows 38 = .ok (.istore_n 1, 1) := by decide +kernel
theorem dX0_writeRows_39 : decode cX0_writeRows 39 = .ok (.iload_n 1, 1) := by decide +kernel
theorem dX0_writeRows_40 : decode cX0_writeRows 40 = .ok (.aload_n 0, 1) := by decide +kernel
theorem dX0_writeRows_41 : decode cX0_writeRows 41 = .ok (.getfield 9, 3) := by decide +kernel
theorem dX0_writeRows_44 : decode cX0_writeRows 44 = .ok (.getfield 51, 3) := by decide +kernel
theorem dX0_writeRows_47 : decode cX0_writeRows 47 = .ok (.if_icmp .ge 34, 3) := by decide +kernel
theorem dX0_writeRows_50 : decode cX0_writeRows 50 = .ok (.iconst 0, 1) := by decide +kernel
theorem dX0_writeRows_51 : decode cX0_writeRows 51 = .ok (.istore_n 2, 1) := by decide +kernel
theorem dX0_writeRows_52 : decode cX0_writeRows 52 = .ok (.iload_n 2, 1) := by decide +kernel
theorem dX0_writeRows_53 : decode cX0_writeRows 53 = .ok (.aload_n 0, 1) := by decide +kernel
theorem dX0_writeRows_54 : decode cX0_writeRows 54 = .ok (.getfield 9, 3) := by decide +kernel
theorem dX0_writeRows_57 : decode cX0_writeRows 57 = .ok (.getfield 51, 3) := by decide +kernel
theorem dX0_writeRows_60 : decode cX0_writeRows 60 = .ok (.if_icmp .ge 15, 3) := by decide +kernel
theorem dX0_writeRows_63 : decode cX0_writeRows 63 = .ok (.aload_n 0, 1) := by decide +kernel
theorem dX0_writeRows_64 : decode cX0_writeRows 64 = .ok (.iload_n 1, 1) := by decide +kernel
theorem dX0_writeRows_65 : decode cX0_writeRows 65 = .ok (.iload_n 2, 1) := by decide +kernel
theorem dX0_writeRows_66 : decode cX0_writeRows 66 = .ok (.invokevirtual 57, 3) := by decide +kernel
theorem dX0_writeRows_69 : decode cX0_writeRows 69 = .ok (.iinc 2 1, 3) := by decide +kernel
theorem dX0_writeRows_72 : decode cX0_writeRows 72 = .ok (.goto (-20), 3) := by decide +kernel
theorem dX0_writeRows_75 : decode cX0_writeRows 75 = .ok (.iinc 1 1, 3) := by decide +kernel
theorem dX0_writeRows_78 : decode cX0_writeRows 78 = .ok (.goto (-39), 3) := by decide +kernel
theorem dX0_writeRows_81 : decode cX0_writeRows 81 = .ok (.return_, 1) := by decide +kernel
set_option maxRecDepth 20000 in
theorem ggX0_addPair_X1_weightOf : GoodIn wsX0_addPair wsX1_weightOf := goodIn_r _ [8, 9, 37, 38, 39, 40, 41, 42] (by decide +kernel) (by decide +kernel)
set_option maxRecDepth 20000 in
theorem gX0_addPair_X1_weightOf : GoodIn wsX0_addPair (wsV RX0 61 RX1 yX1_weightOf wsX1_weightOf) := goodIn_app (goodIn_of _ (by decide +kernel)) ggX0_addPair_X1_weightOf
set_option maxRecDepth 20000 in
theorem ggX0_addPair_X1_bareOf : GoodIn wsX0_addPair wsX1_bareOf := goodIn_r _ [13, 14, 15, 16, 17, 18, 19, 20, 21, 7, 22, 37, 38, 39, 40, 41, 42] (by decide +kernel) (by decide +kernel)
set_option maxRecDepth 20000 in
theorem gX0_addPair_X1_bareOf : GoodIn wsX0_addPair (wsV RX0 68 RX1 yX1_bareOf wsX1_bareOf) := goodIn_app (goodIn_of _ (by decide +kernel)) ggX0_addPair_X1_bareOf
set_option maxRecDepth 20000 in
theorem ggX0_addPair_X0_numberOf : GoodIn wsX0_addPair wsX0_numberOf := goodIn_r _ [27, 1, 28, 29, 30, 31, 32, 33, 34, 35, 36, 37, 38, 39, 40, 41, 42] (by decide +kernel) (by decide +kernel)
set_option maxRecDepth 20000 in
theorem gX0_addPair_X0_numberOf : GoodIn wsX0_addPair (wsV RX0 71 RX0 yX0_numberOf wsX0_numberOf) := goodIn_app (goodIn_of _ (by decide +kernel)) ggX0_addPair_X0_numberOf
theorem dX0_addPair_0 : decode cX0_addPair 0 = .ok (.aload_n 0, 1) := by decide +kernel
theorem dX0_addPair_1 : decode cX0_addPair 1 = .ok (.getfield 9, 3) := by decide +kernel
theorem dX0_addPair_4 : decode cX0_addPair 4 = .ok (.iload_n 1, 1) := by decide +kernel
theorem dX0_addPair_5 : decode cX0_addPair 5 = .ok (.iload_n 2, 1) := by decide +kernel
theorem dX0_addPair_6 : decode cX0_addPair 6 = .ok (.invokevirtual 61, 3) := by decide +kernel
theorem dX0_addPair_9 : decode cX0_addPair 9 = .ok (.i2l, 1) := by decide +kernel
theorem dX0_addPair_10 : decode cX0_addPair 10 = .ok (.lstore_n 3, 1) := by decide +kernel
theorem dX0_addPair_11 : decode cX0_addPair 11 = .ok (.lload_n 3, 1) := by decide +kernel
theorem dX0_addPair_12 : decode cX0_addPair 12 = .ok (.aload_n 0, 1) := by decide +kernel
theorem dX0_addPair_13 : decode cX0_addPair 13 = .ok (.getfield 9, 3) := by decide +kernel
theorem dX0_addPair_16 : decode cX0_addPair 16 = .ok (.getfield 65, 3) := by decide +kernel
theorem dX0_addPair_19 : decode cX0_addPair 19 = .ok (.aload_n 0, 1) := by decide +kernel
theorem dX0_addPair_20 : decode cX0_addPair 20 = .ok (.getfield 9, 3) := by decide +kernel
theorem dX0_addPair_23 : decode cX0_addPair 23 = .ok (.iload_n 1, 1) := by decide +kernel
theorem dX0_addPair_24 : decode cX0_addPair 24 = .ok (.iload_n 2, 1) := by decide +kernel
theorem dX0_addPair_25 : decode cX0_addPair 25 = .ok (.invokevirtual 68, 3) := by decide +kernel
theorem dX0_addPair_28 : decode cX0_addPair 28 = .ok (.isub, 1) := by decide +kernel
theorem dX0_addPair_29 : decode cX0_addPair 29 = .ok (.i2l, 1) := by decide +kernel
theorem dX0_addPair_30 : decode cX0_addPair 30 = .ok (.lmul, 1) := by decide +kernel
theorem dX0_addPair_31 : decode cX0_addPair 31 = .ok (.lstore 5, 2) := by decide +kernel
theorem dX0_addPair_33 : decode cX0_addPair 33 = .ok (.aload_n 0, 1) := by decide +kernel
theorem dX0_addPair_34 : decode cX0_addPair 34 = .ok (.iload_n 1, 1) := by decide +kernel
theorem dX0_addPair_35 : decode cX0_addPair 35 = .ok (.iconst 1, 1) := by decide +kernel
theorem dX0_addPair_36 : decode cX0_addPair 36 = .ok (.invokevirtual 71, 3) := by decide +kernel
theorem dX0_addPair_39 : decode cX0_addPair 39 = .ok (.istore 7, 2) := by decide +kernel
theorem dX0_addPair_41 : decode cX0_addPair 41 = .ok (.aload_n 0, 1) := by decide +kernel
theorem dX0_addPair_42 : decode cX0_addPair 42 = .ok (.iload_n 2, 1) := by decide +kernel
theorem dX0_addPair_43 : decode cX0_addPair 43 = .ok (.iconst 0, 1) := by decide +kernel
theorem dX0_addPair_44 : decode cX0_addPair 44 = .ok (.invokevirtual 71, 3) := by decide +kernel
theorem dX0_addPair_47 : decode cX0_addPair 47 = .ok (.istore 8, 2) := by decide +kernel
theorem dX0_addPair_49 : decode cX0_addPair 49 = .ok (.aload_n 0, 1) := by decide +kernel
theorem dX0_addPair_50 : decode cX0_addPair 50 = .ok (.getfield 17, 3) := by decide +kernel
theorem dX0_addPair_53 : decode cX0_addPair 53 = .ok (.iload 7, 2) := by decide +kernel
theorem dX0_addPair_55 : decode cX0_addPair 55 = .ok (.aaload, 1) := by decide +kernel
theorem dX0_addPair_56 : decode cX0_addPair 56 = .ok (.iload 7, 2) := by decide +kernel
theorem dX0_addPair_58 : decode cX0_addPair 58 = .ok (.dup2, 1) := by decide +kernel
theorem dX0_addPair_59 : decode cX0_addPair 59 = .ok (.laload, 1) := by decide +kernel
theorem dX0_addPair_60 : decode cX0_addPair 60 = .ok (.lload_n 3, 1) := by decide +kernel
theorem dX0_addPair_61 : decode cX0_addPair 61 = .ok (.ladd, 1) := by decide +kernel
theorem dX0_addPair_62 : decode cX0_addPair 62 = .ok (.lastore, 1) := by decide +kernel
theorem dX0_addPair_63 : decode cX0_addPair 63 = .ok (.aload_n 0, 1) := by decide +kernel
theorem dX0_addPair_64 : decode cX0_addPair 64 = .ok (.getfield 17, 3) := by decide +kernel
theorem dX0_addPair_67 : decode cX0_addPair 67 = .ok (.iload 7, 2) := by decide +kernel
theorem dX0_addPair_69 : decode cX0_addPair 69 = .ok (.aaload, 1) := by decide +kernel
theorem dX0_addPair_70 : decode cX0_addPair 70 = .ok (.iload 8, 2) := by decide +kernel
theorem dX0_addPair_72 : decode cX0_addPair 72 = .ok (.dup2, 1) := by decide +kernel
theorem dX0_addPair_73 : decode cX0_addPair 73 = .ok (.laload, 1) := by decide +kernel
theorem dX0_addPair_74 : decode cX0_addPair 74 = .ok (.lload_n 3, 1) := by decide +kernel
theorem dX0_addPair_75 : decode cX0_addPair 75 = .ok (.ladd, 1) := by decide +kernel
theorem dX0_addPair_76 : decode cX0_addPair 76 = .ok (.lastore, 1) := by decide +kernel
theorem dX0_addPair_77 : decode cX0_addPair 77 = .ok (.aload_n 0, 1) := by decide +kernel
theorem dX0_addPair_78 : decode cX0_addPair 78 = .ok (.getfield 17, 3) := by decide +kernel
theorem dX0_addPair_81 : decode cX0_addPair 81 = .ok (.iload 7, 2) := by decide +kernel
theorem dX0_addPair_83 : decode cX0_addPair 83 = .ok (.aaload, 1) := by decide +kernel
theorem dX0_addPair_84 : decode cX0_addPair 84 = .ok (.bipush 6, 2) := by decide +kernel
theorem dX0_addPair_86 : decode cX0_addPair 86 = .ok (.dup2, 1) := by decide +kernel
theorem dX0_addPair_87 : decode cX0_addPair 87 = .ok (.laload, 1) := by decide +kernel
theorem dX0_addPair_88 : decode cX0_addPair 88 = .ok (.lload 5, 2) := by decide +kernel
theorem dX0_addPair_90 : decode cX0_addPair 90 = .ok (.ladd, 1) := by decide +kernel
theorem dX0_addPair_91 : decode cX0_addPair 91 = .ok (.lastore, 1) := by decide +kernel
theorem dX0_addPair_92 : decode cX0_addPair 92 = .ok (.aload_n 0, 1) := by decide +kernel
theorem dX0_addPair_93 : decode cX0_addPair 93 = .ok (.getfield 17, 3) := by decide +kernel
theorem dX0_addPair_96 : decode cX0_addPair 96 = .ok (.iload 8, 2) := by decide +kernel
theorem dX0_addPair_98 : decode cX0_addPair 98 = .ok (.aaload, 1) := by decide +kernel
theorem dX0_addPair_99 : decode cX0_addPair 99 = .ok (.iload 7, 2) := by decide +kernel
theorem dX0_addPair_101 : decode cX0_addPair 101 = .ok (.dup2, 1) := by decide +kernel
theorem dX0_addPair_102 : decode cX0_addPair 102 = .ok (.laload, 1) := by decide +kernel
theorem dX0_addPair_103 : decode cX0_addPair 103 = .ok (.lload_n 3, 1) := by decide +kernel
theorem dX0_addPair_104 : decode cX0_addPair 104 = .ok (.ladd, 1) := by decide +kernel
theorem dX0_addPair_105 : decode cX0_addPair 105 = .ok (.lastore, 1) := by decide +kernel
theorem dX0_addPair_106 : decode cX0_addPair 106 = .ok (.aload_n 0, 1) := by decide +kernel
theorem dX0_addPair_107 : decode cX0_addPair 107 = .ok (.getfield 17, 3) := by decide +kernel
theorem dX0_addPair_110 : decode cX0_addPair 110 = .ok (.iload 8, 2) := by decide +kernel
theorem dX0_addPair_112 : decode cX0_addPair 112 = .ok (.aaload, 1) := by decide +kernel
theorem dX0_addPair_113 : decode cX0_addPair 113 = .ok (.iload 8, 2) := by decide +kernel
theorem dX0_addPair_115 : decode cX0_addPair 115 = .ok (.dup2, 1) := by decide +kernel
theorem dX0_addPair_116 : decode cX0_addPair 116 = .ok (.laload, 1) := by decide +kernel
theorem dX0_addPair_117 : decode cX0_addPair 117 = .ok (.lload_n 3, 1) := by decide +kernel
theorem dX0_addPair_118 : decode cX0_addPair 118 = .ok (.ladd, 1) := by decide +kernel
theorem dX0_addPair_119 : decode cX0_addPair 119 = .ok (.lastore, 1) := by decide +kernel
theorem dX0_addPair_120 : decode cX0_addPair 120 = .ok (.aload_n 0, 1) := by decide +kernel
theorem dX0_addPair_121 : decode cX0_addPair 121 = .ok (.getfield 17, 3) := by decide +kernel
theorem dX0_addPair_124 : decode cX0_addPair 124 = .ok (.iload 8, 2) := by decide +kernel
theorem dX0_addPair_126 : decode cX0_addPair 126 = .ok (.aaload, 1) := by decide +kernel
theorem dX0_addPair_127 : decode cX0_addPair 127 = .ok (.bipush 6, 2) := by decide +kernel
theorem dX0_addPair_129 : decode cX0_addPair 129 = .ok (.dup2, 1) := by decide +kernel
theorem dX0_addPair_130 : decode cX0_addPair 130 = .ok (.laload, 1) := by decide +kernel
theorem dX0_addPair_131 : decode cX0_addPair 131 = .ok (.lload 5, 2) := by decide +kernel
theorem dX0_addPair_133 : decode cX0_addPair 133 = .ok (.ladd, 1) := by decide +kernel
theorem dX0_addPair_134 : decode cX0_addPair 134 = .ok (.lastore, 1) := by decide +kernel
theorem dX0_addPair_135 : decode cX0_addPair 135 = .ok (.return_, 1) := by decide +kernel
set_option maxRecDepth 20000 in
theorem ggX0_solveRows_X0_spaces : GoodIn wsX0_solveRows wsX0_spaces := goodIn_r _ [9, 10, 11, 20, 21, 22, 23, 24, 25, 26, 27, 28, 29, 30, 31, 32, 33] (by decide +kernel) (by decide +kernel)
set_option maxRecDepth 20000 in
theorem gX0_solveRows_X0_spaces : GoodIn wsX0_solveRows (wsV RX0 74 RX0 yX0_spaces wsX0_spaces) := goodIn_app (goodIn_of _ (by decide +kernel)) ggX0_solveRows_X0_spaces
set_option maxRecDepth 20000 in
theorem ggX0_solveRows_X0_clearColumn : GoodIn wsX0_solveRows wsX0_clearColumn := goodIn_r _ [15, 3, 1, 16, 17, 18, 19, 5, 6, 7, 8, 9, 10, 11, 20, 21, 22, 23, 24, 25, 26, 27, 28, 29, 30, 31, 32, 33] (by decide +kernel) (by decide +kernel)
set_option maxRecDepth 20000 in
theorem gX0_solveRows_X0_clearColumn : GoodIn wsX0_solveRows (wsV RX0 78 RX0 yX0_clearColumn wsX0_clearColumn) := goodIn_app (goodIn_of _ (by decide +kernel)) ggX0_solveRows_X0_clearColumn
theorem dX0_solveRows_0 : decode cX0_solveRows 0 = .ok (.aload_n 0, 1) := by decide +kernel
theorem dX0_solveRows_1 : decode cX0_solveRows 1 = .ok (.lconst 1, 1) := by decide +kernel
theorem dX0_solveRows_2 : decode cX0_solveRows 2 = .ok (.putfield 28, 3) := by decide +kernel
theorem dX0_solveRows_5 : decode cX0_solveRows 5 = .ok (.iconst 0, 1) := by decide +kernel
theorem dX0_solveRows_6 : decode cX0_solveRows 6 = .ok (.istore_n 1, 1) := by decide +kernel
theorem dX0_solveRows_7 : decode cX0_solveRows 7 = .ok (.iload_n 1, 1) := by decide +kernel
theorem dX0_solveRows_8 : decode cX0_solveRows 8 = .ok (.aload_n 0, 1) := by decide +kernel
theorem dX0_solveRows_9 : decode cX0_solveRows 9 = .ok (.invokevirtual 74, 3) := by decide +kernel
theorem dX0_solveRows_12 : decode cX0_solveRows 12 = .ok (.if_icmp .ge 59, 3) := by decide +kernel
theorem dX0_solveRows_15 : decode cX0_solveRows 15 = .ok (.aload_n 0, 1) := by decide +kernel
theorem dX0_solveRows_16 : decode cX0_solveRows 16 = .ok (.getfield 20, 3) := by decide +kernel
theorem dX0_solveRows_19 : decode cX0_solveRows 19 = .ok (.iload_n 1, 1) := by decide +kernel
theorem dX0_solveRows_20 : decode cX0_solveRows 20 = .ok (.aload_n 0, 1) := by decide +kernel
theorem dX0_solveRows_21 : decode cX0_solveRows 21 = .ok (.getfield 17, 3) := by decide +kernel
theorem dX0_solveRows_24 : decode cX0_solveRows 24 = .ok (.iload_n 1, 1) := by decide +kernel
theorem dX0_solveRows_25 : decode cX0_solveRows 25 = .ok (.aaload, 1) := by decide +kernel
theorem dX0_solveRows_26 : decode cX0_solveRows 26 = .ok (.iload_n 1, 1) := by decide +kernel
theorem dX0_solveRows_27 : decode cX0_solveRows 27 = .ok (.laload, 1) := by decide +kernel
theorem dX0_solveRows_28 : decode cX0_solveRows 28 = .ok (.lconst 0, 1) := by decide +kernel
theorem dX0_solveRows_29 : decode cX0_solveRows 29 = .ok (.lcmp, 1) := by decide +kernel
theorem dX0_solveRows_30 : decode cX0_solveRows 30 = .ok (.ifCond .gt 7, 3) := by decide +kernel
theorem dX0_solveRows_33 : decode cX0_solveRows 33 = .ok (.iconst 1, 1) := by decide +kernel
theorem dX0_solveRows_34 : decode cX0_solveRows 34 = .ok (.goto 4, 3) := by decide +kernel
theorem dX0_solveRows_37 : decode cX0_solveRows 37 = .ok (.iconst 0, 1) := by decide +kernel
theorem dX0_solveRows_38 : decode cX0_solveRows 38 = .ok (.bastore, 1) := by decide +kernel
theorem dX0_solveRows_39 : decode cX0_solveRows 39 = .ok (.aload_n 0, 1) := by decide +kernel
theorem dX0_solveRows_40 : decode cX0_solveRows 40 = .ok (.getfield 20, 3) := by decide +kernel
theorem dX0_solveRows_43 : decode cX0_solveRows 43 = .ok (.iload_n 1, 1) := by decide +kernel
theorem dX0_solveRows_44 : decode cX0_solveRows 44 = .ok (.baload, 1) := by decide +kernel
theorem dX0_solveRows_45 : decode cX0_solveRows 45 = .ok (.ifCond .ne 20, 3) := by decide +kernel
theorem dX0_solveRows_48 : decode cX0_solveRows 48 = .ok (.aload_n 0, 1) := by decide +kernel
theorem dX0_solveRows_49 : decode cX0_solveRows 49 = .ok (.iload_n 1, 1) := by decide +kernel
theorem dX0_solveRows_50 : decode cX0_solveRows 50 = .ok (.invokevirtual 78, 3) := by decide +kernel
theorem dX0_solveRows_53 : decode cX0_solveRows 53 = .ok (.aload_n 0, 1) := by decide +kernel
theorem dX0_solveRows_54 : decode cX0_solveRows 54 = .ok (.aload_n 0, 1) := by decide +kernel
theorem dX0_solveRows_55 : decode cX0_solveRows 55 = .ok (.getfield 17, 3) := by decide +kernel
theorem dX0_solveRows_58 : decode cX0_solveRows 58 = .ok (.iload_n 1, 1) := by decide +kernel
theorem dX0_solveRows_59 : decode cX0_solveRows 59 = .ok (.aaload, 1) := by decide +kernel
theorem dX0_solveRows_60 : decode cX0_solveRows 60 = .ok (.iload_n 1, 1) := by decide +kernel
theorem dX0_solveRows_61 : decode cX0_solveRows 61 = .ok (.laload, 1) := by decide +kernel
theorem dX0_solveRows_62 : decode cX0_solveRows 62 = .ok (.putfield 28, 3) := by decide +kernel
theorem dX0_solveRows_65 : decode cX0_solveRows 65 = .ok (.iinc 1 1, 3) := by decide +kernel
theorem dX0_solveRows_68 : decode cX0_solveRows 68 = .ok (.goto (-61), 3) := by decide +kernel
theorem dX0_solveRows_71 : decode cX0_solveRows 71 = .ok (.iconst 0, 1) := by decide +kernel
theorem dX0_solveRows_72 : decode cX0_solveRows 72 = .ok (.istore_n 1, 1) := by decide +kernel
theorem dX0_solveRows_73 : decode cX0_solveRows 73 = .ok (.iload_n 1, 1) := by decide +kernel
theorem dX0_solveRows_74 : decode cX0_solveRows 74 = .ok (.aload_n 0, 1) := by decide +kernel
theorem dX0_solveRows_75 : decode cX0_solveRows 75 = .ok (.invokevirtual 74, 3) := by decide +kernel
theorem dX0_solveRows_78 : decode cX0_solveRows 78 = .ok (.if_icmp .ge 37, 3) := by decide +kernel
theorem dX0_solveRows_81 : decode cX0_solveRows 81 = .ok (.aload_n 0, 1) := by decide +kernel
theorem dX0_solveRows_82 : decode cX0_solveRows 82 = .ok (.getfield 24, 3) := by decide +kernel
theorem dX0_solveRows_85 : decode cX0_solveRows 85 = .ok (.iload_n 1, 1) := by decide +kernel
theorem dX0_solveRows_86 : decode cX0_solveRows 86 = .ok (.aload_n 0, 1) := by decide +kernel
theorem dX0_solveRows_87 : decode cX0_solveRows 87 = .ok (.getfield 20, 3) := by decide +kernel
theorem dX0_solveRows_90 : decode cX0_solveRows 90 = .ok (.iload_n 1, 1) := by decide +kernel
theorem dX0_solveRows_91 : decode cX0_solveRows 91 = .ok (.baload, 1) := by decide +kernel
theorem dX0_solveRows_92 : decode cX0_solveRows 92 = .ok (.ifCond .eq 7, 3) := by decide +kernel
theorem dX0_solveRows_95 : decode cX0_solveRows 95 = .ok (.lconst 0, 1) := by decide +kernel
theorem dX0_solveRows_96 : decode cX0_solveRows 96 = .ok (.goto 12, 3) := by decide +kernel
theorem dX0_solveRows_99 : decode cX0_solveRows 99 = .ok (.aload_n 0, 1) := by decide +kernel
theorem dX0_solveRows_100 : decode cX0_solveRows 100 = .ok (.getfield 17, 3) := by decide +kernel
theorem dX0_solveRows_103 : decode cX0_solveRows 103 = .ok (.iload_n 1, 1) := by decide +kernel
theorem dX0_solveRows_104 : decode cX0_solveRows 104 = .ok (.aaload, 1) := by decide +kernel
theorem dX0_solveRows_105 : decode cX0_solveRows 105 = .ok (.bipush 6, 2) := by decide +kernel
theorem dX0_solveRows_107 : decode cX0_solveRows 107 = .ok (.laload, 1) := by decide +kernel
theorem dX0_solveRows_108 : decode cX0_solveRows 108 = .ok (.lastore, 1) := by decide +kernel
theorem dX0_solveRows_109 : decode cX0_solveRows 109 = .ok (.iinc 1 1, 3) := by decide +kernel
theorem dX0_solveRows_112 : decode cX0_solveRows 112 = .ok (.goto (-39), 3) := by decide +kernel
theorem dX0_solveRows_115 : decode cX0_solveRows 115 = .ok (.return_, 1) := by decide +kernel
set_option maxRecDepth 20000 in
theorem ggX0_clearColumn_X0_spaces : GoodIn wsX0_clearColumn wsX0_spaces := goodIn_r _ [11, 12, 13, 14, 15, 16, 17, 18, 19, 20, 21, 22, 23, 24, 25, 26, 27] (by decide +kernel) (by decide +kernel)
set_option maxRecDepth 20000 in
theorem gX0_clearColumn_X0_spaces : GoodIn wsX0_clearColumn (wsV RX0 74 RX0 yX0_spaces wsX0_spaces) := goodIn_app (goodIn_of _ (by decide +kernel)) ggX0_clearColumn_X0_spaces
theorem dX0_clearColumn_0 : decode cX0_clearColumn 0 = .ok (.aload_n 0, 1) := by decide +kernel
theorem dX0_clearColumn_1 : decode cX0_clearColumn 1 = .ok (.getfield 17, 3) := by decide +kernel
theorem dX0_clearColumn_4 : decode cX0_clearColumn 4 = .ok (.iload_n 1, 1) := by decide +kernel
theorem dX0_clearColumn_5 : decode cX0_clearColumn 5 = .ok (.aaload, 1) := by decide +kernel
theorem dX0_clearColumn_6 : decode cX0_clearColumn 6 = .ok (.iload_n 1, 1) := by decide +kernel
theorem dX0_clearColumn_7 : decode cX0_clearColumn 7 = .ok (.laload, 1) := by decide +kernel
theorem dX0_clearColumn_8 : decode cX0_clearColumn 8 = .ok (.lstore_n 2, 1) := by decide +kernel
theorem dX0_clearColumn_9 : decode cX0_clearColumn 9 = .ok (.lconst 1, 1) := by decide +kernel
theorem dX0_clearColumn_10 : decode cX0_clearColumn 10 = .ok (.aload_n 0, 1) := by decide +kernel
theorem dX0_clearColumn_11 : decode cX0_clearColumn 11 = .ok (.getfield 28, 3) := by decide +kernel
theorem dX0_clearColumn_14 : decode cX0_clearColumn 14 = .ok (.invokestatic 82, 3) := by decide +kernel
theorem dX0_clearColumn_17 : decode cX0_clearColumn 17 = .ok (.lstore 4, 2) := by decide +kernel
theorem dX0_clearColumn_19 : decode cX0_clearColumn 19 = .ok (.iconst 0, 1) := by decide +kernel
theorem dX0_clearColumn_20 : decode cX0_clearColumn 20 = .ok (.istore 6, 2) := by decide +kernel
theorem dX0_clearColumn_22 : decode cX0_clearColumn 22 = .ok (.iload 6, 2) := by decide +kernel
theorem dX0_clearColumn_24 : decode cX0_clearColumn 24 = .ok (.aload_n 0, 1) := by decide +kernel
theorem dX0_clearColumn_25 : decode cX0_clearColumn 25 = .ok (.invokevirtual 74, 3) := by decide +kernel
theorem dX0_clearColumn_28 : decode cX0_clearColumn 28 = .ok (.if_icmp .ge 80, 3) := by decide +kernel
theorem dX0_clearColumn_31 : decode cX0_clearColumn 31 = .ok (.iload 6, 2) := by decide +kernel
theorem dX0_clearColumn_33 : decode cX0_clearColumn 33 = .ok (.iload_n 1, 1) := by decide +kernel
theorem dX0_clearColumn_34 : decode cX0_clearColumn 34 = .ok (.if_icmp .eq 68, 3) := by decide +kernel
theorem dX0_clearColumn_37 : decode cX0_clearColumn 37 = .ok (.aload_n 0, 1) := by decide +kernel
theorem dX0_clearColumn_38 : decode cX0_clearColumn 38 = .ok (.getfield 17, 3) := by decide +kernel
theorem dX0_clearColumn_41 : decode cX0_clearColumn 41 = .ok (.iload 6, 2) := by decide +kernel
theorem dX0_clearColumn_43 : decode cX0_clearColumn 43 = .ok (.aaload, 1) := by decide +kernel
theorem dX0_clearColumn_44 : decode cX0_clearColumn 44 = .ok (.iload_n 1, 1) := by decide +kernel
theorem dX0_clearColumn_45 : decode cX0_clearColumn 45 = .ok (.laload, 1) := by decide +kernel
theorem dX0_clearColumn_46 : decode cX0_clearColumn 46 = .ok (.lstore 7, 2) := by decide +kernel
theorem dX0_clearColumn_48 : decode cX0_clearColumn 48 = .ok (.iconst 0, 1) := by decide +kernel
theorem dX0_clearColumn_49 : decode cX0_clearColumn 49 = .ok (.istore 9, 2) := by decide +kernel
theorem dX0_clearColumn_51 : decode cX0_clearColumn 51 = .ok (.iload 9, 2) := by decide +kernel
theorem dX0_clearColumn_53 : decode cX0_clearColumn 53 = .ok (.bipush 6, 2) := by decide +kernel
theorem dX0_clearColumn_55 : decode cX0_clearColumn 55 = .ok (.if_icmp .gt 47, 3) := by decide +kernel
theorem dX0_clearColumn_58 : decode cX0_clearColumn 58 = .ok (.aload_n 0, 1) := by decide +kernel
theorem dX0_clearColumn_59 : decode cX0_clearColumn 59 = .ok (.getfield 17, 3) := by decide +kernel
theorem dX0_clearColumn_62 : decode cX0_clearColumn 62 = .ok (.iload 6, 2) := by decide +kernel
theorem dX0_clearColumn_64 : decode cX0_clearColumn 64 = .ok (.aaload, 1) := by decide +kernel
theorem dX0_clearColumn_65 : decode cX0_clearColumn 65 = .ok (.iload 9, 2) := by decide +kernel
theorem dX0_clearColumn_67 : decode cX0_clearColumn 67 = .ok (.lload_n 2, 1) := by decide +kernel
theorem dX0_clearColumn_68 : decode cX0_clearColumn 68 = .ok (.aload_n 0, 1) := by decide +kernel
theorem dX0_clearColumn_69 : decode cX0_clearColumn 69 = .ok (.getfield 17, 3) := by decide +kernel
theorem dX0_clearColumn_72 : decode cX0_clearColumn 72 = .ok (.iload 6, 2) := by decide +kernel
theorem dX0_clearColumn_74 : decode cX0_clearColumn 74 = .ok (.aaload, 1) := by decide +kernel
theorem dX0_clearColumn_75 : decode cX0_clearColumn 75 = .ok (.iload 9, 2) := by decide +kernel
theorem dX0_clearColumn_77 : decode cX0_clearColumn 77 = .ok (.laload, 1) := by decide +kernel
theorem dX0_clearColumn_78 : decode cX0_clearColumn 78 = .ok (.lmul, 1) := by decide +kernel
theorem dX0_clearColumn_79 : decode cX0_clearColumn 79 = .ok (.lload 7, 2) := by decide +kernel
theorem dX0_clearColumn_81 : decode cX0_clearColumn 81 = .ok (.aload_n 0, 1) := by decide +kernel
theorem dX0_clearColumn_82 : decode cX0_clearColumn 82 = .ok (.getfield 17, 3) := by decide +kernel
theorem dX0_clearColumn_85 : decode cX0_clearColumn 85 = .ok (.iload_n 1, 1) := by decide +kernel
theorem dX0_clearColumn_86 : decode cX0_clearColumn 86 = .ok (.aaload, 1) := by decide +kernel
theorem dX0_clearColumn_87 : decode cX0_clearColumn 87 = .ok (.iload 9, 2) := by decide +kernel
theorem dX0_clearColumn_89 : decode cX0_clearColumn 89 = .ok (.laload, 1) := by decide +kernel
theorem dX0_clearColumn_90 : decode cX0_clearColumn 90 = .ok (.lmul, 1) := by decide +kernel
theorem dX0_clearColumn_91 : decode cX0_clearColumn 91 = .ok (.lsub, 1) := by decide +kernel
theorem dX0_clearColumn_92 : decode cX0_clearColumn 92 = .ok (.lload 4, 2) := by decide +kernel
theorem dX0_clearColumn_94 : decode cX0_clearColumn 94 = .ok (.ldiv, 1) := by decide +kernel
theorem dX0_clearColumn_95 : decode cX0_clearColumn 95 = .ok (.lastore, 1) := by decide +kernel
theorem dX0_clearColumn_96 : decode cX0_clearColumn 96 = .ok (.iinc 9 1, 3) := by decide +kernel
theorem dX0_clearColumn_99 : decode cX0_clearColumn 99 = .ok (.goto (-48), 3) := by decide +kernel
theorem dX0_clearColumn_102 : decode cX0_clearColumn 102 = .ok (.iinc 6 1, 3) := by decide +kernel
theorem dX0_clearColumn_105 : decode cX0_clearColumn 105 = .ok (.goto (-83), 3) := by decide +kernel
theorem dX0_clearColumn_108 : decode cX0_clearColumn 108 = .ok (.return_, 1) := by decide +kernel
set_option maxRecDepth 20000 in
theorem ggX0_makeWhole_X0_spaces : GoodIn wsX0_makeWhole wsX0_spaces := goodIn_r _ [16, 17, 18, 30, 31, 32, 33, 34, 35, 36, 37, 38, 39, 40, 41, 42, 43] (by decide +kernel) (by decide +kernel)
set_option maxRecDepth 20000 in
theorem gX0_makeWhole_X0_spaces : GoodIn wsX0_makeWhole (wsV RX0 74 RX0 yX0_spaces wsX0_spaces) := goodIn_app (goodIn_of _ (by decide +kernel)) ggX0_makeWhole_X0_spaces
set_option maxRecDepth 20000 in
theorem ggX0_makeWhole_J9_floorDiv_f86c9 : GoodIn wsX0_makeWhole wsJ9_floorDiv_f86c9 := goodIn_r _ [22] (by decide +kernel) (by decide +kernel)
set_option maxRecDepth 20000 in
theorem gX0_makeWhole_J9_floorDiv_f86c9 : GoodIn wsX0_makeWhole (va_wsS RX0 90 yJ9_floorDiv_f86c9 wsJ9_floorDiv_f86c9) := goodIn_app (goodIn_of _ (by decide +kernel)) ggX0_makeWhole_J9_floorDiv_f86c9
set_option maxRecDepth 20000 in
theorem ggX0_makeWhole_J9_floorMod_f86c9 : GoodIn wsX0_makeWhole wsJ9_floorMod_f86c9 := goodIn_r _ [25] (by decide +kernel) (by decide +kernel)
set_option maxRecDepth 20000 in
theorem gX0_makeWhole_J9_floorMod_f86c9 : GoodIn wsX0_makeWhole (va_wsS RX0 93 yJ9_floorMod_f86c9 wsJ9_floorMod_f86c9) := goodIn_app (goodIn_of _ (by decide +kernel)) ggX0_makeWhole_J9_floorMod_f86c9
set_option maxRecDepth 20000 in
theorem ggX0_makeWhole_X0_firstOfGreatestRest : GoodIn wsX0_makeWhole wsX0_firstOfGreatestRest := goodIn_r _ [29, 9, 12, 13, 14, 15, 16, 17, 18, 30, 31, 32, 33, 34, 35, 36, 37, 38, 39, 40, 41, 42, 43] (by decide +kernel) (by decide +kernel)
set_option maxRecDepth 20000 in
theorem gX0_makeWhole_X0_firstOfGreatestRest : GoodIn wsX0_makeWhole (wsV RX0 98 RX0 yX0_firstOfGreatestRest wsX0_firstOfGreatestRest) := goodIn_app (goodIn_of _ (by decide +kernel)) ggX0_makeWhole_X0_firstOfGreatestRest
theorem dX0_makeWhole_0 : decode cX0_makeWhole 0 = .ok (.lconst 1, 1) := by decide +kernel
theorem dX0_makeWhole_1 : decode cX0_makeWhole 1 = .ok (.ldc2_w 88, 3) := by decide +kernel
theorem dX0_makeWhole_4 : decode cX0_makeWhole 4 = .ok (.aload_n 0, 1) := by decide +kernel
theorem dX0_makeWhole_5 : decode cX0_makeWhole 5 = .ok (.getfield 28, 3) := by decide +kernel
theorem dX0_makeWhole_8 : decode cX0_makeWhole 8 = .ok (.lmul, 1) := by decide +kernel
theorem dX0_makeWhole_9 : decode cX0_makeWhole 9 = .ok (.invokestatic 82, 3) := by decide +kernel
theorem dX0_makeWhole_12 : decode cX0_makeWhole 12 = .ok (.lstore_n 1, 1) := by decide +kernel
theorem dX0_makeWhole_13 : decode cX0_makeWhole 13 = .ok (.lconst 0, 1) := by decide +kernel
theorem dX0_makeWhole_14 : decode cX0_makeWhole 14 = .ok (.lstore_n 3, 1) := by decide +kernel
theorem dX0_makeWhole_15 : decode cX0_makeWhole 15 = .ok (.lconst 0, 1) := by decide +kernel
theorem dX0_makeWhole_16 : decode cX0_makeWhole 16 = .ok (.lstore 5, 2) := by decide +kernel
theorem dX0_makeWhole_18 : decode cX0_makeWhole 18 = .ok (.iconst 0, 1) := by decide +kernel
theorem dX0_makeWhole_19 : decode cX0_makeWhole 19 = .ok (.istore 7, 2) := by decide +kernel
theorem dX0_makeWhole_21 : decode cX0_makeWhole 21 = .ok (.iload 7, 2) := by decide +kernel
theorem dX0_makeWhole_23 : decode cX0_makeWhole 23 = .ok (.aload_n 0, 1) := by decide +kernel
theorem dX0_makeWhole_24 : decode cX0_makeWhole 24 = .ok (.invokevirtual 74, 3) := by decide +kernel
theorem dX0_makeWhole_27 : decode cX0_makeWhole 27 = .ok (.if_icmp .ge 67, 3) := by decide +kernel
theorem dX0_makeWhole_30 : decode cX0_makeWhole 30 = .ok (.aload_n 0, 1) := by decide +kernel
theorem dX0_makeWhole_31 : decode cX0_makeWhole 31 = .ok (.getfield 32, 3) := by decide +kernel
theorem dX0_makeWhole_34 : decode cX0_makeWhole 34 = .ok (.iload 7, 2) := by decide +kernel
theorem dX0_makeWhole_36 : decode cX0_makeWhole 36 = .ok (.aload_n 0, 1) := by decide +kernel
theorem dX0_makeWhole_37 : decode cX0_makeWhole 37 = .ok (.getfield 24, 3) := by decide +kernel
theorem dX0_makeWhole_40 : decode cX0_makeWhole 40 = .ok (.iload 7, 2) := by decide +kernel
theorem dX0_makeWhole_42 : decode cX0_makeWhole 42 = .ok (.laload, 1) := by decide +kernel
theorem dX0_makeWhole_43 : decode cX0_makeWhole 43 = .ok (.lload_n 1, 1) := by decide +kernel
theorem dX0_makeWhole_44 : decode cX0_makeWhole 44 = .ok (.invokestatic 90, 3) := by decide +kernel
theorem dX0_makeWhole_47 : decode cX0_makeWhole 47 = .ok (.lastore, 1) := by decide +kernel
theorem dX0_makeWhole_48 : decode cX0_makeWhole 48 = .ok (.aload_n 0, 1) := by decide +kernel
theorem dX0_makeWhole_49 : decode cX0_makeWhole 49 = .ok (.getfield 35, 3) := by decide +kernel
theorem dX0_makeWhole_52 : decode cX0_makeWhole 52 = .ok (.iload 7, 2) := by decide +kernel
theorem dX0_makeWhole_54 : decode cX0_makeWhole 54 = .ok (.aload_n 0, 1) := by decide +kernel
theorem dX0_makeWhole_55 : decode cX0_makeWhole 55 = .ok (.getfield 24, 3) := by decide +kernel
theorem dX0_makeWhole_58 : decode cX0_makeWhole 58 = .ok (.iload 7, 2) := by decide +kernel
theorem dX0_makeWhole_60 : decode cX0_makeWhole 60 = .ok (.laload, 1) := by decide +kernel
theorem dX0_makeWhole_61 : decode cX0_makeWhole 61 = .ok (.lload_n 1, 1) := by decide +kernel
theorem dX0_makeWhole_62 : decode cX0_makeWhole 62 = .ok (.invokestatic 93, 3) := by decide +kernel
theorem dX0_makeWhole_65 : decode cX0_makeWhole 65 = .ok (.lastore, 1) := by decide +kernel
theorem dX0_makeWhole_66 : decode cX0_makeWhole 66 = .ok (.lload_n 3, 1) := by decide +kernel
theorem dX0_makeWhole_67 : decode cX0_makeWhole 67 = .ok (.aload_n 0, 1) := by decide +kernel
theorem dX0_makeWhole_68 : decode cX0_makeWhole 68 = .ok (.getfield 24, 3) := by decide +kernel
theorem dX0_makeWhole_71 : decode cX0_makeWhole 71 = .ok (.iload 7, 2) := by decide +kernel
theorem dX0_makeWhole_73 : decode cX0_makeWhole 73 = .ok (.laload, 1) := by decide +kernel
theorem dX0_makeWhole_74 : decode cX0_makeWhole 74 = .ok (.ladd, 1) := by decide +kernel
theorem dX0_makeWhole_75 : decode cX0_makeWhole 75 = .ok (.lstore_n 3, 1) := by decide +kernel
theorem dX0_makeWhole_76 : decode cX0_makeWhole 76 = .ok (.lload 5, 2) := by decide +kernel
theorem dX0_makeWhole_78 : decode cX0_makeWhole 78 = .ok (.aload_n 0, 1) := by decide +kernel
theorem dX0_makeWhole_79 : decode cX0_makeWhole 79 = .ok (.getfield 32, 3) := by decide +kernel
theorem dX0_makeWhole_82 : decode cX0_makeWhole 82 = .ok (.iload 7, 2) := by decide +kernel
theorem dX0_makeWhole_84 : decode cX0_makeWhole 84 = .ok (.laload, 1) := by decide +kernel
theorem dX0_makeWhole_85 : decode cX0_makeWhole 85 = .ok (.ladd, 1) := by decide +kernel
theorem dX0_makeWhole_86 : decode cX0_makeWhole 86 = .ok (.lstore 5, 2) := by decide +kernel
theorem dX0_makeWhole_88 : decode cX0_makeWhole 88 = .ok (.iinc 7 1, 3) := by decide +kernel
theorem dX0_makeWhole_91 : decode cX0_makeWhole 91 = .ok (.goto (-70), 3) := by decide +kernel
theorem dX0_makeWhole_94 : decode cX0_makeWhole 94 = .ok (.ldc2_w 96, 3) := by decide +kernel
theorem dX0_makeWhole_97 : decode cX0_makeWhole 97 = .ok (.lload_n 3, 1) := by decide +kernel
theorem dX0_makeWhole_98 : decode cX0_makeWhole 98 = .ok (.lmul, 1) := by decide +kernel
theorem dX0_makeWhole_99 : decode cX0_makeWhole 99 = .ok (.lload_n 1, 1) := by decide +kernel
theorem dX0_makeWhole_100 : decode cX0_makeWhole 100 = .ok (.ladd, 1) := by decide +kernel
theorem dX0_makeWhole_101 : decode cX0_makeWhole 101 = .ok (.ldc2_w 96, 3) := by decide +kernel
theorem dX0_makeWhole_104 : decode cX0_makeWhole 104 = .ok (.lload_n 1, 1) := by decide +kernel
theorem dX0_makeWhole_105 : decode cX0_makeWhole 105 = .ok (.lmul, 1) := by decide +kernel
theorem dX0_makeWhole_106 : decode cX0_makeWhole 106 = .ok (.invokestatic 90, 3) := by decide +kernel
theorem dX0_makeWhole_109 : decode cX0_makeWhole 109 = .ok (.lload 5, 2) := by decide +kernel
theorem dX0_makeWhole_111 : decode cX0_makeWhole 111 = .ok (.lsub, 1) := by decide +kernel
theorem dX0_makeWhole_112 : decode cX0_makeWhole 112 = .ok (.lstore 7, 2) := by decide +kernel
theorem dX0_makeWhole_114 : decode cX0_makeWhole 114 = .ok (.iconst 0, 1) := by decide +kernel
theorem dX0_makeWhole_115 : decode cX0_makeWhole 115 = .ok (.istore 9, 2) := by decide +kernel
theorem dX0_makeWhole_117 : decode cX0_makeWhole 117 = .ok (.iload 9, 2) := by decide +kernel
theorem dX0_makeWhole_119 : decode cX0_makeWhole 119 = .ok (.aload_n 0, 1) := by decide +kernel
theorem dX0_makeWhole_120 : decode cX0_makeWhole 120 = .ok (.invokevirtual 74, 3) := by decide +kernel
theorem dX0_makeWhole_123 : decode cX0_makeWhole 123 = .ok (.if_icmp .ge 45, 3) := by decide +kernel
theorem dX0_makeWhole_126 : decode cX0_makeWhole 126 = .ok (.iload 9, 2) := by decide +kernel
theorem dX0_makeWhole_128 : decode cX0_makeWhole 128 = .ok (.i2l, 1) := by decide +kernel
theorem dX0_makeWhole_129 : decode cX0_makeWhole 129 = .ok (.lload 7, 2) := by decide +kernel
theorem dX0_makeWhole_131 : decode cX0_makeWhole 131 = .ok (.lcmp, 1) := by decide +kernel
theorem dX0_makeWhole_132 : decode cX0_makeWhole 132 = .ok (.ifCond .ge 36, 3) := by decide +kernel
theorem dX0_makeWhole_135 : decode cX0_makeWhole 135 = .ok (.aload_n 0, 1) := by decide +kernel
theorem dX0_makeWhole_136 : decode cX0_makeWhole 136 = .ok (.invokevirtual 98, 3) := by decide +kernel
theorem dX0_makeWhole_139 : decode cX0_makeWhole 139 = .ok (.istore 10, 2) := by decide +kernel
theorem dX0_makeWhole_141 : decode cX0_makeWhole 141 = .ok (.aload_n 0, 1) := by decide +kernel
theorem dX0_makeWhole_142 : decode cX0_makeWhole 142 = .ok (.getfield 32, 3) := by decide +kernel
theorem dX0_makeWhole_145 : decode cX0_makeWhole 145 = .ok (.iload 10, 2) := by decide +kernel
theorem dX0_makeWhole_147 : decode cX0_makeWhole 147 = .ok (.dup2, 1) := by decide +kernel
theorem dX0_makeWhole_148 : decode cX0_makeWhole 148 = .ok (.laload, 1) := by decide +kernel
theorem dX0_makeWhole_149 : decode cX0_makeWhole 149 = .ok (.lconst 1, 1) := by decide +kernel
theorem dX0_makeWhole_150 : decode cX0_makeWhole 150 = .ok (.ladd, 1) := by decide +kernel
theorem dX0_makeWhole_151 : decode cX0_makeWhole 151 = .ok (.lastore, 1) := by decide +kernel
theorem dX0_makeWhole_152 : decode cX0_makeWhole 152 = .ok (.aload_n 0, 1) := by decide +kernel
theorem dX0_makeWhole_153 : decode cX0_makeWhole 153 = .ok (.getfield 35, 3) := by decide +kernel
theorem dX0_makeWhole_156 : decode cX0_makeWhole 156 = .ok (.iload 10, 2) := by decide +kernel
theorem dX0_makeWhole_158 : decode cX0_makeWhole 158 = .ok (.ldc2_w 101, 3) := by decide +kernel
theorem dX0_makeWhole_161 : decode cX0_makeWhole 161 = .ok (.lastore, 1) := by decide +kernel
theorem dX0_makeWhole_162 : decode cX0_makeWhole 162 = .ok (.iinc 9 1, 3) := by decide +kernel
theorem dX0_makeWhole_165 : decode cX0_makeWhole 165 = .ok (.goto (-48), 3) := by decide +kernel
theorem dX0_makeWhole_168 : decode cX0_makeWhole 168 = .ok (.return_, 1) := by decide +kernel
set_option maxRecDepth 20000 in
theorem ggX0_firstOfGreatestRest_X0_spaces : GoodIn wsX0_firstOfGreatestRest wsX0_spaces := goodIn_r _ [6, 7, 8, 9, 10, 11, 12, 13, 14, 15, 16, 17, 18, 19, 20, 21, 22] (by decide +kernel) (by decide +kernel)
set_option maxRecDepth 20000 in
theorem gX0_firstOfGreatestRest_X0_spaces : GoodIn wsX0_firstOfGreatestRest (wsV RX0 74 RX0 yX0_spaces wsX0_spaces) := goodIn_app (goodIn_of _ (by decide +kernel)) ggX0_firstOfGreatestRest_X0_spaces
theorem dX0_firstOfGreatestRest_0 : decode cX0_firstOfGreatestRest 0 = .ok (.iconst 0, 1) := by decide +kernel
theorem dX0_firstOfGreatestRest_1 : decode cX0_firstOfGreatestRest 1 = .ok (.istore_n 1, 1) := by decide +kernel
theorem dX0_firstOfGreatestRest_2 : decode cX0_firstOfGreatestRest 2 = .ok (.iconst 1, 1) := by decide +kernel
theorem dX0_firstOfGreatestRest_3 : decode cX0_firstOfGreatestRest 3 = .ok (.istore_n 2, 1) := by decide +kernel
theorem dX0_firstOfGreatestRest_4 : decode cX0_firstOfGreatestRest 4 = .ok (.iload_n 2, 1) := by decide +kernel
theorem dX0_firstOfGreatestRest_5 : decode cX0_firstOfGreatestRest 5 = .ok (.aload_n 0, 1) := by decide +kernel
theorem dX0_firstOfGreatestRest_6 : decode cX0_firstOfGreatestRest 6 = .ok (.invokevirtual 74, 3) := by decide +kernel
theorem dX0_firstOfGreatestRest_9 : decode cX0_firstOfGreatestRest 9 = .ok (.if_icmp .ge 27, 3) := by decide +kernel
theorem dX0_firstOfGreatestRest_12 : decode cX0_firstOfGreatestRest 12 = .ok (.aload_n 0, 1) := by decide +kernel
theorem dX0_firstOfGreatestRest_13 : decode cX0_firstOfGreatestRest 13 = .ok (.getfield 35, 3) := by decide +kernel
theorem dX0_firstOfGreatestRest_16 : decode cX0_firstOfGreatestRest 16 = .ok (.iload_n 2, 1) := by decide +kernel
theorem dX0_firstOfGreatestRest_17 : decode cX0_firstOfGreatestRest 17 = .ok (.laload, 1) := by decide +kernel
theorem dX0_firstOfGreatestRest_18 : decode cX0_firstOfGreatestRest 18 = .ok (.aload_n 0, 1) := by decide +kernel
theorem dX0_firstOfGreatestRest_19 : decode cX0_firstOfGreatestRest 19 = .ok (.getfield 35, 3) := by decide +kernel
theorem dX0_firstOfGreatestRest_22 : decode cX0_firstOfGreatestRest 22 = .ok (.iload_n 1, 1) := by decide +kernel
theorem dX0_firstOfGreatestRest_23 : decode cX0_firstOfGreatestRest 23 = .ok (.laload, 1) := by decide +kernel
theorem dX0_firstOfGreatestRest_24 : decode cX0_firstOfGreatestRest 24 = .ok (.lcmp, 1) := by decide +kernel
theorem dX0_firstOfGreatestRest_25 : decode cX0_firstOfGreatestRest 25 = .ok (.ifCond .le 5, 3) := by decide +kernel
theorem dX0_firstOfGreatestRest_28 : decode cX0_firstOfGreatestRest 28 = .ok (.iload_n 2, 1) := by decide +kernel
theorem dX0_firstOfGreatestRest_29 : decode cX0_firstOfGreatestRest 29 = .ok (.istore_n 1, 1) := by decide +kernel
theorem dX0_firstOfGreatestRest_30 : decode cX0_firstOfGreatestRest 30 = .ok (.iinc 2 1, 3) := by decide +kernel
theorem dX0_firstOfGreatestRest_33 : decode cX0_firstOfGreatestRest 33 = .ok (.goto (-29), 3) := by decide +kernel
theorem dX0_firstOfGreatestRest_36 : decode cX0_firstOfGreatestRest 36 = .ok (.iload_n 1, 1) := by decide +kernel
theorem dX0_firstOfGreatestRest_37 : decode cX0_firstOfGreatestRest 37 = .ok (.ireturn, 1) := by decide +kernel
set_option maxRecDepth 20000 in
theorem ggX0_isOpen_X0_numberOf : GoodIn wsX0_isOpen wsX0_numberOf := goodIn_r _ [6, 7, 8, 9, 10, 11, 12, 13, 14, 15, 16, 17, 18, 19, 20, 21, 22] (by decide +kernel) (by decide +kernel)
set_option maxRecDepth 20000 in
theorem gX0_isOpen_X0_numberOf : GoodIn wsX0_isOpen (wsV RX0 71 RX0 yX0_numberOf wsX0_numberOf) := goodIn_app (goodIn_of _ (by decide +kernel)) ggX0_isOpen_X0_numberOf
theorem dX0_isOpen_0 : decode cX0_isOpen 0 = .ok (.aload_n 0, 1) := by decide +kernel
theorem dX0_isOpen_1 : decode cX0_isOpen 1 = .ok (.getfield 20, 3) := by decide +kernel
theorem dX0_isOpen_4 : decode cX0_isOpen 4 = .ok (.aload_n 0, 1) := by decide +kernel
theorem dX0_isOpen_5 : decode cX0_isOpen 5 = .ok (.iload_n 1, 1) := by decide +kernel
theorem dX0_isOpen_6 : decode cX0_isOpen 6 = .ok (.iload_n 2, 1) := by decide +kernel
theorem dX0_isOpen_7 : decode cX0_isOpen 7 = .ok (.invokevirtual 71, 3) := by decide +kernel
theorem dX0_isOpen_10 : decode cX0_isOpen 10 = .ok (.baload, 1) := by decide +kernel
theorem dX0_isOpen_11 : decode cX0_isOpen 11 = .ok (.ireturn, 1) := by decide +kernel
set_option maxRecDepth 20000 in
theorem ggX0_openSpaces_X0_spaces : GoodIn wsX0_openSpaces wsX0_spaces := goodIn_r _ [6, 7, 8, 9, 10, 11, 12, 13, 14, 15, 16, 17, 18, 19, 20, 21, 22] (by decide +kernel) (by decide +kernel)
set_option maxRecDepth 20000 in
theorem gX0_openSpaces_X0_spaces : GoodIn wsX0_openSpaces (wsV RX0 74 RX0 yX0_spaces wsX0_spaces) := goodIn_app (goodIn_of _ (by decide +kernel)) ggX0_openSpaces_X0_spaces
theorem dX0_openSpaces_0 : decode cX0_openSpaces 0 = .ok (.iconst 0, 1) := by decide +kernel
theorem dX0_openSpaces_1 : decode cX0_openSpaces 1 = .ok (.istore_n 1, 1) := by decide +kernel
theorem dX0_openSpaces_2 : decode cX0_openSpaces 2 = .ok (.iconst 0, 1) := by decide +kernel
theorem dX0_openSpaces_3 : decode cX0_openSpaces 3 = .ok (.istore_n 2, 1) := by decide +kernel
theorem dX0_openSpaces_4 : decode cX0_openSpaces 4 = .ok (.iload_n 2, 1) := by decide +kernel
theorem dX0_openSpaces_5 : decode cX0_openSpaces 5 = .ok (.aload_n 0, 1) := by decide +kernel
theorem dX0_openSpaces_6 : decode cX0_openSpaces 6 = .ok (.invokevirtual 74, 3) := by decide +kernel
theorem dX0_openSpaces_9 : decode cX0_openSpaces 9 = .ok (.if_icmp .ge 26, 3) := by decide +kernel
theorem dX0_openSpaces_12 : decode cX0_openSpaces 12 = .ok (.iload_n 1, 1) := by decide +kernel
theorem dX0_openSpaces_13 : decode cX0_openSpaces 13 = .ok (.aload_n 0, 1) := by decide +kernel
theorem dX0_openSpaces_14 : decode cX0_openSpaces 14 = .ok (.getfield 20, 3) := by decide +kernel
theorem dX0_openSpaces_17 : decode cX0_openSpaces 17 = .ok (.iload_n 2, 1) := by decide +kernel
theorem dX0_openSpaces_18 : decode cX0_openSpaces 18 = .ok (.baload, 1) := by decide +kernel
theorem dX0_openSpaces_19 : decode cX0_openSpaces 19 = .ok (.ifCond .eq 7, 3) := by decide +kernel
theorem dX0_openSpaces_22 : decode cX0_openSpaces 22 = .ok (.iconst 1, 1) := by decide +kernel
theorem dX0_openSpaces_23 : decode cX0_openSpaces 23 = .ok (.goto 4, 3) := by decide +kernel
theorem dX0_openSpaces_26 : decode cX0_openSpaces 26 = .ok (.iconst 0, 1) := by decide +kernel
theorem dX0_openSpaces_27 : decode cX0_openSpaces 27 = .ok (.iadd, 1) := by decide +kernel
theorem dX0_openSpaces_28 : decode cX0_openSpaces 28 = .ok (.istore_n 1, 1) := by decide +kernel
theorem dX0_openSpaces_29 : decode cX0_openSpaces 29 = .ok (.iinc 2 1, 3) := by decide +kernel
theorem dX0_openSpaces_32 : decode cX0_openSpaces 32 = .ok (.goto (-28), 3) := by decide +kernel
theorem dX0_openSpaces_35 : decode cX0_openSpaces 35 = .ok (.iload_n 1, 1) := by decide +kernel
theorem dX0_openSpaces_36 : decode cX0_openSpaces 36 = .ok (.ireturn, 1) := by decide +kernel
set_option maxRecDepth 20000 in
theorem ggX0_spaceAbove_X0_numberOf : GoodIn wsX0_spaceAbove wsX0_numberOf := goodIn_r _ [6, 7, 8, 9, 10, 11, 12, 13, 14, 15, 16, 17, 18, 19, 20, 21, 22] (by decide +kernel) (by decide +kernel)
set_option maxRecDepth 20000 in
theorem gX0_spaceAbove_X0_numberOf : GoodIn wsX0_spaceAbove (wsV RX0 71 RX0 yX0_numberOf wsX0_numberOf) := goodIn_app (goodIn_of _ (by decide +kernel)) ggX0_spaceAbove_X0_numberOf
theorem dX0_spaceAbove_0 : decode cX0_spaceAbove 0 = .ok (.aload_n 0, 1) := by decide +kernel
theorem dX0_spaceAbove_1 : decode cX0_spaceAbove 1 = .ok (.getfield 24, 3) := by decide +kernel
theorem dX0_spaceAbove_4 : decode cX0_spaceAbove 4 = .ok (.aload_n 0, 1) := by decide +kernel
theorem dX0_spaceAbove_5 : decode cX0_spaceAbove 5 = .ok (.iload_n 1, 1) := by decide +kernel
theorem dX0_spaceAbove_6 : decode cX0_spaceAbove 6 = .ok (.iload_n 2, 1) := by decide +kernel
theorem dX0_spaceAbove_7 : decode cX0_spaceAbove 7 = .ok (.invokevirtual 71, 3) := by decide +kernel
theorem dX0_spaceAbove_10 : decode cX0_spaceAbove 10 = .ok (.laload, 1) := by decide +kernel
theorem dX0_spaceAbove_11 : decode cX0_spaceAbove 11 = .ok (.lreturn, 1) := by decide +kernel
theorem dX0_spaceBelow_0 : decode cX0_spaceBelow 0 = .ok (.ldc2_w 88, 3) := by decide +kernel
theorem dX0_spaceBelow_3 : decode cX0_spaceBelow 3 = .ok (.aload_n 0, 1) := by decide +kernel
theorem dX0_spaceBelow_4 : decode cX0_spaceBelow 4 = .ok (.getfield 28, 3) := by decide +kernel
theorem dX0_spaceBelow_7 : decode cX0_spaceBelow 7 = .ok (.lmul, 1) := by decide +kernel
theorem dX0_spaceBelow_8 : decode cX0_spaceBelow 8 = .ok (.lreturn, 1) := by decide +kernel
set_option maxRecDepth 20000 in
theorem ggX0_wholeSpace_X0_numberOf : GoodIn wsX0_wholeSpace wsX0_numberOf := goodIn_r _ [6, 7, 8, 9, 10, 11, 12, 13, 14, 15, 16, 17, 18, 19, 20, 21, 22] (by decide +kernel) (by decide +kernel)
set_option maxRecDepth 20000 in
theorem gX0_wholeSpace_X0_numberOf : GoodIn wsX0_wholeSpace (wsV RX0 71 RX0 yX0_numberOf wsX0_numberOf) := goodIn_app (goodIn_of _ (by decide +kernel)) ggX0_wholeSpace_X0_numberOf
theorem dX0_wholeSpace_0 : decode cX0_wholeSpace 0 = .ok (.aload_n 0, 1) := by decide +kernel
theorem dX0_wholeSpace_1 : decode cX0_wholeSpace 1 = .ok (.getfield 32, 3) := by decide +kernel
theorem dX0_wholeSpace_4 : decode cX0_wholeSpace 4 = .ok (.aload_n 0, 1) := by decide +kernel
theorem dX0_wholeSpace_5 : decode cX0_wholeSpace 5 = .ok (.iload_n 1, 1) := by decide +kernel
theorem dX0_wholeSpace_6 : decode cX0_wholeSpace 6 = .ok (.iload_n 2, 1) := by decide +kernel
theorem dX0_wholeSpace_7 : decode cX0_wholeSpace 7 = .ok (.invokevirtual 71, 3) := by decide +kernel
theorem dX0_wholeSpace_10 : decode cX0_wholeSpace 10 = .ok (.laload, 1) := by decide +kernel
theorem dX0_wholeSpace_11 : decode cX0_wholeSpace 11 = .ok (.lreturn, 1) := by decide +kernel
set_option maxRecDepth 20000 in
theorem ggX0_whiteAbove_X0_spaceAbove : GoodIn wsX0_whiteAbove wsX0_spaceAbove := goodIn_r _ [7, 8, 9, 10, 11, 6, 12, 1, 13, 28, 29, 30, 31, 32, 33, 34, 35, 36, 37, 38, 39, 40, 41] (by decide +kernel) (by decide +kernel)
set_option maxRecDepth 20000 in
theorem gX0_whiteAbove_X0_spaceAbove : GoodIn wsX0_whiteAbove (wsV RX0 103 RX0 yX0_spaceAbove wsX0_spaceAbove) := goodIn_app (goodIn_of _ (by decide +kernel)) ggX0_whiteAbove_X0_spaceAbove
set_option maxRecDepth 20000 in
theorem ggX0_whiteAbove_X1_bareOf : GoodIn wsX0_whiteAbove wsX1_bareOf := goodIn_r _ [18, 19, 20, 21, 22, 23, 24, 25, 26, 17, 27, 36, 37, 38, 39, 40, 41] (by decide +kernel) (by decide +kernel)
set_option maxRecDepth 20000 in
theorem gX0_whiteAbove_X1_bareOf : GoodIn wsX0_whiteAbove (wsV RX0 68 RX1 yX1_bareOf wsX1_bareOf) := goodIn_app (goodIn_of _ (by decide +kernel)) ggX0_whiteAbove_X1_bareOf
theorem dX0_whiteAbove_0 : decode cX0_whiteAbove 0 = .ok (.aload_n 0, 1) := by decide +kernel
theorem dX0_whiteAbove_1 : decode cX0_whiteAbove 1 = .ok (.iload_n 1, 1) := by decide +kernel
theorem dX0_whiteAbove_2 : decode cX0_whiteAbove 2 = .ok (.iconst 1, 1) := by decide +kernel
theorem dX0_whiteAbove_3 : decode cX0_whiteAbove 3 = .ok (.invokevirtual 103, 3) := by decide +kernel
theorem dX0_whiteAbove_6 : decode cX0_whiteAbove 6 = .ok (.aload_n 0, 1) := by decide +kernel
theorem dX0_whiteAbove_7 : decode cX0_whiteAbove 7 = .ok (.iload_n 2, 1) := by decide +kernel
theorem dX0_whiteAbove_8 : decode cX0_whiteAbove 8 = .ok (.iconst 0, 1) := by decide +kernel
theorem dX0_whiteAbove_9 : decode cX0_whiteAbove 9 = .ok (.invokevirtual 103, 3) := by decide +kernel
theorem dX0_whiteAbove_12 : decode cX0_whiteAbove 12 = .ok (.ladd, 1) := by decide +kernel
theorem dX0_whiteAbove_13 : decode cX0_whiteAbove 13 = .ok (.aload_n 0, 1) := by decide +kernel
theorem dX0_whiteAbove_14 : decode cX0_whiteAbove 14 = .ok (.getfield 9, 3) := by decide +kernel
theorem dX0_whiteAbove_17 : decode cX0_whiteAbove 17 = .ok (.iload_n 1, 1) := by decide +kernel
theorem dX0_whiteAbove_18 : decode cX0_whiteAbove 18 = .ok (.iload_n 2, 1) := by decide +kernel
theorem dX0_whiteAbove_19 : decode cX0_whiteAbove 19 = .ok (.invokevirtual 68, 3) := by decide +kernel
theorem dX0_whiteAbove_22 : decode cX0_whiteAbove 22 = .ok (.i2l, 1) := by decide +kernel
theorem dX0_whiteAbove_23 : decode cX0_whiteAbove 23 = .ok (.aload_n 0, 1) := by decide +kernel
theorem dX0_whiteAbove_24 : decode cX0_whiteAbove 24 = .ok (.getfield 28, 3) := by decide +kernel
theorem dX0_whiteAbove_27 : decode cX0_whiteAbove 27 = .ok (.lmul, 1) := by decide +kernel
theorem dX0_whiteAbove_28 : decode cX0_whiteAbove 28 = .ok (.ladd, 1) := by decide +kernel
theorem dX0_whiteAbove_29 : decode cX0_whiteAbove 29 = .ok (.lreturn, 1) := by decide +kernel
theorem dX0_whiteBelow_0 : decode cX0_whiteBelow 0 = .ok (.aload_n 0, 1) := by decide +kernel
theorem dX0_whiteBelow_1 : decode cX0_whiteBelow 1 = .ok (.getfield 28, 3) := by decide +kernel
theorem dX0_whiteBelow_4 : decode cX0_whiteBelow 4 = .ok (.lreturn, 1) := by decide +kernel
set_option maxRecDepth 20000 in
theorem ggX0_leftOverAbove_X0_whiteAbove : GoodIn wsX0_leftOverAbove wsX0_whiteAbove := goodIn_r _ [8, 1, 3, 9, 10, 11, 7, 12, 13, 14, 15, 16, 17, 18, 19, 20, 21, 22, 23, 24, 25, 26, 27, 28, 29, 30, 31, 32, 33, 34, 35, 36, 37, 38, 39, 40, 41, 42, 43, 44, 45, 46] (by decide +kernel) (by decide +kernel)
set_option maxRecDepth 20000 in
theorem gX0_leftOverAbove_X0_whiteAbove : GoodIn wsX0_leftOverAbove (wsV RX0 107 RX0 yX0_whiteAbove wsX0_whiteAbove) := goodIn_app (goodIn_of _ (by decide +kernel)) ggX0_leftOverAbove_X0_whiteAbove
theorem dX0_leftOverAbove_0 : decode cX0_leftOverAbove 0 = .ok (.aload_n 0, 1) := by decide +kernel
theorem dX0_leftOverAbove_1 : decode cX0_leftOverAbove 1 = .ok (.iload_n 1, 1) := by decide +kernel
theorem dX0_leftOverAbove_2 : decode cX0_leftOverAbove 2 = .ok (.iload_n 2, 1) := by decide +kernel
theorem dX0_leftOverAbove_3 : decode cX0_leftOverAbove 3 = .ok (.invokevirtual 107, 3) := by decide +kernel
theorem dX0_leftOverAbove_6 : decode cX0_leftOverAbove 6 = .ok (.aload_n 0, 1) := by decide +kernel
theorem dX0_leftOverAbove_7 : decode cX0_leftOverAbove 7 = .ok (.getfield 9, 3) := by decide +kernel
theorem dX0_leftOverAbove_10 : decode cX0_leftOverAbove 10 = .ok (.getfield 65, 3) := by decide +kernel
theorem dX0_leftOverAbove_13 : decode cX0_leftOverAbove 13 = .ok (.i2l, 1) := by decide +kernel
theorem dX0_leftOverAbove_14 : decode cX0_leftOverAbove 14 = .ok (.aload_n 0, 1) := by decide +kernel
theorem dX0_leftOverAbove_15 : decode cX0_leftOverAbove 15 = .ok (.getfield 28, 3) := by decide +kernel
theorem dX0_leftOverAbove_18 : decode cX0_leftOverAbove 18 = .ok (.lmul, 1) := by decide +kernel
theorem dX0_leftOverAbove_19 : decode cX0_leftOverAbove 19 = .ok (.lsub, 1) := by decide +kernel
theorem dX0_leftOverAbove_20 : decode cX0_leftOverAbove 20 = .ok (.lreturn, 1) := by decide +kernel
set_option maxRecDepth 20000 in
theorem ggX0_squaresAbove_X0_leftOverAbove : GoodIn wsX0_squaresAbove wsX0_leftOverAbove := goodIn_r _ [7, 1, 8, 9, 10, 11, 12, 6, 13, 14, 15, 16, 17, 18, 19, 20, 21, 22, 2, 23, 24, 25, 26, 27, 28, 29, 30, 31, 32, 33, 34, 35, 36, 42, 43, 44, 45, 46, 47, 48, 49, 50, 51, 52, 53, 54, 55] (by decide +kernel) (by decide +kernel)
set_option maxRecDepth 20000 in
theorem gX0_squaresAbove_X0_leftOverAbove : GoodIn wsX0_squaresAbove (wsV RX0 110 RX0 yX0_leftOverAbove wsX0_leftOverAbove) := goodIn_app (goodIn_of _ (by decide +kernel)) ggX0_squaresAbove_X0_leftOverAbove
set_option maxRecDepth 20000 in
theorem ggX0_squaresAbove_X1_weightOf : GoodIn wsX0_squaresAbove wsX1_weightOf := goodIn_r _ [40, 41, 50, 51, 52, 53, 54, 55] (by decide +kernel) (by decide +kernel)
set_option maxRecDepth 20000 in
theorem gX0_squaresAbove_X1_weightOf : GoodIn wsX0_squaresAbove (wsV RX0 61 RX1 yX1_weightOf wsX1_weightOf) := goodIn_app (goodIn_of _ (by decide +kernel)) ggX0_squaresAbove_X1_weightOf
theorem dX0_squaresAbove_0 : decode cX0_squaresAbove 0 = .ok (.lconst 0, 1) := by decide +kernel
theorem dX0_squaresAbove_1 : decode cX0_squaresAbove 1 = .ok (.lstore_n 1, 1) := by decide +kernel
theorem dX0_squaresAbove_2 : decode cX0_squaresAbove 2 = .ok (.iconst 0, 1) := by decide +kernel
theorem dX0_squaresAbove_3 : decode cX0_squaresAbove 3 = .ok (.istore_n 3, 1) := by decide +kernel
theorem dX0_squaresAbove_4 : decode cX0_squaresAbove 4 = .ok (.iload_n 3, 1) := by decide +kernel
theorem dX0_squaresAbove_5 : decode cX0_squaresAbove 5 = .ok (.aload_n 0, 1) := by decide +kernel
theorem dX0_squaresAbove_6 : decode cX0_squaresAbove 6 = .ok (.getfield 9, 3) := by decide +kernel
theorem dX0_squaresAbove_9 : decode cX0_squaresAbove 9 = .ok (.getfield 51, 3) := by decide +kernel
theorem dX0_squaresAbove_12 : decode cX0_squaresAbove 12 = .ok (.if_icmp .ge 59, 3) := by decide +kernel
theorem dX0_squaresAbove_15 : decode cX0_squaresAbove 15 = .ok (.iconst 0, 1) := by decide +kernel
theorem dX0_squaresAbove_16 : decode cX0_squaresAbove 16 = .ok (.istore 4, 2) := by decide +kernel
theorem dX0_squaresAbove_18 : decode cX0_squaresAbove 18 = .ok (.iload 4, 2) := by decide +kernel
theorem dX0_squaresAbove_20 : decode cX0_squaresAbove 20 = .ok (.aload_n 0, 1) := by decide +kernel
theorem dX0_squaresAbove_21 : decode cX0_squaresAbove 21 = .ok (.getfield 9, 3) := by decide +kernel
theorem dX0_squaresAbove_24 : decode cX0_squaresAbove 24 = .ok (.getfield 51, 3) := by decide +kernel
theorem dX0_squaresAbove_27 : decode cX0_squaresAbove 27 = .ok (.if_icmp .ge 38, 3) := by decide +kernel
theorem dX0_squaresAbove_30 : decode cX0_squaresAbove 30 = .ok (.aload_n 0, 1) := by decide +kernel
theorem dX0_squaresAbove_31 : decode cX0_squaresAbove 31 = .ok (.iload_n 3, 1) := by decide +kernel
theorem dX0_squaresAbove_32 : decode cX0_squaresAbove 32 = .ok (.iload 4, 2) := by decide +kernel
theorem dX0_squaresAbove_34 : decode cX0_squaresAbove 34 = .ok (.invokevirtual 110, 3) := by decide +kernel
theorem dX0_squaresAbove_37 : decode cX0_squaresAbove 37 = .ok (.lstore 5, 2) := by decide +kernel
theorem dX0_squaresAbove_39 : decode cX0_squaresAbove 39 = .ok (.lload_n 1, 1) := by decide +kernel
theorem dX0_squaresAbove_40 : decode cX0_squaresAbove 40 = .ok (.aload_n 0, 1) := by decide +kernel
theorem dX0_squaresAbove_41 : decode cX0_squaresAbove 41 = .ok (.getfield 9, 3) := by decide +kernel
theorem dX0_squaresAbove_44 : decode cX0_squaresAbove 44 = .ok (.iload_n 3, 1) := by decide +kernel
theorem dX0_squaresAbove_45 : decode cX0_squaresAbove 45 = .ok (.iload 4, 2) := by decide +kernel
theorem dX0_squaresAbove_47 : decode cX0_squaresAbove 47 = .ok (.invokevirtual 61, 3) := by decide +kernel
theorem dX0_squaresAbove_50 : decode cX0_squaresAbove 50 = .ok (.i2l, 1) := by decide +kernel
theorem dX0_squaresAbove_51 : decode cX0_squaresAbove 51 = .ok (.lload 5, 2) := by decide +kernel
theorem dX0_squaresAbove_53 : decode cX0_squaresAbove 53 = .ok (.lmul, 1) := by decide +kernel
theorem dX0_squaresAbove_54 : decode cX0_squaresAbove 54 = .ok (.lload 5, 2) := by decide +kernel
theorem dX0_squaresAbove_56 : decode cX0_squaresAbove 56 = .ok (.lmul, 1) := by decide +kernel
theorem dX0_squaresAbove_57 : decode cX0_squaresAbove 57 = .ok (.ladd, 1) := by decide +kernel
theorem dX0_squaresAbove_58 : decode cX0_squaresAbove 58 = .ok (.lstore_n 1, 1) := by decide +kernel
theorem dX0_squaresAbove_59 : decode cX0_squaresAbove 59 = .ok (.iinc 4 1, 3) := by decide +kernel
theorem dX0_squaresAbove_62 : decode cX0_squaresAbove 62 = .ok (.goto (-44), 3) := by decide +kernel
theorem dX0_squaresAbove_65 : decode cX0_squaresAbove 65 = .ok (.iinc 3 1, 3) := by decide +kernel
theorem dX0_squaresAbove_68 : decode cX0_squaresAbove 68 = .ok (.goto (-64), 3) := by decide +kernel
theorem dX0_squaresAbove_71 : decode cX0_squaresAbove 71 = .ok (.lload_n 1, 1) := by decide +kernel
theorem dX0_squaresAbove_72 : decode cX0_squaresAbove 72 = .ok (.lreturn, 1) := by decide +kernel
theorem dX0_squaresBelow_0 : decode cX0_squaresBelow 0 = .ok (.aload_n 0, 1) := by decide +kernel
theorem dX0_squaresBelow_1 : decode cX0_squaresBelow 1 = .ok (.getfield 28, 3) := by decide +kernel
theorem dX0_squaresBelow_4 : decode cX0_squaresBelow 4 = .ok (.aload_n 0, 1) := by decide +kernel
theorem dX0_squaresBelow_5 : decode cX0_squaresBelow 5 = .ok (.getfield 28, 3) := by decide +kernel
theorem dX0_squaresBelow_8 : decode cX0_squaresBelow 8 = .ok (.lmul, 1) := by decide +kernel
theorem dX0_squaresBelow_9 : decode cX0_squaresBelow 9 = .ok (.lreturn, 1) := by decide +kernel
set_option maxRecDepth 20000 in
theorem ggX0_worst_X0_leftOverAbove : GoodIn wsX0_worst wsX0_leftOverAbove := goodIn_r _ [12, 2, 13, 14, 15, 16, 17, 11, 18, 19, 20, 21, 22, 23, 24, 25, 26, 27, 3, 28, 29, 30, 31, 32, 33, 34, 35, 36, 6, 37, 38, 39, 40, 46, 47, 48, 49, 50, 51, 52, 53, 54, 55, 56, 57, 58, 59] (by decide +kernel) (by decide +kernel)
set_option maxRecDepth 20000 in
theorem gX0_worst_X0_leftOverAbove : GoodIn wsX0_worst (wsV RX0 110 RX0 yX0_leftOverAbove wsX0_leftOverAbove) := goodIn_app (goodIn_of _ (by decide +kernel)) ggX0_worst_X0_leftOverAbove
set_option maxRecDepth 20000 in
theorem ggX0_worst_X1_weightOf : GoodIn wsX0_worst wsX1_weightOf := goodIn_r _ [44, 45, 54, 55, 56, 57, 58, 59] (by decide +kernel) (by decide +kernel)
set_option maxRecDepth 20000 in
theorem gX0_worst_X1_weightOf : GoodIn wsX0_worst (wsV RX0 61 RX1 yX1_weightOf wsX1_weightOf) := goodIn_app (goodIn_of _ (by decide +kernel)) ggX0_worst_X1_weightOf
theorem dX0_worst_0 : decode cX0_worst 0 = .ok (.iconst (-1), 1) := by decide +kernel
theorem dX0_worst_1 : decode cX0_worst 1 = .ok (.istore_n 1, 1) := by decide +kernel
theorem dX0_worst_2 : decode cX0_worst 2 = .ok (.ldc2_w 101, 3) := by decide +kernel
theorem dX0_worst_5 : decode cX0_worst 5 = .ok (.lstore_n 2, 1) := by decide +kernel
theorem dX0_worst_6 : decode cX0_worst 6 = .ok (.iconst 0, 1) := by decide +kernel
theorem dX0_worst_7 : decode cX0_worst 7 = .ok (.istore 4, 2) := by decide +kernel
theorem dX0_worst_9 : decode cX0_worst 9 = .ok (.iload 4, 2) := by decide +kernel
theorem dX0_worst_11 : decode cX0_worst 11 = .ok (.aload_n 0, 1) := by decide +kernel
theorem dX0_worst_12 : decode cX0_worst 12 = .ok (.getfield 9, 3) := by decide +kernel
theorem dX0_worst_15 : decode cX0_worst 15 = .ok (.getfield 51, 3) := by decide +kernel
theorem dX0_worst_18 : decode cX0_worst 18 = .ok (.if_icmp .ge 76, 3) := by decide +kernel
theorem dX0_worst_21 : decode cX0_worst 21 = .ok (.iconst 0, 1) := by decide +kernel
theorem dX0_worst_22 : decode cX0_worst 22 = .ok (.istore 5, 2) := by decide +kernel
theorem dX0_worst_24 : decode cX0_worst 24 = .ok (.iload 5, 2) := by decide +kernel
theorem dX0_worst_26 : decode cX0_worst 26 = .ok (.aload_n 0, 1) := by decide +kernel
theorem dX0_worst_27 : decode cX0_worst 27 = .ok (.getfield 9, 3) := by decide +kernel
theorem dX0_worst_30 : decode cX0_worst 30 = .ok (.getfield 51, 3) := by decide +kernel
theorem dX0_worst_33 : decode cX0_worst 33 = .ok (.if_icmp .ge 55, 3) := by decide +kernel
theorem dX0_worst_36 : decode cX0_worst 36 = .ok (.aload_n 0, 1) := by decide +kernel
theorem dX0_worst_37 : decode cX0_worst 37 = .ok (.iload 4, 2) := by decide +kernel
theorem dX0_worst_39 : decode cX0_worst 39 = .ok (.iload 5, 2) := by decide +kernel
theorem dX0_worst_41 : decode cX0_worst 41 = .ok (.invokevirtual 110, 3) := by decide +kernel
theorem dX0_worst_44 : decode cX0_worst 44 = .ok (.invokestatic 113, 3) := by decide +kernel
theorem dX0_worst_47 : decode cX0_worst 47 = .ok (.lstore 6, 2) := by decide +kernel
theorem dX0_worst_49 : decode cX0_worst 49 = .ok (.aload_n 0, 1) := by decide +kernel
theorem dX0_worst_50 : decode cX0_worst 50 = .ok (.getfield 9, 3) := by decide +kernel
theorem dX0_worst_53 : decode cX0_worst 53 = .ok (.iload 4, 2) := by decide +kernel
theorem dX0_worst_55 : decode cX0_worst 55 = .ok (.iload 5, 2) := by decide +kernel
theorem dX0_worst_57 : decode cX0_worst 57 = .ok (.invokevirtual 61, 3) := by decide +kernel
theorem dX0_worst_60 : decode cX0_worst 60 = .ok (.ifCond .le 22, 3) := by decide +kernel
theorem dX0_worst_63 : decode cX0_worst 63 = .ok (.lload 6, 2) := by decide +kernel
theorem dX0_worst_65 : decode cX0_worst 65 = .ok (.lload_n 2, 1) := by decide +kernel
theorem dX0_worst_66 : decode cX0_worst 66 = .ok (.lcmp, 1) := by decide +kernel
theorem dX0_worst_67 : decode cX0_worst 67 = .ok (.ifCond .le 15, 3) := by decide +kernel
theorem dX0_worst_70 : decode cX0_worst 70 = .ok (.lload 6, 2) := by decide +kernel
theorem dX0_worst_72 : decode cX0_worst 72 = .ok (.lstore_n 2, 1) := by decide +kernel
theorem dX0_worst_73 : decode cX0_worst 73 = .ok (.bipush 10, 2) := by decide +kernel
theorem dX0_worst_75 : decode cX0_worst 75 = .ok (.iload 4, 2) := by decide +kernel
theorem dX0_worst_77 : decode cX0_worst 77 = .ok (.imul, 1) := by decide +kernel
theorem dX0_worst_78 : decode cX0_worst 78 = .ok (.iload 5, 2) := by decide +kernel
theorem dX0_worst_80 : decode cX0_worst 80 = .ok (.iadd, 1) := by decide +kernel
theorem dX0_worst_81 : decode cX0_worst 81 = .ok (.istore_n 1, 1) := by decide +kernel
theorem dX0_worst_82 : decode cX0_worst 82 = .ok (.iinc 5 1, 3) := by decide +kernel
theorem dX0_worst_85 : decode cX0_worst 85 = .ok (.goto (-61), 3) := by decide +kernel
theorem dX0_worst_88 : decode cX0_worst 88 = .ok (.iinc 4 1, 3) := by decide +kernel
theorem dX0_worst_91 : decode cX0_worst 91 = .ok (.goto (-82), 3) := by decide +kernel
theorem dX0_worst_94 : decode cX0_worst 94 = .ok (.iload_n 1, 1) := by decide +kernel
theorem dX0_worst_95 : decode cX0_worst 95 = .ok (.ireturn, 1) := by decide +kernel
set_option maxRecDepth 20000 in
theorem ggX1_init_X1_startAnew : GoodIn wsX1_init wsX1_startAnew := goodIn_r _ [14, 15, 7, 8, 9, 16, 17, 18, 19, 20, 21] (by decide +kernel) (by decide +kernel)
set_option maxRecDepth 20000 in
theorem gX1_init_X1_startAnew : GoodIn wsX1_init (wsV RX1 28 RX1 yX1_startAnew wsX1_startAnew) := goodIn_app (goodIn_of _ (by decide +kernel)) ggX1_init_X1_startAnew
theorem dX1_init_0 : decode cX1_init 0 = .ok (.aload_n 0, 1) := by decide +kernel
theorem dX1_init_1 : decode cX1_init 1 = .ok (.invokespecial 3, 3) := by decide +kernel
theorem dX1_init_4 : decode cX1_init 4 = .ok (.aload_n 0, 1) := by decide +kernel
theorem dX1_init_5 : decode cX1_init 5 = .ok (.bipush 20, 2) := by decide +kernel
theorem dX1_init_7 : decode cX1_init 7 = .ok (.putfield 9, 3) := by decide +kernel
theorem dX1_init_10 : decode cX1_init 10 = .ok (.aload_n 0, 1) := by decide +kernel
theorem dX1_init_11 : decode cX1_init 11 = .ok (.bipush 100, 2) := by decide +kernel
theorem dX1_init_13 : decode cX1_init 13 = .ok (.putfield 15, 3) := by decide +kernel
theorem dX1_init_16 : decode cX1_init 16 = .ok (.aload_n 0, 1) := by decide +kernel
theorem dX1_init_17 : decode cX1_init 17 = .ok (.iconst 3, 1) := by decide +kernel
theorem dX1_init_18 : decode cX1_init 18 = .ok (.newarray .int, 2) := by decide +kernel
theorem dX1_init_20 : decode cX1_init 20 = .ok (.putfield 18, 3) := by decide +kernel
theorem dX1_init_23 : decode cX1_init 23 = .ok (.aload_n 0, 1) := by decide +kernel
theorem dX1_init_24 : decode cX1_init 24 = .ok (.bipush 48, 2) := by decide +kernel
theorem dX1_init_26 : decode cX1_init 26 = .ok (.newarray .int, 2) := by decide +kernel
theorem dX1_init_28 : decode cX1_init 28 = .ok (.putfield 22, 3) := by decide +kernel
theorem dX1_init_31 : decode cX1_init 31 = .ok (.aload_n 0, 1) := by decide +kernel
theorem dX1_init_32 : decode cX1_init 32 = .ok (.bipush 9, 2) := by decide +kernel
theorem dX1_init_34 : decode cX1_init 34 = .ok (.newarray .int, 2) := by decide +kernel
theorem dX1_init_36 : decode cX1_init 36 = .ok (.putfield 25, 3) := by decide +kernel
theorem dX1_init_39 : decode cX1_init 39 = .ok (.aload_n 0, 1) := by decide +kernel
theorem dX1_init_40 : decode cX1_init 40 = .ok (.iconst 2, 1) := by decide +kernel
theorem dX1_init_41 : decode cX1_init 41 = .ok (.invokevirtual 28, 3) := by decide +kernel
theorem dX1_init_44 : decode cX1_init 44 = .ok (.return_, 1) := by decide +kernel
theorem dX1_startAnew_0 : decode cX1_startAnew 0 = .ok (.aload_n 0, 1) := by decide +kernel
theorem dX1_startAnew_1 : decode cX1_startAnew 1 = .ok (.iload_n 1, 1) := by decide +kernel
theorem dX1_startAnew_2 : decode cX1_startAnew 2 = .ok (.putfield 32, 3) := by decide +kernel
theorem dX1_startAnew_5 : decode cX1_startAnew 5 = .ok (.iconst 0, 1) := by decide +kernel
theorem dX1_startAnew_6 : decode cX1_startAnew 6 = .ok (.istore_n 2, 1) := by decide +kernel
theorem dX1_startAnew_7 : decode cX1_startAnew 7 = .ok (.iload_n 2, 1) := by decide +kernel
theorem dX1_startAnew_8 : decode cX1_startAnew 8 = .ok (.aload_n 0, 1) := by decide +kernel
theorem dX1_startAnew_9 : decode cX1_startAnew 9 = .ok (.getfield 18, 3) := by decide +kernel
theorem dX1_startAnew_12 : decode cX1_startAnew 12 = .ok (.arraylength, 1) := by decide +kernel
theorem dX1_startAnew_13 : decode cX1_startAnew 13 = .ok (.if_icmp .ge 17, 3) := by decide +kernel
theorem dX1_startAnew_16 : decode cX1_startAnew 16 = .ok (.aload_n 0, 1) := by decide +kernel
theorem dX1_startAnew_17 : decode cX1_startAnew 17 = .ok (.getfield 18, 3) := by decide +kernel
theorem dX1_startAnew_20 : decode cX1_startAnew 20 = .ok (.iload_n 2, 1) := by decide +kernel
theorem dX1_startAnew_21 : decode cX1_startAnew 21 = .ok (.bipush 10, 2) := by decide +kernel
theorem dX1_startAnew_23 : decode cX1_startAnew 23 = .ok (.iastore, 1) := by decide +kernel
theorem dX1_startAnew_24 : decode cX1_startAnew 24 = .ok (.iinc 2 1, 3) := by decide +kernel
theorem dX1_startAnew_27 : decode cX1_startAnew 27 = .ok (.goto (-20), 3) := by decide +kernel
theorem dX1_startAnew_30 : decode cX1_startAnew 30 = .ok (.iconst 0, 1) := by decide +kernel
theorem dX1_startAnew_31 : decode cX1_startAnew 31 = .ok (.istore_n 2, 1) := by decide +kernel
theorem dX1_startAnew_32 : decode cX1_startAnew 32 = .ok (.iload_n 2, 1) := by decide +kernel
theorem dX1_startAnew_33 : decode cX1_startAnew 33 = .ok (.aload_n 0, 1) := by decide +kernel
theorem dX1_startAnew_34 : decode cX1_startAnew 34 = .ok (.getfield 22, 3) := by decide +kernel
theorem dX1_startAnew_37 : decode cX1_startAnew 37 = .ok (.arraylength, 1) := by decide +kernel
theorem dX1_startAnew_38 : decode cX1_startAnew 38 = .ok (.if_icmp .ge 16, 3) := by decide +kernel
theorem dX1_startAnew_41 : decode cX1_startAnew 41 = .ok (.aload_n 0, 1) := by decide +kernel
theorem dX1_startAnew_42 : decode cX1_startAnew 42 = .ok (.getfield 22, 3) := by decide +kernel
theorem dX1_startAnew_45 : decode cX1_startAnew 45 = .ok (.iload_n 2, 1) := by decide +kernel
theorem dX1_startAnew_46 : decode cX1_startAnew 46 = .ok (.iconst 0, 1) := by decide +kernel
theorem dX1_startAnew_47 : decode cX1_startAnew 47 = .ok (.iastore, 1) := by decide +kernel
theorem dX1_startAnew_48 : decode cX1_startAnew 48 = .ok (.iinc 2 1, 3) := by decide +kernel
theorem dX1_startAnew_51 : decode cX1_startAnew 51 = .ok (.goto (-19), 3) := by decide +kernel
theorem dX1_startAnew_54 : decode cX1_startAnew 54 = .ok (.iconst 0, 1) := by decide +kernel
theorem dX1_startAnew_55 : decode cX1_startAnew 55 = .ok (.istore_n 2, 1) := by decide +kernel
theorem dX1_startAnew_56 : decode cX1_startAnew 56 = .ok (.iload_n 2, 1) := by decide +kernel
theorem dX1_startAnew_57 : decode cX1_startAnew 57 = .ok (.aload_n 0, 1) := by decide +kernel
theorem dX1_startAnew_58 : decode cX1_startAnew 58 = .ok (.getfield 25, 3) := by decide +kernel
theorem dX1_startAnew_61 : decode cX1_startAnew 61 = .ok (.arraylength, 1) := by decide +kernel
theorem dX1_startAnew_62 : decode cX1_startAnew 62 = .ok (.if_icmp .ge 16, 3) := by decide +kernel
theorem dX1_startAnew_65 : decode cX1_startAnew 65 = .ok (.aload_n 0, 1) := by decide +kernel
theorem dX1_startAnew_66 : decode cX1_startAnew 66 = .ok (.getfield 25, 3) := by decide +kernel
theorem dX1_startAnew_69 : decode cX1_startAnew 69 = .ok (.iload_n 2, 1) := by decide +kernel
theorem dX1_startAnew_70 : decode cX1_startAnew 70 = .ok (.iconst 0, 1) := by decide +kernel
theorem dX1_startAnew_71 : decode cX1_startAnew 71 = .ok (.iastore, 1) := by decide +kernel
theorem dX1_startAnew_72 : decode cX1_startAnew 72 = .ok (.iinc 2 1, 3) := by decide +kernel
theorem dX1_startAnew_75 : decode cX1_startAnew 75 = .ok (.goto (-19), 3) := by decide +kernel
theorem dX1_startAnew_78 : decode cX1_startAnew 78 = .ok (.return_, 1) := by decide +kernel
theorem dX1_takeAll_0 : decode cX1_takeAll 0 = .ok (.aload_n 0, 1) := by decide +kernel
theorem dX1_takeAll_1 : decode cX1_takeAll 1 = .ok (.aload_n 1, 1) := by decide +kernel
theorem dX1_takeAll_2 : decode cX1_takeAll 2 = .ok (.getfield 32, 3) := by decide +kernel
theorem dX1_takeAll_5 : decode cX1_takeAll 5 = .ok (.putfield 32, 3) := by decide +kernel
theorem dX1_takeAll_8 : decode cX1_takeAll 8 = .ok (.aload_n 0, 1) := by decide +kernel
theorem dX1_takeAll_9 : decode cX1_takeAll 9 = .ok (.aload_n 1, 1) := by decide +kernel
theorem dX1_takeAll_10 : decode cX1_takeAll 10 = .ok (.getfield 9, 3) := by decide +kernel
theorem dX1_takeAll_13 : decode cX1_takeAll 13 = .ok (.putfield 9, 3) := by decide +kernel
theorem dX1_takeAll_16 : decode cX1_takeAll 16 = .ok (.aload_n 0, 1) := by decide +kernel
theorem dX1_takeAll_17 : decode cX1_takeAll 17 = .ok (.aload_n 1, 1) := by decide +kernel
theorem dX1_takeAll_18 : decode cX1_takeAll 18 = .ok (.getfield 15, 3) := by decide +kernel
theorem dX1_takeAll_21 : decode cX1_takeAll 21 = .ok (.putfield 15, 3) := by decide +kernel
theorem dX1_takeAll_24 : decode cX1_takeAll 24 = .ok (.aload_n 1, 1) := by decide +kernel
theorem dX1_takeAll_25 : decode cX1_takeAll 25 = .ok (.getfield 18, 3) := by decide +kernel
theorem dX1_takeAll_28 : decode cX1_takeAll 28 = .ok (.iconst 0, 1) := by decide +kernel
theorem dX1_takeAll_29 : decode cX1_takeAll 29 = .ok (.aload_n 0, 1) := by decide +kernel
theorem dX1_takeAll_30 : decode cX1_takeAll 30 = .ok (.getfield 18, 3) := by decide +kernel
theorem dX1_takeAll_33 : decode cX1_takeAll 33 = .ok (.iconst 0, 1) := by decide +kernel
theorem dX1_takeAll_34 : decode cX1_takeAll 34 = .ok (.aload_n 0, 1) := by decide +kernel
theorem dX1_takeAll_35 : decode cX1_takeAll 35 = .ok (.getfield 18, 3) := by decide +kernel
theorem dX1_takeAll_38 : decode cX1_takeAll 38 = .ok (.arraylength, 1) := by decide +kernel
theorem dX1_takeAll_39 : decode cX1_takeAll 39 = .ok (.invokestatic 35, 3) := by decide +kernel
theorem dX1_takeAll_42 : decode cX1_takeAll 42 = .ok (.aload_n 1, 1) := by decide +kernel
theorem dX1_takeAll_43 : decode cX1_takeAll 43 = .ok (.getfield 22, 3) := by decide +kernel
theorem dX1_takeAll_46 : decode cX1_takeAll 46 = .ok (.iconst 0, 1) := by decide +kernel
theorem dX1_takeAll_47 : decode cX1_takeAll 47 = .ok (.aload_n 0, 1) := by decide +kernel
theorem dX1_takeAll_48 : decode cX1_takeAll 48 = .ok (.getfield 22, 3) := by decide +kernel
theorem dX1_takeAll_51 : decode cX1_takeAll 51 = .ok (.iconst 0, 1) := by decide +kernel
theorem dX1_takeAll_52 : decode cX1_takeAll 52 = .ok (.aload_n 0, 1) := by decide +kernel
theorem dX1_takeAll_53 : decode cX1_takeAll 53 = .ok (.getfield 22, 3) := by decide +kernel
theorem dX1_takeAll_56 : decode cX1_takeAll 56 = .ok (.arraylength, 1) := by decide +kernel
theorem dX1_takeAll_57 : decode cX1_takeAll 57 = .ok (.invokestatic 35, 3) := by decide +kernel
theorem dX1_takeAll_60 : decode cX1_takeAll 60 = .ok (.aload_n 1, 1) := by decide +kernel
theorem dX1_takeAll_61 : decode cX1_takeAll 61 = .ok (.getfield 25, 3) := by decide +kernel
theorem dX1_takeAll_64 : decode cX1_takeAll 64 = .ok (.iconst 0, 1) := by decide +kernel
theorem dX1_takeAll_65 : decode cX1_takeAll 65 = .ok (.aload_n 0, 1) := by decide +kernel
theorem dX1_takeAll_66 : decode cX1_takeAll 66 = .ok (.getfield 25, 3) := by decide +kernel
theorem dX1_takeAll_69 : decode cX1_takeAll 69 = .ok (.iconst 0, 1) := by decide +kernel
theorem dX1_takeAll_70 : decode cX1_takeAll 70 = .ok (.aload_n 0, 1) := by decide +kernel
theorem dX1_takeAll_71 : decode cX1_takeAll 71 = .ok (.getfield 25, 3) := by decide +kernel
theorem dX1_takeAll_74 : decode cX1_takeAll 74 = .ok (.arraylength, 1) := by decide +kernel
theorem dX1_takeAll_75 : decode cX1_takeAll 75 = .ok (.invokestatic 35, 3) := by decide +kernel
theorem dX1_takeAll_78 : decode cX1_takeAll 78 = .ok (.return_, 1) := by decide +kernel
set_option maxRecDepth 20000 in
theorem ggX1_hasLetter_X5_within : GoodIn wsX1_hasLetter wsX5_within := goodIn_r _ [4] (by decide +kernel) (by decide +kernel)
set_option maxRecDepth 20000 in
theorem gX1_hasLetter_X5_within_n41 : GoodIn wsX1_hasLetter (wsX5_within) := ggX1_hasLetter_X5_within
theorem dX1_hasLetter_0 : decode cX1_hasLetter 0 = .ok (.iload_n 1, 1) := by decide +kernel
theorem dX1_hasLetter_1 : decode cX1_hasLetter 1 = .ok (.iconst 0, 1) := by decide +kernel
theorem dX1_hasLetter_2 : decode cX1_hasLetter 2 = .ok (.aload_n 0, 1) := by decide +kernel
theorem dX1_hasLetter_3 : decode cX1_hasLetter 3 = .ok (.getfield 32, 3) := by decide +kernel
theorem dX1_hasLetter_6 : decode cX1_hasLetter 6 = .ok (.iconst 1, 1) := by decide +kernel
theorem dX1_hasLetter_7 : decode cX1_hasLetter 7 = .ok (.isub, 1) := by decide +kernel
theorem dX1_hasLetter_8 : decode cX1_hasLetter 8 = .ok (.invokestatic 41, 3) := by decide +kernel
theorem dX1_hasLetter_11 : decode cX1_hasLetter 11 = .ok (.ireturn, 1) := by decide +kernel
set_option maxRecDepth 20000 in
theorem ggX1_hasPair_X1_hasLetter : GoodIn wsX1_hasPair wsX1_hasLetter := goodIn_r _ [5, 6, 7, 8, 9, 10, 11, 12, 13, 14, 15] (by decide +kernel) (by decide +kernel)
set_option maxRecDepth 20000 in
theorem gX1_hasPair_X1_hasLetter : GoodIn wsX1_hasPair (wsV RX1 45 RX1 yX1_hasLetter wsX1_hasLetter) := goodIn_app (goodIn_of _ (by decide +kernel)) ggX1_hasPair_X1_hasLetter
theorem dX1_hasPair_0 : decode cX1_hasPair 0 = .ok (.aload_n 0, 1) := by decide +kernel
theorem dX1_hasPair_1 : decode cX1_hasPair 1 = .ok (.iload_n 1, 1) := by decide +kernel
theorem dX1_hasPair_2 : decode cX1_hasPair 2 = .ok (.invokevirtual 45, 3) := by decide +kernel
theorem dX1_hasPair_5 : decode cX1_hasPair 5 = .ok (.ifCond .eq 15, 3) := by decide +kernel
theorem dX1_hasPair_8 : decode cX1_hasPair 8 = .ok (.aload_n 0, 1) := by decide +kernel
theorem dX1_hasPair_9 : decode cX1_hasPair 9 = .ok (.iload_n 2, 1) := by decide +kernel
theorem dX1_hasPair_10 : decode cX1_hasPair 10 = .ok (.invokevirtual 45, 3) := by decide +kernel
theorem dX1_hasPair_13 : decode cX1_hasPair 13 = .ok (.ifCond .eq 7, 3) := by decide +kernel
theorem dX1_hasPair_16 : decode cX1_hasPair 16 = .ok (.iconst 1, 1) := by decide +kernel
theorem dX1_hasPair_17 : decode cX1_hasPair 17 = .ok (.goto 4, 3) := by decide +kernel
theorem dX1_hasPair_20 : decode cX1_hasPair 20 = .ok (.iconst 0, 1) := by decide +kernel
theorem dX1_hasPair_21 : decode cX1_hasPair 21 = .ok (.ireturn, 1) := by decide +kernel
theorem dX1_placeOfBack_0 : decode cX1_placeOfBack 0 = .ok (.iload_n 0, 1) := by decide +kernel
theorem dX1_placeOfBack_1 : decode cX1_placeOfBack 1 = .ok (.iconst 2, 1) := by decide +kernel
theorem dX1_placeOfBack_2 : decode cX1_placeOfBack 2 = .ok (.imul, 1) := by decide +kernel
theorem dX1_placeOfBack_3 : decode cX1_placeOfBack 3 = .ok (.iload_n 1, 1) := by decide +kernel
theorem dX1_placeOfBack_4 : decode cX1_placeOfBack 4 = .ok (.iadd, 1) := by decide +kernel
theorem dX1_placeOfBack_5 : decode cX1_placeOfBack 5 = .ok (.bipush 8, 2) := by decide +kernel
theorem dX1_placeOfBack_7 : decode cX1_placeOfBack 7 = .ok (.imul, 1) := by decide +kernel
theorem dX1_placeOfBack_8 : decode cX1_placeOfBack 8 = .ok (.iload_n 2, 1) := by decide +kernel
theorem dX1_placeOfBack_9 : decode cX1_placeOfBack 9 = .ok (.iadd, 1) := by decide +kernel
theorem dX1_placeOfBack_10 : decode cX1_placeOfBack 10 = .ok (.ireturn, 1) := by decide +kernel
set_option maxRecDepth 20000 in
theorem ggX1_backOf_X1_placeOfBack : GoodIn wsX1_backOf wsX1_placeOfBack := goodIn_r _ [5] (by decide +kernel) (by decide +kernel)
set_option maxRecDepth 20000 in
theorem gX1_backOf_X1_placeOfBack : GoodIn wsX1_backOf (va_wsS RX1 49 yX1_placeOfBack wsX1_placeOfBack) := goodIn_app (goodIn_of _ (by decide +kernel)) ggX1_backOf_X1_placeOfBack
theorem dX1_backOf_0 : decode cX1_backOf 0 = .ok (.aload_n 0, 1) := by decide +kernel
theorem dX1_backOf_1 : decode cX1_backOf 1 = .ok (.getfield 22, 3) := by decide +kernel
theorem dX1_backOf_4 : decode cX1_backOf 4 = .ok (.iload_n 1, 1) := by decide +kernel
theorem dX1_backOf_5 : decode cX1_backOf 5 = .ok (.iload_n 2, 1) := by decide +kernel
theorem dX1_backOf_6 : decode cX1_backOf 6 = .ok (.iload_n 3, 1) := by decide +kernel
theorem dX1_backOf_7 : decode cX1_backOf 7 = .ok (.invokestatic 49, 3) := by decide +kernel
theorem dX1_backOf_10 : decode cX1_backOf 10 = .ok (.iaload, 1) := by decide +kernel
theorem dX1_backOf_11 : decode cX1_backOf 11 = .ok (.ireturn, 1) := by decide +kernel
set_option maxRecDepth 20000 in
theorem ggX1_putBack_X1_placeOfBack : GoodIn wsX1_putBack wsX1_placeOfBack := goodIn_r _ [5] (by decide +kernel) (by decide +kernel)
set_option maxRecDepth 20000 in
theorem gX1_putBack_X1_placeOfBack : GoodIn wsX1_putBack (va_wsS RX1 49 yX1_placeOfBack wsX1_placeOfBack) := goodIn_app (goodIn_of _ (by decide +kernel)) ggX1_putBack_X1_placeOfBack
theorem dX1_putBack_0 : decode cX1_putBack 0 = .ok (.aload_n 0, 1) := by decide +kernel
theorem dX1_putBack_1 : decode cX1_putBack 1 = .ok (.getfield 22, 3) := by decide +kernel
theorem dX1_putBack_4 : decode cX1_putBack 4 = .ok (.iload_n 1, 1) := by decide +kernel
theorem dX1_putBack_5 : decode cX1_putBack 5 = .ok (.iload_n 2, 1) := by decide +kernel
theorem dX1_putBack_6 : decode cX1_putBack 6 = .ok (.iload_n 3, 1) := by decide +kernel
theorem dX1_putBack_7 : decode cX1_putBack 7 = .ok (.invokestatic 49, 3) := by decide +kernel
theorem dX1_putBack_10 : decode cX1_putBack 10 = .ok (.iload 4, 2) := by decide +kernel
theorem dX1_putBack_12 : decode cX1_putBack 12 = .ok (.iastore, 1) := by decide +kernel
theorem dX1_putBack_13 : decode cX1_putBack 13 = .ok (.return_, 1) := by decide +kernel
theorem dX1_weightOf_0 : decode cX1_weightOf 0 = .ok (.aload_n 0, 1) := by decide +kernel
theorem dX1_weightOf_1 : decode cX1_weightOf 1 = .ok (.getfield 25, 3) := by decide +kernel
theorem dX1_weightOf_4 : decode cX1_weightOf 4 = .ok (.iload_n 1, 1) := by decide +kernel
theorem dX1_weightOf_5 : decode cX1_weightOf 5 = .ok (.iconst 3, 1) := by decide +kernel
theorem dX1_weightOf_6 : decode cX1_weightOf 6 = .ok (.imul, 1) := by decide +kernel
theorem dX1_weightOf_7 : decode cX1_weightOf 7 = .ok (.iload_n 2, 1) := by decide +kernel
theorem dX1_weightOf_8 : decode cX1_weightOf 8 = .ok (.iadd, 1) := by decide +kernel
theorem dX1_weightOf_9 : decode cX1_weightOf 9 = .ok (.iaload, 1) := by decide +kernel
theorem dX1_weightOf_10 : decode cX1_weightOf 10 = .ok (.ireturn, 1) := by decide +kernel
theorem dX1_putWeight_0 : decode cX1_putWeight 0 = .ok (.aload_n 0, 1) := by decide +kernel
theorem dX1_putWeight_1 : decode cX1_putWeight 1 = .ok (.getfield 25, 3) := by decide +kernel
theorem dX1_putWeight_4 : decode cX1_putWeight 4 = .ok (.iload_n 1, 1) := by decide +kernel
theorem dX1_putWeight_5 : decode cX1_putWeight 5 = .ok (.iconst 3, 1) := by decide +kernel
theorem dX1_putWeight_6 : decode cX1_putWeight 6 = .ok (.imul, 1) := by decide +kernel
theorem dX1_putWeight_7 : decode cX1_putWeight 7 = .ok (.iload_n 2, 1) := by decide +kernel
theorem dX1_putWeight_8 : decode cX1_putWeight 8 = .ok (.iadd, 1) := by decide +kernel
theorem dX1_putWeight_9 : decode cX1_putWeight 9 = .ok (.iload_n 3, 1) := by decide +kernel
theorem dX1_putWeight_10 : decode cX1_putWeight 10 = .ok (.iastore, 1) := by decide +kernel
theorem dX1_putWeight_11 : decode cX1_putWeight 11 = .ok (.return_, 1) := by decide +kernel
theorem dX1_pairsWithWeight_0 : decode cX1_pairsWithWeight 0 = .ok (.iconst 0, 1) := by decide +kernel
theorem dX1_pairsWithWeight_1 : decode cX1_pairsWithWeight 1 = .ok (.istore_n 1, 1) := by decide +kernel
theorem dX1_pairsWithWeight_2 : decode cX1_pairsWithWeight 2 = .ok (.iconst 0, 1) := by decide +kernel
theorem dX1_pairsWithWeight_3 : decode cX1_pairsWithWeight 3 = .ok (.istore_n 2, 1) := by decide +kernel
theorem dX1_pairsWithWeight_4 : decode cX1_pairsWithWeight 4 = .ok (.iload_n 2, 1) := by decide +kernel
theorem dX1_pairsWithWeight_5 : decode cX1_pairsWithWeight 5 = .ok (.aload_n 0, 1) := by decide +kernel
theorem dX1_pairsWithWeight_6 : decode cX1_pairsWithWeight 6 = .ok (.getfield 25, 3) := by decide +kernel
theorem dX1_pairsWithWeight_9 : decode cX1_pairsWithWeight 9 = .ok (.arraylength, 1) := by decide +kernel
theorem dX1_pairsWithWeight_10 : decode cX1_pairsWithWeight 10 = .ok (.if_icmp .ge 26, 3) := by decide +kernel
theorem dX1_pairsWithWeight_13 : decode cX1_pairsWithWeight 13 = .ok (.iload_n 1, 1) := by decide +kernel
theorem dX1_pairsWithWeight_14 : decode cX1_pairsWithWeight 14 = .ok (.aload_n 0, 1) := by decide +kernel
theorem dX1_pairsWithWeight_15 : decode cX1_pairsWithWeight 15 = .ok (.getfield 25, 3) := by decide +kernel
theorem dX1_pairsWithWeight_18 : decode cX1_pairsWithWeight 18 = .ok (.iload_n 2, 1) := by decide +kernel
theorem dX1_pairsWithWeight_19 : decode cX1_pairsWithWeight 19 = .ok (.iaload, 1) := by decide +kernel
theorem dX1_pairsWithWeight_20 : decode cX1_pairsWithWeight 20 = .ok (.ifCond .le 7, 3) := by decide +kernel
theorem dX1_pairsWithWeight_23 : decode cX1_pairsWithWeight 23 = .ok (.iconst 1, 1) := by decide +kernel
theorem dX1_pairsWithWeight_24 : decode cX1_pairsWithWeight 24 = .ok (.goto 4, 3) := by decide +kernel
theorem dX1_pairsWithWeight_27 : decode cX1_pairsWithWeight 27 = .ok (.iconst 0, 1) := by decide +kernel
theorem dX1_pairsWithWeight_28 : decode cX1_pairsWithWeight 28 = .ok (.iadd, 1) := by decide +kernel
theorem dX1_pairsWithWeight_29 : decode cX1_pairsWithWeight 29 = .ok (.istore_n 1, 1) := by decide +kernel
theorem dX1_pairsWithWeight_30 : decode cX1_pairsWithWeight 30 = .ok (.iinc 2 1, 3) := by decide +kernel
theorem dX1_pairsWithWeight_33 : decode cX1_pairsWithWeight 33 = .ok (.goto (-29), 3) := by decide +kernel
theorem dX1_pairsWithWeight_36 : decode cX1_pairsWithWeight 36 = .ok (.iload_n 1, 1) := by decide +kernel
theorem dX1_pairsWithWeight_37 : decode cX1_pairsWithWeight 37 = .ok (.ireturn, 1) := by decide +kernel
set_option maxRecDepth 20000 in
theorem ggX1_sumOfSide_X1_backOf : GoodIn wsX1_sumOfSide wsX1_backOf := goodIn_r _ [5, 6, 7, 8, 4, 9, 10, 11, 12, 13, 14, 15] (by decide +kernel) (by decide +kernel)
set_option maxRecDepth 20000 in
theorem gX1_sumOfSide_X1_backOf : GoodIn wsX1_sumOfSide (wsV RX1 53 RX1 yX1_backOf wsX1_backOf) := goodIn_app (goodIn_of _ (by decide +kernel)) ggX1_sumOfSide_X1_backOf
theorem dX1_sumOfSide_0 : decode cX1_sumOfSide 0 = .ok (.iconst 0, 1) := by decide +kernel
theorem dX1_sumOfSide_1 : decode cX1_sumOfSide 1 = .ok (.istore_n 3, 1) := by decide +kernel
theorem dX1_sumOfSide_2 : decode cX1_sumOfSide 2 = .ok (.iconst 0, 1) := by decide +kernel
theorem dX1_sumOfSide_3 : decode cX1_sumOfSide 3 = .ok (.istore 4, 2) := by decide +kernel
theorem dX1_sumOfSide_5 : decode cX1_sumOfSide 5 = .ok (.iload 4, 2) := by decide +kernel
theorem dX1_sumOfSide_7 : decode cX1_sumOfSide 7 = .ok (.bipush 8, 2) := by decide +kernel
theorem dX1_sumOfSide_9 : decode cX1_sumOfSide 9 = .ok (.if_icmp .ge 20, 3) := by decide +kernel
theorem dX1_sumOfSide_12 : decode cX1_sumOfSide 12 = .ok (.iload_n 3, 1) := by decide +kernel
theorem dX1_sumOfSide_13 : decode cX1_sumOfSide 13 = .ok (.aload_n 0, 1) := by decide +kernel
theorem dX1_sumOfSide_14 : decode cX1_sumOfSide 14 = .ok (.iload_n 1, 1) := by decide +kernel
theorem dX1_sumOfSide_15 : decode cX1_sumOfSide 15 = .ok (.iload_n 2, 1) := by decide +kernel
theorem dX1_sumOfSide_16 : decode cX1_sumOfSide 16 = .ok (.iload 4, 2) := by decide +kernel
theorem dX1_sumOfSide_18 : decode cX1_sumOfSide 18 = .ok (.invokevirtual 53, 3) := by decide +kernel
theorem dX1_sumOfSide_21 : decode cX1_sumOfSide 21 = .ok (.iadd, 1) := by decide +kernel
theorem dX1_sumOfSide_22 : decode cX1_sumOfSide 22 = .ok (.istore_n 3, 1) := by decide +kernel
theorem dX1_sumOfSide_23 : decode cX1_sumOfSide 23 = .ok (.iinc 4 1, 3) := by decide +kernel
theorem dX1_sumOfSide_26 : decode cX1_sumOfSide 26 = .ok (.goto (-21), 3) := by decide +kernel
theorem dX1_sumOfSide_29 : decode cX1_sumOfSide 29 = .ok (.iload_n 3, 1) := by decide +kernel
theorem dX1_sumOfSide_30 : decode cX1_sumOfSide 30 = .ok (.ireturn, 1) := by decide +kernel
set_option maxRecDepth 20000 in
theorem ggX1_bareOf_X1_placeOfBack : GoodIn wsX1_bareOf wsX1_placeOfBack := goodIn_r _ [10] (by decide +kernel) (by decide +kernel)
set_option maxRecDepth 20000 in
theorem gX1_bareOf_X1_placeOfBack : GoodIn wsX1_bareOf (va_wsS RX1 49 yX1_placeOfBack wsX1_placeOfBack) := goodIn_app (goodIn_of _ (by decide +kernel)) ggX1_bareOf_X1_placeOfBack
theorem dX1_bareOf_0 : decode cX1_bareOf 0 = .ok (.iload_n 1, 1) := by decide +kernel
theorem dX1_bareOf_1 : decode cX1_bareOf 1 = .ok (.iconst 1, 1) := by decide +kernel
theorem dX1_bareOf_2 : decode cX1_bareOf 2 = .ok (.iconst 0, 1) := by decide +kernel
theorem dX1_bareOf_3 : decode cX1_bareOf 3 = .ok (.invokestatic 49, 3) := by decide +kernel
theorem dX1_bareOf_6 : decode cX1_bareOf 6 = .ok (.istore_n 3, 1) := by decide +kernel
theorem dX1_bareOf_7 : decode cX1_bareOf 7 = .ok (.iload_n 2, 1) := by decide +kernel
theorem dX1_bareOf_8 : decode cX1_bareOf 8 = .ok (.iconst 0, 1) := by decide +kernel
theorem dX1_bareOf_9 : decode cX1_bareOf 9 = .ok (.iconst 0, 1) := by decide +kernel
theorem dX1_bareOf_10 : decode cX1_bareOf 10 = .ok (.invokestatic 49, 3) := by decide +kernel
theorem dX1_bareOf_13 : decode cX1_bareOf 13 = .ok (.istore 4, 2) := by decide +kernel
theorem dX1_bareOf_15 : decode cX1_bareOf 15 = .ok (.iconst 0, 1) := by decide +kernel
theorem dX1_bareOf_16 : decode cX1_bareOf 16 = .ok (.istore 5, 2) := by decide +kernel
theorem dX1_bareOf_18 : decode cX1_bareOf 18 = .ok (.iconst 0, 1) := by decide +kernel
theorem dX1_bareOf_19 : decode cX1_bareOf 19 = .ok (.istore 6, 2) := by decide +kernel
theorem dX1_bareOf_21 : decode cX1_bareOf 21 = .ok (.iload 6, 2) := by decide +kernel
theorem dX1_bareOf_23 : decode cX1_bareOf 23 = .ok (.bipush 8, 2) := by decide +kernel
theorem dX1_bareOf_25 : decode cX1_bareOf 25 = .ok (.if_icmp .ge 41, 3) := by decide +kernel
theorem dX1_bareOf_28 : decode cX1_bareOf 28 = .ok (.iload 5, 2) := by decide +kernel
theorem dX1_bareOf_30 : decode cX1_bareOf 30 = .ok (.aload_n 0, 1) := by decide +kernel
theorem dX1_bareOf_31 : decode cX1_bareOf 31 = .ok (.getfield 9, 3) := by decide +kernel
theorem dX1_bareOf_34 : decode cX1_bareOf 34 = .ok (.aload_n 0, 1) := by decide +kernel
theorem dX1_bareOf_35 : decode cX1_bareOf 35 = .ok (.getfield 22, 3) := by decide +kernel
theorem dX1_bareOf_38 : decode cX1_bareOf 38 = .ok (.iload_n 3, 1) := by decide +kernel
theorem dX1_bareOf_39 : decode cX1_bareOf 39 = .ok (.iload 6, 2) := by decide +kernel
theorem dX1_bareOf_41 : decode cX1_bareOf 41 = .ok (.iadd, 1) := by decide +kernel
theorem dX1_bareOf_42 : decode cX1_bareOf 42 = .ok (.iaload, 1) := by decide +kernel
theorem dX1_bareOf_43 : decode cX1_bareOf 43 = .ok (.aload_n 0, 1) := by decide +kernel
theorem dX1_bareOf_44 : decode cX1_bareOf 44 = .ok (.getfield 22, 3) := by decide +kernel
theorem dX1_bareOf_47 : decode cX1_bareOf 47 = .ok (.iload 4, 2) := by decide +kernel
theorem dX1_bareOf_49 : decode cX1_bareOf 49 = .ok (.iload 6, 2) := by decide +kernel
theorem dX1_bareOf_51 : decode cX1_bareOf 51 = .ok (.iadd, 1) := by decide +kernel
theorem dX1_bareOf_52 : decode cX1_bareOf 52 = .ok (.iaload, 1) := by decide +kernel
theorem dX1_bareOf_53 : decode cX1_bareOf 53 = .ok (.iadd, 1) := by decide +kernel
theorem dX1_bareOf_54 : decode cX1_bareOf 54 = .ok (.invokestatic 56, 3) := by decide +kernel
theorem dX1_bareOf_57 : decode cX1_bareOf 57 = .ok (.iadd, 1) := by decide +kernel
theorem dX1_bareOf_58 : decode cX1_bareOf 58 = .ok (.istore 5, 2) := by decide +kernel
theorem dX1_bareOf_60 : decode cX1_bareOf 60 = .ok (.iinc 6 1, 3) := by decide +kernel
theorem dX1_bareOf_63 : decode cX1_bareOf 63 = .ok (.goto (-42), 3) := by decide +kernel
theorem dX1_bareOf_66 : decode cX1_bareOf 66 = .ok (.iload 5, 2) := by decide +kernel
theorem dX1_bareOf_68 : decode cX1_bareOf 68 = .ok (.ireturn, 1) := by decide +kernel
set_option maxRecDepth 20000 in
theorem ggX1_bareOfAll_X1_bareOf : GoodIn wsX1_bareOfAll wsX1_bareOf := goodIn_r _ [6, 7, 8, 9, 10, 11, 12, 13, 14, 5, 15, 16, 17, 18, 19, 20, 21] (by decide +kernel) (by decide +kernel)
set_option maxRecDepth 20000 in
theorem gX1_bareOfAll_X1_bareOf : GoodIn wsX1_bareOfAll (wsV RX1 62 RX1 yX1_bareOf wsX1_bareOf) := goodIn_app (goodIn_of _ (by decide +kernel)) ggX1_bareOfAll_X1_bareOf
theorem dX1_bareOfAll_0 : decode cX1_bareOfAll 0 = .ok (.iconst 0, 1) := by decide +kernel
theorem dX1_bareOfAll_1 : decode cX1_bareOfAll 1 = .ok (.istore_n 1, 1) := by decide +kernel
theorem dX1_bareOfAll_2 : decode cX1_bareOfAll 2 = .ok (.iconst 0, 1) := by decide +kernel
theorem dX1_bareOfAll_3 : decode cX1_bareOfAll 3 = .ok (.istore_n 2, 1) := by decide +kernel
theorem dX1_bareOfAll_4 : decode cX1_bareOfAll 4 = .ok (.iload_n 2, 1) := by decide +kernel
theorem dX1_bareOfAll_5 : decode cX1_bareOfAll 5 = .ok (.aload_n 0, 1) := by decide +kernel
theorem dX1_bareOfAll_6 : decode cX1_bareOfAll 6 = .ok (.getfield 32, 3) := by decide +kernel
theorem dX1_bareOfAll_9 : decode cX1_bareOfAll 9 = .ok (.if_icmp .ge 34, 3) := by decide +kernel
theorem dX1_bareOfAll_12 : decode cX1_bareOfAll 12 = .ok (.iconst 0, 1) := by decide +kernel
theorem dX1_bareOfAll_13 : decode cX1_bareOfAll 13 = .ok (.istore_n 3, 1) := by decide +kernel
theorem dX1_bareOfAll_14 : decode cX1_bareOfAll 14 = .ok (.iload_n 3, 1) := by decide +kernel
theorem dX1_bareOfAll_15 : decode cX1_bareOfAll 15 = .ok (.aload_n 0, 1) := by decide +kernel
theorem dX1_bareOfAll_16 : decode cX1_bareOfAll 16 = .ok (.getfield 32, 3) := by decide +kernel
theorem dX1_bareOfAll_19 : decode cX1_bareOfAll 19 = .ok (.if_icmp .ge 18, 3) := by decide +kernel
theorem dX1_bareOfAll_22 : decode cX1_bareOfAll 22 = .ok (.iload_n 1, 1) := by decide +kernel
theorem dX1_bareOfAll_23 : decode cX1_bareOfAll 23 = .ok (.aload_n 0, 1) := by decide +kernel
theorem dX1_bareOfAll_24 : decode cX1_bareOfAll 24 = .ok (.iload_n 2, 1) := by decide +kernel
theorem dX1_bareOfAll_25 : decode cX1_bareOfAll 25 = .ok (.iload_n 3, 1) := by decide +kernel
theorem dX1_bareOfAll_26 : decode cX1_bareOfAll 26 = .ok (.invokevirtual 62, 3) := by decide +kernel
theorem dX1_bareOfAll_29 : decode cX1_bareOfAll 29 = .ok (.iadd, 1) := by decide +kernel
theorem dX1_bareOfAll_30 : decode cX1_bareOfAll 30 = .ok (.istore_n 1, 1) := by decide +kernel
theorem dX1_bareOfAll_31 : decode cX1_bareOfAll 31 = .ok (.iinc 3 1, 3) := by decide +kernel
theorem dX1_bareOfAll_34 : decode cX1_bareOfAll 34 = .ok (.goto (-20), 3) := by decide +kernel
theorem dX1_bareOfAll_37 : decode cX1_bareOfAll 37 = .ok (.iinc 2 1, 3) := by decide +kernel
theorem dX1_bareOfAll_40 : decode cX1_bareOfAll 40 = .ok (.goto (-36), 3) := by decide +kernel
theorem dX1_bareOfAll_43 : decode cX1_bareOfAll 43 = .ok (.iload_n 1, 1) := by decide +kernel
theorem dX1_bareOfAll_44 : decode cX1_bareOfAll 44 = .ok (.ireturn, 1) := by decide +kernel
set_option maxRecDepth 20000 in
theorem ggX1_hasLikeSides_X1_backOf : GoodIn wsX1_hasLikeSides wsX1_backOf := goodIn_r _ [5, 6, 7, 8, 4, 9, 10, 11, 12, 13, 14, 15] (by decide +kernel) (by decide +kernel)
set_option maxRecDepth 20000 in
theorem gX1_hasLikeSides_X1_backOf : GoodIn wsX1_hasLikeSides (wsV RX1 53 RX1 yX1_backOf wsX1_backOf) := goodIn_app (goodIn_of _ (by decide +kernel)) ggX1_hasLikeSides_X1_backOf
theorem dX1_hasLikeSides_0 : decode cX1_hasLikeSides 0 = .ok (.iconst 0, 1) := by decide +kernel
theorem dX1_hasLikeSides_1 : decode cX1_hasLikeSides 1 = .ok (.istore_n 2, 1) := by decide +kernel
theorem dX1_hasLikeSides_2 : decode cX1_hasLikeSides 2 = .ok (.iload_n 2, 1) := by decide +kernel
theorem dX1_hasLikeSides_3 : decode cX1_hasLikeSides 3 = .ok (.bipush 8, 2) := by decide +kernel
theorem dX1_hasLikeSides_5 : decode cX1_hasLikeSides 5 = .ok (.if_icmp .ge 28, 3) := by decide +kernel
theorem dX1_hasLikeSides_8 : decode cX1_hasLikeSides 8 = .ok (.aload_n 0, 1) := by decide +kernel
theorem dX1_hasLikeSides_9 : decode cX1_hasLikeSides 9 = .ok (.iload_n 1, 1) := by decide +kernel
theorem dX1_hasLikeSides_10 : decode cX1_hasLikeSides 10 = .ok (.iconst 0, 1) := by decide +kernel
theorem dX1_hasLikeSides_11 : decode cX1_hasLikeSides 11 = .ok (.iload_n 2, 1) := by decide +kernel
theorem dX1_hasLikeSides_12 : decode cX1_hasLikeSides 12 = .ok (.invokevirtual 53, 3) := by decide +kernel
theorem dX1_hasLikeSides_15 : decode cX1_hasLikeSides 15 = .ok (.aload_n 0, 1) := by decide +kernel
theorem dX1_hasLikeSides_16 : decode cX1_hasLikeSides 16 = .ok (.iload_n 1, 1) := by decide +kernel
theorem dX1_hasLikeSides_17 : decode cX1_hasLikeSides 17 = .ok (.iconst 1, 1) := by decide +kernel
theorem dX1_hasLikeSides_18 : decode cX1_hasLikeSides 18 = .ok (.iload_n 2, 1) := by decide +kernel
theorem dX1_hasLikeSides_19 : decode cX1_hasLikeSides 19 = .ok (.invokevirtual 53, 3) := by decide +kernel
theorem dX1_hasLikeSides_22 : decode cX1_hasLikeSides 22 = .ok (.if_icmp .eq 5, 3) := by decide +kernel
theorem dX1_hasLikeSides_25 : decode cX1_hasLikeSides 25 = .ok (.iconst 0, 1) := by decide +kernel
theorem dX1_hasLikeSides_26 : decode cX1_hasLikeSides 26 = .ok (.ireturn, 1) := by decide +kernel
theorem dX1_hasLikeSides_27 : decode cX1_hasLikeSides 27 = .ok (.iinc 2 1, 3) := by decide +kernel
theorem dX1_hasLikeSides_30 : decode cX1_hasLikeSides 30 = .ok (.goto (-28), 3) := by decide +kernel
theorem dX1_hasLikeSides_33 : decode cX1_hasLikeSides 33 = .ok (.iconst 1, 1) := by decide +kernel
theorem dX1_hasLikeSides_34 : decode cX1_hasLikeSides 34 = .ok (.ireturn, 1) := by decide +kernel
set_option maxRecDepth 20000 in
theorem ggX1_swapSides_X1_backOf : GoodIn wsX1_swapSides wsX1_backOf := goodIn_r _ [5, 6, 7, 8, 4, 9, 14, 15, 16, 17, 18, 19] (by decide +kernel) (by decide +kernel)
set_option maxRecDepth 20000 in
theorem gX1_swapSides_X1_backOf : GoodIn wsX1_swapSides (wsV RX1 53 RX1 yX1_backOf wsX1_backOf) := goodIn_app (goodIn_of _ (by decide +kernel)) ggX1_swapSides_X1_backOf
set_option maxRecDepth 20000 in
theorem ggX1_swapSides_X1_putBack : GoodIn wsX1_swapSides wsX1_putBack := goodIn_r _ [13, 6, 7, 8, 4, 9, 14, 15, 16, 17, 18, 19] (by decide +kernel) (by decide +kernel)
set_option maxRecDepth 20000 in
theorem gX1_swapSides_X1_putBack : GoodIn wsX1_swapSides (wsV RX1 65 RX1 yX1_putBack wsX1_putBack) := goodIn_app (goodIn_of _ (by decide +kernel)) ggX1_swapSides_X1_putBack
theorem dX1_swapSides_0 : decode cX1_swapSides 0 = .ok (.iconst 0, 1) := by decide +kernel
theorem dX1_swapSides_1 : decode cX1_swapSides 1 = .ok (.istore_n 2, 1) := by decide +kernel
theorem dX1_swapSides_2 : decode cX1_swapSides 2 = .ok (.iload_n 2, 1) := by decide +kernel
theorem dX1_swapSides_3 : decode cX1_swapSides 3 = .ok (.bipush 8, 2) := by decide +kernel
theorem dX1_swapSides_5 : decode cX1_swapSides 5 = .ok (.if_icmp .ge 39, 3) := by decide +kernel
theorem dX1_swapSides_8 : decode cX1_swapSides 8 = .ok (.aload_n 0, 1) := by decide +kernel
theorem dX1_swapSides_9 : decode cX1_swapSides 9 = .ok (.iload_n 1, 1) := by decide +kernel
theorem dX1_swapSides_10 : decode cX1_swapSides 10 = .ok (.iconst 0, 1) := by decide +kernel
theorem dX1_swapSides_11 : decode cX1_swapSides 11 = .ok (.iload_n 2, 1) := by decide +kernel
theorem dX1_swapSides_12 : decode cX1_swapSides 12 = .ok (.invokevirtual 53, 3) := by decide +kernel
theorem dX1_swapSides_15 : decode cX1_swapSides 15 = .ok (.istore_n 3, 1) := by decide +kernel
theorem dX1_swapSides_16 : decode cX1_swapSides 16 = .ok (.aload_n 0, 1) := by decide +kernel
theorem dX1_swapSides_17 : decode cX1_swapSides 17 = .ok (.iload_n 1, 1) := by decide +kernel
theorem dX1_swapSides_18 : decode cX1_swapSides 18 = .ok (.iconst 0, 1) := by decide +kernel
theorem dX1_swapSides_19 : decode cX1_swapSides 19 = .ok (.iload_n 2, 1) := by decide +kernel
theorem dX1_swapSides_20 : decode cX1_swapSides 20 = .ok (.aload_n 0, 1) := by decide +kernel
theorem dX1_swapSides_21 : decode cX1_swapSides 21 = .ok (.iload_n 1, 1) := by decide +kernel
theorem dX1_swapSides_22 : decode cX1_swapSides 22 = .ok (.iconst 1, 1) := by decide +kernel
theorem dX1_swapSides_23 : decode cX1_swapSides 23 = .ok (.iload_n 2, 1) := by decide +kernel
theorem dX1_swapSides_24 : decode cX1_swapSides 24 = .ok (.invokevirtual 53, 3) := by decide +kernel
theorem dX1_swapSides_27 : decode cX1_swapSides 27 = .ok (.invokevirtual 65, 3) := by decide +kernel
theorem dX1_swapSides_30 : decode cX1_swapSides 30 = .ok (.aload_n 0, 1) := by decide +kernel
theorem dX1_swapSides_31 : decode cX1_swapSides 31 = .ok (.iload_n 1, 1) := by decide +kernel
theorem dX1_swapSides_32 : decode cX1_swapSides 32 = .ok (.iconst 1, 1) := by decide +kernel
theorem dX1_swapSides_33 : decode cX1_swapSides 33 = .ok (.iload_n 2, 1) := by decide +kernel
theorem dX1_swapSides_34 : decode cX1_swapSides 34 = .ok (.iload_n 3, 1) := by decide +kernel
theorem dX1_swapSides_35 : decode cX1_swapSides 35 = .ok (.invokevirtual 65, 3) := by decide +kernel
theorem dX1_swapSides_38 : decode cX1_swapSides 38 = .ok (.iinc 2 1, 3) := by decide +kernel
theorem dX1_swapSides_41 : decode cX1_swapSides 41 = .ok (.goto (-39), 3) := by decide +kernel
theorem dX1_swapSides_44 : decode cX1_swapSides 44 = .ok (.return_, 1) := by decide +kernel
set_option maxRecDepth 20000 in
theorem ggX1_turnRound_X1_swapSides : GoodIn wsX1_turnRound wsX1_swapSides := goodIn_r _ [6, 7, 8, 9, 5, 10, 11, 12, 13, 14, 15, 16, 17, 18, 28, 29, 30, 31, 32, 33] (by decide +kernel) (by decide +kernel)
set_option maxRecDepth 20000 in
theorem gX1_turnRound_X1_swapSides : GoodIn wsX1_turnRound (wsV RX1 69 RX1 yX1_swapSides wsX1_swapSides) := goodIn_app (goodIn_of _ (by decide +kernel)) ggX1_turnRound_X1_swapSides
set_option maxRecDepth 20000 in
theorem ggX1_turnRound_X1_weightOf : GoodIn wsX1_turnRound wsX1_weightOf := goodIn_r _ [22, 23, 28, 29, 30, 31, 32, 33] (by decide +kernel) (by decide +kernel)
set_option maxRecDepth 20000 in
theorem gX1_turnRound_X1_weightOf : GoodIn wsX1_turnRound (wsV RX1 72 RX1 yX1_weightOf wsX1_weightOf) := goodIn_app (goodIn_of _ (by decide +kernel)) ggX1_turnRound_X1_weightOf
set_option maxRecDepth 20000 in
theorem ggX1_turnRound_X1_putWeight : GoodIn wsX1_turnRound wsX1_putWeight := goodIn_r _ [27, 23, 28, 29, 30, 31, 32, 33] (by decide +kernel) (by decide +kernel)
set_option maxRecDepth 20000 in
theorem gX1_turnRound_X1_putWeight : GoodIn wsX1_turnRound (wsV RX1 75 RX1 yX1_putWeight wsX1_putWeight) := goodIn_app (goodIn_of _ (by decide +kernel)) ggX1_turnRound_X1_putWeight
theorem dX1_turnRound_0 : decode cX1_turnRound 0 = .ok (.iconst 0, 1) := by decide +kernel
theorem dX1_turnRound_1 : decode cX1_turnRound 1 = .ok (.istore_n 1, 1) := by decide +kernel
theorem dX1_turnRound_2 : decode cX1_turnRound 2 = .ok (.iload_n 1, 1) := by decide +kernel
theorem dX1_turnRound_3 : decode cX1_turnRound 3 = .ok (.aload_n 0, 1) := by decide +kernel
theorem dX1_turnRound_4 : decode cX1_turnRound 4 = .ok (.getfield 32, 3) := by decide +kernel
theorem dX1_turnRound_7 : decode cX1_turnRound 7 = .ok (.if_icmp .ge 53, 3) := by decide +kernel
theorem dX1_turnRound_10 : decode cX1_turnRound 10 = .ok (.aload_n 0, 1) := by decide +kernel
theorem dX1_turnRound_11 : decode cX1_turnRound 11 = .ok (.iload_n 1, 1) := by decide +kernel
theorem dX1_turnRound_12 : decode cX1_turnRound 12 = .ok (.invokevirtual 69, 3) := by decide +kernel
theorem dX1_turnRound_15 : decode cX1_turnRound 15 = .ok (.iconst 0, 1) := by decide +kernel
theorem dX1_turnRound_16 : decode cX1_turnRound 16 = .ok (.istore_n 2, 1) := by decide +kernel
theorem dX1_turnRound_17 : decode cX1_turnRound 17 = .ok (.iload_n 2, 1) := by decide +kernel
theorem dX1_turnRound_18 : decode cX1_turnRound 18 = .ok (.iload_n 1, 1) := by decide +kernel
theorem dX1_turnRound_19 : decode cX1_turnRound 19 = .ok (.if_icmp .ge 35, 3) := by decide +kernel
theorem dX1_turnRound_22 : decode cX1_turnRound 22 = .ok (.aload_n 0, 1) := by decide +kernel
theorem dX1_turnRound_23 : decode cX1_turnRound 23 = .ok (.iload_n 1, 1) := by decide +kernel
theorem dX1_turnRound_24 : decode cX1_turnRound 24 = .ok (.iload_n 2, 1) := by decide +kernel
theorem dX1_turnRound_25 : decode cX1_turnRound 25 = .ok (.invokevirtual 72, 3) := by decide +kernel
theorem dX1_turnRound_28 : decode cX1_turnRound 28 = .ok (.istore_n 3, 1) := by decide +kernel
theorem dX1_turnRound_29 : decode cX1_turnRound 29 = .ok (.aload_n 0, 1) := by decide +kernel
theorem dX1_turnRound_30 : decode cX1_turnRound 30 = .ok (.iload_n 1, 1) := by decide +kernel
theorem dX1_turnRound_31 : decode cX1_turnRound 31 = .ok (.iload_n 2, 1) := by decide +kernel
theorem dX1_turnRound_32 : decode cX1_turnRound 32 = .ok (.aload_n 0, 1) := by decide +kernel
theorem dX1_turnRound_33 : decode cX1_turnRound 33 = .ok (.iload_n 2, 1) := by decide +kernel
theorem dX1_turnRound_34 : decode cX1_turnRound 34 = .ok (.iload_n 1, 1) := by decide +kernel
theorem dX1_turnRound_35 : decode cX1_turnRound 35 = .ok (.invokevirtual 72, 3) := by decide +kernel
theorem dX1_turnRound_38 : decode cX1_turnRound 38 = .ok (.invokevirtual 75, 3) := by decide +kernel
theorem dX1_turnRound_41 : decode cX1_turnRound 41 = .ok (.aload_n 0, 1) := by decide +kernel
theorem dX1_turnRound_42 : decode cX1_turnRound 42 = .ok (.iload_n 2, 1) := by decide +kernel
theorem dX1_turnRound_43 : decode cX1_turnRound 43 = .ok (.iload_n 1, 1) := by decide +kernel
theorem dX1_turnRound_44 : decode cX1_turnRound 44 = .ok (.iload_n 3, 1) := by decide +kernel
theorem dX1_turnRound_45 : decode cX1_turnRound 45 = .ok (.invokevirtual 75, 3) := by decide +kernel
theorem dX1_turnRound_48 : decode cX1_turnRound 48 = .ok (.iinc 2 1, 3) := by decide +kernel
theorem dX1_turnRound_51 : decode cX1_turnRound 51 = .ok (.goto (-34), 3) := by decide +kernel
theorem dX1_turnRound_54 : decode cX1_turnRound 54 = .ok (.iinc 1 1, 3) := by decide +kernel
theorem dX1_turnRound_57 : decode cX1_turnRound 57 = .ok (.goto (-55), 3) := by decide +kernel
theorem dX1_turnRound_60 : decode cX1_turnRound 60 = .ok (.return_, 1) := by decide +kernel
set_option maxRecDepth 20000 in
theorem ggX1_takeLetter_X1_backOf : GoodIn wsX1_takeLetter wsX1_backOf := goodIn_r _ [6, 7, 8, 9, 5, 10, 15, 16, 17, 18, 19, 20] (by decide +kernel) (by decide +kernel)
set_option maxRecDepth 20000 in
theorem gX1_takeLetter_X1_backOf : GoodIn wsX1_takeLetter (wsV RX1 53 RX1 yX1_backOf wsX1_backOf) := goodIn_app (goodIn_of _ (by decide +kernel)) ggX1_takeLetter_X1_backOf
set_option maxRecDepth 20000 in
theorem ggX1_takeLetter_X1_putBack : GoodIn wsX1_takeLetter wsX1_putBack := goodIn_r _ [14, 7, 8, 9, 5, 10, 15, 16, 17, 18, 19, 20] (by decide +kernel) (by decide +kernel)
set_option maxRecDepth 20000 in
theorem gX1_takeLetter_X1_putBack : GoodIn wsX1_takeLetter (wsV RX1 65 RX1 yX1_putBack wsX1_putBack) := goodIn_app (goodIn_of _ (by decide +kernel)) ggX1_takeLetter_X1_putBack
theorem dX1_takeLetter_0 : decode cX1_takeLetter 0 = .ok (.aload_n 0, 1) := by decide +kernel
theorem dX1_takeLetter_1 : decode cX1_takeLetter 1 = .ok (.getfield 18, 3) := by decide +kernel
theorem dX1_takeLetter_4 : decode cX1_takeLetter 4 = .ok (.iload_n 1, 1) := by decide +kernel
theorem dX1_takeLetter_5 : decode cX1_takeLetter 5 = .ok (.iaload, 1) := by decide +kernel
theorem dX1_takeLetter_6 : decode cX1_takeLetter 6 = .ok (.aload_n 0, 1) := by decide +kernel
theorem dX1_takeLetter_7 : decode cX1_takeLetter 7 = .ok (.getfield 18, 3) := by decide +kernel
theorem dX1_takeLetter_10 : decode cX1_takeLetter 10 = .ok (.iload_n 2, 1) := by decide +kernel
theorem dX1_takeLetter_11 : decode cX1_takeLetter 11 = .ok (.iaload, 1) := by decide +kernel
theorem dX1_takeLetter_12 : decode cX1_takeLetter 12 = .ok (.if_icmp .eq 7, 3) := by decide +kernel
theorem dX1_takeLetter_15 : decode cX1_takeLetter 15 = .ok (.iconst 1, 1) := by decide +kernel
theorem dX1_takeLetter_16 : decode cX1_takeLetter 16 = .ok (.goto 4, 3) := by decide +kernel
theorem dX1_takeLetter_19 : decode cX1_takeLetter 19 = .ok (.iconst 0, 1) := by decide +kernel
theorem dX1_takeLetter_20 : decode cX1_takeLetter 20 = .ok (.istore_n 3, 1) := by decide +kernel
theorem dX1_takeLetter_21 : decode cX1_takeLetter 21 = .ok (.aload_n 0, 1) := by decide +kernel
theorem dX1_takeLetter_22 : decode cX1_takeLetter 22 = .ok (.getfield 18, 3) := by decide +kernel
theorem dX1_takeLetter_25 : decode cX1_takeLetter 25 = .ok (.iload_n 1, 1) := by decide +kernel
theorem dX1_takeLetter_26 : decode cX1_takeLetter 26 = .ok (.aload_n 0, 1) := by decide +kernel
theorem dX1_takeLetter_27 : decode cX1_takeLetter 27 = .ok (.getfield 18, 3) := by decide +kernel
theorem dX1_takeLetter_30 : decode cX1_takeLetter 30 = .ok (.iload_n 2, 1) := by decide +kernel
theorem dX1_takeLetter_31 : decode cX1_takeLetter 31 = .ok (.iaload, 1) := by decide +kernel
theorem dX1_takeLetter_32 : decode cX1_takeLetter 32 = .ok (.iastore, 1) := by decide +kernel
theorem dX1_takeLetter_33 : decode cX1_takeLetter 33 = .ok (.iconst 0, 1) := by decide +kernel
theorem dX1_takeLetter_34 : decode cX1_takeLetter 34 = .ok (.istore 4, 2) := by decide +kernel
theorem dX1_takeLetter_36 : decode cX1_takeLetter 36 = .ok (.iload 4, 2) := by decide +kernel
theorem dX1_takeLetter_38 : decode cX1_takeLetter 38 = .ok (.iconst 2, 1) := by decide +kernel
theorem dX1_takeLetter_39 : decode cX1_takeLetter 39 = .ok (.if_icmp .ge 69, 3) := by decide +kernel
theorem dX1_takeLetter_42 : decode cX1_takeLetter 42 = .ok (.iconst 0, 1) := by decide +kernel
theorem dX1_takeLetter_43 : decode cX1_takeLetter 43 = .ok (.istore 5, 2) := by decide +kernel
theorem dX1_takeLetter_45 : decode cX1_takeLetter 45 = .ok (.iload 5, 2) := by decide +kernel
theorem dX1_takeLetter_47 : decode cX1_takeLetter 47 = .ok (.bipush 8, 2) := by decide +kernel
theorem dX1_takeLetter_49 : decode cX1_takeLetter 49 = .ok (.if_icmp .ge 53, 3) := by decide +kernel
theorem dX1_takeLetter_52 : decode cX1_takeLetter 52 = .ok (.aload_n 0, 1) := by decide +kernel
theorem dX1_takeLetter_53 : decode cX1_takeLetter 53 = .ok (.iload_n 2, 1) := by decide +kernel
theorem dX1_takeLetter_54 : decode cX1_takeLetter 54 = .ok (.iload 4, 2) := by decide +kernel
theorem dX1_takeLetter_56 : decode cX1_takeLetter 56 = .ok (.iload 5, 2) := by decide +kernel
theorem dX1_takeLetter_58 : decode cX1_takeLetter 58 = .ok (.invokevirtual 53, 3) := by decide +kernel
theorem dX1_takeLetter_61 : decode cX1_takeLetter 61 = .ok (.istore 6, 2) := by decide +kernel
theorem dX1_takeLetter_63 : decode cX1_takeLetter 63 = .ok (.iload_n 3, 1) := by decide +kernel
theorem dX1_takeLetter_64 : decode cX1_takeLetter 64 = .ok (.aload_n 0, 1) := by decide +kernel
theorem dX1_takeLetter_65 : decode cX1_takeLetter 65 = .ok (.iload_n 1, 1) := by decide +kernel
theorem dX1_takeLetter_66 : decode cX1_takeLetter 66 = .ok (.iload 4, 2) := by decide +kernel
theorem dX1_takeLetter_68 : decode cX1_takeLetter 68 = .ok (.iload 5, 2) := by decide +kernel
theorem dX1_takeLetter_70 : decode cX1_takeLetter 70 = .ok (.invokevirtual 53, 3) := by decide +kernel
theorem dX1_takeLetter_73 : decode cX1_takeLetter 73 = .ok (.iload 6, 2) := by decide +kernel
theorem dX1_takeLetter_75 : decode cX1_takeLetter 75 = .ok (.if_icmp .eq 7, 3) := by decide +kernel
theorem dX1_takeLetter_78 : decode cX1_takeLetter 78 = .ok (.iconst 1, 1) := by decide +kernel
theorem dX1_takeLetter_79 : decode cX1_takeLetter 79 = .ok (.goto 4, 3) := by decide +kernel
theorem dX1_takeLetter_82 : decode cX1_takeLetter 82 = .ok (.iconst 0, 1) := by decide +kernel
theorem dX1_takeLetter_83 : decode cX1_takeLetter 83 = .ok (.iadd, 1) := by decide +kernel
theorem dX1_takeLetter_84 : decode cX1_takeLetter 84 = .ok (.istore_n 3, 1) := by decide +kernel
theorem dX1_takeLetter_85 : decode cX1_takeLetter 85 = .ok (.aload_n 0, 1) := by decide +kernel
theorem dX1_takeLetter_86 : decode cX1_takeLetter 86 = .ok (.iload_n 1, 1) := by decide +kernel
theorem dX1_takeLetter_87 : decode cX1_takeLetter 87 = .ok (.iload 4, 2) := by decide +kernel
theorem dX1_takeLetter_89 : decode cX1_takeLetter 89 = .ok (.iload 5, 2) := by decide +kernel
theorem dX1_takeLetter_91 : decode cX1_takeLetter 91 = .ok (.iload 6, 2) := by decide +kernel
theorem dX1_takeLetter_93 : decode cX1_takeLetter 93 = .ok (.invokevirtual 65, 3) := by decide +kernel
theorem dX1_takeLetter_96 : decode cX1_takeLetter 96 = .ok (.iinc 5 1, 3) := by decide +kernel
theorem dX1_takeLetter_99 : decode cX1_takeLetter 99 = .ok (.goto (-54), 3) := by decide +kernel
theorem dX1_takeLetter_102 : decode cX1_takeLetter 102 = .ok (.iinc 4 1, 3) := by decide +kernel
theorem dX1_takeLetter_105 : decode cX1_takeLetter 105 = .ok (.goto (-69), 3) := by decide +kernel
theorem dX1_takeLetter_108 : decode cX1_takeLetter 108 = .ok (.iload_n 3, 1) := by decide +kernel
theorem dX1_takeLetter_109 : decode cX1_takeLetter 109 = .ok (.ireturn, 1) := by decide +kernel
set_option maxRecDepth 20000 in
theorem ggX1_drawLots_X1_nextLot : GoodIn wsX1_drawLots wsX1_nextLot := goodIn_r _ [7, 8, 9] (by decide +kernel) (by decide +kernel)
set_option maxRecDepth 20000 in
theorem gX1_drawLots_X1_nextLot : GoodIn wsX1_drawLots (va_wsS RX1 79 yX1_nextLot wsX1_nextLot) := goodIn_app (goodIn_of _ (by decide +kernel)) ggX1_drawLots_X1_nextLot
set_option maxRecDepth 20000 in
theorem ggX1_drawLots_X1_putBack : GoodIn wsX1_drawLots wsX1_putBack := goodIn_r _ [13, 14, 15, 16, 6, 17, 23, 24, 25, 26, 27, 28] (by decide +kernel) (by decide +kernel)
set_option maxRecDepth 20000 in
theorem gX1_drawLots_X1_putBack : GoodIn wsX1_drawLots (wsV RX1 65 RX1 yX1_putBack wsX1_putBack) := goodIn_app (goodIn_of _ (by decide +kernel)) ggX1_drawLots_X1_putBack
set_option maxRecDepth 20000 in
theorem ggX1_drawLots_X1_putWeight : GoodIn wsX1_drawLots wsX1_putWeight := goodIn_r _ [21, 22, 23, 24, 25, 26, 27, 28] (by decide +kernel) (by decide +kernel)
set_option maxRecDepth 20000 in
theorem gX1_drawLots_X1_putWeight : GoodIn wsX1_drawLots (wsV RX1 75 RX1 yX1_putWeight wsX1_putWeight) := goodIn_app (goodIn_of _ (by decide +kernel)) ggX1_drawLots_X1_putWeight
theorem dX1_drawLots_0 : decode cX1_drawLots 0 = .ok (.iload_n 1, 1) := by decide +kernel
theorem dX1_drawLots_1 : decode cX1_drawLots 1 = .ok (.i2l, 1) := by decide +kernel
theorem dX1_drawLots_2 : decode cX1_drawLots 2 = .ok (.lstore_n 2, 1) := by decide +kernel
theorem dX1_drawLots_3 : decode cX1_drawLots 3 = .ok (.iconst 0, 1) := by decide +kernel
theorem dX1_drawLots_4 : decode cX1_drawLots 4 = .ok (.istore 4, 2) := by decide +kernel
theorem dX1_drawLots_6 : decode cX1_drawLots 6 = .ok (.iload 4, 2) := by decide +kernel
theorem dX1_drawLots_8 : decode cX1_drawLots 8 = .ok (.aload_n 0, 1) := by decide +kernel
theorem dX1_drawLots_9 : decode cX1_drawLots 9 = .ok (.getfield 32, 3) := by decide +kernel
theorem dX1_drawLots_12 : decode cX1_drawLots 12 = .ok (.if_icmp .ge 61, 3) := by decide +kernel
theorem dX1_drawLots_15 : decode cX1_drawLots 15 = .ok (.iconst 0, 1) := by decide +kernel
theorem dX1_drawLots_16 : decode cX1_drawLots 16 = .ok (.istore 5, 2) := by decide +kernel
theorem dX1_drawLots_18 : decode cX1_drawLots 18 = .ok (.iload 5, 2) := by decide +kernel
theorem dX1_drawLots_20 : decode cX1_drawLots 20 = .ok (.iconst 2, 1) := by decide +kernel
theorem dX1_drawLots_21 : decode cX1_drawLots 21 = .ok (.if_icmp .ge 46, 3) := by decide +kernel
theorem dX1_drawLots_24 : decode cX1_drawLots 24 = .ok (.iconst 0, 1) := by decide +kernel
theorem dX1_drawLots_25 : decode cX1_drawLots 25 = .ok (.istore 6, 2) := by decide +kernel
theorem dX1_drawLots_27 : decode cX1_drawLots 27 = .ok (.iload 6, 2) := by decide +kernel
theorem dX1_drawLots_29 : decode cX1_drawLots 29 = .ok (.bipush 8, 2) := by decide +kernel
theorem dX1_drawLots_31 : decode cX1_drawLots 31 = .ok (.if_icmp .ge 30, 3) := by decide +kernel
theorem dX1_drawLots_34 : decode cX1_drawLots 34 = .ok (.lload_n 2, 1) := by decide +kernel
theorem dX1_drawLots_35 : decode cX1_drawLots 35 = .ok (.invokestatic 79, 3) := by decide +kernel
theorem dX1_drawLots_38 : decode cX1_drawLots 38 = .ok (.lstore_n 2, 1) := by decide +kernel
theorem dX1_drawLots_39 : decode cX1_drawLots 39 = .ok (.aload_n 0, 1) := by decide +kernel
theorem dX1_drawLots_40 : decode cX1_drawLots 40 = .ok (.iload 4, 2) := by decide +kernel
theorem dX1_drawLots_42 : decode cX1_drawLots 42 = .ok (.iload 5, 2) := by decide +kernel
theorem dX1_drawLots_44 : decode cX1_drawLots 44 = .ok (.iload 6, 2) := by decide +kernel
theorem dX1_drawLots_46 : decode cX1_drawLots 46 = .ok (.lload_n 2, 1) := by decide +kernel
theorem dX1_drawLots_47 : decode cX1_drawLots 47 = .ok (.ldc2_w 83, 3) := by decide +kernel
theorem dX1_drawLots_50 : decode cX1_drawLots 50 = .ok (.lrem, 1) := by decide +kernel
theorem dX1_drawLots_51 : decode cX1_drawLots 51 = .ok (.l2i, 1) := by decide +kernel
theorem dX1_drawLots_52 : decode cX1_drawLots 52 = .ok (.invokevirtual 65, 3) := by decide +kernel
theorem dX1_drawLots_55 : decode cX1_drawLots 55 = .ok (.iinc 6 1, 3) := by decide +kernel
theorem dX1_drawLots_58 : decode cX1_drawLots 58 = .ok (.goto (-31), 3) := by decide +kernel
theorem dX1_drawLots_61 : decode cX1_drawLots 61 = .ok (.iinc 5 1, 3) := by decide +kernel
theorem dX1_drawLots_64 : decode cX1_drawLots 64 = .ok (.goto (-46), 3) := by decide +kernel
theorem dX1_drawLots_67 : decode cX1_drawLots 67 = .ok (.iinc 4 1, 3) := by decide +kernel
theorem dX1_drawLots_70 : decode cX1_drawLots 70 = .ok (.goto (-64), 3) := by decide +kernel
theorem dX1_drawLots_73 : decode cX1_drawLots 73 = .ok (.iconst 0, 1) := by decide +kernel
theorem dX1_drawLots_74 : decode cX1_drawLots 74 = .ok (.istore 4, 2) := by decide +kernel
theorem dX1_drawLots_76 : decode cX1_drawLots 76 = .ok (.iload 4, 2) := by decide +kernel
theorem dX1_drawLots_78 : decode cX1_drawLots 78 = .ok (.aload_n 0, 1) := by decide +kernel
theorem dX1_drawLots_79 : decode cX1_drawLots 79 = .ok (.getfield 32, 3) := by decide +kernel
theorem dX1_drawLots_82 : decode cX1_drawLots 82 = .ok (.if_icmp .ge 46, 3) := by decide +kernel
theorem dX1_drawLots_85 : decode cX1_drawLots 85 = .ok (.iconst 0, 1) := by decide +kernel
theorem dX1_drawLots_86 : decode cX1_drawLots 86 = .ok (.istore 5, 2) := by decide +kernel
theorem dX1_drawLots_88 : decode cX1_drawLots 88 = .ok (.iload 5, 2) := by decide +kernel
theorem dX1_drawLots_90 : decode cX1_drawLots 90 = .ok (.aload_n 0, 1) := by decide +kernel
theorem dX1_drawLots_91 : decode cX1_drawLots 91 = .ok (.getfield 32, 3) := by decide +kernel
theorem dX1_drawLots_94 : decode cX1_drawLots 94 = .ok (.if_icmp .ge 28, 3) := by decide +kernel
theorem dX1_drawLots_97 : decode cX1_drawLots 97 = .ok (.lload_n 2, 1) := by decide +kernel
theorem dX1_drawLots_98 : decode cX1_drawLots 98 = .ok (.invokestatic 79, 3) := by decide +kernel
theorem dX1_drawLots_101 : decode cX1_drawLots 101 = .ok (.lstore_n 2, 1) := by decide +kernel
theorem dX1_drawLots_102 : decode cX1_drawLots 102 = .ok (.aload_n 0, 1) := by decide +kernel
theorem dX1_drawLots_103 : decode cX1_drawLots 103 = .ok (.iload 4, 2) := by decide +kernel
theorem dX1_drawLots_105 : decode cX1_drawLots 105 = .ok (.iload 5, 2) := by decide +kernel
theorem dX1_drawLots_107 : decode cX1_drawLots 107 = .ok (.lload_n 2, 1) := by decide +kernel
theorem dX1_drawLots_108 : decode cX1_drawLots 108 = .ok (.ldc2_w 85, 3) := by decide +kernel
theorem dX1_drawLots_111 : decode cX1_drawLots 111 = .ok (.lrem, 1) := by decide +kernel
theorem dX1_drawLots_112 : decode cX1_drawLots 112 = .ok (.l2i, 1) := by decide +kernel
theorem dX1_drawLots_113 : decode cX1_drawLots 113 = .ok (.invokevirtual 75, 3) := by decide +kernel
theorem dX1_drawLots_116 : decode cX1_drawLots 116 = .ok (.iinc 5 1, 3) := by decide +kernel
theorem dX1_drawLots_119 : decode cX1_drawLots 119 = .ok (.goto (-31), 3) := by decide +kernel
theorem dX1_drawLots_122 : decode cX1_drawLots 122 = .ok (.iinc 4 1, 3) := by decide +kernel
theorem dX1_drawLots_125 : decode cX1_drawLots 125 = .ok (.goto (-49), 3) := by decide +kernel
theorem dX1_drawLots_128 : decode cX1_drawLots 128 = .ok (.return_, 1) := by decide +kernel
theorem dX1_nextLot_0 : decode cX1_nextLot 0 = .ok (.lload_n 0, 1) := by decide +kernel
theorem dX1_nextLot_1 : decode cX1_nextLot 1 = .ok (.ldc2_w 87, 3) := by decide +kernel
theorem dX1_nextLot_4 : decode cX1_nextLot 4 = .ok (.lmul, 1) := by decide +kernel
theorem dX1_nextLot_5 : decode cX1_nextLot 5 = .ok (.ldc2_w 89, 3) := by decide +kernel
theorem dX1_nextLot_8 : decode cX1_nextLot 8 = .ok (.lrem, 1) := by decide +kernel
theorem dX1_nextLot_9 : decode cX1_nextLot 9 = .ok (.lreturn, 1) := by decide +kernel
set_option maxRecDepth 20000 in
theorem ggX2_init_X4_init : GoodIn wsX2_init wsX4_init := goodIn_r _ [14, 15, 2, 3, 4, 16, 22, 23] (by decide +kernel) (by decide +kernel)
set_option maxRecDepth 20000 in
theorem gX2_init_X4_init : GoodIn wsX2_init (wsX4_init) := ggX2_init_X4_init
theorem dX2_init_0 : decode cX2_init 0 = .ok (.aload_n 0, 1) := by decide +kernel
theorem dX2_init_1 : decode cX2_init 1 = .ok (.invokespecial 3, 3) := by decide +kernel
theorem dX2_init_4 : decode cX2_init 4 = .ok (.aload_n 0, 1) := by decide +kernel
theorem dX2_init_5 : decode cX2_init 5 = .ok (.bipush 16, 2) := by decide +kernel
theorem dX2_init_7 : decode cX2_init 7 = .ok (.newarray .int, 2) := by decide +kernel
theorem dX2_init_9 : decode cX2_init 9 = .ok (.putfield 9, 3) := by decide +kernel
theorem dX2_init_12 : decode cX2_init 12 = .ok (.aload_n 0, 1) := by decide +kernel
theorem dX2_init_13 : decode cX2_init 13 = .ok (.aload_n 1, 1) := by decide +kernel
theorem dX2_init_14 : decode cX2_init 14 = .ok (.putfield 15, 3) := by decide +kernel
theorem dX2_init_17 : decode cX2_init 17 = .ok (.aload_n 0, 1) := by decide +kernel
theorem dX2_init_18 : decode cX2_init 18 = .ok (.aload_n 2, 1) := by decide +kernel
theorem dX2_init_19 : decode cX2_init 19 = .ok (.putfield 19, 3) := by decide +kernel
theorem dX2_init_22 : decode cX2_init 22 = .ok (.aload_n 0, 1) := by decide +kernel
theorem dX2_init_23 : decode cX2_init 23 = .ok (.new 23, 3) := by decide +kernel
theorem dX2_init_26 : decode cX2_init 26 = .ok (.dup, 1) := by decide +kernel
theorem dX2_init_27 : decode cX2_init 27 = .ok (.invokespecial 25, 3) := by decide +kernel
theorem dX2_init_30 : decode cX2_init 30 = .ok (.putfield 26, 3) := by decide +kernel
theorem dX2_init_33 : decode cX2_init 33 = .ok (.return_, 1) := by decide +kernel
theorem dX2_makeEmpty_0 : decode cX2_makeEmpty 0 = .ok (.aload_n 0, 1) := by decide +kernel
theorem dX2_makeEmpty_1 : decode cX2_makeEmpty 1 = .ok (.iconst 0, 1) := by decide +kernel
theorem dX2_makeEmpty_2 : decode cX2_makeEmpty 2 = .ok (.putfield 30, 3) := by decide +kernel
theorem dX2_makeEmpty_5 : decode cX2_makeEmpty 5 = .ok (.return_, 1) := by decide +kernel
theorem dX2_add_0 : decode cX2_add 0 = .ok (.aload_n 0, 1) := by decide +kernel
theorem dX2_add_1 : decode cX2_add 1 = .ok (.getfield 30, 3) := by decide +kernel
theorem dX2_add_4 : decode cX2_add 4 = .ok (.aload_n 0, 1) := by decide +kernel
theorem dX2_add_5 : decode cX2_add 5 = .ok (.getfield 9, 3) := by decide +kernel
theorem dX2_add_8 : decode cX2_add 8 = .ok (.arraylength, 1) := by decide +kernel
theorem dX2_add_9 : decode cX2_add 9 = .ok (.if_icmp .ge 23, 3) := by decide +kernel
theorem dX2_add_12 : decode cX2_add 12 = .ok (.aload_n 0, 1) := by decide +kernel
theorem dX2_add_13 : decode cX2_add 13 = .ok (.getfield 9, 3) := by decide +kernel
theorem dX2_add_16 : decode cX2_add 16 = .ok (.aload_n 0, 1) := by decide +kernel
theorem dX2_add_17 : decode cX2_add 17 = .ok (.getfield 30, 3) := by decide +kernel
theorem dX2_add_20 : decode cX2_add 20 = .ok (.iload_n 1, 1) := by decide +kernel
theorem dX2_add_21 : decode cX2_add 21 = .ok (.iastore, 1) := by decide +kernel
theorem dX2_add_22 : decode cX2_add 22 = .ok (.aload_n 0, 1) := by decide +kernel
theorem dX2_add_23 : decode cX2_add 23 = .ok (.dup, 1) := by decide +kernel
theorem dX2_add_24 : decode cX2_add 24 = .ok (.getfield 30, 3) := by decide +kernel
theorem dX2_add_27 : decode cX2_add 27 = .ok (.iconst 1, 1) := by decide +kernel
theorem dX2_add_28 : decode cX2_add 28 = .ok (.iadd, 1) := by decide +kernel
theorem dX2_add_29 : decode cX2_add 29 = .ok (.putfield 30, 3) := by decide +kernel
theorem dX2_add_32 : decode cX2_add 32 = .ok (.return_, 1) := by decide +kernel
set_option maxRecDepth 20000 in
theorem ggX2_letterAt_X5_within : GoodIn wsX2_letterAt wsX5_within := goodIn_r _ [5] (by decide +kernel) (by decide +kernel)
set_option maxRecDepth 20000 in
theorem gX2_letterAt_X5_within_n34 : GoodIn wsX2_letterAt (wsX5_within) := ggX2_letterAt_X5_within
theorem dX2_letterAt_0 : decode cX2_letterAt 0 = .ok (.iload_n 1, 1) := by decide +kernel
theorem dX2_letterAt_1 : decode cX2_letterAt 1 = .ok (.iconst 0, 1) := by decide +kernel
theorem dX2_letterAt_2 : decode cX2_letterAt 2 = .ok (.aload_n 0, 1) := by decide +kernel
theorem dX2_letterAt_3 : decode cX2_letterAt 3 = .ok (.getfield 30, 3) := by decide +kernel
theorem dX2_letterAt_6 : decode cX2_letterAt 6 = .ok (.iconst 1, 1) := by decide +kernel
theorem dX2_letterAt_7 : decode cX2_letterAt 7 = .ok (.isub, 1) := by decide +kernel
theorem dX2_letterAt_8 : decode cX2_letterAt 8 = .ok (.invokestatic 34, 3) := by decide +kernel
theorem dX2_letterAt_11 : decode cX2_letterAt 11 = .ok (.ifCond .eq 12, 3) := by decide +kernel
theorem dX2_letterAt_14 : decode cX2_letterAt 14 = .ok (.aload_n 0, 1) := by decide +kernel
theorem dX2_letterAt_15 : decode cX2_letterAt 15 = .ok (.getfield 9, 3) := by decide +kernel
theorem dX2_letterAt_18 : decode cX2_letterAt 18 = .ok (.iload_n 1, 1) := by decide +kernel
theorem dX2_letterAt_19 : decode cX2_letterAt 19 = .ok (.iaload, 1) := by decide +kernel
theorem dX2_letterAt_20 : decode cX2_letterAt 20 = .ok (.goto 4, 3) := by decide +kernel
theorem dX2_letterAt_23 : decode cX2_letterAt 23 = .ok (.iconst (-1), 1) := by decide +kernel
theorem dX2_letterAt_24 : decode cX2_letterAt 24 = .ok (.ireturn, 1) := by decide +kernel
set_option maxRecDepth 20000 in
theorem ggX2_wideAbove_X0_spaceBelow : GoodIn wsX2_wideAbove wsX0_spaceBelow := goodIn_r _ [10, 11, 12, 35, 36, 37, 38, 39, 40, 41, 42] (by decide +kernel) (by decide +kernel)
set_option maxRecDepth 20000 in
theorem gX2_wideAbove_X0_spaceBelow : GoodIn wsX2_wideAbove (wsV RX2 43 RX0 yX0_spaceBelow wsX0_spaceBelow) := goodIn_app (goodIn_of _ (by decide +kernel)) ggX2_wideAbove_X0_spaceBelow
set_option maxRecDepth 20000 in
theorem ggX2_wideAbove_X0_spaceAbove : GoodIn wsX2_wideAbove wsX0_spaceAbove := goodIn_r _ [16, 17, 18, 19, 20, 9, 21, 22, 23, 35, 36, 37, 38, 39, 40, 41, 42, 29, 30, 31, 32, 33, 34] (by decide +kernel) (by decide +kernel)
set_option maxRecDepth 20000 in
theorem gX2_wideAbove_X0_spaceAbove : GoodIn wsX2_wideAbove (wsV RX2 49 RX0 yX0_spaceAbove wsX0_spaceAbove) := goodIn_app (goodIn_of _ (by decide +kernel)) ggX2_wideAbove_X0_spaceAbove
theorem dX2_wideAbove_0 : decode cX2_wideAbove 0 = .ok (.lconst 0, 1) := by decide +kernel
theorem dX2_wideAbove_1 : decode cX2_wideAbove 1 = .ok (.lstore_n 1, 1) := by decide +kernel
theorem dX2_wideAbove_2 : decode cX2_wideAbove 2 = .ok (.iconst 0, 1) := by decide +kernel
theorem dX2_wideAbove_3 : decode cX2_wideAbove 3 = .ok (.istore_n 3, 1) := by decide +kernel
theorem dX2_wideAbove_4 : decode cX2_wideAbove 4 = .ok (.iload_n 3, 1) := by decide +kernel
theorem dX2_wideAbove_5 : decode cX2_wideAbove 5 = .ok (.aload_n 0, 1) := by decide +kernel
theorem dX2_wideAbove_6 : decode cX2_wideAbove 6 = .ok (.getfield 30, 3) := by decide +kernel
theorem dX2_wideAbove_9 : decode cX2_wideAbove 9 = .ok (.if_icmp .ge 91, 3) := by decide +kernel
theorem dX2_wideAbove_12 : decode cX2_wideAbove 12 = .ok (.lload_n 1, 1) := by decide +kernel
theorem dX2_wideAbove_13 : decode cX2_wideAbove 13 = .ok (.aload_n 0, 1) := by decide +kernel
theorem dX2_wideAbove_14 : decode cX2_wideAbove 14 = .ok (.getfield 15, 3) := by decide +kernel
theorem dX2_wideAbove_17 : decode cX2_wideAbove 17 = .ok (.getfield 38, 3) := by decide +kernel
theorem dX2_wideAbove_20 : decode cX2_wideAbove 20 = .ok (.aload_n 0, 1) := by decide +kernel
theorem dX2_wideAbove_21 : decode cX2_wideAbove 21 = .ok (.getfield 9, 3) := by decide +kernel
theorem dX2_wideAbove_24 : decode cX2_wideAbove 24 = .ok (.iload_n 3, 1) := by decide +kernel
theorem dX2_wideAbove_25 : decode cX2_wideAbove 25 = .ok (.iaload, 1) := by decide +kernel
theorem dX2_wideAbove_26 : decode cX2_wideAbove 26 = .ok (.iaload, 1) := by decide +kernel
theorem dX2_wideAbove_27 : decode cX2_wideAbove 27 = .ok (.i2l, 1) := by decide +kernel
theorem dX2_wideAbove_28 : decode cX2_wideAbove 28 = .ok (.aload_n 0, 1) := by decide +kernel
theorem dX2_wideAbove_29 : decode cX2_wideAbove 29 = .ok (.getfield 19, 3) := by decide +kernel
theorem dX2_wideAbove_32 : decode cX2_wideAbove 32 = .ok (.invokevirtual 43, 3) := by decide +kernel
theorem dX2_wideAbove_35 : decode cX2_wideAbove 35 = .ok (.lmul, 1) := by decide +kernel
theorem dX2_wideAbove_36 : decode cX2_wideAbove 36 = .ok (.ladd, 1) := by decide +kernel
theorem dX2_wideAbove_37 : decode cX2_wideAbove 37 = .ok (.lstore_n 1, 1) := by decide +kernel
theorem dX2_wideAbove_38 : decode cX2_wideAbove 38 = .ok (.lload_n 1, 1) := by decide +kernel
theorem dX2_wideAbove_39 : decode cX2_wideAbove 39 = .ok (.iload_n 3, 1) := by decide +kernel
theorem dX2_wideAbove_40 : decode cX2_wideAbove 40 = .ok (.ifCond .le 20, 3) := by decide +kernel
theorem dX2_wideAbove_43 : decode cX2_wideAbove 43 = .ok (.aload_n 0, 1) := by decide +kernel
theorem dX2_wideAbove_44 : decode cX2_wideAbove 44 = .ok (.getfield 19, 3) := by decide +kernel
theorem dX2_wideAbove_47 : decode cX2_wideAbove 47 = .ok (.aload_n 0, 1) := by decide +kernel
theorem dX2_wideAbove_48 : decode cX2_wideAbove 48 = .ok (.getfield 9, 3) := by decide +kernel
theorem dX2_wideAbove_51 : decode cX2_wideAbove 51 = .ok (.iload_n 3, 1) := by decide +kernel
theorem dX2_wideAbove_52 : decode cX2_wideAbove 52 = .ok (.iaload, 1) := by decide +kernel
theorem dX2_wideAbove_53 : decode cX2_wideAbove 53 = .ok (.iconst 0, 1) := by decide +kernel
theorem dX2_wideAbove_54 : decode cX2_wideAbove 54 = .ok (.invokevirtual 49, 3) := by decide +kernel
theorem dX2_wideAbove_57 : decode cX2_wideAbove 57 = .ok (.goto 4, 3) := by decide +kernel
theorem dX2_wideAbove_60 : decode cX2_wideAbove 60 = .ok (.lconst 0, 1) := by decide +kernel
theorem dX2_wideAbove_61 : decode cX2_wideAbove 61 = .ok (.ladd, 1) := by decide +kernel
theorem dX2_wideAbove_62 : decode cX2_wideAbove 62 = .ok (.lstore_n 1, 1) := by decide +kernel
theorem dX2_wideAbove_63 : decode cX2_wideAbove 63 = .ok (.lload_n 1, 1) := by decide +kernel
theorem dX2_wideAbove_64 : decode cX2_wideAbove 64 = .ok (.iload_n 3, 1) := by decide +kernel
theorem dX2_wideAbove_65 : decode cX2_wideAbove 65 = .ok (.aload_n 0, 1) := by decide +kernel
theorem dX2_wideAbove_66 : decode cX2_wideAbove 66 = .ok (.getfield 30, 3) := by decide +kernel
theorem dX2_wideAbove_69 : decode cX2_wideAbove 69 = .ok (.iconst 1, 1) := by decide +kernel
theorem dX2_wideAbove_70 : decode cX2_wideAbove 70 = .ok (.isub, 1) := by decide +kernel
theorem dX2_wideAbove_71 : decode cX2_wideAbove 71 = .ok (.if_icmp .ge 20, 3) := by decide +kernel
theorem dX2_wideAbove_74 : decode cX2_wideAbove 74 = .ok (.aload_n 0, 1) := by decide +kernel
theorem dX2_wideAbove_75 : decode cX2_wideAbove 75 = .ok (.getfield 19, 3) := by decide +kernel
theorem dX2_wideAbove_78 : decode cX2_wideAbove 78 = .ok (.aload_n 0, 1) := by decide +kernel
theorem dX2_wideAbove_79 : decode cX2_wideAbove 79 = .ok (.getfield 9, 3) := by decide +kernel
theorem dX2_wideAbove_82 : decode cX2_wideAbove 82 = .ok (.iload_n 3, 1) := by decide +kernel
theorem dX2_wideAbove_83 : decode cX2_wideAbove 83 = .ok (.iaload, 1) := by decide +kernel
theorem dX2_wideAbove_84 : decode cX2_wideAbove 84 = .ok (.iconst 1, 1) := by decide +kernel
theorem dX2_wideAbove_85 : decode cX2_wideAbove 85 = .ok (.invokevirtual 49, 3) := by decide +kernel
theorem dX2_wideAbove_88 : decode cX2_wideAbove 88 = .ok (.goto 4, 3) := by decide +kernel
theorem dX2_wideAbove_91 : decode cX2_wideAbove 91 = .ok (.lconst 0, 1) := by decide +kernel
theorem dX2_wideAbove_92 : decode cX2_wideAbove 92 = .ok (.ladd, 1) := by decide +kernel
theorem dX2_wideAbove_93 : decode cX2_wideAbove 93 = .ok (.lstore_n 1, 1) := by decide +kernel
theorem dX2_wideAbove_94 : decode cX2_wideAbove 94 = .ok (.iinc 3 1, 3) := by decide +kernel
theorem dX2_wideAbove_97 : decode cX2_wideAbove 97 = .ok (.goto (-93), 3) := by decide +kernel
theorem dX2_wideAbove_100 : decode cX2_wideAbove 100 = .ok (.lload_n 1, 1) := by decide +kernel
theorem dX2_wideAbove_101 : decode cX2_wideAbove 101 = .ok (.lreturn, 1) := by decide +kernel
set_option maxRecDepth 20000 in
theorem ggX2_thin_X0_whiteAbove : GoodIn wsX2_thin wsX0_whiteAbove := goodIn_r _ [8, 9, 10, 11, 12, 13, 7, 14, 15, 16, 17, 18, 19, 20, 21, 22, 23, 24, 25, 26, 27, 28, 29, 30, 31, 32, 33, 34, 40, 41, 42, 43, 44, 45, 46, 47, 48, 49, 50, 51, 52, 53] (by decide +kernel) (by decide +kernel)
set_option maxRecDepth 20000 in
theorem gX2_thin_X0_whiteAbove : GoodIn wsX2_thin (wsV RX2 53 RX0 yX0_whiteAbove wsX0_whiteAbove) := goodIn_app (goodIn_of _ (by decide +kernel)) ggX2_thin_X0_whiteAbove
theorem dX2_thin_0 : decode cX2_thin 0 = .ok (.iconst (-1), 1) := by decide +kernel
theorem dX2_thin_1 : decode cX2_thin 1 = .ok (.istore_n 1, 1) := by decide +kernel
theorem dX2_thin_2 : decode cX2_thin 2 = .ok (.lconst 0, 1) := by decide +kernel
theorem dX2_thin_3 : decode cX2_thin 3 = .ok (.lstore_n 2, 1) := by decide +kernel
theorem dX2_thin_4 : decode cX2_thin 4 = .ok (.iconst 0, 1) := by decide +kernel
theorem dX2_thin_5 : decode cX2_thin 5 = .ok (.istore 4, 2) := by decide +kernel
theorem dX2_thin_7 : decode cX2_thin 7 = .ok (.iload 4, 2) := by decide +kernel
theorem dX2_thin_9 : decode cX2_thin 9 = .ok (.aload_n 0, 1) := by decide +kernel
theorem dX2_thin_10 : decode cX2_thin 10 = .ok (.getfield 30, 3) := by decide +kernel
theorem dX2_thin_13 : decode cX2_thin 13 = .ok (.iconst 1, 1) := by decide +kernel
theorem dX2_thin_14 : decode cX2_thin 14 = .ok (.isub, 1) := by decide +kernel
theorem dX2_thin_15 : decode cX2_thin 15 = .ok (.if_icmp .ge 52, 3) := by decide +kernel
theorem dX2_thin_18 : decode cX2_thin 18 = .ok (.aload_n 0, 1) := by decide +kernel
theorem dX2_thin_19 : decode cX2_thin 19 = .ok (.getfield 19, 3) := by decide +kernel
theorem dX2_thin_22 : decode cX2_thin 22 = .ok (.aload_n 0, 1) := by decide +kernel
theorem dX2_thin_23 : decode cX2_thin 23 = .ok (.getfield 9, 3) := by decide +kernel
theorem dX2_thin_26 : decode cX2_thin 26 = .ok (.iload 4, 2) := by decide +kernel
theorem dX2_thin_28 : decode cX2_thin 28 = .ok (.iaload, 1) := by decide +kernel
theorem dX2_thin_29 : decode cX2_thin 29 = .ok (.aload_n 0, 1) := by decide +kernel
theorem dX2_thin_30 : decode cX2_thin 30 = .ok (.getfield 9, 3) := by decide +kernel
theorem dX2_thin_33 : decode cX2_thin 33 = .ok (.iload 4, 2) := by decide +kernel
theorem dX2_thin_35 : decode cX2_thin 35 = .ok (.iconst 1, 1) := by decide +kernel
theorem dX2_thin_36 : decode cX2_thin 36 = .ok (.iadd, 1) := by decide +kernel
theorem dX2_thin_37 : decode cX2_thin 37 = .ok (.iaload, 1) := by decide +kernel
theorem dX2_thin_38 : decode cX2_thin 38 = .ok (.invokevirtual 53, 3) := by decide +kernel
theorem dX2_thin_41 : decode cX2_thin 41 = .ok (.lstore 5, 2) := by decide +kernel
theorem dX2_thin_43 : decode cX2_thin 43 = .ok (.iload_n 1, 1) := by decide +kernel
theorem dX2_thin_44 : decode cX2_thin 44 = .ok (.iconst (-1), 1) := by decide +kernel
theorem dX2_thin_45 : decode cX2_thin 45 = .ok (.if_icmp .eq 10, 3) := by decide +kernel
theorem dX2_thin_48 : decode cX2_thin 48 = .ok (.lload 5, 2) := by decide +kernel
theorem dX2_thin_50 : decode cX2_thin 50 = .ok (.lload_n 2, 1) := by decide +kernel
theorem dX2_thin_51 : decode cX2_thin 51 = .ok (.lcmp, 1) := by decide +kernel
theorem dX2_thin_52 : decode cX2_thin 52 = .ok (.ifCond .ge 9, 3) := by decide +kernel
theorem dX2_thin_55 : decode cX2_thin 55 = .ok (.iload 4, 2) := by decide +kernel
theorem dX2_thin_57 : decode cX2_thin 57 = .ok (.istore_n 1, 1) := by decide +kernel
theorem dX2_thin_58 : decode cX2_thin 58 = .ok (.lload 5, 2) := by decide +kernel
theorem dX2_thin_60 : decode cX2_thin 60 = .ok (.lstore_n 2, 1) := by decide +kernel
theorem dX2_thin_61 : decode cX2_thin 61 = .ok (.iinc 4 1, 3) := by decide +kernel
theorem dX2_thin_64 : decode cX2_thin 64 = .ok (.goto (-57), 3) := by decide +kernel
theorem dX2_thin_67 : decode cX2_thin 67 = .ok (.iload_n 1, 1) := by decide +kernel
theorem dX2_thin_68 : decode cX2_thin 68 = .ok (.ireturn, 1) := by decide +kernel
set_option maxRecDepth 20000 in
theorem ggX2_written_X4_makeEmpty : GoodIn wsX2_written wsX4_makeEmpty := goodIn_r _ [9, 10, 95, 96] (by decide +kernel) (by decide +kernel)
set_option maxRecDepth 20000 in
theorem gX2_written_X4_makeEmpty : GoodIn wsX2_written (wsV RX2 56 RX4 yX4_makeEmpty wsX4_makeEmpty) := goodIn_app (goodIn_of _ (by decide +kernel)) ggX2_written_X4_makeEmpty
set_option maxRecDepth 20000 in
theorem ggX2_written_X2_signBetween : GoodIn wsX2_written wsX2_signBetween := goodIn_r _ [15, 4, 16, 17, 18, 19, 20, 21, 22, 23, 24, 25, 26, 27, 28, 29, 30, 31, 32, 33, 34, 35, 36, 37, 38, 39, 40, 41, 42, 43, 44, 45, 46, 47, 48, 49, 50, 51, 90, 91, 92, 93, 94, 97, 98, 99, 100, 101, 102, 103, 104, 105, 106, 107, 108, 109, 110] (by decide +kernel) (by decide +kernel)
set_option maxRecDepth 20000 in
theorem gX2_written_X2_signBetween : GoodIn wsX2_written (wsV RX2 59 RX2 yX2_signBetween wsX2_signBetween) := goodIn_app (goodIn_of _ (by decide +kernel)) ggX2_written_X2_signBetween
set_option maxRecDepth 20000 in
theorem ggX2_written_X4_addSign : GoodIn wsX2_written wsX4_addSign := goodIn_r _ [55, 10, 56, 95, 96] (by decide +kernel) (by decide +kernel)
set_option maxRecDepth 20000 in
theorem gX2_written_X4_addSign : GoodIn wsX2_written (wsV RX2 63 RX4 yX4_addSign wsX4_addSign) := goodIn_app (goodIn_of _ (by decide +kernel)) ggX2_written_X4_addSign
set_option maxRecDepth 20000 in
theorem ggX2_written_X2_wideAbove : GoodIn wsX2_written wsX2_wideAbove := goodIn_r _ [60, 2, 61, 62, 3, 4, 63, 64, 65, 19, 66, 67, 23, 68, 29, 30, 31, 32, 33, 34, 35, 36, 21, 37, 90, 91, 92, 93, 94, 105, 106, 107, 108, 109, 110, 97, 98, 99, 100, 101, 102, 103, 104] (by decide +kernel) (by decide +kernel)
set_option maxRecDepth 20000 in
theorem gX2_written_X2_wideAbove : GoodIn wsX2_written (wsV RX2 67 RX2 yX2_wideAbove wsX2_wideAbove) := goodIn_app (goodIn_of _ (by decide +kernel)) ggX2_written_X2_wideAbove
set_option maxRecDepth 20000 in
theorem ggX2_written_X0_spaceBelow : GoodIn wsX2_written wsX0_spaceBelow := goodIn_r _ [66, 67, 23, 97, 98, 99, 100, 101, 102, 103, 104] (by decide +kernel) (by decide +kernel)
set_option maxRecDepth 20000 in
theorem gX2_written_X0_spaceBelow : GoodIn wsX2_written (wsV RX2 43 RX0 yX0_spaceBelow wsX0_spaceBelow) := goodIn_app (goodIn_of _ (by decide +kernel)) ggX2_written_X0_spaceBelow
set_option maxRecDepth 20000 in
theorem ggX2_written_X5_aboveOf : GoodIn wsX2_written wsX5_aboveOf := goodIn_r _ [71, 72, 73, 70, 74, 75, 76, 47, 77, 78, 79, 80] (by decide +kernel) (by decide +kernel)
set_option maxRecDepth 20000 in
theorem gX2_written_X5_aboveOf_n70 : GoodIn wsX2_written (wsX5_aboveOf) := ggX2_written_X5_aboveOf
set_option maxRecDepth 20000 in
theorem ggX2_written_X4_addNumber : GoodIn wsX2_written wsX4_addNumber := goodIn_r _ [84, 85, 76, 47, 77, 86, 87, 53, 54, 8, 55, 10, 56, 95, 96] (by decide +kernel) (by decide +kernel)
set_option maxRecDepth 20000 in
theorem gX2_written_X4_addNumber : GoodIn wsX2_written (wsV RX2 74 RX4 yX4_addNumber wsX4_addNumber) := goodIn_app (goodIn_of _ (by decide +kernel)) ggX2_written_X4_addNumber
set_option maxRecDepth 20000 in
theorem ggX2_written_X5_belowOf : GoodIn wsX2_written wsX5_belowOf := goodIn_r _ [89, 72, 73, 70, 74, 75, 76, 47, 77, 78, 79, 80] (by decide +kernel) (by decide +kernel)
set_option maxRecDepth 20000 in
theorem gX2_written_X5_belowOf_n78 : GoodIn wsX2_written (wsX5_belowOf) := ggX2_written_X5_belowOf
theorem dX2_written_0 : decode cX2_written 0 = .ok (.aload_n 0, 1) := by decide +kernel
theorem dX2_written_1 : decode cX2_written 1 = .ok (.getfield 26, 3) := by decide +kernel
theorem dX2_written_4 : decode cX2_written 4 = .ok (.invokevirtual 56, 3) := by decide +kernel
theorem dX2_written_7 : decode cX2_written 7 = .ok (.iconst 0, 1) := by decide +kernel
theorem dX2_written_8 : decode cX2_written 8 = .ok (.istore_n 1, 1) := by decide +kernel
theorem dX2_written_9 : decode cX2_written 9 = .ok (.iload_n 1, 1) := by decide +kernel
theorem dX2_written_10 : decode cX2_written 10 = .ok (.aload_n 0, 1) := by decide +kernel
theorem dX2_written_11 : decode cX2_written 11 = .ok (.getfield 30, 3) := by decide +kernel
theorem dX2_written_14 : decode cX2_written 14 = .ok (.if_icmp .ge 54, 3) := by decide +kernel
theorem dX2_written_17 : decode cX2_written 17 = .ok (.iload_n 1, 1) := by decide +kernel
theorem dX2_written_18 : decode cX2_written 18 = .ok (.ifCond .le 28, 3) := by decide +kernel
theorem dX2_written_21 : decode cX2_written 21 = .ok (.aload_n 0, 1) := by decide +kernel
theorem dX2_written_22 : decode cX2_written 22 = .ok (.getfield 26, 3) := by decide +kernel
theorem dX2_written_25 : decode cX2_written 25 = .ok (.aload_n 0, 1) := by decide +kernel
theorem dX2_written_26 : decode cX2_written 26 = .ok (.aload_n 0, 1) := by decide +kernel
theorem dX2_written_27 : decode cX2_written 27 = .ok (.getfield 9, 3) := by decide +kernel
theorem dX2_written_30 : decode cX2_written 30 = .ok (.iload_n 1, 1) := by decide +kernel
theorem dX2_written_31 : decode cX2_written 31 = .ok (.iconst 1, 1) := by decide +kernel
theorem dX2_written_32 : decode cX2_written 32 = .ok (.isub, 1) := by decide +kernel
theorem dX2_written_33 : decode cX2_written 33 = .ok (.iaload, 1) := by decide +kernel
theorem dX2_written_34 : decode cX2_written 34 = .ok (.aload_n 0, 1) := by decide +kernel
theorem dX2_written_35 : decode cX2_written 35 = .ok (.getfield 9, 3) := by decide +kernel
theorem dX2_written_38 : decode cX2_written 38 = .ok (.iload_n 1, 1) := by decide +kernel
theorem dX2_written_39 : decode cX2_written 39 = .ok (.iaload, 1) := by decide +kernel
theorem dX2_written_40 : decode cX2_written 40 = .ok (.invokevirtual 59, 3) := by decide +kernel
theorem dX2_written_43 : decode cX2_written 43 = .ok (.invokevirtual 63, 3) := by decide +kernel
theorem dX2_written_46 : decode cX2_written 46 = .ok (.aload_n 0, 1) := by decide +kernel
theorem dX2_written_47 : decode cX2_written 47 = .ok (.getfield 26, 3) := by decide +kernel
theorem dX2_written_50 : decode cX2_written 50 = .ok (.bipush 97, 2) := by decide +kernel
theorem dX2_written_52 : decode cX2_written 52 = .ok (.aload_n 0, 1) := by decide +kernel
theorem dX2_written_53 : decode cX2_written 53 = .ok (.getfield 9, 3) := by decide +kernel
theorem dX2_written_56 : decode cX2_written 56 = .ok (.iload_n 1, 1) := by decide +kernel
theorem dX2_written_57 : decode cX2_written 57 = .ok (.iaload, 1) := by decide +kernel
theorem dX2_written_58 : decode cX2_written 58 = .ok (.iadd, 1) := by decide +kernel
theorem dX2_written_59 : decode cX2_written 59 = .ok (.invokevirtual 63, 3) := by decide +kernel
theorem dX2_written_62 : decode cX2_written 62 = .ok (.iinc 1 1, 3) := by decide +kernel
theorem dX2_written_65 : decode cX2_written 65 = .ok (.goto (-56), 3) := by decide +kernel
theorem dX2_written_68 : decode cX2_written 68 = .ok (.aload_n 0, 1) := by decide +kernel
theorem dX2_written_69 : decode cX2_written 69 = .ok (.invokevirtual 67, 3) := by decide +kernel
theorem dX2_written_72 : decode cX2_written 72 = .ok (.lstore_n 1, 1) := by decide +kernel
theorem dX2_written_73 : decode cX2_written 73 = .ok (.aload_n 0, 1) := by decide +kernel
theorem dX2_written_74 : decode cX2_written 74 = .ok (.getfield 26, 3) := by decide +kernel
theorem dX2_written_77 : decode cX2_written 77 = .ok (.bipush 58, 2) := by decide +kernel
theorem dX2_written_79 : decode cX2_written 79 = .ok (.invokevirtual 63, 3) := by decide +kernel
theorem dX2_written_82 : decode cX2_written 82 = .ok (.aload_n 0, 1) := by decide +kernel
theorem dX2_written_83 : decode cX2_written 83 = .ok (.getfield 26, 3) := by decide +kernel
theorem dX2_written_86 : decode cX2_written 86 = .ok (.lload_n 1, 1) := by decide +kernel
theorem dX2_written_87 : decode cX2_written 87 = .ok (.aload_n 0, 1) := by decide +kernel
theorem dX2_written_88 : decode cX2_written 88 = .ok (.getfield 19, 3) := by decide +kernel
theorem dX2_written_91 : decode cX2_written 91 = .ok (.invokevirtual 43, 3) := by decide +kernel
theorem dX2_written_94 : decode cX2_written 94 = .ok (.invokestatic 70, 3) := by decide +kernel
theorem dX2_written_97 : decode cX2_written 97 = .ok (.invokevirtual 74, 3) := by decide +kernel
theorem dX2_written_100 : decode cX2_written 100 = .ok (.aload_n 0, 1) := by decide +kernel
theorem dX2_written_101 : decode cX2_written 101 = .ok (.getfield 26, 3) := by decide +kernel
theorem dX2_written_104 : decode cX2_written 104 = .ok (.bipush 47, 2) := by decide +kernel
theorem dX2_written_106 : decode cX2_written 106 = .ok (.invokevirtual 63, 3) := by decide +kernel
theorem dX2_written_109 : decode cX2_written 109 = .ok (.aload_n 0, 1) := by decide +kernel
theorem dX2_written_110 : decode cX2_written 110 = .ok (.getfield 26, 3) := by decide +kernel
theorem dX2_written_113 : decode cX2_written 113 = .ok (.lload_n 1, 1) := by decide +kernel
theorem dX2_written_114 : decode cX2_written 114 = .ok (.aload_n 0, 1) := by decide +kernel
theorem dX2_written_115 : decode cX2_written 115 = .ok (.getfield 19, 3) := by decide +kernel
theorem dX2_written_118 : decode cX2_written 118 = .ok (.invokevirtual 43, 3) := by decide +kernel
theorem dX2_written_121 : decode cX2_written 121 = .ok (.invokestatic 78, 3) := by decide +kernel
theorem dX2_written_124 : decode cX2_written 124 = .ok (.invokevirtual 74, 3) := by decide +kernel
theorem dX2_written_127 : decode cX2_written 127 = .ok (.aload_n 0, 1) := by decide +kernel
theorem dX2_written_128 : decode cX2_written 128 = .ok (.getfield 26, 3) := by decide +kernel
theorem dX2_written_131 : decode cX2_written 131 = .ok (.areturn, 1) := by decide +kernel
set_option maxRecDepth 20000 in
theorem ggX2_signBetween_X0_leftOverAbove : GoodIn wsX2_signBetween wsX0_leftOverAbove := goodIn_r _ [6, 7, 8, 9, 10, 11, 12, 5, 13, 14, 15, 16, 17, 18, 19, 20, 21, 22, 23, 24, 25, 26, 27, 28, 29, 30, 31, 32, 33, 34, 35, 36, 37, 43, 44, 45, 46, 47, 48, 49, 50, 51, 52, 53, 54, 55, 56] (by decide +kernel) (by decide +kernel)
set_option maxRecDepth 20000 in
theorem gX2_signBetween_X0_leftOverAbove : GoodIn wsX2_signBetween (wsV RX2 81 RX0 yX0_leftOverAbove wsX0_leftOverAbove) := goodIn_app (goodIn_of _ (by decide +kernel)) ggX2_signBetween_X0_leftOverAbove
theorem dX2_signBetween_0 : decode cX2_signBetween 0 = .ok (.aload_n 0, 1) := by decide +kernel
theorem dX2_signBetween_1 : decode cX2_signBetween 1 = .ok (.getfield 19, 3) := by decide +kernel
theorem dX2_signBetween_4 : decode cX2_signBetween 4 = .ok (.iload_n 1, 1) := by decide +kernel
theorem dX2_signBetween_5 : decode cX2_signBetween 5 = .ok (.iload_n 2, 1) := by decide +kernel
theorem dX2_signBetween_6 : decode cX2_signBetween 6 = .ok (.invokevirtual 81, 3) := by decide +kernel
theorem dX2_signBetween_9 : decode cX2_signBetween 9 = .ok (.lstore_n 3, 1) := by decide +kernel
theorem dX2_signBetween_10 : decode cX2_signBetween 10 = .ok (.lload_n 3, 1) := by decide +kernel
theorem dX2_signBetween_11 : decode cX2_signBetween 11 = .ok (.lconst 0, 1) := by decide +kernel
theorem dX2_signBetween_12 : decode cX2_signBetween 12 = .ok (.lcmp, 1) := by decide +kernel
theorem dX2_signBetween_13 : decode cX2_signBetween 13 = .ok (.ifCond .ne 6, 3) := by decide +kernel
theorem dX2_signBetween_16 : decode cX2_signBetween 16 = .ok (.bipush 61, 2) := by decide +kernel
theorem dX2_signBetween_18 : decode cX2_signBetween 18 = .ok (.ireturn, 1) := by decide +kernel
theorem dX2_signBetween_19 : decode cX2_signBetween 19 = .ok (.lload_n 3, 1) := by decide +kernel
theorem dX2_signBetween_20 : decode cX2_signBetween 20 = .ok (.lconst 0, 1) := by decide +kernel
theorem dX2_signBetween_21 : decode cX2_signBetween 21 = .ok (.lcmp, 1) := by decide +kernel
theorem dX2_signBetween_22 : decode cX2_signBetween 22 = .ok (.ifCond .le 8, 3) := by decide +kernel
theorem dX2_signBetween_25 : decode cX2_signBetween 25 = .ok (.bipush 43, 2) := by decide +kernel
theorem dX2_signBetween_27 : decode cX2_signBetween 27 = .ok (.goto 5, 3) := by decide +kernel
theorem dX2_signBetween_30 : decode cX2_signBetween 30 = .ok (.bipush 45, 2) := by decide +kernel
theorem dX2_signBetween_32 : decode cX2_signBetween 32 = .ok (.ireturn, 1) := by decide +kernel
set_option maxRecDepth 20000 in
theorem ggX3_init_X1_init : GoodIn wsX3_init wsX1_init := goodIn_r _ [10, 11, 2, 3, 12, 13, 14, 15, 16, 17, 18, 19, 20, 7, 21, 22, 26, 27, 28, 29, 30, 31] (by decide +kernel) (by decide +kernel)
set_option maxRecDepth 20000 in
theorem gX3_init_X1_init : GoodIn wsX3_init (wsX1_init) := ggX3_init_X1_init
theorem dX3_init_0 : decode cX3_init 0 = .ok (.aload_n 0, 1) := by decide +kernel
theorem dX3_init_1 : decode cX3_init 1 = .ok (.invokespecial 3, 3) := by decide +kernel
theorem dX3_init_4 : decode cX3_init 4 = .ok (.aload_n 0, 1) := by decide +kernel
theorem dX3_init_5 : decode cX3_init 5 = .ok (.bipush 8, 2) := by decide +kernel
theorem dX3_init_7 : decode cX3_init 7 = .ok (.anewarray 9, 3) := by decide +kernel
theorem dX3_init_10 : decode cX3_init 10 = .ok (.putfield 11, 3) := by decide +kernel
theorem dX3_init_13 : decode cX3_init 13 = .ok (.iconst 0, 1) := by decide +kernel
theorem dX3_init_14 : decode cX3_init 14 = .ok (.istore_n 1, 1) := by decide +kernel
theorem dX3_init_15 : decode cX3_init 15 = .ok (.iload_n 1, 1) := by decide +kernel
theorem dX3_init_16 : decode cX3_init 16 = .ok (.bipush 8, 2) := by decide +kernel
theorem dX3_init_18 : decode cX3_init 18 = .ok (.if_icmp .ge 22, 3) := by decide +kernel
theorem dX3_init_21 : decode cX3_init 21 = .ok (.aload_n 0, 1) := by decide +kernel
theorem dX3_init_22 : decode cX3_init 22 = .ok (.getfield 11, 3) := by decide +kernel
theorem dX3_init_25 : decode cX3_init 25 = .ok (.iload_n 1, 1) := by decide +kernel
theorem dX3_init_26 : decode cX3_init 26 = .ok (.new 9, 3) := by decide +kernel
theorem dX3_init_29 : decode cX3_init 29 = .ok (.dup, 1) := by decide +kernel
theorem dX3_init_30 : decode cX3_init 30 = .ok (.invokespecial 17, 3) := by decide +kernel
theorem dX3_init_33 : decode cX3_init 33 = .ok (.aastore, 1) := by decide +kernel
theorem dX3_init_34 : decode cX3_init 34 = .ok (.iinc 1 1, 3) := by decide +kernel
theorem dX3_init_37 : decode cX3_init 37 = .ok (.goto (-22), 3) := by decide +kernel
theorem dX3_init_40 : decode cX3_init 40 = .ok (.return_, 1) := by decide +kernel
set_option maxRecDepth 20000 in
theorem ggX3_remember_X1_takeAll : GoodIn wsX3_remember wsX1_takeAll := goodIn_r _ [12, 13, 14, 15, 16, 17, 18, 19, 20, 21, 22, 26, 27, 28, 29, 30, 31] (by decide +kernel) (by decide +kernel)
set_option maxRecDepth 20000 in
theorem gX3_remember_X1_takeAll : GoodIn wsX3_remember (wsV RX3 22 RX1 yX1_takeAll wsX1_takeAll) := goodIn_app (goodIn_of _ (by decide +kernel)) ggX3_remember_X1_takeAll
theorem dX3_remember_0 : decode cX3_remember 0 = .ok (.aload_n 0, 1) := by decide +kernel
theorem dX3_remember_1 : decode cX3_remember 1 = .ok (.getfield 11, 3) := by decide +kernel
theorem dX3_remember_4 : decode cX3_remember 4 = .ok (.aload_n 0, 1) := by decide +kernel
theorem dX3_remember_5 : decode cX3_remember 5 = .ok (.getfield 18, 3) := by decide +kernel
theorem dX3_remember_8 : decode cX3_remember 8 = .ok (.aaload, 1) := by decide +kernel
theorem dX3_remember_9 : decode cX3_remember 9 = .ok (.aload_n 1, 1) := by decide +kernel
theorem dX3_remember_10 : decode cX3_remember 10 = .ok (.invokevirtual 22, 3) := by decide +kernel
theorem dX3_remember_13 : decode cX3_remember 13 = .ok (.aload_n 0, 1) := by decide +kernel
theorem dX3_remember_14 : decode cX3_remember 14 = .ok (.aload_n 0, 1) := by decide +kernel
theorem dX3_remember_15 : decode cX3_remember 15 = .ok (.getfield 18, 3) := by decide +kernel
theorem dX3_remember_18 : decode cX3_remember 18 = .ok (.iconst 1, 1) := by decide +kernel
theorem dX3_remember_19 : decode cX3_remember 19 = .ok (.iadd, 1) := by decide +kernel
theorem dX3_remember_20 : decode cX3_remember 20 = .ok (.bipush 8, 2) := by decide +kernel
theorem dX3_remember_22 : decode cX3_remember 22 = .ok (.irem, 1) := by decide +kernel
theorem dX3_remember_23 : decode cX3_remember 23 = .ok (.putfield 18, 3) := by decide +kernel
theorem dX3_remember_26 : decode cX3_remember 26 = .ok (.aload_n 0, 1) := by decide +kernel
theorem dX3_remember_27 : decode cX3_remember 27 = .ok (.aload_n 0, 1) := by decide +kernel
theorem dX3_remember_28 : decode cX3_remember 28 = .ok (.getfield 26, 3) := by decide +kernel
theorem dX3_remember_31 : decode cX3_remember 31 = .ok (.iconst 1, 1) := by decide +kernel
theorem dX3_remember_32 : decode cX3_remember 32 = .ok (.iadd, 1) := by decide +kernel
theorem dX3_remember_33 : decode cX3_remember 33 = .ok (.bipush 8, 2) := by decide +kernel
theorem dX3_remember_35 : decode cX3_remember 35 = .ok (.invokestatic 29, 3) := by decide +kernel
theorem dX3_remember_38 : decode cX3_remember 38 = .ok (.putfield 26, 3) := by decide +kernel
theorem dX3_remember_41 : decode cX3_remember 41 = .ok (.return_, 1) := by decide +kernel
set_option maxRecDepth 20000 in
theorem ggX3_giveBack_X1_takeAll : GoodIn wsX3_giveBack wsX1_takeAll := goodIn_r _ [12, 13, 14, 15, 16, 17, 18, 19, 20, 21, 22, 26, 27, 28, 29, 30, 31] (by decide +kernel) (by decide +kernel)
set_option maxRecDepth 20000 in
theorem gX3_giveBack_X1_takeAll : GoodIn wsX3_giveBack (wsV RX3 22 RX1 yX1_takeAll wsX1_takeAll) := goodIn_app (goodIn_of _ (by decide +kernel)) ggX3_giveBack_X1_takeAll
theorem dX3_giveBack_0 : decode cX3_giveBack 0 = .ok (.aload_n 0, 1) := by decide +kernel
theorem dX3_giveBack_1 : decode cX3_giveBack 1 = .ok (.aload_n 0, 1) := by decide +kernel
theorem dX3_giveBack_2 : decode cX3_giveBack 2 = .ok (.getfield 18, 3) := by decide +kernel
theorem dX3_giveBack_5 : decode cX3_giveBack 5 = .ok (.bipush 8, 2) := by decide +kernel
theorem dX3_giveBack_7 : decode cX3_giveBack 7 = .ok (.iadd, 1) := by decide +kernel
theorem dX3_giveBack_8 : decode cX3_giveBack 8 = .ok (.iconst 1, 1) := by decide +kernel
theorem dX3_giveBack_9 : decode cX3_giveBack 9 = .ok (.isub, 1) := by decide +kernel
theorem dX3_giveBack_10 : decode cX3_giveBack 10 = .ok (.bipush 8, 2) := by decide +kernel
theorem dX3_giveBack_12 : decode cX3_giveBack 12 = .ok (.irem, 1) := by decide +kernel
theorem dX3_giveBack_13 : decode cX3_giveBack 13 = .ok (.putfield 18, 3) := by decide +kernel
theorem dX3_giveBack_16 : decode cX3_giveBack 16 = .ok (.aload_n 0, 1) := by decide +kernel
theorem dX3_giveBack_17 : decode cX3_giveBack 17 = .ok (.aload_n 0, 1) := by decide +kernel
theorem dX3_giveBack_18 : decode cX3_giveBack 18 = .ok (.getfield 26, 3) := by decide +kernel
theorem dX3_giveBack_21 : decode cX3_giveBack 21 = .ok (.iconst 1, 1) := by decide +kernel
theorem dX3_giveBack_22 : decode cX3_giveBack 22 = .ok (.isub, 1) := by decide +kernel
theorem dX3_giveBack_23 : decode cX3_giveBack 23 = .ok (.iconst 0, 1) := by decide +kernel
theorem dX3_giveBack_24 : decode cX3_giveBack 24 = .ok (.invokestatic 35, 3) := by decide +kernel
theorem dX3_giveBack_27 : decode cX3_giveBack 27 = .ok (.putfield 26, 3) := by decide +kernel
theorem dX3_giveBack_30 : decode cX3_giveBack 30 = .ok (.aload_n 1, 1) := by decide +kernel
theorem dX3_giveBack_31 : decode cX3_giveBack 31 = .ok (.aload_n 0, 1) := by decide +kernel
theorem dX3_giveBack_32 : decode cX3_giveBack 32 = .ok (.getfield 11, 3) := by decide +kernel
theorem dX3_giveBack_35 : decode cX3_giveBack 35 = .ok (.aload_n 0, 1) := by decide +kernel
theorem dX3_giveBack_36 : decode cX3_giveBack 36 = .ok (.getfield 18, 3) := by decide +kernel
theorem dX3_giveBack_39 : decode cX3_giveBack 39 = .ok (.aaload, 1) := by decide +kernel
theorem dX3_giveBack_40 : decode cX3_giveBack 40 = .ok (.invokevirtual 22, 3) := by decide +kernel
theorem dX3_giveBack_43 : decode cX3_giveBack 43 = .ok (.return_, 1) := by decide +kernel
theorem dX3_forget_0 : decode cX3_forget 0 = .ok (.aload_n 0, 1) := by decide +kernel
theorem dX3_forget_1 : decode cX3_forget 1 = .ok (.iconst 0, 1) := by decide +kernel
theorem dX3_forget_2 : decode cX3_forget 2 = .ok (.putfield 26, 3) := by decide +kernel
theorem dX3_forget_5 : decode cX3_forget 5 = .ok (.return_, 1) := by decide +kernel
theorem dX4_init_0 : decode cX4_init 0 = .ok (.aload_n 0, 1) := by decide +kernel
theorem dX4_init_1 : decode cX4_init 1 = .ok (.invokespecial 3, 3) := by decide +kernel
theorem dX4_init_4 : decode cX4_init 4 = .ok (.aload_n 0, 1) := by decide +kernel
theorem dX4_init_5 : decode cX4_init 5 = .ok (.bipush 96, 2) := by decide +kernel
theorem dX4_init_7 : decode cX4_init 7 = .ok (.newarray .int, 2) := by decide +kernel
theorem dX4_init_9 : decode cX4_init 9 = .ok (.putfield 9, 3) := by decide +kernel
theorem dX4_init_12 : decode cX4_init 12 = .ok (.return_, 1) := by decide +kernel
theorem dX4_makeEmpty_0 : decode cX4_makeEmpty 0 = .ok (.aload_n 0, 1) := by decide +kernel
theorem dX4_makeEmpty_1 : decode cX4_makeEmpty 1 = .ok (.iconst 0, 1) := by decide +kernel
theorem dX4_makeEmpty_2 : decode cX4_makeEmpty 2 = .ok (.putfield 15, 3) := by decide +kernel
theorem dX4_makeEmpty_5 : decode cX4_makeEmpty 5 = .ok (.return_, 1) := by decide +kernel
theorem dX4_addSign_0 : decode cX4_addSign 0 = .ok (.aload_n 0, 1) := by decide +kernel
theorem dX4_addSign_1 : decode cX4_addSign 1 = .ok (.getfield 15, 3) := by decide +kernel
theorem dX4_addSign_4 : decode cX4_addSign 4 = .ok (.aload_n 0, 1) := by decide +kernel
theorem dX4_addSign_5 : decode cX4_addSign 5 = .ok (.getfield 9, 3) := by decide +kernel
theorem dX4_addSign_8 : decode cX4_addSign 8 = .ok (.arraylength, 1) := by decide +kernel
theorem dX4_addSign_9 : decode cX4_addSign 9 = .ok (.if_icmp .ge 23, 3) := by decide +kernel
theorem dX4_addSign_12 : decode cX4_addSign 12 = .ok (.aload_n 0, 1) := by decide +kernel
theorem dX4_addSign_13 : decode cX4_addSign 13 = .ok (.getfield 9, 3) := by decide +kernel
theorem dX4_addSign_16 : decode cX4_addSign 16 = .ok (.aload_n 0, 1) := by decide +kernel
theorem dX4_addSign_17 : decode cX4_addSign 17 = .ok (.getfield 15, 3) := by decide +kernel
theorem dX4_addSign_20 : decode cX4_addSign 20 = .ok (.iload_n 1, 1) := by decide +kernel
theorem dX4_addSign_21 : decode cX4_addSign 21 = .ok (.iastore, 1) := by decide +kernel
theorem dX4_addSign_22 : decode cX4_addSign 22 = .ok (.aload_n 0, 1) := by decide +kernel
theorem dX4_addSign_23 : decode cX4_addSign 23 = .ok (.dup, 1) := by decide +kernel
theorem dX4_addSign_24 : decode cX4_addSign 24 = .ok (.getfield 15, 3) := by decide +kernel
theorem dX4_addSign_27 : decode cX4_addSign 27 = .ok (.iconst 1, 1) := by decide +kernel
theorem dX4_addSign_28 : decode cX4_addSign 28 = .ok (.iadd, 1) := by decide +kernel
theorem dX4_addSign_29 : decode cX4_addSign 29 = .ok (.putfield 15, 3) := by decide +kernel
theorem dX4_addSign_32 : decode cX4_addSign 32 = .ok (.return_, 1) := by decide +kernel
set_option maxRecDepth 20000 in
theorem ggX4_addNumber_X4_addSign : GoodIn wsX4_addNumber wsX4_addSign := goodIn_r _ [10, 11, 12, 13, 14] (by decide +kernel) (by decide +kernel)
set_option maxRecDepth 20000 in
theorem gX4_addNumber_X4_addSign : GoodIn wsX4_addNumber (wsV RX4 19 RX4 yX4_addSign wsX4_addSign) := goodIn_app (goodIn_of _ (by decide +kernel)) ggX4_addNumber_X4_addSign
theorem dX4_addNumber_0 : decode cX4_addNumber 0 = .ok (.lload_n 1, 1) := by decide +kernel
theorem dX4_addNumber_1 : decode cX4_addNumber 1 = .ok (.lconst 0, 1) := by decide +kernel
theorem dX4_addNumber_2 : decode cX4_addNumber 2 = .ok (.lcmp, 1) := by decide +kernel
theorem dX4_addNumber_3 : decode cX4_addNumber 3 = .ok (.ifCond .ge 9, 3) := by decide +kernel
theorem dX4_addNumber_6 : decode cX4_addNumber 6 = .ok (.aload_n 0, 1) := by decide +kernel
theorem dX4_addNumber_7 : decode cX4_addNumber 7 = .ok (.bipush 45, 2) := by decide +kernel
theorem dX4_addNumber_9 : decode cX4_addNumber 9 = .ok (.invokevirtual 19, 3) := by decide +kernel
theorem dX4_addNumber_12 : decode cX4_addNumber 12 = .ok (.lload_n 1, 1) := by decide +kernel
theorem dX4_addNumber_13 : decode cX4_addNumber 13 = .ok (.invokestatic 23, 3) := by decide +kernel
theorem dX4_addNumber_16 : decode cX4_addNumber 16 = .ok (.lstore_n 3, 1) := by decide +kernel
theorem dX4_addNumber_17 : decode cX4_addNumber 17 = .ok (.lconst 1, 1) := by decide +kernel
theorem dX4_addNumber_18 : decode cX4_addNumber 18 = .ok (.lstore 5, 2) := by decide +kernel
theorem dX4_addNumber_20 : decode cX4_addNumber 20 = .ok (.iconst 0, 1) := by decide +kernel
theorem dX4_addNumber_21 : decode cX4_addNumber 21 = .ok (.istore 7, 2) := by decide +kernel
theorem dX4_addNumber_23 : decode cX4_addNumber 23 = .ok (.iload 7, 2) := by decide +kernel
theorem dX4_addNumber_25 : decode cX4_addNumber 25 = .ok (.bipush 18, 2) := by decide +kernel
theorem dX4_addNumber_27 : decode cX4_addNumber 27 = .ok (.if_icmp .ge 28, 3) := by decide +kernel
theorem dX4_addNumber_30 : decode cX4_addNumber 30 = .ok (.lload_n 3, 1) := by decide +kernel
theorem dX4_addNumber_31 : decode cX4_addNumber 31 = .ok (.lload 5, 2) := by decide +kernel
theorem dX4_addNumber_33 : decode cX4_addNumber 33 = .ok (.ldiv, 1) := by decide +kernel
theorem dX4_addNumber_34 : decode cX4_addNumber 34 = .ok (.ldc2_w 29, 3) := by decide +kernel
theorem dX4_addNumber_37 : decode cX4_addNumber 37 = .ok (.lcmp, 1) := by decide +kernel
theorem dX4_addNumber_38 : decode cX4_addNumber 38 = .ok (.ifCond .lt 17, 3) := by decide +kernel
theorem dX4_addNumber_41 : decode cX4_addNumber 41 = .ok (.lload 5, 2) := by decide +kernel
theorem dX4_addNumber_43 : decode cX4_addNumber 43 = .ok (.ldc2_w 29, 3) := by decide +kernel
theorem dX4_addNumber_46 : decode cX4_addNumber 46 = .ok (.lmul, 1) := by decide +kernel
theorem dX4_addNumber_47 : decode cX4_addNumber 47 = .ok (.lstore 5, 2) := by decide +kernel
theorem dX4_addNumber_49 : decode cX4_addNumber 49 = .ok (.iinc 7 1, 3) := by decide +kernel
theorem dX4_addNumber_52 : decode cX4_addNumber 52 = .ok (.goto (-29), 3) := by decide +kernel
theorem dX4_addNumber_55 : decode cX4_addNumber 55 = .ok (.iconst 0, 1) := by decide +kernel
theorem dX4_addNumber_56 : decode cX4_addNumber 56 = .ok (.istore 7, 2) := by decide +kernel
theorem dX4_addNumber_58 : decode cX4_addNumber 58 = .ok (.iload 7, 2) := by decide +kernel
theorem dX4_addNumber_60 : decode cX4_addNumber 60 = .ok (.bipush 19, 2) := by decide +kernel
theorem dX4_addNumber_62 : decode cX4_addNumber 62 = .ok (.if_icmp .ge 40, 3) := by decide +kernel
theorem dX4_addNumber_65 : decode cX4_addNumber 65 = .ok (.lload 5, 2) := by decide +kernel
theorem dX4_addNumber_67 : decode cX4_addNumber 67 = .ok (.lconst 0, 1) := by decide +kernel
theorem dX4_addNumber_68 : decode cX4_addNumber 68 = .ok (.lcmp, 1) := by decide +kernel
theorem dX4_addNumber_69 : decode cX4_addNumber 69 = .ok (.ifCond .le 33, 3) := by decide +kernel
theorem dX4_addNumber_72 : decode cX4_addNumber 72 = .ok (.aload_n 0, 1) := by decide +kernel
theorem dX4_addNumber_73 : decode cX4_addNumber 73 = .ok (.bipush 48, 2) := by decide +kernel
theorem dX4_addNumber_75 : decode cX4_addNumber 75 = .ok (.lload_n 3, 1) := by decide +kernel
theorem dX4_addNumber_76 : decode cX4_addNumber 76 = .ok (.lload 5, 2) := by decide +kernel
theorem dX4_addNumber_78 : decode cX4_addNumber 78 = .ok (.ldiv, 1) := by decide +kernel
theorem dX4_addNumber_79 : decode cX4_addNumber 79 = .ok (.ldc2_w 29, 3) := by decide +kernel
theorem dX4_addNumber_82 : decode cX4_addNumber 82 = .ok (.lrem, 1) := by decide +kernel
theorem dX4_addNumber_83 : decode cX4_addNumber 83 = .ok (.l2i, 1) := by decide +kernel
theorem dX4_addNumber_84 : decode cX4_addNumber 84 = .ok (.iadd, 1) := by decide +kernel
theorem dX4_addNumber_85 : decode cX4_addNumber 85 = .ok (.invokevirtual 19, 3) := by decide +kernel
theorem dX4_addNumber_88 : decode cX4_addNumber 88 = .ok (.lload 5, 2) := by decide +kernel
theorem dX4_addNumber_90 : decode cX4_addNumber 90 = .ok (.ldc2_w 29, 3) := by decide +kernel
theorem dX4_addNumber_93 : decode cX4_addNumber 93 = .ok (.ldiv, 1) := by decide +kernel
theorem dX4_addNumber_94 : decode cX4_addNumber 94 = .ok (.lstore 5, 2) := by decide +kernel
theorem dX4_addNumber_96 : decode cX4_addNumber 96 = .ok (.iinc 7 1, 3) := by decide +kernel
theorem dX4_addNumber_99 : decode cX4_addNumber 99 = .ok (.goto (-41), 3) := by decide +kernel
theorem dX4_addNumber_102 : decode cX4_addNumber 102 = .ok (.return_, 1) := by decide +kernel
set_option maxRecDepth 20000 in
theorem ggX4_signAt_X5_within : GoodIn wsX4_signAt wsX5_within := goodIn_r _ [5] (by decide +kernel) (by decide +kernel)
set_option maxRecDepth 20000 in
theorem gX4_signAt_X5_within_n31 : GoodIn wsX4_signAt (wsX5_within) := ggX4_signAt_X5_within
theorem dX4_signAt_0 : decode cX4_signAt 0 = .ok (.iload_n 1, 1) := by decide +kernel
theorem dX4_signAt_1 : decode cX4_signAt 1 = .ok (.iconst 0, 1) := by decide +kernel
theorem dX4_signAt_2 : decode cX4_signAt 2 = .ok (.aload_n 0, 1) := by decide +kernel
theorem dX4_signAt_3 : decode cX4_signAt 3 = .ok (.getfield 15, 3) := by decide +kernel
theorem dX4_signAt_6 : decode cX4_signAt 6 = .ok (.iconst 1, 1) := by decide +kernel
theorem dX4_signAt_7 : decode cX4_signAt 7 = .ok (.isub, 1) := by decide +kernel
theorem dX4_signAt_8 : decode cX4_signAt 8 = .ok (.invokestatic 31, 3) := by decide +kernel
theorem dX4_signAt_11 : decode cX4_signAt 11 = .ok (.ifCond .eq 12, 3) := by decide +kernel
theorem dX4_signAt_14 : decode cX4_signAt 14 = .ok (.aload_n 0, 1) := by decide +kernel
theorem dX4_signAt_15 : decode cX4_signAt 15 = .ok (.getfield 9, 3) := by decide +kernel
theorem dX4_signAt_18 : decode cX4_signAt 18 = .ok (.iload_n 1, 1) := by decide +kernel
theorem dX4_signAt_19 : decode cX4_signAt 19 = .ok (.iaload, 1) := by decide +kernel
theorem dX4_signAt_20 : decode cX4_signAt 20 = .ok (.goto 4, 3) := by decide +kernel
theorem dX4_signAt_23 : decode cX4_signAt 23 = .ok (.iconst (-1), 1) := by decide +kernel
theorem dX4_signAt_24 : decode cX4_signAt 24 = .ok (.ireturn, 1) := by decide +kernel
set_option maxRecDepth 20000 in
theorem ggX5_init_X1_init : GoodIn wsX5_init wsX1_init := goodIn_r _ [25, 26, 2, 3, 27, 28, 29, 30, 31, 32, 33, 34, 35, 6, 36, 37, 74, 75, 76, 77, 78, 79] (by decide +kernel) (by decide +kernel)
set_option maxRecDepth 20000 in
theorem gX5_init_X1_init : GoodIn wsX5_init (wsX1_init) := ggX5_init_X1_init
set_option maxRecDepth 20000 in
theorem ggX5_init_X0_init : GoodIn wsX5_init wsX0_init := goodIn_r _ [40, 41, 2, 3, 42, 43, 44, 45, 21, 46, 47, 48, 49, 50, 86, 87, 88, 89, 90, 91, 92, 93] (by decide +kernel) (by decide +kernel)
set_option maxRecDepth 20000 in
theorem gX5_init_X0_init : GoodIn wsX5_init (wsX0_init) := ggX5_init_X0_init
set_option maxRecDepth 20000 in
theorem ggX5_init_X3_init : GoodIn wsX5_init wsX3_init := goodIn_r _ [53, 54, 2, 3, 55, 56, 5, 6, 57, 24, 25, 26, 27, 28, 29, 30, 31, 32, 33, 34, 35, 36, 37, 94, 95, 96, 74, 75, 76, 77, 78, 79] (by decide +kernel) (by decide +kernel)
set_option maxRecDepth 20000 in
theorem gX5_init_X3_init : GoodIn wsX5_init (wsX3_init) := ggX5_init_X3_init
set_option maxRecDepth 20000 in
theorem ggX5_init_X2_init : GoodIn wsX5_init wsX2_init := goodIn_r _ [60, 61, 2, 3, 29, 62, 63, 64, 65, 66, 67, 68, 69, 70, 71, 72, 73, 97, 98, 99, 100, 101, 102, 103] (by decide +kernel) (by decide +kernel)
set_option maxRecDepth 20000 in
theorem gX5_init_X2_init : GoodIn wsX5_init (wsX2_init) := ggX5_init_X2_init
theorem dX5_init_0 : decode cX5_init 0 = .ok (.aload_n 0, 1) := by decide +kernel
theorem dX5_init_1 : decode cX5_init 1 = .ok (.invokespecial 3, 3) := by decide +kernel
theorem dX5_init_4 : decode cX5_init 4 = .ok (.aload_n 0, 1) := by decide +kernel
theorem dX5_init_5 : decode cX5_init 5 = .ok (.new 9, 3) := by decide +kernel
theorem dX5_init_8 : decode cX5_init 8 = .ok (.dup, 1) := by decide +kernel
theorem dX5_init_9 : decode cX5_init 9 = .ok (.invokespecial 11, 3) := by decide +kernel
theorem dX5_init_12 : decode cX5_init 12 = .ok (.putfield 12, 3) := by decide +kernel
theorem dX5_init_15 : decode cX5_init 15 = .ok (.aload_n 0, 1) := by decide +kernel
theorem dX5_init_16 : decode cX5_init 16 = .ok (.new 16, 3) := by decide +kernel
theorem dX5_init_19 : decode cX5_init 19 = .ok (.dup, 1) := by decide +kernel
theorem dX5_init_20 : decode cX5_init 20 = .ok (.aload_n 0, 1) := by decide +kernel
theorem dX5_init_21 : decode cX5_init 21 = .ok (.getfield 12, 3) := by decide +kernel
theorem dX5_init_24 : decode cX5_init 24 = .ok (.invokespecial 18, 3) := by decide +kernel
theorem dX5_init_27 : decode cX5_init 27 = .ok (.putfield 21, 3) := by decide +kernel
theorem dX5_init_30 : decode cX5_init 30 = .ok (.aload_n 0, 1) := by decide +kernel
theorem dX5_init_31 : decode cX5_init 31 = .ok (.new 25, 3) := by decide +kernel
theorem dX5_init_34 : decode cX5_init 34 = .ok (.dup, 1) := by decide +kernel
theorem dX5_init_35 : decode cX5_init 35 = .ok (.invokespecial 27, 3) := by decide +kernel
theorem dX5_init_38 : decode cX5_init 38 = .ok (.putfield 28, 3) := by decide +kernel
theorem dX5_init_41 : decode cX5_init 41 = .ok (.aload_n 0, 1) := by decide +kernel
theorem dX5_init_42 : decode cX5_init 42 = .ok (.new 32, 3) := by decide +kernel
theorem dX5_init_45 : decode cX5_init 45 = .ok (.dup, 1) := by decide +kernel
theorem dX5_init_46 : decode cX5_init 46 = .ok (.aload_n 0, 1) := by decide +kernel
theorem dX5_init_47 : decode cX5_init 47 = .ok (.getfield 12, 3) := by decide +kernel
theorem dX5_init_50 : decode cX5_init 50 = .ok (.aload_n 0, 1) := by decide +kernel
theorem dX5_init_51 : decode cX5_init 51 = .ok (.getfield 21, 3) := by decide +kernel
theorem dX5_init_54 : decode cX5_init 54 = .ok (.invokespecial 34, 3) := by decide +kernel
theorem dX5_init_57 : decode cX5_init 57 = .ok (.putfield 37, 3) := by decide +kernel
theorem dX5_init_60 : decode cX5_init 60 = .ok (.aload_n 0, 1) := by decide +kernel
theorem dX5_init_61 : decode cX5_init 61 = .ok (.iconst 2, 1) := by decide +kernel
theorem dX5_init_62 : decode cX5_init 62 = .ok (.anewarray 9, 3) := by decide +kernel
theorem dX5_init_65 : decode cX5_init 65 = .ok (.putfield 41, 3) := by decide +kernel
theorem dX5_init_68 : decode cX5_init 68 = .ok (.aload_n 0, 1) := by decide +kernel
theorem dX5_init_69 : decode cX5_init 69 = .ok (.iconst 2, 1) := by decide +kernel
theorem dX5_init_70 : decode cX5_init 70 = .ok (.newarray .boolean, 2) := by decide +kernel
theorem dX5_init_72 : decode cX5_init 72 = .ok (.putfield 45, 3) := by decide +kernel
theorem dX5_init_75 : decode cX5_init 75 = .ok (.iconst 0, 1) := by decide +kernel
theorem dX5_init_76 : decode cX5_init 76 = .ok (.istore_n 1, 1) := by decide +kernel
theorem dX5_init_77 : decode cX5_init 77 = .ok (.iload_n 1, 1) := by decide +kernel
theorem dX5_init_78 : decode cX5_init 78 = .ok (.iconst 2, 1) := by decide +kernel
theorem dX5_init_79 : decode cX5_init 79 = .ok (.if_icmp .ge 22, 3) := by decide +kernel
theorem dX5_init_82 : decode cX5_init 82 = .ok (.aload_n 0, 1) := by decide +kernel
theorem dX5_init_83 : decode cX5_init 83 = .ok (.getfield 41, 3) := by decide +kernel
theorem dX5_init_86 : decode cX5_init 86 = .ok (.iload_n 1, 1) := by decide +kernel
theorem dX5_init_87 : decode cX5_init 87 = .ok (.new 9, 3) := by decide +kernel
theorem dX5_init_90 : decode cX5_init 90 = .ok (.dup, 1) := by decide +kernel
theorem dX5_init_91 : decode cX5_init 91 = .ok (.invokespecial 11, 3) := by decide +kernel
theorem dX5_init_94 : decode cX5_init 94 = .ok (.aastore, 1) := by decide +kernel
theorem dX5_init_95 : decode cX5_init 95 = .ok (.iinc 1 1, 3) := by decide +kernel
theorem dX5_init_98 : decode cX5_init 98 = .ok (.goto (-21), 3) := by decide +kernel
theorem dX5_init_101 : decode cX5_init 101 = .ok (.return_, 1) := by decide +kernel
set_option maxRecDepth 20000 in
theorem ggX5_letters_X5_within : GoodIn wsX5_letters wsX5_within := goodIn_r _ [8] (by decide +kernel) (by decide +kernel)
set_option maxRecDepth 20000 in
theorem gX5_letters_X5_within : GoodIn wsX5_letters (va_wsS RX5 49 yX5_within wsX5_within) := goodIn_app (goodIn_of _ (by decide +kernel)) ggX5_letters_X5_within
set_option maxRecDepth 20000 in
theorem ggX5_letters_X5_beginChange : GoodIn wsX5_letters wsX5_beginChange := goodIn_r _ [12, 13, 2, 14, 15, 16, 17, 18, 19, 20, 21, 22, 23, 24, 25, 26, 27, 28, 29, 30, 31, 32, 33, 34, 35, 36, 37, 38, 39, 40, 41, 42, 43, 44, 45, 46, 47, 58, 59, 60, 61, 62, 63, 70, 71, 72, 64, 65, 66, 67, 68, 69, 73, 74, 75, 76, 77, 78, 79, 80] (by decide +kernel) (by decide +kernel)
set_option maxRecDepth 20000 in
theorem gX5_letters_X5_beginChange : GoodIn wsX5_letters (wsV RX5 54 RX5 yX5_beginChange wsX5_beginChange) := goodIn_app (goodIn_of _ (by decide +kernel)) ggX5_letters_X5_beginChange
set_option maxRecDepth 20000 in
theorem ggX5_letters_X1_startAnew : GoodIn wsX5_letters wsX1_startAnew := goodIn_r _ [51, 32, 35, 40, 41, 64, 65, 66, 67, 68, 69] (by decide +kernel) (by decide +kernel)
set_option maxRecDepth 20000 in
theorem gX5_letters_X1_startAnew : GoodIn wsX5_letters (wsV RX5 61 RX1 yX1_startAnew wsX1_startAnew) := goodIn_app (goodIn_of _ (by decide +kernel)) ggX5_letters_X1_startAnew
set_option maxRecDepth 20000 in
theorem ggX5_letters_X2_makeEmpty : GoodIn wsX5_letters wsX2_makeEmpty := goodIn_r _ [56, 57, 81, 82, 83, 84, 85] (by decide +kernel) (by decide +kernel)
set_option maxRecDepth 20000 in
theorem gX5_letters_X2_makeEmpty : GoodIn wsX5_letters (wsV RX5 65 RX2 yX2_makeEmpty wsX2_makeEmpty) := goodIn_app (goodIn_of _ (by decide +kernel)) ggX5_letters_X2_makeEmpty
theorem dX5_letters_0 : decode cX5_letters 0 = .ok (.iload_n 1, 1) := by decide +kernel
theorem dX5_letters_1 : decode cX5_letters 1 = .ok (.iconst 1, 1) := by decide +kernel
theorem dX5_letters_2 : decode cX5_letters 2 = .ok (.iconst 3, 1) := by decide +kernel
theorem dX5_letters_3 : decode cX5_letters 3 = .ok (.invokestatic 49, 3) := by decide +kernel
theorem dX5_letters_6 : decode cX5_letters 6 = .ok (.ifCond .ne 6, 3) := by decide +kernel
theorem dX5_letters_9 : decode cX5_letters 9 = .ok (.ldc 53, 2) := by decide +kernel
theorem dX5_letters_11 : decode cX5_letters 11 = .ok (.ireturn, 1) := by decide +kernel
theorem dX5_letters_12 : decode cX5_letters 12 = .ok (.aload_n 0, 1) := by decide +kernel
theorem dX5_letters_13 : decode cX5_letters 13 = .ok (.invokevirtual 54, 3) := by decide +kernel
theorem dX5_letters_16 : decode cX5_letters 16 = .ok (.aload_n 0, 1) := by decide +kernel
theorem dX5_letters_17 : decode cX5_letters 17 = .ok (.getfield 12, 3) := by decide +kernel
theorem dX5_letters_20 : decode cX5_letters 20 = .ok (.getfield 57, 3) := by decide +kernel
theorem dX5_letters_23 : decode cX5_letters 23 = .ok (.istore_n 2, 1) := by decide +kernel
theorem dX5_letters_24 : decode cX5_letters 24 = .ok (.aload_n 0, 1) := by decide +kernel
theorem dX5_letters_25 : decode cX5_letters 25 = .ok (.getfield 12, 3) := by decide +kernel
theorem dX5_letters_28 : decode cX5_letters 28 = .ok (.iload_n 1, 1) := by decide +kernel
theorem dX5_letters_29 : decode cX5_letters 29 = .ok (.invokevirtual 61, 3) := by decide +kernel
theorem dX5_letters_32 : decode cX5_letters 32 = .ok (.aload_n 0, 1) := by decide +kernel
theorem dX5_letters_33 : decode cX5_letters 33 = .ok (.getfield 37, 3) := by decide +kernel
theorem dX5_letters_36 : decode cX5_letters 36 = .ok (.invokevirtual 65, 3) := by decide +kernel
theorem dX5_letters_39 : decode cX5_letters 39 = .ok (.iload_n 2, 1) := by decide +kernel
theorem dX5_letters_40 : decode cX5_letters 40 = .ok (.ireturn, 1) := by decide +kernel
set_option maxRecDepth 20000 in
theorem ggX5_side_X1_hasLetter : GoodIn wsX5_side wsX1_hasLetter := goodIn_r _ [8, 9, 10, 11, 12, 74, 75, 76, 77, 78, 79] (by decide +kernel) (by decide +kernel)
set_option maxRecDepth 20000 in
theorem gX5_side_X1_hasLetter : GoodIn wsX5_side (wsV RX5 68 RX1 yX1_hasLetter wsX1_hasLetter) := goodIn_app (goodIn_of _ (by decide +kernel)) ggX5_side_X1_hasLetter
set_option maxRecDepth 20000 in
theorem ggX5_side_X5_isHeight : GoodIn wsX5_side wsX5_isHeight := goodIn_r _ [15, 16, 10, 11, 12] (by decide +kernel) (by decide +kernel)
set_option maxRecDepth 20000 in
theorem gX5_side_X5_isHeight : GoodIn wsX5_side (va_wsS RX5 72 yX5_isHeight wsX5_isHeight) := goodIn_app (goodIn_of _ (by decide +kernel)) ggX5_side_X5_isHeight
set_option maxRecDepth 20000 in
theorem ggX5_side_X5_isSide : GoodIn wsX5_side wsX5_isSide := goodIn_r _ [19, 16, 10, 11, 12] (by decide +kernel) (by decide +kernel)
set_option maxRecDepth 20000 in
theorem gX5_side_X5_isSide : GoodIn wsX5_side (va_wsS RX5 76 yX5_isSide wsX5_isSide) := goodIn_app (goodIn_of _ (by decide +kernel)) ggX5_side_X5_isSide
set_option maxRecDepth 20000 in
theorem ggX5_side_X5_within : GoodIn wsX5_side wsX5_within := goodIn_r _ [12] (by decide +kernel) (by decide +kernel)
set_option maxRecDepth 20000 in
theorem gX5_side_X5_within : GoodIn wsX5_side (va_wsS RX5 49 yX5_within wsX5_within) := goodIn_app (goodIn_of _ (by decide +kernel)) ggX5_side_X5_within
set_option maxRecDepth 20000 in
theorem ggX5_side_X5_beginChange : GoodIn wsX5_side wsX5_beginChange := goodIn_r _ [23, 24, 1, 25, 26, 27, 28, 29, 30, 31, 32, 33, 34, 35, 36, 37, 38, 39, 40, 7, 41, 9, 42, 43, 44, 45, 46, 47, 48, 49, 50, 51, 52, 53, 54, 55, 56, 68, 69, 70, 71, 72, 73, 80, 81, 82, 74, 75, 76, 77, 78, 79, 83, 84, 85, 86, 87, 88, 89, 90] (by decide +kernel) (by decide +kernel)
set_option maxRecDepth 20000 in
theorem gX5_side_X5_beginChange : GoodIn wsX5_side (wsV RX5 54 RX5 yX5_beginChange wsX5_beginChange) := goodIn_app (goodIn_of _ (by decide +kernel)) ggX5_side_X5_beginChange
set_option maxRecDepth 20000 in
theorem ggX5_side_X1_backOf : GoodIn wsX5_side wsX1_backOf := goodIn_r _ [60, 49, 61, 62, 7, 63, 74, 75, 76, 77, 78, 79] (by decide +kernel) (by decide +kernel)
set_option maxRecDepth 20000 in
theorem gX5_side_X1_backOf : GoodIn wsX5_side (wsV RX5 79 RX1 yX1_backOf wsX1_backOf) := goodIn_app (goodIn_of _ (by decide +kernel)) ggX5_side_X1_backOf
set_option maxRecDepth 20000 in
theorem ggX5_side_X1_putBack : GoodIn wsX5_side wsX1_putBack := goodIn_r _ [67, 49, 61, 62, 7, 63, 74, 75, 76, 77, 78, 79] (by decide +kernel) (by decide +kernel)
set_option maxRecDepth 20000 in
theorem gX5_side_X1_putBack : GoodIn wsX5_side (wsV RX5 83 RX1 yX1_putBack wsX1_putBack) := goodIn_app (goodIn_of _ (by decide +kernel)) ggX5_side_X1_putBack
theorem dX5_side_0 : decode cX5_side 0 = .ok (.aload_n 0, 1) := by decide +kernel
theorem dX5_side_1 : decode cX5_side 1 = .ok (.getfield 12, 3) := by decide +kernel
theorem dX5_side_4 : decode cX5_side 4 = .ok (.iload_n 1, 1) := by decide +kernel
theorem dX5_side_5 : decode cX5_side 5 = .ok (.invokevirtual 68, 3) := by decide +kernel
theorem dX5_side_8 : decode cX5_side 8 = .ok (.ifCond .eq 10, 3) := by decide +kernel
theorem dX5_side_11 : decode cX5_side 11 = .ok (.iload_n 3, 1) := by decide +kernel
theorem dX5_side_12 : decode cX5_side 12 = .ok (.invokestatic 72, 3) := by decide +kernel
theorem dX5_side_15 : decode cX5_side 15 = .ok (.ifCond .ne 6, 3) := by decide +kernel
theorem dX5_side_18 : decode cX5_side 18 = .ok (.ldc 75, 2) := by decide +kernel
theorem dX5_side_20 : decode cX5_side 20 = .ok (.ireturn, 1) := by decide +kernel
theorem dX5_side_21 : decode cX5_side 21 = .ok (.iload_n 2, 1) := by decide +kernel
theorem dX5_side_22 : decode cX5_side 22 = .ok (.invokestatic 76, 3) := by decide +kernel
theorem dX5_side_25 : decode cX5_side 25 = .ok (.ifCond .eq 14, 3) := by decide +kernel
theorem dX5_side_28 : decode cX5_side 28 = .ok (.iload 4, 2) := by decide +kernel
theorem dX5_side_30 : decode cX5_side 30 = .ok (.iconst 0, 1) := by decide +kernel
theorem dX5_side_31 : decode cX5_side 31 = .ok (.bipush 30, 2) := by decide +kernel
theorem dX5_side_33 : decode cX5_side 33 = .ok (.invokestatic 49, 3) := by decide +kernel
theorem dX5_side_36 : decode cX5_side 36 = .ok (.ifCond .ne 6, 3) := by decide +kernel
theorem dX5_side_39 : decode cX5_side 39 = .ok (.ldc 53, 2) := by decide +kernel
theorem dX5_side_41 : decode cX5_side 41 = .ok (.ireturn, 1) := by decide +kernel
theorem dX5_side_42 : decode cX5_side 42 = .ok (.aload_n 0, 1) := by decide +kernel
theorem dX5_side_43 : decode cX5_side 43 = .ok (.invokevirtual 54, 3) := by decide +kernel
theorem dX5_side_46 : decode cX5_side 46 = .ok (.aload_n 0, 1) := by decide +kernel
theorem dX5_side_47 : decode cX5_side 47 = .ok (.getfield 12, 3) := by decide +kernel
theorem dX5_side_50 : decode cX5_side 50 = .ok (.iload_n 1, 1) := by decide +kernel
theorem dX5_side_51 : decode cX5_side 51 = .ok (.iload_n 2, 1) := by decide +kernel
theorem dX5_side_52 : decode cX5_side 52 = .ok (.iload_n 3, 1) := by decide +kernel
theorem dX5_side_53 : decode cX5_side 53 = .ok (.invokevirtual 79, 3) := by decide +kernel
theorem dX5_side_56 : decode cX5_side 56 = .ok (.istore 5, 2) := by decide +kernel
theorem dX5_side_58 : decode cX5_side 58 = .ok (.aload_n 0, 1) := by decide +kernel
theorem dX5_side_59 : decode cX5_side 59 = .ok (.getfield 12, 3) := by decide +kernel
theorem dX5_side_62 : decode cX5_side 62 = .ok (.iload_n 1, 1) := by decide +kernel
theorem dX5_side_63 : decode cX5_side 63 = .ok (.iload_n 2, 1) := by decide +kernel
theorem dX5_side_64 : decode cX5_side 64 = .ok (.iload_n 3, 1) := by decide +kernel
theorem dX5_side_65 : decode cX5_side 65 = .ok (.iload 4, 2) := by decide +kernel
theorem dX5_side_67 : decode cX5_side 67 = .ok (.invokevirtual 83, 3) := by decide +kernel
theorem dX5_side_70 : decode cX5_side 70 = .ok (.iload 5, 2) := by decide +kernel
theorem dX5_side_72 : decode cX5_side 72 = .ok (.ireturn, 1) := by decide +kernel
set_option maxRecDepth 20000 in
theorem ggX5_body_X1_hasLetter : GoodIn wsX5_body wsX1_hasLetter := goodIn_r _ [9, 10, 11, 12, 13, 58, 59, 60, 61, 62, 63] (by decide +kernel) (by decide +kernel)
set_option maxRecDepth 20000 in
theorem gX5_body_X1_hasLetter : GoodIn wsX5_body (wsV RX5 68 RX1 yX1_hasLetter wsX1_hasLetter) := goodIn_app (goodIn_of _ (by decide +kernel)) ggX5_body_X1_hasLetter
set_option maxRecDepth 20000 in
theorem ggX5_body_X5_within : GoodIn wsX5_body wsX5_within := goodIn_r _ [13] (by decide +kernel) (by decide +kernel)
set_option maxRecDepth 20000 in
theorem gX5_body_X5_within : GoodIn wsX5_body (va_wsS RX5 49 yX5_within wsX5_within) := goodIn_app (goodIn_of _ (by decide +kernel)) ggX5_body_X5_within
set_option maxRecDepth 20000 in
theorem ggX5_body_X5_beginChange : GoodIn wsX5_body wsX5_beginChange := goodIn_r _ [18, 19, 1, 20, 21, 22, 23, 24, 25, 26, 27, 28, 29, 30, 31, 32, 33, 34, 35, 8, 36, 10, 37, 38, 39, 40, 41, 42, 43, 44, 45, 46, 47, 48, 49, 50, 51, 52, 53, 54, 55, 56, 57, 64, 65, 66, 58, 59, 60, 61, 62, 63, 67, 68, 69, 70, 71, 72, 73, 74] (by decide +kernel) (by decide +kernel)
set_option maxRecDepth 20000 in
theorem gX5_body_X5_beginChange : GoodIn wsX5_body (wsV RX5 54 RX5 yX5_beginChange wsX5_beginChange) := goodIn_app (goodIn_of _ (by decide +kernel)) ggX5_body_X5_beginChange
theorem dX5_body_0 : decode cX5_body 0 = .ok (.aload_n 0, 1) := by decide +kernel
theorem dX5_body_1 : decode cX5_body 1 = .ok (.getfield 12, 3) := by decide +kernel
theorem dX5_body_4 : decode cX5_body 4 = .ok (.iload_n 1, 1) := by decide +kernel
theorem dX5_body_5 : decode cX5_body 5 = .ok (.invokevirtual 68, 3) := by decide +kernel
theorem dX5_body_8 : decode cX5_body 8 = .ok (.ifCond .ne 6, 3) := by decide +kernel
theorem dX5_body_11 : decode cX5_body 11 = .ok (.ldc 75, 2) := by decide +kernel
theorem dX5_body_13 : decode cX5_body 13 = .ok (.ireturn, 1) := by decide +kernel
theorem dX5_body_14 : decode cX5_body 14 = .ok (.iload_n 2, 1) := by decide +kernel
theorem dX5_body_15 : decode cX5_body 15 = .ok (.iconst 1, 1) := by decide +kernel
theorem dX5_body_16 : decode cX5_body 16 = .ok (.bipush 50, 2) := by decide +kernel
theorem dX5_body_18 : decode cX5_body 18 = .ok (.invokestatic 49, 3) := by decide +kernel
theorem dX5_body_21 : decode cX5_body 21 = .ok (.ifCond .ne 6, 3) := by decide +kernel
theorem dX5_body_24 : decode cX5_body 24 = .ok (.ldc 53, 2) := by decide +kernel
theorem dX5_body_26 : decode cX5_body 26 = .ok (.ireturn, 1) := by decide +kernel
theorem dX5_body_27 : decode cX5_body 27 = .ok (.aload_n 0, 1) := by decide +kernel
theorem dX5_body_28 : decode cX5_body 28 = .ok (.invokevirtual 54, 3) := by decide +kernel
theorem dX5_body_31 : decode cX5_body 31 = .ok (.aload_n 0, 1) := by decide +kernel
theorem dX5_body_32 : decode cX5_body 32 = .ok (.getfield 12, 3) := by decide +kernel
theorem dX5_body_35 : decode cX5_body 35 = .ok (.getfield 87, 3) := by decide +kernel
theorem dX5_body_38 : decode cX5_body 38 = .ok (.iload_n 1, 1) := by decide +kernel
theorem dX5_body_39 : decode cX5_body 39 = .ok (.iaload, 1) := by decide +kernel
theorem dX5_body_40 : decode cX5_body 40 = .ok (.istore_n 3, 1) := by decide +kernel
theorem dX5_body_41 : decode cX5_body 41 = .ok (.aload_n 0, 1) := by decide +kernel
theorem dX5_body_42 : decode cX5_body 42 = .ok (.getfield 12, 3) := by decide +kernel
theorem dX5_body_45 : decode cX5_body 45 = .ok (.getfield 87, 3) := by decide +kernel
theorem dX5_body_48 : decode cX5_body 48 = .ok (.iload_n 1, 1) := by decide +kernel
theorem dX5_body_49 : decode cX5_body 49 = .ok (.iload_n 2, 1) := by decide +kernel
theorem dX5_body_50 : decode cX5_body 50 = .ok (.iastore, 1) := by decide +kernel
theorem dX5_body_51 : decode cX5_body 51 = .ok (.iload_n 3, 1) := by decide +kernel
theorem dX5_body_52 : decode cX5_body 52 = .ok (.ireturn, 1) := by decide +kernel
set_option maxRecDepth 20000 in
theorem ggX5_bound_X5_within : GoodIn wsX5_bound wsX5_within := goodIn_r _ [8] (by decide +kernel) (by decide +kernel)
set_option maxRecDepth 20000 in
theorem gX5_bound_X5_within : GoodIn wsX5_bound (va_wsS RX5 49 yX5_within wsX5_within) := goodIn_app (goodIn_of _ (by decide +kernel)) ggX5_bound_X5_within
set_option maxRecDepth 20000 in
theorem ggX5_bound_X5_beginChange : GoodIn wsX5_bound wsX5_beginChange := goodIn_r _ [12, 13, 1, 14, 15, 16, 17, 18, 19, 20, 21, 22, 23, 24, 25, 26, 27, 28, 29, 30, 31, 32, 33, 34, 35, 36, 37, 38, 39, 40, 41, 42, 43, 44, 45, 46, 47, 48, 49, 50, 51, 52, 53, 60, 61, 62, 54, 55, 56, 57, 58, 59, 63, 64, 65, 66, 67, 68, 69, 70] (by decide +kernel) (by decide +kernel)
set_option maxRecDepth 20000 in
theorem gX5_bound_X5_beginChange : GoodIn wsX5_bound (wsV RX5 54 RX5 yX5_beginChange wsX5_beginChange) := goodIn_app (goodIn_of _ (by decide +kernel)) ggX5_bound_X5_beginChange
theorem dX5_bound_0 : decode cX5_bound 0 = .ok (.iload_n 1, 1) := by decide +kernel
theorem dX5_bound_1 : decode cX5_bound 1 = .ok (.ifCond .ne 35, 3) := by decide +kernel
theorem dX5_bound_4 : decode cX5_bound 4 = .ok (.iload_n 2, 1) := by decide +kernel
theorem dX5_bound_5 : decode cX5_bound 5 = .ok (.iconst 1, 1) := by decide +kernel
theorem dX5_bound_6 : decode cX5_bound 6 = .ok (.bipush 60, 2) := by decide +kernel
theorem dX5_bound_8 : decode cX5_bound 8 = .ok (.invokestatic 49, 3) := by decide +kernel
theorem dX5_bound_11 : decode cX5_bound 11 = .ok (.ifCond .eq 25, 3) := by decide +kernel
theorem dX5_bound_14 : decode cX5_bound 14 = .ok (.aload_n 0, 1) := by decide +kernel
theorem dX5_bound_15 : decode cX5_bound 15 = .ok (.invokevirtual 54, 3) := by decide +kernel
theorem dX5_bound_18 : decode cX5_bound 18 = .ok (.aload_n 0, 1) := by decide +kernel
theorem dX5_bound_19 : decode cX5_bound 19 = .ok (.getfield 12, 3) := by decide +kernel
theorem dX5_bound_22 : decode cX5_bound 22 = .ok (.getfield 91, 3) := by decide +kernel
theorem dX5_bound_25 : decode cX5_bound 25 = .ok (.istore_n 3, 1) := by decide +kernel
theorem dX5_bound_26 : decode cX5_bound 26 = .ok (.aload_n 0, 1) := by decide +kernel
theorem dX5_bound_27 : decode cX5_bound 27 = .ok (.getfield 12, 3) := by decide +kernel
theorem dX5_bound_30 : decode cX5_bound 30 = .ok (.iload_n 2, 1) := by decide +kernel
theorem dX5_bound_31 : decode cX5_bound 31 = .ok (.putfield 91, 3) := by decide +kernel
theorem dX5_bound_34 : decode cX5_bound 34 = .ok (.iload_n 3, 1) := by decide +kernel
theorem dX5_bound_35 : decode cX5_bound 35 = .ok (.ireturn, 1) := by decide +kernel
theorem dX5_bound_36 : decode cX5_bound 36 = .ok (.iload_n 1, 1) := by decide +kernel
theorem dX5_bound_37 : decode cX5_bound 37 = .ok (.iconst 1, 1) := by decide +kernel
theorem dX5_bound_38 : decode cX5_bound 38 = .ok (.if_icmp .ne 36, 3) := by decide +kernel
theorem dX5_bound_41 : decode cX5_bound 41 = .ok (.iload_n 2, 1) := by decide +kernel
theorem dX5_bound_42 : decode cX5_bound 42 = .ok (.iconst 0, 1) := by decide +kernel
theorem dX5_bound_43 : decode cX5_bound 43 = .ok (.sipush 500, 3) := by decide +kernel
theorem dX5_bound_46 : decode cX5_bound 46 = .ok (.invokestatic 49, 3) := by decide +kernel
theorem dX5_bound_49 : decode cX5_bound 49 = .ok (.ifCond .eq 25, 3) := by decide +kernel
theorem dX5_bound_52 : decode cX5_bound 52 = .ok (.aload_n 0, 1) := by decide +kernel
theorem dX5_bound_53 : decode cX5_bound 53 = .ok (.invokevirtual 54, 3) := by decide +kernel
theorem dX5_bound_56 : decode cX5_bound 56 = .ok (.aload_n 0, 1) := by decide +kernel
theorem dX5_bound_57 : decode cX5_bound 57 = .ok (.getfield 12, 3) := by decide +kernel
theorem dX5_bound_60 : decode cX5_bound 60 = .ok (.getfield 94, 3) := by decide +kernel
theorem dX5_bound_63 : decode cX5_bound 63 = .ok (.istore_n 3, 1) := by decide +kernel
theorem dX5_bound_64 : decode cX5_bound 64 = .ok (.aload_n 0, 1) := by decide +kernel
theorem dX5_bound_65 : decode cX5_bound 65 = .ok (.getfield 12, 3) := by decide +kernel
theorem dX5_bound_68 : decode cX5_bound 68 = .ok (.iload_n 2, 1) := by decide +kernel
theorem dX5_bound_69 : decode cX5_bound 69 = .ok (.putfield 94, 3) := by decide +kernel
theorem dX5_bound_72 : decode cX5_bound 72 = .ok (.iload_n 3, 1) := by decide +kernel
theorem dX5_bound_73 : decode cX5_bound 73 = .ok (.ireturn, 1) := by decide +kernel
theorem dX5_bound_74 : decode cX5_bound 74 = .ok (.ldc 53, 2) := by decide +kernel
theorem dX5_bound_76 : decode cX5_bound 76 = .ok (.ireturn, 1) := by decide +kernel
set_option maxRecDepth 20000 in
theorem ggX5_weight_X1_hasPair : GoodIn wsX5_weight wsX1_hasPair := goodIn_r _ [8, 9, 10, 11, 7, 12, 13, 14, 15, 16, 69, 70, 71, 72, 73, 74] (by decide +kernel) (by decide +kernel)
set_option maxRecDepth 20000 in
theorem gX5_weight_X1_hasPair : GoodIn wsX5_weight (wsV RX5 97 RX1 yX1_hasPair wsX1_hasPair) := goodIn_app (goodIn_of _ (by decide +kernel)) ggX5_weight_X1_hasPair
set_option maxRecDepth 20000 in
theorem ggX5_weight_X5_within : GoodIn wsX5_weight wsX5_within := goodIn_r _ [16] (by decide +kernel) (by decide +kernel)
set_option maxRecDepth 20000 in
theorem gX5_weight_X5_within : GoodIn wsX5_weight (va_wsS RX5 49 yX5_within wsX5_within) := goodIn_app (goodIn_of _ (by decide +kernel)) ggX5_weight_X5_within
set_option maxRecDepth 20000 in
theorem ggX5_weight_X5_beginChange : GoodIn wsX5_weight wsX5_beginChange := goodIn_r _ [21, 22, 1, 23, 24, 25, 26, 27, 28, 29, 30, 31, 32, 33, 34, 35, 36, 37, 38, 7, 39, 13, 40, 41, 42, 43, 44, 45, 46, 47, 48, 49, 50, 51, 52, 53, 54, 63, 64, 65, 66, 67, 68, 75, 76, 77, 69, 70, 71, 72, 73, 74, 78, 79, 80, 81, 82, 83, 84, 85] (by decide +kernel) (by decide +kernel)
set_option maxRecDepth 20000 in
theorem gX5_weight_X5_beginChange : GoodIn wsX5_weight (wsV RX5 54 RX5 yX5_beginChange wsX5_beginChange) := goodIn_app (goodIn_of _ (by decide +kernel)) ggX5_weight_X5_beginChange
set_option maxRecDepth 20000 in
theorem ggX5_weight_X1_weightOf : GoodIn wsX5_weight wsX1_weightOf := goodIn_r _ [58, 48, 69, 70, 71, 72, 73, 74] (by decide +kernel) (by decide +kernel)
set_option maxRecDepth 20000 in
theorem gX5_weight_X1_weightOf : GoodIn wsX5_weight (wsV RX5 101 RX1 yX1_weightOf wsX1_weightOf) := goodIn_app (goodIn_of _ (by decide +kernel)) ggX5_weight_X1_weightOf
set_option maxRecDepth 20000 in
theorem ggX5_weight_X1_putWeight : GoodIn wsX5_weight wsX1_putWeight := goodIn_r _ [62, 48, 69, 70, 71, 72, 73, 74] (by decide +kernel) (by decide +kernel)
set_option maxRecDepth 20000 in
theorem gX5_weight_X1_putWeight : GoodIn wsX5_weight (wsV RX5 105 RX1 yX1_putWeight wsX1_putWeight) := goodIn_app (goodIn_of _ (by decide +kernel)) ggX5_weight_X1_putWeight
theorem dX5_weight_0 : decode cX5_weight 0 = .ok (.aload_n 0, 1) := by decide +kernel
theorem dX5_weight_1 : decode cX5_weight 1 = .ok (.getfield 12, 3) := by decide +kernel
theorem dX5_weight_4 : decode cX5_weight 4 = .ok (.iload_n 1, 1) := by decide +kernel
theorem dX5_weight_5 : decode cX5_weight 5 = .ok (.iload_n 2, 1) := by decide +kernel
theorem dX5_weight_6 : decode cX5_weight 6 = .ok (.invokevirtual 97, 3) := by decide +kernel
theorem dX5_weight_9 : decode cX5_weight 9 = .ok (.ifCond .ne 6, 3) := by decide +kernel
theorem dX5_weight_12 : decode cX5_weight 12 = .ok (.ldc 75, 2) := by decide +kernel
theorem dX5_weight_14 : decode cX5_weight 14 = .ok (.ireturn, 1) := by decide +kernel
theorem dX5_weight_15 : decode cX5_weight 15 = .ok (.iload_n 3, 1) := by decide +kernel
theorem dX5_weight_16 : decode cX5_weight 16 = .ok (.iconst 0, 1) := by decide +kernel
theorem dX5_weight_17 : decode cX5_weight 17 = .ok (.iconst 4, 1) := by decide +kernel
theorem dX5_weight_18 : decode cX5_weight 18 = .ok (.invokestatic 49, 3) := by decide +kernel
theorem dX5_weight_21 : decode cX5_weight 21 = .ok (.ifCond .ne 6, 3) := by decide +kernel
theorem dX5_weight_24 : decode cX5_weight 24 = .ok (.ldc 53, 2) := by decide +kernel
theorem dX5_weight_26 : decode cX5_weight 26 = .ok (.ireturn, 1) := by decide +kernel
theorem dX5_weight_27 : decode cX5_weight 27 = .ok (.aload_n 0, 1) := by decide +kernel
theorem dX5_weight_28 : decode cX5_weight 28 = .ok (.invokevirtual 54, 3) := by decide +kernel
theorem dX5_weight_31 : decode cX5_weight 31 = .ok (.aload_n 0, 1) := by decide +kernel
theorem dX5_weight_32 : decode cX5_weight 32 = .ok (.getfield 12, 3) := by decide +kernel
theorem dX5_weight_35 : decode cX5_weight 35 = .ok (.iload_n 1, 1) := by decide +kernel
theorem dX5_weight_36 : decode cX5_weight 36 = .ok (.iload_n 2, 1) := by decide +kernel
theorem dX5_weight_37 : decode cX5_weight 37 = .ok (.invokevirtual 101, 3) := by decide +kernel
theorem dX5_weight_40 : decode cX5_weight 40 = .ok (.istore 4, 2) := by decide +kernel
theorem dX5_weight_42 : decode cX5_weight 42 = .ok (.aload_n 0, 1) := by decide +kernel
theorem dX5_weight_43 : decode cX5_weight 43 = .ok (.getfield 12, 3) := by decide +kernel
theorem dX5_weight_46 : decode cX5_weight 46 = .ok (.iload_n 1, 1) := by decide +kernel
theorem dX5_weight_47 : decode cX5_weight 47 = .ok (.iload_n 2, 1) := by decide +kernel
theorem dX5_weight_48 : decode cX5_weight 48 = .ok (.iload_n 3, 1) := by decide +kernel
theorem dX5_weight_49 : decode cX5_weight 49 = .ok (.invokevirtual 105, 3) := by decide +kernel
theorem dX5_weight_52 : decode cX5_weight 52 = .ok (.iload 4, 2) := by decide +kernel
theorem dX5_weight_54 : decode cX5_weight 54 = .ok (.ireturn, 1) := by decide +kernel
set_option maxRecDepth 20000 in
theorem ggX5_mirror_X1_hasLetter : GoodIn wsX5_mirror wsX1_hasLetter := goodIn_r _ [7, 8, 9, 10, 11, 74, 75, 76, 77, 78, 79] (by decide +kernel) (by decide +kernel)
set_option maxRecDepth 20000 in
theorem gX5_mirror_X1_hasLetter : GoodIn wsX5_mirror (wsV RX5 68 RX1 yX1_hasLetter wsX1_hasLetter) := goodIn_app (goodIn_of _ (by decide +kernel)) ggX5_mirror_X1_hasLetter
set_option maxRecDepth 20000 in
theorem ggX5_mirror_X5_beginChange : GoodIn wsX5_mirror wsX5_beginChange := goodIn_r _ [15, 16, 1, 17, 18, 19, 20, 21, 22, 23, 24, 25, 26, 27, 28, 29, 30, 31, 32, 6, 33, 8, 34, 35, 36, 37, 38, 39, 40, 41, 42, 43, 44, 45, 46, 47, 48, 68, 69, 70, 71, 72, 73, 80, 81, 82, 74, 75, 76, 77, 78, 79, 83, 84, 85, 86, 87, 88, 89, 90] (by decide +kernel) (by decide +kernel)
set_option maxRecDepth 20000 in
theorem gX5_mirror_X5_beginChange : GoodIn wsX5_mirror (wsV RX5 54 RX5 yX5_beginChange wsX5_beginChange) := goodIn_app (goodIn_of _ (by decide +kernel)) ggX5_mirror_X5_beginChange
set_option maxRecDepth 20000 in
theorem ggX5_mirror_X1_hasLikeSides : GoodIn wsX5_mirror wsX1_hasLikeSides := goodIn_r _ [52, 53, 54, 55, 6, 56, 41, 57, 58, 59, 74, 75, 76, 77, 78, 79] (by decide +kernel) (by decide +kernel)
set_option maxRecDepth 20000 in
theorem gX5_mirror_X1_hasLikeSides : GoodIn wsX5_mirror (wsV RX5 109 RX1 yX1_hasLikeSides wsX1_hasLikeSides) := goodIn_app (goodIn_of _ (by decide +kernel)) ggX5_mirror_X1_hasLikeSides
set_option maxRecDepth 20000 in
theorem ggX5_mirror_X1_swapSides : GoodIn wsX5_mirror wsX1_swapSides := goodIn_r _ [63, 53, 54, 55, 6, 56, 41, 57, 58, 59, 64, 65, 66, 67, 74, 75, 76, 77, 78, 79] (by decide +kernel) (by decide +kernel)
set_option maxRecDepth 20000 in
theorem gX5_mirror_X1_swapSides : GoodIn wsX5_mirror (wsV RX5 112 RX1 yX1_swapSides wsX1_swapSides) := goodIn_app (goodIn_of _ (by decide +kernel)) ggX5_mirror_X1_swapSides
theorem dX5_mirror_0 : decode cX5_mirror 0 = .ok (.aload_n 0, 1) := by decide +kernel
theorem dX5_mirror_1 : decode cX5_mirror 1 = .ok (.getfield 12, 3) := by decide +kernel
theorem dX5_mirror_4 : decode cX5_mirror 4 = .ok (.iload_n 1, 1) := by decide +kernel
theorem dX5_mirror_5 : decode cX5_mirror 5 = .ok (.invokevirtual 68, 3) := by decide +kernel
theorem dX5_mirror_8 : decode cX5_mirror 8 = .ok (.ifCond .ne 6, 3) := by decide +kernel
theorem dX5_mirror_11 : decode cX5_mirror 11 = .ok (.ldc 75, 2) := by decide +kernel
theorem dX5_mirror_13 : decode cX5_mirror 13 = .ok (.ireturn, 1) := by decide +kernel
theorem dX5_mirror_14 : decode cX5_mirror 14 = .ok (.aload_n 0, 1) := by decide +kernel
theorem dX5_mirror_15 : decode cX5_mirror 15 = .ok (.invokevirtual 54, 3) := by decide +kernel
theorem dX5_mirror_18 : decode cX5_mirror 18 = .ok (.aload_n 0, 1) := by decide +kernel
theorem dX5_mirror_19 : decode cX5_mirror 19 = .ok (.getfield 12, 3) := by decide +kernel
theorem dX5_mirror_22 : decode cX5_mirror 22 = .ok (.iload_n 1, 1) := by decide +kernel
theorem dX5_mirror_23 : decode cX5_mirror 23 = .ok (.invokevirtual 109, 3) := by decide +kernel
theorem dX5_mirror_26 : decode cX5_mirror 26 = .ok (.ifCond .eq 7, 3) := by decide +kernel
theorem dX5_mirror_29 : decode cX5_mirror 29 = .ok (.iconst 0, 1) := by decide +kernel
theorem dX5_mirror_30 : decode cX5_mirror 30 = .ok (.goto 4, 3) := by decide +kernel
theorem dX5_mirror_33 : decode cX5_mirror 33 = .ok (.iconst 1, 1) := by decide +kernel
theorem dX5_mirror_34 : decode cX5_mirror 34 = .ok (.istore_n 2, 1) := by decide +kernel
theorem dX5_mirror_35 : decode cX5_mirror 35 = .ok (.aload_n 0, 1) := by decide +kernel
theorem dX5_mirror_36 : decode cX5_mirror 36 = .ok (.getfield 12, 3) := by decide +kernel
theorem dX5_mirror_39 : decode cX5_mirror 39 = .ok (.iload_n 1, 1) := by decide +kernel
theorem dX5_mirror_40 : decode cX5_mirror 40 = .ok (.invokevirtual 112, 3) := by decide +kernel
theorem dX5_mirror_43 : decode cX5_mirror 43 = .ok (.iload_n 2, 1) := by decide +kernel
theorem dX5_mirror_44 : decode cX5_mirror 44 = .ok (.ireturn, 1) := by decide +kernel
set_option maxRecDepth 20000 in
theorem ggX5_turn_X5_beginChange : GoodIn wsX5_turn wsX5_beginChange := goodIn_r _ [7, 8, 1, 9, 10, 11, 12, 13, 14, 15, 16, 17, 18, 19, 20, 21, 22, 23, 24, 25, 26, 27, 28, 29, 30, 31, 32, 33, 34, 35, 36, 37, 38, 39, 40, 41, 42, 70, 71, 72, 73, 74, 75, 82, 83, 84, 76, 77, 78, 79, 80, 81, 85, 86, 87, 88, 89, 90, 91, 92] (by decide +kernel) (by decide +kernel)
set_option maxRecDepth 20000 in
theorem gX5_turn_X5_beginChange : GoodIn wsX5_turn (wsV RX5 54 RX5 yX5_beginChange wsX5_beginChange) := goodIn_app (goodIn_of _ (by decide +kernel)) ggX5_turn_X5_beginChange
set_option maxRecDepth 20000 in
theorem ggX5_turn_X1_turnRound : GoodIn wsX5_turn wsX1_turnRound := goodIn_r _ [46, 27, 47, 48, 49, 25, 50, 51, 52, 53, 54, 35, 55, 56, 57, 58, 59, 60, 61, 62, 63, 64, 65, 36, 66, 67, 68, 69, 76, 77, 78, 79, 80, 81] (by decide +kernel) (by decide +kernel)
set_option maxRecDepth 20000 in
theorem gX5_turn_X1_turnRound : GoodIn wsX5_turn (wsV RX5 115 RX1 yX1_turnRound wsX1_turnRound) := goodIn_app (goodIn_of _ (by decide +kernel)) ggX5_turn_X1_turnRound
theorem dX5_turn_0 : decode cX5_turn 0 = .ok (.aload_n 0, 1) := by decide +kernel
theorem dX5_turn_1 : decode cX5_turn 1 = .ok (.invokevirtual 54, 3) := by decide +kernel
theorem dX5_turn_4 : decode cX5_turn 4 = .ok (.aload_n 0, 1) := by decide +kernel
theorem dX5_turn_5 : decode cX5_turn 5 = .ok (.getfield 12, 3) := by decide +kernel
theorem dX5_turn_8 : decode cX5_turn 8 = .ok (.invokevirtual 115, 3) := by decide +kernel
theorem dX5_turn_11 : decode cX5_turn 11 = .ok (.aload_n 0, 1) := by decide +kernel
theorem dX5_turn_12 : decode cX5_turn 12 = .ok (.getfield 12, 3) := by decide +kernel
theorem dX5_turn_15 : decode cX5_turn 15 = .ok (.getfield 57, 3) := by decide +kernel
theorem dX5_turn_18 : decode cX5_turn 18 = .ok (.ireturn, 1) := by decide +kernel
set_option maxRecDepth 20000 in
theorem ggX5_copy_X1_hasPair : GoodIn wsX5_copy wsX1_hasPair := goodIn_r _ [7, 8, 9, 10, 6, 11, 12, 13, 14, 15, 74, 75, 76, 77, 78, 79] (by decide +kernel) (by decide +kernel)
set_option maxRecDepth 20000 in
theorem gX5_copy_X1_hasPair : GoodIn wsX5_copy (wsV RX5 97 RX1 yX1_hasPair wsX1_hasPair) := goodIn_app (goodIn_of _ (by decide +kernel)) ggX5_copy_X1_hasPair
set_option maxRecDepth 20000 in
theorem ggX5_copy_X5_beginChange : GoodIn wsX5_copy wsX5_beginChange := goodIn_r _ [19, 20, 1, 21, 22, 23, 24, 25, 26, 27, 28, 29, 30, 31, 32, 33, 34, 35, 36, 6, 37, 12, 38, 39, 40, 41, 42, 43, 44, 45, 46, 47, 48, 49, 50, 51, 52, 68, 69, 70, 71, 72, 73, 80, 81, 82, 74, 75, 76, 77, 78, 79, 83, 84, 85, 86, 87, 88, 89, 90] (by decide +kernel) (by decide +kernel)
set_option maxRecDepth 20000 in
theorem gX5_copy_X5_beginChange : GoodIn wsX5_copy (wsV RX5 54 RX5 yX5_beginChange wsX5_beginChange) := goodIn_app (goodIn_of _ (by decide +kernel)) ggX5_copy_X5_beginChange
set_option maxRecDepth 20000 in
theorem ggX5_copy_X1_takeLetter : GoodIn wsX5_copy wsX1_takeLetter := goodIn_r _ [56, 40, 57, 58, 59, 6, 60, 45, 61, 62, 63, 64, 65, 66, 67, 74, 75, 76, 77, 78, 79] (by decide +kernel) (by decide +kernel)
set_option maxRecDepth 20000 in
theorem gX5_copy_X1_takeLetter : GoodIn wsX5_copy (wsV RX5 118 RX1 yX1_takeLetter wsX1_takeLetter) := goodIn_app (goodIn_of _ (by decide +kernel)) ggX5_copy_X1_takeLetter
theorem dX5_copy_0 : decode cX5_copy 0 = .ok (.aload_n 0, 1) := by decide +kernel
theorem dX5_copy_1 : decode cX5_copy 1 = .ok (.getfield 12, 3) := by decide +kernel
theorem dX5_copy_4 : decode cX5_copy 4 = .ok (.iload_n 1, 1) := by decide +kernel
theorem dX5_copy_5 : decode cX5_copy 5 = .ok (.iload_n 2, 1) := by decide +kernel
theorem dX5_copy_6 : decode cX5_copy 6 = .ok (.invokevirtual 97, 3) := by decide +kernel
theorem dX5_copy_9 : decode cX5_copy 9 = .ok (.ifCond .eq 8, 3) := by decide +kernel
theorem dX5_copy_12 : decode cX5_copy 12 = .ok (.iload_n 1, 1) := by decide +kernel
theorem dX5_copy_13 : decode cX5_copy 13 = .ok (.iload_n 2, 1) := by decide +kernel
theorem dX5_copy_14 : decode cX5_copy 14 = .ok (.if_icmp .ne 6, 3) := by decide +kernel
theorem dX5_copy_17 : decode cX5_copy 17 = .ok (.ldc 75, 2) := by decide +kernel
theorem dX5_copy_19 : decode cX5_copy 19 = .ok (.ireturn, 1) := by decide +kernel
theorem dX5_copy_20 : decode cX5_copy 20 = .ok (.aload_n 0, 1) := by decide +kernel
theorem dX5_copy_21 : decode cX5_copy 21 = .ok (.invokevirtual 54, 3) := by decide +kernel
theorem dX5_copy_24 : decode cX5_copy 24 = .ok (.aload_n 0, 1) := by decide +kernel
theorem dX5_copy_25 : decode cX5_copy 25 = .ok (.getfield 12, 3) := by decide +kernel
theorem dX5_copy_28 : decode cX5_copy 28 = .ok (.iload_n 1, 1) := by decide +kernel
theorem dX5_copy_29 : decode cX5_copy 29 = .ok (.iload_n 2, 1) := by decide +kernel
theorem dX5_copy_30 : decode cX5_copy 30 = .ok (.invokevirtual 118, 3) := by decide +kernel
theorem dX5_copy_33 : decode cX5_copy 33 = .ok (.ireturn, 1) := by decide +kernel
set_option maxRecDepth 20000 in
theorem ggX5_drift_X5_within : GoodIn wsX5_drift wsX5_within := goodIn_r _ [7] (by decide +kernel) (by decide +kernel)
set_option maxRecDepth 20000 in
theorem gX5_drift_X5_within : GoodIn wsX5_drift (va_wsS RX5 49 yX5_within wsX5_within) := goodIn_app (goodIn_of _ (by decide +kernel)) ggX5_drift_X5_within
set_option maxRecDepth 20000 in
theorem ggX5_drift_X5_beginChange : GoodIn wsX5_drift wsX5_beginChange := goodIn_r _ [11, 12, 3, 13, 14, 15, 16, 17, 18, 19, 20, 21, 22, 23, 24, 25, 26, 27, 28, 29, 30, 31, 32, 33, 34, 35, 36, 37, 38, 39, 40, 41, 42, 43, 44, 45, 46, 78, 79, 80, 81, 82, 83, 84, 85, 86, 87, 88, 89, 90, 91, 92, 93, 94, 95, 96, 97, 98, 99, 100] (by decide +kernel) (by decide +kernel)
set_option maxRecDepth 20000 in
theorem gX5_drift_X5_beginChange : GoodIn wsX5_drift (wsV RX5 54 RX5 yX5_beginChange wsX5_beginChange) := goodIn_app (goodIn_of _ (by decide +kernel)) ggX5_drift_X5_beginChange
set_option maxRecDepth 20000 in
theorem ggX5_drift_X1_drawLots : GoodIn wsX5_drift wsX1_drawLots := goodIn_r _ [50, 31, 51, 52, 53, 54, 29, 55, 56, 57, 58, 59, 60, 61, 39, 62, 63, 64, 65, 66, 67, 68, 40, 87, 88, 89, 90, 91, 92] (by decide +kernel) (by decide +kernel)
set_option maxRecDepth 20000 in
theorem gX5_drift_X1_drawLots : GoodIn wsX5_drift (wsV RX5 122 RX1 yX1_drawLots wsX1_drawLots) := goodIn_app (goodIn_of _ (by decide +kernel)) ggX5_drift_X1_drawLots
set_option maxRecDepth 20000 in
theorem ggX5_drift_X1_bareOfAll : GoodIn wsX5_drift wsX1_bareOfAll := goodIn_r _ [72, 31, 73, 74, 75, 29, 76, 32, 39, 77, 23, 24, 25, 62, 63, 64, 87, 88, 89, 90, 91, 92] (by decide +kernel) (by decide +kernel)
set_option maxRecDepth 20000 in
theorem gX5_drift_X1_bareOfAll : GoodIn wsX5_drift (wsV RX5 125 RX1 yX1_bareOfAll wsX1_bareOfAll) := goodIn_app (goodIn_of _ (by decide +kernel)) ggX5_drift_X1_bareOfAll
theorem dX5_drift_0 : decode cX5_drift 0 = .ok (.iload_n 1, 1) := by decide +kernel
theorem dX5_drift_1 : decode cX5_drift 1 = .ok (.iconst 1, 1) := by decide +kernel
theorem dX5_drift_2 : decode cX5_drift 2 = .ok (.ldc 121, 2) := by decide +kernel
theorem dX5_drift_4 : decode cX5_drift 4 = .ok (.invokestatic 49, 3) := by decide +kernel
theorem dX5_drift_7 : decode cX5_drift 7 = .ok (.ifCond .ne 6, 3) := by decide +kernel
theorem dX5_drift_10 : decode cX5_drift 10 = .ok (.ldc 53, 2) := by decide +kernel
theorem dX5_drift_12 : decode cX5_drift 12 = .ok (.ireturn, 1) := by decide +kernel
theorem dX5_drift_13 : decode cX5_drift 13 = .ok (.aload_n 0, 1) := by decide +kernel
theorem dX5_drift_14 : decode cX5_drift 14 = .ok (.invokevirtual 54, 3) := by decide +kernel
theorem dX5_drift_17 : decode cX5_drift 17 = .ok (.aload_n 0, 1) := by decide +kernel
theorem dX5_drift_18 : decode cX5_drift 18 = .ok (.getfield 12, 3) := by decide +kernel
theorem dX5_drift_21 : decode cX5_drift 21 = .ok (.iload_n 1, 1) := by decide +kernel
theorem dX5_drift_22 : decode cX5_drift 22 = .ok (.invokevirtual 122, 3) := by decide +kernel
theorem dX5_drift_25 : decode cX5_drift 25 = .ok (.aload_n 0, 1) := by decide +kernel
theorem dX5_drift_26 : decode cX5_drift 26 = .ok (.getfield 12, 3) := by decide +kernel
theorem dX5_drift_29 : decode cX5_drift 29 = .ok (.invokevirtual 125, 3) := by decide +kernel
theorem dX5_drift_32 : decode cX5_drift 32 = .ok (.ireturn, 1) := by decide +kernel
set_option maxRecDepth 20000 in
theorem ggX5_undo_X3_giveBack : GoodIn wsX5_undo wsX3_giveBack := goodIn_r _ [12, 13, 14, 15, 16, 17, 18, 19, 20, 21, 22, 23, 24, 25, 26, 27, 28, 29, 30, 31, 32, 33, 34, 53, 54, 55, 56, 57, 58, 59, 60, 61] (by decide +kernel) (by decide +kernel)
set_option maxRecDepth 20000 in
theorem gX5_undo_X3_giveBack : GoodIn wsX5_undo (wsV RX5 131 RX3 yX3_giveBack wsX3_giveBack) := goodIn_app (goodIn_of _ (by decide +kernel)) ggX5_undo_X3_giveBack
set_option maxRecDepth 20000 in
theorem ggX5_undo_X0_forget : GoodIn wsX5_undo wsX0_forget := goodIn_r _ [39, 40, 62, 63, 64, 65, 66, 67, 68, 69] (by decide +kernel) (by decide +kernel)
set_option maxRecDepth 20000 in
theorem gX5_undo_X0_forget : GoodIn wsX5_undo (wsV RX5 134 RX0 yX0_forget wsX0_forget) := goodIn_app (goodIn_of _ (by decide +kernel)) ggX5_undo_X0_forget
set_option maxRecDepth 20000 in
theorem ggX5_undo_X2_makeEmpty : GoodIn wsX5_undo wsX2_makeEmpty := goodIn_r _ [45, 46, 70, 71, 72, 73, 74] (by decide +kernel) (by decide +kernel)
set_option maxRecDepth 20000 in
theorem gX5_undo_X2_makeEmpty : GoodIn wsX5_undo (wsV RX5 65 RX2 yX2_makeEmpty wsX2_makeEmpty) := goodIn_app (goodIn_of _ (by decide +kernel)) ggX5_undo_X2_makeEmpty
theorem dX5_undo_0 : decode cX5_undo 0 = .ok (.aload_n 0, 1) := by decide +kernel
theorem dX5_undo_1 : decode cX5_undo 1 = .ok (.getfield 28, 3) := by decide +kernel
theorem dX5_undo_4 : decode cX5_undo 4 = .ok (.getfield 129, 3) := by decide +kernel
theorem dX5_undo_7 : decode cX5_undo 7 = .ok (.ifCond .ne 6, 3) := by decide +kernel
theorem dX5_undo_10 : decode cX5_undo 10 = .ok (.ldc 130, 2) := by decide +kernel
theorem dX5_undo_12 : decode cX5_undo 12 = .ok (.ireturn, 1) := by decide +kernel
theorem dX5_undo_13 : decode cX5_undo 13 = .ok (.aload_n 0, 1) := by decide +kernel
theorem dX5_undo_14 : decode cX5_undo 14 = .ok (.getfield 12, 3) := by decide +kernel
theorem dX5_undo_17 : decode cX5_undo 17 = .ok (.getfield 57, 3) := by decide +kernel
theorem dX5_undo_20 : decode cX5_undo 20 = .ok (.istore_n 1, 1) := by decide +kernel
theorem dX5_undo_21 : decode cX5_undo 21 = .ok (.aload_n 0, 1) := by decide +kernel
theorem dX5_undo_22 : decode cX5_undo 22 = .ok (.getfield 28, 3) := by decide +kernel
theorem dX5_undo_25 : decode cX5_undo 25 = .ok (.aload_n 0, 1) := by decide +kernel
theorem dX5_undo_26 : decode cX5_undo 26 = .ok (.getfield 12, 3) := by decide +kernel
theorem dX5_undo_29 : decode cX5_undo 29 = .ok (.invokevirtual 131, 3) := by decide +kernel
theorem dX5_undo_32 : decode cX5_undo 32 = .ok (.aload_n 0, 1) := by decide +kernel
theorem dX5_undo_33 : decode cX5_undo 33 = .ok (.getfield 21, 3) := by decide +kernel
theorem dX5_undo_36 : decode cX5_undo 36 = .ok (.invokevirtual 134, 3) := by decide +kernel
theorem dX5_undo_39 : decode cX5_undo 39 = .ok (.aload_n 0, 1) := by decide +kernel
theorem dX5_undo_40 : decode cX5_undo 40 = .ok (.getfield 12, 3) := by decide +kernel
theorem dX5_undo_43 : decode cX5_undo 43 = .ok (.getfield 57, 3) := by decide +kernel
theorem dX5_undo_46 : decode cX5_undo 46 = .ok (.iload_n 1, 1) := by decide +kernel
theorem dX5_undo_47 : decode cX5_undo 47 = .ok (.if_icmp .eq 10, 3) := by decide +kernel
theorem dX5_undo_50 : decode cX5_undo 50 = .ok (.aload_n 0, 1) := by decide +kernel
theorem dX5_undo_51 : decode cX5_undo 51 = .ok (.getfield 37, 3) := by decide +kernel
theorem dX5_undo_54 : decode cX5_undo 54 = .ok (.invokevirtual 65, 3) := by decide +kernel
theorem dX5_undo_57 : decode cX5_undo 57 = .ok (.aload_n 0, 1) := by decide +kernel
theorem dX5_undo_58 : decode cX5_undo 58 = .ok (.getfield 28, 3) := by decide +kernel
theorem dX5_undo_61 : decode cX5_undo 61 = .ok (.getfield 129, 3) := by decide +kernel
theorem dX5_undo_64 : decode cX5_undo 64 = .ok (.ireturn, 1) := by decide +kernel
set_option maxRecDepth 20000 in
theorem ggX5_told_X0_find : GoodIn wsX5_told wsX0_find := goodIn_r _ [16, 17, 18, 19, 20, 15, 21, 22, 23, 24, 25, 26, 27, 28, 29, 30, 31, 32, 33, 34, 35, 36, 37, 38, 39, 40, 41, 42, 43, 44, 45, 46, 47, 48, 49, 50, 51, 52, 53, 54, 55, 56, 57, 58, 59, 60, 61, 62, 63, 64, 65, 66, 67, 68, 69, 70, 71, 72, 73, 74, 75, 76, 77, 78, 79, 80, 81, 82, 83, 84, 85, 86, 87, 88, 89, 90, 210, 211, 212, 213, 214, 215, 216, 217, 194, 195, 196, 197, 198, 199] (by decide +kernel) (by decide +kernel)
set_option maxRecDepth 20000 in
theorem gX5_told_X0_find : GoodIn wsX5_told (wsV RX5 137 RX0 yX0_find wsX0_find) := goodIn_app (goodIn_of _ (by decide +kernel)) ggX5_told_X0_find
set_option maxRecDepth 20000 in
theorem ggX5_told_X1_pairsWithWeight : GoodIn wsX5_told wsX1_pairsWithWeight := goodIn_r _ [94, 35, 194, 195, 196, 197, 198, 199] (by decide +kernel) (by decide +kernel)
set_option maxRecDepth 20000 in
theorem gX5_told_X1_pairsWithWeight : GoodIn wsX5_told (wsV RX5 140 RX1 yX1_pairsWithWeight wsX1_pairsWithWeight) := goodIn_app (goodIn_of _ (by decide +kernel)) ggX5_told_X1_pairsWithWeight
set_option maxRecDepth 20000 in
theorem ggX5_told_X0_worst : GoodIn wsX5_told wsX0_worst := goodIn_r _ [98, 79, 23, 24, 99, 100, 44, 101, 102, 103, 104, 15, 105, 29, 57, 106, 107, 108, 109, 110, 111, 112, 113, 59, 49, 50, 51, 52, 36, 37, 38, 33, 39, 40, 41, 42, 43, 45, 46, 47, 48, 30, 31, 32, 34, 35, 210, 211, 212, 213, 214, 215, 216, 217, 194, 195, 196, 197, 198, 199] (by decide +kernel) (by decide +kernel)
set_option maxRecDepth 20000 in
theorem gX5_told_X0_worst : GoodIn wsX5_told (wsV RX5 143 RX0 yX0_worst wsX0_worst) := goodIn_app (goodIn_of _ (by decide +kernel)) ggX5_told_X0_worst
set_option maxRecDepth 20000 in
theorem ggX5_told_X0_squaresAbove : GoodIn wsX5_told wsX0_squaresAbove := goodIn_r _ [117, 23, 24, 102, 103, 104, 15, 105, 29, 57, 106, 107, 108, 109, 110, 111, 112, 113, 59, 49, 50, 51, 52, 36, 37, 38, 33, 39, 40, 41, 42, 43, 44, 45, 46, 47, 48, 30, 31, 32, 34, 35, 210, 211, 212, 213, 214, 215, 216, 217, 194, 195, 196, 197, 198, 199] (by decide +kernel) (by decide +kernel)
set_option maxRecDepth 20000 in
theorem gX5_told_X0_squaresAbove : GoodIn wsX5_told (wsV RX5 146 RX0 yX0_squaresAbove wsX0_squaresAbove) := goodIn_app (goodIn_of _ (by decide +kernel)) ggX5_told_X0_squaresAbove
set_option maxRecDepth 20000 in
theorem ggX5_told_X0_squaresBelow : GoodIn wsX5_told wsX0_squaresBelow := goodIn_r _ [121, 57, 210, 211, 212, 213, 214, 215, 216, 217] (by decide +kernel) (by decide +kernel)
set_option maxRecDepth 20000 in
theorem gX5_told_X0_squaresBelow : GoodIn wsX5_told (wsV RX5 150 RX0 yX0_squaresBelow wsX0_squaresBelow) := goodIn_app (goodIn_of _ (by decide +kernel)) ggX5_told_X0_squaresBelow
set_option maxRecDepth 20000 in
theorem ggX5_told_X5_aboveOf : GoodIn wsX5_told wsX5_aboveOf := goodIn_r _ [125, 126, 127, 124, 128, 129, 100, 44, 101, 130, 69, 70] (by decide +kernel) (by decide +kernel)
set_option maxRecDepth 20000 in
theorem gX5_told_X5_aboveOf : GoodIn wsX5_told (va_wsS RX5 153 yX5_aboveOf wsX5_aboveOf) := goodIn_app (goodIn_of _ (by decide +kernel)) ggX5_told_X5_aboveOf
set_option maxRecDepth 20000 in
theorem ggX5_told_X5_belowOf : GoodIn wsX5_told wsX5_belowOf := goodIn_r _ [133, 126, 127, 124, 128, 129, 100, 44, 101, 130, 69, 70] (by decide +kernel) (by decide +kernel)
set_option maxRecDepth 20000 in
theorem gX5_told_X5_belowOf : GoodIn wsX5_told (va_wsS RX5 157 yX5_belowOf wsX5_belowOf) := goodIn_app (goodIn_of _ (by decide +kernel)) ggX5_told_X5_belowOf
set_option maxRecDepth 20000 in
theorem ggX5_told_X0_openSpaces : GoodIn wsX5_told wsX0_openSpaces := goodIn_r _ [137, 58, 60, 61, 62, 15, 63, 23, 24, 210, 211, 212, 213, 214, 215, 216, 217, 194, 195, 196, 197, 198, 199] (by decide +kernel) (by decide +kernel)
set_option maxRecDepth 20000 in
theorem gX5_told_X0_openSpaces : GoodIn wsX5_told (wsV RX5 160 RX0 yX0_openSpaces wsX0_openSpaces) := goodIn_app (goodIn_of _ (by decide +kernel)) ggX5_told_X0_openSpaces
set_option maxRecDepth 20000 in
theorem ggX5_told_X2_wideAbove : GoodIn wsX5_told wsX2_wideAbove := goodIn_r _ [142, 143, 144, 145, 146, 147, 148, 149, 150, 15, 151, 75, 57, 152, 111, 112, 113, 59, 49, 50, 51, 52, 23, 24, 200, 201, 202, 203, 204, 194, 195, 196, 197, 198, 199, 210, 211, 212, 213, 214, 215, 216, 217] (by decide +kernel) (by decide +kernel)
set_option maxRecDepth 20000 in
theorem gX5_told_X2_wideAbove : GoodIn wsX5_told (wsV RX5 164 RX2 yX2_wideAbove wsX2_wideAbove) := goodIn_app (goodIn_of _ (by decide +kernel)) ggX5_told_X2_wideAbove
set_option maxRecDepth 20000 in
theorem ggX5_told_X0_spaceBelow : GoodIn wsX5_told wsX0_spaceBelow := goodIn_r _ [151, 75, 57, 210, 211, 212, 213, 214, 215, 216, 217] (by decide +kernel) (by decide +kernel)
set_option maxRecDepth 20000 in
theorem gX5_told_X0_spaceBelow : GoodIn wsX5_told (wsV RX5 167 RX0 yX0_spaceBelow wsX0_spaceBelow) := goodIn_app (goodIn_of _ (by decide +kernel)) ggX5_told_X0_spaceBelow
set_option maxRecDepth 20000 in
theorem ggX5_told_X2_thin : GoodIn wsX5_told wsX2_thin := goodIn_r _ [157, 143, 147, 146, 158, 107, 108, 15, 109, 23, 57, 110, 111, 112, 113, 59, 49, 50, 51, 52, 24, 36, 37, 38, 33, 39, 40, 41, 42, 43, 44, 45, 46, 47, 48, 200, 201, 202, 203, 204, 210, 211, 212, 213, 214, 215, 216, 217, 194, 195, 196, 197, 198, 199] (by decide +kernel) (by decide +kernel)
set_option maxRecDepth 20000 in
theorem gX5_told_X2_thin : GoodIn wsX5_told (wsV RX5 170 RX2 yX2_thin wsX2_thin) := goodIn_app (goodIn_of _ (by decide +kernel)) ggX5_told_X2_thin
set_option maxRecDepth 20000 in
theorem ggX5_told_X2_written : GoodIn wsX5_told wsX2_written := goodIn_r _ [162, 163, 143, 146, 147, 164, 165, 166, 167, 168, 169, 170, 171, 172, 141, 173, 174, 103, 104, 15, 105, 23, 29, 57, 106, 107, 108, 109, 110, 111, 112, 113, 59, 49, 50, 51, 52, 24, 36, 37, 38, 33, 39, 40, 41, 42, 43, 44, 45, 46, 47, 48, 175, 176, 177, 178, 179, 180, 139, 140, 142, 144, 145, 148, 149, 150, 151, 75, 152, 123, 124, 125, 126, 127, 128, 129, 100, 101, 130, 69, 70, 181, 182, 183, 184, 185, 186, 187, 132, 133, 200, 201, 202, 203, 204, 205, 206, 210, 211, 212, 213, 214, 215, 216, 217, 194, 195, 196, 197, 198, 199] (by decide +kernel) (by decide +kernel)
set_option maxRecDepth 20000 in
theorem gX5_told_X2_written : GoodIn wsX5_told (wsV RX5 173 RX2 yX2_written wsX2_written) := goodIn_app (goodIn_of _ (by decide +kernel)) ggX5_told_X2_written
theorem dX5_told_0 : decode cX5_told 0 = .ok (.aload_n 0, 1) := by decide +kernel
theorem dX5_told_1 : decode cX5_told 1 = .ok (.getfield 21, 3) := by decide +kernel
theorem dX5_told_4 : decode cX5_told 4 = .ok (.invokevirtual 137, 3) := by decide +kernel
theorem dX5_told_7 : decode cX5_told 7 = .ok (.iload_n 1, 1) := by decide +kernel
theorem dX5_told_8 : decode cX5_told 8 = .ok (.tableswitch 237 0 13 #[72, 81, 90, 99, 108, 117, 135, 153, 162, 171, 189, 207, 216, 228], 72) := by decide +kernel
theorem dX5_told_80 : decode cX5_told 80 = .ok (.aload_n 0, 1) := by decide +kernel
theorem dX5_told_81 : decode cX5_told 81 = .ok (.getfield 12, 3) := by decide +kernel
theorem dX5_told_84 : decode cX5_told 84 = .ok (.getfield 57, 3) := by decide +kernel
theorem dX5_told_87 : decode cX5_told 87 = .ok (.i2l, 1) := by decide +kernel
theorem dX5_told_88 : decode cX5_told 88 = .ok (.lreturn, 1) := by decide +kernel
theorem dX5_told_89 : decode cX5_told 89 = .ok (.aload_n 0, 1) := by decide +kernel
theorem dX5_told_90 : decode cX5_told 90 = .ok (.getfield 12, 3) := by decide +kernel
theorem dX5_told_93 : decode cX5_told 93 = .ok (.getfield 91, 3) := by decide +kernel
theorem dX5_told_96 : decode cX5_told 96 = .ok (.i2l, 1) := by decide +kernel
theorem dX5_told_97 : decode cX5_told 97 = .ok (.lreturn, 1) := by decide +kernel
theorem dX5_told_98 : decode cX5_told 98 = .ok (.aload_n 0, 1) := by decide +kernel
theorem dX5_told_99 : decode cX5_told 99 = .ok (.getfield 12, 3) := by decide +kernel
theorem dX5_told_102 : decode cX5_told 102 = .ok (.getfield 94, 3) := by decide +kernel
theorem dX5_told_105 : decode cX5_told 105 = .ok (.i2l, 1) := by decide +kernel
theorem dX5_told_106 : decode cX5_told 106 = .ok (.lreturn, 1) := by decide +kernel
theorem dX5_told_107 : decode cX5_told 107 = .ok (.aload_n 0, 1) := by decide +kernel
theorem dX5_told_108 : decode cX5_told 108 = .ok (.getfield 12, 3) := by decide +kernel
theorem dX5_told_111 : decode cX5_told 111 = .ok (.invokevirtual 140, 3) := by decide +kernel
theorem dX5_told_114 : decode cX5_told 114 = .ok (.i2l, 1) := by decide +kernel
theorem dX5_told_115 : decode cX5_told 115 = .ok (.lreturn, 1) := by decide +kernel
theorem dX5_told_116 : decode cX5_told 116 = .ok (.aload_n 0, 1) := by decide +kernel
theorem dX5_told_117 : decode cX5_told 117 = .ok (.getfield 21, 3) := by decide +kernel
theorem dX5_told_120 : decode cX5_told 120 = .ok (.invokevirtual 143, 3) := by decide +kernel
theorem dX5_told_123 : decode cX5_told 123 = .ok (.i2l, 1) := by decide +kernel
theorem dX5_told_124 : decode cX5_told 124 = .ok (.lreturn, 1) := by decide +kernel
theorem dX5_told_125 : decode cX5_told 125 = .ok (.aload_n 0, 1) := by decide +kernel
theorem dX5_told_126 : decode cX5_told 126 = .ok (.getfield 21, 3) := by decide +kernel
theorem dX5_told_129 : decode cX5_told 129 = .ok (.invokevirtual 146, 3) := by decide +kernel
theorem dX5_told_132 : decode cX5_told 132 = .ok (.aload_n 0, 1) := by decide +kernel
theorem dX5_told_133 : decode cX5_told 133 = .ok (.getfield 21, 3) := by decide +kernel
theorem dX5_told_136 : decode cX5_told 136 = .ok (.invokevirtual 150, 3) := by decide +kernel
theorem dX5_told_139 : decode cX5_told 139 = .ok (.invokestatic 153, 3) := by decide +kernel
theorem dX5_told_142 : decode cX5_told 142 = .ok (.lreturn, 1) := by decide +kernel
theorem dX5_told_143 : decode cX5_told 143 = .ok (.aload_n 0, 1) := by decide +kernel
theorem dX5_told_144 : decode cX5_told 144 = .ok (.getfield 21, 3) := by decide +kernel
theorem dX5_told_147 : decode cX5_told 147 = .ok (.invokevirtual 146, 3) := by decide +kernel
theorem dX5_told_150 : decode cX5_told 150 = .ok (.aload_n 0, 1) := by decide +kernel
theorem dX5_told_151 : decode cX5_told 151 = .ok (.getfield 21, 3) := by decide +kernel
theorem dX5_told_154 : decode cX5_told 154 = .ok (.invokevirtual 150, 3) := by decide +kernel
theorem dX5_told_157 : decode cX5_told 157 = .ok (.invokestatic 157, 3) := by decide +kernel
theorem dX5_told_160 : decode cX5_told 160 = .ok (.lreturn, 1) := by decide +kernel
theorem dX5_told_161 : decode cX5_told 161 = .ok (.aload_n 0, 1) := by decide +kernel
theorem dX5_told_162 : decode cX5_told 162 = .ok (.getfield 21, 3) := by decide +kernel
theorem dX5_told_165 : decode cX5_told 165 = .ok (.invokevirtual 160, 3) := by decide +kernel
theorem dX5_told_168 : decode cX5_told 168 = .ok (.i2l, 1) := by decide +kernel
theorem dX5_told_169 : decode cX5_told 169 = .ok (.lreturn, 1) := by decide +kernel
theorem dX5_told_170 : decode cX5_told 170 = .ok (.aload_n 0, 1) := by decide +kernel
theorem dX5_told_171 : decode cX5_told 171 = .ok (.getfield 37, 3) := by decide +kernel
theorem dX5_told_174 : decode cX5_told 174 = .ok (.getfield 163, 3) := by decide +kernel
theorem dX5_told_177 : decode cX5_told 177 = .ok (.i2l, 1) := by decide +kernel
theorem dX5_told_178 : decode cX5_told 178 = .ok (.lreturn, 1) := by decide +kernel
theorem dX5_told_179 : decode cX5_told 179 = .ok (.aload_n 0, 1) := by decide +kernel
theorem dX5_told_180 : decode cX5_told 180 = .ok (.getfield 37, 3) := by decide +kernel
theorem dX5_told_183 : decode cX5_told 183 = .ok (.invokevirtual 164, 3) := by decide +kernel
theorem dX5_told_186 : decode cX5_told 186 = .ok (.aload_n 0, 1) := by decide +kernel
theorem dX5_told_187 : decode cX5_told 187 = .ok (.getfield 21, 3) := by decide +kernel
theorem dX5_told_190 : decode cX5_told 190 = .ok (.invokevirtual 167, 3) := by decide +kernel
theorem dX5_told_193 : decode cX5_told 193 = .ok (.invokestatic 153, 3) := by decide +kernel
theorem dX5_told_196 : decode cX5_told 196 = .ok (.lreturn, 1) := by decide +kernel
theorem dX5_told_197 : decode cX5_told 197 = .ok (.aload_n 0, 1) := by decide +kernel
theorem dX5_told_198 : decode cX5_told 198 = .ok (.getfield 37, 3) := by decide +kernel
theorem dX5_told_201 : decode cX5_told 201 = .ok (.invokevirtual 164, 3) := by decide +kernel
theorem dX5_told_204 : decode cX5_told 204 = .ok (.aload_n 0, 1) := by decide +kernel
theorem dX5_told_205 : decode cX5_told 205 = .ok (.getfield 21, 3) := by decide +kernel
theorem dX5_told_208 : decode cX5_told 208 = .ok (.invokevirtual 167, 3) := by decide +kernel
theorem dX5_told_211 : decode cX5_told 211 = .ok (.invokestatic 157, 3) := by decide +kernel
theorem dX5_told_214 : decode cX5_told 214 = .ok (.lreturn, 1) := by decide +kernel
theorem dX5_told_215 : decode cX5_told 215 = .ok (.aload_n 0, 1) := by decide +kernel
theorem dX5_told_216 : decode cX5_told 216 = .ok (.getfield 37, 3) := by decide +kernel
theorem dX5_told_219 : decode cX5_told 219 = .ok (.invokevirtual 170, 3) := by decide +kernel
theorem dX5_told_222 : decode cX5_told 222 = .ok (.i2l, 1) := by decide +kernel
theorem dX5_told_223 : decode cX5_told 223 = .ok (.lreturn, 1) := by decide +kernel
theorem dX5_told_224 : decode cX5_told 224 = .ok (.aload_n 0, 1) := by decide +kernel
theorem dX5_told_225 : decode cX5_told 225 = .ok (.getfield 37, 3) := by decide +kernel
theorem dX5_told_228 : decode cX5_told 228 = .ok (.invokevirtual 173, 3) := by decide +kernel
theorem dX5_told_231 : decode cX5_told 231 = .ok (.getfield 177, 3) := by decide +kernel
theorem dX5_told_234 : decode cX5_told 234 = .ok (.i2l, 1) := by decide +kernel
theorem dX5_told_235 : decode cX5_told 235 = .ok (.lreturn, 1) := by decide +kernel
theorem dX5_told_236 : decode cX5_told 236 = .ok (.aload_n 0, 1) := by decide +kernel
theorem dX5_told_237 : decode cX5_told 237 = .ok (.getfield 28, 3) := by decide +kernel
theorem dX5_told_240 : decode cX5_told 240 = .ok (.getfield 129, 3) := by decide +kernel
theorem dX5_told_243 : decode cX5_told 243 = .ok (.i2l, 1) := by decide +kernel
theorem dX5_told_244 : decode cX5_told 244 = .ok (.lreturn, 1) := by decide +kernel
theorem dX5_told_245 : decode cX5_told 245 = .ok (.ldc2_w 180, 3) := by decide +kernel
theorem dX5_told_248 : decode cX5_told 248 = .ok (.lreturn, 1) := by decide +kernel
set_option maxRecDepth 20000 in
theorem ggX5_letter_X1_hasLetter : GoodIn wsX5_letter wsX1_hasLetter := goodIn_r _ [9, 10, 11, 12, 13, 36, 37, 38, 39, 40, 41] (by decide +kernel) (by decide +kernel)
set_option maxRecDepth 20000 in
theorem gX5_letter_X1_hasLetter : GoodIn wsX5_letter (wsV RX5 68 RX1 yX1_hasLetter wsX1_hasLetter) := goodIn_app (goodIn_of _ (by decide +kernel)) ggX5_letter_X1_hasLetter
set_option maxRecDepth 20000 in
theorem ggX5_letter_X1_hasLikeSides : GoodIn wsX5_letter wsX1_hasLikeSides := goodIn_r _ [17, 18, 19, 20, 8, 21, 22, 23, 24, 25, 36, 37, 38, 39, 40, 41] (by decide +kernel) (by decide +kernel)
set_option maxRecDepth 20000 in
theorem gX5_letter_X1_hasLikeSides : GoodIn wsX5_letter (wsV RX5 109 RX1 yX1_hasLikeSides wsX1_hasLikeSides) := goodIn_app (goodIn_of _ (by decide +kernel)) ggX5_letter_X1_hasLikeSides
set_option maxRecDepth 20000 in
theorem ggX5_letter_X1_sumOfSide : GoodIn wsX5_letter wsX1_sumOfSide := goodIn_r _ [29, 18, 19, 20, 8, 21, 22, 23, 24, 25, 36, 37, 38, 39, 40, 41] (by decide +kernel) (by decide +kernel)
set_option maxRecDepth 20000 in
theorem gX5_letter_X1_sumOfSide : GoodIn wsX5_letter (wsV RX5 182 RX1 yX1_sumOfSide wsX1_sumOfSide) := goodIn_app (goodIn_of _ (by decide +kernel)) ggX5_letter_X1_sumOfSide
theorem dX5_letter_0 : decode cX5_letter 0 = .ok (.aload_n 0, 1) := by decide +kernel
theorem dX5_letter_1 : decode cX5_letter 1 = .ok (.getfield 12, 3) := by decide +kernel
theorem dX5_letter_4 : decode cX5_letter 4 = .ok (.iload_n 1, 1) := by decide +kernel
theorem dX5_letter_5 : decode cX5_letter 5 = .ok (.invokevirtual 68, 3) := by decide +kernel
theorem dX5_letter_8 : decode cX5_letter 8 = .ok (.ifCond .ne 6, 3) := by decide +kernel
theorem dX5_letter_11 : decode cX5_letter 11 = .ok (.ldc 75, 2) := by decide +kernel
theorem dX5_letter_13 : decode cX5_letter 13 = .ok (.ireturn, 1) := by decide +kernel
theorem dX5_letter_14 : decode cX5_letter 14 = .ok (.iload_n 2, 1) := by decide +kernel
theorem dX5_letter_15 : decode cX5_letter 15 = .ok (.tableswitch 76 0 3 #[29, 39, 56, 66], 29) := by decide +kernel
theorem dX5_letter_44 : decode cX5_letter 44 = .ok (.aload_n 0, 1) := by decide +kernel
theorem dX5_letter_45 : decode cX5_letter 45 = .ok (.getfield 12, 3) := by decide +kernel
theorem dX5_letter_48 : decode cX5_letter 48 = .ok (.getfield 87, 3) := by decide +kernel
theorem dX5_letter_51 : decode cX5_letter 51 = .ok (.iload_n 1, 1) := by decide +kernel
theorem dX5_letter_52 : decode cX5_letter 52 = .ok (.iaload, 1) := by decide +kernel
theorem dX5_letter_53 : decode cX5_letter 53 = .ok (.ireturn, 1) := by decide +kernel
theorem dX5_letter_54 : decode cX5_letter 54 = .ok (.aload_n 0, 1) := by decide +kernel
theorem dX5_letter_55 : decode cX5_letter 55 = .ok (.getfield 12, 3) := by decide +kernel
theorem dX5_letter_58 : decode cX5_letter 58 = .ok (.iload_n 1, 1) := by decide +kernel
theorem dX5_letter_59 : decode cX5_letter 59 = .ok (.invokevirtual 109, 3) := by decide +kernel
theorem dX5_letter_62 : decode cX5_letter 62 = .ok (.ifCond .eq 7, 3) := by decide +kernel
theorem dX5_letter_65 : decode cX5_letter 65 = .ok (.iconst 1, 1) := by decide +kernel
theorem dX5_letter_66 : decode cX5_letter 66 = .ok (.goto 4, 3) := by decide +kernel
theorem dX5_letter_69 : decode cX5_letter 69 = .ok (.iconst 0, 1) := by decide +kernel
theorem dX5_letter_70 : decode cX5_letter 70 = .ok (.ireturn, 1) := by decide +kernel
theorem dX5_letter_71 : decode cX5_letter 71 = .ok (.aload_n 0, 1) := by decide +kernel
theorem dX5_letter_72 : decode cX5_letter 72 = .ok (.getfield 12, 3) := by decide +kernel
theorem dX5_letter_75 : decode cX5_letter 75 = .ok (.iload_n 1, 1) := by decide +kernel
theorem dX5_letter_76 : decode cX5_letter 76 = .ok (.iconst 0, 1) := by decide +kernel
theorem dX5_letter_77 : decode cX5_letter 77 = .ok (.invokevirtual 182, 3) := by decide +kernel
theorem dX5_letter_80 : decode cX5_letter 80 = .ok (.ireturn, 1) := by decide +kernel
theorem dX5_letter_81 : decode cX5_letter 81 = .ok (.aload_n 0, 1) := by decide +kernel
theorem dX5_letter_82 : decode cX5_letter 82 = .ok (.getfield 12, 3) := by decide +kernel
theorem dX5_letter_85 : decode cX5_letter 85 = .ok (.iload_n 1, 1) := by decide +kernel
theorem dX5_letter_86 : decode cX5_letter 86 = .ok (.iconst 1, 1) := by decide +kernel
theorem dX5_letter_87 : decode cX5_letter 87 = .ok (.invokevirtual 182, 3) := by decide +kernel
theorem dX5_letter_90 : decode cX5_letter 90 = .ok (.ireturn, 1) := by decide +kernel
theorem dX5_letter_91 : decode cX5_letter 91 = .ok (.ldc 53, 2) := by decide +kernel
theorem dX5_letter_93 : decode cX5_letter 93 = .ok (.ireturn, 1) := by decide +kernel
set_option maxRecDepth 20000 in
theorem ggX5_back_X1_hasLetter : GoodIn wsX5_back wsX1_hasLetter := goodIn_r _ [8, 9, 10, 11, 12, 34, 35, 36, 37, 38, 39] (by decide +kernel) (by decide +kernel)
set_option maxRecDepth 20000 in
theorem gX5_back_X1_hasLetter : GoodIn wsX5_back (wsV RX5 68 RX1 yX1_hasLetter wsX1_hasLetter) := goodIn_app (goodIn_of _ (by decide +kernel)) ggX5_back_X1_hasLetter
set_option maxRecDepth 20000 in
theorem ggX5_back_X5_isHeight : GoodIn wsX5_back wsX5_isHeight := goodIn_r _ [15, 16, 10, 11, 12] (by decide +kernel) (by decide +kernel)
set_option maxRecDepth 20000 in
theorem gX5_back_X5_isHeight : GoodIn wsX5_back (va_wsS RX5 72 yX5_isHeight wsX5_isHeight) := goodIn_app (goodIn_of _ (by decide +kernel)) ggX5_back_X5_isHeight
set_option maxRecDepth 20000 in
theorem ggX5_back_X5_isSide : GoodIn wsX5_back wsX5_isSide := goodIn_r _ [19, 16, 10, 11, 12] (by decide +kernel) (by decide +kernel)
set_option maxRecDepth 20000 in
theorem gX5_back_X5_isSide : GoodIn wsX5_back (va_wsS RX5 76 yX5_isSide wsX5_isSide) := goodIn_app (goodIn_of _ (by decide +kernel)) ggX5_back_X5_isSide
set_option maxRecDepth 20000 in
theorem ggX5_back_X1_backOf : GoodIn wsX5_back wsX1_backOf := goodIn_r _ [23, 24, 25, 26, 7, 27, 34, 35, 36, 37, 38, 39] (by decide +kernel) (by decide +kernel)
set_option maxRecDepth 20000 in
theorem gX5_back_X1_backOf : GoodIn wsX5_back (wsV RX5 79 RX1 yX1_backOf wsX1_backOf) := goodIn_app (goodIn_of _ (by decide +kernel)) ggX5_back_X1_backOf
theorem dX5_back_0 : decode cX5_back 0 = .ok (.aload_n 0, 1) := by decide +kernel
theorem dX5_back_1 : decode cX5_back 1 = .ok (.getfield 12, 3) := by decide +kernel
theorem dX5_back_4 : decode cX5_back 4 = .ok (.iload_n 1, 1) := by decide +kernel
theorem dX5_back_5 : decode cX5_back 5 = .ok (.invokevirtual 68, 3) := by decide +kernel
theorem dX5_back_8 : decode cX5_back 8 = .ok (.ifCond .eq 10, 3) := by decide +kernel
theorem dX5_back_11 : decode cX5_back 11 = .ok (.iload_n 3, 1) := by decide +kernel
theorem dX5_back_12 : decode cX5_back 12 = .ok (.invokestatic 72, 3) := by decide +kernel
theorem dX5_back_15 : decode cX5_back 15 = .ok (.ifCond .ne 6, 3) := by decide +kernel
theorem dX5_back_18 : decode cX5_back 18 = .ok (.ldc 75, 2) := by decide +kernel
theorem dX5_back_20 : decode cX5_back 20 = .ok (.ireturn, 1) := by decide +kernel
theorem dX5_back_21 : decode cX5_back 21 = .ok (.iload_n 2, 1) := by decide +kernel
theorem dX5_back_22 : decode cX5_back 22 = .ok (.invokestatic 76, 3) := by decide +kernel
theorem dX5_back_25 : decode cX5_back 25 = .ok (.ifCond .ne 6, 3) := by decide +kernel
theorem dX5_back_28 : decode cX5_back 28 = .ok (.ldc 53, 2) := by decide +kernel
theorem dX5_back_30 : decode cX5_back 30 = .ok (.ireturn, 1) := by decide +kernel
theorem dX5_back_31 : decode cX5_back 31 = .ok (.aload_n 0, 1) := by decide +kernel
theorem dX5_back_32 : decode cX5_back 32 = .ok (.getfield 12, 3) := by decide +kernel
theorem dX5_back_35 : decode cX5_back 35 = .ok (.iload_n 1, 1) := by decide +kernel
theorem dX5_back_36 : decode cX5_back 36 = .ok (.iload_n 2, 1) := by decide +kernel
theorem dX5_back_37 : decode cX5_back 37 = .ok (.iload_n 3, 1) := by decide +kernel
theorem dX5_back_38 : decode cX5_back 38 = .ok (.invokevirtual 79, 3) := by decide +kernel
theorem dX5_back_41 : decode cX5_back 41 = .ok (.ireturn, 1) := by decide +kernel
set_option maxRecDepth 20000 in
theorem ggX5_space_X1_hasLetter : GoodIn wsX5_space wsX1_hasLetter := goodIn_r _ [9, 10, 11, 12, 13, 131, 132, 133, 134, 135, 136] (by decide +kernel) (by decide +kernel)
set_option maxRecDepth 20000 in
theorem gX5_space_X1_hasLetter : GoodIn wsX5_space (wsV RX5 68 RX1 yX1_hasLetter wsX1_hasLetter) := goodIn_app (goodIn_of _ (by decide +kernel)) ggX5_space_X1_hasLetter
set_option maxRecDepth 20000 in
theorem ggX5_space_X5_isSide : GoodIn wsX5_space wsX5_isSide := goodIn_r _ [16, 17, 11, 12, 13] (by decide +kernel) (by decide +kernel)
set_option maxRecDepth 20000 in
theorem gX5_space_X5_isSide : GoodIn wsX5_space (va_wsS RX5 76 yX5_isSide wsX5_isSide) := goodIn_app (goodIn_of _ (by decide +kernel)) ggX5_space_X5_isSide
set_option maxRecDepth 20000 in
theorem ggX5_space_X0_find : GoodIn wsX5_space wsX0_find := goodIn_r _ [22, 23, 24, 25, 26, 21, 27, 28, 29, 30, 31, 32, 33, 34, 35, 36, 37, 38, 8, 39, 40, 41, 42, 43, 44, 45, 46, 47, 48, 49, 50, 51, 52, 53, 54, 55, 56, 57, 58, 59, 60, 61, 62, 63, 64, 65, 66, 67, 68, 69, 70, 71, 72, 73, 74, 75, 76, 77, 78, 79, 80, 81, 82, 83, 84, 85, 86, 87, 88, 89, 90, 91, 92, 93, 94, 95, 137, 138, 139, 140, 141, 142, 143, 144, 131, 132, 133, 134, 135, 136] (by decide +kernel) (by decide +kernel)
set_option maxRecDepth 20000 in
theorem gX5_space_X0_find : GoodIn wsX5_space (wsV RX5 137 RX0 yX0_find wsX0_find) := goodIn_app (goodIn_of _ (by decide +kernel)) ggX5_space_X0_find
set_option maxRecDepth 20000 in
theorem ggX5_space_X0_spaceAbove : GoodIn wsX5_space wsX0_spaceAbove := goodIn_r _ [99, 64, 54, 55, 56, 21, 57, 29, 30, 137, 138, 139, 140, 141, 142, 143, 144, 131, 132, 133, 134, 135, 136] (by decide +kernel) (by decide +kernel)
set_option maxRecDepth 20000 in
theorem gX5_space_X0_spaceAbove : GoodIn wsX5_space (wsV RX5 187 RX0 yX0_spaceAbove wsX0_spaceAbove) := goodIn_app (goodIn_of _ (by decide +kernel)) ggX5_space_X0_spaceAbove
set_option maxRecDepth 20000 in
theorem ggX5_space_X0_spaceBelow : GoodIn wsX5_space wsX0_spaceBelow := goodIn_r _ [103, 80, 62, 137, 138, 139, 140, 141, 142, 143, 144] (by decide +kernel) (by decide +kernel)
set_option maxRecDepth 20000 in
theorem gX5_space_X0_spaceBelow : GoodIn wsX5_space (wsV RX5 167 RX0 yX0_spaceBelow wsX0_spaceBelow) := goodIn_app (goodIn_of _ (by decide +kernel)) ggX5_space_X0_spaceBelow
set_option maxRecDepth 20000 in
theorem ggX5_space_X5_aboveOf : GoodIn wsX5_space wsX5_aboveOf := goodIn_r _ [106, 107, 108, 12, 109, 110, 111, 49, 112, 113, 74, 75] (by decide +kernel) (by decide +kernel)
set_option maxRecDepth 20000 in
theorem gX5_space_X5_aboveOf : GoodIn wsX5_space (va_wsS RX5 153 yX5_aboveOf wsX5_aboveOf) := goodIn_app (goodIn_of _ (by decide +kernel)) ggX5_space_X5_aboveOf
set_option maxRecDepth 20000 in
theorem ggX5_space_X5_belowOf : GoodIn wsX5_space wsX5_belowOf := goodIn_r _ [116, 107, 108, 12, 109, 110, 111, 49, 112, 113, 74, 75] (by decide +kernel) (by decide +kernel)
set_option maxRecDepth 20000 in
theorem gX5_space_X5_belowOf : GoodIn wsX5_space (va_wsS RX5 157 yX5_belowOf wsX5_belowOf) := goodIn_app (goodIn_of _ (by decide +kernel)) ggX5_space_X5_belowOf
set_option maxRecDepth 20000 in
theorem ggX5_space_X0_isOpen : GoodIn wsX5_space wsX0_isOpen := goodIn_r _ [120, 63, 54, 55, 56, 21, 57, 29, 30, 137, 138, 139, 140, 141, 142, 143, 144, 131, 132, 133, 134, 135, 136] (by decide +kernel) (by decide +kernel)
set_option maxRecDepth 20000 in
theorem gX5_space_X0_isOpen : GoodIn wsX5_space (wsV RX5 191 RX0 yX0_isOpen wsX0_isOpen) := goodIn_app (goodIn_of _ (by decide +kernel)) ggX5_space_X0_isOpen
set_option maxRecDepth 20000 in
theorem ggX5_space_X0_wholeSpace : GoodIn wsX5_space wsX0_wholeSpace := goodIn_r _ [124, 81, 54, 55, 56, 21, 57, 29, 30, 137, 138, 139, 140, 141, 142, 143, 144, 131, 132, 133, 134, 135, 136] (by decide +kernel) (by decide +kernel)
set_option maxRecDepth 20000 in
theorem gX5_space_X0_wholeSpace : GoodIn wsX5_space (wsV RX5 194 RX0 yX0_wholeSpace wsX0_wholeSpace) := goodIn_app (goodIn_of _ (by decide +kernel)) ggX5_space_X0_wholeSpace
theorem dX5_space_0 : decode cX5_space 0 = .ok (.aload_n 0, 1) := by decide +kernel
theorem dX5_space_1 : decode cX5_space 1 = .ok (.getfield 12, 3) := by decide +kernel
theorem dX5_space_4 : decode cX5_space 4 = .ok (.iload_n 1, 1) := by decide +kernel
theorem dX5_space_5 : decode cX5_space 5 = .ok (.invokevirtual 68, 3) := by decide +kernel
theorem dX5_space_8 : decode cX5_space 8 = .ok (.ifCond .ne 7, 3) := by decide +kernel
theorem dX5_space_11 : decode cX5_space 11 = .ok (.ldc2_w 185, 3) := by decide +kernel
theorem dX5_space_14 : decode cX5_space 14 = .ok (.lreturn, 1) := by decide +kernel
theorem dX5_space_15 : decode cX5_space 15 = .ok (.iload_n 2, 1) := by decide +kernel
theorem dX5_space_16 : decode cX5_space 16 = .ok (.invokestatic 76, 3) := by decide +kernel
theorem dX5_space_19 : decode cX5_space 19 = .ok (.ifCond .ne 7, 3) := by decide +kernel
theorem dX5_space_22 : decode cX5_space 22 = .ok (.ldc2_w 180, 3) := by decide +kernel
theorem dX5_space_25 : decode cX5_space 25 = .ok (.lreturn, 1) := by decide +kernel
theorem dX5_space_26 : decode cX5_space 26 = .ok (.aload_n 0, 1) := by decide +kernel
theorem dX5_space_27 : decode cX5_space 27 = .ok (.getfield 21, 3) := by decide +kernel
theorem dX5_space_30 : decode cX5_space 30 = .ok (.invokevirtual 137, 3) := by decide +kernel
theorem dX5_space_33 : decode cX5_space 33 = .ok (.iload_n 3, 1) := by decide +kernel
theorem dX5_space_34 : decode cX5_space 34 = .ok (.tableswitch 98 0 3 #[30, 50, 70, 88], 30) := by decide +kernel
theorem dX5_space_64 : decode cX5_space 64 = .ok (.aload_n 0, 1) := by decide +kernel
theorem dX5_space_65 : decode cX5_space 65 = .ok (.getfield 21, 3) := by decide +kernel
theorem dX5_space_68 : decode cX5_space 68 = .ok (.iload_n 1, 1) := by decide +kernel
theorem dX5_space_69 : decode cX5_space 69 = .ok (.iload_n 2, 1) := by decide +kernel
theorem dX5_space_70 : decode cX5_space 70 = .ok (.invokevirtual 187, 3) := by decide +kernel
theorem dX5_space_73 : decode cX5_space 73 = .ok (.aload_n 0, 1) := by decide +kernel
theorem dX5_space_74 : decode cX5_space 74 = .ok (.getfield 21, 3) := by decide +kernel
theorem dX5_space_77 : decode cX5_space 77 = .ok (.invokevirtual 167, 3) := by decide +kernel
theorem dX5_space_80 : decode cX5_space 80 = .ok (.invokestatic 153, 3) := by decide +kernel
theorem dX5_space_83 : decode cX5_space 83 = .ok (.lreturn, 1) := by decide +kernel
theorem dX5_space_84 : decode cX5_space 84 = .ok (.aload_n 0, 1) := by decide +kernel
theorem dX5_space_85 : decode cX5_space 85 = .ok (.getfield 21, 3) := by decide +kernel
theorem dX5_space_88 : decode cX5_space 88 = .ok (.iload_n 1, 1) := by decide +kernel
theorem dX5_space_89 : decode cX5_space 89 = .ok (.iload_n 2, 1) := by decide +kernel
theorem dX5_space_90 : decode cX5_space 90 = .ok (.invokevirtual 187, 3) := by decide +kernel
theorem dX5_space_93 : decode cX5_space 93 = .ok (.aload_n 0, 1) := by decide +kernel
theorem dX5_space_94 : decode cX5_space 94 = .ok (.getfield 21, 3) := by decide +kernel
theorem dX5_space_97 : decode cX5_space 97 = .ok (.invokevirtual 167, 3) := by decide +kernel
theorem dX5_space_100 : decode cX5_space 100 = .ok (.invokestatic 157, 3) := by decide +kernel
theorem dX5_space_103 : decode cX5_space 103 = .ok (.lreturn, 1) := by decide +kernel
theorem dX5_space_104 : decode cX5_space 104 = .ok (.aload_n 0, 1) := by decide +kernel
theorem dX5_space_105 : decode cX5_space 105 = .ok (.getfield 21, 3) := by decide +kernel
theorem dX5_space_108 : decode cX5_space 108 = .ok (.iload_n 1, 1) := by decide +kernel
theorem dX5_space_109 : decode cX5_space 109 = .ok (.iload_n 2, 1) := by decide +kernel
theorem dX5_space_110 : decode cX5_space 110 = .ok (.invokevirtual 191, 3) := by decide +kernel
theorem dX5_space_113 : decode cX5_space 113 = .ok (.ifCond .eq 7, 3) := by decide +kernel
theorem dX5_space_116 : decode cX5_space 116 = .ok (.lconst 1, 1) := by decide +kernel
theorem dX5_space_117 : decode cX5_space 117 = .ok (.goto 4, 3) := by decide +kernel
theorem dX5_space_120 : decode cX5_space 120 = .ok (.lconst 0, 1) := by decide +kernel
theorem dX5_space_121 : decode cX5_space 121 = .ok (.lreturn, 1) := by decide +kernel
theorem dX5_space_122 : decode cX5_space 122 = .ok (.aload_n 0, 1) := by decide +kernel
theorem dX5_space_123 : decode cX5_space 123 = .ok (.getfield 21, 3) := by decide +kernel
theorem dX5_space_126 : decode cX5_space 126 = .ok (.iload_n 1, 1) := by decide +kernel
theorem dX5_space_127 : decode cX5_space 127 = .ok (.iload_n 2, 1) := by decide +kernel
theorem dX5_space_128 : decode cX5_space 128 = .ok (.invokevirtual 194, 3) := by decide +kernel
theorem dX5_space_131 : decode cX5_space 131 = .ok (.lreturn, 1) := by decide +kernel
theorem dX5_space_132 : decode cX5_space 132 = .ok (.ldc2_w 180, 3) := by decide +kernel
theorem dX5_space_135 : decode cX5_space 135 = .ok (.lreturn, 1) := by decide +kernel
set_option maxRecDepth 20000 in
theorem ggX5_pair_X1_hasPair : GoodIn wsX5_pair wsX1_hasPair := goodIn_r _ [9, 10, 11, 12, 8, 13, 14, 15, 16, 17, 134, 135, 136, 137, 138, 139] (by decide +kernel) (by decide +kernel)
set_option maxRecDepth 20000 in
theorem gX5_pair_X1_hasPair : GoodIn wsX5_pair (wsV RX5 97 RX1 yX1_hasPair wsX1_hasPair) := goodIn_app (goodIn_of _ (by decide +kernel)) ggX5_pair_X1_hasPair
set_option maxRecDepth 20000 in
theorem ggX5_pair_X0_find : GoodIn wsX5_pair wsX0_find := goodIn_r _ [22, 23, 24, 25, 26, 21, 27, 28, 29, 30, 31, 32, 33, 34, 35, 36, 37, 38, 8, 39, 40, 41, 42, 43, 44, 45, 46, 47, 48, 49, 50, 51, 52, 53, 54, 55, 56, 57, 58, 59, 60, 61, 62, 63, 64, 65, 66, 67, 68, 69, 70, 71, 72, 73, 74, 75, 76, 77, 78, 79, 80, 81, 82, 83, 84, 85, 86, 87, 88, 89, 90, 91, 92, 93, 94, 95, 140, 141, 142, 143, 144, 145, 146, 147, 134, 135, 136, 137, 138, 139] (by decide +kernel) (by decide +kernel)
set_option maxRecDepth 20000 in
theorem gX5_pair_X0_find : GoodIn wsX5_pair (wsV RX5 137 RX0 yX0_find wsX0_find) := goodIn_app (goodIn_of _ (by decide +kernel)) ggX5_pair_X0_find
set_option maxRecDepth 20000 in
theorem ggX5_pair_X1_weightOf : GoodIn wsX5_pair wsX1_weightOf := goodIn_r _ [39, 40, 134, 135, 136, 137, 138, 139] (by decide +kernel) (by decide +kernel)
set_option maxRecDepth 20000 in
theorem gX5_pair_X1_weightOf : GoodIn wsX5_pair (wsV RX5 101 RX1 yX1_weightOf wsX1_weightOf) := goodIn_app (goodIn_of _ (by decide +kernel)) ggX5_pair_X1_weightOf
set_option maxRecDepth 20000 in
theorem ggX5_pair_X1_bareOf : GoodIn wsX5_pair wsX1_bareOf := goodIn_r _ [44, 45, 46, 47, 48, 49, 50, 51, 52, 8, 53, 134, 135, 136, 137, 138, 139] (by decide +kernel) (by decide +kernel)
set_option maxRecDepth 20000 in
theorem gX5_pair_X1_bareOf : GoodIn wsX5_pair (wsV RX5 197 RX1 yX1_bareOf wsX1_bareOf) := goodIn_app (goodIn_of _ (by decide +kernel)) ggX5_pair_X1_bareOf
set_option maxRecDepth 20000 in
theorem ggX5_pair_X0_whiteAbove : GoodIn wsX5_pair wsX0_whiteAbove := goodIn_r _ [101, 29, 62, 102, 103, 104, 21, 105, 64, 54, 55, 56, 57, 30, 41, 42, 43, 8, 44, 45, 46, 47, 48, 49, 50, 51, 52, 53, 140, 141, 142, 143, 144, 145, 146, 147, 134, 135, 136, 137, 138, 139] (by decide +kernel) (by decide +kernel)
set_option maxRecDepth 20000 in
theorem gX5_pair_X0_whiteAbove : GoodIn wsX5_pair (wsV RX5 200 RX0 yX0_whiteAbove wsX0_whiteAbove) := goodIn_app (goodIn_of _ (by decide +kernel)) ggX5_pair_X0_whiteAbove
set_option maxRecDepth 20000 in
theorem ggX5_pair_X0_whiteBelow : GoodIn wsX5_pair wsX0_whiteBelow := goodIn_r _ [109, 62, 140, 141, 142, 143, 144, 145, 146, 147] (by decide +kernel) (by decide +kernel)
set_option maxRecDepth 20000 in
theorem gX5_pair_X0_whiteBelow : GoodIn wsX5_pair (wsV RX5 203 RX0 yX0_whiteBelow wsX0_whiteBelow) := goodIn_app (goodIn_of _ (by decide +kernel)) ggX5_pair_X0_whiteBelow
set_option maxRecDepth 20000 in
theorem ggX5_pair_X5_aboveOf : GoodIn wsX5_pair wsX5_aboveOf := goodIn_r _ [112, 113, 114, 16, 115, 116, 117, 49, 118, 119, 74, 75] (by decide +kernel) (by decide +kernel)
set_option maxRecDepth 20000 in
theorem gX5_pair_X5_aboveOf : GoodIn wsX5_pair (va_wsS RX5 153 yX5_aboveOf wsX5_aboveOf) := goodIn_app (goodIn_of _ (by decide +kernel)) ggX5_pair_X5_aboveOf
set_option maxRecDepth 20000 in
theorem ggX5_pair_X5_belowOf : GoodIn wsX5_pair wsX5_belowOf := goodIn_r _ [122, 113, 114, 16, 115, 116, 117, 49, 118, 119, 74, 75] (by decide +kernel) (by decide +kernel)
set_option maxRecDepth 20000 in
theorem gX5_pair_X5_belowOf : GoodIn wsX5_pair (va_wsS RX5 157 yX5_belowOf wsX5_belowOf) := goodIn_app (goodIn_of _ (by decide +kernel)) ggX5_pair_X5_belowOf
set_option maxRecDepth 20000 in
theorem ggX5_pair_X0_leftOverAbove : GoodIn wsX5_pair wsX0_leftOverAbove := goodIn_r _ [126, 29, 35, 62, 127, 99, 100, 21, 101, 102, 103, 104, 105, 64, 54, 55, 56, 57, 30, 41, 42, 43, 8, 44, 45, 46, 47, 48, 49, 50, 51, 52, 53, 140, 141, 142, 143, 144, 145, 146, 147, 134, 135, 136, 137, 138, 139] (by decide +kernel) (by decide +kernel)
set_option maxRecDepth 20000 in
theorem gX5_pair_X0_leftOverAbove : GoodIn wsX5_pair (wsV RX5 206 RX0 yX0_leftOverAbove wsX0_leftOverAbove) := goodIn_app (goodIn_of _ (by decide +kernel)) ggX5_pair_X0_leftOverAbove
theorem dX5_pair_0 : decode cX5_pair 0 = .ok (.aload_n 0, 1) := by decide +kernel
theorem dX5_pair_1 : decode cX5_pair 1 = .ok (.getfield 12, 3) := by decide +kernel
theorem dX5_pair_4 : decode cX5_pair 4 = .ok (.iload_n 1, 1) := by decide +kernel
theorem dX5_pair_5 : decode cX5_pair 5 = .ok (.iload_n 2, 1) := by decide +kernel
theorem dX5_pair_6 : decode cX5_pair 6 = .ok (.invokevirtual 97, 3) := by decide +kernel
theorem dX5_pair_9 : decode cX5_pair 9 = .ok (.ifCond .ne 7, 3) := by decide +kernel
theorem dX5_pair_12 : decode cX5_pair 12 = .ok (.ldc2_w 185, 3) := by decide +kernel
theorem dX5_pair_15 : decode cX5_pair 15 = .ok (.lreturn, 1) := by decide +kernel
theorem dX5_pair_16 : decode cX5_pair 16 = .ok (.aload_n 0, 1) := by decide +kernel
theorem dX5_pair_17 : decode cX5_pair 17 = .ok (.getfield 21, 3) := by decide +kernel
theorem dX5_pair_20 : decode cX5_pair 20 = .ok (.invokevirtual 137, 3) := by decide +kernel
theorem dX5_pair_23 : decode cX5_pair 23 = .ok (.iload_n 3, 1) := by decide +kernel
theorem dX5_pair_24 : decode cX5_pair 24 = .ok (.tableswitch 142 0 5 #[40, 51, 62, 82, 102, 122], 40) := by decide +kernel
theorem dX5_pair_64 : decode cX5_pair 64 = .ok (.aload_n 0, 1) := by decide +kernel
theorem dX5_pair_65 : decode cX5_pair 65 = .ok (.getfield 12, 3) := by decide +kernel
theorem dX5_pair_68 : decode cX5_pair 68 = .ok (.iload_n 1, 1) := by decide +kernel
theorem dX5_pair_69 : decode cX5_pair 69 = .ok (.iload_n 2, 1) := by decide +kernel
theorem dX5_pair_70 : decode cX5_pair 70 = .ok (.invokevirtual 101, 3) := by decide +kernel
theorem dX5_pair_73 : decode cX5_pair 73 = .ok (.i2l, 1) := by decide +kernel
theorem dX5_pair_74 : decode cX5_pair 74 = .ok (.lreturn, 1) := by decide +kernel
theorem dX5_pair_75 : decode cX5_pair 75 = .ok (.aload_n 0, 1) := by decide +kernel
theorem dX5_pair_76 : decode cX5_pair 76 = .ok (.getfield 12, 3) := by decide +kernel
theorem dX5_pair_79 : decode cX5_pair 79 = .ok (.iload_n 1, 1) := by decide +kernel
theorem dX5_pair_80 : decode cX5_pair 80 = .ok (.iload_n 2, 1) := by decide +kernel
theorem dX5_pair_81 : decode cX5_pair 81 = .ok (.invokevirtual 197, 3) := by decide +kernel
theorem dX5_pair_84 : decode cX5_pair 84 = .ok (.i2l, 1) := by decide +kernel
theorem dX5_pair_85 : decode cX5_pair 85 = .ok (.lreturn, 1) := by decide +kernel
theorem dX5_pair_86 : decode cX5_pair 86 = .ok (.aload_n 0, 1) := by decide +kernel
theorem dX5_pair_87 : decode cX5_pair 87 = .ok (.getfield 21, 3) := by decide +kernel
theorem dX5_pair_90 : decode cX5_pair 90 = .ok (.iload_n 1, 1) := by decide +kernel
theorem dX5_pair_91 : decode cX5_pair 91 = .ok (.iload_n 2, 1) := by decide +kernel
theorem dX5_pair_92 : decode cX5_pair 92 = .ok (.invokevirtual 200, 3) := by decide +kernel
theorem dX5_pair_95 : decode cX5_pair 95 = .ok (.aload_n 0, 1) := by decide +kernel
theorem dX5_pair_96 : decode cX5_pair 96 = .ok (.getfield 21, 3) := by decide +kernel
theorem dX5_pair_99 : decode cX5_pair 99 = .ok (.invokevirtual 203, 3) := by decide +kernel
theorem dX5_pair_102 : decode cX5_pair 102 = .ok (.invokestatic 153, 3) := by decide +kernel
theorem dX5_pair_105 : decode cX5_pair 105 = .ok (.lreturn, 1) := by decide +kernel
theorem dX5_pair_106 : decode cX5_pair 106 = .ok (.aload_n 0, 1) := by decide +kernel
theorem dX5_pair_107 : decode cX5_pair 107 = .ok (.getfield 21, 3) := by decide +kernel
theorem dX5_pair_110 : decode cX5_pair 110 = .ok (.iload_n 1, 1) := by decide +kernel
theorem dX5_pair_111 : decode cX5_pair 111 = .ok (.iload_n 2, 1) := by decide +kernel
theorem dX5_pair_112 : decode cX5_pair 112 = .ok (.invokevirtual 200, 3) := by decide +kernel
theorem dX5_pair_115 : decode cX5_pair 115 = .ok (.aload_n 0, 1) := by decide +kernel
theorem dX5_pair_116 : decode cX5_pair 116 = .ok (.getfield 21, 3) := by decide +kernel
theorem dX5_pair_119 : decode cX5_pair 119 = .ok (.invokevirtual 203, 3) := by decide +kernel
theorem dX5_pair_122 : decode cX5_pair 122 = .ok (.invokestatic 157, 3) := by decide +kernel
theorem dX5_pair_125 : decode cX5_pair 125 = .ok (.lreturn, 1) := by decide +kernel
theorem dX5_pair_126 : decode cX5_pair 126 = .ok (.aload_n 0, 1) := by decide +kernel
theorem dX5_pair_127 : decode cX5_pair 127 = .ok (.getfield 21, 3) := by decide +kernel
theorem dX5_pair_130 : decode cX5_pair 130 = .ok (.iload_n 1, 1) := by decide +kernel
theorem dX5_pair_131 : decode cX5_pair 131 = .ok (.iload_n 2, 1) := by decide +kernel
theorem dX5_pair_132 : decode cX5_pair 132 = .ok (.invokevirtual 206, 3) := by decide +kernel
theorem dX5_pair_135 : decode cX5_pair 135 = .ok (.aload_n 0, 1) := by decide +kernel
theorem dX5_pair_136 : decode cX5_pair 136 = .ok (.getfield 21, 3) := by decide +kernel
theorem dX5_pair_139 : decode cX5_pair 139 = .ok (.invokevirtual 203, 3) := by decide +kernel
theorem dX5_pair_142 : decode cX5_pair 142 = .ok (.invokestatic 153, 3) := by decide +kernel
theorem dX5_pair_145 : decode cX5_pair 145 = .ok (.lreturn, 1) := by decide +kernel
theorem dX5_pair_146 : decode cX5_pair 146 = .ok (.aload_n 0, 1) := by decide +kernel
theorem dX5_pair_147 : decode cX5_pair 147 = .ok (.getfield 21, 3) := by decide +kernel
theorem dX5_pair_150 : decode cX5_pair 150 = .ok (.iload_n 1, 1) := by decide +kernel
theorem dX5_pair_151 : decode cX5_pair 151 = .ok (.iload_n 2, 1) := by decide +kernel
theorem dX5_pair_152 : decode cX5_pair 152 = .ok (.invokevirtual 206, 3) := by decide +kernel
theorem dX5_pair_155 : decode cX5_pair 155 = .ok (.aload_n 0, 1) := by decide +kernel
theorem dX5_pair_156 : decode cX5_pair 156 = .ok (.getfield 21, 3) := by decide +kernel
theorem dX5_pair_159 : decode cX5_pair 159 = .ok (.invokevirtual 203, 3) := by decide +kernel
theorem dX5_pair_162 : decode cX5_pair 162 = .ok (.invokestatic 157, 3) := by decide +kernel
theorem dX5_pair_165 : decode cX5_pair 165 = .ok (.lreturn, 1) := by decide +kernel
theorem dX5_pair_166 : decode cX5_pair 166 = .ok (.ldc2_w 180, 3) := by decide +kernel
theorem dX5_pair_169 : decode cX5_pair 169 = .ok (.lreturn, 1) := by decide +kernel
set_option maxRecDepth 20000 in
theorem ggX5_white_X1_hasPair : GoodIn wsX5_white wsX1_hasPair := goodIn_r _ [9, 10, 11, 12, 8, 13, 14, 15, 16, 17, 107, 108, 109, 110, 111, 112] (by decide +kernel) (by decide +kernel)
set_option maxRecDepth 20000 in
theorem gX5_white_X1_hasPair : GoodIn wsX5_white (wsV RX5 97 RX1 yX1_hasPair wsX1_hasPair) := goodIn_app (goodIn_of _ (by decide +kernel)) ggX5_white_X1_hasPair
set_option maxRecDepth 20000 in
theorem ggX5_white_X0_find : GoodIn wsX5_white wsX0_find := goodIn_r _ [22, 23, 24, 25, 26, 21, 27, 28, 29, 30, 31, 32, 33, 34, 35, 36, 37, 38, 8, 39, 40, 41, 42, 43, 44, 45, 46, 47, 48, 49, 50, 51, 52, 53, 54, 55, 56, 57, 58, 59, 60, 61, 62, 63, 64, 65, 66, 67, 68, 69, 70, 71, 72, 73, 74, 75, 76, 77, 78, 79, 80, 81, 82, 83, 84, 85, 86, 87, 88, 89, 90, 91, 92, 93, 94, 95, 113, 114, 115, 116, 117, 118, 119, 120, 107, 108, 109, 110, 111, 112] (by decide +kernel) (by decide +kernel)
set_option maxRecDepth 20000 in
theorem gX5_white_X0_find : GoodIn wsX5_white (wsV RX5 137 RX0 yX0_find wsX0_find) := goodIn_app (goodIn_of _ (by decide +kernel)) ggX5_white_X0_find
set_option maxRecDepth 20000 in
theorem ggX5_white_X0_wholeSpace : GoodIn wsX5_white wsX0_wholeSpace := goodIn_r _ [99, 81, 54, 55, 56, 21, 57, 29, 30, 113, 114, 115, 116, 117, 118, 119, 120, 107, 108, 109, 110, 111, 112] (by decide +kernel) (by decide +kernel)
set_option maxRecDepth 20000 in
theorem gX5_white_X0_wholeSpace : GoodIn wsX5_white (wsV RX5 194 RX0 yX0_wholeSpace wsX0_wholeSpace) := goodIn_app (goodIn_of _ (by decide +kernel)) ggX5_white_X0_wholeSpace
set_option maxRecDepth 20000 in
theorem ggX5_white_X1_bareOf : GoodIn wsX5_white wsX1_bareOf := goodIn_r _ [44, 45, 46, 47, 48, 49, 50, 51, 52, 8, 53, 107, 108, 109, 110, 111, 112] (by decide +kernel) (by decide +kernel)
set_option maxRecDepth 20000 in
theorem gX5_white_X1_bareOf : GoodIn wsX5_white (wsV RX5 197 RX1 yX1_bareOf wsX1_bareOf) := goodIn_app (goodIn_of _ (by decide +kernel)) ggX5_white_X1_bareOf
theorem dX5_white_0 : decode cX5_white 0 = .ok (.aload_n 0, 1) := by decide +kernel
theorem dX5_white_1 : decode cX5_white 1 = .ok (.getfield 12, 3) := by decide +kernel
theorem dX5_white_4 : decode cX5_white 4 = .ok (.iload_n 1, 1) := by decide +kernel
theorem dX5_white_5 : decode cX5_white 5 = .ok (.iload_n 2, 1) := by decide +kernel
theorem dX5_white_6 : decode cX5_white 6 = .ok (.invokevirtual 97, 3) := by decide +kernel
theorem dX5_white_9 : decode cX5_white 9 = .ok (.ifCond .ne 6, 3) := by decide +kernel
theorem dX5_white_12 : decode cX5_white 12 = .ok (.ldc 75, 2) := by decide +kernel
theorem dX5_white_14 : decode cX5_white 14 = .ok (.ireturn, 1) := by decide +kernel
theorem dX5_white_15 : decode cX5_white 15 = .ok (.aload_n 0, 1) := by decide +kernel
theorem dX5_white_16 : decode cX5_white 16 = .ok (.getfield 21, 3) := by decide +kernel
theorem dX5_white_19 : decode cX5_white 19 = .ok (.invokevirtual 137, 3) := by decide +kernel
theorem dX5_white_22 : decode cX5_white 22 = .ok (.aload_n 0, 1) := by decide +kernel
theorem dX5_white_23 : decode cX5_white 23 = .ok (.getfield 21, 3) := by decide +kernel
theorem dX5_white_26 : decode cX5_white 26 = .ok (.iload_n 1, 1) := by decide +kernel
theorem dX5_white_27 : decode cX5_white 27 = .ok (.iconst 1, 1) := by decide +kernel
theorem dX5_white_28 : decode cX5_white 28 = .ok (.invokevirtual 194, 3) := by decide +kernel
theorem dX5_white_31 : decode cX5_white 31 = .ok (.aload_n 0, 1) := by decide +kernel
theorem dX5_white_32 : decode cX5_white 32 = .ok (.getfield 21, 3) := by decide +kernel
theorem dX5_white_35 : decode cX5_white 35 = .ok (.iload_n 2, 1) := by decide +kernel
theorem dX5_white_36 : decode cX5_white 36 = .ok (.iconst 0, 1) := by decide +kernel
theorem dX5_white_37 : decode cX5_white 37 = .ok (.invokevirtual 194, 3) := by decide +kernel
theorem dX5_white_40 : decode cX5_white 40 = .ok (.ladd, 1) := by decide +kernel
theorem dX5_white_41 : decode cX5_white 41 = .ok (.lstore_n 3, 1) := by decide +kernel
theorem dX5_white_42 : decode cX5_white 42 = .ok (.aload_n 0, 1) := by decide +kernel
theorem dX5_white_43 : decode cX5_white 43 = .ok (.getfield 12, 3) := by decide +kernel
theorem dX5_white_46 : decode cX5_white 46 = .ok (.iload_n 1, 1) := by decide +kernel
theorem dX5_white_47 : decode cX5_white 47 = .ok (.iload_n 2, 1) := by decide +kernel
theorem dX5_white_48 : decode cX5_white 48 = .ok (.invokevirtual 197, 3) := by decide +kernel
theorem dX5_white_51 : decode cX5_white 51 = .ok (.i2l, 1) := by decide +kernel
theorem dX5_white_52 : decode cX5_white 52 = .ok (.ldc2_w 209, 3) := by decide +kernel
theorem dX5_white_55 : decode cX5_white 55 = .ok (.lload_n 3, 1) := by decide +kernel
theorem dX5_white_56 : decode cX5_white 56 = .ok (.lmul, 1) := by decide +kernel
theorem dX5_white_57 : decode cX5_white 57 = .ok (.ladd, 1) := by decide +kernel
theorem dX5_white_58 : decode cX5_white 58 = .ok (.l2i, 1) := by decide +kernel
theorem dX5_white_59 : decode cX5_white 59 = .ok (.ireturn, 1) := by decide +kernel
set_option maxRecDepth 20000 in
theorem ggX5_set_X1_hasLetter : GoodIn wsX5_set wsX1_hasLetter := goodIn_r _ [10, 11, 12, 13, 14, 33, 34, 35, 36, 37, 38] (by decide +kernel) (by decide +kernel)
set_option maxRecDepth 20000 in
theorem gX5_set_X1_hasLetter : GoodIn wsX5_set (wsV RX5 68 RX1 yX1_hasLetter wsX1_hasLetter) := goodIn_app (goodIn_of _ (by decide +kernel)) ggX5_set_X1_hasLetter
set_option maxRecDepth 20000 in
theorem ggX5_set_X2_add : GoodIn wsX5_set wsX2_add := goodIn_r _ [19, 20, 21, 28, 29, 30, 31, 32] (by decide +kernel) (by decide +kernel)
set_option maxRecDepth 20000 in
theorem gX5_set_X2_add : GoodIn wsX5_set (wsV RX5 212 RX2 yX2_add wsX2_add) := goodIn_app (goodIn_of _ (by decide +kernel)) ggX5_set_X2_add
theorem dX5_set_0 : decode cX5_set 0 = .ok (.aload_n 0, 1) := by decide +kernel
theorem dX5_set_1 : decode cX5_set 1 = .ok (.getfield 12, 3) := by decide +kernel
theorem dX5_set_4 : decode cX5_set 4 = .ok (.iload_n 1, 1) := by decide +kernel
theorem dX5_set_5 : decode cX5_set 5 = .ok (.invokevirtual 68, 3) := by decide +kernel
theorem dX5_set_8 : decode cX5_set 8 = .ok (.ifCond .ne 6, 3) := by decide +kernel
theorem dX5_set_11 : decode cX5_set 11 = .ok (.ldc 75, 2) := by decide +kernel
theorem dX5_set_13 : decode cX5_set 13 = .ok (.ireturn, 1) := by decide +kernel
theorem dX5_set_14 : decode cX5_set 14 = .ok (.aload_n 0, 1) := by decide +kernel
theorem dX5_set_15 : decode cX5_set 15 = .ok (.getfield 37, 3) := by decide +kernel
theorem dX5_set_18 : decode cX5_set 18 = .ok (.getfield 163, 3) := by decide +kernel
theorem dX5_set_21 : decode cX5_set 21 = .ok (.bipush 16, 2) := by decide +kernel
theorem dX5_set_23 : decode cX5_set 23 = .ok (.if_icmp .lt 6, 3) := by decide +kernel
theorem dX5_set_26 : decode cX5_set 26 = .ok (.ldc 211, 2) := by decide +kernel
theorem dX5_set_28 : decode cX5_set 28 = .ok (.ireturn, 1) := by decide +kernel
theorem dX5_set_29 : decode cX5_set 29 = .ok (.aload_n 0, 1) := by decide +kernel
theorem dX5_set_30 : decode cX5_set 30 = .ok (.getfield 37, 3) := by decide +kernel
theorem dX5_set_33 : decode cX5_set 33 = .ok (.iload_n 1, 1) := by decide +kernel
theorem dX5_set_34 : decode cX5_set 34 = .ok (.invokevirtual 212, 3) := by decide +kernel
theorem dX5_set_37 : decode cX5_set 37 = .ok (.aload_n 0, 1) := by decide +kernel
theorem dX5_set_38 : decode cX5_set 38 = .ok (.getfield 37, 3) := by decide +kernel
theorem dX5_set_41 : decode cX5_set 41 = .ok (.getfield 163, 3) := by decide +kernel
