theorem dX5_set_44 : decode cX5_set 44 = .ok (.ireturn, 1) := by decide +kernel
set_option maxRecDepth 20000 in
theorem ggX5_wipe_X2_makeEmpty : GoodIn wsX5_wipe wsX2_makeEmpty := goodIn_r _ [7, 8, 15, 16, 17, 18, 19] (by decide +kernel) (by decide +kernel)
set_option maxRecDepth 20000 in
theorem gX5_wipe_X2_makeEmpty : GoodIn wsX5_wipe (wsV RX5 65 RX2 yX2_makeEmpty wsX2_makeEmpty) := goodIn_app (goodIn_of _ (by decide +kernel)) ggX5_wipe_X2_makeEmpty
theorem dX5_wipe_0 : decode cX5_wipe 0 = .ok (.aload_n 0, 1) := by decide +kernel
theorem dX5_wipe_1 : decode cX5_wipe 1 = .ok (.getfield 37, 3) := by decide +kernel
theorem dX5_wipe_4 : decode cX5_wipe 4 = .ok (.getfield 163, 3) := by decide +kernel
theorem dX5_wipe_7 : decode cX5_wipe 7 = .ok (.istore_n 1, 1) := by decide +kernel
theorem dX5_wipe_8 : decode cX5_wipe 8 = .ok (.aload_n 0, 1) := by decide +kernel
theorem dX5_wipe_9 : decode cX5_wipe 9 = .ok (.getfield 37, 3) := by decide +kernel
theorem dX5_wipe_12 : decode cX5_wipe 12 = .ok (.invokevirtual 65, 3) := by decide +kernel
theorem dX5_wipe_15 : decode cX5_wipe 15 = .ok (.iload_n 1, 1) := by decide +kernel
theorem dX5_wipe_16 : decode cX5_wipe 16 = .ok (.ireturn, 1) := by decide +kernel
set_option maxRecDepth 20000 in
theorem ggX5_place_X2_letterAt : GoodIn wsX5_place wsX2_letterAt := goodIn_r _ [7, 8, 9, 10, 11, 12, 19, 20, 21, 22, 23] (by decide +kernel) (by decide +kernel)
set_option maxRecDepth 20000 in
theorem gX5_place_X2_letterAt : GoodIn wsX5_place (wsV RX5 215 RX2 yX2_letterAt wsX2_letterAt) := goodIn_app (goodIn_of _ (by decide +kernel)) ggX5_place_X2_letterAt
theorem dX5_place_0 : decode cX5_place 0 = .ok (.iload_n 1, 1) := by decide +kernel
theorem dX5_place_1 : decode cX5_place 1 = .ok (.ifCond .ge 8, 3) := by decide +kernel
theorem dX5_place_4 : decode cX5_place 4 = .ok (.ldc 53, 2) := by decide +kernel
theorem dX5_place_6 : decode cX5_place 6 = .ok (.goto 11, 3) := by decide +kernel
theorem dX5_place_9 : decode cX5_place 9 = .ok (.aload_n 0, 1) := by decide +kernel
theorem dX5_place_10 : decode cX5_place 10 = .ok (.getfield 37, 3) := by decide +kernel
theorem dX5_place_13 : decode cX5_place 13 = .ok (.iload_n 1, 1) := by decide +kernel
theorem dX5_place_14 : decode cX5_place 14 = .ok (.invokevirtual 215, 3) := by decide +kernel
theorem dX5_place_17 : decode cX5_place 17 = .ok (.ireturn, 1) := by decide +kernel
set_option maxRecDepth 20000 in
theorem ggX5_sign_X0_find : GoodIn wsX5_sign wsX0_find := goodIn_r _ [8, 9, 10, 11, 12, 7, 13, 14, 15, 16, 17, 18, 19, 20, 21, 22, 23, 24, 25, 26, 27, 28, 29, 30, 31, 32, 33, 34, 35, 36, 37, 38, 39, 40, 41, 42, 43, 44, 45, 46, 47, 48, 49, 50, 51, 52, 53, 54, 55, 56, 57, 58, 59, 60, 61, 62, 63, 64, 65, 66, 67, 68, 69, 70, 71, 72, 73, 74, 75, 76, 77, 78, 79, 80, 81, 82, 161, 162, 163, 164, 165, 166, 167, 168, 169, 170, 171, 172, 173, 174] (by decide +kernel) (by decide +kernel)
set_option maxRecDepth 20000 in
theorem gX5_sign_X0_find : GoodIn wsX5_sign (wsV RX5 137 RX0 yX0_find wsX0_find) := goodIn_app (goodIn_of _ (by decide +kernel)) ggX5_sign_X0_find
set_option maxRecDepth 20000 in
theorem ggX5_sign_X2_written : GoodIn wsX5_sign wsX2_written := goodIn_r _ [87, 88, 89, 90, 91, 92, 93, 94, 95, 96, 97, 98, 99, 100, 86, 101, 102, 103, 104, 7, 105, 15, 21, 49, 106, 107, 108, 109, 110, 111, 112, 113, 51, 41, 42, 43, 44, 16, 28, 29, 30, 25, 31, 32, 33, 34, 35, 36, 37, 38, 39, 40, 114, 115, 116, 117, 118, 119, 120, 121, 122, 123, 124, 125, 126, 127, 128, 67, 129, 130, 131, 132, 133, 134, 135, 136, 137, 138, 139, 61, 62, 140, 141, 142, 143, 144, 145, 146, 147, 148, 175, 176, 177, 178, 179, 180, 181, 161, 162, 163, 164, 165, 166, 167, 168, 169, 170, 171, 172, 173, 174] (by decide +kernel) (by decide +kernel)
set_option maxRecDepth 20000 in
theorem gX5_sign_X2_written : GoodIn wsX5_sign (wsV RX5 173 RX2 yX2_written wsX2_written) := goodIn_app (goodIn_of _ (by decide +kernel)) ggX5_sign_X2_written
set_option maxRecDepth 20000 in
theorem ggX5_sign_X4_signAt : GoodIn wsX5_sign wsX4_signAt := goodIn_r _ [152, 97, 118, 153, 131, 154, 180, 181] (by decide +kernel) (by decide +kernel)
set_option maxRecDepth 20000 in
theorem gX5_sign_X4_signAt : GoodIn wsX5_sign (wsV RX5 219 RX4 yX4_signAt wsX4_signAt) := goodIn_app (goodIn_of _ (by decide +kernel)) ggX5_sign_X4_signAt
theorem dX5_sign_0 : decode cX5_sign 0 = .ok (.iload_n 1, 1) := by decide +kernel
theorem dX5_sign_1 : decode cX5_sign 1 = .ok (.ifCond .ge 6, 3) := by decide +kernel
theorem dX5_sign_4 : decode cX5_sign 4 = .ok (.ldc 53, 2) := by decide +kernel
theorem dX5_sign_6 : decode cX5_sign 6 = .ok (.ireturn, 1) := by decide +kernel
theorem dX5_sign_7 : decode cX5_sign 7 = .ok (.aload_n 0, 1) := by decide +kernel
theorem dX5_sign_8 : decode cX5_sign 8 = .ok (.getfield 21, 3) := by decide +kernel
theorem dX5_sign_11 : decode cX5_sign 11 = .ok (.invokevirtual 137, 3) := by decide +kernel
theorem dX5_sign_14 : decode cX5_sign 14 = .ok (.aload_n 0, 1) := by decide +kernel
theorem dX5_sign_15 : decode cX5_sign 15 = .ok (.getfield 37, 3) := by decide +kernel
theorem dX5_sign_18 : decode cX5_sign 18 = .ok (.invokevirtual 173, 3) := by decide +kernel
theorem dX5_sign_21 : decode cX5_sign 21 = .ok (.iload_n 1, 1) := by decide +kernel
theorem dX5_sign_22 : decode cX5_sign 22 = .ok (.invokevirtual 219, 3) := by decide +kernel
theorem dX5_sign_25 : decode cX5_sign 25 = .ok (.ireturn, 1) := by decide +kernel
set_option maxRecDepth 20000 in
theorem ggX5_keep_X5_isImage : GoodIn wsX5_keep wsX5_isImage := goodIn_r _ [10, 11, 12, 9, 13] (by decide +kernel) (by decide +kernel)
set_option maxRecDepth 20000 in
theorem gX5_keep_X5_isImage : GoodIn wsX5_keep (va_wsS RX5 222 yX5_isImage wsX5_isImage) := goodIn_app (goodIn_of _ (by decide +kernel)) ggX5_keep_X5_isImage
set_option maxRecDepth 20000 in
theorem ggX5_keep_X1_takeAll : GoodIn wsX5_keep wsX1_takeAll := goodIn_r _ [18, 19, 20, 21, 22, 23, 24, 25, 26, 27, 28, 41, 42, 43, 44, 45, 46] (by decide +kernel) (by decide +kernel)
set_option maxRecDepth 20000 in
theorem gX5_keep_X1_takeAll : GoodIn wsX5_keep (wsV RX5 225 RX1 yX1_takeAll wsX1_takeAll) := goodIn_app (goodIn_of _ (by decide +kernel)) ggX5_keep_X1_takeAll
set_option maxRecDepth 20000 in
theorem ggX5_keep_X3_forget : GoodIn wsX5_keep wsX3_forget := goodIn_r _ [33, 34, 47, 48, 49] (by decide +kernel) (by decide +kernel)
set_option maxRecDepth 20000 in
theorem gX5_keep_X3_forget : GoodIn wsX5_keep (wsV RX5 228 RX3 yX3_forget wsX3_forget) := goodIn_app (goodIn_of _ (by decide +kernel)) ggX5_keep_X3_forget
theorem dX5_keep_0 : decode cX5_keep 0 = .ok (.iload_n 1, 1) := by decide +kernel
theorem dX5_keep_1 : decode cX5_keep 1 = .ok (.invokestatic 222, 3) := by decide +kernel
theorem dX5_keep_4 : decode cX5_keep 4 = .ok (.ifCond .ne 6, 3) := by decide +kernel
theorem dX5_keep_7 : decode cX5_keep 7 = .ok (.ldc 75, 2) := by decide +kernel
theorem dX5_keep_9 : decode cX5_keep 9 = .ok (.ireturn, 1) := by decide +kernel
theorem dX5_keep_10 : decode cX5_keep 10 = .ok (.aload_n 0, 1) := by decide +kernel
theorem dX5_keep_11 : decode cX5_keep 11 = .ok (.getfield 41, 3) := by decide +kernel
theorem dX5_keep_14 : decode cX5_keep 14 = .ok (.iload_n 1, 1) := by decide +kernel
theorem dX5_keep_15 : decode cX5_keep 15 = .ok (.aaload, 1) := by decide +kernel
theorem dX5_keep_16 : decode cX5_keep 16 = .ok (.aload_n 0, 1) := by decide +kernel
theorem dX5_keep_17 : decode cX5_keep 17 = .ok (.getfield 12, 3) := by decide +kernel
theorem dX5_keep_20 : decode cX5_keep 20 = .ok (.invokevirtual 225, 3) := by decide +kernel
theorem dX5_keep_23 : decode cX5_keep 23 = .ok (.aload_n 0, 1) := by decide +kernel
theorem dX5_keep_24 : decode cX5_keep 24 = .ok (.getfield 45, 3) := by decide +kernel
theorem dX5_keep_27 : decode cX5_keep 27 = .ok (.iload_n 1, 1) := by decide +kernel
theorem dX5_keep_28 : decode cX5_keep 28 = .ok (.iconst 1, 1) := by decide +kernel
theorem dX5_keep_29 : decode cX5_keep 29 = .ok (.bastore, 1) := by decide +kernel
theorem dX5_keep_30 : decode cX5_keep 30 = .ok (.aload_n 0, 1) := by decide +kernel
theorem dX5_keep_31 : decode cX5_keep 31 = .ok (.getfield 28, 3) := by decide +kernel
theorem dX5_keep_34 : decode cX5_keep 34 = .ok (.invokevirtual 228, 3) := by decide +kernel
theorem dX5_keep_37 : decode cX5_keep 37 = .ok (.aload_n 0, 1) := by decide +kernel
theorem dX5_keep_38 : decode cX5_keep 38 = .ok (.getfield 12, 3) := by decide +kernel
theorem dX5_keep_41 : decode cX5_keep 41 = .ok (.getfield 57, 3) := by decide +kernel
theorem dX5_keep_44 : decode cX5_keep 44 = .ok (.ireturn, 1) := by decide +kernel
set_option maxRecDepth 20000 in
theorem ggX5_goBack_X5_isImage : GoodIn wsX5_goBack wsX5_isImage := goodIn_r _ [13, 14, 15, 12, 16] (by decide +kernel) (by decide +kernel)
set_option maxRecDepth 20000 in
theorem gX5_goBack_X5_isImage : GoodIn wsX5_goBack (va_wsS RX5 222 yX5_isImage wsX5_isImage) := goodIn_app (goodIn_of _ (by decide +kernel)) ggX5_goBack_X5_isImage
set_option maxRecDepth 20000 in
theorem ggX5_goBack_X1_takeAll : GoodIn wsX5_goBack wsX1_takeAll := goodIn_r _ [21, 22, 23, 24, 25, 26, 27, 28, 29, 30, 31, 56, 57, 58, 59, 60, 61] (by decide +kernel) (by decide +kernel)
set_option maxRecDepth 20000 in
theorem gX5_goBack_X1_takeAll : GoodIn wsX5_goBack (wsV RX5 225 RX1 yX1_takeAll wsX1_takeAll) := goodIn_app (goodIn_of _ (by decide +kernel)) ggX5_goBack_X1_takeAll
set_option maxRecDepth 20000 in
theorem ggX5_goBack_X0_forget : GoodIn wsX5_goBack wsX0_forget := goodIn_r _ [36, 37, 62, 63, 64, 65, 66, 67, 68, 69] (by decide +kernel) (by decide +kernel)
set_option maxRecDepth 20000 in
theorem gX5_goBack_X0_forget : GoodIn wsX5_goBack (wsV RX5 134 RX0 yX0_forget wsX0_forget) := goodIn_app (goodIn_of _ (by decide +kernel)) ggX5_goBack_X0_forget
set_option maxRecDepth 20000 in
theorem ggX5_goBack_X3_forget : GoodIn wsX5_goBack wsX3_forget := goodIn_r _ [42, 43, 70, 71, 72] (by decide +kernel) (by decide +kernel)
set_option maxRecDepth 20000 in
theorem gX5_goBack_X3_forget : GoodIn wsX5_goBack (wsV RX5 228 RX3 yX3_forget wsX3_forget) := goodIn_app (goodIn_of _ (by decide +kernel)) ggX5_goBack_X3_forget
set_option maxRecDepth 20000 in
theorem ggX5_goBack_X2_makeEmpty : GoodIn wsX5_goBack wsX2_makeEmpty := goodIn_r _ [48, 49, 73, 74, 75, 76, 77] (by decide +kernel) (by decide +kernel)
set_option maxRecDepth 20000 in
theorem gX5_goBack_X2_makeEmpty : GoodIn wsX5_goBack (wsV RX5 65 RX2 yX2_makeEmpty wsX2_makeEmpty) := goodIn_app (goodIn_of _ (by decide +kernel)) ggX5_goBack_X2_makeEmpty
theorem dX5_goBack_0 : decode cX5_goBack 0 = .ok (.iload_n 1, 1) := by decide +kernel
theorem dX5_goBack_1 : decode cX5_goBack 1 = .ok (.invokestatic 222, 3) := by decide +kernel
theorem dX5_goBack_4 : decode cX5_goBack 4 = .ok (.ifCond .ne 6, 3) := by decide +kernel
theorem dX5_goBack_7 : decode cX5_goBack 7 = .ok (.ldc 75, 2) := by decide +kernel
theorem dX5_goBack_9 : decode cX5_goBack 9 = .ok (.ireturn, 1) := by decide +kernel
theorem dX5_goBack_10 : decode cX5_goBack 10 = .ok (.aload_n 0, 1) := by decide +kernel
theorem dX5_goBack_11 : decode cX5_goBack 11 = .ok (.getfield 45, 3) := by decide +kernel
theorem dX5_goBack_14 : decode cX5_goBack 14 = .ok (.iload_n 1, 1) := by decide +kernel
theorem dX5_goBack_15 : decode cX5_goBack 15 = .ok (.baload, 1) := by decide +kernel
theorem dX5_goBack_16 : decode cX5_goBack 16 = .ok (.ifCond .ne 6, 3) := by decide +kernel
theorem dX5_goBack_19 : decode cX5_goBack 19 = .ok (.ldc 130, 2) := by decide +kernel
theorem dX5_goBack_21 : decode cX5_goBack 21 = .ok (.ireturn, 1) := by decide +kernel
theorem dX5_goBack_22 : decode cX5_goBack 22 = .ok (.aload_n 0, 1) := by decide +kernel
theorem dX5_goBack_23 : decode cX5_goBack 23 = .ok (.getfield 12, 3) := by decide +kernel
theorem dX5_goBack_26 : decode cX5_goBack 26 = .ok (.aload_n 0, 1) := by decide +kernel
theorem dX5_goBack_27 : decode cX5_goBack 27 = .ok (.getfield 41, 3) := by decide +kernel
theorem dX5_goBack_30 : decode cX5_goBack 30 = .ok (.iload_n 1, 1) := by decide +kernel
theorem dX5_goBack_31 : decode cX5_goBack 31 = .ok (.aaload, 1) := by decide +kernel
theorem dX5_goBack_32 : decode cX5_goBack 32 = .ok (.invokevirtual 225, 3) := by decide +kernel
theorem dX5_goBack_35 : decode cX5_goBack 35 = .ok (.aload_n 0, 1) := by decide +kernel
theorem dX5_goBack_36 : decode cX5_goBack 36 = .ok (.getfield 21, 3) := by decide +kernel
theorem dX5_goBack_39 : decode cX5_goBack 39 = .ok (.invokevirtual 134, 3) := by decide +kernel
theorem dX5_goBack_42 : decode cX5_goBack 42 = .ok (.aload_n 0, 1) := by decide +kernel
theorem dX5_goBack_43 : decode cX5_goBack 43 = .ok (.getfield 28, 3) := by decide +kernel
theorem dX5_goBack_46 : decode cX5_goBack 46 = .ok (.invokevirtual 228, 3) := by decide +kernel
theorem dX5_goBack_49 : decode cX5_goBack 49 = .ok (.aload_n 0, 1) := by decide +kernel
theorem dX5_goBack_50 : decode cX5_goBack 50 = .ok (.getfield 37, 3) := by decide +kernel
theorem dX5_goBack_53 : decode cX5_goBack 53 = .ok (.invokevirtual 65, 3) := by decide +kernel
theorem dX5_goBack_56 : decode cX5_goBack 56 = .ok (.aload_n 0, 1) := by decide +kernel
theorem dX5_goBack_57 : decode cX5_goBack 57 = .ok (.getfield 12, 3) := by decide +kernel
theorem dX5_goBack_60 : decode cX5_goBack 60 = .ok (.getfield 57, 3) := by decide +kernel
theorem dX5_goBack_63 : decode cX5_goBack 63 = .ok (.ireturn, 1) := by decide +kernel
set_option maxRecDepth 20000 in
theorem ggX5_beginChange_X3_remember : GoodIn wsX5_beginChange wsX3_remember := goodIn_r _ [8, 9, 10, 11, 12, 13, 14, 15, 16, 17, 18, 19, 20, 21, 22, 23, 24, 25, 26, 27, 28, 29, 30, 43, 44, 45, 46, 47, 48, 49, 50, 51] (by decide +kernel) (by decide +kernel)
set_option maxRecDepth 20000 in
theorem gX5_beginChange_X3_remember : GoodIn wsX5_beginChange (wsV RX5 229 RX3 yX3_remember wsX3_remember) := goodIn_app (goodIn_of _ (by decide +kernel)) ggX5_beginChange_X3_remember
set_option maxRecDepth 20000 in
theorem ggX5_beginChange_X0_forget : GoodIn wsX5_beginChange wsX0_forget := goodIn_r _ [35, 36, 52, 53, 54, 55, 56, 57, 58, 59] (by decide +kernel) (by decide +kernel)
set_option maxRecDepth 20000 in
theorem gX5_beginChange_X0_forget : GoodIn wsX5_beginChange (wsV RX5 134 RX0 yX0_forget wsX0_forget) := goodIn_app (goodIn_of _ (by decide +kernel)) ggX5_beginChange_X0_forget
theorem dX5_beginChange_0 : decode cX5_beginChange 0 = .ok (.aload_n 0, 1) := by decide +kernel
theorem dX5_beginChange_1 : decode cX5_beginChange 1 = .ok (.getfield 28, 3) := by decide +kernel
theorem dX5_beginChange_4 : decode cX5_beginChange 4 = .ok (.aload_n 0, 1) := by decide +kernel
theorem dX5_beginChange_5 : decode cX5_beginChange 5 = .ok (.getfield 12, 3) := by decide +kernel
theorem dX5_beginChange_8 : decode cX5_beginChange 8 = .ok (.invokevirtual 229, 3) := by decide +kernel
theorem dX5_beginChange_11 : decode cX5_beginChange 11 = .ok (.aload_n 0, 1) := by decide +kernel
theorem dX5_beginChange_12 : decode cX5_beginChange 12 = .ok (.getfield 21, 3) := by decide +kernel
theorem dX5_beginChange_15 : decode cX5_beginChange 15 = .ok (.invokevirtual 134, 3) := by decide +kernel
theorem dX5_beginChange_18 : decode cX5_beginChange 18 = .ok (.return_, 1) := by decide +kernel
theorem dX5_within_0 : decode cX5_within 0 = .ok (.iload_n 0, 1) := by decide +kernel
theorem dX5_within_1 : decode cX5_within 1 = .ok (.iload_n 1, 1) := by decide +kernel
theorem dX5_within_2 : decode cX5_within 2 = .ok (.if_icmp .lt 12, 3) := by decide +kernel
theorem dX5_within_5 : decode cX5_within 5 = .ok (.iload_n 0, 1) := by decide +kernel
theorem dX5_within_6 : decode cX5_within 6 = .ok (.iload_n 2, 1) := by decide +kernel
theorem dX5_within_7 : decode cX5_within 7 = .ok (.if_icmp .gt 7, 3) := by decide +kernel
theorem dX5_within_10 : decode cX5_within 10 = .ok (.iconst 1, 1) := by decide +kernel
theorem dX5_within_11 : decode cX5_within 11 = .ok (.goto 4, 3) := by decide +kernel
theorem dX5_within_14 : decode cX5_within 14 = .ok (.iconst 0, 1) := by decide +kernel
theorem dX5_within_15 : decode cX5_within 15 = .ok (.ireturn, 1) := by decide +kernel
set_option maxRecDepth 20000 in
theorem ggX5_isSide_X5_within : GoodIn wsX5_isSide wsX5_within := goodIn_r _ [4] (by decide +kernel) (by decide +kernel)
set_option maxRecDepth 20000 in
theorem gX5_isSide_X5_within : GoodIn wsX5_isSide (va_wsS RX5 49 yX5_within wsX5_within) := goodIn_app (goodIn_of _ (by decide +kernel)) ggX5_isSide_X5_within
theorem dX5_isSide_0 : decode cX5_isSide 0 = .ok (.iload_n 0, 1) := by decide +kernel
theorem dX5_isSide_1 : decode cX5_isSide 1 = .ok (.iconst 0, 1) := by decide +kernel
theorem dX5_isSide_2 : decode cX5_isSide 2 = .ok (.iconst 1, 1) := by decide +kernel
theorem dX5_isSide_3 : decode cX5_isSide 3 = .ok (.invokestatic 49, 3) := by decide +kernel
theorem dX5_isSide_6 : decode cX5_isSide 6 = .ok (.ireturn, 1) := by decide +kernel
set_option maxRecDepth 20000 in
theorem ggX5_isHeight_X5_within : GoodIn wsX5_isHeight wsX5_within := goodIn_r _ [4] (by decide +kernel) (by decide +kernel)
set_option maxRecDepth 20000 in
theorem gX5_isHeight_X5_within : GoodIn wsX5_isHeight (va_wsS RX5 49 yX5_within wsX5_within) := goodIn_app (goodIn_of _ (by decide +kernel)) ggX5_isHeight_X5_within
theorem dX5_isHeight_0 : decode cX5_isHeight 0 = .ok (.iload_n 0, 1) := by decide +kernel
theorem dX5_isHeight_1 : decode cX5_isHeight 1 = .ok (.iconst 0, 1) := by decide +kernel
theorem dX5_isHeight_2 : decode cX5_isHeight 2 = .ok (.bipush 7, 2) := by decide +kernel
theorem dX5_isHeight_4 : decode cX5_isHeight 4 = .ok (.invokestatic 49, 3) := by decide +kernel
theorem dX5_isHeight_7 : decode cX5_isHeight 7 = .ok (.ireturn, 1) := by decide +kernel
set_option maxRecDepth 20000 in
theorem ggX5_isImage_X5_within : GoodIn wsX5_isImage wsX5_within := goodIn_r _ [4] (by decide +kernel) (by decide +kernel)
set_option maxRecDepth 20000 in
theorem gX5_isImage_X5_within : GoodIn wsX5_isImage (va_wsS RX5 49 yX5_within wsX5_within) := goodIn_app (goodIn_of _ (by decide +kernel)) ggX5_isImage_X5_within
theorem dX5_isImage_0 : decode cX5_isImage 0 = .ok (.iload_n 0, 1) := by decide +kernel
theorem dX5_isImage_1 : decode cX5_isImage 1 = .ok (.iconst 0, 1) := by decide +kernel
theorem dX5_isImage_2 : decode cX5_isImage 2 = .ok (.iconst 1, 1) := by decide +kernel
theorem dX5_isImage_3 : decode cX5_isImage 3 = .ok (.invokestatic 49, 3) := by decide +kernel
theorem dX5_isImage_6 : decode cX5_isImage 6 = .ok (.ireturn, 1) := by decide +kernel
set_option maxRecDepth 20000 in
theorem ggX5_aboveOf_X5_commonDivisor : GoodIn wsX5_aboveOf wsX5_commonDivisor := goodIn_r _ [4, 5, 6, 7, 8, 9, 10, 11] (by decide +kernel) (by decide +kernel)
set_option maxRecDepth 20000 in
theorem gX5_aboveOf_X5_commonDivisor : GoodIn wsX5_aboveOf (va_wsS RX5 232 yX5_commonDivisor wsX5_commonDivisor) := goodIn_app (goodIn_of _ (by decide +kernel)) ggX5_aboveOf_X5_commonDivisor
theorem dX5_aboveOf_0 : decode cX5_aboveOf 0 = .ok (.lload_n 0, 1) := by decide +kernel
theorem dX5_aboveOf_1 : decode cX5_aboveOf 1 = .ok (.lload_n 0, 1) := by decide +kernel
theorem dX5_aboveOf_2 : decode cX5_aboveOf 2 = .ok (.lload_n 2, 1) := by decide +kernel
theorem dX5_aboveOf_3 : decode cX5_aboveOf 3 = .ok (.invokestatic 232, 3) := by decide +kernel
theorem dX5_aboveOf_6 : decode cX5_aboveOf 6 = .ok (.ldiv, 1) := by decide +kernel
theorem dX5_aboveOf_7 : decode cX5_aboveOf 7 = .ok (.lreturn, 1) := by decide +kernel
set_option maxRecDepth 20000 in
theorem ggX5_belowOf_X5_commonDivisor : GoodIn wsX5_belowOf wsX5_commonDivisor := goodIn_r _ [4, 5, 6, 7, 8, 9, 10, 11] (by decide +kernel) (by decide +kernel)
set_option maxRecDepth 20000 in
theorem gX5_belowOf_X5_commonDivisor : GoodIn wsX5_belowOf (va_wsS RX5 232 yX5_commonDivisor wsX5_commonDivisor) := goodIn_app (goodIn_of _ (by decide +kernel)) ggX5_belowOf_X5_commonDivisor
theorem dX5_belowOf_0 : decode cX5_belowOf 0 = .ok (.lload_n 2, 1) := by decide +kernel
theorem dX5_belowOf_1 : decode cX5_belowOf 1 = .ok (.lload_n 0, 1) := by decide +kernel
theorem dX5_belowOf_2 : decode cX5_belowOf 2 = .ok (.lload_n 2, 1) := by decide +kernel
theorem dX5_belowOf_3 : decode cX5_belowOf 3 = .ok (.invokestatic 232, 3) := by decide +kernel
theorem dX5_belowOf_6 : decode cX5_belowOf 6 = .ok (.ldiv, 1) := by decide +kernel
theorem dX5_belowOf_7 : decode cX5_belowOf 7 = .ok (.lreturn, 1) := by decide +kernel
theorem dX5_commonDivisor_0 : decode cX5_commonDivisor 0 = .ok (.lload_n 0, 1) := by decide +kernel
theorem dX5_commonDivisor_1 : decode cX5_commonDivisor 1 = .ok (.invokestatic 235, 3) := by decide +kernel
theorem dX5_commonDivisor_4 : decode cX5_commonDivisor 4 = .ok (.lstore 4, 2) := by decide +kernel
theorem dX5_commonDivisor_6 : decode cX5_commonDivisor 6 = .ok (.lload_n 2, 1) := by decide +kernel
theorem dX5_commonDivisor_7 : decode cX5_commonDivisor 7 = .ok (.invokestatic 235, 3) := by decide +kernel
theorem dX5_commonDivisor_10 : decode cX5_commonDivisor 10 = .ok (.lstore 6, 2) := by decide +kernel
theorem dX5_commonDivisor_12 : decode cX5_commonDivisor 12 = .ok (.iconst 0, 1) := by decide +kernel
theorem dX5_commonDivisor_13 : decode cX5_commonDivisor 13 = .ok (.istore 8, 2) := by decide +kernel
theorem dX5_commonDivisor_15 : decode cX5_commonDivisor 15 = .ok (.iload 8, 2) := by decide +kernel
theorem dX5_commonDivisor_17 : decode cX5_commonDivisor 17 = .ok (.bipush 100, 2) := by decide +kernel
theorem dX5_commonDivisor_19 : decode cX5_commonDivisor 19 = .ok (.if_icmp .ge 31, 3) := by decide +kernel
theorem dX5_commonDivisor_22 : decode cX5_commonDivisor 22 = .ok (.lload 6, 2) := by decide +kernel
theorem dX5_commonDivisor_24 : decode cX5_commonDivisor 24 = .ok (.lconst 0, 1) := by decide +kernel
theorem dX5_commonDivisor_25 : decode cX5_commonDivisor 25 = .ok (.lcmp, 1) := by decide +kernel
theorem dX5_commonDivisor_26 : decode cX5_commonDivisor 26 = .ok (.ifCond .le 24, 3) := by decide +kernel
theorem dX5_commonDivisor_29 : decode cX5_commonDivisor 29 = .ok (.lload 4, 2) := by decide +kernel
theorem dX5_commonDivisor_31 : decode cX5_commonDivisor 31 = .ok (.lload 6, 2) := by decide +kernel
theorem dX5_commonDivisor_33 : decode cX5_commonDivisor 33 = .ok (.lrem, 1) := by decide +kernel
theorem dX5_commonDivisor_34 : decode cX5_commonDivisor 34 = .ok (.lstore 9, 2) := by decide +kernel
theorem dX5_commonDivisor_36 : decode cX5_commonDivisor 36 = .ok (.lload 6, 2) := by decide +kernel
theorem dX5_commonDivisor_38 : decode cX5_commonDivisor 38 = .ok (.lstore 4, 2) := by decide +kernel
theorem dX5_commonDivisor_40 : decode cX5_commonDivisor 40 = .ok (.lload 9, 2) := by decide +kernel
theorem dX5_commonDivisor_42 : decode cX5_commonDivisor 42 = .ok (.lstore 6, 2) := by decide +kernel
theorem dX5_commonDivisor_44 : decode cX5_commonDivisor 44 = .ok (.iinc 8 1, 3) := by decide +kernel
theorem dX5_commonDivisor_47 : decode cX5_commonDivisor 47 = .ok (.goto (-32), 3) := by decide +kernel
theorem dX5_commonDivisor_50 : decode cX5_commonDivisor 50 = .ok (.lconst 1, 1) := by decide +kernel
theorem dX5_commonDivisor_51 : decode cX5_commonDivisor 51 = .ok (.lload 4, 2) := by decide +kernel
theorem dX5_commonDivisor_53 : decode cX5_commonDivisor 53 = .ok (.invokestatic 241, 3) := by decide +kernel
theorem dX5_commonDivisor_56 : decode cX5_commonDivisor 56 = .ok (.lreturn, 1) := by decide +kernel
set_option maxRecDepth 20000 in
theorem ggX6_init_X6_beginLetters : GoodIn wsX6_init wsX6_beginLetters := goodIn_r _ [25, 5, 26, 27, 28, 29, 24, 30, 31, 32, 33, 34, 35, 36, 37, 38, 39, 40, 41, 42, 43, 44, 45, 46, 47] (by decide +kernel) (by decide +kernel)
set_option maxRecDepth 20000 in
theorem gX6_init_X6_beginLetters : GoodIn wsX6_init (wsV RX6 55 RX6 yX6_beginLetters wsX6_beginLetters) := goodIn_app (goodIn_of _ (by decide +kernel)) ggX6_init_X6_beginLetters
theorem dX6_init_0 : decode cX6_init 0 = .ok (.aload_n 0, 1) := by decide +kernel
theorem dX6_init_1 : decode cX6_init 1 = .ok (.invokespecial 1, 3) := by decide +kernel
theorem dX6_init_4 : decode cX6_init 4 = .ok (.aload_n 0, 1) := by decide +kernel
theorem dX6_init_5 : decode cX6_init 5 = .ok (.bipush 63, 2) := by decide +kernel
theorem dX6_init_7 : decode cX6_init 7 = .ok (.newarray .int, 2) := by decide +kernel
theorem dX6_init_9 : decode cX6_init 9 = .ok (.putfield 7, 3) := by decide +kernel
theorem dX6_init_12 : decode cX6_init 12 = .ok (.aload_n 0, 1) := by decide +kernel
theorem dX6_init_13 : decode cX6_init 13 = .ok (.bipush 16, 2) := by decide +kernel
theorem dX6_init_15 : decode cX6_init 15 = .ok (.newarray .int, 2) := by decide +kernel
theorem dX6_init_17 : decode cX6_init 17 = .ok (.putfield 13, 3) := by decide +kernel
theorem dX6_init_20 : decode cX6_init 20 = .ok (.aload_n 0, 1) := by decide +kernel
theorem dX6_init_21 : decode cX6_init 21 = .ok (.bipush 6, 2) := by decide +kernel
theorem dX6_init_23 : decode cX6_init 23 = .ok (.newarray .boolean, 2) := by decide +kernel
theorem dX6_init_25 : decode cX6_init 25 = .ok (.putfield 16, 3) := by decide +kernel
theorem dX6_init_28 : decode cX6_init 28 = .ok (.aload_n 0, 1) := by decide +kernel
theorem dX6_init_29 : decode cX6_init 29 = .ok (.bipush 6, 2) := by decide +kernel
theorem dX6_init_31 : decode cX6_init 31 = .ok (.newarray .long, 2) := by decide +kernel
theorem dX6_init_33 : decode cX6_init 33 = .ok (.putfield 20, 3) := by decide +kernel
theorem dX6_init_36 : decode cX6_init 36 = .ok (.aload_n 0, 1) := by decide +kernel
theorem dX6_init_37 : decode cX6_init 37 = .ok (.bipush 6, 2) := by decide +kernel
theorem dX6_init_39 : decode cX6_init 39 = .ok (.newarray .int, 2) := by decide +kernel
theorem dX6_init_41 : decode cX6_init 41 = .ok (.putfield 24, 3) := by decide +kernel
theorem dX6_init_44 : decode cX6_init 44 = .ok (.aload_n 0, 1) := by decide +kernel
theorem dX6_init_45 : decode cX6_init 45 = .ok (.bipush 42, 2) := by decide +kernel
theorem dX6_init_47 : decode cX6_init 47 = .ok (.newarray .long, 2) := by decide +kernel
theorem dX6_init_49 : decode cX6_init 49 = .ok (.putfield 27, 3) := by decide +kernel
theorem dX6_init_52 : decode cX6_init 52 = .ok (.aload_n 0, 1) := by decide +kernel
theorem dX6_init_53 : decode cX6_init 53 = .ok (.bipush 6, 2) := by decide +kernel
theorem dX6_init_55 : decode cX6_init 55 = .ok (.newarray .int, 2) := by decide +kernel
theorem dX6_init_57 : decode cX6_init 57 = .ok (.putfield 30, 3) := by decide +kernel
theorem dX6_init_60 : decode cX6_init 60 = .ok (.aload_n 0, 1) := by decide +kernel
theorem dX6_init_61 : decode cX6_init 61 = .ok (.bipush 6, 2) := by decide +kernel
theorem dX6_init_63 : decode cX6_init 63 = .ok (.newarray .long, 2) := by decide +kernel
theorem dX6_init_65 : decode cX6_init 65 = .ok (.putfield 33, 3) := by decide +kernel
theorem dX6_init_68 : decode cX6_init 68 = .ok (.aload_n 0, 1) := by decide +kernel
theorem dX6_init_69 : decode cX6_init 69 = .ok (.bipush 6, 2) := by decide +kernel
theorem dX6_init_71 : decode cX6_init 71 = .ok (.newarray .boolean, 2) := by decide +kernel
theorem dX6_init_73 : decode cX6_init 73 = .ok (.putfield 36, 3) := by decide +kernel
theorem dX6_init_76 : decode cX6_init 76 = .ok (.aload_n 0, 1) := by decide +kernel
theorem dX6_init_77 : decode cX6_init 77 = .ok (.bipush 80, 2) := by decide +kernel
theorem dX6_init_79 : decode cX6_init 79 = .ok (.newarray .int, 2) := by decide +kernel
theorem dX6_init_81 : decode cX6_init 81 = .ok (.putfield 39, 3) := by decide +kernel
theorem dX6_init_84 : decode cX6_init 84 = .ok (.aload_n 0, 1) := by decide +kernel
theorem dX6_init_85 : decode cX6_init 85 = .ok (.sipush 504, 3) := by decide +kernel
theorem dX6_init_88 : decode cX6_init 88 = .ok (.newarray .int, 2) := by decide +kernel
theorem dX6_init_90 : decode cX6_init 90 = .ok (.putfield 42, 3) := by decide +kernel
theorem dX6_init_93 : decode cX6_init 93 = .ok (.aload_n 0, 1) := by decide +kernel
theorem dX6_init_94 : decode cX6_init 94 = .ok (.bipush 126, 2) := by decide +kernel
theorem dX6_init_96 : decode cX6_init 96 = .ok (.newarray .int, 2) := by decide +kernel
theorem dX6_init_98 : decode cX6_init 98 = .ok (.putfield 45, 3) := by decide +kernel
theorem dX6_init_101 : decode cX6_init 101 = .ok (.aload_n 0, 1) := by decide +kernel
theorem dX6_init_102 : decode cX6_init 102 = .ok (.iconst 2, 1) := by decide +kernel
theorem dX6_init_103 : decode cX6_init 103 = .ok (.newarray .boolean, 2) := by decide +kernel
theorem dX6_init_105 : decode cX6_init 105 = .ok (.putfield 48, 3) := by decide +kernel
theorem dX6_init_108 : decode cX6_init 108 = .ok (.aload_n 0, 1) := by decide +kernel
theorem dX6_init_109 : decode cX6_init 109 = .ok (.iconst 0, 1) := by decide +kernel
theorem dX6_init_110 : decode cX6_init 110 = .ok (.putfield 51, 3) := by decide +kernel
theorem dX6_init_113 : decode cX6_init 113 = .ok (.aload_n 0, 1) := by decide +kernel
theorem dX6_init_114 : decode cX6_init 114 = .ok (.iconst 2, 1) := by decide +kernel
theorem dX6_init_115 : decode cX6_init 115 = .ok (.invokevirtual 55, 3) := by decide +kernel
theorem dX6_init_118 : decode cX6_init 118 = .ok (.aload_n 0, 1) := by decide +kernel
theorem dX6_init_119 : decode cX6_init 119 = .ok (.getfield 7, 3) := by decide +kernel
theorem dX6_init_122 : decode cX6_init 122 = .ok (.bipush 61, 2) := by decide +kernel
theorem dX6_init_124 : decode cX6_init 124 = .ok (.bipush 20, 2) := by decide +kernel
theorem dX6_init_126 : decode cX6_init 126 = .ok (.iastore, 1) := by decide +kernel
theorem dX6_init_127 : decode cX6_init 127 = .ok (.aload_n 0, 1) := by decide +kernel
theorem dX6_init_128 : decode cX6_init 128 = .ok (.getfield 7, 3) := by decide +kernel
theorem dX6_init_131 : decode cX6_init 131 = .ok (.bipush 62, 2) := by decide +kernel
theorem dX6_init_133 : decode cX6_init 133 = .ok (.bipush 100, 2) := by decide +kernel
theorem dX6_init_135 : decode cX6_init 135 = .ok (.iastore, 1) := by decide +kernel
theorem dX6_init_136 : decode cX6_init 136 = .ok (.return_, 1) := by decide +kernel
theorem dX6_in_0 : decode cX6_in 0 = .ok (.lload_n 0, 1) := by decide +kernel
theorem dX6_in_1 : decode cX6_in 1 = .ok (.lload_n 2, 1) := by decide +kernel
theorem dX6_in_2 : decode cX6_in 2 = .ok (.lcmp, 1) := by decide +kernel
theorem dX6_in_3 : decode cX6_in 3 = .ok (.ifCond .lt 14, 3) := by decide +kernel
theorem dX6_in_6 : decode cX6_in 6 = .ok (.lload_n 0, 1) := by decide +kernel
theorem dX6_in_7 : decode cX6_in 7 = .ok (.lload 4, 2) := by decide +kernel
theorem dX6_in_9 : decode cX6_in 9 = .ok (.lcmp, 1) := by decide +kernel
theorem dX6_in_10 : decode cX6_in 10 = .ok (.ifCond .gt 7, 3) := by decide +kernel
theorem dX6_in_13 : decode cX6_in 13 = .ok (.iconst 1, 1) := by decide +kernel
theorem dX6_in_14 : decode cX6_in 14 = .ok (.goto 4, 3) := by decide +kernel
theorem dX6_in_17 : decode cX6_in 17 = .ok (.iconst 0, 1) := by decide +kernel
theorem dX6_in_18 : decode cX6_in 18 = .ok (.ireturn, 1) := by decide +kernel
set_option maxRecDepth 20000 in
theorem ggX6_beginLetters_X6_in : GoodIn wsX6_beginLetters wsX6_in := goodIn_r _ [7] (by decide +kernel) (by decide +kernel)
set_option maxRecDepth 20000 in
theorem gX6_beginLetters_X6_in : GoodIn wsX6_beginLetters (va_wsS RX6 63 yX6_in wsX6_in) := goodIn_app (goodIn_of _ (by decide +kernel)) ggX6_beginLetters_X6_in
theorem dX6_beginLetters_0 : decode cX6_beginLetters 0 = .ok (.iconst 0, 1) := by decide +kernel
theorem dX6_beginLetters_1 : decode cX6_beginLetters 1 = .ok (.istore_n 2, 1) := by decide +kernel
theorem dX6_beginLetters_2 : decode cX6_beginLetters 2 = .ok (.iload_n 2, 1) := by decide +kernel
theorem dX6_beginLetters_3 : decode cX6_beginLetters 3 = .ok (.bipush 60, 2) := by decide +kernel
theorem dX6_beginLetters_5 : decode cX6_beginLetters 5 = .ok (.if_icmp .ge 35, 3) := by decide +kernel
theorem dX6_beginLetters_8 : decode cX6_beginLetters 8 = .ok (.aload_n 0, 1) := by decide +kernel
theorem dX6_beginLetters_9 : decode cX6_beginLetters 9 = .ok (.getfield 7, 3) := by decide +kernel
theorem dX6_beginLetters_12 : decode cX6_beginLetters 12 = .ok (.iload_n 2, 1) := by decide +kernel
theorem dX6_beginLetters_13 : decode cX6_beginLetters 13 = .ok (.iload_n 2, 1) := by decide +kernel
theorem dX6_beginLetters_14 : decode cX6_beginLetters 14 = .ok (.i2l, 1) := by decide +kernel
theorem dX6_beginLetters_15 : decode cX6_beginLetters 15 = .ok (.ldc2_w 59, 3) := by decide +kernel
theorem dX6_beginLetters_18 : decode cX6_beginLetters 18 = .ok (.ldc2_w 61, 3) := by decide +kernel
theorem dX6_beginLetters_21 : decode cX6_beginLetters 21 = .ok (.invokestatic 63, 3) := by decide +kernel
theorem dX6_beginLetters_24 : decode cX6_beginLetters 24 = .ok (.ifCond .eq 8, 3) := by decide +kernel
theorem dX6_beginLetters_27 : decode cX6_beginLetters 27 = .ok (.bipush 10, 2) := by decide +kernel
theorem dX6_beginLetters_29 : decode cX6_beginLetters 29 = .ok (.goto 4, 3) := by decide +kernel
theorem dX6_beginLetters_32 : decode cX6_beginLetters 32 = .ok (.iconst 0, 1) := by decide +kernel
theorem dX6_beginLetters_33 : decode cX6_beginLetters 33 = .ok (.iastore, 1) := by decide +kernel
theorem dX6_beginLetters_34 : decode cX6_beginLetters 34 = .ok (.iinc 2 1, 3) := by decide +kernel
theorem dX6_beginLetters_37 : decode cX6_beginLetters 37 = .ok (.goto (-35), 3) := by decide +kernel
theorem dX6_beginLetters_40 : decode cX6_beginLetters 40 = .ok (.aload_n 0, 1) := by decide +kernel
theorem dX6_beginLetters_41 : decode cX6_beginLetters 41 = .ok (.getfield 7, 3) := by decide +kernel
theorem dX6_beginLetters_44 : decode cX6_beginLetters 44 = .ok (.bipush 60, 2) := by decide +kernel
theorem dX6_beginLetters_46 : decode cX6_beginLetters 46 = .ok (.iload_n 1, 1) := by decide +kernel
theorem dX6_beginLetters_47 : decode cX6_beginLetters 47 = .ok (.iastore, 1) := by decide +kernel
theorem dX6_beginLetters_48 : decode cX6_beginLetters 48 = .ok (.return_, 1) := by decide +kernel
set_option maxRecDepth 20000 in
theorem ggX6_isLetter_X6_in : GoodIn wsX6_isLetter wsX6_in := goodIn_r _ [5] (by decide +kernel) (by decide +kernel)
set_option maxRecDepth 20000 in
theorem gX6_isLetter_X6_in : GoodIn wsX6_isLetter (va_wsS RX6 63 yX6_in wsX6_in) := goodIn_app (goodIn_of _ (by decide +kernel)) ggX6_isLetter_X6_in
theorem dX6_isLetter_0 : decode cX6_isLetter 0 = .ok (.iload_n 1, 1) := by decide +kernel
theorem dX6_isLetter_1 : decode cX6_isLetter 1 = .ok (.i2l, 1) := by decide +kernel
theorem dX6_isLetter_2 : decode cX6_isLetter 2 = .ok (.lconst 0, 1) := by decide +kernel
theorem dX6_isLetter_3 : decode cX6_isLetter 3 = .ok (.aload_n 0, 1) := by decide +kernel
theorem dX6_isLetter_4 : decode cX6_isLetter 4 = .ok (.getfield 7, 3) := by decide +kernel
theorem dX6_isLetter_7 : decode cX6_isLetter 7 = .ok (.bipush 60, 2) := by decide +kernel
theorem dX6_isLetter_9 : decode cX6_isLetter 9 = .ok (.iaload, 1) := by decide +kernel
theorem dX6_isLetter_10 : decode cX6_isLetter 10 = .ok (.iconst 1, 1) := by decide +kernel
theorem dX6_isLetter_11 : decode cX6_isLetter 11 = .ok (.isub, 1) := by decide +kernel
theorem dX6_isLetter_12 : decode cX6_isLetter 12 = .ok (.i2l, 1) := by decide +kernel
theorem dX6_isLetter_13 : decode cX6_isLetter 13 = .ok (.invokestatic 63, 3) := by decide +kernel
theorem dX6_isLetter_16 : decode cX6_isLetter 16 = .ok (.ireturn, 1) := by decide +kernel
set_option maxRecDepth 20000 in
theorem ggX6_isHeight_X6_in : GoodIn wsX6_isHeight wsX6_in := goodIn_r _ [5] (by decide +kernel) (by decide +kernel)
set_option maxRecDepth 20000 in
theorem gX6_isHeight_X6_in : GoodIn wsX6_isHeight (va_wsS RX6 63 yX6_in wsX6_in) := goodIn_app (goodIn_of _ (by decide +kernel)) ggX6_isHeight_X6_in
theorem dX6_isHeight_0 : decode cX6_isHeight 0 = .ok (.iload_n 0, 1) := by decide +kernel
theorem dX6_isHeight_1 : decode cX6_isHeight 1 = .ok (.i2l, 1) := by decide +kernel
theorem dX6_isHeight_2 : decode cX6_isHeight 2 = .ok (.lconst 0, 1) := by decide +kernel
theorem dX6_isHeight_3 : decode cX6_isHeight 3 = .ok (.ldc2_w 67, 3) := by decide +kernel
theorem dX6_isHeight_6 : decode cX6_isHeight 6 = .ok (.invokestatic 63, 3) := by decide +kernel
theorem dX6_isHeight_9 : decode cX6_isHeight 9 = .ok (.ireturn, 1) := by decide +kernel
set_option maxRecDepth 20000 in
theorem ggX6_isSide_X6_in : GoodIn wsX6_isSide wsX6_in := goodIn_r _ [4] (by decide +kernel) (by decide +kernel)
set_option maxRecDepth 20000 in
theorem gX6_isSide_X6_in : GoodIn wsX6_isSide (va_wsS RX6 63 yX6_in wsX6_in) := goodIn_app (goodIn_of _ (by decide +kernel)) ggX6_isSide_X6_in
theorem dX6_isSide_0 : decode cX6_isSide 0 = .ok (.iload_n 0, 1) := by decide +kernel
theorem dX6_isSide_1 : decode cX6_isSide 1 = .ok (.i2l, 1) := by decide +kernel
theorem dX6_isSide_2 : decode cX6_isSide 2 = .ok (.lconst 0, 1) := by decide +kernel
theorem dX6_isSide_3 : decode cX6_isSide 3 = .ok (.lconst 1, 1) := by decide +kernel
theorem dX6_isSide_4 : decode cX6_isSide 4 = .ok (.invokestatic 63, 3) := by decide +kernel
theorem dX6_isSide_7 : decode cX6_isSide 7 = .ok (.ireturn, 1) := by decide +kernel
theorem dX6_at_0 : decode cX6_at 0 = .ok (.bipush 16, 2) := by decide +kernel
theorem dX6_at_2 : decode cX6_at 2 = .ok (.iload_n 0, 1) := by decide +kernel
theorem dX6_at_3 : decode cX6_at 3 = .ok (.imul, 1) := by decide +kernel
theorem dX6_at_4 : decode cX6_at 4 = .ok (.bipush 8, 2) := by decide +kernel
theorem dX6_at_6 : decode cX6_at 6 = .ok (.iload_n 1, 1) := by decide +kernel
theorem dX6_at_7 : decode cX6_at 7 = .ok (.imul, 1) := by decide +kernel
theorem dX6_at_8 : decode cX6_at 8 = .ok (.iadd, 1) := by decide +kernel
theorem dX6_at_9 : decode cX6_at 9 = .ok (.iload_n 2, 1) := by decide +kernel
theorem dX6_at_10 : decode cX6_at 10 = .ok (.iadd, 1) := by decide +kernel
theorem dX6_at_11 : decode cX6_at 11 = .ok (.ireturn, 1) := by decide +kernel
theorem dX6_weightOf_0 : decode cX6_weightOf 0 = .ok (.aload_n 0, 1) := by decide +kernel
theorem dX6_weightOf_1 : decode cX6_weightOf 1 = .ok (.getfield 7, 3) := by decide +kernel
theorem dX6_weightOf_4 : decode cX6_weightOf 4 = .ok (.bipush 51, 2) := by decide +kernel
theorem dX6_weightOf_6 : decode cX6_weightOf 6 = .ok (.iconst 3, 1) := by decide +kernel
theorem dX6_weightOf_7 : decode cX6_weightOf 7 = .ok (.iload_n 1, 1) := by decide +kernel
theorem dX6_weightOf_8 : decode cX6_weightOf 8 = .ok (.imul, 1) := by decide +kernel
theorem dX6_weightOf_9 : decode cX6_weightOf 9 = .ok (.iadd, 1) := by decide +kernel
theorem dX6_weightOf_10 : decode cX6_weightOf 10 = .ok (.iload_n 2, 1) := by decide +kernel
theorem dX6_weightOf_11 : decode cX6_weightOf 11 = .ok (.iadd, 1) := by decide +kernel
theorem dX6_weightOf_12 : decode cX6_weightOf 12 = .ok (.iaload, 1) := by decide +kernel
theorem dX6_weightOf_13 : decode cX6_weightOf 13 = .ok (.ireturn, 1) := by decide +kernel
set_option maxRecDepth 20000 in
theorem ggX6_bare_X6_at : GoodIn wsX6_bare wsX6_at := goodIn_r _ [5] (by decide +kernel) (by decide +kernel)
set_option maxRecDepth 20000 in
theorem gX6_bare_X6_at : GoodIn wsX6_bare (va_wsS RX6 69 yX6_at wsX6_at) := goodIn_app (goodIn_of _ (by decide +kernel)) ggX6_bare_X6_at
theorem dX6_bare_0 : decode cX6_bare 0 = .ok (.iconst 0, 1) := by decide +kernel
theorem dX6_bare_1 : decode cX6_bare 1 = .ok (.istore_n 3, 1) := by decide +kernel
theorem dX6_bare_2 : decode cX6_bare 2 = .ok (.iconst 0, 1) := by decide +kernel
theorem dX6_bare_3 : decode cX6_bare 3 = .ok (.istore 4, 2) := by decide +kernel
theorem dX6_bare_5 : decode cX6_bare 5 = .ok (.iload 4, 2) := by decide +kernel
theorem dX6_bare_7 : decode cX6_bare 7 = .ok (.bipush 8, 2) := by decide +kernel
theorem dX6_bare_9 : decode cX6_bare 9 = .ok (.if_icmp .ge 63, 3) := by decide +kernel
theorem dX6_bare_12 : decode cX6_bare 12 = .ok (.aload_n 0, 1) := by decide +kernel
theorem dX6_bare_13 : decode cX6_bare 13 = .ok (.getfield 7, 3) := by decide +kernel
theorem dX6_bare_16 : decode cX6_bare 16 = .ok (.iload_n 1, 1) := by decide +kernel
theorem dX6_bare_17 : decode cX6_bare 17 = .ok (.iconst 1, 1) := by decide +kernel
theorem dX6_bare_18 : decode cX6_bare 18 = .ok (.iload 4, 2) := by decide +kernel
theorem dX6_bare_20 : decode cX6_bare 20 = .ok (.invokestatic 69, 3) := by decide +kernel
theorem dX6_bare_23 : decode cX6_bare 23 = .ok (.iaload, 1) := by decide +kernel
theorem dX6_bare_24 : decode cX6_bare 24 = .ok (.aload_n 0, 1) := by decide +kernel
theorem dX6_bare_25 : decode cX6_bare 25 = .ok (.getfield 7, 3) := by decide +kernel
theorem dX6_bare_28 : decode cX6_bare 28 = .ok (.iload_n 2, 1) := by decide +kernel
theorem dX6_bare_29 : decode cX6_bare 29 = .ok (.iconst 0, 1) := by decide +kernel
theorem dX6_bare_30 : decode cX6_bare 30 = .ok (.iload 4, 2) := by decide +kernel
theorem dX6_bare_32 : decode cX6_bare 32 = .ok (.invokestatic 69, 3) := by decide +kernel
theorem dX6_bare_35 : decode cX6_bare 35 = .ok (.iaload, 1) := by decide +kernel
theorem dX6_bare_36 : decode cX6_bare 36 = .ok (.iadd, 1) := by decide +kernel
theorem dX6_bare_37 : decode cX6_bare 37 = .ok (.istore 5, 2) := by decide +kernel
theorem dX6_bare_39 : decode cX6_bare 39 = .ok (.iload_n 3, 1) := by decide +kernel
theorem dX6_bare_40 : decode cX6_bare 40 = .ok (.iload 5, 2) := by decide +kernel
theorem dX6_bare_42 : decode cX6_bare 42 = .ok (.aload_n 0, 1) := by decide +kernel
theorem dX6_bare_43 : decode cX6_bare 43 = .ok (.getfield 7, 3) := by decide +kernel
theorem dX6_bare_46 : decode cX6_bare 46 = .ok (.bipush 61, 2) := by decide +kernel
theorem dX6_bare_48 : decode cX6_bare 48 = .ok (.iaload, 1) := by decide +kernel
theorem dX6_bare_49 : decode cX6_bare 49 = .ok (.if_icmp .ge 8, 3) := by decide +kernel
theorem dX6_bare_52 : decode cX6_bare 52 = .ok (.iload 5, 2) := by decide +kernel
theorem dX6_bare_54 : decode cX6_bare 54 = .ok (.goto 10, 3) := by decide +kernel
theorem dX6_bare_57 : decode cX6_bare 57 = .ok (.aload_n 0, 1) := by decide +kernel
theorem dX6_bare_58 : decode cX6_bare 58 = .ok (.getfield 7, 3) := by decide +kernel
theorem dX6_bare_61 : decode cX6_bare 61 = .ok (.bipush 61, 2) := by decide +kernel
theorem dX6_bare_63 : decode cX6_bare 63 = .ok (.iaload, 1) := by decide +kernel
theorem dX6_bare_64 : decode cX6_bare 64 = .ok (.iadd, 1) := by decide +kernel
theorem dX6_bare_65 : decode cX6_bare 65 = .ok (.istore_n 3, 1) := by decide +kernel
theorem dX6_bare_66 : decode cX6_bare 66 = .ok (.iinc 4 1, 3) := by decide +kernel
theorem dX6_bare_69 : decode cX6_bare 69 = .ok (.goto (-64), 3) := by decide +kernel
theorem dX6_bare_72 : decode cX6_bare 72 = .ok (.iload_n 3, 1) := by decide +kernel
theorem dX6_bare_73 : decode cX6_bare 73 = .ok (.ireturn, 1) := by decide +kernel
theorem dX6_divisor_0 : decode cX6_divisor 0 = .ok (.lload_n 0, 1) := by decide +kernel
theorem dX6_divisor_1 : decode cX6_divisor 1 = .ok (.lconst 0, 1) := by decide +kernel
theorem dX6_divisor_2 : decode cX6_divisor 2 = .ok (.lcmp, 1) := by decide +kernel
theorem dX6_divisor_3 : decode cX6_divisor 3 = .ok (.ifCond .ge 8, 3) := by decide +kernel
theorem dX6_divisor_6 : decode cX6_divisor 6 = .ok (.lload_n 0, 1) := by decide +kernel
theorem dX6_divisor_7 : decode cX6_divisor 7 = .ok (.lneg, 1) := by decide +kernel
theorem dX6_divisor_8 : decode cX6_divisor 8 = .ok (.goto 4, 3) := by decide +kernel
theorem dX6_divisor_11 : decode cX6_divisor 11 = .ok (.lload_n 0, 1) := by decide +kernel
theorem dX6_divisor_12 : decode cX6_divisor 12 = .ok (.lstore 4, 2) := by decide +kernel
theorem dX6_divisor_14 : decode cX6_divisor 14 = .ok (.lload_n 2, 1) := by decide +kernel
theorem dX6_divisor_15 : decode cX6_divisor 15 = .ok (.lstore 6, 2) := by decide +kernel
theorem dX6_divisor_17 : decode cX6_divisor 17 = .ok (.lload 6, 2) := by decide +kernel
theorem dX6_divisor_19 : decode cX6_divisor 19 = .ok (.lconst 0, 1) := by decide +kernel
theorem dX6_divisor_20 : decode cX6_divisor 20 = .ok (.lcmp, 1) := by decide +kernel
theorem dX6_divisor_21 : decode cX6_divisor 21 = .ok (.ifCond .eq 21, 3) := by decide +kernel
theorem dX6_divisor_24 : decode cX6_divisor 24 = .ok (.lload 4, 2) := by decide +kernel
theorem dX6_divisor_26 : decode cX6_divisor 26 = .ok (.lload 6, 2) := by decide +kernel
theorem dX6_divisor_28 : decode cX6_divisor 28 = .ok (.lrem, 1) := by decide +kernel
theorem dX6_divisor_29 : decode cX6_divisor 29 = .ok (.lstore 8, 2) := by decide +kernel
theorem dX6_divisor_31 : decode cX6_divisor 31 = .ok (.lload 6, 2) := by decide +kernel
theorem dX6_divisor_33 : decode cX6_divisor 33 = .ok (.lstore 4, 2) := by decide +kernel
theorem dX6_divisor_35 : decode cX6_divisor 35 = .ok (.lload 8, 2) := by decide +kernel
theorem dX6_divisor_37 : decode cX6_divisor 37 = .ok (.lstore 6, 2) := by decide +kernel
theorem dX6_divisor_39 : decode cX6_divisor 39 = .ok (.goto (-22), 3) := by decide +kernel
theorem dX6_divisor_42 : decode cX6_divisor 42 = .ok (.lload 4, 2) := by decide +kernel
theorem dX6_divisor_44 : decode cX6_divisor 44 = .ok (.lreturn, 1) := by decide +kernel
set_option maxRecDepth 20000 in
theorem ggX6_above_X6_divisor : GoodIn wsX6_above wsX6_divisor := goodIn_r _ [4] (by decide +kernel) (by decide +kernel)
set_option maxRecDepth 20000 in
theorem gX6_above_X6_divisor : GoodIn wsX6_above (va_wsS RX6 73 yX6_divisor wsX6_divisor) := goodIn_app (goodIn_of _ (by decide +kernel)) ggX6_above_X6_divisor
theorem dX6_above_0 : decode cX6_above 0 = .ok (.lload_n 0, 1) := by decide +kernel
theorem dX6_above_1 : decode cX6_above 1 = .ok (.lload_n 0, 1) := by decide +kernel
theorem dX6_above_2 : decode cX6_above 2 = .ok (.lload_n 2, 1) := by decide +kernel
theorem dX6_above_3 : decode cX6_above 3 = .ok (.invokestatic 73, 3) := by decide +kernel
theorem dX6_above_6 : decode cX6_above 6 = .ok (.ldiv, 1) := by decide +kernel
theorem dX6_above_7 : decode cX6_above 7 = .ok (.lreturn, 1) := by decide +kernel
set_option maxRecDepth 20000 in
theorem ggX6_below_X6_divisor : GoodIn wsX6_below wsX6_divisor := goodIn_r _ [4] (by decide +kernel) (by decide +kernel)
set_option maxRecDepth 20000 in
theorem gX6_below_X6_divisor : GoodIn wsX6_below (va_wsS RX6 73 yX6_divisor wsX6_divisor) := goodIn_app (goodIn_of _ (by decide +kernel)) ggX6_below_X6_divisor
theorem dX6_below_0 : decode cX6_below 0 = .ok (.lload_n 2, 1) := by decide +kernel
theorem dX6_below_1 : decode cX6_below 1 = .ok (.lload_n 0, 1) := by decide +kernel
theorem dX6_below_2 : decode cX6_below 2 = .ok (.lload_n 2, 1) := by decide +kernel
theorem dX6_below_3 : decode cX6_below 3 = .ok (.invokestatic 73, 3) := by decide +kernel
theorem dX6_below_6 : decode cX6_below 6 = .ok (.ldiv, 1) := by decide +kernel
theorem dX6_below_7 : decode cX6_below 7 = .ok (.lreturn, 1) := by decide +kernel
theorem dX6_floor_0 : decode cX6_floor 0 = .ok (.lload_n 0, 1) := by decide +kernel
theorem dX6_floor_1 : decode cX6_floor 1 = .ok (.lload_n 2, 1) := by decide +kernel
theorem dX6_floor_2 : decode cX6_floor 2 = .ok (.ldiv, 1) := by decide +kernel
theorem dX6_floor_3 : decode cX6_floor 3 = .ok (.lstore 4, 2) := by decide +kernel
theorem dX6_floor_5 : decode cX6_floor 5 = .ok (.lload 4, 2) := by decide +kernel
theorem dX6_floor_7 : decode cX6_floor 7 = .ok (.lload_n 2, 1) := by decide +kernel
theorem dX6_floor_8 : decode cX6_floor 8 = .ok (.lmul, 1) := by decide +kernel
theorem dX6_floor_9 : decode cX6_floor 9 = .ok (.lload_n 0, 1) := by decide +kernel
theorem dX6_floor_10 : decode cX6_floor 10 = .ok (.lcmp, 1) := by decide +kernel
theorem dX6_floor_11 : decode cX6_floor 11 = .ok (.ifCond .le 10, 3) := by decide +kernel
theorem dX6_floor_14 : decode cX6_floor 14 = .ok (.lload 4, 2) := by decide +kernel
theorem dX6_floor_16 : decode cX6_floor 16 = .ok (.lconst 1, 1) := by decide +kernel
theorem dX6_floor_17 : decode cX6_floor 17 = .ok (.lsub, 1) := by decide +kernel
theorem dX6_floor_18 : decode cX6_floor 18 = .ok (.goto 5, 3) := by decide +kernel
theorem dX6_floor_21 : decode cX6_floor 21 = .ok (.lload 4, 2) := by decide +kernel
theorem dX6_floor_23 : decode cX6_floor 23 = .ok (.lreturn, 1) := by decide +kernel
theorem dX6_isThere_0 : decode cX6_isThere 0 = .ok (.iload_n 1, 1) := by decide +kernel
theorem dX6_isThere_1 : decode cX6_isThere 1 = .ok (.iconst 3, 1) := by decide +kernel
theorem dX6_isThere_2 : decode cX6_isThere 2 = .ok (.irem, 1) := by decide +kernel
theorem dX6_isThere_3 : decode cX6_isThere 3 = .ok (.aload_n 0, 1) := by decide +kernel
theorem dX6_isThere_4 : decode cX6_isThere 4 = .ok (.getfield 7, 3) := by decide +kernel
theorem dX6_isThere_7 : decode cX6_isThere 7 = .ok (.bipush 60, 2) := by decide +kernel
theorem dX6_isThere_9 : decode cX6_isThere 9 = .ok (.iaload, 1) := by decide +kernel
theorem dX6_isThere_10 : decode cX6_isThere 10 = .ok (.if_icmp .ge 7, 3) := by decide +kernel
theorem dX6_isThere_13 : decode cX6_isThere 13 = .ok (.iconst 1, 1) := by decide +kernel
theorem dX6_isThere_14 : decode cX6_isThere 14 = .ok (.goto 4, 3) := by decide +kernel
theorem dX6_isThere_17 : decode cX6_isThere 17 = .ok (.iconst 0, 1) := by decide +kernel
theorem dX6_isThere_18 : decode cX6_isThere 18 = .ok (.ireturn, 1) := by decide +kernel
set_option maxRecDepth 20000 in
theorem ggX6_joins_X6_isThere : GoodIn wsX6_joins wsX6_isThere := goodIn_r _ [5, 6, 11, 12, 13, 14, 15, 16, 17, 18, 19, 20, 21, 22, 23, 24, 25, 26, 27] (by decide +kernel) (by decide +kernel)
set_option maxRecDepth 20000 in
theorem gX6_joins_X6_isThere : GoodIn wsX6_joins (wsV RX6 77 RX6 yX6_isThere wsX6_isThere) := goodIn_app (goodIn_of _ (by decide +kernel)) ggX6_joins_X6_isThere
set_option maxRecDepth 20000 in
theorem ggX6_joins_X6_weightOf : GoodIn wsX6_joins wsX6_weightOf := goodIn_r _ [10, 6, 11, 12, 13, 14, 15, 16, 17, 18, 19, 20, 21, 22, 23, 24, 25, 26, 27] (by decide +kernel) (by decide +kernel)
set_option maxRecDepth 20000 in
theorem gX6_joins_X6_weightOf : GoodIn wsX6_joins (wsV RX6 81 RX6 yX6_weightOf wsX6_weightOf) := goodIn_app (goodIn_of _ (by decide +kernel)) ggX6_joins_X6_weightOf
theorem dX6_joins_0 : decode cX6_joins 0 = .ok (.aload_n 0, 1) := by decide +kernel
theorem dX6_joins_1 : decode cX6_joins 1 = .ok (.iload_n 1, 1) := by decide +kernel
theorem dX6_joins_2 : decode cX6_joins 2 = .ok (.invokevirtual 77, 3) := by decide +kernel
theorem dX6_joins_5 : decode cX6_joins 5 = .ok (.ifCond .eq 22, 3) := by decide +kernel
theorem dX6_joins_8 : decode cX6_joins 8 = .ok (.aload_n 0, 1) := by decide +kernel
theorem dX6_joins_9 : decode cX6_joins 9 = .ok (.iload_n 2, 1) := by decide +kernel
theorem dX6_joins_10 : decode cX6_joins 10 = .ok (.invokevirtual 77, 3) := by decide +kernel
theorem dX6_joins_13 : decode cX6_joins 13 = .ok (.ifCond .eq 14, 3) := by decide +kernel
theorem dX6_joins_16 : decode cX6_joins 16 = .ok (.aload_n 0, 1) := by decide +kernel
theorem dX6_joins_17 : decode cX6_joins 17 = .ok (.iload_n 1, 1) := by decide +kernel
theorem dX6_joins_18 : decode cX6_joins 18 = .ok (.iload_n 2, 1) := by decide +kernel
theorem dX6_joins_19 : decode cX6_joins 19 = .ok (.iconst 3, 1) := by decide +kernel
theorem dX6_joins_20 : decode cX6_joins 20 = .ok (.isub, 1) := by decide +kernel
theorem dX6_joins_21 : decode cX6_joins 21 = .ok (.invokevirtual 81, 3) := by decide +kernel
theorem dX6_joins_24 : decode cX6_joins 24 = .ok (.goto 4, 3) := by decide +kernel
theorem dX6_joins_27 : decode cX6_joins 27 = .ok (.iconst 0, 1) := by decide +kernel
theorem dX6_joins_28 : decode cX6_joins 28 = .ok (.ireturn, 1) := by decide +kernel
set_option maxRecDepth 20000 in
theorem ggX6_isJoined_X6_joins : GoodIn wsX6_isJoined wsX6_joins := goodIn_r _ [5, 6, 7, 8, 4, 9, 10, 11, 12, 13, 14, 15, 16, 17, 18, 19, 20, 21, 22, 23, 24, 25, 26, 27, 28, 29, 30, 31] (by decide +kernel) (by decide +kernel)
set_option maxRecDepth 20000 in
theorem gX6_isJoined_X6_joins : GoodIn wsX6_isJoined (wsV RX6 85 RX6 yX6_joins wsX6_joins) := goodIn_app (goodIn_of _ (by decide +kernel)) ggX6_isJoined_X6_joins
theorem dX6_isJoined_0 : decode cX6_isJoined 0 = .ok (.iconst 0, 1) := by decide +kernel
theorem dX6_isJoined_1 : decode cX6_isJoined 1 = .ok (.istore_n 2, 1) := by decide +kernel
theorem dX6_isJoined_2 : decode cX6_isJoined 2 = .ok (.iconst 0, 1) := by decide +kernel
theorem dX6_isJoined_3 : decode cX6_isJoined 3 = .ok (.istore_n 3, 1) := by decide +kernel
theorem dX6_isJoined_4 : decode cX6_isJoined 4 = .ok (.iload_n 3, 1) := by decide +kernel
theorem dX6_isJoined_5 : decode cX6_isJoined 5 = .ok (.iconst 3, 1) := by decide +kernel
theorem dX6_isJoined_6 : decode cX6_isJoined 6 = .ok (.if_icmp .ge 44, 3) := by decide +kernel
theorem dX6_isJoined_9 : decode cX6_isJoined 9 = .ok (.iload_n 2, 1) := by decide +kernel
theorem dX6_isJoined_10 : decode cX6_isJoined 10 = .ok (.ifCond .ne 28, 3) := by decide +kernel
theorem dX6_isJoined_13 : decode cX6_isJoined 13 = .ok (.iload_n 1, 1) := by decide +kernel
theorem dX6_isJoined_14 : decode cX6_isJoined 14 = .ok (.iconst 3, 1) := by decide +kernel
theorem dX6_isJoined_15 : decode cX6_isJoined 15 = .ok (.if_icmp .ge 14, 3) := by decide +kernel
theorem dX6_isJoined_18 : decode cX6_isJoined 18 = .ok (.aload_n 0, 1) := by decide +kernel
theorem dX6_isJoined_19 : decode cX6_isJoined 19 = .ok (.iload_n 1, 1) := by decide +kernel
theorem dX6_isJoined_20 : decode cX6_isJoined 20 = .ok (.iconst 3, 1) := by decide +kernel
theorem dX6_isJoined_21 : decode cX6_isJoined 21 = .ok (.iload_n 3, 1) := by decide +kernel
theorem dX6_isJoined_22 : decode cX6_isJoined 22 = .ok (.iadd, 1) := by decide +kernel
theorem dX6_isJoined_23 : decode cX6_isJoined 23 = .ok (.invokevirtual 85, 3) := by decide +kernel
theorem dX6_isJoined_26 : decode cX6_isJoined 26 = .ok (.goto 9, 3) := by decide +kernel
theorem dX6_isJoined_29 : decode cX6_isJoined 29 = .ok (.aload_n 0, 1) := by decide +kernel
theorem dX6_isJoined_30 : decode cX6_isJoined 30 = .ok (.iload_n 3, 1) := by decide +kernel
theorem dX6_isJoined_31 : decode cX6_isJoined 31 = .ok (.iload_n 1, 1) := by decide +kernel
theorem dX6_isJoined_32 : decode cX6_isJoined 32 = .ok (.invokevirtual 85, 3) := by decide +kernel
theorem dX6_isJoined_35 : decode cX6_isJoined 35 = .ok (.ifCond .le 7, 3) := by decide +kernel
theorem dX6_isJoined_38 : decode cX6_isJoined 38 = .ok (.iconst 1, 1) := by decide +kernel
theorem dX6_isJoined_39 : decode cX6_isJoined 39 = .ok (.goto 4, 3) := by decide +kernel
theorem dX6_isJoined_42 : decode cX6_isJoined 42 = .ok (.iconst 0, 1) := by decide +kernel
theorem dX6_isJoined_43 : decode cX6_isJoined 43 = .ok (.istore_n 2, 1) := by decide +kernel
theorem dX6_isJoined_44 : decode cX6_isJoined 44 = .ok (.iinc 3 1, 3) := by decide +kernel
theorem dX6_isJoined_47 : decode cX6_isJoined 47 = .ok (.goto (-43), 3) := by decide +kernel
theorem dX6_isJoined_50 : decode cX6_isJoined 50 = .ok (.iload_n 2, 1) := by decide +kernel
theorem dX6_isJoined_51 : decode cX6_isJoined 51 = .ok (.ireturn, 1) := by decide +kernel
set_option maxRecDepth 20000 in
theorem ggX6_layGroups_X6_joins : GoodIn wsX6_layGroups wsX6_joins := goodIn_r _ [6, 7, 8, 9, 5, 10, 11, 12, 13, 14, 15, 16, 17, 18, 19, 20, 21, 22, 23, 24, 25, 26, 27, 28, 29, 30, 31, 32] (by decide +kernel) (by decide +kernel)
set_option maxRecDepth 20000 in
theorem gX6_layGroups_X6_joins : GoodIn wsX6_layGroups (wsV RX6 85 RX6 yX6_joins wsX6_joins) := goodIn_app (goodIn_of _ (by decide +kernel)) ggX6_layGroups_X6_joins
theorem dX6_layGroups_0 : decode cX6_layGroups 0 = .ok (.iconst 0, 1) := by decide +kernel
theorem dX6_layGroups_1 : decode cX6_layGroups 1 = .ok (.istore_n 1, 1) := by decide +kernel
theorem dX6_layGroups_2 : decode cX6_layGroups 2 = .ok (.iload_n 1, 1) := by decide +kernel
theorem dX6_layGroups_3 : decode cX6_layGroups 3 = .ok (.bipush 6, 2) := by decide +kernel
theorem dX6_layGroups_5 : decode cX6_layGroups 5 = .ok (.if_icmp .ge 16, 3) := by decide +kernel
theorem dX6_layGroups_8 : decode cX6_layGroups 8 = .ok (.aload_n 0, 1) := by decide +kernel
theorem dX6_layGroups_9 : decode cX6_layGroups 9 = .ok (.getfield 24, 3) := by decide +kernel
theorem dX6_layGroups_12 : decode cX6_layGroups 12 = .ok (.iload_n 1, 1) := by decide +kernel
theorem dX6_layGroups_13 : decode cX6_layGroups 13 = .ok (.iload_n 1, 1) := by decide +kernel
theorem dX6_layGroups_14 : decode cX6_layGroups 14 = .ok (.iastore, 1) := by decide +kernel
theorem dX6_layGroups_15 : decode cX6_layGroups 15 = .ok (.iinc 1 1, 3) := by decide +kernel
theorem dX6_layGroups_18 : decode cX6_layGroups 18 = .ok (.goto (-16), 3) := by decide +kernel
theorem dX6_layGroups_21 : decode cX6_layGroups 21 = .ok (.iconst 0, 1) := by decide +kernel
theorem dX6_layGroups_22 : decode cX6_layGroups 22 = .ok (.istore_n 1, 1) := by decide +kernel
theorem dX6_layGroups_23 : decode cX6_layGroups 23 = .ok (.iload_n 1, 1) := by decide +kernel
theorem dX6_layGroups_24 : decode cX6_layGroups 24 = .ok (.bipush 6, 2) := by decide +kernel
theorem dX6_layGroups_26 : decode cX6_layGroups 26 = .ok (.if_icmp .ge 131, 3) := by decide +kernel
theorem dX6_layGroups_29 : decode cX6_layGroups 29 = .ok (.iconst 0, 1) := by decide +kernel
theorem dX6_layGroups_30 : decode cX6_layGroups 30 = .ok (.istore_n 2, 1) := by decide +kernel
theorem dX6_layGroups_31 : decode cX6_layGroups 31 = .ok (.iload_n 2, 1) := by decide +kernel
theorem dX6_layGroups_32 : decode cX6_layGroups 32 = .ok (.bipush 9, 2) := by decide +kernel
theorem dX6_layGroups_34 : decode cX6_layGroups 34 = .ok (.if_icmp .ge 117, 3) := by decide +kernel
theorem dX6_layGroups_37 : decode cX6_layGroups 37 = .ok (.iload_n 2, 1) := by decide +kernel
theorem dX6_layGroups_38 : decode cX6_layGroups 38 = .ok (.iconst 3, 1) := by decide +kernel
theorem dX6_layGroups_39 : decode cX6_layGroups 39 = .ok (.idiv, 1) := by decide +kernel
theorem dX6_layGroups_40 : decode cX6_layGroups 40 = .ok (.istore_n 3, 1) := by decide +kernel
theorem dX6_layGroups_41 : decode cX6_layGroups 41 = .ok (.iconst 3, 1) := by decide +kernel
theorem dX6_layGroups_42 : decode cX6_layGroups 42 = .ok (.iload_n 2, 1) := by decide +kernel
theorem dX6_layGroups_43 : decode cX6_layGroups 43 = .ok (.iconst 3, 1) := by decide +kernel
theorem dX6_layGroups_44 : decode cX6_layGroups 44 = .ok (.irem, 1) := by decide +kernel
theorem dX6_layGroups_45 : decode cX6_layGroups 45 = .ok (.iadd, 1) := by decide +kernel
theorem dX6_layGroups_46 : decode cX6_layGroups 46 = .ok (.istore 4, 2) := by decide +kernel
theorem dX6_layGroups_48 : decode cX6_layGroups 48 = .ok (.aload_n 0, 1) := by decide +kernel
theorem dX6_layGroups_49 : decode cX6_layGroups 49 = .ok (.getfield 24, 3) := by decide +kernel
theorem dX6_layGroups_52 : decode cX6_layGroups 52 = .ok (.iload_n 3, 1) := by decide +kernel
theorem dX6_layGroups_53 : decode cX6_layGroups 53 = .ok (.iaload, 1) := by decide +kernel
theorem dX6_layGroups_54 : decode cX6_layGroups 54 = .ok (.aload_n 0, 1) := by decide +kernel
theorem dX6_layGroups_55 : decode cX6_layGroups 55 = .ok (.getfield 24, 3) := by decide +kernel
theorem dX6_layGroups_58 : decode cX6_layGroups 58 = .ok (.iload 4, 2) := by decide +kernel
theorem dX6_layGroups_60 : decode cX6_layGroups 60 = .ok (.iaload, 1) := by decide +kernel
theorem dX6_layGroups_61 : decode cX6_layGroups 61 = .ok (.if_icmp .ge 12, 3) := by decide +kernel
theorem dX6_layGroups_64 : decode cX6_layGroups 64 = .ok (.aload_n 0, 1) := by decide +kernel
theorem dX6_layGroups_65 : decode cX6_layGroups 65 = .ok (.getfield 24, 3) := by decide +kernel
theorem dX6_layGroups_68 : decode cX6_layGroups 68 = .ok (.iload_n 3, 1) := by decide +kernel
theorem dX6_layGroups_69 : decode cX6_layGroups 69 = .ok (.iaload, 1) := by decide +kernel
theorem dX6_layGroups_70 : decode cX6_layGroups 70 = .ok (.goto 10, 3) := by decide +kernel
theorem dX6_layGroups_73 : decode cX6_layGroups 73 = .ok (.aload_n 0, 1) := by decide +kernel
theorem dX6_layGroups_74 : decode cX6_layGroups 74 = .ok (.getfield 24, 3) := by decide +kernel
theorem dX6_layGroups_77 : decode cX6_layGroups 77 = .ok (.iload 4, 2) := by decide +kernel
theorem dX6_layGroups_79 : decode cX6_layGroups 79 = .ok (.iaload, 1) := by decide +kernel
theorem dX6_layGroups_80 : decode cX6_layGroups 80 = .ok (.istore 5, 2) := by decide +kernel
theorem dX6_layGroups_82 : decode cX6_layGroups 82 = .ok (.aload_n 0, 1) := by decide +kernel
theorem dX6_layGroups_83 : decode cX6_layGroups 83 = .ok (.iload_n 3, 1) := by decide +kernel
theorem dX6_layGroups_84 : decode cX6_layGroups 84 = .ok (.iload 4, 2) := by decide +kernel
theorem dX6_layGroups_86 : decode cX6_layGroups 86 = .ok (.invokevirtual 85, 3) := by decide +kernel
theorem dX6_layGroups_89 : decode cX6_layGroups 89 = .ok (.ifCond .le 7, 3) := by decide +kernel
theorem dX6_layGroups_92 : decode cX6_layGroups 92 = .ok (.iconst 1, 1) := by decide +kernel
theorem dX6_layGroups_93 : decode cX6_layGroups 93 = .ok (.goto 4, 3) := by decide +kernel
theorem dX6_layGroups_96 : decode cX6_layGroups 96 = .ok (.iconst 0, 1) := by decide +kernel
theorem dX6_layGroups_97 : decode cX6_layGroups 97 = .ok (.istore 6, 2) := by decide +kernel
theorem dX6_layGroups_99 : decode cX6_layGroups 99 = .ok (.aload_n 0, 1) := by decide +kernel
theorem dX6_layGroups_100 : decode cX6_layGroups 100 = .ok (.getfield 24, 3) := by decide +kernel
theorem dX6_layGroups_103 : decode cX6_layGroups 103 = .ok (.iload_n 3, 1) := by decide +kernel
theorem dX6_layGroups_104 : decode cX6_layGroups 104 = .ok (.iload 6, 2) := by decide +kernel
theorem dX6_layGroups_106 : decode cX6_layGroups 106 = .ok (.ifCond .eq 8, 3) := by decide +kernel
theorem dX6_layGroups_109 : decode cX6_layGroups 109 = .ok (.iload 5, 2) := by decide +kernel
theorem dX6_layGroups_111 : decode cX6_layGroups 111 = .ok (.goto 9, 3) := by decide +kernel
theorem dX6_layGroups_114 : decode cX6_layGroups 114 = .ok (.aload_n 0, 1) := by decide +kernel
theorem dX6_layGroups_115 : decode cX6_layGroups 115 = .ok (.getfield 24, 3) := by decide +kernel
theorem dX6_layGroups_118 : decode cX6_layGroups 118 = .ok (.iload_n 3, 1) := by decide +kernel
theorem dX6_layGroups_119 : decode cX6_layGroups 119 = .ok (.iaload, 1) := by decide +kernel
theorem dX6_layGroups_120 : decode cX6_layGroups 120 = .ok (.iastore, 1) := by decide +kernel
theorem dX6_layGroups_121 : decode cX6_layGroups 121 = .ok (.aload_n 0, 1) := by decide +kernel
theorem dX6_layGroups_122 : decode cX6_layGroups 122 = .ok (.getfield 24, 3) := by decide +kernel
theorem dX6_layGroups_125 : decode cX6_layGroups 125 = .ok (.iload 4, 2) := by decide +kernel
theorem dX6_layGroups_127 : decode cX6_layGroups 127 = .ok (.iload 6, 2) := by decide +kernel
theorem dX6_layGroups_129 : decode cX6_layGroups 129 = .ok (.ifCond .eq 8, 3) := by decide +kernel
theorem dX6_layGroups_132 : decode cX6_layGroups 132 = .ok (.iload 5, 2) := by decide +kernel
theorem dX6_layGroups_134 : decode cX6_layGroups 134 = .ok (.goto 10, 3) := by decide +kernel
theorem dX6_layGroups_137 : decode cX6_layGroups 137 = .ok (.aload_n 0, 1) := by decide +kernel
theorem dX6_layGroups_138 : decode cX6_layGroups 138 = .ok (.getfield 24, 3) := by decide +kernel
theorem dX6_layGroups_141 : decode cX6_layGroups 141 = .ok (.iload 4, 2) := by decide +kernel
theorem dX6_layGroups_143 : decode cX6_layGroups 143 = .ok (.iaload, 1) := by decide +kernel
theorem dX6_layGroups_144 : decode cX6_layGroups 144 = .ok (.iastore, 1) := by decide +kernel
theorem dX6_layGroups_145 : decode cX6_layGroups 145 = .ok (.iinc 2 1, 3) := by decide +kernel
theorem dX6_layGroups_148 : decode cX6_layGroups 148 = .ok (.goto (-117), 3) := by decide +kernel
theorem dX6_layGroups_151 : decode cX6_layGroups 151 = .ok (.iinc 1 1, 3) := by decide +kernel
theorem dX6_layGroups_154 : decode cX6_layGroups 154 = .ok (.goto (-131), 3) := by decide +kernel
theorem dX6_layGroups_157 : decode cX6_layGroups 157 = .ok (.return_, 1) := by decide +kernel
set_option maxRecDepth 20000 in
theorem ggX6_layOpen_X6_layGroups : GoodIn wsX6_layOpen wsX6_layGroups := goodIn_r _ [7, 1, 8, 9, 10, 6, 11, 12, 13, 14, 15, 16, 17, 18, 19, 20, 25, 26, 27, 28, 29, 30, 31, 32, 33, 34, 35, 36, 37, 38, 39, 40, 41] (by decide +kernel) (by decide +kernel)
set_option maxRecDepth 20000 in
theorem gX6_layOpen_X6_layGroups : GoodIn wsX6_layOpen (wsV RX6 88 RX6 yX6_layGroups wsX6_layGroups) := goodIn_app (goodIn_of _ (by decide +kernel)) ggX6_layOpen_X6_layGroups
set_option maxRecDepth 20000 in
theorem ggX6_layOpen_X6_isJoined : GoodIn wsX6_layOpen wsX6_isJoined := goodIn_r _ [24, 8, 9, 10, 6, 11, 12, 13, 14, 15, 16, 17, 18, 19, 20, 25, 26, 27, 28, 29, 30, 31, 32, 33, 34, 35, 36, 37, 38, 39, 40, 41] (by decide +kernel) (by decide +kernel)
set_option maxRecDepth 20000 in
theorem gX6_layOpen_X6_isJoined : GoodIn wsX6_layOpen (wsV RX6 91 RX6 yX6_isJoined wsX6_isJoined) := goodIn_app (goodIn_of _ (by decide +kernel)) ggX6_layOpen_X6_isJoined
theorem dX6_layOpen_0 : decode cX6_layOpen 0 = .ok (.aload_n 0, 1) := by decide +kernel
theorem dX6_layOpen_1 : decode cX6_layOpen 1 = .ok (.invokevirtual 88, 3) := by decide +kernel
theorem dX6_layOpen_4 : decode cX6_layOpen 4 = .ok (.iconst 0, 1) := by decide +kernel
theorem dX6_layOpen_5 : decode cX6_layOpen 5 = .ok (.istore_n 1, 1) := by decide +kernel
theorem dX6_layOpen_6 : decode cX6_layOpen 6 = .ok (.iload_n 1, 1) := by decide +kernel
theorem dX6_layOpen_7 : decode cX6_layOpen 7 = .ok (.bipush 6, 2) := by decide +kernel
theorem dX6_layOpen_9 : decode cX6_layOpen 9 = .ok (.if_icmp .ge 84, 3) := by decide +kernel
theorem dX6_layOpen_12 : decode cX6_layOpen 12 = .ok (.iload_n 1, 1) := by decide +kernel
theorem dX6_layOpen_13 : decode cX6_layOpen 13 = .ok (.iconst 2, 1) := by decide +kernel
theorem dX6_layOpen_14 : decode cX6_layOpen 14 = .ok (.if_icmp .le 7, 3) := by decide +kernel
theorem dX6_layOpen_17 : decode cX6_layOpen 17 = .ok (.iconst 1, 1) := by decide +kernel
theorem dX6_layOpen_18 : decode cX6_layOpen 18 = .ok (.goto 4, 3) := by decide +kernel
theorem dX6_layOpen_21 : decode cX6_layOpen 21 = .ok (.iconst 0, 1) := by decide +kernel
theorem dX6_layOpen_22 : decode cX6_layOpen 22 = .ok (.istore_n 2, 1) := by decide +kernel
theorem dX6_layOpen_23 : decode cX6_layOpen 23 = .ok (.iload_n 1, 1) := by decide +kernel
theorem dX6_layOpen_24 : decode cX6_layOpen 24 = .ok (.iconst 1, 1) := by decide +kernel
theorem dX6_layOpen_25 : decode cX6_layOpen 25 = .ok (.iadd, 1) := by decide +kernel
theorem dX6_layOpen_26 : decode cX6_layOpen 26 = .ok (.istore_n 3, 1) := by decide +kernel
theorem dX6_layOpen_27 : decode cX6_layOpen 27 = .ok (.iload_n 3, 1) := by decide +kernel
theorem dX6_layOpen_28 : decode cX6_layOpen 28 = .ok (.bipush 6, 2) := by decide +kernel
theorem dX6_layOpen_30 : decode cX6_layOpen 30 = .ok (.if_icmp .ge 34, 3) := by decide +kernel
theorem dX6_layOpen_33 : decode cX6_layOpen 33 = .ok (.iload_n 2, 1) := by decide +kernel
theorem dX6_layOpen_34 : decode cX6_layOpen 34 = .ok (.ifCond .eq 22, 3) := by decide +kernel
theorem dX6_layOpen_37 : decode cX6_layOpen 37 = .ok (.aload_n 0, 1) := by decide +kernel
theorem dX6_layOpen_38 : decode cX6_layOpen 38 = .ok (.getfield 24, 3) := by decide +kernel
theorem dX6_layOpen_41 : decode cX6_layOpen 41 = .ok (.iload_n 3, 1) := by decide +kernel
theorem dX6_layOpen_42 : decode cX6_layOpen 42 = .ok (.iaload, 1) := by decide +kernel
theorem dX6_layOpen_43 : decode cX6_layOpen 43 = .ok (.aload_n 0, 1) := by decide +kernel
theorem dX6_layOpen_44 : decode cX6_layOpen 44 = .ok (.getfield 24, 3) := by decide +kernel
theorem dX6_layOpen_47 : decode cX6_layOpen 47 = .ok (.iload_n 1, 1) := by decide +kernel
theorem dX6_layOpen_48 : decode cX6_layOpen 48 = .ok (.iaload, 1) := by decide +kernel
theorem dX6_layOpen_49 : decode cX6_layOpen 49 = .ok (.if_icmp .eq 7, 3) := by decide +kernel
theorem dX6_layOpen_52 : decode cX6_layOpen 52 = .ok (.iconst 1, 1) := by decide +kernel
theorem dX6_layOpen_53 : decode cX6_layOpen 53 = .ok (.goto 4, 3) := by decide +kernel
theorem dX6_layOpen_56 : decode cX6_layOpen 56 = .ok (.iconst 0, 1) := by decide +kernel
theorem dX6_layOpen_57 : decode cX6_layOpen 57 = .ok (.istore_n 2, 1) := by decide +kernel
theorem dX6_layOpen_58 : decode cX6_layOpen 58 = .ok (.iinc 3 1, 3) := by decide +kernel
theorem dX6_layOpen_61 : decode cX6_layOpen 61 = .ok (.goto (-34), 3) := by decide +kernel
theorem dX6_layOpen_64 : decode cX6_layOpen 64 = .ok (.aload_n 0, 1) := by decide +kernel
theorem dX6_layOpen_65 : decode cX6_layOpen 65 = .ok (.getfield 16, 3) := by decide +kernel
theorem dX6_layOpen_68 : decode cX6_layOpen 68 = .ok (.iload_n 1, 1) := by decide +kernel
theorem dX6_layOpen_69 : decode cX6_layOpen 69 = .ok (.aload_n 0, 1) := by decide +kernel
theorem dX6_layOpen_70 : decode cX6_layOpen 70 = .ok (.iload_n 1, 1) := by decide +kernel
theorem dX6_layOpen_71 : decode cX6_layOpen 71 = .ok (.invokevirtual 91, 3) := by decide +kernel
theorem dX6_layOpen_74 : decode cX6_layOpen 74 = .ok (.ifCond .eq 7, 3) := by decide +kernel
theorem dX6_layOpen_77 : decode cX6_layOpen 77 = .ok (.iload_n 2, 1) := by decide +kernel
theorem dX6_layOpen_78 : decode cX6_layOpen 78 = .ok (.ifCond .eq 7, 3) := by decide +kernel
theorem dX6_layOpen_81 : decode cX6_layOpen 81 = .ok (.iconst 1, 1) := by decide +kernel
theorem dX6_layOpen_82 : decode cX6_layOpen 82 = .ok (.goto 4, 3) := by decide +kernel
theorem dX6_layOpen_85 : decode cX6_layOpen 85 = .ok (.iconst 0, 1) := by decide +kernel
theorem dX6_layOpen_86 : decode cX6_layOpen 86 = .ok (.bastore, 1) := by decide +kernel
theorem dX6_layOpen_87 : decode cX6_layOpen 87 = .ok (.iinc 1 1, 3) := by decide +kernel
theorem dX6_layOpen_90 : decode cX6_layOpen 90 = .ok (.goto (-84), 3) := by decide +kernel
theorem dX6_layOpen_93 : decode cX6_layOpen 93 = .ok (.return_, 1) := by decide +kernel
set_option maxRecDepth 20000 in
theorem ggX6_layEquations_X6_sumOfWeights : GoodIn wsX6_layEquations wsX6_sumOfWeights := goodIn_r _ [8, 9, 10, 11, 7, 12, 13, 14, 15, 16, 17, 18, 19, 20, 21, 33, 34, 35, 36, 37, 38, 39, 40, 41, 42, 43, 44, 45, 46, 47, 48, 49] (by decide +kernel) (by decide +kernel)
set_option maxRecDepth 20000 in
theorem gX6_layEquations_X6_sumOfWeights : GoodIn wsX6_layEquations (wsV RX6 94 RX6 yX6_sumOfWeights wsX6_sumOfWeights) := goodIn_app (goodIn_of _ (by decide +kernel)) ggX6_layEquations_X6_sumOfWeights
set_option maxRecDepth 20000 in
theorem ggX6_layEquations_X6_joins : GoodIn wsX6_layEquations wsX6_joins := goodIn_r _ [12, 13, 14, 15, 7, 16, 17, 18, 19, 20, 21, 33, 34, 35, 36, 37, 38, 39, 40, 41, 42, 43, 44, 45, 46, 47, 48, 49] (by decide +kernel) (by decide +kernel)
set_option maxRecDepth 20000 in
theorem gX6_layEquations_X6_joins : GoodIn wsX6_layEquations (wsV RX6 85 RX6 yX6_joins wsX6_joins) := goodIn_app (goodIn_of _ (by decide +kernel)) ggX6_layEquations_X6_joins
set_option maxRecDepth 20000 in
theorem ggX6_layEquations_X6_wantedOf : GoodIn wsX6_layEquations wsX6_wantedOf := goodIn_r _ [25, 17, 9, 10, 11, 7, 12, 13, 14, 15, 16, 18, 19, 20, 21, 26, 27, 28, 29, 30, 31, 32, 33, 34, 35, 36, 37, 38, 39, 40, 41, 42, 43, 44, 45, 46, 47, 48, 49] (by decide +kernel) (by decide +kernel)
set_option maxRecDepth 20000 in
theorem gX6_layEquations_X6_wantedOf : GoodIn wsX6_layEquations (wsV RX6 98 RX6 yX6_wantedOf wsX6_wantedOf) := goodIn_app (goodIn_of _ (by decide +kernel)) ggX6_layEquations_X6_wantedOf
theorem dX6_layEquations_0 : decode cX6_layEquations 0 = .ok (.iconst 0, 1) := by decide +kernel
theorem dX6_layEquations_1 : decode cX6_layEquations 1 = .ok (.istore_n 1, 1) := by decide +kernel
theorem dX6_layEquations_2 : decode cX6_layEquations 2 = .ok (.iconst 0, 1) := by decide +kernel
theorem dX6_layEquations_3 : decode cX6_layEquations 3 = .ok (.istore_n 2, 1) := by decide +kernel
theorem dX6_layEquations_4 : decode cX6_layEquations 4 = .ok (.iload_n 2, 1) := by decide +kernel
theorem dX6_layEquations_5 : decode cX6_layEquations 5 = .ok (.bipush 6, 2) := by decide +kernel
theorem dX6_layEquations_7 : decode cX6_layEquations 7 = .ok (.if_icmp .ge 28, 3) := by decide +kernel
theorem dX6_layEquations_10 : decode cX6_layEquations 10 = .ok (.aload_n 0, 1) := by decide +kernel
theorem dX6_layEquations_11 : decode cX6_layEquations 11 = .ok (.getfield 16, 3) := by decide +kernel
theorem dX6_layEquations_14 : decode cX6_layEquations 14 = .ok (.iload_n 2, 1) := by decide +kernel
theorem dX6_layEquations_15 : decode cX6_layEquations 15 = .ok (.baload, 1) := by decide +kernel
theorem dX6_layEquations_16 : decode cX6_layEquations 16 = .ok (.ifCond .ne 13, 3) := by decide +kernel
theorem dX6_layEquations_19 : decode cX6_layEquations 19 = .ok (.aload_n 0, 1) := by decide +kernel
theorem dX6_layEquations_20 : decode cX6_layEquations 20 = .ok (.getfield 30, 3) := by decide +kernel
theorem dX6_layEquations_23 : decode cX6_layEquations 23 = .ok (.iload_n 1, 1) := by decide +kernel
theorem dX6_layEquations_24 : decode cX6_layEquations 24 = .ok (.iload_n 2, 1) := by decide +kernel
theorem dX6_layEquations_25 : decode cX6_layEquations 25 = .ok (.iastore, 1) := by decide +kernel
theorem dX6_layEquations_26 : decode cX6_layEquations 26 = .ok (.iinc 1 1, 3) := by decide +kernel
theorem dX6_layEquations_29 : decode cX6_layEquations 29 = .ok (.iinc 2 1, 3) := by decide +kernel
theorem dX6_layEquations_32 : decode cX6_layEquations 32 = .ok (.goto (-28), 3) := by decide +kernel
theorem dX6_layEquations_35 : decode cX6_layEquations 35 = .ok (.iconst 0, 1) := by decide +kernel
theorem dX6_layEquations_36 : decode cX6_layEquations 36 = .ok (.istore_n 2, 1) := by decide +kernel
theorem dX6_layEquations_37 : decode cX6_layEquations 37 = .ok (.iload_n 2, 1) := by decide +kernel
theorem dX6_layEquations_38 : decode cX6_layEquations 38 = .ok (.iload_n 1, 1) := by decide +kernel
theorem dX6_layEquations_39 : decode cX6_layEquations 39 = .ok (.if_icmp .ge 137, 3) := by decide +kernel
theorem dX6_layEquations_42 : decode cX6_layEquations 42 = .ok (.iconst 0, 1) := by decide +kernel
theorem dX6_layEquations_43 : decode cX6_layEquations 43 = .ok (.istore_n 3, 1) := by decide +kernel
theorem dX6_layEquations_44 : decode cX6_layEquations 44 = .ok (.iload_n 3, 1) := by decide +kernel
theorem dX6_layEquations_45 : decode cX6_layEquations 45 = .ok (.iload_n 1, 1) := by decide +kernel
theorem dX6_layEquations_46 : decode cX6_layEquations 46 = .ok (.if_icmp .ge 102, 3) := by decide +kernel
theorem dX6_layEquations_49 : decode cX6_layEquations 49 = .ok (.aload_n 0, 1) := by decide +kernel
theorem dX6_layEquations_50 : decode cX6_layEquations 50 = .ok (.getfield 30, 3) := by decide +kernel
theorem dX6_layEquations_53 : decode cX6_layEquations 53 = .ok (.iload_n 2, 1) := by decide +kernel
theorem dX6_layEquations_54 : decode cX6_layEquations 54 = .ok (.iaload, 1) := by decide +kernel
theorem dX6_layEquations_55 : decode cX6_layEquations 55 = .ok (.istore 4, 2) := by decide +kernel
theorem dX6_layEquations_57 : decode cX6_layEquations 57 = .ok (.aload_n 0, 1) := by decide +kernel
theorem dX6_layEquations_58 : decode cX6_layEquations 58 = .ok (.getfield 30, 3) := by decide +kernel
theorem dX6_layEquations_61 : decode cX6_layEquations 61 = .ok (.iload_n 3, 1) := by decide +kernel
theorem dX6_layEquations_62 : decode cX6_layEquations 62 = .ok (.iaload, 1) := by decide +kernel
theorem dX6_layEquations_63 : decode cX6_layEquations 63 = .ok (.istore 5, 2) := by decide +kernel
theorem dX6_layEquations_65 : decode cX6_layEquations 65 = .ok (.aload_n 0, 1) := by decide +kernel
theorem dX6_layEquations_66 : decode cX6_layEquations 66 = .ok (.getfield 27, 3) := by decide +kernel
theorem dX6_layEquations_69 : decode cX6_layEquations 69 = .ok (.bipush 7, 2) := by decide +kernel
theorem dX6_layEquations_71 : decode cX6_layEquations 71 = .ok (.iload_n 2, 1) := by decide +kernel
theorem dX6_layEquations_72 : decode cX6_layEquations 72 = .ok (.imul, 1) := by decide +kernel
theorem dX6_layEquations_73 : decode cX6_layEquations 73 = .ok (.iload_n 3, 1) := by decide +kernel
theorem dX6_layEquations_74 : decode cX6_layEquations 74 = .ok (.iadd, 1) := by decide +kernel
theorem dX6_layEquations_75 : decode cX6_layEquations 75 = .ok (.iload 4, 2) := by decide +kernel
theorem dX6_layEquations_77 : decode cX6_layEquations 77 = .ok (.iload 5, 2) := by decide +kernel
theorem dX6_layEquations_79 : decode cX6_layEquations 79 = .ok (.if_icmp .ne 13, 3) := by decide +kernel
theorem dX6_layEquations_82 : decode cX6_layEquations 82 = .ok (.aload_n 0, 1) := by decide +kernel
theorem dX6_layEquations_83 : decode cX6_layEquations 83 = .ok (.iload 4, 2) := by decide +kernel
theorem dX6_layEquations_85 : decode cX6_layEquations 85 = .ok (.invokevirtual 94, 3) := by decide +kernel
theorem dX6_layEquations_88 : decode cX6_layEquations 88 = .ok (.i2l, 1) := by decide +kernel
theorem dX6_layEquations_89 : decode cX6_layEquations 89 = .ok (.goto 52, 3) := by decide +kernel
theorem dX6_layEquations_92 : decode cX6_layEquations 92 = .ok (.iload 4, 2) := by decide +kernel
theorem dX6_layEquations_94 : decode cX6_layEquations 94 = .ok (.iconst 3, 1) := by decide +kernel
theorem dX6_layEquations_95 : decode cX6_layEquations 95 = .ok (.if_icmp .ge 21, 3) := by decide +kernel
theorem dX6_layEquations_98 : decode cX6_layEquations 98 = .ok (.iload 5, 2) := by decide +kernel
theorem dX6_layEquations_100 : decode cX6_layEquations 100 = .ok (.iconst 2, 1) := by decide +kernel
theorem dX6_layEquations_101 : decode cX6_layEquations 101 = .ok (.if_icmp .le 15, 3) := by decide +kernel
theorem dX6_layEquations_104 : decode cX6_layEquations 104 = .ok (.aload_n 0, 1) := by decide +kernel
theorem dX6_layEquations_105 : decode cX6_layEquations 105 = .ok (.iload 4, 2) := by decide +kernel
theorem dX6_layEquations_107 : decode cX6_layEquations 107 = .ok (.iload 5, 2) := by decide +kernel
theorem dX6_layEquations_109 : decode cX6_layEquations 109 = .ok (.invokevirtual 85, 3) := by decide +kernel
theorem dX6_layEquations_112 : decode cX6_layEquations 112 = .ok (.i2l, 1) := by decide +kernel
theorem dX6_layEquations_113 : decode cX6_layEquations 113 = .ok (.goto 28, 3) := by decide +kernel
theorem dX6_layEquations_116 : decode cX6_layEquations 116 = .ok (.iload 4, 2) := by decide +kernel
theorem dX6_layEquations_118 : decode cX6_layEquations 118 = .ok (.iconst 2, 1) := by decide +kernel
theorem dX6_layEquations_119 : decode cX6_layEquations 119 = .ok (.if_icmp .le 21, 3) := by decide +kernel
theorem dX6_layEquations_122 : decode cX6_layEquations 122 = .ok (.iload 5, 2) := by decide +kernel
theorem dX6_layEquations_124 : decode cX6_layEquations 124 = .ok (.iconst 3, 1) := by decide +kernel
theorem dX6_layEquations_125 : decode cX6_layEquations 125 = .ok (.if_icmp .ge 15, 3) := by decide +kernel
theorem dX6_layEquations_128 : decode cX6_layEquations 128 = .ok (.aload_n 0, 1) := by decide +kernel
theorem dX6_layEquations_129 : decode cX6_layEquations 129 = .ok (.iload 5, 2) := by decide +kernel
theorem dX6_layEquations_131 : decode cX6_layEquations 131 = .ok (.iload 4, 2) := by decide +kernel
theorem dX6_layEquations_133 : decode cX6_layEquations 133 = .ok (.invokevirtual 85, 3) := by decide +kernel
theorem dX6_layEquations_136 : decode cX6_layEquations 136 = .ok (.i2l, 1) := by decide +kernel
theorem dX6_layEquations_137 : decode cX6_layEquations 137 = .ok (.goto 4, 3) := by decide +kernel
theorem dX6_layEquations_140 : decode cX6_layEquations 140 = .ok (.lconst 0, 1) := by decide +kernel
theorem dX6_layEquations_141 : decode cX6_layEquations 141 = .ok (.lastore, 1) := by decide +kernel
theorem dX6_layEquations_142 : decode cX6_layEquations 142 = .ok (.iinc 3 1, 3) := by decide +kernel
theorem dX6_layEquations_145 : decode cX6_layEquations 145 = .ok (.goto (-101), 3) := by decide +kernel
theorem dX6_layEquations_148 : decode cX6_layEquations 148 = .ok (.aload_n 0, 1) := by decide +kernel
theorem dX6_layEquations_149 : decode cX6_layEquations 149 = .ok (.getfield 27, 3) := by decide +kernel
theorem dX6_layEquations_152 : decode cX6_layEquations 152 = .ok (.bipush 7, 2) := by decide +kernel
theorem dX6_layEquations_154 : decode cX6_layEquations 154 = .ok (.iload_n 2, 1) := by decide +kernel
theorem dX6_layEquations_155 : decode cX6_layEquations 155 = .ok (.imul, 1) := by decide +kernel
theorem dX6_layEquations_156 : decode cX6_layEquations 156 = .ok (.bipush 6, 2) := by decide +kernel
theorem dX6_layEquations_158 : decode cX6_layEquations 158 = .ok (.iadd, 1) := by decide +kernel
theorem dX6_layEquations_159 : decode cX6_layEquations 159 = .ok (.aload_n 0, 1) := by decide +kernel
theorem dX6_layEquations_160 : decode cX6_layEquations 160 = .ok (.aload_n 0, 1) := by decide +kernel
theorem dX6_layEquations_161 : decode cX6_layEquations 161 = .ok (.getfield 30, 3) := by decide +kernel
theorem dX6_layEquations_164 : decode cX6_layEquations 164 = .ok (.iload_n 2, 1) := by decide +kernel
theorem dX6_layEquations_165 : decode cX6_layEquations 165 = .ok (.iaload, 1) := by decide +kernel
theorem dX6_layEquations_166 : decode cX6_layEquations 166 = .ok (.invokevirtual 98, 3) := by decide +kernel
theorem dX6_layEquations_169 : decode cX6_layEquations 169 = .ok (.lastore, 1) := by decide +kernel
theorem dX6_layEquations_170 : decode cX6_layEquations 170 = .ok (.iinc 2 1, 3) := by decide +kernel
theorem dX6_layEquations_173 : decode cX6_layEquations 173 = .ok (.goto (-136), 3) := by decide +kernel
theorem dX6_layEquations_176 : decode cX6_layEquations 176 = .ok (.iload_n 1, 1) := by decide +kernel
theorem dX6_layEquations_177 : decode cX6_layEquations 177 = .ok (.ireturn, 1) := by decide +kernel
set_option maxRecDepth 20000 in
theorem ggX6_sumOfWeights_X6_joins : GoodIn wsX6_sumOfWeights wsX6_joins := goodIn_r _ [5, 6, 7, 8, 4, 9, 10, 11, 12, 13, 14, 15, 16, 17, 18, 19, 20, 21, 22, 23, 24, 25, 26, 27, 28, 29, 30, 31] (by decide +kernel) (by decide +kernel)
set_option maxRecDepth 20000 in
theorem gX6_sumOfWeights_X6_joins : GoodIn wsX6_sumOfWeights (wsV RX6 85 RX6 yX6_joins wsX6_joins) := goodIn_app (goodIn_of _ (by decide +kernel)) ggX6_sumOfWeights_X6_joins
theorem dX6_sumOfWeights_0 : decode cX6_sumOfWeights 0 = .ok (.iconst 0, 1) := by decide +kernel
theorem dX6_sumOfWeights_1 : decode cX6_sumOfWeights 1 = .ok (.istore_n 2, 1) := by decide +kernel
theorem dX6_sumOfWeights_2 : decode cX6_sumOfWeights 2 = .ok (.iconst 0, 1) := by decide +kernel
theorem dX6_sumOfWeights_3 : decode cX6_sumOfWeights 3 = .ok (.istore_n 3, 1) := by decide +kernel
theorem dX6_sumOfWeights_4 : decode cX6_sumOfWeights 4 = .ok (.iload_n 3, 1) := by decide +kernel
theorem dX6_sumOfWeights_5 : decode cX6_sumOfWeights 5 = .ok (.iconst 3, 1) := by decide +kernel
theorem dX6_sumOfWeights_6 : decode cX6_sumOfWeights 6 = .ok (.if_icmp .ge 34, 3) := by decide +kernel
theorem dX6_sumOfWeights_9 : decode cX6_sumOfWeights 9 = .ok (.iload_n 2, 1) := by decide +kernel
theorem dX6_sumOfWeights_10 : decode cX6_sumOfWeights 10 = .ok (.iload_n 1, 1) := by decide +kernel
theorem dX6_sumOfWeights_11 : decode cX6_sumOfWeights 11 = .ok (.iconst 3, 1) := by decide +kernel
theorem dX6_sumOfWeights_12 : decode cX6_sumOfWeights 12 = .ok (.if_icmp .ge 14, 3) := by decide +kernel
theorem dX6_sumOfWeights_15 : decode cX6_sumOfWeights 15 = .ok (.aload_n 0, 1) := by decide +kernel
theorem dX6_sumOfWeights_16 : decode cX6_sumOfWeights 16 = .ok (.iload_n 1, 1) := by decide +kernel
theorem dX6_sumOfWeights_17 : decode cX6_sumOfWeights 17 = .ok (.iconst 3, 1) := by decide +kernel
theorem dX6_sumOfWeights_18 : decode cX6_sumOfWeights 18 = .ok (.iload_n 3, 1) := by decide +kernel
theorem dX6_sumOfWeights_19 : decode cX6_sumOfWeights 19 = .ok (.iadd, 1) := by decide +kernel
theorem dX6_sumOfWeights_20 : decode cX6_sumOfWeights 20 = .ok (.invokevirtual 85, 3) := by decide +kernel
theorem dX6_sumOfWeights_23 : decode cX6_sumOfWeights 23 = .ok (.goto 9, 3) := by decide +kernel
theorem dX6_sumOfWeights_26 : decode cX6_sumOfWeights 26 = .ok (.aload_n 0, 1) := by decide +kernel
theorem dX6_sumOfWeights_27 : decode cX6_sumOfWeights 27 = .ok (.iload_n 3, 1) := by decide +kernel
theorem dX6_sumOfWeights_28 : decode cX6_sumOfWeights 28 = .ok (.iload_n 1, 1) := by decide +kernel
theorem dX6_sumOfWeights_29 : decode cX6_sumOfWeights 29 = .ok (.invokevirtual 85, 3) := by decide +kernel
theorem dX6_sumOfWeights_32 : decode cX6_sumOfWeights 32 = .ok (.iadd, 1) := by decide +kernel
theorem dX6_sumOfWeights_33 : decode cX6_sumOfWeights 33 = .ok (.istore_n 2, 1) := by decide +kernel
theorem dX6_sumOfWeights_34 : decode cX6_sumOfWeights 34 = .ok (.iinc 3 1, 3) := by decide +kernel
theorem dX6_sumOfWeights_37 : decode cX6_sumOfWeights 37 = .ok (.goto (-33), 3) := by decide +kernel
theorem dX6_sumOfWeights_40 : decode cX6_sumOfWeights 40 = .ok (.iload_n 2, 1) := by decide +kernel
theorem dX6_sumOfWeights_41 : decode cX6_sumOfWeights 41 = .ok (.ireturn, 1) := by decide +kernel
set_option maxRecDepth 20000 in
theorem ggX6_wantedOf_X6_joins : GoodIn wsX6_wantedOf wsX6_joins := goodIn_r _ [6, 7, 8, 9, 5, 10, 1, 11, 12, 13, 14, 22, 23, 24, 25, 26, 27, 28, 29, 30, 31, 32, 33, 34, 35, 36, 37, 38] (by decide +kernel) (by decide +kernel)
set_option maxRecDepth 20000 in
theorem gX6_wantedOf_X6_joins : GoodIn wsX6_wantedOf (wsV RX6 85 RX6 yX6_joins wsX6_joins) := goodIn_app (goodIn_of _ (by decide +kernel)) ggX6_wantedOf_X6_joins
set_option maxRecDepth 20000 in
theorem ggX6_wantedOf_X6_bare : GoodIn wsX6_wantedOf wsX6_bare := goodIn_r _ [18, 1, 19, 20, 5, 21, 22, 23, 24, 25, 26, 27, 28, 29, 30, 31, 32, 33, 34, 35, 36, 37, 38] (by decide +kernel) (by decide +kernel)
set_option maxRecDepth 20000 in
theorem gX6_wantedOf_X6_bare : GoodIn wsX6_wantedOf (wsV RX6 102 RX6 yX6_bare wsX6_bare) := goodIn_app (goodIn_of _ (by decide +kernel)) ggX6_wantedOf_X6_bare
theorem dX6_wantedOf_0 : decode cX6_wantedOf 0 = .ok (.lconst 0, 1) := by decide +kernel
theorem dX6_wantedOf_1 : decode cX6_wantedOf 1 = .ok (.lstore_n 2, 1) := by decide +kernel
theorem dX6_wantedOf_2 : decode cX6_wantedOf 2 = .ok (.iconst 0, 1) := by decide +kernel
theorem dX6_wantedOf_3 : decode cX6_wantedOf 3 = .ok (.istore 4, 2) := by decide +kernel
theorem dX6_wantedOf_5 : decode cX6_wantedOf 5 = .ok (.iload 4, 2) := by decide +kernel
theorem dX6_wantedOf_7 : decode cX6_wantedOf 7 = .ok (.iconst 3, 1) := by decide +kernel
theorem dX6_wantedOf_8 : decode cX6_wantedOf 8 = .ok (.if_icmp .ge 81, 3) := by decide +kernel
theorem dX6_wantedOf_11 : decode cX6_wantedOf 11 = .ok (.iload_n 1, 1) := by decide +kernel
theorem dX6_wantedOf_12 : decode cX6_wantedOf 12 = .ok (.iconst 3, 1) := by decide +kernel
theorem dX6_wantedOf_13 : decode cX6_wantedOf 13 = .ok (.if_icmp .ge 7, 3) := by decide +kernel
theorem dX6_wantedOf_16 : decode cX6_wantedOf 16 = .ok (.iload_n 1, 1) := by decide +kernel
theorem dX6_wantedOf_17 : decode cX6_wantedOf 17 = .ok (.goto 5, 3) := by decide +kernel
theorem dX6_wantedOf_20 : decode cX6_wantedOf 20 = .ok (.iload 4, 2) := by decide +kernel
theorem dX6_wantedOf_22 : decode cX6_wantedOf 22 = .ok (.istore 5, 2) := by decide +kernel
theorem dX6_wantedOf_24 : decode cX6_wantedOf 24 = .ok (.iload_n 1, 1) := by decide +kernel
theorem dX6_wantedOf_25 : decode cX6_wantedOf 25 = .ok (.iconst 3, 1) := by decide +kernel
theorem dX6_wantedOf_26 : decode cX6_wantedOf 26 = .ok (.if_icmp .ge 10, 3) := by decide +kernel
theorem dX6_wantedOf_29 : decode cX6_wantedOf 29 = .ok (.iconst 3, 1) := by decide +kernel
theorem dX6_wantedOf_30 : decode cX6_wantedOf 30 = .ok (.iload 4, 2) := by decide +kernel
theorem dX6_wantedOf_32 : decode cX6_wantedOf 32 = .ok (.iadd, 1) := by decide +kernel
theorem dX6_wantedOf_33 : decode cX6_wantedOf 33 = .ok (.goto 4, 3) := by decide +kernel
theorem dX6_wantedOf_36 : decode cX6_wantedOf 36 = .ok (.iload_n 1, 1) := by decide +kernel
theorem dX6_wantedOf_37 : decode cX6_wantedOf 37 = .ok (.istore 6, 2) := by decide +kernel
theorem dX6_wantedOf_39 : decode cX6_wantedOf 39 = .ok (.aload_n 0, 1) := by decide +kernel
theorem dX6_wantedOf_40 : decode cX6_wantedOf 40 = .ok (.iload 5, 2) := by decide +kernel
theorem dX6_wantedOf_42 : decode cX6_wantedOf 42 = .ok (.iload 6, 2) := by decide +kernel
theorem dX6_wantedOf_44 : decode cX6_wantedOf 44 = .ok (.invokevirtual 85, 3) := by decide +kernel
theorem dX6_wantedOf_47 : decode cX6_wantedOf 47 = .ok (.istore 7, 2) := by decide +kernel
theorem dX6_wantedOf_49 : decode cX6_wantedOf 49 = .ok (.lload_n 2, 1) := by decide +kernel
theorem dX6_wantedOf_50 : decode cX6_wantedOf 50 = .ok (.iload 7, 2) := by decide +kernel
theorem dX6_wantedOf_52 : decode cX6_wantedOf 52 = .ok (.ifCond .le 28, 3) := by decide +kernel
theorem dX6_wantedOf_55 : decode cX6_wantedOf 55 = .ok (.iload 7, 2) := by decide +kernel
theorem dX6_wantedOf_57 : decode cX6_wantedOf 57 = .ok (.aload_n 0, 1) := by decide +kernel
theorem dX6_wantedOf_58 : decode cX6_wantedOf 58 = .ok (.getfield 7, 3) := by decide +kernel
theorem dX6_wantedOf_61 : decode cX6_wantedOf 61 = .ok (.bipush 62, 2) := by decide +kernel
theorem dX6_wantedOf_63 : decode cX6_wantedOf 63 = .ok (.iaload, 1) := by decide +kernel
theorem dX6_wantedOf_64 : decode cX6_wantedOf 64 = .ok (.aload_n 0, 1) := by decide +kernel
theorem dX6_wantedOf_65 : decode cX6_wantedOf 65 = .ok (.iload 5, 2) := by decide +kernel
theorem dX6_wantedOf_67 : decode cX6_wantedOf 67 = .ok (.iload 6, 2) := by decide +kernel
theorem dX6_wantedOf_69 : decode cX6_wantedOf 69 = .ok (.iconst 3, 1) := by decide +kernel
theorem dX6_wantedOf_70 : decode cX6_wantedOf 70 = .ok (.isub, 1) := by decide +kernel
theorem dX6_wantedOf_71 : decode cX6_wantedOf 71 = .ok (.invokevirtual 102, 3) := by decide +kernel
theorem dX6_wantedOf_74 : decode cX6_wantedOf 74 = .ok (.isub, 1) := by decide +kernel
theorem dX6_wantedOf_75 : decode cX6_wantedOf 75 = .ok (.imul, 1) := by decide +kernel
theorem dX6_wantedOf_76 : decode cX6_wantedOf 76 = .ok (.i2l, 1) := by decide +kernel
theorem dX6_wantedOf_77 : decode cX6_wantedOf 77 = .ok (.goto 4, 3) := by decide +kernel
theorem dX6_wantedOf_80 : decode cX6_wantedOf 80 = .ok (.lconst 0, 1) := by decide +kernel
theorem dX6_wantedOf_81 : decode cX6_wantedOf 81 = .ok (.ladd, 1) := by decide +kernel
theorem dX6_wantedOf_82 : decode cX6_wantedOf 82 = .ok (.lstore_n 2, 1) := by decide +kernel
theorem dX6_wantedOf_83 : decode cX6_wantedOf 83 = .ok (.iinc 4 1, 3) := by decide +kernel
theorem dX6_wantedOf_86 : decode cX6_wantedOf 86 = .ok (.goto (-81), 3) := by decide +kernel
theorem dX6_wantedOf_89 : decode cX6_wantedOf 89 = .ok (.lload_n 2, 1) := by decide +kernel
theorem dX6_wantedOf_90 : decode cX6_wantedOf 90 = .ok (.lreturn, 1) := by decide +kernel
set_option maxRecDepth 20000 in
theorem ggX6_solve_X6_layOpen : GoodIn wsX6_solve wsX6_layOpen := goodIn_r _ [9, 10, 11, 12, 13, 14, 8, 15, 16, 17, 18, 19, 20, 21, 22, 23, 24, 25, 26, 27, 28, 29, 30, 31, 32, 52, 53, 54, 55, 56, 57, 58, 59, 60, 61, 62, 63, 64, 65, 66, 67, 68] (by decide +kernel) (by decide +kernel)
set_option maxRecDepth 20000 in
theorem gX6_solve_X6_layOpen : GoodIn wsX6_solve (wsV RX6 105 RX6 yX6_layOpen wsX6_layOpen) := goodIn_app (goodIn_of _ (by decide +kernel)) ggX6_solve_X6_layOpen
set_option maxRecDepth 20000 in
theorem ggX6_solve_X6_layEquations : GoodIn wsX6_solve wsX6_layEquations := goodIn_r _ [36, 11, 4, 1, 37, 38, 39, 8, 40, 16, 17, 18, 19, 20, 21, 22, 23, 24, 25, 26, 27, 28, 41, 42, 43, 44, 45, 46, 47, 48, 49, 50, 51, 52, 53, 54, 55, 56, 57, 58, 59, 60, 61, 62, 63, 64, 65, 66, 67, 68] (by decide +kernel) (by decide +kernel)
set_option maxRecDepth 20000 in
theorem gX6_solve_X6_layEquations : GoodIn wsX6_solve (wsV RX6 108 RX6 yX6_layEquations wsX6_layEquations) := goodIn_app (goodIn_of _ (by decide +kernel)) ggX6_solve_X6_layEquations
theorem dX6_solve_0 : decode cX6_solve 0 = .ok (.aload_n 0, 1) := by decide +kernel
theorem dX6_solve_1 : decode cX6_solve 1 = .ok (.invokevirtual 105, 3) := by decide +kernel
theorem dX6_solve_4 : decode cX6_solve 4 = .ok (.aload_n 0, 1) := by decide +kernel
theorem dX6_solve_5 : decode cX6_solve 5 = .ok (.invokevirtual 108, 3) := by decide +kernel
theorem dX6_solve_8 : decode cX6_solve 8 = .ok (.istore_n 1, 1) := by decide +kernel
theorem dX6_solve_9 : decode cX6_solve 9 = .ok (.lconst 1, 1) := by decide +kernel
theorem dX6_solve_10 : decode cX6_solve 10 = .ok (.lstore_n 2, 1) := by decide +kernel
theorem dX6_solve_11 : decode cX6_solve 11 = .ok (.iconst 0, 1) := by decide +kernel
theorem dX6_solve_12 : decode cX6_solve 12 = .ok (.istore 4, 2) := by decide +kernel
theorem dX6_solve_14 : decode cX6_solve 14 = .ok (.iload 4, 2) := by decide +kernel
theorem dX6_solve_16 : decode cX6_solve 16 = .ok (.iload_n 1, 1) := by decide +kernel
theorem dX6_solve_17 : decode cX6_solve 17 = .ok (.if_icmp .ge 125, 3) := by decide +kernel
theorem dX6_solve_20 : decode cX6_solve 20 = .ok (.aload_n 0, 1) := by decide +kernel
theorem dX6_solve_21 : decode cX6_solve 21 = .ok (.getfield 27, 3) := by decide +kernel
theorem dX6_solve_24 : decode cX6_solve 24 = .ok (.bipush 8, 2) := by decide +kernel
theorem dX6_solve_26 : decode cX6_solve 26 = .ok (.iload 4, 2) := by decide +kernel
theorem dX6_solve_28 : decode cX6_solve 28 = .ok (.imul, 1) := by decide +kernel
theorem dX6_solve_29 : decode cX6_solve 29 = .ok (.laload, 1) := by decide +kernel
theorem dX6_solve_30 : decode cX6_solve 30 = .ok (.lstore 5, 2) := by decide +kernel
theorem dX6_solve_32 : decode cX6_solve 32 = .ok (.iconst 0, 1) := by decide +kernel
theorem dX6_solve_33 : decode cX6_solve 33 = .ok (.istore 7, 2) := by decide +kernel
theorem dX6_solve_35 : decode cX6_solve 35 = .ok (.iload 7, 2) := by decide +kernel
theorem dX6_solve_37 : decode cX6_solve 37 = .ok (.iload_n 1, 1) := by decide +kernel
theorem dX6_solve_38 : decode cX6_solve 38 = .ok (.if_icmp .ge 95, 3) := by decide +kernel
theorem dX6_solve_41 : decode cX6_solve 41 = .ok (.aload_n 0, 1) := by decide +kernel
theorem dX6_solve_42 : decode cX6_solve 42 = .ok (.getfield 27, 3) := by decide +kernel
theorem dX6_solve_45 : decode cX6_solve 45 = .ok (.bipush 7, 2) := by decide +kernel
theorem dX6_solve_47 : decode cX6_solve 47 = .ok (.iload 7, 2) := by decide +kernel
theorem dX6_solve_49 : decode cX6_solve 49 = .ok (.imul, 1) := by decide +kernel
theorem dX6_solve_50 : decode cX6_solve 50 = .ok (.iload 4, 2) := by decide +kernel
theorem dX6_solve_52 : decode cX6_solve 52 = .ok (.iadd, 1) := by decide +kernel
theorem dX6_solve_53 : decode cX6_solve 53 = .ok (.laload, 1) := by decide +kernel
theorem dX6_solve_54 : decode cX6_solve 54 = .ok (.lstore 8, 2) := by decide +kernel
theorem dX6_solve_56 : decode cX6_solve 56 = .ok (.iconst 0, 1) := by decide +kernel
theorem dX6_solve_57 : decode cX6_solve 57 = .ok (.istore 10, 2) := by decide +kernel
theorem dX6_solve_59 : decode cX6_solve 59 = .ok (.iload 10, 2) := by decide +kernel
theorem dX6_solve_61 : decode cX6_solve 61 = .ok (.bipush 7, 2) := by decide +kernel
theorem dX6_solve_63 : decode cX6_solve 63 = .ok (.if_icmp .ge 64, 3) := by decide +kernel
theorem dX6_solve_66 : decode cX6_solve 66 = .ok (.iload 7, 2) := by decide +kernel
theorem dX6_solve_68 : decode cX6_solve 68 = .ok (.iload 4, 2) := by decide +kernel
theorem dX6_solve_70 : decode cX6_solve 70 = .ok (.if_icmp .eq 57, 3) := by decide +kernel
theorem dX6_solve_73 : decode cX6_solve 73 = .ok (.aload_n 0, 1) := by decide +kernel
theorem dX6_solve_74 : decode cX6_solve 74 = .ok (.getfield 27, 3) := by decide +kernel
theorem dX6_solve_77 : decode cX6_solve 77 = .ok (.bipush 7, 2) := by decide +kernel
theorem dX6_solve_79 : decode cX6_solve 79 = .ok (.iload 7, 2) := by decide +kernel
theorem dX6_solve_81 : decode cX6_solve 81 = .ok (.imul, 1) := by decide +kernel
theorem dX6_solve_82 : decode cX6_solve 82 = .ok (.iload 10, 2) := by decide +kernel
theorem dX6_solve_84 : decode cX6_solve 84 = .ok (.iadd, 1) := by decide +kernel
theorem dX6_solve_85 : decode cX6_solve 85 = .ok (.aload_n 0, 1) := by decide +kernel
theorem dX6_solve_86 : decode cX6_solve 86 = .ok (.getfield 27, 3) := by decide +kernel
theorem dX6_solve_89 : decode cX6_solve 89 = .ok (.bipush 7, 2) := by decide +kernel
theorem dX6_solve_91 : decode cX6_solve 91 = .ok (.iload 7, 2) := by decide +kernel
theorem dX6_solve_93 : decode cX6_solve 93 = .ok (.imul, 1) := by decide +kernel
theorem dX6_solve_94 : decode cX6_solve 94 = .ok (.iload 10, 2) := by decide +kernel
theorem dX6_solve_96 : decode cX6_solve 96 = .ok (.iadd, 1) := by decide +kernel
theorem dX6_solve_97 : decode cX6_solve 97 = .ok (.laload, 1) := by decide +kernel
theorem dX6_solve_98 : decode cX6_solve 98 = .ok (.lload 5, 2) := by decide +kernel
theorem dX6_solve_100 : decode cX6_solve 100 = .ok (.lmul, 1) := by decide +kernel
theorem dX6_solve_101 : decode cX6_solve 101 = .ok (.lload 8, 2) := by decide +kernel
theorem dX6_solve_103 : decode cX6_solve 103 = .ok (.aload_n 0, 1) := by decide +kernel
theorem dX6_solve_104 : decode cX6_solve 104 = .ok (.getfield 27, 3) := by decide +kernel
theorem dX6_solve_107 : decode cX6_solve 107 = .ok (.bipush 7, 2) := by decide +kernel
theorem dX6_solve_109 : decode cX6_solve 109 = .ok (.iload 4, 2) := by decide +kernel
theorem dX6_solve_111 : decode cX6_solve 111 = .ok (.imul, 1) := by decide +kernel
theorem dX6_solve_112 : decode cX6_solve 112 = .ok (.iload 10, 2) := by decide +kernel
theorem dX6_solve_114 : decode cX6_solve 114 = .ok (.iadd, 1) := by decide +kernel
theorem dX6_solve_115 : decode cX6_solve 115 = .ok (.laload, 1) := by decide +kernel
theorem dX6_solve_116 : decode cX6_solve 116 = .ok (.lmul, 1) := by decide +kernel
theorem dX6_solve_117 : decode cX6_solve 117 = .ok (.lsub, 1) := by decide +kernel
theorem dX6_solve_118 : decode cX6_solve 118 = .ok (.lload_n 2, 1) := by decide +kernel
theorem dX6_solve_119 : decode cX6_solve 119 = .ok (.ldiv, 1) := by decide +kernel
theorem dX6_solve_120 : decode cX6_solve 120 = .ok (.lastore, 1) := by decide +kernel
theorem dX6_solve_121 : decode cX6_solve 121 = .ok (.iinc 10 1, 3) := by decide +kernel
theorem dX6_solve_124 : decode cX6_solve 124 = .ok (.goto (-65), 3) := by decide +kernel
theorem dX6_solve_127 : decode cX6_solve 127 = .ok (.iinc 7 1, 3) := by decide +kernel
theorem dX6_solve_130 : decode cX6_solve 130 = .ok (.goto (-95), 3) := by decide +kernel
theorem dX6_solve_133 : decode cX6_solve 133 = .ok (.lload 5, 2) := by decide +kernel
theorem dX6_solve_135 : decode cX6_solve 135 = .ok (.lstore_n 2, 1) := by decide +kernel
theorem dX6_solve_136 : decode cX6_solve 136 = .ok (.iinc 4 1, 3) := by decide +kernel
theorem dX6_solve_139 : decode cX6_solve 139 = .ok (.goto (-125), 3) := by decide +kernel
theorem dX6_solve_142 : decode cX6_solve 142 = .ok (.aload_n 0, 1) := by decide +kernel
theorem dX6_solve_143 : decode cX6_solve 143 = .ok (.lload_n 2, 1) := by decide +kernel
theorem dX6_solve_144 : decode cX6_solve 144 = .ok (.putfield 112, 3) := by decide +kernel
theorem dX6_solve_147 : decode cX6_solve 147 = .ok (.iconst 0, 1) := by decide +kernel
theorem dX6_solve_148 : decode cX6_solve 148 = .ok (.istore 4, 2) := by decide +kernel
theorem dX6_solve_150 : decode cX6_solve 150 = .ok (.iload 4, 2) := by decide +kernel
theorem dX6_solve_152 : decode cX6_solve 152 = .ok (.bipush 6, 2) := by decide +kernel
theorem dX6_solve_154 : decode cX6_solve 154 = .ok (.if_icmp .ge 17, 3) := by decide +kernel
theorem dX6_solve_157 : decode cX6_solve 157 = .ok (.aload_n 0, 1) := by decide +kernel
theorem dX6_solve_158 : decode cX6_solve 158 = .ok (.getfield 20, 3) := by decide +kernel
theorem dX6_solve_161 : decode cX6_solve 161 = .ok (.iload 4, 2) := by decide +kernel
theorem dX6_solve_163 : decode cX6_solve 163 = .ok (.lconst 0, 1) := by decide +kernel
theorem dX6_solve_164 : decode cX6_solve 164 = .ok (.lastore, 1) := by decide +kernel
theorem dX6_solve_165 : decode cX6_solve 165 = .ok (.iinc 4 1, 3) := by decide +kernel
theorem dX6_solve_168 : decode cX6_solve 168 = .ok (.goto (-18), 3) := by decide +kernel
theorem dX6_solve_171 : decode cX6_solve 171 = .ok (.iconst 0, 1) := by decide +kernel
theorem dX6_solve_172 : decode cX6_solve 172 = .ok (.istore 4, 2) := by decide +kernel
theorem dX6_solve_174 : decode cX6_solve 174 = .ok (.iload 4, 2) := by decide +kernel
theorem dX6_solve_176 : decode cX6_solve 176 = .ok (.iload_n 1, 1) := by decide +kernel
theorem dX6_solve_177 : decode cX6_solve 177 = .ok (.if_icmp .ge 34, 3) := by decide +kernel
theorem dX6_solve_180 : decode cX6_solve 180 = .ok (.aload_n 0, 1) := by decide +kernel
theorem dX6_solve_181 : decode cX6_solve 181 = .ok (.getfield 20, 3) := by decide +kernel
theorem dX6_solve_184 : decode cX6_solve 184 = .ok (.aload_n 0, 1) := by decide +kernel
theorem dX6_solve_185 : decode cX6_solve 185 = .ok (.getfield 30, 3) := by decide +kernel
theorem dX6_solve_188 : decode cX6_solve 188 = .ok (.iload 4, 2) := by decide +kernel
theorem dX6_solve_190 : decode cX6_solve 190 = .ok (.iaload, 1) := by decide +kernel
theorem dX6_solve_191 : decode cX6_solve 191 = .ok (.aload_n 0, 1) := by decide +kernel
theorem dX6_solve_192 : decode cX6_solve 192 = .ok (.getfield 27, 3) := by decide +kernel
theorem dX6_solve_195 : decode cX6_solve 195 = .ok (.bipush 7, 2) := by decide +kernel
theorem dX6_solve_197 : decode cX6_solve 197 = .ok (.iload 4, 2) := by decide +kernel
theorem dX6_solve_199 : decode cX6_solve 199 = .ok (.imul, 1) := by decide +kernel
theorem dX6_solve_200 : decode cX6_solve 200 = .ok (.bipush 6, 2) := by decide +kernel
theorem dX6_solve_202 : decode cX6_solve 202 = .ok (.iadd, 1) := by decide +kernel
theorem dX6_solve_203 : decode cX6_solve 203 = .ok (.laload, 1) := by decide +kernel
theorem dX6_solve_204 : decode cX6_solve 204 = .ok (.lastore, 1) := by decide +kernel
theorem dX6_solve_205 : decode cX6_solve 205 = .ok (.iinc 4 1, 3) := by decide +kernel
theorem dX6_solve_208 : decode cX6_solve 208 = .ok (.goto (-34), 3) := by decide +kernel
theorem dX6_solve_211 : decode cX6_solve 211 = .ok (.return_, 1) := by decide +kernel
set_option maxRecDepth 20000 in
theorem ggX6_whiteOf_X6_bare : GoodIn wsX6_whiteOf wsX6_bare := goodIn_r _ [7, 8, 9, 10, 6, 11, 12, 13, 14, 15, 16, 17, 18, 19, 20, 21, 22, 23, 24, 25, 26, 27, 28] (by decide +kernel) (by decide +kernel)
set_option maxRecDepth 20000 in
theorem gX6_whiteOf_X6_bare : GoodIn wsX6_whiteOf (wsV RX6 102 RX6 yX6_bare wsX6_bare) := goodIn_app (goodIn_of _ (by decide +kernel)) ggX6_whiteOf_X6_bare
theorem dX6_whiteOf_0 : decode cX6_whiteOf 0 = .ok (.aload_n 0, 1) := by decide +kernel
theorem dX6_whiteOf_1 : decode cX6_whiteOf 1 = .ok (.iload_n 1, 1) := by decide +kernel
theorem dX6_whiteOf_2 : decode cX6_whiteOf 2 = .ok (.iload_n 2, 1) := by decide +kernel
theorem dX6_whiteOf_3 : decode cX6_whiteOf 3 = .ok (.invokevirtual 102, 3) := by decide +kernel
theorem dX6_whiteOf_6 : decode cX6_whiteOf 6 = .ok (.i2l, 1) := by decide +kernel
theorem dX6_whiteOf_7 : decode cX6_whiteOf 7 = .ok (.aload_n 0, 1) := by decide +kernel
theorem dX6_whiteOf_8 : decode cX6_whiteOf 8 = .ok (.getfield 112, 3) := by decide +kernel
theorem dX6_whiteOf_11 : decode cX6_whiteOf 11 = .ok (.lmul, 1) := by decide +kernel
theorem dX6_whiteOf_12 : decode cX6_whiteOf 12 = .ok (.aload_n 0, 1) := by decide +kernel
theorem dX6_whiteOf_13 : decode cX6_whiteOf 13 = .ok (.getfield 20, 3) := by decide +kernel
theorem dX6_whiteOf_16 : decode cX6_whiteOf 16 = .ok (.iload_n 1, 1) := by decide +kernel
theorem dX6_whiteOf_17 : decode cX6_whiteOf 17 = .ok (.laload, 1) := by decide +kernel
theorem dX6_whiteOf_18 : decode cX6_whiteOf 18 = .ok (.ladd, 1) := by decide +kernel
theorem dX6_whiteOf_19 : decode cX6_whiteOf 19 = .ok (.aload_n 0, 1) := by decide +kernel
theorem dX6_whiteOf_20 : decode cX6_whiteOf 20 = .ok (.getfield 20, 3) := by decide +kernel
theorem dX6_whiteOf_23 : decode cX6_whiteOf 23 = .ok (.iconst 3, 1) := by decide +kernel
theorem dX6_whiteOf_24 : decode cX6_whiteOf 24 = .ok (.iload_n 2, 1) := by decide +kernel
theorem dX6_whiteOf_25 : decode cX6_whiteOf 25 = .ok (.iadd, 1) := by decide +kernel
theorem dX6_whiteOf_26 : decode cX6_whiteOf 26 = .ok (.laload, 1) := by decide +kernel
theorem dX6_whiteOf_27 : decode cX6_whiteOf 27 = .ok (.ladd, 1) := by decide +kernel
theorem dX6_whiteOf_28 : decode cX6_whiteOf 28 = .ok (.lreturn, 1) := by decide +kernel
set_option maxRecDepth 20000 in
theorem ggX6_overOf_X6_whiteOf : GoodIn wsX6_overOf wsX6_whiteOf := goodIn_r _ [7, 2, 8, 9, 10, 11, 6, 12, 1, 13, 14, 15, 16, 17, 18, 19, 20, 21, 22, 23, 24, 25, 26, 27, 28, 29, 30, 31, 32] (by decide +kernel) (by decide +kernel)
set_option maxRecDepth 20000 in
theorem gX6_overOf_X6_whiteOf : GoodIn wsX6_overOf (wsV RX6 116 RX6 yX6_whiteOf wsX6_whiteOf) := goodIn_app (goodIn_of _ (by decide +kernel)) ggX6_overOf_X6_whiteOf
theorem dX6_overOf_0 : decode cX6_overOf 0 = .ok (.aload_n 0, 1) := by decide +kernel
theorem dX6_overOf_1 : decode cX6_overOf 1 = .ok (.iload_n 1, 1) := by decide +kernel
theorem dX6_overOf_2 : decode cX6_overOf 2 = .ok (.iload_n 2, 1) := by decide +kernel
theorem dX6_overOf_3 : decode cX6_overOf 3 = .ok (.invokevirtual 116, 3) := by decide +kernel
theorem dX6_overOf_6 : decode cX6_overOf 6 = .ok (.aload_n 0, 1) := by decide +kernel
theorem dX6_overOf_7 : decode cX6_overOf 7 = .ok (.getfield 7, 3) := by decide +kernel
theorem dX6_overOf_10 : decode cX6_overOf 10 = .ok (.bipush 62, 2) := by decide +kernel
theorem dX6_overOf_12 : decode cX6_overOf 12 = .ok (.iaload, 1) := by decide +kernel
theorem dX6_overOf_13 : decode cX6_overOf 13 = .ok (.i2l, 1) := by decide +kernel
theorem dX6_overOf_14 : decode cX6_overOf 14 = .ok (.aload_n 0, 1) := by decide +kernel
theorem dX6_overOf_15 : decode cX6_overOf 15 = .ok (.getfield 112, 3) := by decide +kernel
theorem dX6_overOf_18 : decode cX6_overOf 18 = .ok (.lmul, 1) := by decide +kernel
theorem dX6_overOf_19 : decode cX6_overOf 19 = .ok (.lsub, 1) := by decide +kernel
theorem dX6_overOf_20 : decode cX6_overOf 20 = .ok (.lreturn, 1) := by decide +kernel
set_option maxRecDepth 20000 in
theorem ggX6_squares_X6_joins : GoodIn wsX6_squares wsX6_joins := goodIn_r _ [5, 6, 7, 8, 4, 9, 10, 11, 12, 13, 14, 32, 33, 34, 35, 36, 37, 38, 39, 40, 41, 42, 43, 44, 45, 46, 47, 48] (by decide +kernel) (by decide +kernel)
set_option maxRecDepth 20000 in
theorem gX6_squares_X6_joins : GoodIn wsX6_squares (wsV RX6 85 RX6 yX6_joins wsX6_joins) := goodIn_app (goodIn_of _ (by decide +kernel)) ggX6_squares_X6_joins
set_option maxRecDepth 20000 in
theorem ggX6_squares_X6_overOf : GoodIn wsX6_squares wsX6_overOf := goodIn_r _ [18, 10, 19, 20, 21, 22, 4, 23, 24, 25, 26, 27, 28, 29, 30, 31, 32, 33, 34, 35, 36, 37, 38, 39, 40, 41, 42, 43, 44, 45, 46, 47, 48] (by decide +kernel) (by decide +kernel)
set_option maxRecDepth 20000 in
theorem gX6_squares_X6_overOf : GoodIn wsX6_squares (wsV RX6 120 RX6 yX6_overOf wsX6_overOf) := goodIn_app (goodIn_of _ (by decide +kernel)) ggX6_squares_X6_overOf
theorem dX6_squares_0 : decode cX6_squares 0 = .ok (.lconst 0, 1) := by decide +kernel
theorem dX6_squares_1 : decode cX6_squares 1 = .ok (.lstore_n 1, 1) := by decide +kernel
theorem dX6_squares_2 : decode cX6_squares 2 = .ok (.iconst 0, 1) := by decide +kernel
theorem dX6_squares_3 : decode cX6_squares 3 = .ok (.istore_n 3, 1) := by decide +kernel
theorem dX6_squares_4 : decode cX6_squares 4 = .ok (.iload_n 3, 1) := by decide +kernel
theorem dX6_squares_5 : decode cX6_squares 5 = .ok (.bipush 9, 2) := by decide +kernel
theorem dX6_squares_7 : decode cX6_squares 7 = .ok (.if_icmp .ge 56, 3) := by decide +kernel
theorem dX6_squares_10 : decode cX6_squares 10 = .ok (.aload_n 0, 1) := by decide +kernel
theorem dX6_squares_11 : decode cX6_squares 11 = .ok (.iload_n 3, 1) := by decide +kernel
theorem dX6_squares_12 : decode cX6_squares 12 = .ok (.iconst 3, 1) := by decide +kernel
theorem dX6_squares_13 : decode cX6_squares 13 = .ok (.idiv, 1) := by decide +kernel
theorem dX6_squares_14 : decode cX6_squares 14 = .ok (.iconst 3, 1) := by decide +kernel
theorem dX6_squares_15 : decode cX6_squares 15 = .ok (.iload_n 3, 1) := by decide +kernel
theorem dX6_squares_16 : decode cX6_squares 16 = .ok (.iconst 3, 1) := by decide +kernel
theorem dX6_squares_17 : decode cX6_squares 17 = .ok (.irem, 1) := by decide +kernel
theorem dX6_squares_18 : decode cX6_squares 18 = .ok (.iadd, 1) := by decide +kernel
theorem dX6_squares_19 : decode cX6_squares 19 = .ok (.invokevirtual 85, 3) := by decide +kernel
theorem dX6_squares_22 : decode cX6_squares 22 = .ok (.istore 4, 2) := by decide +kernel
theorem dX6_squares_24 : decode cX6_squares 24 = .ok (.iload 4, 2) := by decide +kernel
theorem dX6_squares_26 : decode cX6_squares 26 = .ok (.ifCond .le 16, 3) := by decide +kernel
theorem dX6_squares_29 : decode cX6_squares 29 = .ok (.aload_n 0, 1) := by decide +kernel
theorem dX6_squares_30 : decode cX6_squares 30 = .ok (.iload_n 3, 1) := by decide +kernel
theorem dX6_squares_31 : decode cX6_squares 31 = .ok (.iconst 3, 1) := by decide +kernel
theorem dX6_squares_32 : decode cX6_squares 32 = .ok (.idiv, 1) := by decide +kernel
theorem dX6_squares_33 : decode cX6_squares 33 = .ok (.iload_n 3, 1) := by decide +kernel
theorem dX6_squares_34 : decode cX6_squares 34 = .ok (.iconst 3, 1) := by decide +kernel
theorem dX6_squares_35 : decode cX6_squares 35 = .ok (.irem, 1) := by decide +kernel
theorem dX6_squares_36 : decode cX6_squares 36 = .ok (.invokevirtual 120, 3) := by decide +kernel
theorem dX6_squares_39 : decode cX6_squares 39 = .ok (.goto 4, 3) := by decide +kernel
theorem dX6_squares_42 : decode cX6_squares 42 = .ok (.lconst 0, 1) := by decide +kernel
theorem dX6_squares_43 : decode cX6_squares 43 = .ok (.lstore 5, 2) := by decide +kernel
theorem dX6_squares_45 : decode cX6_squares 45 = .ok (.lload_n 1, 1) := by decide +kernel
theorem dX6_squares_46 : decode cX6_squares 46 = .ok (.iload 4, 2) := by decide +kernel
theorem dX6_squares_48 : decode cX6_squares 48 = .ok (.i2l, 1) := by decide +kernel
theorem dX6_squares_49 : decode cX6_squares 49 = .ok (.lload 5, 2) := by decide +kernel
theorem dX6_squares_51 : decode cX6_squares 51 = .ok (.lmul, 1) := by decide +kernel
theorem dX6_squares_52 : decode cX6_squares 52 = .ok (.lload 5, 2) := by decide +kernel
theorem dX6_squares_54 : decode cX6_squares 54 = .ok (.lmul, 1) := by decide +kernel
theorem dX6_squares_55 : decode cX6_squares 55 = .ok (.ladd, 1) := by decide +kernel
theorem dX6_squares_56 : decode cX6_squares 56 = .ok (.lstore_n 1, 1) := by decide +kernel
theorem dX6_squares_57 : decode cX6_squares 57 = .ok (.iinc 3 1, 3) := by decide +kernel
theorem dX6_squares_60 : decode cX6_squares 60 = .ok (.goto (-56), 3) := by decide +kernel
theorem dX6_squares_63 : decode cX6_squares 63 = .ok (.lload_n 1, 1) := by decide +kernel
theorem dX6_squares_64 : decode cX6_squares 64 = .ok (.lreturn, 1) := by decide +kernel
set_option maxRecDepth 20000 in
theorem ggX6_worst_X6_joins : GoodIn wsX6_worst wsX6_joins := goodIn_r _ [6, 7, 8, 9, 5, 10, 11, 12, 13, 14, 15, 33, 34, 35, 36, 37, 38, 39, 40, 41, 42, 43, 44, 45, 46, 47, 48, 49] (by decide +kernel) (by decide +kernel)
set_option maxRecDepth 20000 in
theorem gX6_worst_X6_joins : GoodIn wsX6_worst (wsV RX6 85 RX6 yX6_joins wsX6_joins) := goodIn_app (goodIn_of _ (by decide +kernel)) ggX6_worst_X6_joins
set_option maxRecDepth 20000 in
theorem ggX6_worst_X6_overOf : GoodIn wsX6_worst wsX6_overOf := goodIn_r _ [19, 11, 20, 21, 22, 23, 5, 24, 25, 26, 27, 28, 29, 30, 31, 32, 33, 34, 35, 36, 37, 38, 39, 40, 41, 42, 43, 44, 45, 46, 47, 48, 49] (by decide +kernel) (by decide +kernel)
set_option maxRecDepth 20000 in
theorem gX6_worst_X6_overOf : GoodIn wsX6_worst (wsV RX6 120 RX6 yX6_overOf wsX6_overOf) := goodIn_app (goodIn_of _ (by decide +kernel)) ggX6_worst_X6_overOf
theorem dX6_worst_0 : decode cX6_worst 0 = .ok (.iconst (-1), 1) := by decide +kernel
theorem dX6_worst_1 : decode cX6_worst 1 = .ok (.istore_n 1, 1) := by decide +kernel
theorem dX6_worst_2 : decode cX6_worst 2 = .ok (.ldc2_w 123, 3) := by decide +kernel
theorem dX6_worst_5 : decode cX6_worst 5 = .ok (.lstore_n 2, 1) := by decide +kernel
theorem dX6_worst_6 : decode cX6_worst 6 = .ok (.iconst 0, 1) := by decide +kernel
theorem dX6_worst_7 : decode cX6_worst 7 = .ok (.istore 4, 2) := by decide +kernel
theorem dX6_worst_9 : decode cX6_worst 9 = .ok (.iload 4, 2) := by decide +kernel
theorem dX6_worst_11 : decode cX6_worst 11 = .ok (.bipush 9, 2) := by decide +kernel
theorem dX6_worst_13 : decode cX6_worst 13 = .ok (.if_icmp .ge 118, 3) := by decide +kernel
theorem dX6_worst_16 : decode cX6_worst 16 = .ok (.aload_n 0, 1) := by decide +kernel
theorem dX6_worst_17 : decode cX6_worst 17 = .ok (.iload 4, 2) := by decide +kernel
theorem dX6_worst_19 : decode cX6_worst 19 = .ok (.iconst 3, 1) := by decide +kernel
theorem dX6_worst_20 : decode cX6_worst 20 = .ok (.idiv, 1) := by decide +kernel
theorem dX6_worst_21 : decode cX6_worst 21 = .ok (.iconst 3, 1) := by decide +kernel
theorem dX6_worst_22 : decode cX6_worst 22 = .ok (.iload 4, 2) := by decide +kernel
theorem dX6_worst_24 : decode cX6_worst 24 = .ok (.iconst 3, 1) := by decide +kernel
theorem dX6_worst_25 : decode cX6_worst 25 = .ok (.irem, 1) := by decide +kernel
theorem dX6_worst_26 : decode cX6_worst 26 = .ok (.iadd, 1) := by decide +kernel
theorem dX6_worst_27 : decode cX6_worst 27 = .ok (.invokevirtual 85, 3) := by decide +kernel
theorem dX6_worst_30 : decode cX6_worst 30 = .ok (.ifCond .le 7, 3) := by decide +kernel
theorem dX6_worst_33 : decode cX6_worst 33 = .ok (.iconst 1, 1) := by decide +kernel
theorem dX6_worst_34 : decode cX6_worst 34 = .ok (.goto 4, 3) := by decide +kernel
theorem dX6_worst_37 : decode cX6_worst 37 = .ok (.iconst 0, 1) := by decide +kernel
theorem dX6_worst_38 : decode cX6_worst 38 = .ok (.istore 5, 2) := by decide +kernel
theorem dX6_worst_40 : decode cX6_worst 40 = .ok (.iload 5, 2) := by decide +kernel
theorem dX6_worst_42 : decode cX6_worst 42 = .ok (.ifCond .eq 18, 3) := by decide +kernel
theorem dX6_worst_45 : decode cX6_worst 45 = .ok (.aload_n 0, 1) := by decide +kernel
theorem dX6_worst_46 : decode cX6_worst 46 = .ok (.iload 4, 2) := by decide +kernel
theorem dX6_worst_48 : decode cX6_worst 48 = .ok (.iconst 3, 1) := by decide +kernel
theorem dX6_worst_49 : decode cX6_worst 49 = .ok (.idiv, 1) := by decide +kernel
theorem dX6_worst_50 : decode cX6_worst 50 = .ok (.iload 4, 2) := by decide +kernel
theorem dX6_worst_52 : decode cX6_worst 52 = .ok (.iconst 3, 1) := by decide +kernel
theorem dX6_worst_53 : decode cX6_worst 53 = .ok (.irem, 1) := by decide +kernel
theorem dX6_worst_54 : decode cX6_worst 54 = .ok (.invokevirtual 120, 3) := by decide +kernel
theorem dX6_worst_57 : decode cX6_worst 57 = .ok (.goto 6, 3) := by decide +kernel
theorem dX6_worst_60 : decode cX6_worst 60 = .ok (.ldc2_w 123, 3) := by decide +kernel
theorem dX6_worst_63 : decode cX6_worst 63 = .ok (.lstore 6, 2) := by decide +kernel
theorem dX6_worst_65 : decode cX6_worst 65 = .ok (.iload 5, 2) := by decide +kernel
theorem dX6_worst_67 : decode cX6_worst 67 = .ok (.ifCond .eq 16, 3) := by decide +kernel
theorem dX6_worst_70 : decode cX6_worst 70 = .ok (.lload 6, 2) := by decide +kernel
theorem dX6_worst_72 : decode cX6_worst 72 = .ok (.lconst 0, 1) := by decide +kernel
theorem dX6_worst_73 : decode cX6_worst 73 = .ok (.lcmp, 1) := by decide +kernel
theorem dX6_worst_74 : decode cX6_worst 74 = .ok (.ifCond .ge 9, 3) := by decide +kernel
theorem dX6_worst_77 : decode cX6_worst 77 = .ok (.lload 6, 2) := by decide +kernel
theorem dX6_worst_79 : decode cX6_worst 79 = .ok (.lneg, 1) := by decide +kernel
theorem dX6_worst_80 : decode cX6_worst 80 = .ok (.goto 5, 3) := by decide +kernel
theorem dX6_worst_83 : decode cX6_worst 83 = .ok (.lload 6, 2) := by decide +kernel
theorem dX6_worst_85 : decode cX6_worst 85 = .ok (.lstore 6, 2) := by decide +kernel
theorem dX6_worst_87 : decode cX6_worst 87 = .ok (.lload 6, 2) := by decide +kernel
theorem dX6_worst_89 : decode cX6_worst 89 = .ok (.lload_n 2, 1) := by decide +kernel
theorem dX6_worst_90 : decode cX6_worst 90 = .ok (.lcmp, 1) := by decide +kernel
theorem dX6_worst_91 : decode cX6_worst 91 = .ok (.ifCond .le 18, 3) := by decide +kernel
theorem dX6_worst_94 : decode cX6_worst 94 = .ok (.bipush 10, 2) := by decide +kernel
theorem dX6_worst_96 : decode cX6_worst 96 = .ok (.iload 4, 2) := by decide +kernel
theorem dX6_worst_98 : decode cX6_worst 98 = .ok (.iconst 3, 1) := by decide +kernel
theorem dX6_worst_99 : decode cX6_worst 99 = .ok (.idiv, 1) := by decide +kernel
theorem dX6_worst_100 : decode cX6_worst 100 = .ok (.imul, 1) := by decide +kernel
theorem dX6_worst_101 : decode cX6_worst 101 = .ok (.iload 4, 2) := by decide +kernel
theorem dX6_worst_103 : decode cX6_worst 103 = .ok (.iconst 3, 1) := by decide +kernel
theorem dX6_worst_104 : decode cX6_worst 104 = .ok (.irem, 1) := by decide +kernel
theorem dX6_worst_105 : decode cX6_worst 105 = .ok (.iadd, 1) := by decide +kernel
theorem dX6_worst_106 : decode cX6_worst 106 = .ok (.goto 4, 3) := by decide +kernel
theorem dX6_worst_109 : decode cX6_worst 109 = .ok (.iload_n 1, 1) := by decide +kernel
theorem dX6_worst_110 : decode cX6_worst 110 = .ok (.istore_n 1, 1) := by decide +kernel
theorem dX6_worst_111 : decode cX6_worst 111 = .ok (.lload 6, 2) := by decide +kernel
theorem dX6_worst_113 : decode cX6_worst 113 = .ok (.lload_n 2, 1) := by decide +kernel
theorem dX6_worst_114 : decode cX6_worst 114 = .ok (.lcmp, 1) := by decide +kernel
theorem dX6_worst_115 : decode cX6_worst 115 = .ok (.ifCond .le 8, 3) := by decide +kernel
theorem dX6_worst_118 : decode cX6_worst 118 = .ok (.lload 6, 2) := by decide +kernel
theorem dX6_worst_120 : decode cX6_worst 120 = .ok (.goto 4, 3) := by decide +kernel
theorem dX6_worst_123 : decode cX6_worst 123 = .ok (.lload_n 2, 1) := by decide +kernel
theorem dX6_worst_124 : decode cX6_worst 124 = .ok (.lstore_n 2, 1) := by decide +kernel
theorem dX6_worst_125 : decode cX6_worst 125 = .ok (.iinc 4 1, 3) := by decide +kernel
theorem dX6_worst_128 : decode cX6_worst 128 = .ok (.goto (-119), 3) := by decide +kernel
theorem dX6_worst_131 : decode cX6_worst 131 = .ok (.iload_n 1, 1) := by decide +kernel
theorem dX6_worst_132 : decode cX6_worst 132 = .ok (.ireturn, 1) := by decide +kernel
set_option maxRecDepth 20000 in
theorem ggX6_weighted_X6_joins : GoodIn wsX6_weighted wsX6_joins := goodIn_r _ [5, 6, 7, 8, 4, 9, 10, 11, 12, 13, 14, 15, 16, 17, 18, 19, 20, 21, 22, 23, 24, 25, 26, 27, 28, 29, 30, 31] (by decide +kernel) (by decide +kernel)
set_option maxRecDepth 20000 in
theorem gX6_weighted_X6_joins : GoodIn wsX6_weighted (wsV RX6 85 RX6 yX6_joins wsX6_joins) := goodIn_app (goodIn_of _ (by decide +kernel)) ggX6_weighted_X6_joins
theorem dX6_weighted_0 : decode cX6_weighted 0 = .ok (.iconst 0, 1) := by decide +kernel
theorem dX6_weighted_1 : decode cX6_weighted 1 = .ok (.istore_n 1, 1) := by decide +kernel
theorem dX6_weighted_2 : decode cX6_weighted 2 = .ok (.iconst 0, 1) := by decide +kernel
theorem dX6_weighted_3 : decode cX6_weighted 3 = .ok (.istore_n 2, 1) := by decide +kernel
theorem dX6_weighted_4 : decode cX6_weighted 4 = .ok (.iload_n 2, 1) := by decide +kernel
theorem dX6_weighted_5 : decode cX6_weighted 5 = .ok (.bipush 9, 2) := by decide +kernel
theorem dX6_weighted_7 : decode cX6_weighted 7 = .ok (.if_icmp .ge 32, 3) := by decide +kernel
theorem dX6_weighted_10 : decode cX6_weighted 10 = .ok (.iload_n 1, 1) := by decide +kernel
theorem dX6_weighted_11 : decode cX6_weighted 11 = .ok (.aload_n 0, 1) := by decide +kernel
theorem dX6_weighted_12 : decode cX6_weighted 12 = .ok (.iload_n 2, 1) := by decide +kernel
theorem dX6_weighted_13 : decode cX6_weighted 13 = .ok (.iconst 3, 1) := by decide +kernel
theorem dX6_weighted_14 : decode cX6_weighted 14 = .ok (.idiv, 1) := by decide +kernel
theorem dX6_weighted_15 : decode cX6_weighted 15 = .ok (.iconst 3, 1) := by decide +kernel
theorem dX6_weighted_16 : decode cX6_weighted 16 = .ok (.iload_n 2, 1) := by decide +kernel
theorem dX6_weighted_17 : decode cX6_weighted 17 = .ok (.iconst 3, 1) := by decide +kernel
theorem dX6_weighted_18 : decode cX6_weighted 18 = .ok (.irem, 1) := by decide +kernel
theorem dX6_weighted_19 : decode cX6_weighted 19 = .ok (.iadd, 1) := by decide +kernel
theorem dX6_weighted_20 : decode cX6_weighted 20 = .ok (.invokevirtual 85, 3) := by decide +kernel
theorem dX6_weighted_23 : decode cX6_weighted 23 = .ok (.ifCond .le 7, 3) := by decide +kernel
theorem dX6_weighted_26 : decode cX6_weighted 26 = .ok (.iconst 1, 1) := by decide +kernel
theorem dX6_weighted_27 : decode cX6_weighted 27 = .ok (.goto 4, 3) := by decide +kernel
theorem dX6_weighted_30 : decode cX6_weighted 30 = .ok (.iconst 0, 1) := by decide +kernel
theorem dX6_weighted_31 : decode cX6_weighted 31 = .ok (.iadd, 1) := by decide +kernel
theorem dX6_weighted_32 : decode cX6_weighted 32 = .ok (.istore_n 1, 1) := by decide +kernel
theorem dX6_weighted_33 : decode cX6_weighted 33 = .ok (.iinc 2 1, 3) := by decide +kernel
theorem dX6_weighted_36 : decode cX6_weighted 36 = .ok (.goto (-32), 3) := by decide +kernel
theorem dX6_weighted_39 : decode cX6_weighted 39 = .ok (.iload_n 1, 1) := by decide +kernel
theorem dX6_weighted_40 : decode cX6_weighted 40 = .ok (.ireturn, 1) := by decide +kernel
set_option maxRecDepth 20000 in
theorem ggX6_openOnes_X6_isThere : GoodIn wsX6_openOnes wsX6_isThere := goodIn_r _ [6, 7, 8, 9, 10, 11, 12, 13, 14, 15, 16, 17, 18, 19, 20, 21, 22, 23, 24] (by decide +kernel) (by decide +kernel)
set_option maxRecDepth 20000 in
theorem gX6_openOnes_X6_isThere : GoodIn wsX6_openOnes (wsV RX6 77 RX6 yX6_isThere wsX6_isThere) := goodIn_app (goodIn_of _ (by decide +kernel)) ggX6_openOnes_X6_isThere
theorem dX6_openOnes_0 : decode cX6_openOnes 0 = .ok (.iconst 0, 1) := by decide +kernel
theorem dX6_openOnes_1 : decode cX6_openOnes 1 = .ok (.istore_n 1, 1) := by decide +kernel
theorem dX6_openOnes_2 : decode cX6_openOnes 2 = .ok (.iconst 0, 1) := by decide +kernel
theorem dX6_openOnes_3 : decode cX6_openOnes 3 = .ok (.istore_n 2, 1) := by decide +kernel
theorem dX6_openOnes_4 : decode cX6_openOnes 4 = .ok (.iload_n 2, 1) := by decide +kernel
theorem dX6_openOnes_5 : decode cX6_openOnes 5 = .ok (.bipush 6, 2) := by decide +kernel
theorem dX6_openOnes_7 : decode cX6_openOnes 7 = .ok (.if_icmp .ge 34, 3) := by decide +kernel
theorem dX6_openOnes_10 : decode cX6_openOnes 10 = .ok (.iload_n 1, 1) := by decide +kernel
theorem dX6_openOnes_11 : decode cX6_openOnes 11 = .ok (.aload_n 0, 1) := by decide +kernel
theorem dX6_openOnes_12 : decode cX6_openOnes 12 = .ok (.iload_n 2, 1) := by decide +kernel
theorem dX6_openOnes_13 : decode cX6_openOnes 13 = .ok (.invokevirtual 77, 3) := by decide +kernel
theorem dX6_openOnes_16 : decode cX6_openOnes 16 = .ok (.ifCond .eq 16, 3) := by decide +kernel
theorem dX6_openOnes_19 : decode cX6_openOnes 19 = .ok (.aload_n 0, 1) := by decide +kernel
theorem dX6_openOnes_20 : decode cX6_openOnes 20 = .ok (.getfield 16, 3) := by decide +kernel
theorem dX6_openOnes_23 : decode cX6_openOnes 23 = .ok (.iload_n 2, 1) := by decide +kernel
theorem dX6_openOnes_24 : decode cX6_openOnes 24 = .ok (.baload, 1) := by decide +kernel
theorem dX6_openOnes_25 : decode cX6_openOnes 25 = .ok (.ifCond .eq 7, 3) := by decide +kernel
theorem dX6_openOnes_28 : decode cX6_openOnes 28 = .ok (.iconst 1, 1) := by decide +kernel
theorem dX6_openOnes_29 : decode cX6_openOnes 29 = .ok (.goto 4, 3) := by decide +kernel
theorem dX6_openOnes_32 : decode cX6_openOnes 32 = .ok (.iconst 0, 1) := by decide +kernel
theorem dX6_openOnes_33 : decode cX6_openOnes 33 = .ok (.iadd, 1) := by decide +kernel
theorem dX6_openOnes_34 : decode cX6_openOnes 34 = .ok (.istore_n 1, 1) := by decide +kernel
theorem dX6_openOnes_35 : decode cX6_openOnes 35 = .ok (.iinc 2 1, 3) := by decide +kernel
theorem dX6_openOnes_38 : decode cX6_openOnes 38 = .ok (.goto (-34), 3) := by decide +kernel
theorem dX6_openOnes_41 : decode cX6_openOnes 41 = .ok (.iload_n 1, 1) := by decide +kernel
theorem dX6_openOnes_42 : decode cX6_openOnes 42 = .ok (.ireturn, 1) := by decide +kernel
set_option maxRecDepth 20000 in
theorem ggX6_restOf_X6_floor : GoodIn wsX6_restOf wsX6_floor := goodIn_r _ [7] (by decide +kernel) (by decide +kernel)
set_option maxRecDepth 20000 in
theorem gX6_restOf_X6_floor : GoodIn wsX6_restOf (va_wsS RX6 127 yX6_floor wsX6_floor) := goodIn_app (goodIn_of _ (by decide +kernel)) ggX6_restOf_X6_floor
theorem dX6_restOf_0 : decode cX6_restOf 0 = .ok (.aload_n 0, 1) := by decide +kernel
theorem dX6_restOf_1 : decode cX6_restOf 1 = .ok (.getfield 20, 3) := by decide +kernel
theorem dX6_restOf_4 : decode cX6_restOf 4 = .ok (.iload_n 1, 1) := by decide +kernel
theorem dX6_restOf_5 : decode cX6_restOf 5 = .ok (.laload, 1) := by decide +kernel
theorem dX6_restOf_6 : decode cX6_restOf 6 = .ok (.aload_n 0, 1) := by decide +kernel
theorem dX6_restOf_7 : decode cX6_restOf 7 = .ok (.getfield 20, 3) := by decide +kernel
theorem dX6_restOf_10 : decode cX6_restOf 10 = .ok (.iload_n 1, 1) := by decide +kernel
theorem dX6_restOf_11 : decode cX6_restOf 11 = .ok (.laload, 1) := by decide +kernel
theorem dX6_restOf_12 : decode cX6_restOf 12 = .ok (.ldc2_w 125, 3) := by decide +kernel
theorem dX6_restOf_15 : decode cX6_restOf 15 = .ok (.aload_n 0, 1) := by decide +kernel
theorem dX6_restOf_16 : decode cX6_restOf 16 = .ok (.getfield 112, 3) := by decide +kernel
theorem dX6_restOf_19 : decode cX6_restOf 19 = .ok (.lmul, 1) := by decide +kernel
theorem dX6_restOf_20 : decode cX6_restOf 20 = .ok (.invokestatic 127, 3) := by decide +kernel
theorem dX6_restOf_23 : decode cX6_restOf 23 = .ok (.ldc2_w 125, 3) := by decide +kernel
theorem dX6_restOf_26 : decode cX6_restOf 26 = .ok (.lmul, 1) := by decide +kernel
theorem dX6_restOf_27 : decode cX6_restOf 27 = .ok (.aload_n 0, 1) := by decide +kernel
theorem dX6_restOf_28 : decode cX6_restOf 28 = .ok (.getfield 112, 3) := by decide +kernel
theorem dX6_restOf_31 : decode cX6_restOf 31 = .ok (.lmul, 1) := by decide +kernel
theorem dX6_restOf_32 : decode cX6_restOf 32 = .ok (.lsub, 1) := by decide +kernel
theorem dX6_restOf_33 : decode cX6_restOf 33 = .ok (.lreturn, 1) := by decide +kernel
set_option maxRecDepth 20000 in
theorem ggX6_layWholes_X6_isThere : GoodIn wsX6_layWholes wsX6_isThere := goodIn_r _ [12, 13, 21, 22, 23, 24, 25, 26, 27, 28, 29, 30, 31, 32, 33, 34, 35, 36, 37] (by decide +kernel) (by decide +kernel)
set_option maxRecDepth 20000 in
theorem gX6_layWholes_X6_isThere : GoodIn wsX6_layWholes (wsV RX6 77 RX6 yX6_isThere wsX6_isThere) := goodIn_app (goodIn_of _ (by decide +kernel)) ggX6_layWholes_X6_isThere
set_option maxRecDepth 20000 in
theorem ggX6_layWholes_X6_floor : GoodIn wsX6_layWholes wsX6_floor := goodIn_r _ [16] (by decide +kernel) (by decide +kernel)
set_option maxRecDepth 20000 in
theorem gX6_layWholes_X6_floor : GoodIn wsX6_layWholes (va_wsS RX6 127 yX6_floor wsX6_floor) := goodIn_app (goodIn_of _ (by decide +kernel)) ggX6_layWholes_X6_floor
set_option maxRecDepth 20000 in
theorem ggX6_layWholes_X6_restOf : GoodIn wsX6_layWholes wsX6_restOf := goodIn_r _ [20, 2, 3, 4, 14, 15, 11, 16, 21, 22, 23, 24, 25, 26, 27, 28, 29, 30, 31, 32, 33, 34, 35, 36, 37] (by decide +kernel) (by decide +kernel)
set_option maxRecDepth 20000 in
theorem gX6_layWholes_X6_restOf : GoodIn wsX6_layWholes (wsV RX6 134 RX6 yX6_restOf wsX6_restOf) := goodIn_app (goodIn_of _ (by decide +kernel)) ggX6_layWholes_X6_restOf
theorem dX6_layWholes_0 : decode cX6_layWholes 0 = .ok (.lconst 0, 1) := by decide +kernel
theorem dX6_layWholes_1 : decode cX6_layWholes 1 = .ok (.lstore_n 1, 1) := by decide +kernel
theorem dX6_layWholes_2 : decode cX6_layWholes 2 = .ok (.lconst 0, 1) := by decide +kernel
theorem dX6_layWholes_3 : decode cX6_layWholes 3 = .ok (.lstore_n 3, 1) := by decide +kernel
theorem dX6_layWholes_4 : decode cX6_layWholes 4 = .ok (.iconst 0, 1) := by decide +kernel
theorem dX6_layWholes_5 : decode cX6_layWholes 5 = .ok (.istore 5, 2) := by decide +kernel
theorem dX6_layWholes_7 : decode cX6_layWholes 7 = .ok (.iload 5, 2) := by decide +kernel
theorem dX6_layWholes_9 : decode cX6_layWholes 9 = .ok (.bipush 6, 2) := by decide +kernel
theorem dX6_layWholes_11 : decode cX6_layWholes 11 = .ok (.if_icmp .ge 75, 3) := by decide +kernel
theorem dX6_layWholes_14 : decode cX6_layWholes 14 = .ok (.aload_n 0, 1) := by decide +kernel
theorem dX6_layWholes_15 : decode cX6_layWholes 15 = .ok (.getfield 33, 3) := by decide +kernel
theorem dX6_layWholes_18 : decode cX6_layWholes 18 = .ok (.iload 5, 2) := by decide +kernel
theorem dX6_layWholes_20 : decode cX6_layWholes 20 = .ok (.aload_n 0, 1) := by decide +kernel
theorem dX6_layWholes_21 : decode cX6_layWholes 21 = .ok (.iload 5, 2) := by decide +kernel
theorem dX6_layWholes_23 : decode cX6_layWholes 23 = .ok (.invokevirtual 77, 3) := by decide +kernel
theorem dX6_layWholes_26 : decode cX6_layWholes 26 = .ok (.ifCond .eq 24, 3) := by decide +kernel
theorem dX6_layWholes_29 : decode cX6_layWholes 29 = .ok (.aload_n 0, 1) := by decide +kernel
theorem dX6_layWholes_30 : decode cX6_layWholes 30 = .ok (.getfield 20, 3) := by decide +kernel
theorem dX6_layWholes_33 : decode cX6_layWholes 33 = .ok (.iload 5, 2) := by decide +kernel
theorem dX6_layWholes_35 : decode cX6_layWholes 35 = .ok (.laload, 1) := by decide +kernel
theorem dX6_layWholes_36 : decode cX6_layWholes 36 = .ok (.ldc2_w 125, 3) := by decide +kernel
theorem dX6_layWholes_39 : decode cX6_layWholes 39 = .ok (.aload_n 0, 1) := by decide +kernel
theorem dX6_layWholes_40 : decode cX6_layWholes 40 = .ok (.getfield 112, 3) := by decide +kernel
theorem dX6_layWholes_43 : decode cX6_layWholes 43 = .ok (.lmul, 1) := by decide +kernel
theorem dX6_layWholes_44 : decode cX6_layWholes 44 = .ok (.invokestatic 127, 3) := by decide +kernel
theorem dX6_layWholes_47 : decode cX6_layWholes 47 = .ok (.goto 4, 3) := by decide +kernel
theorem dX6_layWholes_50 : decode cX6_layWholes 50 = .ok (.lconst 0, 1) := by decide +kernel
theorem dX6_layWholes_51 : decode cX6_layWholes 51 = .ok (.lastore, 1) := by decide +kernel
theorem dX6_layWholes_52 : decode cX6_layWholes 52 = .ok (.aload_n 0, 1) := by decide +kernel
theorem dX6_layWholes_53 : decode cX6_layWholes 53 = .ok (.getfield 36, 3) := by decide +kernel
theorem dX6_layWholes_56 : decode cX6_layWholes 56 = .ok (.iload 5, 2) := by decide +kernel
theorem dX6_layWholes_58 : decode cX6_layWholes 58 = .ok (.iconst 0, 1) := by decide +kernel
theorem dX6_layWholes_59 : decode cX6_layWholes 59 = .ok (.bastore, 1) := by decide +kernel
theorem dX6_layWholes_60 : decode cX6_layWholes 60 = .ok (.lload_n 1, 1) := by decide +kernel
theorem dX6_layWholes_61 : decode cX6_layWholes 61 = .ok (.aload_n 0, 1) := by decide +kernel
theorem dX6_layWholes_62 : decode cX6_layWholes 62 = .ok (.getfield 20, 3) := by decide +kernel
theorem dX6_layWholes_65 : decode cX6_layWholes 65 = .ok (.iload 5, 2) := by decide +kernel
theorem dX6_layWholes_67 : decode cX6_layWholes 67 = .ok (.laload, 1) := by decide +kernel
theorem dX6_layWholes_68 : decode cX6_layWholes 68 = .ok (.ladd, 1) := by decide +kernel
theorem dX6_layWholes_69 : decode cX6_layWholes 69 = .ok (.lstore_n 1, 1) := by decide +kernel
theorem dX6_layWholes_70 : decode cX6_layWholes 70 = .ok (.lload_n 3, 1) := by decide +kernel
theorem dX6_layWholes_71 : decode cX6_layWholes 71 = .ok (.aload_n 0, 1) := by decide +kernel
theorem dX6_layWholes_72 : decode cX6_layWholes 72 = .ok (.getfield 33, 3) := by decide +kernel
theorem dX6_layWholes_75 : decode cX6_layWholes 75 = .ok (.iload 5, 2) := by decide +kernel
theorem dX6_layWholes_77 : decode cX6_layWholes 77 = .ok (.laload, 1) := by decide +kernel
theorem dX6_layWholes_78 : decode cX6_layWholes 78 = .ok (.lsub, 1) := by decide +kernel
theorem dX6_layWholes_79 : decode cX6_layWholes 79 = .ok (.lstore_n 3, 1) := by decide +kernel
theorem dX6_layWholes_80 : decode cX6_layWholes 80 = .ok (.iinc 5 1, 3) := by decide +kernel
theorem dX6_layWholes_83 : decode cX6_layWholes 83 = .ok (.goto (-76), 3) := by decide +kernel
theorem dX6_layWholes_86 : decode cX6_layWholes 86 = .ok (.lload_n 3, 1) := by decide +kernel
theorem dX6_layWholes_87 : decode cX6_layWholes 87 = .ok (.ldc2_w 130, 3) := by decide +kernel
theorem dX6_layWholes_90 : decode cX6_layWholes 90 = .ok (.lload_n 1, 1) := by decide +kernel
theorem dX6_layWholes_91 : decode cX6_layWholes 91 = .ok (.lmul, 1) := by decide +kernel
theorem dX6_layWholes_92 : decode cX6_layWholes 92 = .ok (.ldc2_w 125, 3) := by decide +kernel
theorem dX6_layWholes_95 : decode cX6_layWholes 95 = .ok (.aload_n 0, 1) := by decide +kernel
theorem dX6_layWholes_96 : decode cX6_layWholes 96 = .ok (.getfield 112, 3) := by decide +kernel
theorem dX6_layWholes_99 : decode cX6_layWholes 99 = .ok (.lmul, 1) := by decide +kernel
theorem dX6_layWholes_100 : decode cX6_layWholes 100 = .ok (.ladd, 1) := by decide +kernel
theorem dX6_layWholes_101 : decode cX6_layWholes 101 = .ok (.ldc2_w 132, 3) := by decide +kernel
theorem dX6_layWholes_104 : decode cX6_layWholes 104 = .ok (.aload_n 0, 1) := by decide +kernel
theorem dX6_layWholes_105 : decode cX6_layWholes 105 = .ok (.getfield 112, 3) := by decide +kernel
theorem dX6_layWholes_108 : decode cX6_layWholes 108 = .ok (.lmul, 1) := by decide +kernel
theorem dX6_layWholes_109 : decode cX6_layWholes 109 = .ok (.invokestatic 127, 3) := by decide +kernel
theorem dX6_layWholes_112 : decode cX6_layWholes 112 = .ok (.ladd, 1) := by decide +kernel
theorem dX6_layWholes_113 : decode cX6_layWholes 113 = .ok (.lstore_n 3, 1) := by decide +kernel
theorem dX6_layWholes_114 : decode cX6_layWholes 114 = .ok (.lload_n 3, 1) := by decide +kernel
theorem dX6_layWholes_115 : decode cX6_layWholes 115 = .ok (.lconst 0, 1) := by decide +kernel
theorem dX6_layWholes_116 : decode cX6_layWholes 116 = .ok (.lcmp, 1) := by decide +kernel
theorem dX6_layWholes_117 : decode cX6_layWholes 117 = .ok (.ifCond .le 109, 3) := by decide +kernel
theorem dX6_layWholes_120 : decode cX6_layWholes 120 = .ok (.iconst (-1), 1) := by decide +kernel
theorem dX6_layWholes_121 : decode cX6_layWholes 121 = .ok (.istore 5, 2) := by decide +kernel
theorem dX6_layWholes_123 : decode cX6_layWholes 123 = .ok (.iconst 0, 1) := by decide +kernel
theorem dX6_layWholes_124 : decode cX6_layWholes 124 = .ok (.istore 6, 2) := by decide +kernel
theorem dX6_layWholes_126 : decode cX6_layWholes 126 = .ok (.iload 6, 2) := by decide +kernel
theorem dX6_layWholes_128 : decode cX6_layWholes 128 = .ok (.bipush 6, 2) := by decide +kernel
theorem dX6_layWholes_130 : decode cX6_layWholes 130 = .ok (.if_icmp .ge 70, 3) := by decide +kernel
theorem dX6_layWholes_133 : decode cX6_layWholes 133 = .ok (.aload_n 0, 1) := by decide +kernel
theorem dX6_layWholes_134 : decode cX6_layWholes 134 = .ok (.iload 6, 2) := by decide +kernel
theorem dX6_layWholes_136 : decode cX6_layWholes 136 = .ok (.invokevirtual 77, 3) := by decide +kernel
theorem dX6_layWholes_139 : decode cX6_layWholes 139 = .ok (.ifCond .eq 17, 3) := by decide +kernel
theorem dX6_layWholes_142 : decode cX6_layWholes 142 = .ok (.aload_n 0, 1) := by decide +kernel
theorem dX6_layWholes_143 : decode cX6_layWholes 143 = .ok (.getfield 36, 3) := by decide +kernel
theorem dX6_layWholes_146 : decode cX6_layWholes 146 = .ok (.iload 6, 2) := by decide +kernel
theorem dX6_layWholes_148 : decode cX6_layWholes 148 = .ok (.baload, 1) := by decide +kernel
theorem dX6_layWholes_149 : decode cX6_layWholes 149 = .ok (.ifCond .ne 7, 3) := by decide +kernel
theorem dX6_layWholes_152 : decode cX6_layWholes 152 = .ok (.iconst 1, 1) := by decide +kernel
theorem dX6_layWholes_153 : decode cX6_layWholes 153 = .ok (.goto 4, 3) := by decide +kernel
theorem dX6_layWholes_156 : decode cX6_layWholes 156 = .ok (.iconst 0, 1) := by decide +kernel
theorem dX6_layWholes_157 : decode cX6_layWholes 157 = .ok (.istore 7, 2) := by decide +kernel
theorem dX6_layWholes_159 : decode cX6_layWholes 159 = .ok (.iload 7, 2) := by decide +kernel
theorem dX6_layWholes_161 : decode cX6_layWholes 161 = .ok (.ifCond .eq 29, 3) := by decide +kernel
theorem dX6_layWholes_164 : decode cX6_layWholes 164 = .ok (.iload 5, 2) := by decide +kernel
theorem dX6_layWholes_166 : decode cX6_layWholes 166 = .ok (.ifCond .lt 19, 3) := by decide +kernel
theorem dX6_layWholes_169 : decode cX6_layWholes 169 = .ok (.aload_n 0, 1) := by decide +kernel
theorem dX6_layWholes_170 : decode cX6_layWholes 170 = .ok (.iload 6, 2) := by decide +kernel
theorem dX6_layWholes_172 : decode cX6_layWholes 172 = .ok (.invokevirtual 134, 3) := by decide +kernel
theorem dX6_layWholes_175 : decode cX6_layWholes 175 = .ok (.aload_n 0, 1) := by decide +kernel
theorem dX6_layWholes_176 : decode cX6_layWholes 176 = .ok (.iload 5, 2) := by decide +kernel
theorem dX6_layWholes_178 : decode cX6_layWholes 178 = .ok (.invokevirtual 134, 3) := by decide +kernel
theorem dX6_layWholes_181 : decode cX6_layWholes 181 = .ok (.lcmp, 1) := by decide +kernel
theorem dX6_layWholes_182 : decode cX6_layWholes 182 = .ok (.ifCond .le 8, 3) := by decide +kernel
theorem dX6_layWholes_185 : decode cX6_layWholes 185 = .ok (.iload 6, 2) := by decide +kernel
theorem dX6_layWholes_187 : decode cX6_layWholes 187 = .ok (.goto 5, 3) := by decide +kernel
theorem dX6_layWholes_190 : decode cX6_layWholes 190 = .ok (.iload 5, 2) := by decide +kernel
theorem dX6_layWholes_192 : decode cX6_layWholes 192 = .ok (.istore 5, 2) := by decide +kernel
theorem dX6_layWholes_194 : decode cX6_layWholes 194 = .ok (.iinc 6 1, 3) := by decide +kernel
theorem dX6_layWholes_197 : decode cX6_layWholes 197 = .ok (.goto (-71), 3) := by decide +kernel
theorem dX6_layWholes_200 : decode cX6_layWholes 200 = .ok (.aload_n 0, 1) := by decide +kernel
theorem dX6_layWholes_201 : decode cX6_layWholes 201 = .ok (.getfield 36, 3) := by decide +kernel
theorem dX6_layWholes_204 : decode cX6_layWholes 204 = .ok (.iload 5, 2) := by decide +kernel
theorem dX6_layWholes_206 : decode cX6_layWholes 206 = .ok (.iconst 1, 1) := by decide +kernel
theorem dX6_layWholes_207 : decode cX6_layWholes 207 = .ok (.bastore, 1) := by decide +kernel
theorem dX6_layWholes_208 : decode cX6_layWholes 208 = .ok (.aload_n 0, 1) := by decide +kernel
theorem dX6_layWholes_209 : decode cX6_layWholes 209 = .ok (.getfield 33, 3) := by decide +kernel
theorem dX6_layWholes_212 : decode cX6_layWholes 212 = .ok (.iload 5, 2) := by decide +kernel
theorem dX6_layWholes_214 : decode cX6_layWholes 214 = .ok (.dup2, 1) := by decide +kernel
theorem dX6_layWholes_215 : decode cX6_layWholes 215 = .ok (.laload, 1) := by decide +kernel
theorem dX6_layWholes_216 : decode cX6_layWholes 216 = .ok (.lconst 1, 1) := by decide +kernel
theorem dX6_layWholes_217 : decode cX6_layWholes 217 = .ok (.ladd, 1) := by decide +kernel
theorem dX6_layWholes_218 : decode cX6_layWholes 218 = .ok (.lastore, 1) := by decide +kernel
theorem dX6_layWholes_219 : decode cX6_layWholes 219 = .ok (.lload_n 3, 1) := by decide +kernel
theorem dX6_layWholes_220 : decode cX6_layWholes 220 = .ok (.lconst 1, 1) := by decide +kernel
theorem dX6_layWholes_221 : decode cX6_layWholes 221 = .ok (.lsub, 1) := by decide +kernel
theorem dX6_layWholes_222 : decode cX6_layWholes 222 = .ok (.lstore_n 3, 1) := by decide +kernel
theorem dX6_layWholes_223 : decode cX6_layWholes 223 = .ok (.goto (-109), 3) := by decide +kernel
theorem dX6_layWholes_226 : decode cX6_layWholes 226 = .ok (.return_, 1) := by decide +kernel
theorem dX6_wide_0 : decode cX6_wide 0 = .ok (.lconst 0, 1) := by decide +kernel
theorem dX6_wide_1 : decode cX6_wide 1 = .ok (.lstore_n 1, 1) := by decide +kernel
theorem dX6_wide_2 : decode cX6_wide 2 = .ok (.iconst 0, 1) := by decide +kernel
theorem dX6_wide_3 : decode cX6_wide 3 = .ok (.istore_n 3, 1) := by decide +kernel
theorem dX6_wide_4 : decode cX6_wide 4 = .ok (.iload_n 3, 1) := by decide +kernel
theorem dX6_wide_5 : decode cX6_wide 5 = .ok (.aload_n 0, 1) := by decide +kernel
theorem dX6_wide_6 : decode cX6_wide 6 = .ok (.getfield 51, 3) := by decide +kernel
theorem dX6_wide_9 : decode cX6_wide 9 = .ok (.if_icmp .ge 84, 3) := by decide +kernel
theorem dX6_wide_12 : decode cX6_wide 12 = .ok (.aload_n 0, 1) := by decide +kernel
theorem dX6_wide_13 : decode cX6_wide 13 = .ok (.getfield 13, 3) := by decide +kernel
theorem dX6_wide_16 : decode cX6_wide 16 = .ok (.iload_n 3, 1) := by decide +kernel
theorem dX6_wide_17 : decode cX6_wide 17 = .ok (.iaload, 1) := by decide +kernel
theorem dX6_wide_18 : decode cX6_wide 18 = .ok (.istore 4, 2) := by decide +kernel
theorem dX6_wide_20 : decode cX6_wide 20 = .ok (.lload_n 1, 1) := by decide +kernel
theorem dX6_wide_21 : decode cX6_wide 21 = .ok (.ldc2_w 125, 3) := by decide +kernel
theorem dX6_wide_24 : decode cX6_wide 24 = .ok (.aload_n 0, 1) := by decide +kernel
theorem dX6_wide_25 : decode cX6_wide 25 = .ok (.getfield 112, 3) := by decide +kernel
theorem dX6_wide_28 : decode cX6_wide 28 = .ok (.lmul, 1) := by decide +kernel
theorem dX6_wide_29 : decode cX6_wide 29 = .ok (.aload_n 0, 1) := by decide +kernel
theorem dX6_wide_30 : decode cX6_wide 30 = .ok (.getfield 7, 3) := by decide +kernel
theorem dX6_wide_33 : decode cX6_wide 33 = .ok (.bipush 48, 2) := by decide +kernel
theorem dX6_wide_35 : decode cX6_wide 35 = .ok (.iload 4, 2) := by decide +kernel
theorem dX6_wide_37 : decode cX6_wide 37 = .ok (.iadd, 1) := by decide +kernel
theorem dX6_wide_38 : decode cX6_wide 38 = .ok (.iaload, 1) := by decide +kernel
theorem dX6_wide_39 : decode cX6_wide 39 = .ok (.i2l, 1) := by decide +kernel
theorem dX6_wide_40 : decode cX6_wide 40 = .ok (.lmul, 1) := by decide +kernel
theorem dX6_wide_41 : decode cX6_wide 41 = .ok (.ladd, 1) := by decide +kernel
theorem dX6_wide_42 : decode cX6_wide 42 = .ok (.lstore_n 1, 1) := by decide +kernel
theorem dX6_wide_43 : decode cX6_wide 43 = .ok (.lload_n 1, 1) := by decide +kernel
theorem dX6_wide_44 : decode cX6_wide 44 = .ok (.iload_n 3, 1) := by decide +kernel
theorem dX6_wide_45 : decode cX6_wide 45 = .ok (.ifCond .le 15, 3) := by decide +kernel
theorem dX6_wide_48 : decode cX6_wide 48 = .ok (.aload_n 0, 1) := by decide +kernel
theorem dX6_wide_49 : decode cX6_wide 49 = .ok (.getfield 20, 3) := by decide +kernel
theorem dX6_wide_52 : decode cX6_wide 52 = .ok (.iconst 3, 1) := by decide +kernel
theorem dX6_wide_53 : decode cX6_wide 53 = .ok (.iload 4, 2) := by decide +kernel
theorem dX6_wide_55 : decode cX6_wide 55 = .ok (.iadd, 1) := by decide +kernel
theorem dX6_wide_56 : decode cX6_wide 56 = .ok (.laload, 1) := by decide +kernel
theorem dX6_wide_57 : decode cX6_wide 57 = .ok (.goto 4, 3) := by decide +kernel
theorem dX6_wide_60 : decode cX6_wide 60 = .ok (.lconst 0, 1) := by decide +kernel
theorem dX6_wide_61 : decode cX6_wide 61 = .ok (.ladd, 1) := by decide +kernel
theorem dX6_wide_62 : decode cX6_wide 62 = .ok (.lstore_n 1, 1) := by decide +kernel
theorem dX6_wide_63 : decode cX6_wide 63 = .ok (.lload_n 1, 1) := by decide +kernel
theorem dX6_wide_64 : decode cX6_wide 64 = .ok (.iload_n 3, 1) := by decide +kernel
theorem dX6_wide_65 : decode cX6_wide 65 = .ok (.iconst 1, 1) := by decide +kernel
theorem dX6_wide_66 : decode cX6_wide 66 = .ok (.iadd, 1) := by decide +kernel
theorem dX6_wide_67 : decode cX6_wide 67 = .ok (.aload_n 0, 1) := by decide +kernel
theorem dX6_wide_68 : decode cX6_wide 68 = .ok (.getfield 51, 3) := by decide +kernel
theorem dX6_wide_71 : decode cX6_wide 71 = .ok (.if_icmp .ge 13, 3) := by decide +kernel
theorem dX6_wide_74 : decode cX6_wide 74 = .ok (.aload_n 0, 1) := by decide +kernel
theorem dX6_wide_75 : decode cX6_wide 75 = .ok (.getfield 20, 3) := by decide +kernel
theorem dX6_wide_78 : decode cX6_wide 78 = .ok (.iload 4, 2) := by decide +kernel
theorem dX6_wide_80 : decode cX6_wide 80 = .ok (.laload, 1) := by decide +kernel
theorem dX6_wide_81 : decode cX6_wide 81 = .ok (.goto 4, 3) := by decide +kernel
theorem dX6_wide_84 : decode cX6_wide 84 = .ok (.lconst 0, 1) := by decide +kernel
theorem dX6_wide_85 : decode cX6_wide 85 = .ok (.ladd, 1) := by decide +kernel
theorem dX6_wide_86 : decode cX6_wide 86 = .ok (.lstore_n 1, 1) := by decide +kernel
theorem dX6_wide_87 : decode cX6_wide 87 = .ok (.iinc 3 1, 3) := by decide +kernel
theorem dX6_wide_90 : decode cX6_wide 90 = .ok (.goto (-86), 3) := by decide +kernel
theorem dX6_wide_93 : decode cX6_wide 93 = .ok (.lload_n 1, 1) := by decide +kernel
theorem dX6_wide_94 : decode cX6_wide 94 = .ok (.lreturn, 1) := by decide +kernel
set_option maxRecDepth 20000 in
theorem ggX6_thin_X6_whiteOf : GoodIn wsX6_thin wsX6_whiteOf := goodIn_r _ [7, 8, 9, 10, 11, 12, 6, 13, 14, 15, 16, 17, 18, 19, 20, 21, 22, 23, 24, 25, 26, 27, 28, 29, 30, 31, 32, 33, 34] (by decide +kernel) (by decide +kernel)
set_option maxRecDepth 20000 in
theorem gX6_thin_X6_whiteOf : GoodIn wsX6_thin (wsV RX6 116 RX6 yX6_whiteOf wsX6_whiteOf) := goodIn_app (goodIn_of _ (by decide +kernel)) ggX6_thin_X6_whiteOf
theorem dX6_thin_0 : decode cX6_thin 0 = .ok (.iconst (-1), 1) := by decide +kernel
theorem dX6_thin_1 : decode cX6_thin 1 = .ok (.istore_n 1, 1) := by decide +kernel
theorem dX6_thin_2 : decode cX6_thin 2 = .ok (.iconst 0, 1) := by decide +kernel
theorem dX6_thin_3 : decode cX6_thin 3 = .ok (.istore_n 2, 1) := by decide +kernel
theorem dX6_thin_4 : decode cX6_thin 4 = .ok (.iload_n 2, 1) := by decide +kernel
theorem dX6_thin_5 : decode cX6_thin 5 = .ok (.iconst 1, 1) := by decide +kernel
theorem dX6_thin_6 : decode cX6_thin 6 = .ok (.iadd, 1) := by decide +kernel
theorem dX6_thin_7 : decode cX6_thin 7 = .ok (.aload_n 0, 1) := by decide +kernel
theorem dX6_thin_8 : decode cX6_thin 8 = .ok (.getfield 51, 3) := by decide +kernel
theorem dX6_thin_11 : decode cX6_thin 11 = .ok (.if_icmp .ge 69, 3) := by decide +kernel
theorem dX6_thin_14 : decode cX6_thin 14 = .ok (.iload_n 1, 1) := by decide +kernel
theorem dX6_thin_15 : decode cX6_thin 15 = .ok (.ifCond .lt 43, 3) := by decide +kernel
theorem dX6_thin_18 : decode cX6_thin 18 = .ok (.aload_n 0, 1) := by decide +kernel
theorem dX6_thin_19 : decode cX6_thin 19 = .ok (.aload_n 0, 1) := by decide +kernel
theorem dX6_thin_20 : decode cX6_thin 20 = .ok (.getfield 13, 3) := by decide +kernel
theorem dX6_thin_23 : decode cX6_thin 23 = .ok (.iload_n 2, 1) := by decide +kernel
theorem dX6_thin_24 : decode cX6_thin 24 = .ok (.iaload, 1) := by decide +kernel
theorem dX6_thin_25 : decode cX6_thin 25 = .ok (.aload_n 0, 1) := by decide +kernel
theorem dX6_thin_26 : decode cX6_thin 26 = .ok (.getfield 13, 3) := by decide +kernel
theorem dX6_thin_29 : decode cX6_thin 29 = .ok (.iload_n 2, 1) := by decide +kernel
theorem dX6_thin_30 : decode cX6_thin 30 = .ok (.iconst 1, 1) := by decide +kernel
theorem dX6_thin_31 : decode cX6_thin 31 = .ok (.iadd, 1) := by decide +kernel
theorem dX6_thin_32 : decode cX6_thin 32 = .ok (.iaload, 1) := by decide +kernel
theorem dX6_thin_33 : decode cX6_thin 33 = .ok (.invokevirtual 116, 3) := by decide +kernel
theorem dX6_thin_36 : decode cX6_thin 36 = .ok (.aload_n 0, 1) := by decide +kernel
theorem dX6_thin_37 : decode cX6_thin 37 = .ok (.aload_n 0, 1) := by decide +kernel
theorem dX6_thin_38 : decode cX6_thin 38 = .ok (.getfield 13, 3) := by decide +kernel
theorem dX6_thin_41 : decode cX6_thin 41 = .ok (.iload_n 1, 1) := by decide +kernel
theorem dX6_thin_42 : decode cX6_thin 42 = .ok (.iaload, 1) := by decide +kernel
theorem dX6_thin_43 : decode cX6_thin 43 = .ok (.aload_n 0, 1) := by decide +kernel
theorem dX6_thin_44 : decode cX6_thin 44 = .ok (.getfield 13, 3) := by decide +kernel
theorem dX6_thin_47 : decode cX6_thin 47 = .ok (.iload_n 1, 1) := by decide +kernel
theorem dX6_thin_48 : decode cX6_thin 48 = .ok (.iconst 1, 1) := by decide +kernel
theorem dX6_thin_49 : decode cX6_thin 49 = .ok (.iadd, 1) := by decide +kernel
theorem dX6_thin_50 : decode cX6_thin 50 = .ok (.iaload, 1) := by decide +kernel
theorem dX6_thin_51 : decode cX6_thin 51 = .ok (.invokevirtual 116, 3) := by decide +kernel
theorem dX6_thin_54 : decode cX6_thin 54 = .ok (.lcmp, 1) := by decide +kernel
theorem dX6_thin_55 : decode cX6_thin 55 = .ok (.ifCond .ge 7, 3) := by decide +kernel
theorem dX6_thin_58 : decode cX6_thin 58 = .ok (.iconst 1, 1) := by decide +kernel
theorem dX6_thin_59 : decode cX6_thin 59 = .ok (.goto 4, 3) := by decide +kernel
theorem dX6_thin_62 : decode cX6_thin 62 = .ok (.iconst 0, 1) := by decide +kernel
theorem dX6_thin_63 : decode cX6_thin 63 = .ok (.istore_n 3, 1) := by decide +kernel
theorem dX6_thin_64 : decode cX6_thin 64 = .ok (.iload_n 3, 1) := by decide +kernel
theorem dX6_thin_65 : decode cX6_thin 65 = .ok (.ifCond .eq 7, 3) := by decide +kernel
theorem dX6_thin_68 : decode cX6_thin 68 = .ok (.iload_n 2, 1) := by decide +kernel
theorem dX6_thin_69 : decode cX6_thin 69 = .ok (.goto 4, 3) := by decide +kernel
theorem dX6_thin_72 : decode cX6_thin 72 = .ok (.iload_n 1, 1) := by decide +kernel
theorem dX6_thin_73 : decode cX6_thin 73 = .ok (.istore_n 1, 1) := by decide +kernel
theorem dX6_thin_74 : decode cX6_thin 74 = .ok (.iinc 2 1, 3) := by decide +kernel
theorem dX6_thin_77 : decode cX6_thin 77 = .ok (.goto (-73), 3) := by decide +kernel
theorem dX6_thin_80 : decode cX6_thin 80 = .ok (.iload_n 1, 1) := by decide +kernel
theorem dX6_thin_81 : decode cX6_thin 81 = .ok (.ireturn, 1) := by decide +kernel
theorem dX6_write_0 : decode cX6_write 0 = .ok (.aload_n 0, 1) := by decide +kernel
theorem dX6_write_1 : decode cX6_write 1 = .ok (.getfield 39, 3) := by decide +kernel
theorem dX6_write_4 : decode cX6_write 4 = .ok (.aload_n 0, 1) := by decide +kernel
theorem dX6_write_5 : decode cX6_write 5 = .ok (.getfield 137, 3) := by decide +kernel
theorem dX6_write_8 : decode cX6_write 8 = .ok (.iload_n 1, 1) := by decide +kernel
theorem dX6_write_9 : decode cX6_write 9 = .ok (.iastore, 1) := by decide +kernel
theorem dX6_write_10 : decode cX6_write 10 = .ok (.aload_n 0, 1) := by decide +kernel
theorem dX6_write_11 : decode cX6_write 11 = .ok (.dup, 1) := by decide +kernel
theorem dX6_write_12 : decode cX6_write 12 = .ok (.getfield 137, 3) := by decide +kernel
theorem dX6_write_15 : decode cX6_write 15 = .ok (.iconst 1, 1) := by decide +kernel
theorem dX6_write_16 : decode cX6_write 16 = .ok (.iadd, 1) := by decide +kernel
theorem dX6_write_17 : decode cX6_write 17 = .ok (.putfield 137, 3) := by decide +kernel
theorem dX6_write_20 : decode cX6_write 20 = .ok (.return_, 1) := by decide +kernel
set_option maxRecDepth 20000 in
theorem ggX6_writeNumber_X6_write : GoodIn wsX6_writeNumber wsX6_write := goodIn_r _ [7, 8, 9, 10, 11, 12, 13, 14, 15, 16, 17, 18, 19, 20, 21, 22, 23, 24, 25, 26] (by decide +kernel) (by decide +kernel)
set_option maxRecDepth 20000 in
theorem gX6_writeNumber_X6_write : GoodIn wsX6_writeNumber (wsV RX6 140 RX6 yX6_write wsX6_write) := goodIn_app (goodIn_of _ (by decide +kernel)) ggX6_writeNumber_X6_write
theorem dX6_writeNumber_0 : decode cX6_writeNumber 0 = .ok (.lload_n 1, 1) := by decide +kernel
theorem dX6_writeNumber_1 : decode cX6_writeNumber 1 = .ok (.lconst 0, 1) := by decide +kernel
theorem dX6_writeNumber_2 : decode cX6_writeNumber 2 = .ok (.lcmp, 1) := by decide +kernel
theorem dX6_writeNumber_3 : decode cX6_writeNumber 3 = .ok (.ifCond .ge 9, 3) := by decide +kernel
theorem dX6_writeNumber_6 : decode cX6_writeNumber 6 = .ok (.aload_n 0, 1) := by decide +kernel
theorem dX6_writeNumber_7 : decode cX6_writeNumber 7 = .ok (.bipush 45, 2) := by decide +kernel
theorem dX6_writeNumber_9 : decode cX6_writeNumber 9 = .ok (.invokevirtual 140, 3) := by decide +kernel
theorem dX6_writeNumber_12 : decode cX6_writeNumber 12 = .ok (.lload_n 1, 1) := by decide +kernel
theorem dX6_writeNumber_13 : decode cX6_writeNumber 13 = .ok (.lconst 0, 1) := by decide +kernel
theorem dX6_writeNumber_14 : decode cX6_writeNumber 14 = .ok (.lcmp, 1) := by decide +kernel
theorem dX6_writeNumber_15 : decode cX6_writeNumber 15 = .ok (.ifCond .ge 8, 3) := by decide +kernel
theorem dX6_writeNumber_18 : decode cX6_writeNumber 18 = .ok (.lload_n 1, 1) := by decide +kernel
theorem dX6_writeNumber_19 : decode cX6_writeNumber 19 = .ok (.lneg, 1) := by decide +kernel
theorem dX6_writeNumber_20 : decode cX6_writeNumber 20 = .ok (.goto 4, 3) := by decide +kernel
theorem dX6_writeNumber_23 : decode cX6_writeNumber 23 = .ok (.lload_n 1, 1) := by decide +kernel
theorem dX6_writeNumber_24 : decode cX6_writeNumber 24 = .ok (.lstore_n 3, 1) := by decide +kernel
theorem dX6_writeNumber_25 : decode cX6_writeNumber 25 = .ok (.lconst 1, 1) := by decide +kernel
theorem dX6_writeNumber_26 : decode cX6_writeNumber 26 = .ok (.lstore 5, 2) := by decide +kernel
theorem dX6_writeNumber_28 : decode cX6_writeNumber 28 = .ok (.lload_n 3, 1) := by decide +kernel
theorem dX6_writeNumber_29 : decode cX6_writeNumber 29 = .ok (.lload 5, 2) := by decide +kernel
theorem dX6_writeNumber_31 : decode cX6_writeNumber 31 = .ok (.ldiv, 1) := by decide +kernel
theorem dX6_writeNumber_32 : decode cX6_writeNumber 32 = .ok (.ldc2_w 143, 3) := by decide +kernel
theorem dX6_writeNumber_35 : decode cX6_writeNumber 35 = .ok (.lcmp, 1) := by decide +kernel
theorem dX6_writeNumber_36 : decode cX6_writeNumber 36 = .ok (.ifCond .le 14, 3) := by decide +kernel
theorem dX6_writeNumber_39 : decode cX6_writeNumber 39 = .ok (.lload 5, 2) := by decide +kernel
theorem dX6_writeNumber_41 : decode cX6_writeNumber 41 = .ok (.ldc2_w 145, 3) := by decide +kernel
theorem dX6_writeNumber_44 : decode cX6_writeNumber 44 = .ok (.lmul, 1) := by decide +kernel
theorem dX6_writeNumber_45 : decode cX6_writeNumber 45 = .ok (.lstore 5, 2) := by decide +kernel
theorem dX6_writeNumber_47 : decode cX6_writeNumber 47 = .ok (.goto (-19), 3) := by decide +kernel
theorem dX6_writeNumber_50 : decode cX6_writeNumber 50 = .ok (.lload 5, 2) := by decide +kernel
theorem dX6_writeNumber_52 : decode cX6_writeNumber 52 = .ok (.lconst 0, 1) := by decide +kernel
theorem dX6_writeNumber_53 : decode cX6_writeNumber 53 = .ok (.lcmp, 1) := by decide +kernel
theorem dX6_writeNumber_54 : decode cX6_writeNumber 54 = .ok (.ifCond .le 30, 3) := by decide +kernel
theorem dX6_writeNumber_57 : decode cX6_writeNumber 57 = .ok (.aload_n 0, 1) := by decide +kernel
theorem dX6_writeNumber_58 : decode cX6_writeNumber 58 = .ok (.bipush 48, 2) := by decide +kernel
theorem dX6_writeNumber_60 : decode cX6_writeNumber 60 = .ok (.lload_n 3, 1) := by decide +kernel
theorem dX6_writeNumber_61 : decode cX6_writeNumber 61 = .ok (.lload 5, 2) := by decide +kernel
theorem dX6_writeNumber_63 : decode cX6_writeNumber 63 = .ok (.ldiv, 1) := by decide +kernel
theorem dX6_writeNumber_64 : decode cX6_writeNumber 64 = .ok (.ldc2_w 145, 3) := by decide +kernel
theorem dX6_writeNumber_67 : decode cX6_writeNumber 67 = .ok (.lrem, 1) := by decide +kernel
theorem dX6_writeNumber_68 : decode cX6_writeNumber 68 = .ok (.l2i, 1) := by decide +kernel
theorem dX6_writeNumber_69 : decode cX6_writeNumber 69 = .ok (.iadd, 1) := by decide +kernel
theorem dX6_writeNumber_70 : decode cX6_writeNumber 70 = .ok (.invokevirtual 140, 3) := by decide +kernel
theorem dX6_writeNumber_73 : decode cX6_writeNumber 73 = .ok (.lload 5, 2) := by decide +kernel
theorem dX6_writeNumber_75 : decode cX6_writeNumber 75 = .ok (.ldc2_w 145, 3) := by decide +kernel
theorem dX6_writeNumber_78 : decode cX6_writeNumber 78 = .ok (.ldiv, 1) := by decide +kernel
theorem dX6_writeNumber_79 : decode cX6_writeNumber 79 = .ok (.lstore 5, 2) := by decide +kernel
theorem dX6_writeNumber_81 : decode cX6_writeNumber 81 = .ok (.goto (-31), 3) := by decide +kernel
theorem dX6_writeNumber_84 : decode cX6_writeNumber 84 = .ok (.return_, 1) := by decide +kernel
set_option maxRecDepth 20000 in
theorem ggX6_writeLine_X6_solve : GoodIn wsX6_writeLine wsX6_solve := goodIn_r _ [10, 11, 5, 12, 13, 14, 15, 16, 9, 17, 18, 19, 20, 21, 22, 23, 24, 25, 26, 27, 28, 29, 30, 31, 32, 33, 34, 35, 36, 37, 38, 39, 40, 41, 42, 43, 44, 45, 46, 47, 48, 49, 50, 51, 52, 53, 54, 55, 56, 57, 58, 59, 92, 93, 94, 95, 96, 97, 98, 99, 100, 101, 102, 103, 104, 105, 106, 107, 108] (by decide +kernel) (by decide +kernel)
set_option maxRecDepth 20000 in
theorem gX6_writeLine_X6_solve : GoodIn wsX6_writeLine (wsV RX6 147 RX6 yX6_solve wsX6_solve) := goodIn_app (goodIn_of _ (by decide +kernel)) ggX6_writeLine_X6_solve
set_option maxRecDepth 20000 in
theorem ggX6_writeLine_X6_write : GoodIn wsX6_writeLine wsX6_write := goodIn_r _ [63, 64, 1, 92, 93, 94, 95, 96, 97, 98, 99, 100, 101, 102, 103, 104, 105, 106, 107, 108] (by decide +kernel) (by decide +kernel)
set_option maxRecDepth 20000 in
theorem gX6_writeLine_X6_write : GoodIn wsX6_writeLine (wsV RX6 140 RX6 yX6_write wsX6_write) := goodIn_app (goodIn_of _ (by decide +kernel)) ggX6_writeLine_X6_write
set_option maxRecDepth 20000 in
theorem ggX6_writeLine_X6_overOf : GoodIn wsX6_writeLine wsX6_overOf := goodIn_r _ [68, 32, 5, 69, 70, 71, 9, 72, 12, 53, 54, 55, 56, 57, 58, 59, 92, 93, 94, 95, 96, 97, 98, 99, 100, 101, 102, 103, 104, 105, 106, 107, 108] (by decide +kernel) (by decide +kernel)
set_option maxRecDepth 20000 in
theorem gX6_writeLine_X6_overOf : GoodIn wsX6_writeLine (wsV RX6 120 RX6 yX6_overOf wsX6_overOf) := goodIn_app (goodIn_of _ (by decide +kernel)) ggX6_writeLine_X6_overOf
set_option maxRecDepth 20000 in
theorem ggX6_writeLine_X6_wide : GoodIn wsX6_writeLine wsX6_wide := goodIn_r _ [76, 2, 3, 4, 5, 32, 12, 92, 93, 94, 95, 96, 97, 98, 99, 100, 101, 102, 103, 104, 105, 106, 107, 108] (by decide +kernel) (by decide +kernel)
set_option maxRecDepth 20000 in
theorem gX6_writeLine_X6_wide : GoodIn wsX6_writeLine (wsV RX6 150 RX6 yX6_wide wsX6_wide) := goodIn_app (goodIn_of _ (by decide +kernel)) ggX6_writeLine_X6_wide
set_option maxRecDepth 20000 in
theorem ggX6_writeLine_X6_above : GoodIn wsX6_writeLine wsX6_above := goodIn_r _ [79, 80, 81, 9, 82] (by decide +kernel) (by decide +kernel)
set_option maxRecDepth 20000 in
theorem gX6_writeLine_X6_above : GoodIn wsX6_writeLine (va_wsS RX6 154 yX6_above wsX6_above) := goodIn_app (goodIn_of _ (by decide +kernel)) ggX6_writeLine_X6_above
set_option maxRecDepth 20000 in
theorem ggX6_writeLine_X6_writeNumber : GoodIn wsX6_writeLine wsX6_writeNumber := goodIn_r _ [86, 87, 88, 60, 61, 62, 9, 63, 64, 1, 92, 93, 94, 95, 96, 97, 98, 99, 100, 101, 102, 103, 104, 105, 106, 107, 108] (by decide +kernel) (by decide +kernel)
set_option maxRecDepth 20000 in
theorem gX6_writeLine_X6_writeNumber : GoodIn wsX6_writeLine (wsV RX6 157 RX6 yX6_writeNumber wsX6_writeNumber) := goodIn_app (goodIn_of _ (by decide +kernel)) ggX6_writeLine_X6_writeNumber
set_option maxRecDepth 20000 in
theorem ggX6_writeLine_X6_below : GoodIn wsX6_writeLine wsX6_below := goodIn_r _ [91, 80, 81, 9, 82] (by decide +kernel) (by decide +kernel)
set_option maxRecDepth 20000 in
theorem gX6_writeLine_X6_below : GoodIn wsX6_writeLine (va_wsS RX6 161 yX6_below wsX6_below) := goodIn_app (goodIn_of _ (by decide +kernel)) ggX6_writeLine_X6_below
theorem dX6_writeLine_0 : decode cX6_writeLine 0 = .ok (.aload_n 0, 1) := by decide +kernel
theorem dX6_writeLine_1 : decode cX6_writeLine 1 = .ok (.invokevirtual 147, 3) := by decide +kernel
theorem dX6_writeLine_4 : decode cX6_writeLine 4 = .ok (.aload_n 0, 1) := by decide +kernel
theorem dX6_writeLine_5 : decode cX6_writeLine 5 = .ok (.iconst 0, 1) := by decide +kernel
theorem dX6_writeLine_6 : decode cX6_writeLine 6 = .ok (.putfield 137, 3) := by decide +kernel
theorem dX6_writeLine_9 : decode cX6_writeLine 9 = .ok (.iconst 0, 1) := by decide +kernel
theorem dX6_writeLine_10 : decode cX6_writeLine 10 = .ok (.istore_n 1, 1) := by decide +kernel
theorem dX6_writeLine_11 : decode cX6_writeLine 11 = .ok (.iload_n 1, 1) := by decide +kernel
theorem dX6_writeLine_12 : decode cX6_writeLine 12 = .ok (.aload_n 0, 1) := by decide +kernel
theorem dX6_writeLine_13 : decode cX6_writeLine 13 = .ok (.getfield 51, 3) := by decide +kernel
theorem dX6_writeLine_16 : decode cX6_writeLine 16 = .ok (.if_icmp .ge 79, 3) := by decide +kernel
theorem dX6_writeLine_19 : decode cX6_writeLine 19 = .ok (.aload_n 0, 1) := by decide +kernel
theorem dX6_writeLine_20 : decode cX6_writeLine 20 = .ok (.bipush 97, 2) := by decide +kernel
theorem dX6_writeLine_22 : decode cX6_writeLine 22 = .ok (.aload_n 0, 1) := by decide +kernel
theorem dX6_writeLine_23 : decode cX6_writeLine 23 = .ok (.getfield 13, 3) := by decide +kernel
theorem dX6_writeLine_26 : decode cX6_writeLine 26 = .ok (.iload_n 1, 1) := by decide +kernel
theorem dX6_writeLine_27 : decode cX6_writeLine 27 = .ok (.iaload, 1) := by decide +kernel
theorem dX6_writeLine_28 : decode cX6_writeLine 28 = .ok (.iadd, 1) := by decide +kernel
theorem dX6_writeLine_29 : decode cX6_writeLine 29 = .ok (.invokevirtual 140, 3) := by decide +kernel
theorem dX6_writeLine_32 : decode cX6_writeLine 32 = .ok (.iload_n 1, 1) := by decide +kernel
theorem dX6_writeLine_33 : decode cX6_writeLine 33 = .ok (.iconst 1, 1) := by decide +kernel
theorem dX6_writeLine_34 : decode cX6_writeLine 34 = .ok (.iadd, 1) := by decide +kernel
theorem dX6_writeLine_35 : decode cX6_writeLine 35 = .ok (.aload_n 0, 1) := by decide +kernel
theorem dX6_writeLine_36 : decode cX6_writeLine 36 = .ok (.getfield 51, 3) := by decide +kernel
theorem dX6_writeLine_39 : decode cX6_writeLine 39 = .ok (.if_icmp .ge 50, 3) := by decide +kernel
theorem dX6_writeLine_42 : decode cX6_writeLine 42 = .ok (.aload_n 0, 1) := by decide +kernel
theorem dX6_writeLine_43 : decode cX6_writeLine 43 = .ok (.aload_n 0, 1) := by decide +kernel
theorem dX6_writeLine_44 : decode cX6_writeLine 44 = .ok (.getfield 13, 3) := by decide +kernel
theorem dX6_writeLine_47 : decode cX6_writeLine 47 = .ok (.iload_n 1, 1) := by decide +kernel
theorem dX6_writeLine_48 : decode cX6_writeLine 48 = .ok (.iaload, 1) := by decide +kernel
theorem dX6_writeLine_49 : decode cX6_writeLine 49 = .ok (.aload_n 0, 1) := by decide +kernel
theorem dX6_writeLine_50 : decode cX6_writeLine 50 = .ok (.getfield 13, 3) := by decide +kernel
theorem dX6_writeLine_53 : decode cX6_writeLine 53 = .ok (.iload_n 1, 1) := by decide +kernel
theorem dX6_writeLine_54 : decode cX6_writeLine 54 = .ok (.iconst 1, 1) := by decide +kernel
theorem dX6_writeLine_55 : decode cX6_writeLine 55 = .ok (.iadd, 1) := by decide +kernel
theorem dX6_writeLine_56 : decode cX6_writeLine 56 = .ok (.iaload, 1) := by decide +kernel
theorem dX6_writeLine_57 : decode cX6_writeLine 57 = .ok (.invokevirtual 120, 3) := by decide +kernel
theorem dX6_writeLine_60 : decode cX6_writeLine 60 = .ok (.lstore_n 2, 1) := by decide +kernel
theorem dX6_writeLine_61 : decode cX6_writeLine 61 = .ok (.aload_n 0, 1) := by decide +kernel
theorem dX6_writeLine_62 : decode cX6_writeLine 62 = .ok (.lload_n 2, 1) := by decide +kernel
theorem dX6_writeLine_63 : decode cX6_writeLine 63 = .ok (.lconst 0, 1) := by decide +kernel
theorem dX6_writeLine_64 : decode cX6_writeLine 64 = .ok (.lcmp, 1) := by decide +kernel
theorem dX6_writeLine_65 : decode cX6_writeLine 65 = .ok (.ifCond .le 8, 3) := by decide +kernel
theorem dX6_writeLine_68 : decode cX6_writeLine 68 = .ok (.bipush 43, 2) := by decide +kernel
theorem dX6_writeLine_70 : decode cX6_writeLine 70 = .ok (.goto 16, 3) := by decide +kernel
theorem dX6_writeLine_73 : decode cX6_writeLine 73 = .ok (.lload_n 2, 1) := by decide +kernel
theorem dX6_writeLine_74 : decode cX6_writeLine 74 = .ok (.lconst 0, 1) := by decide +kernel
theorem dX6_writeLine_75 : decode cX6_writeLine 75 = .ok (.lcmp, 1) := by decide +kernel
theorem dX6_writeLine_76 : decode cX6_writeLine 76 = .ok (.ifCond .ge 8, 3) := by decide +kernel
theorem dX6_writeLine_79 : decode cX6_writeLine 79 = .ok (.bipush 45, 2) := by decide +kernel
theorem dX6_writeLine_81 : decode cX6_writeLine 81 = .ok (.goto 5, 3) := by decide +kernel
theorem dX6_writeLine_84 : decode cX6_writeLine 84 = .ok (.bipush 61, 2) := by decide +kernel
theorem dX6_writeLine_86 : decode cX6_writeLine 86 = .ok (.invokevirtual 140, 3) := by decide +kernel
theorem dX6_writeLine_89 : decode cX6_writeLine 89 = .ok (.iinc 1 1, 3) := by decide +kernel
theorem dX6_writeLine_92 : decode cX6_writeLine 92 = .ok (.goto (-81), 3) := by decide +kernel
theorem dX6_writeLine_95 : decode cX6_writeLine 95 = .ok (.aload_n 0, 1) := by decide +kernel
theorem dX6_writeLine_96 : decode cX6_writeLine 96 = .ok (.bipush 58, 2) := by decide +kernel
theorem dX6_writeLine_98 : decode cX6_writeLine 98 = .ok (.invokevirtual 140, 3) := by decide +kernel
theorem dX6_writeLine_101 : decode cX6_writeLine 101 = .ok (.aload_n 0, 1) := by decide +kernel
theorem dX6_writeLine_102 : decode cX6_writeLine 102 = .ok (.aload_n 0, 1) := by decide +kernel
theorem dX6_writeLine_103 : decode cX6_writeLine 103 = .ok (.invokevirtual 150, 3) := by decide +kernel
theorem dX6_writeLine_106 : decode cX6_writeLine 106 = .ok (.ldc2_w 125, 3) := by decide +kernel
theorem dX6_writeLine_109 : decode cX6_writeLine 109 = .ok (.aload_n 0, 1) := by decide +kernel
theorem dX6_writeLine_110 : decode cX6_writeLine 110 = .ok (.getfield 112, 3) := by decide +kernel
theorem dX6_writeLine_113 : decode cX6_writeLine 113 = .ok (.lmul, 1) := by decide +kernel
theorem dX6_writeLine_114 : decode cX6_writeLine 114 = .ok (.invokestatic 154, 3) := by decide +kernel
theorem dX6_writeLine_117 : decode cX6_writeLine 117 = .ok (.invokevirtual 157, 3) := by decide +kernel
theorem dX6_writeLine_120 : decode cX6_writeLine 120 = .ok (.aload_n 0, 1) := by decide +kernel
theorem dX6_writeLine_121 : decode cX6_writeLine 121 = .ok (.bipush 47, 2) := by decide +kernel
theorem dX6_writeLine_123 : decode cX6_writeLine 123 = .ok (.invokevirtual 140, 3) := by decide +kernel
theorem dX6_writeLine_126 : decode cX6_writeLine 126 = .ok (.aload_n 0, 1) := by decide +kernel
theorem dX6_writeLine_127 : decode cX6_writeLine 127 = .ok (.aload_n 0, 1) := by decide +kernel
theorem dX6_writeLine_128 : decode cX6_writeLine 128 = .ok (.invokevirtual 150, 3) := by decide +kernel
theorem dX6_writeLine_131 : decode cX6_writeLine 131 = .ok (.ldc2_w 125, 3) := by decide +kernel
theorem dX6_writeLine_134 : decode cX6_writeLine 134 = .ok (.aload_n 0, 1) := by decide +kernel
theorem dX6_writeLine_135 : decode cX6_writeLine 135 = .ok (.getfield 112, 3) := by decide +kernel
theorem dX6_writeLine_138 : decode cX6_writeLine 138 = .ok (.lmul, 1) := by decide +kernel
theorem dX6_writeLine_139 : decode cX6_writeLine 139 = .ok (.invokestatic 161, 3) := by decide +kernel
theorem dX6_writeLine_142 : decode cX6_writeLine 142 = .ok (.invokevirtual 157, 3) := by decide +kernel
theorem dX6_writeLine_145 : decode cX6_writeLine 145 = .ok (.return_, 1) := by decide +kernel
set_option maxRecDepth 20000 in
theorem ggX6_told_X6_solve : GoodIn wsX6_told wsX6_solve := goodIn_r _ [12, 13, 2, 14, 15, 16, 17, 18, 11, 19, 20, 21, 22, 23, 24, 25, 26, 27, 28, 29, 30, 31, 32, 33, 1, 34, 35, 36, 37, 38, 39, 40, 41, 42, 43, 44, 45, 46, 47, 48, 49, 50, 51, 52, 53, 54, 55, 56, 57, 58, 59, 60, 119, 120, 121, 122, 123, 124, 125, 126, 127, 128, 129, 130, 131, 132, 133, 134, 135] (by decide +kernel) (by decide +kernel)
set_option maxRecDepth 20000 in
theorem gX6_told_X6_solve : GoodIn wsX6_told (wsV RX6 147 RX6 yX6_solve wsX6_solve) := goodIn_app (goodIn_of _ (by decide +kernel)) ggX6_told_X6_solve
set_option maxRecDepth 20000 in
theorem ggX6_told_X6_writeLine : GoodIn wsX6_told wsX6_writeLine := goodIn_r _ [64, 5, 3, 65, 4, 2, 8, 9, 10, 11, 12, 13, 14, 15, 16, 17, 18, 19, 20, 21, 22, 23, 24, 25, 26, 27, 28, 29, 30, 31, 32, 33, 1, 34, 35, 36, 37, 38, 39, 40, 41, 42, 43, 44, 45, 46, 47, 48, 49, 50, 51, 52, 53, 54, 55, 56, 57, 58, 59, 60, 66, 67, 68, 69, 70, 71, 72, 73, 74, 75, 76, 77, 78, 79, 80, 81, 82, 83, 84, 85, 86, 87, 88, 89, 90, 91, 92, 93, 94, 95, 96, 97, 119, 120, 121, 122, 123, 124, 125, 126, 127, 128, 129, 130, 131, 132, 133, 134, 135] (by decide +kernel) (by decide +kernel)
set_option maxRecDepth 20000 in
theorem gX6_told_X6_writeLine : GoodIn wsX6_told (wsV RX6 164 RX6 yX6_writeLine wsX6_writeLine) := goodIn_app (goodIn_of _ (by decide +kernel)) ggX6_told_X6_writeLine
set_option maxRecDepth 20000 in
theorem ggX6_told_X6_weighted : GoodIn wsX6_told wsX6_weighted := goodIn_r _ [101, 26, 27, 28, 11, 29, 30, 31, 32, 33, 1, 34, 35, 36, 37, 119, 120, 121, 122, 123, 124, 125, 126, 127, 128, 129, 130, 131, 132, 133, 134, 135] (by decide +kernel) (by decide +kernel)
set_option maxRecDepth 20000 in
theorem gX6_told_X6_weighted : GoodIn wsX6_told (wsV RX6 167 RX6 yX6_weighted wsX6_weighted) := goodIn_app (goodIn_of _ (by decide +kernel)) ggX6_told_X6_weighted
set_option maxRecDepth 20000 in
theorem ggX6_told_X6_worst : GoodIn wsX6_told wsX6_worst := goodIn_r _ [105, 106, 26, 27, 28, 11, 29, 30, 31, 32, 33, 1, 34, 35, 36, 37, 71, 72, 73, 74, 2, 75, 76, 77, 78, 14, 54, 55, 56, 57, 58, 59, 60, 119, 120, 121, 122, 123, 124, 125, 126, 127, 128, 129, 130, 131, 132, 133, 134, 135] (by decide +kernel) (by decide +kernel)
set_option maxRecDepth 20000 in
theorem gX6_told_X6_worst : GoodIn wsX6_told (wsV RX6 170 RX6 yX6_worst wsX6_worst) := goodIn_app (goodIn_of _ (by decide +kernel)) ggX6_told_X6_worst
set_option maxRecDepth 20000 in
theorem ggX6_told_X6_squares : GoodIn wsX6_told wsX6_squares := goodIn_r _ [110, 26, 27, 28, 11, 29, 30, 31, 32, 33, 1, 34, 35, 36, 37, 71, 72, 73, 74, 2, 75, 76, 77, 78, 14, 54, 55, 56, 57, 58, 59, 60, 119, 120, 121, 122, 123, 124, 125, 126, 127, 128, 129, 130, 131, 132, 133, 134, 135] (by decide +kernel) (by decide +kernel)
set_option maxRecDepth 20000 in
theorem gX6_told_X6_squares : GoodIn wsX6_told (wsV RX6 173 RX6 yX6_squares wsX6_squares) := goodIn_app (goodIn_of _ (by decide +kernel)) ggX6_told_X6_squares
set_option maxRecDepth 20000 in
theorem ggX6_told_X6_above : GoodIn wsX6_told wsX6_above := goodIn_r _ [85, 86, 87, 11, 88] (by decide +kernel) (by decide +kernel)
set_option maxRecDepth 20000 in
theorem gX6_told_X6_above : GoodIn wsX6_told (va_wsS RX6 154 yX6_above wsX6_above) := goodIn_app (goodIn_of _ (by decide +kernel)) ggX6_told_X6_above
set_option maxRecDepth 20000 in
theorem ggX6_told_X6_below : GoodIn wsX6_told wsX6_below := goodIn_r _ [97, 86, 87, 11, 88] (by decide +kernel) (by decide +kernel)
set_option maxRecDepth 20000 in
theorem gX6_told_X6_below : GoodIn wsX6_told (va_wsS RX6 161 yX6_below wsX6_below) := goodIn_app (goodIn_of _ (by decide +kernel)) ggX6_told_X6_below
set_option maxRecDepth 20000 in
theorem ggX6_told_X6_openOnes : GoodIn wsX6_told wsX6_openOnes := goodIn_r _ [114, 21, 30, 31, 32, 11, 33, 1, 119, 120, 121, 122, 123, 124, 125, 126, 127, 128, 129, 130, 131, 132, 133, 134, 135] (by decide +kernel) (by decide +kernel)
set_option maxRecDepth 20000 in
theorem gX6_told_X6_openOnes : GoodIn wsX6_told (wsV RX6 176 RX6 yX6_openOnes wsX6_openOnes) := goodIn_app (goodIn_of _ (by decide +kernel)) ggX6_told_X6_openOnes
set_option maxRecDepth 20000 in
theorem ggX6_told_X6_wide : GoodIn wsX6_told wsX6_wide := goodIn_r _ [82, 3, 65, 4, 2, 1, 14, 119, 120, 121, 122, 123, 124, 125, 126, 127, 128, 129, 130, 131, 132, 133, 134, 135] (by decide +kernel) (by decide +kernel)
set_option maxRecDepth 20000 in
theorem gX6_told_X6_wide : GoodIn wsX6_told (wsV RX6 150 RX6 yX6_wide wsX6_wide) := goodIn_app (goodIn_of _ (by decide +kernel)) ggX6_told_X6_wide
set_option maxRecDepth 20000 in
theorem ggX6_told_X6_thin : GoodIn wsX6_told wsX6_thin := goodIn_r _ [118, 3, 65, 75, 76, 77, 11, 78, 2, 14, 54, 55, 56, 57, 1, 58, 59, 60, 119, 120, 121, 122, 123, 124, 125, 126, 127, 128, 129, 130, 131, 132, 133, 134, 135] (by decide +kernel) (by decide +kernel)
set_option maxRecDepth 20000 in
theorem gX6_told_X6_thin : GoodIn wsX6_told (wsV RX6 179 RX6 yX6_thin wsX6_thin) := goodIn_app (goodIn_of _ (by decide +kernel)) ggX6_told_X6_thin
theorem dX6_told_0 : decode cX6_told 0 = .ok (.aload_n 0, 1) := by decide +kernel
theorem dX6_told_1 : decode cX6_told 1 = .ok (.invokevirtual 147, 3) := by decide +kernel
theorem dX6_told_4 : decode cX6_told 4 = .ok (.aload_n 0, 1) := by decide +kernel
theorem dX6_told_5 : decode cX6_told 5 = .ok (.invokevirtual 164, 3) := by decide +kernel
theorem dX6_told_8 : decode cX6_told 8 = .ok (.iload_n 1, 1) := by decide +kernel
theorem dX6_told_9 : decode cX6_told 9 = .ok (.tableswitch 206 0 13 #[71, 80, 89, 98, 104, 110, 127, 144, 150, 156, 172, 188, 194, 200], 71) := by decide +kernel
theorem dX6_told_80 : decode cX6_told 80 = .ok (.aload_n 0, 1) := by decide +kernel
theorem dX6_told_81 : decode cX6_told 81 = .ok (.getfield 7, 3) := by decide +kernel
theorem dX6_told_84 : decode cX6_told 84 = .ok (.bipush 60, 2) := by decide +kernel
theorem dX6_told_86 : decode cX6_told 86 = .ok (.iaload, 1) := by decide +kernel
theorem dX6_told_87 : decode cX6_told 87 = .ok (.i2l, 1) := by decide +kernel
theorem dX6_told_88 : decode cX6_told 88 = .ok (.lreturn, 1) := by decide +kernel
theorem dX6_told_89 : decode cX6_told 89 = .ok (.aload_n 0, 1) := by decide +kernel
theorem dX6_told_90 : decode cX6_told 90 = .ok (.getfield 7, 3) := by decide +kernel
theorem dX6_told_93 : decode cX6_told 93 = .ok (.bipush 61, 2) := by decide +kernel
theorem dX6_told_95 : decode cX6_told 95 = .ok (.iaload, 1) := by decide +kernel
theorem dX6_told_96 : decode cX6_told 96 = .ok (.i2l, 1) := by decide +kernel
theorem dX6_told_97 : decode cX6_told 97 = .ok (.lreturn, 1) := by decide +kernel
theorem dX6_told_98 : decode cX6_told 98 = .ok (.aload_n 0, 1) := by decide +kernel
theorem dX6_told_99 : decode cX6_told 99 = .ok (.getfield 7, 3) := by decide +kernel
theorem dX6_told_102 : decode cX6_told 102 = .ok (.bipush 62, 2) := by decide +kernel
theorem dX6_told_104 : decode cX6_told 104 = .ok (.iaload, 1) := by decide +kernel
theorem dX6_told_105 : decode cX6_told 105 = .ok (.i2l, 1) := by decide +kernel
theorem dX6_told_106 : decode cX6_told 106 = .ok (.lreturn, 1) := by decide +kernel
theorem dX6_told_107 : decode cX6_told 107 = .ok (.aload_n 0, 1) := by decide +kernel
theorem dX6_told_108 : decode cX6_told 108 = .ok (.invokevirtual 167, 3) := by decide +kernel
theorem dX6_told_111 : decode cX6_told 111 = .ok (.i2l, 1) := by decide +kernel
theorem dX6_told_112 : decode cX6_told 112 = .ok (.lreturn, 1) := by decide +kernel
theorem dX6_told_113 : decode cX6_told 113 = .ok (.aload_n 0, 1) := by decide +kernel
theorem dX6_told_114 : decode cX6_told 114 = .ok (.invokevirtual 170, 3) := by decide +kernel
theorem dX6_told_117 : decode cX6_told 117 = .ok (.i2l, 1) := by decide +kernel
theorem dX6_told_118 : decode cX6_told 118 = .ok (.lreturn, 1) := by decide +kernel
theorem dX6_told_119 : decode cX6_told 119 = .ok (.aload_n 0, 1) := by decide +kernel
theorem dX6_told_120 : decode cX6_told 120 = .ok (.invokevirtual 173, 3) := by decide +kernel
theorem dX6_told_123 : decode cX6_told 123 = .ok (.aload_n 0, 1) := by decide +kernel
theorem dX6_told_124 : decode cX6_told 124 = .ok (.getfield 112, 3) := by decide +kernel
theorem dX6_told_127 : decode cX6_told 127 = .ok (.aload_n 0, 1) := by decide +kernel
theorem dX6_told_128 : decode cX6_told 128 = .ok (.getfield 112, 3) := by decide +kernel
theorem dX6_told_131 : decode cX6_told 131 = .ok (.lmul, 1) := by decide +kernel
theorem dX6_told_132 : decode cX6_told 132 = .ok (.invokestatic 154, 3) := by decide +kernel
theorem dX6_told_135 : decode cX6_told 135 = .ok (.lreturn, 1) := by decide +kernel
theorem dX6_told_136 : decode cX6_told 136 = .ok (.aload_n 0, 1) := by decide +kernel
theorem dX6_told_137 : decode cX6_told 137 = .ok (.invokevirtual 173, 3) := by decide +kernel
theorem dX6_told_140 : decode cX6_told 140 = .ok (.aload_n 0, 1) := by decide +kernel
theorem dX6_told_141 : decode cX6_told 141 = .ok (.getfield 112, 3) := by decide +kernel
theorem dX6_told_144 : decode cX6_told 144 = .ok (.aload_n 0, 1) := by decide +kernel
theorem dX6_told_145 : decode cX6_told 145 = .ok (.getfield 112, 3) := by decide +kernel
theorem dX6_told_148 : decode cX6_told 148 = .ok (.lmul, 1) := by decide +kernel
theorem dX6_told_149 : decode cX6_told 149 = .ok (.invokestatic 161, 3) := by decide +kernel
theorem dX6_told_152 : decode cX6_told 152 = .ok (.lreturn, 1) := by decide +kernel
theorem dX6_told_153 : decode cX6_told 153 = .ok (.aload_n 0, 1) := by decide +kernel
theorem dX6_told_154 : decode cX6_told 154 = .ok (.invokevirtual 176, 3) := by decide +kernel
theorem dX6_told_157 : decode cX6_told 157 = .ok (.i2l, 1) := by decide +kernel
theorem dX6_told_158 : decode cX6_told 158 = .ok (.lreturn, 1) := by decide +kernel
theorem dX6_told_159 : decode cX6_told 159 = .ok (.aload_n 0, 1) := by decide +kernel
theorem dX6_told_160 : decode cX6_told 160 = .ok (.getfield 51, 3) := by decide +kernel
theorem dX6_told_163 : decode cX6_told 163 = .ok (.i2l, 1) := by decide +kernel
theorem dX6_told_164 : decode cX6_told 164 = .ok (.lreturn, 1) := by decide +kernel
theorem dX6_told_165 : decode cX6_told 165 = .ok (.aload_n 0, 1) := by decide +kernel
theorem dX6_told_166 : decode cX6_told 166 = .ok (.invokevirtual 150, 3) := by decide +kernel
theorem dX6_told_169 : decode cX6_told 169 = .ok (.ldc2_w 125, 3) := by decide +kernel
theorem dX6_told_172 : decode cX6_told 172 = .ok (.aload_n 0, 1) := by decide +kernel
theorem dX6_told_173 : decode cX6_told 173 = .ok (.getfield 112, 3) := by decide +kernel
theorem dX6_told_176 : decode cX6_told 176 = .ok (.lmul, 1) := by decide +kernel
theorem dX6_told_177 : decode cX6_told 177 = .ok (.invokestatic 154, 3) := by decide +kernel
theorem dX6_told_180 : decode cX6_told 180 = .ok (.lreturn, 1) := by decide +kernel
theorem dX6_told_181 : decode cX6_told 181 = .ok (.aload_n 0, 1) := by decide +kernel
theorem dX6_told_182 : decode cX6_told 182 = .ok (.invokevirtual 150, 3) := by decide +kernel
theorem dX6_told_185 : decode cX6_told 185 = .ok (.ldc2_w 125, 3) := by decide +kernel
theorem dX6_told_188 : decode cX6_told 188 = .ok (.aload_n 0, 1) := by decide +kernel
theorem dX6_told_189 : decode cX6_told 189 = .ok (.getfield 112, 3) := by decide +kernel
theorem dX6_told_192 : decode cX6_told 192 = .ok (.lmul, 1) := by decide +kernel
theorem dX6_told_193 : decode cX6_told 193 = .ok (.invokestatic 161, 3) := by decide +kernel
theorem dX6_told_196 : decode cX6_told 196 = .ok (.lreturn, 1) := by decide +kernel
theorem dX6_told_197 : decode cX6_told 197 = .ok (.aload_n 0, 1) := by decide +kernel
theorem dX6_told_198 : decode cX6_told 198 = .ok (.invokevirtual 179, 3) := by decide +kernel
theorem dX6_told_201 : decode cX6_told 201 = .ok (.i2l, 1) := by decide +kernel
theorem dX6_told_202 : decode cX6_told 202 = .ok (.lreturn, 1) := by decide +kernel
theorem dX6_told_203 : decode cX6_told 203 = .ok (.aload_n 0, 1) := by decide +kernel
theorem dX6_told_204 : decode cX6_told 204 = .ok (.getfield 137, 3) := by decide +kernel
theorem dX6_told_207 : decode cX6_told 207 = .ok (.i2l, 1) := by decide +kernel
theorem dX6_told_208 : decode cX6_told 208 = .ok (.lreturn, 1) := by decide +kernel
theorem dX6_told_209 : decode cX6_told 209 = .ok (.aload_n 0, 1) := by decide +kernel
theorem dX6_told_210 : decode cX6_told 210 = .ok (.getfield 182, 3) := by decide +kernel
theorem dX6_told_213 : decode cX6_told 213 = .ok (.i2l, 1) := by decide +kernel
theorem dX6_told_214 : decode cX6_told 214 = .ok (.lreturn, 1) := by decide +kernel
theorem dX6_told_215 : decode cX6_told 215 = .ok (.ldc2_w 185, 3) := by decide +kernel
theorem dX6_told_218 : decode cX6_told 218 = .ok (.lreturn, 1) := by decide +kernel
set_option maxRecDepth 20000 in
theorem ggX6_isAlike_X6_at : GoodIn wsX6_isAlike wsX6_at := goodIn_r _ [5] (by decide +kernel) (by decide +kernel)
set_option maxRecDepth 20000 in
theorem gX6_isAlike_X6_at : GoodIn wsX6_isAlike (va_wsS RX6 69 yX6_at wsX6_at) := goodIn_app (goodIn_of _ (by decide +kernel)) ggX6_isAlike_X6_at
theorem dX6_isAlike_0 : decode cX6_isAlike 0 = .ok (.iconst 1, 1) := by decide +kernel
theorem dX6_isAlike_1 : decode cX6_isAlike 1 = .ok (.istore_n 2, 1) := by decide +kernel
theorem dX6_isAlike_2 : decode cX6_isAlike 2 = .ok (.iconst 0, 1) := by decide +kernel
theorem dX6_isAlike_3 : decode cX6_isAlike 3 = .ok (.istore_n 3, 1) := by decide +kernel
theorem dX6_isAlike_4 : decode cX6_isAlike 4 = .ok (.iload_n 3, 1) := by decide +kernel
theorem dX6_isAlike_5 : decode cX6_isAlike 5 = .ok (.bipush 8, 2) := by decide +kernel
theorem dX6_isAlike_7 : decode cX6_isAlike 7 = .ok (.if_icmp .ge 44, 3) := by decide +kernel
theorem dX6_isAlike_10 : decode cX6_isAlike 10 = .ok (.iload_n 2, 1) := by decide +kernel
theorem dX6_isAlike_11 : decode cX6_isAlike 11 = .ok (.ifCond .eq 32, 3) := by decide +kernel
theorem dX6_isAlike_14 : decode cX6_isAlike 14 = .ok (.aload_n 0, 1) := by decide +kernel
theorem dX6_isAlike_15 : decode cX6_isAlike 15 = .ok (.getfield 7, 3) := by decide +kernel
theorem dX6_isAlike_18 : decode cX6_isAlike 18 = .ok (.iload_n 1, 1) := by decide +kernel
theorem dX6_isAlike_19 : decode cX6_isAlike 19 = .ok (.iconst 0, 1) := by decide +kernel
theorem dX6_isAlike_20 : decode cX6_isAlike 20 = .ok (.iload_n 3, 1) := by decide +kernel
theorem dX6_isAlike_21 : decode cX6_isAlike 21 = .ok (.invokestatic 69, 3) := by decide +kernel
theorem dX6_isAlike_24 : decode cX6_isAlike 24 = .ok (.iaload, 1) := by decide +kernel
theorem dX6_isAlike_25 : decode cX6_isAlike 25 = .ok (.aload_n 0, 1) := by decide +kernel
theorem dX6_isAlike_26 : decode cX6_isAlike 26 = .ok (.getfield 7, 3) := by decide +kernel
theorem dX6_isAlike_29 : decode cX6_isAlike 29 = .ok (.iload_n 1, 1) := by decide +kernel
theorem dX6_isAlike_30 : decode cX6_isAlike 30 = .ok (.iconst 1, 1) := by decide +kernel
theorem dX6_isAlike_31 : decode cX6_isAlike 31 = .ok (.iload_n 3, 1) := by decide +kernel
theorem dX6_isAlike_32 : decode cX6_isAlike 32 = .ok (.invokestatic 69, 3) := by decide +kernel
theorem dX6_isAlike_35 : decode cX6_isAlike 35 = .ok (.iaload, 1) := by decide +kernel
theorem dX6_isAlike_36 : decode cX6_isAlike 36 = .ok (.if_icmp .ne 7, 3) := by decide +kernel
theorem dX6_isAlike_39 : decode cX6_isAlike 39 = .ok (.iconst 1, 1) := by decide +kernel
theorem dX6_isAlike_40 : decode cX6_isAlike 40 = .ok (.goto 4, 3) := by decide +kernel
theorem dX6_isAlike_43 : decode cX6_isAlike 43 = .ok (.iconst 0, 1) := by decide +kernel
theorem dX6_isAlike_44 : decode cX6_isAlike 44 = .ok (.istore_n 2, 1) := by decide +kernel
theorem dX6_isAlike_45 : decode cX6_isAlike 45 = .ok (.iinc 3 1, 3) := by decide +kernel
theorem dX6_isAlike_48 : decode cX6_isAlike 48 = .ok (.goto (-44), 3) := by decide +kernel
theorem dX6_isAlike_51 : decode cX6_isAlike 51 = .ok (.iload_n 2, 1) := by decide +kernel
theorem dX6_isAlike_52 : decode cX6_isAlike 52 = .ok (.ireturn, 1) := by decide +kernel
set_option maxRecDepth 20000 in
theorem ggX6_sumOf_X6_at : GoodIn wsX6_sumOf wsX6_at := goodIn_r _ [5] (by decide +kernel) (by decide +kernel)
set_option maxRecDepth 20000 in
theorem gX6_sumOf_X6_at : GoodIn wsX6_sumOf (va_wsS RX6 69 yX6_at wsX6_at) := goodIn_app (goodIn_of _ (by decide +kernel)) ggX6_sumOf_X6_at
theorem dX6_sumOf_0 : decode cX6_sumOf 0 = .ok (.iconst 0, 1) := by decide +kernel
theorem dX6_sumOf_1 : decode cX6_sumOf 1 = .ok (.istore_n 3, 1) := by decide +kernel
theorem dX6_sumOf_2 : decode cX6_sumOf 2 = .ok (.iconst 0, 1) := by decide +kernel
theorem dX6_sumOf_3 : decode cX6_sumOf 3 = .ok (.istore 4, 2) := by decide +kernel
theorem dX6_sumOf_5 : decode cX6_sumOf 5 = .ok (.iload 4, 2) := by decide +kernel
theorem dX6_sumOf_7 : decode cX6_sumOf 7 = .ok (.bipush 8, 2) := by decide +kernel
theorem dX6_sumOf_9 : decode cX6_sumOf 9 = .ok (.if_icmp .ge 24, 3) := by decide +kernel
theorem dX6_sumOf_12 : decode cX6_sumOf 12 = .ok (.iload_n 3, 1) := by decide +kernel
theorem dX6_sumOf_13 : decode cX6_sumOf 13 = .ok (.aload_n 0, 1) := by decide +kernel
theorem dX6_sumOf_14 : decode cX6_sumOf 14 = .ok (.getfield 7, 3) := by decide +kernel
theorem dX6_sumOf_17 : decode cX6_sumOf 17 = .ok (.iload_n 1, 1) := by decide +kernel
theorem dX6_sumOf_18 : decode cX6_sumOf 18 = .ok (.iload_n 2, 1) := by decide +kernel
theorem dX6_sumOf_19 : decode cX6_sumOf 19 = .ok (.iload 4, 2) := by decide +kernel
theorem dX6_sumOf_21 : decode cX6_sumOf 21 = .ok (.invokestatic 69, 3) := by decide +kernel
theorem dX6_sumOf_24 : decode cX6_sumOf 24 = .ok (.iaload, 1) := by decide +kernel
theorem dX6_sumOf_25 : decode cX6_sumOf 25 = .ok (.iadd, 1) := by decide +kernel
theorem dX6_sumOf_26 : decode cX6_sumOf 26 = .ok (.istore_n 3, 1) := by decide +kernel
theorem dX6_sumOf_27 : decode cX6_sumOf 27 = .ok (.iinc 4 1, 3) := by decide +kernel
theorem dX6_sumOf_30 : decode cX6_sumOf 30 = .ok (.goto (-25), 3) := by decide +kernel
theorem dX6_sumOf_33 : decode cX6_sumOf 33 = .ok (.iload_n 3, 1) := by decide +kernel
theorem dX6_sumOf_34 : decode cX6_sumOf 34 = .ok (.ireturn, 1) := by decide +kernel
set_option maxRecDepth 20000 in
theorem ggX6_letter_X6_isLetter : GoodIn wsX6_letter wsX6_isLetter := goodIn_r _ [8, 2, 9, 10, 7, 11, 23, 24, 25, 26, 27, 28, 29, 30, 31, 32, 33, 34, 35, 36, 37, 38, 39] (by decide +kernel) (by decide +kernel)
set_option maxRecDepth 20000 in
theorem gX6_letter_X6_isLetter : GoodIn wsX6_letter (wsV RX6 187 RX6 yX6_isLetter wsX6_isLetter) := goodIn_app (goodIn_of _ (by decide +kernel)) ggX6_letter_X6_isLetter
set_option maxRecDepth 20000 in
theorem ggX6_letter_X6_isAlike : GoodIn wsX6_letter wsX6_isAlike := goodIn_r _ [15, 2, 16, 17, 7, 18, 23, 24, 25, 26, 27, 28, 29, 30, 31, 32, 33, 34, 35, 36, 37, 38, 39] (by decide +kernel) (by decide +kernel)
set_option maxRecDepth 20000 in
theorem gX6_letter_X6_isAlike : GoodIn wsX6_letter (wsV RX6 191 RX6 yX6_isAlike wsX6_isAlike) := goodIn_app (goodIn_of _ (by decide +kernel)) ggX6_letter_X6_isAlike
set_option maxRecDepth 20000 in
theorem ggX6_letter_X6_sumOf : GoodIn wsX6_letter wsX6_sumOf := goodIn_r _ [22, 2, 16, 17, 7, 18, 23, 24, 25, 26, 27, 28, 29, 30, 31, 32, 33, 34, 35, 36, 37, 38, 39] (by decide +kernel) (by decide +kernel)
set_option maxRecDepth 20000 in
theorem gX6_letter_X6_sumOf : GoodIn wsX6_letter (wsV RX6 194 RX6 yX6_sumOf wsX6_sumOf) := goodIn_app (goodIn_of _ (by decide +kernel)) ggX6_letter_X6_sumOf
theorem dX6_letter_0 : decode cX6_letter 0 = .ok (.aload_n 0, 1) := by decide +kernel
theorem dX6_letter_1 : decode cX6_letter 1 = .ok (.iload_n 1, 1) := by decide +kernel
theorem dX6_letter_2 : decode cX6_letter 2 = .ok (.invokevirtual 187, 3) := by decide +kernel
theorem dX6_letter_5 : decode cX6_letter 5 = .ok (.ifCond .ne 6, 3) := by decide +kernel
theorem dX6_letter_8 : decode cX6_letter 8 = .ok (.ldc 190, 2) := by decide +kernel
theorem dX6_letter_10 : decode cX6_letter 10 = .ok (.ireturn, 1) := by decide +kernel
theorem dX6_letter_11 : decode cX6_letter 11 = .ok (.iload_n 2, 1) := by decide +kernel
theorem dX6_letter_12 : decode cX6_letter 12 = .ok (.tableswitch 70 0 3 #[32, 42, 56, 63], 32) := by decide +kernel
theorem dX6_letter_44 : decode cX6_letter 44 = .ok (.aload_n 0, 1) := by decide +kernel
theorem dX6_letter_45 : decode cX6_letter 45 = .ok (.getfield 7, 3) := by decide +kernel
theorem dX6_letter_48 : decode cX6_letter 48 = .ok (.bipush 48, 2) := by decide +kernel
theorem dX6_letter_50 : decode cX6_letter 50 = .ok (.iload_n 1, 1) := by decide +kernel
theorem dX6_letter_51 : decode cX6_letter 51 = .ok (.iadd, 1) := by decide +kernel
theorem dX6_letter_52 : decode cX6_letter 52 = .ok (.iaload, 1) := by decide +kernel
theorem dX6_letter_53 : decode cX6_letter 53 = .ok (.ireturn, 1) := by decide +kernel
theorem dX6_letter_54 : decode cX6_letter 54 = .ok (.aload_n 0, 1) := by decide +kernel
theorem dX6_letter_55 : decode cX6_letter 55 = .ok (.iload_n 1, 1) := by decide +kernel
theorem dX6_letter_56 : decode cX6_letter 56 = .ok (.invokevirtual 191, 3) := by decide +kernel
theorem dX6_letter_59 : decode cX6_letter 59 = .ok (.ifCond .eq 7, 3) := by decide +kernel
theorem dX6_letter_62 : decode cX6_letter 62 = .ok (.iconst 1, 1) := by decide +kernel
theorem dX6_letter_63 : decode cX6_letter 63 = .ok (.goto 4, 3) := by decide +kernel
theorem dX6_letter_66 : decode cX6_letter 66 = .ok (.iconst 0, 1) := by decide +kernel
theorem dX6_letter_67 : decode cX6_letter 67 = .ok (.ireturn, 1) := by decide +kernel
theorem dX6_letter_68 : decode cX6_letter 68 = .ok (.aload_n 0, 1) := by decide +kernel
theorem dX6_letter_69 : decode cX6_letter 69 = .ok (.iload_n 1, 1) := by decide +kernel
theorem dX6_letter_70 : decode cX6_letter 70 = .ok (.iconst 0, 1) := by decide +kernel
theorem dX6_letter_71 : decode cX6_letter 71 = .ok (.invokevirtual 194, 3) := by decide +kernel
theorem dX6_letter_74 : decode cX6_letter 74 = .ok (.ireturn, 1) := by decide +kernel
theorem dX6_letter_75 : decode cX6_letter 75 = .ok (.aload_n 0, 1) := by decide +kernel
theorem dX6_letter_76 : decode cX6_letter 76 = .ok (.iload_n 1, 1) := by decide +kernel
theorem dX6_letter_77 : decode cX6_letter 77 = .ok (.iconst 1, 1) := by decide +kernel
theorem dX6_letter_78 : decode cX6_letter 78 = .ok (.invokevirtual 194, 3) := by decide +kernel
theorem dX6_letter_81 : decode cX6_letter 81 = .ok (.ireturn, 1) := by decide +kernel
theorem dX6_letter_82 : decode cX6_letter 82 = .ok (.ldc 197, 2) := by decide +kernel
theorem dX6_letter_84 : decode cX6_letter 84 = .ok (.ireturn, 1) := by decide +kernel
set_option maxRecDepth 20000 in
theorem ggX6_back_X6_isLetter : GoodIn wsX6_back wsX6_isLetter := goodIn_r _ [8, 2, 9, 10, 7, 11, 22, 23, 24, 25, 26, 27, 28, 29, 30, 31, 32, 33, 34, 35, 36, 37, 38] (by decide +kernel) (by decide +kernel)
set_option maxRecDepth 20000 in
theorem gX6_back_X6_isLetter : GoodIn wsX6_back (wsV RX6 187 RX6 yX6_isLetter wsX6_isLetter) := goodIn_app (goodIn_of _ (by decide +kernel)) ggX6_back_X6_isLetter
set_option maxRecDepth 20000 in
theorem ggX6_back_X6_isHeight : GoodIn wsX6_back wsX6_isHeight := goodIn_r _ [14, 15, 9, 10, 7, 11] (by decide +kernel) (by decide +kernel)
set_option maxRecDepth 20000 in
theorem gX6_back_X6_isHeight : GoodIn wsX6_back (va_wsS RX6 198 yX6_isHeight wsX6_isHeight) := goodIn_app (goodIn_of _ (by decide +kernel)) ggX6_back_X6_isHeight
set_option maxRecDepth 20000 in
theorem ggX6_back_X6_isSide : GoodIn wsX6_back wsX6_isSide := goodIn_r _ [18, 9, 10, 7, 11] (by decide +kernel) (by decide +kernel)
set_option maxRecDepth 20000 in
theorem gX6_back_X6_isSide : GoodIn wsX6_back (va_wsS RX6 201 yX6_isSide wsX6_isSide) := goodIn_app (goodIn_of _ (by decide +kernel)) ggX6_back_X6_isSide
set_option maxRecDepth 20000 in
theorem ggX6_back_X6_at : GoodIn wsX6_back wsX6_at := goodIn_r _ [21] (by decide +kernel) (by decide +kernel)
set_option maxRecDepth 20000 in
theorem gX6_back_X6_at : GoodIn wsX6_back (va_wsS RX6 69 yX6_at wsX6_at) := goodIn_app (goodIn_of _ (by decide +kernel)) ggX6_back_X6_at
theorem dX6_back_0 : decode cX6_back 0 = .ok (.aload_n 0, 1) := by decide +kernel
theorem dX6_back_1 : decode cX6_back 1 = .ok (.iload_n 1, 1) := by decide +kernel
theorem dX6_back_2 : decode cX6_back 2 = .ok (.invokevirtual 187, 3) := by decide +kernel
theorem dX6_back_5 : decode cX6_back 5 = .ok (.ifCond .eq 10, 3) := by decide +kernel
theorem dX6_back_8 : decode cX6_back 8 = .ok (.iload_n 3, 1) := by decide +kernel
theorem dX6_back_9 : decode cX6_back 9 = .ok (.invokestatic 198, 3) := by decide +kernel
theorem dX6_back_12 : decode cX6_back 12 = .ok (.ifCond .ne 6, 3) := by decide +kernel
theorem dX6_back_15 : decode cX6_back 15 = .ok (.ldc 190, 2) := by decide +kernel
theorem dX6_back_17 : decode cX6_back 17 = .ok (.ireturn, 1) := by decide +kernel
theorem dX6_back_18 : decode cX6_back 18 = .ok (.iload_n 2, 1) := by decide +kernel
theorem dX6_back_19 : decode cX6_back 19 = .ok (.invokestatic 201, 3) := by decide +kernel
theorem dX6_back_22 : decode cX6_back 22 = .ok (.ifCond .eq 17, 3) := by decide +kernel
theorem dX6_back_25 : decode cX6_back 25 = .ok (.aload_n 0, 1) := by decide +kernel
theorem dX6_back_26 : decode cX6_back 26 = .ok (.getfield 7, 3) := by decide +kernel
theorem dX6_back_29 : decode cX6_back 29 = .ok (.iload_n 1, 1) := by decide +kernel
theorem dX6_back_30 : decode cX6_back 30 = .ok (.iload_n 2, 1) := by decide +kernel
theorem dX6_back_31 : decode cX6_back 31 = .ok (.iload_n 3, 1) := by decide +kernel
theorem dX6_back_32 : decode cX6_back 32 = .ok (.invokestatic 69, 3) := by decide +kernel
theorem dX6_back_35 : decode cX6_back 35 = .ok (.iaload, 1) := by decide +kernel
theorem dX6_back_36 : decode cX6_back 36 = .ok (.goto 5, 3) := by decide +kernel
theorem dX6_back_39 : decode cX6_back 39 = .ok (.ldc 197, 2) := by decide +kernel
theorem dX6_back_41 : decode cX6_back 41 = .ok (.ireturn, 1) := by decide +kernel
set_option maxRecDepth 20000 in
theorem ggX6_space_X6_isLetter : GoodIn wsX6_space wsX6_isLetter := goodIn_r _ [13, 14, 15, 16, 12, 17, 94, 95, 96, 97, 98, 99, 100, 101, 102, 103, 104, 105, 106, 107, 108, 109, 110] (by decide +kernel) (by decide +kernel)
set_option maxRecDepth 20000 in
theorem gX6_space_X6_isLetter : GoodIn wsX6_space (wsV RX6 187 RX6 yX6_isLetter wsX6_isLetter) := goodIn_app (goodIn_of _ (by decide +kernel)) ggX6_space_X6_isLetter
set_option maxRecDepth 20000 in
theorem ggX6_space_X6_isSide : GoodIn wsX6_space wsX6_isSide := goodIn_r _ [20, 15, 16, 12, 17] (by decide +kernel) (by decide +kernel)
set_option maxRecDepth 20000 in
theorem gX6_space_X6_isSide : GoodIn wsX6_space (va_wsS RX6 201 yX6_isSide wsX6_isSide) := goodIn_app (goodIn_of _ (by decide +kernel)) ggX6_space_X6_isSide
set_option maxRecDepth 20000 in
theorem ggX6_space_X6_in : GoodIn wsX6_space wsX6_in := goodIn_r _ [17] (by decide +kernel) (by decide +kernel)
set_option maxRecDepth 20000 in
theorem gX6_space_X6_in : GoodIn wsX6_space (va_wsS RX6 63 yX6_in wsX6_in) := goodIn_app (goodIn_of _ (by decide +kernel)) ggX6_space_X6_in
set_option maxRecDepth 20000 in
theorem ggX6_space_X6_solve : GoodIn wsX6_space wsX6_solve := goodIn_r _ [24, 25, 6, 4, 26, 27, 28, 29, 12, 30, 31, 7, 32, 33, 34, 35, 36, 37, 38, 39, 40, 41, 42, 43, 14, 44, 45, 46, 47, 48, 49, 50, 51, 52, 53, 54, 55, 56, 57, 58, 59, 60, 61, 62, 63, 64, 65, 66, 67, 68, 69, 70, 94, 95, 96, 97, 98, 99, 100, 101, 102, 103, 104, 105, 106, 107, 108, 109, 110] (by decide +kernel) (by decide +kernel)
set_option maxRecDepth 20000 in
theorem gX6_space_X6_solve : GoodIn wsX6_space (wsV RX6 147 RX6 yX6_solve wsX6_solve) := goodIn_app (goodIn_of _ (by decide +kernel)) ggX6_space_X6_solve
set_option maxRecDepth 20000 in
theorem ggX6_space_X6_layWholes : GoodIn wsX6_space wsX6_layWholes := goodIn_r _ [74, 8, 4, 5, 6, 75, 76, 77, 40, 41, 42, 12, 43, 14, 78, 79, 80, 81, 82, 83, 84, 94, 95, 96, 97, 98, 99, 100, 101, 102, 103, 104, 105, 106, 107, 108, 109, 110] (by decide +kernel) (by decide +kernel)
set_option maxRecDepth 20000 in
theorem gX6_space_X6_layWholes : GoodIn wsX6_space (wsV RX6 208 RX6 yX6_layWholes wsX6_layWholes) := goodIn_app (goodIn_of _ (by decide +kernel)) ggX6_space_X6_layWholes
set_option maxRecDepth 20000 in
theorem ggX6_space_X6_above : GoodIn wsX6_space wsX6_above := goodIn_r _ [87, 88, 89, 12, 90] (by decide +kernel) (by decide +kernel)
set_option maxRecDepth 20000 in
theorem gX6_space_X6_above : GoodIn wsX6_space (va_wsS RX6 154 yX6_above wsX6_above) := goodIn_app (goodIn_of _ (by decide +kernel)) ggX6_space_X6_above
set_option maxRecDepth 20000 in
theorem ggX6_space_X6_below : GoodIn wsX6_space wsX6_below := goodIn_r _ [93, 88, 89, 12, 90] (by decide +kernel) (by decide +kernel)
set_option maxRecDepth 20000 in
theorem gX6_space_X6_below : GoodIn wsX6_space (va_wsS RX6 161 yX6_below wsX6_below) := goodIn_app (goodIn_of _ (by decide +kernel)) ggX6_space_X6_below
theorem dX6_space_0 : decode cX6_space 0 = .ok (.aload_n 0, 1) := by decide +kernel
theorem dX6_space_1 : decode cX6_space 1 = .ok (.iload_n 1, 1) := by decide +kernel
theorem dX6_space_2 : decode cX6_space 2 = .ok (.invokevirtual 187, 3) := by decide +kernel
theorem dX6_space_5 : decode cX6_space 5 = .ok (.ifCond .ne 7, 3) := by decide +kernel
theorem dX6_space_8 : decode cX6_space 8 = .ok (.ldc2_w 204, 3) := by decide +kernel
theorem dX6_space_11 : decode cX6_space 11 = .ok (.lreturn, 1) := by decide +kernel
theorem dX6_space_12 : decode cX6_space 12 = .ok (.iload_n 2, 1) := by decide +kernel
theorem dX6_space_13 : decode cX6_space 13 = .ok (.invokestatic 201, 3) := by decide +kernel
theorem dX6_space_16 : decode cX6_space 16 = .ok (.ifCond .eq 15, 3) := by decide +kernel
theorem dX6_space_19 : decode cX6_space 19 = .ok (.iload_n 3, 1) := by decide +kernel
theorem dX6_space_20 : decode cX6_space 20 = .ok (.i2l, 1) := by decide +kernel
theorem dX6_space_21 : decode cX6_space 21 = .ok (.lconst 0, 1) := by decide +kernel
theorem dX6_space_22 : decode cX6_space 22 = .ok (.ldc2_w 206, 3) := by decide +kernel
theorem dX6_space_25 : decode cX6_space 25 = .ok (.invokestatic 63, 3) := by decide +kernel
theorem dX6_space_28 : decode cX6_space 28 = .ok (.ifCond .ne 7, 3) := by decide +kernel
theorem dX6_space_31 : decode cX6_space 31 = .ok (.ldc2_w 185, 3) := by decide +kernel
theorem dX6_space_34 : decode cX6_space 34 = .ok (.lreturn, 1) := by decide +kernel
theorem dX6_space_35 : decode cX6_space 35 = .ok (.aload_n 0, 1) := by decide +kernel
theorem dX6_space_36 : decode cX6_space 36 = .ok (.invokevirtual 147, 3) := by decide +kernel
theorem dX6_space_39 : decode cX6_space 39 = .ok (.aload_n 0, 1) := by decide +kernel
theorem dX6_space_40 : decode cX6_space 40 = .ok (.invokevirtual 208, 3) := by decide +kernel
theorem dX6_space_43 : decode cX6_space 43 = .ok (.iload_n 2, 1) := by decide +kernel
theorem dX6_space_44 : decode cX6_space 44 = .ok (.ifCond .ne 9, 3) := by decide +kernel
theorem dX6_space_47 : decode cX6_space 47 = .ok (.iconst 3, 1) := by decide +kernel
theorem dX6_space_48 : decode cX6_space 48 = .ok (.iload_n 1, 1) := by decide +kernel
theorem dX6_space_49 : decode cX6_space 49 = .ok (.iadd, 1) := by decide +kernel
theorem dX6_space_50 : decode cX6_space 50 = .ok (.goto 4, 3) := by decide +kernel
theorem dX6_space_53 : decode cX6_space 53 = .ok (.iload_n 1, 1) := by decide +kernel
theorem dX6_space_54 : decode cX6_space 54 = .ok (.istore 4, 2) := by decide +kernel
theorem dX6_space_56 : decode cX6_space 56 = .ok (.iload_n 3, 1) := by decide +kernel
theorem dX6_space_57 : decode cX6_space 57 = .ok (.tableswitch 81 0 2 #[27, 46, 65], 27) := by decide +kernel
theorem dX6_space_84 : decode cX6_space 84 = .ok (.aload_n 0, 1) := by decide +kernel
theorem dX6_space_85 : decode cX6_space 85 = .ok (.getfield 20, 3) := by decide +kernel
theorem dX6_space_88 : decode cX6_space 88 = .ok (.iload 4, 2) := by decide +kernel
theorem dX6_space_90 : decode cX6_space 90 = .ok (.laload, 1) := by decide +kernel
theorem dX6_space_91 : decode cX6_space 91 = .ok (.ldc2_w 125, 3) := by decide +kernel
theorem dX6_space_94 : decode cX6_space 94 = .ok (.aload_n 0, 1) := by decide +kernel
theorem dX6_space_95 : decode cX6_space 95 = .ok (.getfield 112, 3) := by decide +kernel
theorem dX6_space_98 : decode cX6_space 98 = .ok (.lmul, 1) := by decide +kernel
theorem dX6_space_99 : decode cX6_space 99 = .ok (.invokestatic 154, 3) := by decide +kernel
theorem dX6_space_102 : decode cX6_space 102 = .ok (.lreturn, 1) := by decide +kernel
theorem dX6_space_103 : decode cX6_space 103 = .ok (.aload_n 0, 1) := by decide +kernel
theorem dX6_space_104 : decode cX6_space 104 = .ok (.getfield 20, 3) := by decide +kernel
theorem dX6_space_107 : decode cX6_space 107 = .ok (.iload 4, 2) := by decide +kernel
theorem dX6_space_109 : decode cX6_space 109 = .ok (.laload, 1) := by decide +kernel
theorem dX6_space_110 : decode cX6_space 110 = .ok (.ldc2_w 125, 3) := by decide +kernel
theorem dX6_space_113 : decode cX6_space 113 = .ok (.aload_n 0, 1) := by decide +kernel
theorem dX6_space_114 : decode cX6_space 114 = .ok (.getfield 112, 3) := by decide +kernel
theorem dX6_space_117 : decode cX6_space 117 = .ok (.lmul, 1) := by decide +kernel
theorem dX6_space_118 : decode cX6_space 118 = .ok (.invokestatic 161, 3) := by decide +kernel
theorem dX6_space_121 : decode cX6_space 121 = .ok (.lreturn, 1) := by decide +kernel
theorem dX6_space_122 : decode cX6_space 122 = .ok (.aload_n 0, 1) := by decide +kernel
theorem dX6_space_123 : decode cX6_space 123 = .ok (.getfield 16, 3) := by decide +kernel
theorem dX6_space_126 : decode cX6_space 126 = .ok (.iload 4, 2) := by decide +kernel
theorem dX6_space_128 : decode cX6_space 128 = .ok (.baload, 1) := by decide +kernel
theorem dX6_space_129 : decode cX6_space 129 = .ok (.ifCond .eq 7, 3) := by decide +kernel
theorem dX6_space_132 : decode cX6_space 132 = .ok (.lconst 1, 1) := by decide +kernel
theorem dX6_space_133 : decode cX6_space 133 = .ok (.goto 4, 3) := by decide +kernel
theorem dX6_space_136 : decode cX6_space 136 = .ok (.lconst 0, 1) := by decide +kernel
theorem dX6_space_137 : decode cX6_space 137 = .ok (.lreturn, 1) := by decide +kernel
theorem dX6_space_138 : decode cX6_space 138 = .ok (.aload_n 0, 1) := by decide +kernel
theorem dX6_space_139 : decode cX6_space 139 = .ok (.getfield 33, 3) := by decide +kernel
theorem dX6_space_142 : decode cX6_space 142 = .ok (.iload 4, 2) := by decide +kernel
theorem dX6_space_144 : decode cX6_space 144 = .ok (.laload, 1) := by decide +kernel
theorem dX6_space_145 : decode cX6_space 145 = .ok (.lreturn, 1) := by decide +kernel
set_option maxRecDepth 20000 in
theorem ggX6_pair_X6_isLetter : GoodIn wsX6_pair wsX6_isLetter := goodIn_r _ [8, 9, 10, 11, 7, 12, 82, 83, 84, 85, 86, 87, 88, 89, 90, 91, 92, 93, 94, 95, 96, 97, 98] (by decide +kernel) (by decide +kernel)
set_option maxRecDepth 20000 in
theorem gX6_pair_X6_isLetter : GoodIn wsX6_pair (wsV RX6 187 RX6 yX6_isLetter wsX6_isLetter) := goodIn_app (goodIn_of _ (by decide +kernel)) ggX6_pair_X6_isLetter
set_option maxRecDepth 20000 in
theorem ggX6_pair_X6_solve : GoodIn wsX6_pair wsX6_solve := goodIn_r _ [16, 17, 2, 18, 19, 20, 21, 22, 7, 23, 24, 25, 26, 27, 28, 29, 30, 31, 32, 33, 34, 35, 36, 37, 9, 38, 39, 40, 41, 42, 43, 44, 45, 46, 47, 48, 49, 50, 51, 52, 53, 54, 55, 56, 57, 58, 59, 60, 61, 62, 63, 64, 82, 83, 84, 85, 86, 87, 88, 89, 90, 91, 92, 93, 94, 95, 96, 97, 98] (by decide +kernel) (by decide +kernel)
set_option maxRecDepth 20000 in
theorem gX6_pair_X6_solve : GoodIn wsX6_pair (wsV RX6 147 RX6 yX6_solve wsX6_solve) := goodIn_app (goodIn_of _ (by decide +kernel)) ggX6_pair_X6_solve
set_option maxRecDepth 20000 in
theorem ggX6_pair_X6_weightOf : GoodIn wsX6_pair wsX6_weightOf := goodIn_r _ [41, 9, 82, 83, 84, 85, 86, 87, 88, 89, 90, 91, 92, 93, 94, 95, 96, 97, 98] (by decide +kernel) (by decide +kernel)
set_option maxRecDepth 20000 in
theorem gX6_pair_X6_weightOf : GoodIn wsX6_pair (wsV RX6 81 RX6 yX6_weightOf wsX6_weightOf) := goodIn_app (goodIn_of _ (by decide +kernel)) ggX6_pair_X6_weightOf
set_option maxRecDepth 20000 in
theorem ggX6_pair_X6_bare : GoodIn wsX6_pair wsX6_bare := goodIn_r _ [61, 9, 62, 63, 7, 64, 82, 83, 84, 85, 86, 87, 88, 89, 90, 91, 92, 93, 94, 95, 96, 97, 98] (by decide +kernel) (by decide +kernel)
set_option maxRecDepth 20000 in
theorem gX6_pair_X6_bare : GoodIn wsX6_pair (wsV RX6 102 RX6 yX6_bare wsX6_bare) := goodIn_app (goodIn_of _ (by decide +kernel)) ggX6_pair_X6_bare
set_option maxRecDepth 20000 in
theorem ggX6_pair_X6_whiteOf : GoodIn wsX6_pair wsX6_whiteOf := goodIn_r _ [68, 2, 18, 58, 59, 60, 7, 61, 9, 62, 63, 64, 82, 83, 84, 85, 86, 87, 88, 89, 90, 91, 92, 93, 94, 95, 96, 97, 98] (by decide +kernel) (by decide +kernel)
set_option maxRecDepth 20000 in
theorem gX6_pair_X6_whiteOf : GoodIn wsX6_pair (wsV RX6 116 RX6 yX6_whiteOf wsX6_whiteOf) := goodIn_app (goodIn_of _ (by decide +kernel)) ggX6_pair_X6_whiteOf
set_option maxRecDepth 20000 in
theorem ggX6_pair_X6_above : GoodIn wsX6_pair wsX6_above := goodIn_r _ [71, 72, 73, 7, 74] (by decide +kernel) (by decide +kernel)
set_option maxRecDepth 20000 in
theorem gX6_pair_X6_above : GoodIn wsX6_pair (va_wsS RX6 154 yX6_above wsX6_above) := goodIn_app (goodIn_of _ (by decide +kernel)) ggX6_pair_X6_above
set_option maxRecDepth 20000 in
theorem ggX6_pair_X6_below : GoodIn wsX6_pair wsX6_below := goodIn_r _ [77, 72, 73, 7, 74] (by decide +kernel) (by decide +kernel)
set_option maxRecDepth 20000 in
theorem gX6_pair_X6_below : GoodIn wsX6_pair (va_wsS RX6 161 yX6_below wsX6_below) := goodIn_app (goodIn_of _ (by decide +kernel)) ggX6_pair_X6_below
set_option maxRecDepth 20000 in
theorem ggX6_pair_X6_overOf : GoodIn wsX6_pair wsX6_overOf := goodIn_r _ [81, 9, 2, 65, 66, 67, 7, 68, 18, 58, 59, 60, 61, 62, 63, 64, 82, 83, 84, 85, 86, 87, 88, 89, 90, 91, 92, 93, 94, 95, 96, 97, 98] (by decide +kernel) (by decide +kernel)
set_option maxRecDepth 20000 in
theorem gX6_pair_X6_overOf : GoodIn wsX6_pair (wsV RX6 120 RX6 yX6_overOf wsX6_overOf) := goodIn_app (goodIn_of _ (by decide +kernel)) ggX6_pair_X6_overOf
theorem dX6_pair_0 : decode cX6_pair 0 = .ok (.aload_n 0, 1) := by decide +kernel
theorem dX6_pair_1 : decode cX6_pair 1 = .ok (.iload_n 1, 1) := by decide +kernel
theorem dX6_pair_2 : decode cX6_pair 2 = .ok (.invokevirtual 187, 3) := by decide +kernel
theorem dX6_pair_5 : decode cX6_pair 5 = .ok (.ifCond .eq 11, 3) := by decide +kernel
theorem dX6_pair_8 : decode cX6_pair 8 = .ok (.aload_n 0, 1) := by decide +kernel
theorem dX6_pair_9 : decode cX6_pair 9 = .ok (.iload_n 2, 1) := by decide +kernel
theorem dX6_pair_10 : decode cX6_pair 10 = .ok (.invokevirtual 187, 3) := by decide +kernel
theorem dX6_pair_13 : decode cX6_pair 13 = .ok (.ifCond .ne 7, 3) := by decide +kernel
theorem dX6_pair_16 : decode cX6_pair 16 = .ok (.ldc2_w 204, 3) := by decide +kernel
theorem dX6_pair_19 : decode cX6_pair 19 = .ok (.lreturn, 1) := by decide +kernel
theorem dX6_pair_20 : decode cX6_pair 20 = .ok (.aload_n 0, 1) := by decide +kernel
theorem dX6_pair_21 : decode cX6_pair 21 = .ok (.invokevirtual 147, 3) := by decide +kernel
theorem dX6_pair_24 : decode cX6_pair 24 = .ok (.iload_n 3, 1) := by decide +kernel
theorem dX6_pair_25 : decode cX6_pair 25 = .ok (.tableswitch 111 0 5 #[39, 47, 55, 69, 83, 97], 39) := by decide +kernel
theorem dX6_pair_64 : decode cX6_pair 64 = .ok (.aload_n 0, 1) := by decide +kernel
theorem dX6_pair_65 : decode cX6_pair 65 = .ok (.iload_n 1, 1) := by decide +kernel
theorem dX6_pair_66 : decode cX6_pair 66 = .ok (.iload_n 2, 1) := by decide +kernel
theorem dX6_pair_67 : decode cX6_pair 67 = .ok (.invokevirtual 81, 3) := by decide +kernel
theorem dX6_pair_70 : decode cX6_pair 70 = .ok (.i2l, 1) := by decide +kernel
theorem dX6_pair_71 : decode cX6_pair 71 = .ok (.lreturn, 1) := by decide +kernel
theorem dX6_pair_72 : decode cX6_pair 72 = .ok (.aload_n 0, 1) := by decide +kernel
theorem dX6_pair_73 : decode cX6_pair 73 = .ok (.iload_n 1, 1) := by decide +kernel
theorem dX6_pair_74 : decode cX6_pair 74 = .ok (.iload_n 2, 1) := by decide +kernel
theorem dX6_pair_75 : decode cX6_pair 75 = .ok (.invokevirtual 102, 3) := by decide +kernel
theorem dX6_pair_78 : decode cX6_pair 78 = .ok (.i2l, 1) := by decide +kernel
theorem dX6_pair_79 : decode cX6_pair 79 = .ok (.lreturn, 1) := by decide +kernel
theorem dX6_pair_80 : decode cX6_pair 80 = .ok (.aload_n 0, 1) := by decide +kernel
theorem dX6_pair_81 : decode cX6_pair 81 = .ok (.iload_n 1, 1) := by decide +kernel
theorem dX6_pair_82 : decode cX6_pair 82 = .ok (.iload_n 2, 1) := by decide +kernel
theorem dX6_pair_83 : decode cX6_pair 83 = .ok (.invokevirtual 116, 3) := by decide +kernel
theorem dX6_pair_86 : decode cX6_pair 86 = .ok (.aload_n 0, 1) := by decide +kernel
theorem dX6_pair_87 : decode cX6_pair 87 = .ok (.getfield 112, 3) := by decide +kernel
theorem dX6_pair_90 : decode cX6_pair 90 = .ok (.invokestatic 154, 3) := by decide +kernel
theorem dX6_pair_93 : decode cX6_pair 93 = .ok (.lreturn, 1) := by decide +kernel
theorem dX6_pair_94 : decode cX6_pair 94 = .ok (.aload_n 0, 1) := by decide +kernel
theorem dX6_pair_95 : decode cX6_pair 95 = .ok (.iload_n 1, 1) := by decide +kernel
theorem dX6_pair_96 : decode cX6_pair 96 = .ok (.iload_n 2, 1) := by decide +kernel
theorem dX6_pair_97 : decode cX6_pair 97 = .ok (.invokevirtual 116, 3) := by decide +kernel
theorem dX6_pair_100 : decode cX6_pair 100 = .ok (.aload_n 0, 1) := by decide +kernel
theorem dX6_pair_101 : decode cX6_pair 101 = .ok (.getfield 112, 3) := by decide +kernel
theorem dX6_pair_104 : decode cX6_pair 104 = .ok (.invokestatic 161, 3) := by decide +kernel
theorem dX6_pair_107 : decode cX6_pair 107 = .ok (.lreturn, 1) := by decide +kernel
theorem dX6_pair_108 : decode cX6_pair 108 = .ok (.aload_n 0, 1) := by decide +kernel
theorem dX6_pair_109 : decode cX6_pair 109 = .ok (.iload_n 1, 1) := by decide +kernel
theorem dX6_pair_110 : decode cX6_pair 110 = .ok (.iload_n 2, 1) := by decide +kernel
theorem dX6_pair_111 : decode cX6_pair 111 = .ok (.invokevirtual 120, 3) := by decide +kernel
theorem dX6_pair_114 : decode cX6_pair 114 = .ok (.aload_n 0, 1) := by decide +kernel
theorem dX6_pair_115 : decode cX6_pair 115 = .ok (.getfield 112, 3) := by decide +kernel
theorem dX6_pair_118 : decode cX6_pair 118 = .ok (.invokestatic 154, 3) := by decide +kernel
theorem dX6_pair_121 : decode cX6_pair 121 = .ok (.lreturn, 1) := by decide +kernel
theorem dX6_pair_122 : decode cX6_pair 122 = .ok (.aload_n 0, 1) := by decide +kernel
theorem dX6_pair_123 : decode cX6_pair 123 = .ok (.iload_n 1, 1) := by decide +kernel
theorem dX6_pair_124 : decode cX6_pair 124 = .ok (.iload_n 2, 1) := by decide +kernel
theorem dX6_pair_125 : decode cX6_pair 125 = .ok (.invokevirtual 120, 3) := by decide +kernel
theorem dX6_pair_128 : decode cX6_pair 128 = .ok (.aload_n 0, 1) := by decide +kernel
theorem dX6_pair_129 : decode cX6_pair 129 = .ok (.getfield 112, 3) := by decide +kernel
theorem dX6_pair_132 : decode cX6_pair 132 = .ok (.invokestatic 161, 3) := by decide +kernel
theorem dX6_pair_135 : decode cX6_pair 135 = .ok (.lreturn, 1) := by decide +kernel
theorem dX6_pair_136 : decode cX6_pair 136 = .ok (.ldc2_w 185, 3) := by decide +kernel
theorem dX6_pair_139 : decode cX6_pair 139 = .ok (.lreturn, 1) := by decide +kernel
set_option maxRecDepth 20000 in
theorem ggX6_white_X6_isLetter : GoodIn wsX6_white wsX6_isLetter := goodIn_r _ [8, 9, 10, 11, 7, 12, 80, 81, 82, 83, 84, 85, 86, 87, 88, 89, 90, 91, 92, 93, 94, 95, 96] (by decide +kernel) (by decide +kernel)
set_option maxRecDepth 20000 in
theorem gX6_white_X6_isLetter : GoodIn wsX6_white (wsV RX6 187 RX6 yX6_isLetter wsX6_isLetter) := goodIn_app (goodIn_of _ (by decide +kernel)) ggX6_white_X6_isLetter
set_option maxRecDepth 20000 in
theorem ggX6_white_X6_solve : GoodIn wsX6_white wsX6_solve := goodIn_r _ [16, 17, 18, 19, 20, 21, 22, 23, 7, 24, 25, 26, 27, 28, 29, 30, 31, 32, 33, 34, 35, 36, 37, 38, 9, 39, 40, 41, 42, 43, 44, 45, 46, 47, 48, 49, 50, 51, 52, 53, 54, 55, 56, 57, 58, 59, 60, 61, 62, 63, 64, 65, 80, 81, 82, 83, 84, 85, 86, 87, 88, 89, 90, 91, 92, 93, 94, 95, 96] (by decide +kernel) (by decide +kernel)
set_option maxRecDepth 20000 in
theorem gX6_white_X6_solve : GoodIn wsX6_white (wsV RX6 147 RX6 yX6_solve wsX6_solve) := goodIn_app (goodIn_of _ (by decide +kernel)) ggX6_white_X6_solve
set_option maxRecDepth 20000 in
theorem ggX6_white_X6_layWholes : GoodIn wsX6_white wsX6_layWholes := goodIn_r _ [69, 3, 19, 2, 18, 70, 71, 72, 35, 36, 37, 7, 38, 9, 73, 74, 75, 76, 77, 78, 79, 80, 81, 82, 83, 84, 85, 86, 87, 88, 89, 90, 91, 92, 93, 94, 95, 96] (by decide +kernel) (by decide +kernel)
set_option maxRecDepth 20000 in
theorem gX6_white_X6_layWholes : GoodIn wsX6_white (wsV RX6 208 RX6 yX6_layWholes wsX6_layWholes) := goodIn_app (goodIn_of _ (by decide +kernel)) ggX6_white_X6_layWholes
set_option maxRecDepth 20000 in
theorem ggX6_white_X6_bare : GoodIn wsX6_white wsX6_bare := goodIn_r _ [62, 9, 63, 64, 7, 65, 80, 81, 82, 83, 84, 85, 86, 87, 88, 89, 90, 91, 92, 93, 94, 95, 96] (by decide +kernel) (by decide +kernel)
set_option maxRecDepth 20000 in
theorem gX6_white_X6_bare : GoodIn wsX6_white (wsV RX6 102 RX6 yX6_bare wsX6_bare) := goodIn_app (goodIn_of _ (by decide +kernel)) ggX6_white_X6_bare
theorem dX6_white_0 : decode cX6_white 0 = .ok (.aload_n 0, 1) := by decide +kernel
theorem dX6_white_1 : decode cX6_white 1 = .ok (.iload_n 1, 1) := by decide +kernel
theorem dX6_white_2 : decode cX6_white 2 = .ok (.invokevirtual 187, 3) := by decide +kernel
theorem dX6_white_5 : decode cX6_white 5 = .ok (.ifCond .eq 11, 3) := by decide +kernel
theorem dX6_white_8 : decode cX6_white 8 = .ok (.aload_n 0, 1) := by decide +kernel
theorem dX6_white_9 : decode cX6_white 9 = .ok (.iload_n 2, 1) := by decide +kernel
theorem dX6_white_10 : decode cX6_white 10 = .ok (.invokevirtual 187, 3) := by decide +kernel
theorem dX6_white_13 : decode cX6_white 13 = .ok (.ifCond .ne 6, 3) := by decide +kernel
theorem dX6_white_16 : decode cX6_white 16 = .ok (.ldc 190, 2) := by decide +kernel
theorem dX6_white_18 : decode cX6_white 18 = .ok (.ireturn, 1) := by decide +kernel
theorem dX6_white_19 : decode cX6_white 19 = .ok (.aload_n 0, 1) := by decide +kernel
theorem dX6_white_20 : decode cX6_white 20 = .ok (.invokevirtual 147, 3) := by decide +kernel
theorem dX6_white_23 : decode cX6_white 23 = .ok (.aload_n 0, 1) := by decide +kernel
theorem dX6_white_24 : decode cX6_white 24 = .ok (.invokevirtual 208, 3) := by decide +kernel
theorem dX6_white_27 : decode cX6_white 27 = .ok (.aload_n 0, 1) := by decide +kernel
theorem dX6_white_28 : decode cX6_white 28 = .ok (.iload_n 1, 1) := by decide +kernel
theorem dX6_white_29 : decode cX6_white 29 = .ok (.iload_n 2, 1) := by decide +kernel
theorem dX6_white_30 : decode cX6_white 30 = .ok (.invokevirtual 102, 3) := by decide +kernel
theorem dX6_white_33 : decode cX6_white 33 = .ok (.ldc2_w 125, 3) := by decide +kernel
theorem dX6_white_36 : decode cX6_white 36 = .ok (.aload_n 0, 1) := by decide +kernel
theorem dX6_white_37 : decode cX6_white 37 = .ok (.getfield 33, 3) := by decide +kernel
theorem dX6_white_40 : decode cX6_white 40 = .ok (.iload_n 1, 1) := by decide +kernel
theorem dX6_white_41 : decode cX6_white 41 = .ok (.laload, 1) := by decide +kernel
theorem dX6_white_42 : decode cX6_white 42 = .ok (.aload_n 0, 1) := by decide +kernel
theorem dX6_white_43 : decode cX6_white 43 = .ok (.getfield 33, 3) := by decide +kernel
theorem dX6_white_46 : decode cX6_white 46 = .ok (.iconst 3, 1) := by decide +kernel
theorem dX6_white_47 : decode cX6_white 47 = .ok (.iload_n 2, 1) := by decide +kernel
theorem dX6_white_48 : decode cX6_white 48 = .ok (.iadd, 1) := by decide +kernel
theorem dX6_white_49 : decode cX6_white 49 = .ok (.laload, 1) := by decide +kernel
theorem dX6_white_50 : decode cX6_white 50 = .ok (.ladd, 1) := by decide +kernel
theorem dX6_white_51 : decode cX6_white 51 = .ok (.lmul, 1) := by decide +kernel
theorem dX6_white_52 : decode cX6_white 52 = .ok (.l2i, 1) := by decide +kernel
theorem dX6_white_53 : decode cX6_white 53 = .ok (.iadd, 1) := by decide +kernel
theorem dX6_white_54 : decode cX6_white 54 = .ok (.ireturn, 1) := by decide +kernel
theorem dX6_remember_0 : decode cX6_remember 0 = .ok (.aload_n 0, 1) := by decide +kernel
theorem dX6_remember_1 : decode cX6_remember 1 = .ok (.getfield 182, 3) := by decide +kernel
theorem dX6_remember_4 : decode cX6_remember 4 = .ok (.bipush 8, 2) := by decide +kernel
theorem dX6_remember_6 : decode cX6_remember 6 = .ok (.if_icmp .ne 44, 3) := by decide +kernel
theorem dX6_remember_9 : decode cX6_remember 9 = .ok (.bipush 63, 2) := by decide +kernel
theorem dX6_remember_11 : decode cX6_remember 11 = .ok (.istore_n 1, 1) := by decide +kernel
theorem dX6_remember_12 : decode cX6_remember 12 = .ok (.iload_n 1, 1) := by decide +kernel
theorem dX6_remember_13 : decode cX6_remember 13 = .ok (.sipush 504, 3) := by decide +kernel
theorem dX6_remember_16 : decode cX6_remember 16 = .ok (.if_icmp .ge 24, 3) := by decide +kernel
theorem dX6_remember_19 : decode cX6_remember 19 = .ok (.aload_n 0, 1) := by decide +kernel
theorem dX6_remember_20 : decode cX6_remember 20 = .ok (.getfield 42, 3) := by decide +kernel
theorem dX6_remember_23 : decode cX6_remember 23 = .ok (.iload_n 1, 1) := by decide +kernel
theorem dX6_remember_24 : decode cX6_remember 24 = .ok (.bipush 63, 2) := by decide +kernel
theorem dX6_remember_26 : decode cX6_remember 26 = .ok (.isub, 1) := by decide +kernel
theorem dX6_remember_27 : decode cX6_remember 27 = .ok (.aload_n 0, 1) := by decide +kernel
theorem dX6_remember_28 : decode cX6_remember 28 = .ok (.getfield 42, 3) := by decide +kernel
theorem dX6_remember_31 : decode cX6_remember 31 = .ok (.iload_n 1, 1) := by decide +kernel
theorem dX6_remember_32 : decode cX6_remember 32 = .ok (.iaload, 1) := by decide +kernel
theorem dX6_remember_33 : decode cX6_remember 33 = .ok (.iastore, 1) := by decide +kernel
theorem dX6_remember_34 : decode cX6_remember 34 = .ok (.iinc 1 1, 3) := by decide +kernel
theorem dX6_remember_37 : decode cX6_remember 37 = .ok (.goto (-25), 3) := by decide +kernel
theorem dX6_remember_40 : decode cX6_remember 40 = .ok (.aload_n 0, 1) := by decide +kernel
theorem dX6_remember_41 : decode cX6_remember 41 = .ok (.dup, 1) := by decide +kernel
theorem dX6_remember_42 : decode cX6_remember 42 = .ok (.getfield 182, 3) := by decide +kernel
theorem dX6_remember_45 : decode cX6_remember 45 = .ok (.iconst 1, 1) := by decide +kernel
theorem dX6_remember_46 : decode cX6_remember 46 = .ok (.isub, 1) := by decide +kernel
theorem dX6_remember_47 : decode cX6_remember 47 = .ok (.putfield 182, 3) := by decide +kernel
theorem dX6_remember_50 : decode cX6_remember 50 = .ok (.iconst 0, 1) := by decide +kernel
theorem dX6_remember_51 : decode cX6_remember 51 = .ok (.istore_n 1, 1) := by decide +kernel
theorem dX6_remember_52 : decode cX6_remember 52 = .ok (.iload_n 1, 1) := by decide +kernel
theorem dX6_remember_53 : decode cX6_remember 53 = .ok (.bipush 63, 2) := by decide +kernel
theorem dX6_remember_55 : decode cX6_remember 55 = .ok (.if_icmp .ge 29, 3) := by decide +kernel
theorem dX6_remember_58 : decode cX6_remember 58 = .ok (.aload_n 0, 1) := by decide +kernel
theorem dX6_remember_59 : decode cX6_remember 59 = .ok (.getfield 42, 3) := by decide +kernel
theorem dX6_remember_62 : decode cX6_remember 62 = .ok (.bipush 63, 2) := by decide +kernel
theorem dX6_remember_64 : decode cX6_remember 64 = .ok (.aload_n 0, 1) := by decide +kernel
theorem dX6_remember_65 : decode cX6_remember 65 = .ok (.getfield 182, 3) := by decide +kernel
theorem dX6_remember_68 : decode cX6_remember 68 = .ok (.imul, 1) := by decide +kernel
theorem dX6_remember_69 : decode cX6_remember 69 = .ok (.iload_n 1, 1) := by decide +kernel
theorem dX6_remember_70 : decode cX6_remember 70 = .ok (.iadd, 1) := by decide +kernel
theorem dX6_remember_71 : decode cX6_remember 71 = .ok (.aload_n 0, 1) := by decide +kernel
theorem dX6_remember_72 : decode cX6_remember 72 = .ok (.getfield 7, 3) := by decide +kernel
theorem dX6_remember_75 : decode cX6_remember 75 = .ok (.iload_n 1, 1) := by decide +kernel
theorem dX6_remember_76 : decode cX6_remember 76 = .ok (.iaload, 1) := by decide +kernel
theorem dX6_remember_77 : decode cX6_remember 77 = .ok (.iastore, 1) := by decide +kernel
theorem dX6_remember_78 : decode cX6_remember 78 = .ok (.iinc 1 1, 3) := by decide +kernel
theorem dX6_remember_81 : decode cX6_remember 81 = .ok (.goto (-29), 3) := by decide +kernel
theorem dX6_remember_84 : decode cX6_remember 84 = .ok (.aload_n 0, 1) := by decide +kernel
theorem dX6_remember_85 : decode cX6_remember 85 = .ok (.dup, 1) := by decide +kernel
theorem dX6_remember_86 : decode cX6_remember 86 = .ok (.getfield 182, 3) := by decide +kernel
theorem dX6_remember_89 : decode cX6_remember 89 = .ok (.iconst 1, 1) := by decide +kernel
theorem dX6_remember_90 : decode cX6_remember 90 = .ok (.iadd, 1) := by decide +kernel
theorem dX6_remember_91 : decode cX6_remember 91 = .ok (.putfield 182, 3) := by decide +kernel
theorem dX6_remember_94 : decode cX6_remember 94 = .ok (.return_, 1) := by decide +kernel
set_option maxRecDepth 20000 in
theorem ggX6_letters_X6_in : GoodIn wsX6_letters wsX6_in := goodIn_r _ [8] (by decide +kernel) (by decide +kernel)
set_option maxRecDepth 20000 in
theorem gX6_letters_X6_in : GoodIn wsX6_letters (va_wsS RX6 63 yX6_in wsX6_in) := goodIn_app (goodIn_of _ (by decide +kernel)) ggX6_letters_X6_in
set_option maxRecDepth 20000 in
theorem ggX6_letters_X6_remember : GoodIn wsX6_letters wsX6_remember := goodIn_r _ [12, 13, 14, 3, 21, 22, 23, 24, 25, 26, 27, 28, 29, 30, 31, 32, 33, 34, 35, 36, 37] (by decide +kernel) (by decide +kernel)
set_option maxRecDepth 20000 in
theorem gX6_letters_X6_remember : GoodIn wsX6_letters (wsV RX6 211 RX6 yX6_remember wsX6_remember) := goodIn_app (goodIn_of _ (by decide +kernel)) ggX6_letters_X6_remember
set_option maxRecDepth 20000 in
theorem ggX6_letters_X6_beginLetters : GoodIn wsX6_letters wsX6_beginLetters := goodIn_r _ [18, 3, 19, 20, 5, 6, 7, 8, 21, 22, 23, 24, 25, 26, 27, 28, 29, 30, 31, 32, 33, 34, 35, 36, 37] (by decide +kernel) (by decide +kernel)
set_option maxRecDepth 20000 in
theorem gX6_letters_X6_beginLetters : GoodIn wsX6_letters (wsV RX6 55 RX6 yX6_beginLetters wsX6_beginLetters) := goodIn_app (goodIn_of _ (by decide +kernel)) ggX6_letters_X6_beginLetters
theorem dX6_letters_0 : decode cX6_letters 0 = .ok (.iload_n 1, 1) := by decide +kernel
theorem dX6_letters_1 : decode cX6_letters 1 = .ok (.i2l, 1) := by decide +kernel
theorem dX6_letters_2 : decode cX6_letters 2 = .ok (.lconst 1, 1) := by decide +kernel
theorem dX6_letters_3 : decode cX6_letters 3 = .ok (.ldc2_w 206, 3) := by decide +kernel
theorem dX6_letters_6 : decode cX6_letters 6 = .ok (.invokestatic 63, 3) := by decide +kernel
theorem dX6_letters_9 : decode cX6_letters 9 = .ok (.ifCond .ne 6, 3) := by decide +kernel
theorem dX6_letters_12 : decode cX6_letters 12 = .ok (.ldc 197, 2) := by decide +kernel
theorem dX6_letters_14 : decode cX6_letters 14 = .ok (.ireturn, 1) := by decide +kernel
theorem dX6_letters_15 : decode cX6_letters 15 = .ok (.aload_n 0, 1) := by decide +kernel
theorem dX6_letters_16 : decode cX6_letters 16 = .ok (.invokevirtual 211, 3) := by decide +kernel
theorem dX6_letters_19 : decode cX6_letters 19 = .ok (.aload_n 0, 1) := by decide +kernel
theorem dX6_letters_20 : decode cX6_letters 20 = .ok (.getfield 7, 3) := by decide +kernel
theorem dX6_letters_23 : decode cX6_letters 23 = .ok (.bipush 60, 2) := by decide +kernel
theorem dX6_letters_25 : decode cX6_letters 25 = .ok (.iaload, 1) := by decide +kernel
theorem dX6_letters_26 : decode cX6_letters 26 = .ok (.istore_n 2, 1) := by decide +kernel
theorem dX6_letters_27 : decode cX6_letters 27 = .ok (.aload_n 0, 1) := by decide +kernel
theorem dX6_letters_28 : decode cX6_letters 28 = .ok (.iload_n 1, 1) := by decide +kernel
theorem dX6_letters_29 : decode cX6_letters 29 = .ok (.invokevirtual 55, 3) := by decide +kernel
theorem dX6_letters_32 : decode cX6_letters 32 = .ok (.aload_n 0, 1) := by decide +kernel
theorem dX6_letters_33 : decode cX6_letters 33 = .ok (.iconst 0, 1) := by decide +kernel
theorem dX6_letters_34 : decode cX6_letters 34 = .ok (.putfield 51, 3) := by decide +kernel
theorem dX6_letters_37 : decode cX6_letters 37 = .ok (.iload_n 2, 1) := by decide +kernel
theorem dX6_letters_38 : decode cX6_letters 38 = .ok (.ireturn, 1) := by decide +kernel
set_option maxRecDepth 20000 in
theorem ggX6_become_X6_remember : GoodIn wsX6_become wsX6_remember := goodIn_r _ [6, 7, 8, 1, 9, 10, 11, 12, 13, 14, 15, 16, 17, 18, 19, 20, 21, 22, 23, 24, 25] (by decide +kernel) (by decide +kernel)
set_option maxRecDepth 20000 in
theorem gX6_become_X6_remember : GoodIn wsX6_become (wsV RX6 211 RX6 yX6_remember wsX6_remember) := goodIn_app (goodIn_of _ (by decide +kernel)) ggX6_become_X6_remember
theorem dX6_become_0 : decode cX6_become 0 = .ok (.aload_n 0, 1) := by decide +kernel
theorem dX6_become_1 : decode cX6_become 1 = .ok (.invokevirtual 211, 3) := by decide +kernel
theorem dX6_become_4 : decode cX6_become 4 = .ok (.aload_n 0, 1) := by decide +kernel
theorem dX6_become_5 : decode cX6_become 5 = .ok (.getfield 7, 3) := by decide +kernel
theorem dX6_become_8 : decode cX6_become 8 = .ok (.iload_n 1, 1) := by decide +kernel
theorem dX6_become_9 : decode cX6_become 9 = .ok (.iaload, 1) := by decide +kernel
theorem dX6_become_10 : decode cX6_become 10 = .ok (.istore_n 3, 1) := by decide +kernel
theorem dX6_become_11 : decode cX6_become 11 = .ok (.aload_n 0, 1) := by decide +kernel
theorem dX6_become_12 : decode cX6_become 12 = .ok (.getfield 7, 3) := by decide +kernel
theorem dX6_become_15 : decode cX6_become 15 = .ok (.iload_n 1, 1) := by decide +kernel
theorem dX6_become_16 : decode cX6_become 16 = .ok (.iload_n 2, 1) := by decide +kernel
theorem dX6_become_17 : decode cX6_become 17 = .ok (.iastore, 1) := by decide +kernel
theorem dX6_become_18 : decode cX6_become 18 = .ok (.iload_n 3, 1) := by decide +kernel
theorem dX6_become_19 : decode cX6_become 19 = .ok (.ireturn, 1) := by decide +kernel
set_option maxRecDepth 20000 in
theorem ggX6_side_X6_isLetter : GoodIn wsX6_side wsX6_isLetter := goodIn_r _ [8, 9, 10, 11, 7, 12, 33, 34, 35, 36, 37, 38, 39, 40, 41, 42, 43, 44, 45, 46, 47, 48, 49] (by decide +kernel) (by decide +kernel)
set_option maxRecDepth 20000 in
theorem gX6_side_X6_isLetter : GoodIn wsX6_side (wsV RX6 187 RX6 yX6_isLetter wsX6_isLetter) := goodIn_app (goodIn_of _ (by decide +kernel)) ggX6_side_X6_isLetter
set_option maxRecDepth 20000 in
theorem ggX6_side_X6_isHeight : GoodIn wsX6_side wsX6_isHeight := goodIn_r _ [15, 16, 10, 11, 7, 12] (by decide +kernel) (by decide +kernel)
set_option maxRecDepth 20000 in
theorem gX6_side_X6_isHeight : GoodIn wsX6_side (va_wsS RX6 198 yX6_isHeight wsX6_isHeight) := goodIn_app (goodIn_of _ (by decide +kernel)) ggX6_side_X6_isHeight
set_option maxRecDepth 20000 in
theorem ggX6_side_X6_isSide : GoodIn wsX6_side wsX6_isSide := goodIn_r _ [19, 10, 11, 7, 12] (by decide +kernel) (by decide +kernel)
set_option maxRecDepth 20000 in
theorem gX6_side_X6_isSide : GoodIn wsX6_side (va_wsS RX6 201 yX6_isSide wsX6_isSide) := goodIn_app (goodIn_of _ (by decide +kernel)) ggX6_side_X6_isSide
set_option maxRecDepth 20000 in
theorem ggX6_side_X6_in : GoodIn wsX6_side wsX6_in := goodIn_r _ [12] (by decide +kernel) (by decide +kernel)
set_option maxRecDepth 20000 in
theorem gX6_side_X6_in : GoodIn wsX6_side (va_wsS RX6 63 yX6_in wsX6_in) := goodIn_app (goodIn_of _ (by decide +kernel)) ggX6_side_X6_in
set_option maxRecDepth 20000 in
theorem ggX6_side_X6_at : GoodIn wsX6_side wsX6_at := goodIn_r _ [22] (by decide +kernel) (by decide +kernel)
set_option maxRecDepth 20000 in
theorem gX6_side_X6_at : GoodIn wsX6_side (va_wsS RX6 69 yX6_at wsX6_at) := goodIn_app (goodIn_of _ (by decide +kernel)) ggX6_side_X6_at
set_option maxRecDepth 20000 in
theorem ggX6_side_X6_become : GoodIn wsX6_side wsX6_become := goodIn_r _ [26, 9, 27, 28, 29, 7, 30, 31, 32, 33, 34, 35, 36, 37, 38, 39, 40, 41, 42, 43, 44, 45, 46, 47, 48, 49] (by decide +kernel) (by decide +kernel)
set_option maxRecDepth 20000 in
theorem gX6_side_X6_become : GoodIn wsX6_side (wsV RX6 216 RX6 yX6_become wsX6_become) := goodIn_app (goodIn_of _ (by decide +kernel)) ggX6_side_X6_become
theorem dX6_side_0 : decode cX6_side 0 = .ok (.aload_n 0, 1) := by decide +kernel
theorem dX6_side_1 : decode cX6_side 1 = .ok (.iload_n 1, 1) := by decide +kernel
theorem dX6_side_2 : decode cX6_side 2 = .ok (.invokevirtual 187, 3) := by decide +kernel
theorem dX6_side_5 : decode cX6_side 5 = .ok (.ifCond .eq 10, 3) := by decide +kernel
theorem dX6_side_8 : decode cX6_side 8 = .ok (.iload_n 3, 1) := by decide +kernel
theorem dX6_side_9 : decode cX6_side 9 = .ok (.invokestatic 198, 3) := by decide +kernel
theorem dX6_side_12 : decode cX6_side 12 = .ok (.ifCond .ne 6, 3) := by decide +kernel
theorem dX6_side_15 : decode cX6_side 15 = .ok (.ldc 190, 2) := by decide +kernel
theorem dX6_side_17 : decode cX6_side 17 = .ok (.ireturn, 1) := by decide +kernel
theorem dX6_side_18 : decode cX6_side 18 = .ok (.iload_n 2, 1) := by decide +kernel
theorem dX6_side_19 : decode cX6_side 19 = .ok (.invokestatic 201, 3) := by decide +kernel
theorem dX6_side_22 : decode cX6_side 22 = .ok (.ifCond .eq 31, 3) := by decide +kernel
theorem dX6_side_25 : decode cX6_side 25 = .ok (.iload 4, 2) := by decide +kernel
theorem dX6_side_27 : decode cX6_side 27 = .ok (.i2l, 1) := by decide +kernel
theorem dX6_side_28 : decode cX6_side 28 = .ok (.lconst 0, 1) := by decide +kernel
theorem dX6_side_29 : decode cX6_side 29 = .ok (.ldc2_w 214, 3) := by decide +kernel
theorem dX6_side_32 : decode cX6_side 32 = .ok (.invokestatic 63, 3) := by decide +kernel
theorem dX6_side_35 : decode cX6_side 35 = .ok (.ifCond .eq 18, 3) := by decide +kernel
theorem dX6_side_38 : decode cX6_side 38 = .ok (.aload_n 0, 1) := by decide +kernel
theorem dX6_side_39 : decode cX6_side 39 = .ok (.iload_n 1, 1) := by decide +kernel
theorem dX6_side_40 : decode cX6_side 40 = .ok (.iload_n 2, 1) := by decide +kernel
theorem dX6_side_41 : decode cX6_side 41 = .ok (.iload_n 3, 1) := by decide +kernel
theorem dX6_side_42 : decode cX6_side 42 = .ok (.invokestatic 69, 3) := by decide +kernel
theorem dX6_side_45 : decode cX6_side 45 = .ok (.iload 4, 2) := by decide +kernel
theorem dX6_side_47 : decode cX6_side 47 = .ok (.invokevirtual 216, 3) := by decide +kernel
theorem dX6_side_50 : decode cX6_side 50 = .ok (.goto 5, 3) := by decide +kernel
theorem dX6_side_53 : decode cX6_side 53 = .ok (.ldc 197, 2) := by decide +kernel
theorem dX6_side_55 : decode cX6_side 55 = .ok (.ireturn, 1) := by decide +kernel
set_option maxRecDepth 20000 in
theorem ggX6_body_X6_isLetter : GoodIn wsX6_body wsX6_isLetter := goodIn_r _ [8, 9, 10, 11, 7, 12, 23, 24, 25, 26, 27, 28, 29, 30, 31, 32, 33, 34, 35, 36, 37, 38, 39] (by decide +kernel) (by decide +kernel)
set_option maxRecDepth 20000 in
theorem gX6_body_X6_isLetter : GoodIn wsX6_body (wsV RX6 187 RX6 yX6_isLetter wsX6_isLetter) := goodIn_app (goodIn_of _ (by decide +kernel)) ggX6_body_X6_isLetter
set_option maxRecDepth 20000 in
theorem ggX6_body_X6_in : GoodIn wsX6_body wsX6_in := goodIn_r _ [12] (by decide +kernel) (by decide +kernel)
set_option maxRecDepth 20000 in
theorem gX6_body_X6_in : GoodIn wsX6_body (va_wsS RX6 63 yX6_in wsX6_in) := goodIn_app (goodIn_of _ (by decide +kernel)) ggX6_body_X6_in
set_option maxRecDepth 20000 in
theorem ggX6_body_X6_become : GoodIn wsX6_body wsX6_become := goodIn_r _ [16, 9, 17, 18, 19, 7, 20, 21, 22, 23, 24, 25, 26, 27, 28, 29, 30, 31, 32, 33, 34, 35, 36, 37, 38, 39] (by decide +kernel) (by decide +kernel)
set_option maxRecDepth 20000 in
theorem gX6_body_X6_become : GoodIn wsX6_body (wsV RX6 216 RX6 yX6_become wsX6_become) := goodIn_app (goodIn_of _ (by decide +kernel)) ggX6_body_X6_become
theorem dX6_body_0 : decode cX6_body 0 = .ok (.aload_n 0, 1) := by decide +kernel
theorem dX6_body_1 : decode cX6_body 1 = .ok (.iload_n 1, 1) := by decide +kernel
theorem dX6_body_2 : decode cX6_body 2 = .ok (.invokevirtual 187, 3) := by decide +kernel
theorem dX6_body_5 : decode cX6_body 5 = .ok (.ifCond .ne 6, 3) := by decide +kernel
theorem dX6_body_8 : decode cX6_body 8 = .ok (.ldc 190, 2) := by decide +kernel
theorem dX6_body_10 : decode cX6_body 10 = .ok (.ireturn, 1) := by decide +kernel
theorem dX6_body_11 : decode cX6_body 11 = .ok (.iload_n 2, 1) := by decide +kernel
theorem dX6_body_12 : decode cX6_body 12 = .ok (.i2l, 1) := by decide +kernel
theorem dX6_body_13 : decode cX6_body 13 = .ok (.lconst 1, 1) := by decide +kernel
theorem dX6_body_14 : decode cX6_body 14 = .ok (.ldc2_w 61, 3) := by decide +kernel
theorem dX6_body_17 : decode cX6_body 17 = .ok (.invokestatic 63, 3) := by decide +kernel
theorem dX6_body_20 : decode cX6_body 20 = .ok (.ifCond .eq 15, 3) := by decide +kernel
theorem dX6_body_23 : decode cX6_body 23 = .ok (.aload_n 0, 1) := by decide +kernel
theorem dX6_body_24 : decode cX6_body 24 = .ok (.bipush 48, 2) := by decide +kernel
theorem dX6_body_26 : decode cX6_body 26 = .ok (.iload_n 1, 1) := by decide +kernel
theorem dX6_body_27 : decode cX6_body 27 = .ok (.iadd, 1) := by decide +kernel
theorem dX6_body_28 : decode cX6_body 28 = .ok (.iload_n 2, 1) := by decide +kernel
theorem dX6_body_29 : decode cX6_body 29 = .ok (.invokevirtual 216, 3) := by decide +kernel
theorem dX6_body_32 : decode cX6_body 32 = .ok (.goto 5, 3) := by decide +kernel
theorem dX6_body_35 : decode cX6_body 35 = .ok (.ldc 197, 2) := by decide +kernel
theorem dX6_body_37 : decode cX6_body 37 = .ok (.ireturn, 1) := by decide +kernel
set_option maxRecDepth 20000 in
theorem ggX6_bound_X6_in : GoodIn wsX6_bound wsX6_in := goodIn_r _ [7] (by decide +kernel) (by decide +kernel)
set_option maxRecDepth 20000 in
theorem gX6_bound_X6_in : GoodIn wsX6_bound (va_wsS RX6 63 yX6_in wsX6_in) := goodIn_app (goodIn_of _ (by decide +kernel)) ggX6_bound_X6_in
set_option maxRecDepth 20000 in
theorem ggX6_bound_X6_become : GoodIn wsX6_bound wsX6_become := goodIn_r _ [11, 12, 13, 14, 15, 6, 16, 17, 18, 19, 20, 21, 22, 23, 24, 25, 26, 27, 28, 29, 30, 31, 32, 33, 34, 35] (by decide +kernel) (by decide +kernel)
set_option maxRecDepth 20000 in
theorem gX6_bound_X6_become : GoodIn wsX6_bound (wsV RX6 216 RX6 yX6_become wsX6_become) := goodIn_app (goodIn_of _ (by decide +kernel)) ggX6_bound_X6_become
theorem dX6_bound_0 : decode cX6_bound 0 = .ok (.iload_n 1, 1) := by decide +kernel
theorem dX6_bound_1 : decode cX6_bound 1 = .ok (.i2l, 1) := by decide +kernel
theorem dX6_bound_2 : decode cX6_bound 2 = .ok (.lconst 0, 1) := by decide +kernel
theorem dX6_bound_3 : decode cX6_bound 3 = .ok (.lconst 1, 1) := by decide +kernel
theorem dX6_bound_4 : decode cX6_bound 4 = .ok (.invokestatic 63, 3) := by decide +kernel
theorem dX6_bound_7 : decode cX6_bound 7 = .ok (.ifCond .eq 33, 3) := by decide +kernel
theorem dX6_bound_10 : decode cX6_bound 10 = .ok (.iload_n 2, 1) := by decide +kernel
theorem dX6_bound_11 : decode cX6_bound 11 = .ok (.i2l, 1) := by decide +kernel
theorem dX6_bound_12 : decode cX6_bound 12 = .ok (.iload_n 1, 1) := by decide +kernel
theorem dX6_bound_13 : decode cX6_bound 13 = .ok (.ifCond .ne 7, 3) := by decide +kernel
theorem dX6_bound_16 : decode cX6_bound 16 = .ok (.lconst 1, 1) := by decide +kernel
theorem dX6_bound_17 : decode cX6_bound 17 = .ok (.goto 4, 3) := by decide +kernel
theorem dX6_bound_20 : decode cX6_bound 20 = .ok (.lconst 0, 1) := by decide +kernel
theorem dX6_bound_21 : decode cX6_bound 21 = .ok (.iload_n 1, 1) := by decide +kernel
theorem dX6_bound_22 : decode cX6_bound 22 = .ok (.ifCond .ne 9, 3) := by decide +kernel
theorem dX6_bound_25 : decode cX6_bound 25 = .ok (.ldc2_w 219, 3) := by decide +kernel
theorem dX6_bound_28 : decode cX6_bound 28 = .ok (.goto 6, 3) := by decide +kernel
theorem dX6_bound_31 : decode cX6_bound 31 = .ok (.ldc2_w 221, 3) := by decide +kernel
theorem dX6_bound_34 : decode cX6_bound 34 = .ok (.invokestatic 63, 3) := by decide +kernel
theorem dX6_bound_37 : decode cX6_bound 37 = .ok (.ifCond .ne 6, 3) := by decide +kernel
theorem dX6_bound_40 : decode cX6_bound 40 = .ok (.ldc 197, 2) := by decide +kernel
theorem dX6_bound_42 : decode cX6_bound 42 = .ok (.ireturn, 1) := by decide +kernel
theorem dX6_bound_43 : decode cX6_bound 43 = .ok (.aload_n 0, 1) := by decide +kernel
theorem dX6_bound_44 : decode cX6_bound 44 = .ok (.iload_n 1, 1) := by decide +kernel
theorem dX6_bound_45 : decode cX6_bound 45 = .ok (.ifCond .ne 8, 3) := by decide +kernel
theorem dX6_bound_48 : decode cX6_bound 48 = .ok (.bipush 61, 2) := by decide +kernel
theorem dX6_bound_50 : decode cX6_bound 50 = .ok (.goto 5, 3) := by decide +kernel
theorem dX6_bound_53 : decode cX6_bound 53 = .ok (.bipush 62, 2) := by decide +kernel
theorem dX6_bound_55 : decode cX6_bound 55 = .ok (.iload_n 2, 1) := by decide +kernel
theorem dX6_bound_56 : decode cX6_bound 56 = .ok (.invokevirtual 216, 3) := by decide +kernel
theorem dX6_bound_59 : decode cX6_bound 59 = .ok (.ireturn, 1) := by decide +kernel
set_option maxRecDepth 20000 in
theorem ggX6_weight_X6_isLetter : GoodIn wsX6_weight wsX6_isLetter := goodIn_r _ [8, 9, 10, 11, 7, 12, 23, 24, 25, 26, 27, 28, 29, 30, 31, 32, 33, 34, 35, 36, 37, 38, 39] (by decide +kernel) (by decide +kernel)
set_option maxRecDepth 20000 in
theorem gX6_weight_X6_isLetter : GoodIn wsX6_weight (wsV RX6 187 RX6 yX6_isLetter wsX6_isLetter) := goodIn_app (goodIn_of _ (by decide +kernel)) ggX6_weight_X6_isLetter
set_option maxRecDepth 20000 in
theorem ggX6_weight_X6_in : GoodIn wsX6_weight wsX6_in := goodIn_r _ [12] (by decide +kernel) (by decide +kernel)
set_option maxRecDepth 20000 in
theorem gX6_weight_X6_in : GoodIn wsX6_weight (va_wsS RX6 63 yX6_in wsX6_in) := goodIn_app (goodIn_of _ (by decide +kernel)) ggX6_weight_X6_in
set_option maxRecDepth 20000 in
theorem ggX6_weight_X6_become : GoodIn wsX6_weight wsX6_become := goodIn_r _ [16, 9, 17, 18, 19, 7, 20, 21, 22, 23, 24, 25, 26, 27, 28, 29, 30, 31, 32, 33, 34, 35, 36, 37, 38, 39] (by decide +kernel) (by decide +kernel)
set_option maxRecDepth 20000 in
theorem gX6_weight_X6_become : GoodIn wsX6_weight (wsV RX6 216 RX6 yX6_become wsX6_become) := goodIn_app (goodIn_of _ (by decide +kernel)) ggX6_weight_X6_become
theorem dX6_weight_0 : decode cX6_weight 0 = .ok (.aload_n 0, 1) := by decide +kernel
theorem dX6_weight_1 : decode cX6_weight 1 = .ok (.iload_n 1, 1) := by decide +kernel
theorem dX6_weight_2 : decode cX6_weight 2 = .ok (.invokevirtual 187, 3) := by decide +kernel
theorem dX6_weight_5 : decode cX6_weight 5 = .ok (.ifCond .eq 11, 3) := by decide +kernel
theorem dX6_weight_8 : decode cX6_weight 8 = .ok (.aload_n 0, 1) := by decide +kernel
theorem dX6_weight_9 : decode cX6_weight 9 = .ok (.iload_n 2, 1) := by decide +kernel
theorem dX6_weight_10 : decode cX6_weight 10 = .ok (.invokevirtual 187, 3) := by decide +kernel
theorem dX6_weight_13 : decode cX6_weight 13 = .ok (.ifCond .ne 6, 3) := by decide +kernel
theorem dX6_weight_16 : decode cX6_weight 16 = .ok (.ldc 190, 2) := by decide +kernel
theorem dX6_weight_18 : decode cX6_weight 18 = .ok (.ireturn, 1) := by decide +kernel
theorem dX6_weight_19 : decode cX6_weight 19 = .ok (.iload_n 3, 1) := by decide +kernel
theorem dX6_weight_20 : decode cX6_weight 20 = .ok (.i2l, 1) := by decide +kernel
theorem dX6_weight_21 : decode cX6_weight 21 = .ok (.lconst 0, 1) := by decide +kernel
theorem dX6_weight_22 : decode cX6_weight 22 = .ok (.ldc2_w 223, 3) := by decide +kernel
theorem dX6_weight_25 : decode cX6_weight 25 = .ok (.invokestatic 63, 3) := by decide +kernel
theorem dX6_weight_28 : decode cX6_weight 28 = .ok (.ifCond .eq 19, 3) := by decide +kernel
theorem dX6_weight_31 : decode cX6_weight 31 = .ok (.aload_n 0, 1) := by decide +kernel
theorem dX6_weight_32 : decode cX6_weight 32 = .ok (.bipush 51, 2) := by decide +kernel
theorem dX6_weight_34 : decode cX6_weight 34 = .ok (.iconst 3, 1) := by decide +kernel
theorem dX6_weight_35 : decode cX6_weight 35 = .ok (.iload_n 1, 1) := by decide +kernel
theorem dX6_weight_36 : decode cX6_weight 36 = .ok (.imul, 1) := by decide +kernel
theorem dX6_weight_37 : decode cX6_weight 37 = .ok (.iadd, 1) := by decide +kernel
theorem dX6_weight_38 : decode cX6_weight 38 = .ok (.iload_n 2, 1) := by decide +kernel
theorem dX6_weight_39 : decode cX6_weight 39 = .ok (.iadd, 1) := by decide +kernel
theorem dX6_weight_40 : decode cX6_weight 40 = .ok (.iload_n 3, 1) := by decide +kernel
theorem dX6_weight_41 : decode cX6_weight 41 = .ok (.invokevirtual 216, 3) := by decide +kernel
theorem dX6_weight_44 : decode cX6_weight 44 = .ok (.goto 5, 3) := by decide +kernel
theorem dX6_weight_47 : decode cX6_weight 47 = .ok (.ldc 197, 2) := by decide +kernel
theorem dX6_weight_49 : decode cX6_weight 49 = .ok (.ireturn, 1) := by decide +kernel
set_option maxRecDepth 20000 in
theorem ggX6_mirrorNow_X6_at : GoodIn wsX6_mirrorNow wsX6_at := goodIn_r _ [5] (by decide +kernel) (by decide +kernel)
set_option maxRecDepth 20000 in
theorem gX6_mirrorNow_X6_at : GoodIn wsX6_mirrorNow (va_wsS RX6 69 yX6_at wsX6_at) := goodIn_app (goodIn_of _ (by decide +kernel)) ggX6_mirrorNow_X6_at
theorem dX6_mirrorNow_0 : decode cX6_mirrorNow 0 = .ok (.iconst 0, 1) := by decide +kernel
theorem dX6_mirrorNow_1 : decode cX6_mirrorNow 1 = .ok (.istore_n 2, 1) := by decide +kernel
theorem dX6_mirrorNow_2 : decode cX6_mirrorNow 2 = .ok (.iload_n 2, 1) := by decide +kernel
theorem dX6_mirrorNow_3 : decode cX6_mirrorNow 3 = .ok (.bipush 8, 2) := by decide +kernel
theorem dX6_mirrorNow_5 : decode cX6_mirrorNow 5 = .ok (.if_icmp .ge 55, 3) := by decide +kernel
theorem dX6_mirrorNow_8 : decode cX6_mirrorNow 8 = .ok (.aload_n 0, 1) := by decide +kernel
theorem dX6_mirrorNow_9 : decode cX6_mirrorNow 9 = .ok (.getfield 7, 3) := by decide +kernel
theorem dX6_mirrorNow_12 : decode cX6_mirrorNow 12 = .ok (.iload_n 1, 1) := by decide +kernel
theorem dX6_mirrorNow_13 : decode cX6_mirrorNow 13 = .ok (.iconst 0, 1) := by decide +kernel
theorem dX6_mirrorNow_14 : decode cX6_mirrorNow 14 = .ok (.iload_n 2, 1) := by decide +kernel
theorem dX6_mirrorNow_15 : decode cX6_mirrorNow 15 = .ok (.invokestatic 69, 3) := by decide +kernel
theorem dX6_mirrorNow_18 : decode cX6_mirrorNow 18 = .ok (.iaload, 1) := by decide +kernel
theorem dX6_mirrorNow_19 : decode cX6_mirrorNow 19 = .ok (.istore_n 3, 1) := by decide +kernel
theorem dX6_mirrorNow_20 : decode cX6_mirrorNow 20 = .ok (.aload_n 0, 1) := by decide +kernel
theorem dX6_mirrorNow_21 : decode cX6_mirrorNow 21 = .ok (.getfield 7, 3) := by decide +kernel
theorem dX6_mirrorNow_24 : decode cX6_mirrorNow 24 = .ok (.iload_n 1, 1) := by decide +kernel
theorem dX6_mirrorNow_25 : decode cX6_mirrorNow 25 = .ok (.iconst 0, 1) := by decide +kernel
theorem dX6_mirrorNow_26 : decode cX6_mirrorNow 26 = .ok (.iload_n 2, 1) := by decide +kernel
theorem dX6_mirrorNow_27 : decode cX6_mirrorNow 27 = .ok (.invokestatic 69, 3) := by decide +kernel
theorem dX6_mirrorNow_30 : decode cX6_mirrorNow 30 = .ok (.aload_n 0, 1) := by decide +kernel
theorem dX6_mirrorNow_31 : decode cX6_mirrorNow 31 = .ok (.getfield 7, 3) := by decide +kernel
theorem dX6_mirrorNow_34 : decode cX6_mirrorNow 34 = .ok (.iload_n 1, 1) := by decide +kernel
theorem dX6_mirrorNow_35 : decode cX6_mirrorNow 35 = .ok (.iconst 1, 1) := by decide +kernel
theorem dX6_mirrorNow_36 : decode cX6_mirrorNow 36 = .ok (.iload_n 2, 1) := by decide +kernel
theorem dX6_mirrorNow_37 : decode cX6_mirrorNow 37 = .ok (.invokestatic 69, 3) := by decide +kernel
theorem dX6_mirrorNow_40 : decode cX6_mirrorNow 40 = .ok (.iaload, 1) := by decide +kernel
theorem dX6_mirrorNow_41 : decode cX6_mirrorNow 41 = .ok (.iastore, 1) := by decide +kernel
theorem dX6_mirrorNow_42 : decode cX6_mirrorNow 42 = .ok (.aload_n 0, 1) := by decide +kernel
theorem dX6_mirrorNow_43 : decode cX6_mirrorNow 43 = .ok (.getfield 7, 3) := by decide +kernel
theorem dX6_mirrorNow_46 : decode cX6_mirrorNow 46 = .ok (.iload_n 1, 1) := by decide +kernel
theorem dX6_mirrorNow_47 : decode cX6_mirrorNow 47 = .ok (.iconst 1, 1) := by decide +kernel
theorem dX6_mirrorNow_48 : decode cX6_mirrorNow 48 = .ok (.iload_n 2, 1) := by decide +kernel
theorem dX6_mirrorNow_49 : decode cX6_mirrorNow 49 = .ok (.invokestatic 69, 3) := by decide +kernel
theorem dX6_mirrorNow_52 : decode cX6_mirrorNow 52 = .ok (.iload_n 3, 1) := by decide +kernel
theorem dX6_mirrorNow_53 : decode cX6_mirrorNow 53 = .ok (.iastore, 1) := by decide +kernel
theorem dX6_mirrorNow_54 : decode cX6_mirrorNow 54 = .ok (.iinc 2 1, 3) := by decide +kernel
theorem dX6_mirrorNow_57 : decode cX6_mirrorNow 57 = .ok (.goto (-55), 3) := by decide +kernel
theorem dX6_mirrorNow_60 : decode cX6_mirrorNow 60 = .ok (.return_, 1) := by decide +kernel
set_option maxRecDepth 20000 in
theorem ggX6_mirror_X6_isLetter : GoodIn wsX6_mirror wsX6_isLetter := goodIn_r _ [6, 7, 8, 9, 5, 10, 28, 29, 30, 31, 32, 33, 34, 35, 36, 37, 38, 39, 40, 41, 42, 43, 44] (by decide +kernel) (by decide +kernel)
set_option maxRecDepth 20000 in
theorem gX6_mirror_X6_isLetter : GoodIn wsX6_mirror (wsV RX6 187 RX6 yX6_isLetter wsX6_isLetter) := goodIn_app (goodIn_of _ (by decide +kernel)) ggX6_mirror_X6_isLetter
set_option maxRecDepth 20000 in
theorem ggX6_mirror_X6_remember : GoodIn wsX6_mirror wsX6_remember := goodIn_r _ [14, 15, 16, 7, 28, 29, 30, 31, 32, 33, 34, 35, 36, 37, 38, 39, 40, 41, 42, 43, 44] (by decide +kernel) (by decide +kernel)
set_option maxRecDepth 20000 in
theorem gX6_mirror_X6_remember : GoodIn wsX6_mirror (wsV RX6 211 RX6 yX6_remember wsX6_remember) := goodIn_app (goodIn_of _ (by decide +kernel)) ggX6_mirror_X6_remember
set_option maxRecDepth 20000 in
theorem ggX6_mirror_X6_mirrorNow : GoodIn wsX6_mirror wsX6_mirrorNow := goodIn_r _ [20, 7, 21, 22, 5, 23, 28, 29, 30, 31, 32, 33, 34, 35, 36, 37, 38, 39, 40, 41, 42, 43, 44] (by decide +kernel) (by decide +kernel)
set_option maxRecDepth 20000 in
theorem gX6_mirror_X6_mirrorNow : GoodIn wsX6_mirror (wsV RX6 225 RX6 yX6_mirrorNow wsX6_mirrorNow) := goodIn_app (goodIn_of _ (by decide +kernel)) ggX6_mirror_X6_mirrorNow
set_option maxRecDepth 20000 in
theorem ggX6_mirror_X6_isAlike : GoodIn wsX6_mirror wsX6_isAlike := goodIn_r _ [27, 7, 21, 22, 5, 23, 28, 29, 30, 31, 32, 33, 34, 35, 36, 37, 38, 39, 40, 41, 42, 43, 44] (by decide +kernel) (by decide +kernel)
set_option maxRecDepth 20000 in
theorem gX6_mirror_X6_isAlike : GoodIn wsX6_mirror (wsV RX6 191 RX6 yX6_isAlike wsX6_isAlike) := goodIn_app (goodIn_of _ (by decide +kernel)) ggX6_mirror_X6_isAlike
theorem dX6_mirror_0 : decode cX6_mirror 0 = .ok (.aload_n 0, 1) := by decide +kernel
theorem dX6_mirror_1 : decode cX6_mirror 1 = .ok (.iload_n 1, 1) := by decide +kernel
theorem dX6_mirror_2 : decode cX6_mirror 2 = .ok (.invokevirtual 187, 3) := by decide +kernel
theorem dX6_mirror_5 : decode cX6_mirror 5 = .ok (.ifCond .ne 6, 3) := by decide +kernel
theorem dX6_mirror_8 : decode cX6_mirror 8 = .ok (.ldc 190, 2) := by decide +kernel
theorem dX6_mirror_10 : decode cX6_mirror 10 = .ok (.ireturn, 1) := by decide +kernel
theorem dX6_mirror_11 : decode cX6_mirror 11 = .ok (.aload_n 0, 1) := by decide +kernel
theorem dX6_mirror_12 : decode cX6_mirror 12 = .ok (.invokevirtual 211, 3) := by decide +kernel
theorem dX6_mirror_15 : decode cX6_mirror 15 = .ok (.aload_n 0, 1) := by decide +kernel
theorem dX6_mirror_16 : decode cX6_mirror 16 = .ok (.iload_n 1, 1) := by decide +kernel
theorem dX6_mirror_17 : decode cX6_mirror 17 = .ok (.invokevirtual 225, 3) := by decide +kernel
theorem dX6_mirror_20 : decode cX6_mirror 20 = .ok (.aload_n 0, 1) := by decide +kernel
theorem dX6_mirror_21 : decode cX6_mirror 21 = .ok (.iload_n 1, 1) := by decide +kernel
theorem dX6_mirror_22 : decode cX6_mirror 22 = .ok (.invokevirtual 191, 3) := by decide +kernel
theorem dX6_mirror_25 : decode cX6_mirror 25 = .ok (.ifCond .eq 7, 3) := by decide +kernel
theorem dX6_mirror_28 : decode cX6_mirror 28 = .ok (.iconst 0, 1) := by decide +kernel
theorem dX6_mirror_29 : decode cX6_mirror 29 = .ok (.goto 4, 3) := by decide +kernel
theorem dX6_mirror_32 : decode cX6_mirror 32 = .ok (.iconst 1, 1) := by decide +kernel
theorem dX6_mirror_33 : decode cX6_mirror 33 = .ok (.ireturn, 1) := by decide +kernel
set_option maxRecDepth 20000 in
theorem ggX6_turn_X6_remember : GoodIn wsX6_turn wsX6_remember := goodIn_r _ [6, 7, 8, 1, 20, 21, 22, 23, 24, 25, 26, 27, 28, 29, 30, 31, 32, 33, 34, 35, 36] (by decide +kernel) (by decide +kernel)
set_option maxRecDepth 20000 in
theorem gX6_turn_X6_remember : GoodIn wsX6_turn (wsV RX6 211 RX6 yX6_remember wsX6_remember) := goodIn_app (goodIn_of _ (by decide +kernel)) ggX6_turn_X6_remember
set_option maxRecDepth 20000 in
theorem ggX6_turn_X6_mirrorNow : GoodIn wsX6_turn wsX6_mirrorNow := goodIn_r _ [12, 1, 13, 14, 5, 15, 20, 21, 22, 23, 24, 25, 26, 27, 28, 29, 30, 31, 32, 33, 34, 35, 36] (by decide +kernel) (by decide +kernel)
set_option maxRecDepth 20000 in
theorem gX6_turn_X6_mirrorNow : GoodIn wsX6_turn (wsV RX6 225 RX6 yX6_mirrorNow wsX6_mirrorNow) := goodIn_app (goodIn_of _ (by decide +kernel)) ggX6_turn_X6_mirrorNow
set_option maxRecDepth 20000 in
theorem ggX6_turn_X6_weightOf : GoodIn wsX6_turn wsX6_weightOf := goodIn_r _ [19, 1, 20, 21, 22, 23, 24, 25, 26, 27, 28, 29, 30, 31, 32, 33, 34, 35, 36] (by decide +kernel) (by decide +kernel)
set_option maxRecDepth 20000 in
theorem gX6_turn_X6_weightOf : GoodIn wsX6_turn (wsV RX6 81 RX6 yX6_weightOf wsX6_weightOf) := goodIn_app (goodIn_of _ (by decide +kernel)) ggX6_turn_X6_weightOf
theorem dX6_turn_0 : decode cX6_turn 0 = .ok (.aload_n 0, 1) := by decide +kernel
theorem dX6_turn_1 : decode cX6_turn 1 = .ok (.invokevirtual 211, 3) := by decide +kernel
theorem dX6_turn_4 : decode cX6_turn 4 = .ok (.iconst 0, 1) := by decide +kernel
theorem dX6_turn_5 : decode cX6_turn 5 = .ok (.istore_n 1, 1) := by decide +kernel
theorem dX6_turn_6 : decode cX6_turn 6 = .ok (.iload_n 1, 1) := by decide +kernel
theorem dX6_turn_7 : decode cX6_turn 7 = .ok (.aload_n 0, 1) := by decide +kernel
theorem dX6_turn_8 : decode cX6_turn 8 = .ok (.getfield 7, 3) := by decide +kernel
theorem dX6_turn_11 : decode cX6_turn 11 = .ok (.bipush 60, 2) := by decide +kernel
theorem dX6_turn_13 : decode cX6_turn 13 = .ok (.iaload, 1) := by decide +kernel
theorem dX6_turn_14 : decode cX6_turn 14 = .ok (.if_icmp .ge 67, 3) := by decide +kernel
theorem dX6_turn_17 : decode cX6_turn 17 = .ok (.aload_n 0, 1) := by decide +kernel
theorem dX6_turn_18 : decode cX6_turn 18 = .ok (.iload_n 1, 1) := by decide +kernel
theorem dX6_turn_19 : decode cX6_turn 19 = .ok (.invokevirtual 225, 3) := by decide +kernel
theorem dX6_turn_22 : decode cX6_turn 22 = .ok (.iconst 0, 1) := by decide +kernel
theorem dX6_turn_23 : decode cX6_turn 23 = .ok (.istore_n 2, 1) := by decide +kernel
theorem dX6_turn_24 : decode cX6_turn 24 = .ok (.iload_n 2, 1) := by decide +kernel
theorem dX6_turn_25 : decode cX6_turn 25 = .ok (.iload_n 1, 1) := by decide +kernel
theorem dX6_turn_26 : decode cX6_turn 26 = .ok (.if_icmp .ge 49, 3) := by decide +kernel
theorem dX6_turn_29 : decode cX6_turn 29 = .ok (.aload_n 0, 1) := by decide +kernel
theorem dX6_turn_30 : decode cX6_turn 30 = .ok (.iload_n 1, 1) := by decide +kernel
theorem dX6_turn_31 : decode cX6_turn 31 = .ok (.iload_n 2, 1) := by decide +kernel
theorem dX6_turn_32 : decode cX6_turn 32 = .ok (.invokevirtual 81, 3) := by decide +kernel
theorem dX6_turn_35 : decode cX6_turn 35 = .ok (.istore_n 3, 1) := by decide +kernel
theorem dX6_turn_36 : decode cX6_turn 36 = .ok (.aload_n 0, 1) := by decide +kernel
theorem dX6_turn_37 : decode cX6_turn 37 = .ok (.getfield 7, 3) := by decide +kernel
theorem dX6_turn_40 : decode cX6_turn 40 = .ok (.bipush 51, 2) := by decide +kernel
theorem dX6_turn_42 : decode cX6_turn 42 = .ok (.iconst 3, 1) := by decide +kernel
theorem dX6_turn_43 : decode cX6_turn 43 = .ok (.iload_n 1, 1) := by decide +kernel
theorem dX6_turn_44 : decode cX6_turn 44 = .ok (.imul, 1) := by decide +kernel
theorem dX6_turn_45 : decode cX6_turn 45 = .ok (.iadd, 1) := by decide +kernel
theorem dX6_turn_46 : decode cX6_turn 46 = .ok (.iload_n 2, 1) := by decide +kernel
theorem dX6_turn_47 : decode cX6_turn 47 = .ok (.iadd, 1) := by decide +kernel
theorem dX6_turn_48 : decode cX6_turn 48 = .ok (.aload_n 0, 1) := by decide +kernel
theorem dX6_turn_49 : decode cX6_turn 49 = .ok (.iload_n 2, 1) := by decide +kernel
theorem dX6_turn_50 : decode cX6_turn 50 = .ok (.iload_n 1, 1) := by decide +kernel
theorem dX6_turn_51 : decode cX6_turn 51 = .ok (.invokevirtual 81, 3) := by decide +kernel
theorem dX6_turn_54 : decode cX6_turn 54 = .ok (.iastore, 1) := by decide +kernel
theorem dX6_turn_55 : decode cX6_turn 55 = .ok (.aload_n 0, 1) := by decide +kernel
theorem dX6_turn_56 : decode cX6_turn 56 = .ok (.getfield 7, 3) := by decide +kernel
theorem dX6_turn_59 : decode cX6_turn 59 = .ok (.bipush 51, 2) := by decide +kernel
theorem dX6_turn_61 : decode cX6_turn 61 = .ok (.iconst 3, 1) := by decide +kernel
theorem dX6_turn_62 : decode cX6_turn 62 = .ok (.iload_n 2, 1) := by decide +kernel
theorem dX6_turn_63 : decode cX6_turn 63 = .ok (.imul, 1) := by decide +kernel
theorem dX6_turn_64 : decode cX6_turn 64 = .ok (.iadd, 1) := by decide +kernel
theorem dX6_turn_65 : decode cX6_turn 65 = .ok (.iload_n 1, 1) := by decide +kernel
theorem dX6_turn_66 : decode cX6_turn 66 = .ok (.iadd, 1) := by decide +kernel
theorem dX6_turn_67 : decode cX6_turn 67 = .ok (.iload_n 3, 1) := by decide +kernel
theorem dX6_turn_68 : decode cX6_turn 68 = .ok (.iastore, 1) := by decide +kernel
theorem dX6_turn_69 : decode cX6_turn 69 = .ok (.iinc 2 1, 3) := by decide +kernel
theorem dX6_turn_72 : decode cX6_turn 72 = .ok (.goto (-48), 3) := by decide +kernel
theorem dX6_turn_75 : decode cX6_turn 75 = .ok (.iinc 1 1, 3) := by decide +kernel
theorem dX6_turn_78 : decode cX6_turn 78 = .ok (.goto (-72), 3) := by decide +kernel
theorem dX6_turn_81 : decode cX6_turn 81 = .ok (.aload_n 0, 1) := by decide +kernel
theorem dX6_turn_82 : decode cX6_turn 82 = .ok (.getfield 7, 3) := by decide +kernel
theorem dX6_turn_85 : decode cX6_turn 85 = .ok (.bipush 60, 2) := by decide +kernel
theorem dX6_turn_87 : decode cX6_turn 87 = .ok (.iaload, 1) := by decide +kernel
theorem dX6_turn_88 : decode cX6_turn 88 = .ok (.ireturn, 1) := by decide +kernel
set_option maxRecDepth 20000 in
theorem ggX6_copy_X6_isLetter : GoodIn wsX6_copy wsX6_isLetter := goodIn_r _ [7, 2, 8, 9, 6, 10, 17, 18, 19, 20, 21, 22, 23, 24, 25, 26, 27, 28, 29, 30, 31, 32, 33] (by decide +kernel) (by decide +kernel)
set_option maxRecDepth 20000 in
theorem gX6_copy_X6_isLetter : GoodIn wsX6_copy (wsV RX6 187 RX6 yX6_isLetter wsX6_isLetter) := goodIn_app (goodIn_of _ (by decide +kernel)) ggX6_copy_X6_isLetter
set_option maxRecDepth 20000 in
theorem ggX6_copy_X6_remember : GoodIn wsX6_copy wsX6_remember := goodIn_r _ [14, 15, 16, 2, 17, 18, 19, 20, 21, 22, 23, 24, 25, 26, 27, 28, 29, 30, 31, 32, 33] (by decide +kernel) (by decide +kernel)
set_option maxRecDepth 20000 in
theorem gX6_copy_X6_remember : GoodIn wsX6_copy (wsV RX6 211 RX6 yX6_remember wsX6_remember) := goodIn_app (goodIn_of _ (by decide +kernel)) ggX6_copy_X6_remember
theorem dX6_copy_0 : decode cX6_copy 0 = .ok (.aload_n 0, 1) := by decide +kernel
theorem dX6_copy_1 : decode cX6_copy 1 = .ok (.iload_n 1, 1) := by decide +kernel
theorem dX6_copy_2 : decode cX6_copy 2 = .ok (.invokevirtual 187, 3) := by decide +kernel
theorem dX6_copy_5 : decode cX6_copy 5 = .ok (.ifCond .eq 16, 3) := by decide +kernel
theorem dX6_copy_8 : decode cX6_copy 8 = .ok (.aload_n 0, 1) := by decide +kernel
theorem dX6_copy_9 : decode cX6_copy 9 = .ok (.iload_n 2, 1) := by decide +kernel
theorem dX6_copy_10 : decode cX6_copy 10 = .ok (.invokevirtual 187, 3) := by decide +kernel
theorem dX6_copy_13 : decode cX6_copy 13 = .ok (.ifCond .eq 8, 3) := by decide +kernel
theorem dX6_copy_16 : decode cX6_copy 16 = .ok (.iload_n 1, 1) := by decide +kernel
theorem dX6_copy_17 : decode cX6_copy 17 = .ok (.iload_n 2, 1) := by decide +kernel
theorem dX6_copy_18 : decode cX6_copy 18 = .ok (.if_icmp .ne 6, 3) := by decide +kernel
theorem dX6_copy_21 : decode cX6_copy 21 = .ok (.ldc 190, 2) := by decide +kernel
theorem dX6_copy_23 : decode cX6_copy 23 = .ok (.ireturn, 1) := by decide +kernel
theorem dX6_copy_24 : decode cX6_copy 24 = .ok (.aload_n 0, 1) := by decide +kernel
theorem dX6_copy_25 : decode cX6_copy 25 = .ok (.invokevirtual 211, 3) := by decide +kernel
theorem dX6_copy_28 : decode cX6_copy 28 = .ok (.aload_n 0, 1) := by decide +kernel
theorem dX6_copy_29 : decode cX6_copy 29 = .ok (.getfield 7, 3) := by decide +kernel
theorem dX6_copy_32 : decode cX6_copy 32 = .ok (.bipush 48, 2) := by decide +kernel
theorem dX6_copy_34 : decode cX6_copy 34 = .ok (.iload_n 1, 1) := by decide +kernel
theorem dX6_copy_35 : decode cX6_copy 35 = .ok (.iadd, 1) := by decide +kernel
theorem dX6_copy_36 : decode cX6_copy 36 = .ok (.iaload, 1) := by decide +kernel
theorem dX6_copy_37 : decode cX6_copy 37 = .ok (.aload_n 0, 1) := by decide +kernel
theorem dX6_copy_38 : decode cX6_copy 38 = .ok (.getfield 7, 3) := by decide +kernel
theorem dX6_copy_41 : decode cX6_copy 41 = .ok (.bipush 48, 2) := by decide +kernel
theorem dX6_copy_43 : decode cX6_copy 43 = .ok (.iload_n 2, 1) := by decide +kernel
theorem dX6_copy_44 : decode cX6_copy 44 = .ok (.iadd, 1) := by decide +kernel
theorem dX6_copy_45 : decode cX6_copy 45 = .ok (.iaload, 1) := by decide +kernel
theorem dX6_copy_46 : decode cX6_copy 46 = .ok (.if_icmp .ne 7, 3) := by decide +kernel
theorem dX6_copy_49 : decode cX6_copy 49 = .ok (.iconst 0, 1) := by decide +kernel
theorem dX6_copy_50 : decode cX6_copy 50 = .ok (.goto 4, 3) := by decide +kernel
theorem dX6_copy_53 : decode cX6_copy 53 = .ok (.iconst 1, 1) := by decide +kernel
theorem dX6_copy_54 : decode cX6_copy 54 = .ok (.istore_n 3, 1) := by decide +kernel
theorem dX6_copy_55 : decode cX6_copy 55 = .ok (.aload_n 0, 1) := by decide +kernel
theorem dX6_copy_56 : decode cX6_copy 56 = .ok (.getfield 7, 3) := by decide +kernel
theorem dX6_copy_59 : decode cX6_copy 59 = .ok (.bipush 48, 2) := by decide +kernel
theorem dX6_copy_61 : decode cX6_copy 61 = .ok (.iload_n 1, 1) := by decide +kernel
theorem dX6_copy_62 : decode cX6_copy 62 = .ok (.iadd, 1) := by decide +kernel
theorem dX6_copy_63 : decode cX6_copy 63 = .ok (.aload_n 0, 1) := by decide +kernel
theorem dX6_copy_64 : decode cX6_copy 64 = .ok (.getfield 7, 3) := by decide +kernel
theorem dX6_copy_67 : decode cX6_copy 67 = .ok (.bipush 48, 2) := by decide +kernel
theorem dX6_copy_69 : decode cX6_copy 69 = .ok (.iload_n 2, 1) := by decide +kernel
theorem dX6_copy_70 : decode cX6_copy 70 = .ok (.iadd, 1) := by decide +kernel
theorem dX6_copy_71 : decode cX6_copy 71 = .ok (.iaload, 1) := by decide +kernel
theorem dX6_copy_72 : decode cX6_copy 72 = .ok (.iastore, 1) := by decide +kernel
theorem dX6_copy_73 : decode cX6_copy 73 = .ok (.iconst 0, 1) := by decide +kernel
theorem dX6_copy_74 : decode cX6_copy 74 = .ok (.istore 4, 2) := by decide +kernel
theorem dX6_copy_76 : decode cX6_copy 76 = .ok (.iload 4, 2) := by decide +kernel
theorem dX6_copy_78 : decode cX6_copy 78 = .ok (.bipush 16, 2) := by decide +kernel
theorem dX6_copy_80 : decode cX6_copy 80 = .ok (.if_icmp .ge 68, 3) := by decide +kernel
theorem dX6_copy_83 : decode cX6_copy 83 = .ok (.iload_n 3, 1) := by decide +kernel
theorem dX6_copy_84 : decode cX6_copy 84 = .ok (.aload_n 0, 1) := by decide +kernel
theorem dX6_copy_85 : decode cX6_copy 85 = .ok (.getfield 7, 3) := by decide +kernel
theorem dX6_copy_88 : decode cX6_copy 88 = .ok (.bipush 16, 2) := by decide +kernel
theorem dX6_copy_90 : decode cX6_copy 90 = .ok (.iload_n 1, 1) := by decide +kernel
theorem dX6_copy_91 : decode cX6_copy 91 = .ok (.imul, 1) := by decide +kernel
theorem dX6_copy_92 : decode cX6_copy 92 = .ok (.iload 4, 2) := by decide +kernel
theorem dX6_copy_94 : decode cX6_copy 94 = .ok (.iadd, 1) := by decide +kernel
theorem dX6_copy_95 : decode cX6_copy 95 = .ok (.iaload, 1) := by decide +kernel
theorem dX6_copy_96 : decode cX6_copy 96 = .ok (.aload_n 0, 1) := by decide +kernel
theorem dX6_copy_97 : decode cX6_copy 97 = .ok (.getfield 7, 3) := by decide +kernel
theorem dX6_copy_100 : decode cX6_copy 100 = .ok (.bipush 16, 2) := by decide +kernel
theorem dX6_copy_102 : decode cX6_copy 102 = .ok (.iload_n 2, 1) := by decide +kernel
theorem dX6_copy_103 : decode cX6_copy 103 = .ok (.imul, 1) := by decide +kernel
theorem dX6_copy_104 : decode cX6_copy 104 = .ok (.iload 4, 2) := by decide +kernel
theorem dX6_copy_106 : decode cX6_copy 106 = .ok (.iadd, 1) := by decide +kernel
theorem dX6_copy_107 : decode cX6_copy 107 = .ok (.iaload, 1) := by decide +kernel
theorem dX6_copy_108 : decode cX6_copy 108 = .ok (.if_icmp .ne 7, 3) := by decide +kernel
theorem dX6_copy_111 : decode cX6_copy 111 = .ok (.iconst 0, 1) := by decide +kernel
theorem dX6_copy_112 : decode cX6_copy 112 = .ok (.goto 4, 3) := by decide +kernel
theorem dX6_copy_115 : decode cX6_copy 115 = .ok (.iconst 1, 1) := by decide +kernel
theorem dX6_copy_116 : decode cX6_copy 116 = .ok (.iadd, 1) := by decide +kernel
theorem dX6_copy_117 : decode cX6_copy 117 = .ok (.istore_n 3, 1) := by decide +kernel
theorem dX6_copy_118 : decode cX6_copy 118 = .ok (.aload_n 0, 1) := by decide +kernel
theorem dX6_copy_119 : decode cX6_copy 119 = .ok (.getfield 7, 3) := by decide +kernel
theorem dX6_copy_122 : decode cX6_copy 122 = .ok (.bipush 16, 2) := by decide +kernel
theorem dX6_copy_124 : decode cX6_copy 124 = .ok (.iload_n 1, 1) := by decide +kernel
theorem dX6_copy_125 : decode cX6_copy 125 = .ok (.imul, 1) := by decide +kernel
theorem dX6_copy_126 : decode cX6_copy 126 = .ok (.iload 4, 2) := by decide +kernel
theorem dX6_copy_128 : decode cX6_copy 128 = .ok (.iadd, 1) := by decide +kernel
theorem dX6_copy_129 : decode cX6_copy 129 = .ok (.aload_n 0, 1) := by decide +kernel
theorem dX6_copy_130 : decode cX6_copy 130 = .ok (.getfield 7, 3) := by decide +kernel
theorem dX6_copy_133 : decode cX6_copy 133 = .ok (.bipush 16, 2) := by decide +kernel
theorem dX6_copy_135 : decode cX6_copy 135 = .ok (.iload_n 2, 1) := by decide +kernel
theorem dX6_copy_136 : decode cX6_copy 136 = .ok (.imul, 1) := by decide +kernel
theorem dX6_copy_137 : decode cX6_copy 137 = .ok (.iload 4, 2) := by decide +kernel
theorem dX6_copy_139 : decode cX6_copy 139 = .ok (.iadd, 1) := by decide +kernel
theorem dX6_copy_140 : decode cX6_copy 140 = .ok (.iaload, 1) := by decide +kernel
theorem dX6_copy_141 : decode cX6_copy 141 = .ok (.iastore, 1) := by decide +kernel
theorem dX6_copy_142 : decode cX6_copy 142 = .ok (.iinc 4 1, 3) := by decide +kernel
theorem dX6_copy_145 : decode cX6_copy 145 = .ok (.goto (-69), 3) := by decide +kernel
theorem dX6_copy_148 : decode cX6_copy 148 = .ok (.iload_n 3, 1) := by decide +kernel
theorem dX6_copy_149 : decode cX6_copy 149 = .ok (.ireturn, 1) := by decide +kernel
set_option maxRecDepth 20000 in
theorem ggX6_drift_X6_in : GoodIn wsX6_drift wsX6_in := goodIn_r _ [11] (by decide +kernel) (by decide +kernel)
set_option maxRecDepth 20000 in
theorem gX6_drift_X6_in : GoodIn wsX6_drift (va_wsS RX6 63 yX6_in wsX6_in) := goodIn_app (goodIn_of _ (by decide +kernel)) ggX6_drift_X6_in
set_option maxRecDepth 20000 in
theorem ggX6_drift_X6_remember : GoodIn wsX6_drift wsX6_remember := goodIn_r _ [15, 16, 17, 3, 25, 26, 27, 28, 29, 30, 31, 32, 33, 34, 35, 36, 37, 38, 39, 40, 41] (by decide +kernel) (by decide +kernel)
set_option maxRecDepth 20000 in
theorem gX6_drift_X6_remember : GoodIn wsX6_drift (wsV RX6 211 RX6 yX6_remember wsX6_remember) := goodIn_app (goodIn_of _ (by decide +kernel)) ggX6_drift_X6_remember
set_option maxRecDepth 20000 in
theorem ggX6_drift_X6_bare : GoodIn wsX6_drift wsX6_bare := goodIn_r _ [21, 3, 22, 23, 10, 24, 25, 26, 27, 28, 29, 30, 31, 32, 33, 34, 35, 36, 37, 38, 39, 40, 41] (by decide +kernel) (by decide +kernel)
set_option maxRecDepth 20000 in
theorem gX6_drift_X6_bare : GoodIn wsX6_drift (wsV RX6 102 RX6 yX6_bare wsX6_bare) := goodIn_app (goodIn_of _ (by decide +kernel)) ggX6_drift_X6_bare
theorem dX6_drift_0 : decode cX6_drift 0 = .ok (.iload_n 1, 1) := by decide +kernel
theorem dX6_drift_1 : decode cX6_drift 1 = .ok (.i2l, 1) := by decide +kernel
theorem dX6_drift_2 : decode cX6_drift 2 = .ok (.lconst 1, 1) := by decide +kernel
theorem dX6_drift_3 : decode cX6_drift 3 = .ok (.ldc2_w 228, 3) := by decide +kernel
theorem dX6_drift_6 : decode cX6_drift 6 = .ok (.invokestatic 63, 3) := by decide +kernel
theorem dX6_drift_9 : decode cX6_drift 9 = .ok (.ifCond .ne 6, 3) := by decide +kernel
theorem dX6_drift_12 : decode cX6_drift 12 = .ok (.ldc 197, 2) := by decide +kernel
theorem dX6_drift_14 : decode cX6_drift 14 = .ok (.ireturn, 1) := by decide +kernel
theorem dX6_drift_15 : decode cX6_drift 15 = .ok (.aload_n 0, 1) := by decide +kernel
theorem dX6_drift_16 : decode cX6_drift 16 = .ok (.invokevirtual 211, 3) := by decide +kernel
theorem dX6_drift_19 : decode cX6_drift 19 = .ok (.iload_n 1, 1) := by decide +kernel
theorem dX6_drift_20 : decode cX6_drift 20 = .ok (.i2l, 1) := by decide +kernel
theorem dX6_drift_21 : decode cX6_drift 21 = .ok (.lstore_n 2, 1) := by decide +kernel
theorem dX6_drift_22 : decode cX6_drift 22 = .ok (.iconst 0, 1) := by decide +kernel
theorem dX6_drift_23 : decode cX6_drift 23 = .ok (.istore 4, 2) := by decide +kernel
theorem dX6_drift_25 : decode cX6_drift 25 = .ok (.iload 4, 2) := by decide +kernel
theorem dX6_drift_27 : decode cX6_drift 27 = .ok (.bipush 16, 2) := by decide +kernel
theorem dX6_drift_29 : decode cX6_drift 29 = .ok (.aload_n 0, 1) := by decide +kernel
theorem dX6_drift_30 : decode cX6_drift 30 = .ok (.getfield 7, 3) := by decide +kernel
theorem dX6_drift_33 : decode cX6_drift 33 = .ok (.bipush 60, 2) := by decide +kernel
theorem dX6_drift_35 : decode cX6_drift 35 = .ok (.iaload, 1) := by decide +kernel
theorem dX6_drift_36 : decode cX6_drift 36 = .ok (.imul, 1) := by decide +kernel
theorem dX6_drift_37 : decode cX6_drift 37 = .ok (.if_icmp .ge 32, 3) := by decide +kernel
theorem dX6_drift_40 : decode cX6_drift 40 = .ok (.lload_n 2, 1) := by decide +kernel
theorem dX6_drift_41 : decode cX6_drift 41 = .ok (.ldc2_w 230, 3) := by decide +kernel
theorem dX6_drift_44 : decode cX6_drift 44 = .ok (.lmul, 1) := by decide +kernel
theorem dX6_drift_45 : decode cX6_drift 45 = .ok (.ldc2_w 232, 3) := by decide +kernel
theorem dX6_drift_48 : decode cX6_drift 48 = .ok (.lrem, 1) := by decide +kernel
theorem dX6_drift_49 : decode cX6_drift 49 = .ok (.lstore_n 2, 1) := by decide +kernel
theorem dX6_drift_50 : decode cX6_drift 50 = .ok (.aload_n 0, 1) := by decide +kernel
theorem dX6_drift_51 : decode cX6_drift 51 = .ok (.getfield 7, 3) := by decide +kernel
theorem dX6_drift_54 : decode cX6_drift 54 = .ok (.iload 4, 2) := by decide +kernel
theorem dX6_drift_56 : decode cX6_drift 56 = .ok (.lload_n 2, 1) := by decide +kernel
theorem dX6_drift_57 : decode cX6_drift 57 = .ok (.ldc2_w 234, 3) := by decide +kernel
theorem dX6_drift_60 : decode cX6_drift 60 = .ok (.lrem, 1) := by decide +kernel
theorem dX6_drift_61 : decode cX6_drift 61 = .ok (.l2i, 1) := by decide +kernel
theorem dX6_drift_62 : decode cX6_drift 62 = .ok (.iastore, 1) := by decide +kernel
theorem dX6_drift_63 : decode cX6_drift 63 = .ok (.iinc 4 1, 3) := by decide +kernel
theorem dX6_drift_66 : decode cX6_drift 66 = .ok (.goto (-41), 3) := by decide +kernel
theorem dX6_drift_69 : decode cX6_drift 69 = .ok (.iconst 0, 1) := by decide +kernel
theorem dX6_drift_70 : decode cX6_drift 70 = .ok (.istore 4, 2) := by decide +kernel
theorem dX6_drift_72 : decode cX6_drift 72 = .ok (.iconst 0, 1) := by decide +kernel
theorem dX6_drift_73 : decode cX6_drift 73 = .ok (.istore 5, 2) := by decide +kernel
theorem dX6_drift_75 : decode cX6_drift 75 = .ok (.iload 5, 2) := by decide +kernel
theorem dX6_drift_77 : decode cX6_drift 77 = .ok (.aload_n 0, 1) := by decide +kernel
theorem dX6_drift_78 : decode cX6_drift 78 = .ok (.getfield 7, 3) := by decide +kernel
theorem dX6_drift_81 : decode cX6_drift 81 = .ok (.bipush 60, 2) := by decide +kernel
theorem dX6_drift_83 : decode cX6_drift 83 = .ok (.iaload, 1) := by decide +kernel
theorem dX6_drift_84 : decode cX6_drift 84 = .ok (.if_icmp .ge 74, 3) := by decide +kernel
theorem dX6_drift_87 : decode cX6_drift 87 = .ok (.iconst 0, 1) := by decide +kernel
theorem dX6_drift_88 : decode cX6_drift 88 = .ok (.istore 6, 2) := by decide +kernel
theorem dX6_drift_90 : decode cX6_drift 90 = .ok (.iload 6, 2) := by decide +kernel
theorem dX6_drift_92 : decode cX6_drift 92 = .ok (.aload_n 0, 1) := by decide +kernel
theorem dX6_drift_93 : decode cX6_drift 93 = .ok (.getfield 7, 3) := by decide +kernel
theorem dX6_drift_96 : decode cX6_drift 96 = .ok (.bipush 60, 2) := by decide +kernel
theorem dX6_drift_98 : decode cX6_drift 98 = .ok (.iaload, 1) := by decide +kernel
theorem dX6_drift_99 : decode cX6_drift 99 = .ok (.if_icmp .ge 53, 3) := by decide +kernel
theorem dX6_drift_102 : decode cX6_drift 102 = .ok (.lload_n 2, 1) := by decide +kernel
theorem dX6_drift_103 : decode cX6_drift 103 = .ok (.ldc2_w 230, 3) := by decide +kernel
theorem dX6_drift_106 : decode cX6_drift 106 = .ok (.lmul, 1) := by decide +kernel
theorem dX6_drift_107 : decode cX6_drift 107 = .ok (.ldc2_w 232, 3) := by decide +kernel
theorem dX6_drift_110 : decode cX6_drift 110 = .ok (.lrem, 1) := by decide +kernel
theorem dX6_drift_111 : decode cX6_drift 111 = .ok (.lstore_n 2, 1) := by decide +kernel
theorem dX6_drift_112 : decode cX6_drift 112 = .ok (.aload_n 0, 1) := by decide +kernel
theorem dX6_drift_113 : decode cX6_drift 113 = .ok (.getfield 7, 3) := by decide +kernel
theorem dX6_drift_116 : decode cX6_drift 116 = .ok (.bipush 51, 2) := by decide +kernel
theorem dX6_drift_118 : decode cX6_drift 118 = .ok (.iconst 3, 1) := by decide +kernel
theorem dX6_drift_119 : decode cX6_drift 119 = .ok (.iload 5, 2) := by decide +kernel
theorem dX6_drift_121 : decode cX6_drift 121 = .ok (.imul, 1) := by decide +kernel
theorem dX6_drift_122 : decode cX6_drift 122 = .ok (.iadd, 1) := by decide +kernel
theorem dX6_drift_123 : decode cX6_drift 123 = .ok (.iload 6, 2) := by decide +kernel
theorem dX6_drift_125 : decode cX6_drift 125 = .ok (.iadd, 1) := by decide +kernel
theorem dX6_drift_126 : decode cX6_drift 126 = .ok (.lload_n 2, 1) := by decide +kernel
theorem dX6_drift_127 : decode cX6_drift 127 = .ok (.ldc2_w 236, 3) := by decide +kernel
theorem dX6_drift_130 : decode cX6_drift 130 = .ok (.lrem, 1) := by decide +kernel
theorem dX6_drift_131 : decode cX6_drift 131 = .ok (.l2i, 1) := by decide +kernel
theorem dX6_drift_132 : decode cX6_drift 132 = .ok (.iastore, 1) := by decide +kernel
theorem dX6_drift_133 : decode cX6_drift 133 = .ok (.iload 4, 2) := by decide +kernel
theorem dX6_drift_135 : decode cX6_drift 135 = .ok (.aload_n 0, 1) := by decide +kernel
theorem dX6_drift_136 : decode cX6_drift 136 = .ok (.iload 5, 2) := by decide +kernel
theorem dX6_drift_138 : decode cX6_drift 138 = .ok (.iload 6, 2) := by decide +kernel
theorem dX6_drift_140 : decode cX6_drift 140 = .ok (.invokevirtual 102, 3) := by decide +kernel
theorem dX6_drift_143 : decode cX6_drift 143 = .ok (.iadd, 1) := by decide +kernel
theorem dX6_drift_144 : decode cX6_drift 144 = .ok (.istore 4, 2) := by decide +kernel
theorem dX6_drift_146 : decode cX6_drift 146 = .ok (.iinc 6 1, 3) := by decide +kernel
theorem dX6_drift_149 : decode cX6_drift 149 = .ok (.goto (-59), 3) := by decide +kernel
theorem dX6_drift_152 : decode cX6_drift 152 = .ok (.iinc 5 1, 3) := by decide +kernel
theorem dX6_drift_155 : decode cX6_drift 155 = .ok (.goto (-80), 3) := by decide +kernel
theorem dX6_drift_158 : decode cX6_drift 158 = .ok (.iload 4, 2) := by decide +kernel
theorem dX6_drift_160 : decode cX6_drift 160 = .ok (.ireturn, 1) := by decide +kernel
theorem dX6_undo_0 : decode cX6_undo 0 = .ok (.aload_n 0, 1) := by decide +kernel
theorem dX6_undo_1 : decode cX6_undo 1 = .ok (.getfield 182, 3) := by decide +kernel
theorem dX6_undo_4 : decode cX6_undo 4 = .ok (.ifCond .ne 6, 3) := by decide +kernel
theorem dX6_undo_7 : decode cX6_undo 7 = .ok (.ldc 238, 2) := by decide +kernel
theorem dX6_undo_9 : decode cX6_undo 9 = .ok (.ireturn, 1) := by decide +kernel
theorem dX6_undo_10 : decode cX6_undo 10 = .ok (.aload_n 0, 1) := by decide +kernel
theorem dX6_undo_11 : decode cX6_undo 11 = .ok (.dup, 1) := by decide +kernel
theorem dX6_undo_12 : decode cX6_undo 12 = .ok (.getfield 182, 3) := by decide +kernel
theorem dX6_undo_15 : decode cX6_undo 15 = .ok (.iconst 1, 1) := by decide +kernel
theorem dX6_undo_16 : decode cX6_undo 16 = .ok (.isub, 1) := by decide +kernel
theorem dX6_undo_17 : decode cX6_undo 17 = .ok (.putfield 182, 3) := by decide +kernel
theorem dX6_undo_20 : decode cX6_undo 20 = .ok (.aload_n 0, 1) := by decide +kernel
theorem dX6_undo_21 : decode cX6_undo 21 = .ok (.getfield 7, 3) := by decide +kernel
theorem dX6_undo_24 : decode cX6_undo 24 = .ok (.bipush 60, 2) := by decide +kernel
theorem dX6_undo_26 : decode cX6_undo 26 = .ok (.iaload, 1) := by decide +kernel
theorem dX6_undo_27 : decode cX6_undo 27 = .ok (.istore_n 1, 1) := by decide +kernel
theorem dX6_undo_28 : decode cX6_undo 28 = .ok (.iconst 0, 1) := by decide +kernel
theorem dX6_undo_29 : decode cX6_undo 29 = .ok (.istore_n 2, 1) := by decide +kernel
theorem dX6_undo_30 : decode cX6_undo 30 = .ok (.iload_n 2, 1) := by decide +kernel
theorem dX6_undo_31 : decode cX6_undo 31 = .ok (.bipush 63, 2) := by decide +kernel
theorem dX6_undo_33 : decode cX6_undo 33 = .ok (.if_icmp .ge 29, 3) := by decide +kernel
theorem dX6_undo_36 : decode cX6_undo 36 = .ok (.aload_n 0, 1) := by decide +kernel
theorem dX6_undo_37 : decode cX6_undo 37 = .ok (.getfield 7, 3) := by decide +kernel
theorem dX6_undo_40 : decode cX6_undo 40 = .ok (.iload_n 2, 1) := by decide +kernel
theorem dX6_undo_41 : decode cX6_undo 41 = .ok (.aload_n 0, 1) := by decide +kernel
theorem dX6_undo_42 : decode cX6_undo 42 = .ok (.getfield 42, 3) := by decide +kernel
theorem dX6_undo_45 : decode cX6_undo 45 = .ok (.bipush 63, 2) := by decide +kernel
theorem dX6_undo_47 : decode cX6_undo 47 = .ok (.aload_n 0, 1) := by decide +kernel
theorem dX6_undo_48 : decode cX6_undo 48 = .ok (.getfield 182, 3) := by decide +kernel
theorem dX6_undo_51 : decode cX6_undo 51 = .ok (.imul, 1) := by decide +kernel
theorem dX6_undo_52 : decode cX6_undo 52 = .ok (.iload_n 2, 1) := by decide +kernel
theorem dX6_undo_53 : decode cX6_undo 53 = .ok (.iadd, 1) := by decide +kernel
theorem dX6_undo_54 : decode cX6_undo 54 = .ok (.iaload, 1) := by decide +kernel
theorem dX6_undo_55 : decode cX6_undo 55 = .ok (.iastore, 1) := by decide +kernel
theorem dX6_undo_56 : decode cX6_undo 56 = .ok (.iinc 2 1, 3) := by decide +kernel
theorem dX6_undo_59 : decode cX6_undo 59 = .ok (.goto (-29), 3) := by decide +kernel
theorem dX6_undo_62 : decode cX6_undo 62 = .ok (.aload_n 0, 1) := by decide +kernel
theorem dX6_undo_63 : decode cX6_undo 63 = .ok (.aload_n 0, 1) := by decide +kernel
theorem dX6_undo_64 : decode cX6_undo 64 = .ok (.getfield 7, 3) := by decide +kernel
theorem dX6_undo_67 : decode cX6_undo 67 = .ok (.bipush 60, 2) := by decide +kernel
theorem dX6_undo_69 : decode cX6_undo 69 = .ok (.iaload, 1) := by decide +kernel
theorem dX6_undo_70 : decode cX6_undo 70 = .ok (.iload_n 1, 1) := by decide +kernel
theorem dX6_undo_71 : decode cX6_undo 71 = .ok (.if_icmp .ne 10, 3) := by decide +kernel
theorem dX6_undo_74 : decode cX6_undo 74 = .ok (.aload_n 0, 1) := by decide +kernel
theorem dX6_undo_75 : decode cX6_undo 75 = .ok (.getfield 51, 3) := by decide +kernel
theorem dX6_undo_78 : decode cX6_undo 78 = .ok (.goto 4, 3) := by decide +kernel
theorem dX6_undo_81 : decode cX6_undo 81 = .ok (.iconst 0, 1) := by decide +kernel
theorem dX6_undo_82 : decode cX6_undo 82 = .ok (.putfield 51, 3) := by decide +kernel
theorem dX6_undo_85 : decode cX6_undo 85 = .ok (.aload_n 0, 1) := by decide +kernel
theorem dX6_undo_86 : decode cX6_undo 86 = .ok (.getfield 182, 3) := by decide +kernel
theorem dX6_undo_89 : decode cX6_undo 89 = .ok (.ireturn, 1) := by decide +kernel
set_option maxRecDepth 20000 in
theorem ggX6_set_X6_isLetter : GoodIn wsX6_set wsX6_isLetter := goodIn_r _ [9, 10, 11, 12, 8, 13, 14, 15, 16, 17, 18, 19, 20, 21, 22, 23, 24, 25, 26, 27, 28, 29, 30] (by decide +kernel) (by decide +kernel)
set_option maxRecDepth 20000 in
theorem gX6_set_X6_isLetter : GoodIn wsX6_set (wsV RX6 187 RX6 yX6_isLetter wsX6_isLetter) := goodIn_app (goodIn_of _ (by decide +kernel)) ggX6_set_X6_isLetter
theorem dX6_set_0 : decode cX6_set 0 = .ok (.aload_n 0, 1) := by decide +kernel
theorem dX6_set_1 : decode cX6_set 1 = .ok (.iload_n 1, 1) := by decide +kernel
theorem dX6_set_2 : decode cX6_set 2 = .ok (.invokevirtual 187, 3) := by decide +kernel
theorem dX6_set_5 : decode cX6_set 5 = .ok (.ifCond .ne 6, 3) := by decide +kernel
theorem dX6_set_8 : decode cX6_set 8 = .ok (.ldc 190, 2) := by decide +kernel
theorem dX6_set_10 : decode cX6_set 10 = .ok (.ireturn, 1) := by decide +kernel
theorem dX6_set_11 : decode cX6_set 11 = .ok (.aload_n 0, 1) := by decide +kernel
theorem dX6_set_12 : decode cX6_set 12 = .ok (.getfield 51, 3) := by decide +kernel
theorem dX6_set_15 : decode cX6_set 15 = .ok (.bipush 16, 2) := by decide +kernel
theorem dX6_set_17 : decode cX6_set 17 = .ok (.if_icmp .ne 6, 3) := by decide +kernel
theorem dX6_set_20 : decode cX6_set 20 = .ok (.ldc 239, 2) := by decide +kernel
theorem dX6_set_22 : decode cX6_set 22 = .ok (.ireturn, 1) := by decide +kernel
theorem dX6_set_23 : decode cX6_set 23 = .ok (.aload_n 0, 1) := by decide +kernel
theorem dX6_set_24 : decode cX6_set 24 = .ok (.getfield 13, 3) := by decide +kernel
theorem dX6_set_27 : decode cX6_set 27 = .ok (.aload_n 0, 1) := by decide +kernel
theorem dX6_set_28 : decode cX6_set 28 = .ok (.getfield 51, 3) := by decide +kernel
theorem dX6_set_31 : decode cX6_set 31 = .ok (.iload_n 1, 1) := by decide +kernel
theorem dX6_set_32 : decode cX6_set 32 = .ok (.iastore, 1) := by decide +kernel
theorem dX6_set_33 : decode cX6_set 33 = .ok (.aload_n 0, 1) := by decide +kernel
theorem dX6_set_34 : decode cX6_set 34 = .ok (.dup, 1) := by decide +kernel
theorem dX6_set_35 : decode cX6_set 35 = .ok (.getfield 51, 3) := by decide +kernel
theorem dX6_set_38 : decode cX6_set 38 = .ok (.iconst 1, 1) := by decide +kernel
theorem dX6_set_39 : decode cX6_set 39 = .ok (.iadd, 1) := by decide +kernel
theorem dX6_set_40 : decode cX6_set 40 = .ok (.putfield 51, 3) := by decide +kernel
theorem dX6_set_43 : decode cX6_set 43 = .ok (.aload_n 0, 1) := by decide +kernel
theorem dX6_set_44 : decode cX6_set 44 = .ok (.getfield 51, 3) := by decide +kernel
theorem dX6_set_47 : decode cX6_set 47 = .ok (.ireturn, 1) := by decide +kernel
theorem dX6_wipe_0 : decode cX6_wipe 0 = .ok (.aload_n 0, 1) := by decide +kernel
theorem dX6_wipe_1 : decode cX6_wipe 1 = .ok (.getfield 51, 3) := by decide +kernel
theorem dX6_wipe_4 : decode cX6_wipe 4 = .ok (.istore_n 1, 1) := by decide +kernel
theorem dX6_wipe_5 : decode cX6_wipe 5 = .ok (.aload_n 0, 1) := by decide +kernel
theorem dX6_wipe_6 : decode cX6_wipe 6 = .ok (.iconst 0, 1) := by decide +kernel
theorem dX6_wipe_7 : decode cX6_wipe 7 = .ok (.putfield 51, 3) := by decide +kernel
theorem dX6_wipe_10 : decode cX6_wipe 10 = .ok (.iload_n 1, 1) := by decide +kernel
theorem dX6_wipe_11 : decode cX6_wipe 11 = .ok (.ireturn, 1) := by decide +kernel
theorem dX6_place_0 : decode cX6_place 0 = .ok (.iload_n 1, 1) := by decide +kernel
theorem dX6_place_1 : decode cX6_place 1 = .ok (.ifCond .ge 8, 3) := by decide +kernel
theorem dX6_place_4 : decode cX6_place 4 = .ok (.ldc 197, 2) := by decide +kernel
theorem dX6_place_6 : decode cX6_place 6 = .ok (.goto 21, 3) := by decide +kernel
theorem dX6_place_9 : decode cX6_place 9 = .ok (.iload_n 1, 1) := by decide +kernel
theorem dX6_place_10 : decode cX6_place 10 = .ok (.aload_n 0, 1) := by decide +kernel
theorem dX6_place_11 : decode cX6_place 11 = .ok (.getfield 51, 3) := by decide +kernel
theorem dX6_place_14 : decode cX6_place 14 = .ok (.if_icmp .ge 12, 3) := by decide +kernel
theorem dX6_place_17 : decode cX6_place 17 = .ok (.aload_n 0, 1) := by decide +kernel
theorem dX6_place_18 : decode cX6_place 18 = .ok (.getfield 13, 3) := by decide +kernel
theorem dX6_place_21 : decode cX6_place 21 = .ok (.iload_n 1, 1) := by decide +kernel
theorem dX6_place_22 : decode cX6_place 22 = .ok (.iaload, 1) := by decide +kernel
theorem dX6_place_23 : decode cX6_place 23 = .ok (.goto 4, 3) := by decide +kernel
theorem dX6_place_26 : decode cX6_place 26 = .ok (.iconst (-1), 1) := by decide +kernel
theorem dX6_place_27 : decode cX6_place 27 = .ok (.ireturn, 1) := by decide +kernel
set_option maxRecDepth 20000 in
theorem ggX6_sign_X6_writeLine : GoodIn wsX6_sign wsX6_writeLine := goodIn_r _ [8, 2, 9, 10, 11, 12, 13, 14, 15, 7, 16, 17, 18, 19, 20, 21, 22, 23, 24, 25, 26, 27, 28, 29, 30, 31, 32, 33, 34, 35, 36, 37, 38, 39, 40, 41, 42, 43, 44, 45, 46, 47, 48, 49, 50, 51, 52, 53, 54, 55, 56, 57, 58, 59, 60, 61, 62, 63, 64, 65, 66, 67, 68, 69, 3, 70, 71, 72, 73, 74, 75, 76, 77, 78, 79, 80, 81, 82, 83, 84, 85, 86, 87, 88, 89, 90, 91, 92, 93, 94, 95, 96, 97, 98, 99, 100, 101, 102, 103, 104, 105, 106, 107, 108, 109, 110, 111, 112, 113] (by decide +kernel) (by decide +kernel)
set_option maxRecDepth 20000 in
theorem gX6_sign_X6_writeLine : GoodIn wsX6_sign (wsV RX6 164 RX6 yX6_writeLine wsX6_writeLine) := goodIn_app (goodIn_of _ (by decide +kernel)) ggX6_sign_X6_writeLine
theorem dX6_sign_0 : decode cX6_sign 0 = .ok (.iload_n 1, 1) := by decide +kernel
theorem dX6_sign_1 : decode cX6_sign 1 = .ok (.ifCond .ge 6, 3) := by decide +kernel
theorem dX6_sign_4 : decode cX6_sign 4 = .ok (.ldc 197, 2) := by decide +kernel
theorem dX6_sign_6 : decode cX6_sign 6 = .ok (.ireturn, 1) := by decide +kernel
theorem dX6_sign_7 : decode cX6_sign 7 = .ok (.aload_n 0, 1) := by decide +kernel
theorem dX6_sign_8 : decode cX6_sign 8 = .ok (.invokevirtual 164, 3) := by decide +kernel
theorem dX6_sign_11 : decode cX6_sign 11 = .ok (.iload_n 1, 1) := by decide +kernel
theorem dX6_sign_12 : decode cX6_sign 12 = .ok (.aload_n 0, 1) := by decide +kernel
theorem dX6_sign_13 : decode cX6_sign 13 = .ok (.getfield 137, 3) := by decide +kernel
theorem dX6_sign_16 : decode cX6_sign 16 = .ok (.if_icmp .ge 12, 3) := by decide +kernel
theorem dX6_sign_19 : decode cX6_sign 19 = .ok (.aload_n 0, 1) := by decide +kernel
theorem dX6_sign_20 : decode cX6_sign 20 = .ok (.getfield 39, 3) := by decide +kernel
theorem dX6_sign_23 : decode cX6_sign 23 = .ok (.iload_n 1, 1) := by decide +kernel
theorem dX6_sign_24 : decode cX6_sign 24 = .ok (.iaload, 1) := by decide +kernel
theorem dX6_sign_25 : decode cX6_sign 25 = .ok (.goto 4, 3) := by decide +kernel
theorem dX6_sign_28 : decode cX6_sign 28 = .ok (.iconst (-1), 1) := by decide +kernel
theorem dX6_sign_29 : decode cX6_sign 29 = .ok (.ireturn, 1) := by decide +kernel
set_option maxRecDepth 20000 in
theorem ggX6_keep_X6_in : GoodIn wsX6_keep wsX6_in := goodIn_r _ [9] (by decide +kernel) (by decide +kernel)
set_option maxRecDepth 20000 in
theorem gX6_keep_X6_in : GoodIn wsX6_keep (va_wsS RX6 63 yX6_in wsX6_in) := goodIn_app (goodIn_of _ (by decide +kernel)) ggX6_keep_X6_in
theorem dX6_keep_0 : decode cX6_keep 0 = .ok (.iload_n 1, 1) := by decide +kernel
theorem dX6_keep_1 : decode cX6_keep 1 = .ok (.i2l, 1) := by decide +kernel
theorem dX6_keep_2 : decode cX6_keep 2 = .ok (.lconst 0, 1) := by decide +kernel
theorem dX6_keep_3 : decode cX6_keep 3 = .ok (.lconst 1, 1) := by decide +kernel
theorem dX6_keep_4 : decode cX6_keep 4 = .ok (.invokestatic 63, 3) := by decide +kernel
theorem dX6_keep_7 : decode cX6_keep 7 = .ok (.ifCond .ne 6, 3) := by decide +kernel
theorem dX6_keep_10 : decode cX6_keep 10 = .ok (.ldc 190, 2) := by decide +kernel
theorem dX6_keep_12 : decode cX6_keep 12 = .ok (.ireturn, 1) := by decide +kernel
theorem dX6_keep_13 : decode cX6_keep 13 = .ok (.iconst 0, 1) := by decide +kernel
theorem dX6_keep_14 : decode cX6_keep 14 = .ok (.istore_n 2, 1) := by decide +kernel
theorem dX6_keep_15 : decode cX6_keep 15 = .ok (.iload_n 2, 1) := by decide +kernel
theorem dX6_keep_16 : decode cX6_keep 16 = .ok (.bipush 63, 2) := by decide +kernel
theorem dX6_keep_18 : decode cX6_keep 18 = .ok (.if_icmp .ge 26, 3) := by decide +kernel
theorem dX6_keep_21 : decode cX6_keep 21 = .ok (.aload_n 0, 1) := by decide +kernel
theorem dX6_keep_22 : decode cX6_keep 22 = .ok (.getfield 45, 3) := by decide +kernel
theorem dX6_keep_25 : decode cX6_keep 25 = .ok (.bipush 63, 2) := by decide +kernel
theorem dX6_keep_27 : decode cX6_keep 27 = .ok (.iload_n 1, 1) := by decide +kernel
theorem dX6_keep_28 : decode cX6_keep 28 = .ok (.imul, 1) := by decide +kernel
theorem dX6_keep_29 : decode cX6_keep 29 = .ok (.iload_n 2, 1) := by decide +kernel
theorem dX6_keep_30 : decode cX6_keep 30 = .ok (.iadd, 1) := by decide +kernel
theorem dX6_keep_31 : decode cX6_keep 31 = .ok (.aload_n 0, 1) := by decide +kernel
theorem dX6_keep_32 : decode cX6_keep 32 = .ok (.getfield 7, 3) := by decide +kernel
theorem dX6_keep_35 : decode cX6_keep 35 = .ok (.iload_n 2, 1) := by decide +kernel
theorem dX6_keep_36 : decode cX6_keep 36 = .ok (.iaload, 1) := by decide +kernel
theorem dX6_keep_37 : decode cX6_keep 37 = .ok (.iastore, 1) := by decide +kernel
theorem dX6_keep_38 : decode cX6_keep 38 = .ok (.iinc 2 1, 3) := by decide +kernel
theorem dX6_keep_41 : decode cX6_keep 41 = .ok (.goto (-26), 3) := by decide +kernel
theorem dX6_keep_44 : decode cX6_keep 44 = .ok (.aload_n 0, 1) := by decide +kernel
theorem dX6_keep_45 : decode cX6_keep 45 = .ok (.getfield 48, 3) := by decide +kernel
theorem dX6_keep_48 : decode cX6_keep 48 = .ok (.iload_n 1, 1) := by decide +kernel
theorem dX6_keep_49 : decode cX6_keep 49 = .ok (.iconst 1, 1) := by decide +kernel
theorem dX6_keep_50 : decode cX6_keep 50 = .ok (.bastore, 1) := by decide +kernel
theorem dX6_keep_51 : decode cX6_keep 51 = .ok (.aload_n 0, 1) := by decide +kernel
theorem dX6_keep_52 : decode cX6_keep 52 = .ok (.iconst 0, 1) := by decide +kernel
theorem dX6_keep_53 : decode cX6_keep 53 = .ok (.putfield 182, 3) := by decide +kernel
theorem dX6_keep_56 : decode cX6_keep 56 = .ok (.aload_n 0, 1) := by decide +kernel
theorem dX6_keep_57 : decode cX6_keep 57 = .ok (.getfield 7, 3) := by decide +kernel
theorem dX6_keep_60 : decode cX6_keep 60 = .ok (.bipush 60, 2) := by decide +kernel
theorem dX6_keep_62 : decode cX6_keep 62 = .ok (.iaload, 1) := by decide +kernel
theorem dX6_keep_63 : decode cX6_keep 63 = .ok (.ireturn, 1) := by decide +kernel
set_option maxRecDepth 20000 in
theorem ggX6_goBack_X6_in : GoodIn wsX6_goBack wsX6_in := goodIn_r _ [11] (by decide +kernel) (by decide +kernel)
set_option maxRecDepth 20000 in
theorem gX6_goBack_X6_in : GoodIn wsX6_goBack (va_wsS RX6 63 yX6_in wsX6_in) := goodIn_app (goodIn_of _ (by decide +kernel)) ggX6_goBack_X6_in
theorem dX6_goBack_0 : decode cX6_goBack 0 = .ok (.iload_n 1, 1) := by decide +kernel
theorem dX6_goBack_1 : decode cX6_goBack 1 = .ok (.i2l, 1) := by decide +kernel
theorem dX6_goBack_2 : decode cX6_goBack 2 = .ok (.lconst 0, 1) := by decide +kernel
theorem dX6_goBack_3 : decode cX6_goBack 3 = .ok (.lconst 1, 1) := by decide +kernel
theorem dX6_goBack_4 : decode cX6_goBack 4 = .ok (.invokestatic 63, 3) := by decide +kernel
theorem dX6_goBack_7 : decode cX6_goBack 7 = .ok (.ifCond .ne 6, 3) := by decide +kernel
theorem dX6_goBack_10 : decode cX6_goBack 10 = .ok (.ldc 190, 2) := by decide +kernel
theorem dX6_goBack_12 : decode cX6_goBack 12 = .ok (.ireturn, 1) := by decide +kernel
theorem dX6_goBack_13 : decode cX6_goBack 13 = .ok (.aload_n 0, 1) := by decide +kernel
theorem dX6_goBack_14 : decode cX6_goBack 14 = .ok (.getfield 48, 3) := by decide +kernel
theorem dX6_goBack_17 : decode cX6_goBack 17 = .ok (.iload_n 1, 1) := by decide +kernel
theorem dX6_goBack_18 : decode cX6_goBack 18 = .ok (.baload, 1) := by decide +kernel
theorem dX6_goBack_19 : decode cX6_goBack 19 = .ok (.ifCond .ne 6, 3) := by decide +kernel
theorem dX6_goBack_22 : decode cX6_goBack 22 = .ok (.ldc 238, 2) := by decide +kernel
theorem dX6_goBack_24 : decode cX6_goBack 24 = .ok (.ireturn, 1) := by decide +kernel
theorem dX6_goBack_25 : decode cX6_goBack 25 = .ok (.iconst 0, 1) := by decide +kernel
theorem dX6_goBack_26 : decode cX6_goBack 26 = .ok (.istore_n 2, 1) := by decide +kernel
theorem dX6_goBack_27 : decode cX6_goBack 27 = .ok (.iload_n 2, 1) := by decide +kernel
theorem dX6_goBack_28 : decode cX6_goBack 28 = .ok (.bipush 63, 2) := by decide +kernel
theorem dX6_goBack_30 : decode cX6_goBack 30 = .ok (.if_icmp .ge 26, 3) := by decide +kernel
theorem dX6_goBack_33 : decode cX6_goBack 33 = .ok (.aload_n 0, 1) := by decide +kernel
theorem dX6_goBack_34 : decode cX6_goBack 34 = .ok (.getfield 7, 3) := by decide +kernel
theorem dX6_goBack_37 : decode cX6_goBack 37 = .ok (.iload_n 2, 1) := by decide +kernel
theorem dX6_goBack_38 : decode cX6_goBack 38 = .ok (.aload_n 0, 1) := by decide +kernel
theorem dX6_goBack_39 : decode cX6_goBack 39 = .ok (.getfield 45, 3) := by decide +kernel
theorem dX6_goBack_42 : decode cX6_goBack 42 = .ok (.bipush 63, 2) := by decide +kernel
theorem dX6_goBack_44 : decode cX6_goBack 44 = .ok (.iload_n 1, 1) := by decide +kernel
theorem dX6_goBack_45 : decode cX6_goBack 45 = .ok (.imul, 1) := by decide +kernel
theorem dX6_goBack_46 : decode cX6_goBack 46 = .ok (.iload_n 2, 1) := by decide +kernel
theorem dX6_goBack_47 : decode cX6_goBack 47 = .ok (.iadd, 1) := by decide +kernel
theorem dX6_goBack_48 : decode cX6_goBack 48 = .ok (.iaload, 1) := by decide +kernel
theorem dX6_goBack_49 : decode cX6_goBack 49 = .ok (.iastore, 1) := by decide +kernel
theorem dX6_goBack_50 : decode cX6_goBack 50 = .ok (.iinc 2 1, 3) := by decide +kernel
theorem dX6_goBack_53 : decode cX6_goBack 53 = .ok (.goto (-26), 3) := by decide +kernel
theorem dX6_goBack_56 : decode cX6_goBack 56 = .ok (.aload_n 0, 1) := by decide +kernel
theorem dX6_goBack_57 : decode cX6_goBack 57 = .ok (.iconst 0, 1) := by decide +kernel
theorem dX6_goBack_58 : decode cX6_goBack 58 = .ok (.putfield 51, 3) := by decide +kernel
theorem dX6_goBack_61 : decode cX6_goBack 61 = .ok (.aload_n 0, 1) := by decide +kernel
theorem dX6_goBack_62 : decode cX6_goBack 62 = .ok (.iconst 0, 1) := by decide +kernel
theorem dX6_goBack_63 : decode cX6_goBack 63 = .ok (.putfield 182, 3) := by decide +kernel
theorem dX6_goBack_66 : decode cX6_goBack 66 = .ok (.aload_n 0, 1) := by decide +kernel
theorem dX6_goBack_67 : decode cX6_goBack 67 = .ok (.getfield 7, 3) := by decide +kernel
theorem dX6_goBack_70 : decode cX6_goBack 70 = .ok (.bipush 60, 2) := by decide +kernel
theorem dX6_goBack_72 : decode cX6_goBack 72 = .ok (.iaload, 1) := by decide +kernel
theorem dX6_goBack_73 : decode cX6_goBack 73 = .ok (.ireturn, 1) := by decide +kernel
theorem dJ9_floorDiv_f86c9_0 : decode cJ9_floorDiv_f86c9 0 = .ok (.lload_n 0, 1) := by decide +kernel
theorem dJ9_floorDiv_f86c9_1 : decode cJ9_floorDiv_f86c9 1 = .ok (.lload_n 2, 1) := by decide +kernel
theorem dJ9_floorDiv_f86c9_2 : decode cJ9_floorDiv_f86c9 2 = .ok (.ldiv, 1) := by decide +kernel
theorem dJ9_floorDiv_f86c9_3 : decode cJ9_floorDiv_f86c9 3 = .ok (.lstore 4, 2) := by decide +kernel
theorem dJ9_floorDiv_f86c9_5 : decode cJ9_floorDiv_f86c9 5 = .ok (.lload_n 0, 1) := by decide +kernel
theorem dJ9_floorDiv_f86c9_6 : decode cJ9_floorDiv_f86c9 6 = .ok (.lload_n 2, 1) := by decide +kernel
theorem dJ9_floorDiv_f86c9_7 : decode cJ9_floorDiv_f86c9 7 = .ok (.lxor, 1) := by decide +kernel
theorem dJ9_floorDiv_f86c9_8 : decode cJ9_floorDiv_f86c9 8 = .ok (.lconst 0, 1) := by decide +kernel
theorem dJ9_floorDiv_f86c9_9 : decode cJ9_floorDiv_f86c9 9 = .ok (.lcmp, 1) := by decide +kernel
theorem dJ9_floorDiv_f86c9_10 : decode cJ9_floorDiv_f86c9 10 = .ok (.ifCond .ge 17, 3) := by decide +kernel
theorem dJ9_floorDiv_f86c9_13 : decode cJ9_floorDiv_f86c9 13 = .ok (.lload 4, 2) := by decide +kernel
theorem dJ9_floorDiv_f86c9_15 : decode cJ9_floorDiv_f86c9 15 = .ok (.lload_n 2, 1) := by decide +kernel
theorem dJ9_floorDiv_f86c9_16 : decode cJ9_floorDiv_f86c9 16 = .ok (.lmul, 1) := by decide +kernel
theorem dJ9_floorDiv_f86c9_17 : decode cJ9_floorDiv_f86c9 17 = .ok (.lload_n 0, 1) := by decide +kernel
theorem dJ9_floorDiv_f86c9_18 : decode cJ9_floorDiv_f86c9 18 = .ok (.lcmp, 1) := by decide +kernel
theorem dJ9_floorDiv_f86c9_19 : decode cJ9_floorDiv_f86c9 19 = .ok (.ifCond .eq 8, 3) := by decide +kernel
theorem dJ9_floorDiv_f86c9_22 : decode cJ9_floorDiv_f86c9 22 = .ok (.lload 4, 2) := by decide +kernel
theorem dJ9_floorDiv_f86c9_24 : decode cJ9_floorDiv_f86c9 24 = .ok (.lconst 1, 1) := by decide +kernel
theorem dJ9_floorDiv_f86c9_25 : decode cJ9_floorDiv_f86c9 25 = .ok (.lsub, 1) := by decide +kernel
theorem dJ9_floorDiv_f86c9_26 : decode cJ9_floorDiv_f86c9 26 = .ok (.lreturn, 1) := by decide +kernel
theorem dJ9_floorDiv_f86c9_27 : decode cJ9_floorDiv_f86c9 27 = .ok (.lload 4, 2) := by decide +kernel
theorem dJ9_floorDiv_f86c9_29 : decode cJ9_floorDiv_f86c9 29 = .ok (.lreturn, 1) := by decide +kernel
theorem dJ9_floorMod_f86c9_0 : decode cJ9_floorMod_f86c9 0 = .ok (.lload_n 0, 1) := by decide +kernel
theorem dJ9_floorMod_f86c9_1 : decode cJ9_floorMod_f86c9 1 = .ok (.lload_n 2, 1) := by decide +kernel
theorem dJ9_floorMod_f86c9_2 : decode cJ9_floorMod_f86c9 2 = .ok (.lrem, 1) := by decide +kernel
theorem dJ9_floorMod_f86c9_3 : decode cJ9_floorMod_f86c9 3 = .ok (.lstore 4, 2) := by decide +kernel
theorem dJ9_floorMod_f86c9_5 : decode cJ9_floorMod_f86c9 5 = .ok (.lload_n 0, 1) := by decide +kernel
theorem dJ9_floorMod_f86c9_6 : decode cJ9_floorMod_f86c9 6 = .ok (.lload_n 2, 1) := by decide +kernel
theorem dJ9_floorMod_f86c9_7 : decode cJ9_floorMod_f86c9 7 = .ok (.lxor, 1) := by decide +kernel
theorem dJ9_floorMod_f86c9_8 : decode cJ9_floorMod_f86c9 8 = .ok (.lconst 0, 1) := by decide +kernel
theorem dJ9_floorMod_f86c9_9 : decode cJ9_floorMod_f86c9 9 = .ok (.lcmp, 1) := by decide +kernel
theorem dJ9_floorMod_f86c9_10 : decode cJ9_floorMod_f86c9 10 = .ok (.ifCond .ge 15, 3) := by decide +kernel
theorem dJ9_floorMod_f86c9_13 : decode cJ9_floorMod_f86c9 13 = .ok (.lload 4, 2) := by decide +kernel
theorem dJ9_floorMod_f86c9_15 : decode cJ9_floorMod_f86c9 15 = .ok (.lconst 0, 1) := by decide +kernel
theorem dJ9_floorMod_f86c9_16 : decode cJ9_floorMod_f86c9 16 = .ok (.lcmp, 1) := by decide +kernel
theorem dJ9_floorMod_f86c9_17 : decode cJ9_floorMod_f86c9 17 = .ok (.ifCond .eq 8, 3) := by decide +kernel
theorem dJ9_floorMod_f86c9_20 : decode cJ9_floorMod_f86c9 20 = .ok (.lload 4, 2) := by decide +kernel
theorem dJ9_floorMod_f86c9_22 : decode cJ9_floorMod_f86c9 22 = .ok (.lload_n 2, 1) := by decide +kernel
theorem dJ9_floorMod_f86c9_23 : decode cJ9_floorMod_f86c9 23 = .ok (.ladd, 1) := by decide +kernel
theorem dJ9_floorMod_f86c9_24 : decode cJ9_floorMod_f86c9 24 = .ok (.lreturn, 1) := by decide +kernel
theorem dJ9_floorMod_f86c9_25 : decode cJ9_floorMod_f86c9 25 = .ok (.lload 4, 2) := by decide +kernel
theorem dJ9_floorMod_f86c9_27 : decode cJ9_floorMod_f86c9 27 = .ok (.lreturn, 1) := by decide +kernel
theorem dJ9_abs_067f4_0 : decode cJ9_abs_067f4 0 = .ok (.lload_n 0, 1) := by decide +kernel
theorem dJ9_abs_067f4_1 : decode cJ9_abs_067f4 1 = .ok (.lconst 0, 1) := by decide +kernel
theorem dJ9_abs_067f4_2 : decode cJ9_abs_067f4 2 = .ok (.lcmp, 1) := by decide +kernel
theorem dJ9_abs_067f4_3 : decode cJ9_abs_067f4 3 = .ok (.ifCond .ge 8, 3) := by decide +kernel
theorem dJ9_abs_067f4_6 : decode cJ9_abs_067f4 6 = .ok (.lload_n 0, 1) := by decide +kernel
theorem dJ9_abs_067f4_7 : decode cJ9_abs_067f4 7 = .ok (.lneg, 1) := by decide +kernel
theorem dJ9_abs_067f4_8 : decode cJ9_abs_067f4 8 = .ok (.goto 4, 3) := by decide +kernel
theorem dJ9_abs_067f4_11 : decode cJ9_abs_067f4 11 = .ok (.lload_n 0, 1) := by decide +kernel
theorem dJ9_abs_067f4_12 : decode cJ9_abs_067f4 12 = .ok (.lreturn, 1) := by decide +kernel
theorem dJ9_max_7cf53_0 : decode cJ9_max_7cf53 0 = .ok (.iload_n 0, 1) := by decide +kernel
theorem dJ9_max_7cf53_1 : decode cJ9_max_7cf53 1 = .ok (.iload_n 1, 1) := by decide +kernel
theorem dJ9_max_7cf53_2 : decode cJ9_max_7cf53 2 = .ok (.if_icmp .lt 7, 3) := by decide +kernel
theorem dJ9_max_7cf53_5 : decode cJ9_max_7cf53 5 = .ok (.iload_n 0, 1) := by decide +kernel
theorem dJ9_max_7cf53_6 : decode cJ9_max_7cf53 6 = .ok (.goto 4, 3) := by decide +kernel
theorem dJ9_max_7cf53_9 : decode cJ9_max_7cf53 9 = .ok (.iload_n 1, 1) := by decide +kernel
theorem dJ9_max_7cf53_10 : decode cJ9_max_7cf53 10 = .ok (.ireturn, 1) := by decide +kernel
theorem dJ9_max_f86c9_0 : decode cJ9_max_f86c9 0 = .ok (.lload_n 0, 1) := by decide +kernel
theorem dJ9_max_f86c9_1 : decode cJ9_max_f86c9 1 = .ok (.lload_n 2, 1) := by decide +kernel
theorem dJ9_max_f86c9_2 : decode cJ9_max_f86c9 2 = .ok (.lcmp, 1) := by decide +kernel
theorem dJ9_max_f86c9_3 : decode cJ9_max_f86c9 3 = .ok (.ifCond .lt 7, 3) := by decide +kernel
theorem dJ9_max_f86c9_6 : decode cJ9_max_f86c9 6 = .ok (.lload_n 0, 1) := by decide +kernel
theorem dJ9_max_f86c9_7 : decode cJ9_max_f86c9 7 = .ok (.goto 4, 3) := by decide +kernel
theorem dJ9_max_f86c9_10 : decode cJ9_max_f86c9 10 = .ok (.lload_n 2, 1) := by decide +kernel
theorem dJ9_max_f86c9_11 : decode cJ9_max_f86c9 11 = .ok (.lreturn, 1) := by decide +kernel
theorem dJ9_min_7cf53_0 : decode cJ9_min_7cf53 0 = .ok (.iload_n 0, 1) := by decide +kernel
theorem dJ9_min_7cf53_1 : decode cJ9_min_7cf53 1 = .ok (.iload_n 1, 1) := by decide +kernel
theorem dJ9_min_7cf53_2 : decode cJ9_min_7cf53 2 = .ok (.if_icmp .gt 7, 3) := by decide +kernel
theorem dJ9_min_7cf53_5 : decode cJ9_min_7cf53 5 = .ok (.iload_n 0, 1) := by decide +kernel
theorem dJ9_min_7cf53_6 : decode cJ9_min_7cf53 6 = .ok (.goto 4, 3) := by decide +kernel
theorem dJ9_min_7cf53_9 : decode cJ9_min_7cf53 9 = .ok (.iload_n 1, 1) := by decide +kernel
theorem dJ9_min_7cf53_10 : decode cJ9_min_7cf53 10 = .ok (.ireturn, 1) := by decide +kernel
