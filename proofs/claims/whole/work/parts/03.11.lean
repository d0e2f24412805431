theorem dX7_isHalf_3 : decode cX7_isHalf 3 = .ok (.lconst 1, 1) := by decide +kernel
theorem dX7_isHalf_4 : decode cX7_isHalf 4 = .ok (.invokestatic 56, 3) := by decide +kernel
theorem dX7_isHalf_7 : decode cX7_isHalf 7 = .ok (.ireturn, 1) := by decide +kernel
set_option maxRecDepth 20000 in
theorem ggX7_many_X7_isModel : GoodIn wsX7_many wsX7_isModel := goodIn_r _ [5, 6, 7, 8, 4, 9] (by decide +kernel) (by decide +kernel)
set_option maxRecDepth 20000 in
theorem gX7_many_X7_isModel : GoodIn wsX7_many (va_wsS RX7 142 yX7_isModel wsX7_isModel) := goodIn_app (goodIn_of _ (by decide +kernel)) ggX7_many_X7_isModel
set_option maxRecDepth 20000 in
theorem ggX7_many_X7_ready : GoodIn wsX7_many wsX7_ready := goodIn_r _ [13, 14, 15, 1, 16, 17, 18, 19, 20, 21, 22, 23, 24, 4, 25, 26, 27, 28, 29, 30, 31, 32, 33, 34, 35, 36, 37, 38, 39, 40, 41, 42, 43, 44, 45, 46, 47, 48, 58, 59, 60, 61, 62, 63, 64, 65, 66, 67, 68, 69, 70, 71, 72, 73, 74, 75, 76, 77, 78] (by decide +kernel) (by decide +kernel)
set_option maxRecDepth 20000 in
theorem gX7_many_X7_ready : GoodIn wsX7_many (wsV RX7 145 RX7 yX7_ready wsX7_ready) := goodIn_app (goodIn_of _ (by decide +kernel)) ggX7_many_X7_ready
set_option maxRecDepth 20000 in
theorem ggX7_many_X7_weightOf : GoodIn wsX7_many wsX7_weightOf := goodIn_r _ [52, 16, 14, 53, 44, 22, 23, 24, 4, 25, 1, 54, 55, 56, 57, 20, 21, 29, 30, 31, 32, 33, 34, 35, 36, 37, 38, 26, 27, 28, 58, 59, 60, 61, 62, 63, 64, 65, 66, 67, 68, 69, 70, 71, 72, 73, 74, 75, 76, 77, 78] (by decide +kernel) (by decide +kernel)
set_option maxRecDepth 20000 in
theorem gX7_many_X7_weightOf : GoodIn wsX7_many (wsV RX7 138 RX7 yX7_weightOf wsX7_weightOf) := goodIn_app (goodIn_of _ (by decide +kernel)) ggX7_many_X7_weightOf
theorem dX7_many_0 : decode cX7_many 0 = .ok (.iload_n 1, 1) := by decide +kernel
theorem dX7_many_1 : decode cX7_many 1 = .ok (.invokestatic 142, 3) := by decide +kernel
theorem dX7_many_4 : decode cX7_many 4 = .ok (.ifCond .ne 5, 3) := by decide +kernel
theorem dX7_many_7 : decode cX7_many 7 = .ok (.iconst (-1), 1) := by decide +kernel
theorem dX7_many_8 : decode cX7_many 8 = .ok (.ireturn, 1) := by decide +kernel
theorem dX7_many_9 : decode cX7_many 9 = .ok (.aload_n 0, 1) := by decide +kernel
theorem dX7_many_10 : decode cX7_many 10 = .ok (.iload_n 1, 1) := by decide +kernel
theorem dX7_many_11 : decode cX7_many 11 = .ok (.invokevirtual 145, 3) := by decide +kernel
theorem dX7_many_14 : decode cX7_many 14 = .ok (.iconst 0, 1) := by decide +kernel
theorem dX7_many_15 : decode cX7_many 15 = .ok (.istore_n 2, 1) := by decide +kernel
theorem dX7_many_16 : decode cX7_many 16 = .ok (.iconst 0, 1) := by decide +kernel
theorem dX7_many_17 : decode cX7_many 17 = .ok (.istore_n 3, 1) := by decide +kernel
theorem dX7_many_18 : decode cX7_many 18 = .ok (.iload_n 3, 1) := by decide +kernel
theorem dX7_many_19 : decode cX7_many 19 = .ok (.iconst 1, 1) := by decide +kernel
theorem dX7_many_20 : decode cX7_many 20 = .ok (.aload_n 0, 1) := by decide +kernel
theorem dX7_many_21 : decode cX7_many 21 = .ok (.getfield 60, 3) := by decide +kernel
theorem dX7_many_24 : decode cX7_many 24 = .ok (.ishl, 1) := by decide +kernel
theorem dX7_many_25 : decode cX7_many 25 = .ok (.if_icmp .ge 27, 3) := by decide +kernel
theorem dX7_many_28 : decode cX7_many 28 = .ok (.iload_n 2, 1) := by decide +kernel
theorem dX7_many_29 : decode cX7_many 29 = .ok (.aload_n 0, 1) := by decide +kernel
theorem dX7_many_30 : decode cX7_many 30 = .ok (.iload_n 3, 1) := by decide +kernel
theorem dX7_many_31 : decode cX7_many 31 = .ok (.invokevirtual 138, 3) := by decide +kernel
theorem dX7_many_34 : decode cX7_many 34 = .ok (.lconst 0, 1) := by decide +kernel
theorem dX7_many_35 : decode cX7_many 35 = .ok (.lcmp, 1) := by decide +kernel
theorem dX7_many_36 : decode cX7_many 36 = .ok (.ifCond .le 7, 3) := by decide +kernel
theorem dX7_many_39 : decode cX7_many 39 = .ok (.iconst 1, 1) := by decide +kernel
theorem dX7_many_40 : decode cX7_many 40 = .ok (.goto 4, 3) := by decide +kernel
theorem dX7_many_43 : decode cX7_many 43 = .ok (.iconst 0, 1) := by decide +kernel
theorem dX7_many_44 : decode cX7_many 44 = .ok (.iadd, 1) := by decide +kernel
theorem dX7_many_45 : decode cX7_many 45 = .ok (.istore_n 2, 1) := by decide +kernel
theorem dX7_many_46 : decode cX7_many 46 = .ok (.iinc 3 1, 3) := by decide +kernel
theorem dX7_many_49 : decode cX7_many 49 = .ok (.goto (-31), 3) := by decide +kernel
theorem dX7_many_52 : decode cX7_many 52 = .ok (.iload_n 2, 1) := by decide +kernel
theorem dX7_many_53 : decode cX7_many 53 = .ok (.ireturn, 1) := by decide +kernel
set_option maxRecDepth 20000 in
theorem ggX7_total_X7_isModel : GoodIn wsX7_total wsX7_isModel := goodIn_r _ [5, 6, 7, 8, 4, 9] (by decide +kernel) (by decide +kernel)
set_option maxRecDepth 20000 in
theorem gX7_total_X7_isModel : GoodIn wsX7_total (va_wsS RX7 142 yX7_isModel wsX7_isModel) := goodIn_app (goodIn_of _ (by decide +kernel)) ggX7_total_X7_isModel
set_option maxRecDepth 20000 in
theorem ggX7_total_X7_ready : GoodIn wsX7_total wsX7_ready := goodIn_r _ [13, 14, 15, 16, 17, 18, 19, 20, 21, 22, 23, 24, 25, 4, 26, 27, 28, 29, 30, 31, 32, 33, 34, 35, 36, 37, 38, 39, 40, 41, 42, 43, 44, 45, 46, 47, 48, 49, 63, 64, 65, 66, 67, 68, 69, 70, 71, 72, 73, 74, 75, 76, 77, 78, 79, 80, 81, 82, 83] (by decide +kernel) (by decide +kernel)
set_option maxRecDepth 20000 in
theorem gX7_total_X7_ready : GoodIn wsX7_total (wsV RX7 145 RX7 yX7_ready wsX7_ready) := goodIn_app (goodIn_of _ (by decide +kernel)) ggX7_total_X7_ready
set_option maxRecDepth 20000 in
theorem ggX7_total_X7_totalOf : GoodIn wsX7_total wsX7_totalOf := goodIn_r _ [53, 16, 54, 55, 56, 4, 57, 17, 14, 58, 45, 23, 24, 25, 26, 59, 60, 61, 62, 21, 22, 30, 31, 32, 33, 34, 35, 36, 37, 38, 39, 27, 28, 29, 63, 64, 65, 66, 67, 68, 69, 70, 71, 72, 73, 74, 75, 76, 77, 78, 79, 80, 81, 82, 83] (by decide +kernel) (by decide +kernel)
set_option maxRecDepth 20000 in
theorem gX7_total_X7_totalOf : GoodIn wsX7_total (wsV RX7 151 RX7 yX7_totalOf wsX7_totalOf) := goodIn_app (goodIn_of _ (by decide +kernel)) ggX7_total_X7_totalOf
theorem dX7_total_0 : decode cX7_total 0 = .ok (.iload_n 1, 1) := by decide +kernel
theorem dX7_total_1 : decode cX7_total 1 = .ok (.invokestatic 142, 3) := by decide +kernel
theorem dX7_total_4 : decode cX7_total 4 = .ok (.ifCond .ne 7, 3) := by decide +kernel
theorem dX7_total_7 : decode cX7_total 7 = .ok (.ldc2_w 149, 3) := by decide +kernel
theorem dX7_total_10 : decode cX7_total 10 = .ok (.lreturn, 1) := by decide +kernel
theorem dX7_total_11 : decode cX7_total 11 = .ok (.aload_n 0, 1) := by decide +kernel
theorem dX7_total_12 : decode cX7_total 12 = .ok (.iload_n 1, 1) := by decide +kernel
theorem dX7_total_13 : decode cX7_total 13 = .ok (.invokevirtual 145, 3) := by decide +kernel
theorem dX7_total_16 : decode cX7_total 16 = .ok (.aload_n 0, 1) := by decide +kernel
theorem dX7_total_17 : decode cX7_total 17 = .ok (.invokevirtual 151, 3) := by decide +kernel
theorem dX7_total_20 : decode cX7_total 20 = .ok (.lreturn, 1) := by decide +kernel
theorem dX7_told_0 : decode cX7_told 0 = .ok (.lload_n 0, 1) := by decide +kernel
theorem dX7_told_1 : decode cX7_told 1 = .ok (.lstore 5, 2) := by decide +kernel
theorem dX7_told_3 : decode cX7_told 3 = .ok (.lload_n 2, 1) := by decide +kernel
theorem dX7_told_4 : decode cX7_told 4 = .ok (.lstore 7, 2) := by decide +kernel
theorem dX7_told_6 : decode cX7_told 6 = .ok (.lload 7, 2) := by decide +kernel
theorem dX7_told_8 : decode cX7_told 8 = .ok (.lconst 0, 1) := by decide +kernel
theorem dX7_told_9 : decode cX7_told 9 = .ok (.lcmp, 1) := by decide +kernel
theorem dX7_told_10 : decode cX7_told 10 = .ok (.ifCond .eq 21, 3) := by decide +kernel
theorem dX7_told_13 : decode cX7_told 13 = .ok (.lload 5, 2) := by decide +kernel
theorem dX7_told_15 : decode cX7_told 15 = .ok (.lload 7, 2) := by decide +kernel
theorem dX7_told_17 : decode cX7_told 17 = .ok (.lrem, 1) := by decide +kernel
theorem dX7_told_18 : decode cX7_told 18 = .ok (.lstore 9, 2) := by decide +kernel
theorem dX7_told_20 : decode cX7_told 20 = .ok (.lload 7, 2) := by decide +kernel
theorem dX7_told_22 : decode cX7_told 22 = .ok (.lstore 5, 2) := by decide +kernel
theorem dX7_told_24 : decode cX7_told 24 = .ok (.lload 9, 2) := by decide +kernel
theorem dX7_told_26 : decode cX7_told 26 = .ok (.lstore 7, 2) := by decide +kernel
theorem dX7_told_28 : decode cX7_told 28 = .ok (.goto (-22), 3) := by decide +kernel
theorem dX7_told_31 : decode cX7_told 31 = .ok (.iload 4, 2) := by decide +kernel
theorem dX7_told_33 : decode cX7_told 33 = .ok (.ifCond .ne 10, 3) := by decide +kernel
theorem dX7_told_36 : decode cX7_told 36 = .ok (.lload_n 0, 1) := by decide +kernel
theorem dX7_told_37 : decode cX7_told 37 = .ok (.lload 5, 2) := by decide +kernel
theorem dX7_told_39 : decode cX7_told 39 = .ok (.ldiv, 1) := by decide +kernel
theorem dX7_told_40 : decode cX7_told 40 = .ok (.goto 7, 3) := by decide +kernel
theorem dX7_told_43 : decode cX7_told 43 = .ok (.lload_n 2, 1) := by decide +kernel
theorem dX7_told_44 : decode cX7_told 44 = .ok (.lload 5, 2) := by decide +kernel
theorem dX7_told_46 : decode cX7_told 46 = .ok (.ldiv, 1) := by decide +kernel
theorem dX7_told_47 : decode cX7_told 47 = .ok (.lreturn, 1) := by decide +kernel
set_option maxRecDepth 20000 in
theorem ggX7_odds_X7_isModel : GoodIn wsX7_odds wsX7_isModel := goodIn_r _ [9, 10, 11, 12, 8, 13] (by decide +kernel) (by decide +kernel)
set_option maxRecDepth 20000 in
theorem gX7_odds_X7_isModel : GoodIn wsX7_odds (va_wsS RX7 142 yX7_isModel wsX7_isModel) := goodIn_app (goodIn_of _ (by decide +kernel)) ggX7_odds_X7_isModel
set_option maxRecDepth 20000 in
theorem ggX7_odds_X7_in : GoodIn wsX7_odds wsX7_in := goodIn_r _ [13] (by decide +kernel) (by decide +kernel)
set_option maxRecDepth 20000 in
theorem gX7_odds_X7_in : GoodIn wsX7_odds (va_wsS RX7 56 yX7_in wsX7_in) := goodIn_app (goodIn_of _ (by decide +kernel)) ggX7_odds_X7_in
set_option maxRecDepth 20000 in
theorem ggX7_odds_X7_isHalf : GoodIn wsX7_odds wsX7_isHalf := goodIn_r _ [16, 11, 12, 8, 13] (by decide +kernel) (by decide +kernel)
set_option maxRecDepth 20000 in
theorem gX7_odds_X7_isHalf : GoodIn wsX7_odds (va_wsS RX7 155 yX7_isHalf wsX7_isHalf) := goodIn_app (goodIn_of _ (by decide +kernel)) ggX7_odds_X7_isHalf
set_option maxRecDepth 20000 in
theorem ggX7_odds_X7_ready : GoodIn wsX7_odds wsX7_ready := goodIn_r _ [20, 21, 4, 5, 22, 23, 24, 25, 26, 27, 28, 29, 30, 8, 31, 32, 33, 34, 35, 36, 37, 38, 39, 40, 41, 42, 43, 44, 45, 46, 47, 48, 49, 50, 51, 52, 53, 54, 98, 99, 100, 101, 102, 103, 104, 105, 106, 107, 108, 109, 110, 111, 112, 113, 114, 115, 116, 117, 118] (by decide +kernel) (by decide +kernel)
set_option maxRecDepth 20000 in
theorem gX7_odds_X7_ready : GoodIn wsX7_odds (wsV RX7 145 RX7 yX7_ready wsX7_ready) := goodIn_app (goodIn_of _ (by decide +kernel)) ggX7_odds_X7_ready
set_option maxRecDepth 20000 in
theorem ggX7_odds_X7_findThings : GoodIn wsX7_odds wsX7_findThings := goodIn_r _ [58, 59, 60, 26, 5, 3, 61, 62, 63, 8, 64, 28, 29, 30, 31, 51, 52, 53, 54, 39, 40, 41, 42, 43, 44, 65, 66, 67, 68, 69, 70, 71, 72, 73, 74, 75, 76, 77, 78, 79, 80, 81, 35, 36, 37, 38, 98, 99, 100, 101, 102, 103, 104, 105, 106, 107, 108, 109, 110, 111, 112, 113, 114, 115, 116, 117, 118] (by decide +kernel) (by decide +kernel)
set_option maxRecDepth 20000 in
theorem gX7_odds_X7_findThings : GoodIn wsX7_odds (wsV RX7 158 RX7 yX7_findThings wsX7_findThings) := goodIn_app (goodIn_of _ (by decide +kernel)) ggX7_odds_X7_findThings
set_option maxRecDepth 20000 in
theorem ggX7_odds_X7_weightOf : GoodIn wsX7_odds wsX7_weightOf := goodIn_r _ [85, 22, 21, 86, 50, 28, 29, 30, 8, 31, 5, 87, 88, 89, 90, 26, 27, 35, 36, 37, 38, 39, 40, 41, 42, 43, 44, 32, 33, 34, 98, 99, 100, 101, 102, 103, 104, 105, 106, 107, 108, 109, 110, 111, 112, 113, 114, 115, 116, 117, 118] (by decide +kernel) (by decide +kernel)
set_option maxRecDepth 20000 in
theorem gX7_odds_X7_weightOf : GoodIn wsX7_odds (wsV RX7 138 RX7 yX7_weightOf wsX7_weightOf) := goodIn_app (goodIn_of _ (by decide +kernel)) ggX7_odds_X7_weightOf
set_option maxRecDepth 20000 in
theorem ggX7_odds_X7_totalOf : GoodIn wsX7_odds wsX7_totalOf := goodIn_r _ [94, 5, 82, 83, 84, 8, 85, 22, 21, 86, 50, 28, 29, 30, 31, 87, 88, 89, 90, 26, 27, 35, 36, 37, 38, 39, 40, 41, 42, 43, 44, 32, 33, 34, 98, 99, 100, 101, 102, 103, 104, 105, 106, 107, 108, 109, 110, 111, 112, 113, 114, 115, 116, 117, 118] (by decide +kernel) (by decide +kernel)
set_option maxRecDepth 20000 in
theorem gX7_odds_X7_totalOf : GoodIn wsX7_odds (wsV RX7 151 RX7 yX7_totalOf wsX7_totalOf) := goodIn_app (goodIn_of _ (by decide +kernel)) ggX7_odds_X7_totalOf
set_option maxRecDepth 20000 in
theorem ggX7_odds_X7_told : GoodIn wsX7_odds wsX7_told := goodIn_r _ [97] (by decide +kernel) (by decide +kernel)
set_option maxRecDepth 20000 in
theorem gX7_odds_X7_told : GoodIn wsX7_odds (va_wsS RX7 161 yX7_told wsX7_told) := goodIn_app (goodIn_of _ (by decide +kernel)) ggX7_odds_X7_told
theorem dX7_odds_0 : decode cX7_odds 0 = .ok (.iload_n 1, 1) := by decide +kernel
theorem dX7_odds_1 : decode cX7_odds 1 = .ok (.invokestatic 142, 3) := by decide +kernel
theorem dX7_odds_4 : decode cX7_odds 4 = .ok (.ifCond .eq 30, 3) := by decide +kernel
theorem dX7_odds_7 : decode cX7_odds 7 = .ok (.iload_n 2, 1) := by decide +kernel
theorem dX7_odds_8 : decode cX7_odds 8 = .ok (.i2l, 1) := by decide +kernel
theorem dX7_odds_9 : decode cX7_odds 9 = .ok (.lconst 0, 1) := by decide +kernel
theorem dX7_odds_10 : decode cX7_odds 10 = .ok (.ldc2_w 114, 3) := by decide +kernel
theorem dX7_odds_13 : decode cX7_odds 13 = .ok (.invokestatic 56, 3) := by decide +kernel
theorem dX7_odds_16 : decode cX7_odds 16 = .ok (.ifCond .eq 18, 3) := by decide +kernel
theorem dX7_odds_19 : decode cX7_odds 19 = .ok (.iload_n 3, 1) := by decide +kernel
theorem dX7_odds_20 : decode cX7_odds 20 = .ok (.invokestatic 155, 3) := by decide +kernel
theorem dX7_odds_23 : decode cX7_odds 23 = .ok (.ifCond .eq 11, 3) := by decide +kernel
theorem dX7_odds_26 : decode cX7_odds 26 = .ok (.iload 4, 2) := by decide +kernel
theorem dX7_odds_28 : decode cX7_odds 28 = .ok (.invokestatic 155, 3) := by decide +kernel
theorem dX7_odds_31 : decode cX7_odds 31 = .ok (.ifCond .ne 7, 3) := by decide +kernel
theorem dX7_odds_34 : decode cX7_odds 34 = .ok (.ldc2_w 149, 3) := by decide +kernel
theorem dX7_odds_37 : decode cX7_odds 37 = .ok (.lreturn, 1) := by decide +kernel
theorem dX7_odds_38 : decode cX7_odds 38 = .ok (.aload_n 0, 1) := by decide +kernel
theorem dX7_odds_39 : decode cX7_odds 39 = .ok (.iload_n 1, 1) := by decide +kernel
theorem dX7_odds_40 : decode cX7_odds 40 = .ok (.invokevirtual 145, 3) := by decide +kernel
theorem dX7_odds_43 : decode cX7_odds 43 = .ok (.aload_n 0, 1) := by decide +kernel
theorem dX7_odds_44 : decode cX7_odds 44 = .ok (.iload_n 2, 1) := by decide +kernel
theorem dX7_odds_45 : decode cX7_odds 45 = .ok (.invokevirtual 158, 3) := by decide +kernel
theorem dX7_odds_48 : decode cX7_odds 48 = .ok (.aload_n 0, 1) := by decide +kernel
theorem dX7_odds_49 : decode cX7_odds 49 = .ok (.getfield 36, 3) := by decide +kernel
theorem dX7_odds_52 : decode cX7_odds 52 = .ok (.aload_n 0, 1) := by decide +kernel
theorem dX7_odds_53 : decode cX7_odds 53 = .ok (.getfield 69, 3) := by decide +kernel
theorem dX7_odds_56 : decode cX7_odds 56 = .ok (.baload, 1) := by decide +kernel
theorem dX7_odds_57 : decode cX7_odds 57 = .ok (.istore 5, 2) := by decide +kernel
theorem dX7_odds_59 : decode cX7_odds 59 = .ok (.lconst 0, 1) := by decide +kernel
theorem dX7_odds_60 : decode cX7_odds 60 = .ok (.lstore 6, 2) := by decide +kernel
theorem dX7_odds_62 : decode cX7_odds 62 = .ok (.iconst 0, 1) := by decide +kernel
theorem dX7_odds_63 : decode cX7_odds 63 = .ok (.istore 8, 2) := by decide +kernel
theorem dX7_odds_65 : decode cX7_odds 65 = .ok (.iload 8, 2) := by decide +kernel
theorem dX7_odds_67 : decode cX7_odds 67 = .ok (.iconst 1, 1) := by decide +kernel
theorem dX7_odds_68 : decode cX7_odds 68 = .ok (.aload_n 0, 1) := by decide +kernel
theorem dX7_odds_69 : decode cX7_odds 69 = .ok (.getfield 60, 3) := by decide +kernel
theorem dX7_odds_72 : decode cX7_odds 72 = .ok (.ishl, 1) := by decide +kernel
theorem dX7_odds_73 : decode cX7_odds 73 = .ok (.if_icmp .ge 55, 3) := by decide +kernel
theorem dX7_odds_76 : decode cX7_odds 76 = .ok (.lload 6, 2) := by decide +kernel
theorem dX7_odds_78 : decode cX7_odds 78 = .ok (.iload_n 3, 1) := by decide +kernel
theorem dX7_odds_79 : decode cX7_odds 79 = .ok (.ifCond .ne 18, 3) := by decide +kernel
theorem dX7_odds_82 : decode cX7_odds 82 = .ok (.aload_n 0, 1) := by decide +kernel
theorem dX7_odds_83 : decode cX7_odds 83 = .ok (.getfield 36, 3) := by decide +kernel
theorem dX7_odds_86 : decode cX7_odds 86 = .ok (.iload 8, 2) := by decide +kernel
theorem dX7_odds_88 : decode cX7_odds 88 = .ok (.baload, 1) := by decide +kernel
theorem dX7_odds_89 : decode cX7_odds 89 = .ok (.iload 5, 2) := by decide +kernel
theorem dX7_odds_91 : decode cX7_odds 91 = .ok (.if_icmp .lt 27, 3) := by decide +kernel
theorem dX7_odds_94 : decode cX7_odds 94 = .ok (.goto 15, 3) := by decide +kernel
theorem dX7_odds_97 : decode cX7_odds 97 = .ok (.aload_n 0, 1) := by decide +kernel
theorem dX7_odds_98 : decode cX7_odds 98 = .ok (.getfield 36, 3) := by decide +kernel
theorem dX7_odds_101 : decode cX7_odds 101 = .ok (.iload 8, 2) := by decide +kernel
theorem dX7_odds_103 : decode cX7_odds 103 = .ok (.baload, 1) := by decide +kernel
theorem dX7_odds_104 : decode cX7_odds 104 = .ok (.iload 5, 2) := by decide +kernel
theorem dX7_odds_106 : decode cX7_odds 106 = .ok (.if_icmp .gt 12, 3) := by decide +kernel
theorem dX7_odds_109 : decode cX7_odds 109 = .ok (.aload_n 0, 1) := by decide +kernel
theorem dX7_odds_110 : decode cX7_odds 110 = .ok (.iload 8, 2) := by decide +kernel
theorem dX7_odds_112 : decode cX7_odds 112 = .ok (.invokevirtual 138, 3) := by decide +kernel
theorem dX7_odds_115 : decode cX7_odds 115 = .ok (.goto 4, 3) := by decide +kernel
theorem dX7_odds_118 : decode cX7_odds 118 = .ok (.lconst 0, 1) := by decide +kernel
theorem dX7_odds_119 : decode cX7_odds 119 = .ok (.ladd, 1) := by decide +kernel
theorem dX7_odds_120 : decode cX7_odds 120 = .ok (.lstore 6, 2) := by decide +kernel
theorem dX7_odds_122 : decode cX7_odds 122 = .ok (.iinc 8 1, 3) := by decide +kernel
theorem dX7_odds_125 : decode cX7_odds 125 = .ok (.goto (-60), 3) := by decide +kernel
theorem dX7_odds_128 : decode cX7_odds 128 = .ok (.lload 6, 2) := by decide +kernel
theorem dX7_odds_130 : decode cX7_odds 130 = .ok (.aload_n 0, 1) := by decide +kernel
theorem dX7_odds_131 : decode cX7_odds 131 = .ok (.invokevirtual 151, 3) := by decide +kernel
theorem dX7_odds_134 : decode cX7_odds 134 = .ok (.iload 4, 2) := by decide +kernel
theorem dX7_odds_136 : decode cX7_odds 136 = .ok (.invokestatic 161, 3) := by decide +kernel
theorem dX7_odds_139 : decode cX7_odds 139 = .ok (.lreturn, 1) := by decide +kernel
set_option maxRecDepth 20000 in
theorem ggX7_mean_X7_isModel : GoodIn wsX7_mean wsX7_isModel := goodIn_r _ [8, 9, 10, 11, 7, 12] (by decide +kernel) (by decide +kernel)
set_option maxRecDepth 20000 in
theorem gX7_mean_X7_isModel : GoodIn wsX7_mean (va_wsS RX7 142 yX7_isModel wsX7_isModel) := goodIn_app (goodIn_of _ (by decide +kernel)) ggX7_mean_X7_isModel
set_option maxRecDepth 20000 in
theorem ggX7_mean_X7_in : GoodIn wsX7_mean wsX7_in := goodIn_r _ [12] (by decide +kernel) (by decide +kernel)
set_option maxRecDepth 20000 in
theorem gX7_mean_X7_in : GoodIn wsX7_mean (va_wsS RX7 56 yX7_in wsX7_in) := goodIn_app (goodIn_of _ (by decide +kernel)) ggX7_mean_X7_in
set_option maxRecDepth 20000 in
theorem ggX7_mean_X7_isHalf : GoodIn wsX7_mean wsX7_isHalf := goodIn_r _ [15, 10, 11, 7, 12] (by decide +kernel) (by decide +kernel)
set_option maxRecDepth 20000 in
theorem gX7_mean_X7_isHalf : GoodIn wsX7_mean (va_wsS RX7 155 yX7_isHalf wsX7_isHalf) := goodIn_app (goodIn_of _ (by decide +kernel)) ggX7_mean_X7_isHalf
set_option maxRecDepth 20000 in
theorem ggX7_mean_X7_ready : GoodIn wsX7_mean wsX7_ready := goodIn_r _ [19, 20, 21, 3, 22, 23, 24, 25, 26, 27, 28, 29, 30, 7, 31, 32, 33, 34, 35, 36, 37, 38, 39, 40, 41, 42, 43, 44, 45, 46, 47, 48, 49, 50, 51, 52, 53, 54, 98, 99, 100, 101, 102, 103, 104, 105, 106, 107, 108, 109, 110, 111, 112, 113, 114, 115, 116, 117, 118] (by decide +kernel) (by decide +kernel)
set_option maxRecDepth 20000 in
theorem gX7_mean_X7_ready : GoodIn wsX7_mean (wsV RX7 145 RX7 yX7_ready wsX7_ready) := goodIn_app (goodIn_of _ (by decide +kernel)) ggX7_mean_X7_ready
set_option maxRecDepth 20000 in
theorem ggX7_mean_X7_findThings : GoodIn wsX7_mean wsX7_findThings := goodIn_r _ [58, 59, 60, 26, 3, 4, 61, 62, 63, 7, 64, 28, 29, 30, 31, 51, 52, 53, 54, 39, 40, 41, 42, 43, 44, 65, 66, 67, 68, 69, 70, 71, 72, 73, 74, 75, 76, 77, 78, 79, 80, 81, 35, 36, 37, 38, 98, 99, 100, 101, 102, 103, 104, 105, 106, 107, 108, 109, 110, 111, 112, 113, 114, 115, 116, 117, 118] (by decide +kernel) (by decide +kernel)
set_option maxRecDepth 20000 in
theorem gX7_mean_X7_findThings : GoodIn wsX7_mean (wsV RX7 158 RX7 yX7_findThings wsX7_findThings) := goodIn_app (goodIn_of _ (by decide +kernel)) ggX7_mean_X7_findThings
set_option maxRecDepth 20000 in
theorem ggX7_mean_X7_weightOf : GoodIn wsX7_mean wsX7_weightOf := goodIn_r _ [85, 22, 20, 86, 50, 28, 29, 30, 7, 31, 3, 87, 88, 89, 90, 26, 27, 35, 36, 37, 38, 39, 40, 41, 42, 43, 44, 32, 33, 34, 98, 99, 100, 101, 102, 103, 104, 105, 106, 107, 108, 109, 110, 111, 112, 113, 114, 115, 116, 117, 118] (by decide +kernel) (by decide +kernel)
set_option maxRecDepth 20000 in
theorem gX7_mean_X7_weightOf : GoodIn wsX7_mean (wsV RX7 138 RX7 yX7_weightOf wsX7_weightOf) := goodIn_app (goodIn_of _ (by decide +kernel)) ggX7_mean_X7_weightOf
set_option maxRecDepth 20000 in
theorem ggX7_mean_X7_totalOf : GoodIn wsX7_mean wsX7_totalOf := goodIn_r _ [94, 3, 82, 83, 84, 7, 85, 22, 20, 86, 50, 28, 29, 30, 31, 87, 88, 89, 90, 26, 27, 35, 36, 37, 38, 39, 40, 41, 42, 43, 44, 32, 33, 34, 98, 99, 100, 101, 102, 103, 104, 105, 106, 107, 108, 109, 110, 111, 112, 113, 114, 115, 116, 117, 118] (by decide +kernel) (by decide +kernel)
set_option maxRecDepth 20000 in
theorem gX7_mean_X7_totalOf : GoodIn wsX7_mean (wsV RX7 151 RX7 yX7_totalOf wsX7_totalOf) := goodIn_app (goodIn_of _ (by decide +kernel)) ggX7_mean_X7_totalOf
set_option maxRecDepth 20000 in
theorem ggX7_mean_X7_told : GoodIn wsX7_mean wsX7_told := goodIn_r _ [97] (by decide +kernel) (by decide +kernel)
set_option maxRecDepth 20000 in
theorem gX7_mean_X7_told : GoodIn wsX7_mean (va_wsS RX7 161 yX7_told wsX7_told) := goodIn_app (goodIn_of _ (by decide +kernel)) ggX7_mean_X7_told
theorem dX7_mean_0 : decode cX7_mean 0 = .ok (.iload_n 1, 1) := by decide +kernel
theorem dX7_mean_1 : decode cX7_mean 1 = .ok (.invokestatic 142, 3) := by decide +kernel
theorem dX7_mean_4 : decode cX7_mean 4 = .ok (.ifCond .eq 22, 3) := by decide +kernel
theorem dX7_mean_7 : decode cX7_mean 7 = .ok (.iload_n 2, 1) := by decide +kernel
theorem dX7_mean_8 : decode cX7_mean 8 = .ok (.i2l, 1) := by decide +kernel
theorem dX7_mean_9 : decode cX7_mean 9 = .ok (.lconst 0, 1) := by decide +kernel
theorem dX7_mean_10 : decode cX7_mean 10 = .ok (.ldc2_w 114, 3) := by decide +kernel
theorem dX7_mean_13 : decode cX7_mean 13 = .ok (.invokestatic 56, 3) := by decide +kernel
theorem dX7_mean_16 : decode cX7_mean 16 = .ok (.ifCond .eq 10, 3) := by decide +kernel
theorem dX7_mean_19 : decode cX7_mean 19 = .ok (.iload_n 3, 1) := by decide +kernel
theorem dX7_mean_20 : decode cX7_mean 20 = .ok (.invokestatic 155, 3) := by decide +kernel
theorem dX7_mean_23 : decode cX7_mean 23 = .ok (.ifCond .ne 7, 3) := by decide +kernel
theorem dX7_mean_26 : decode cX7_mean 26 = .ok (.ldc2_w 149, 3) := by decide +kernel
theorem dX7_mean_29 : decode cX7_mean 29 = .ok (.lreturn, 1) := by decide +kernel
theorem dX7_mean_30 : decode cX7_mean 30 = .ok (.aload_n 0, 1) := by decide +kernel
theorem dX7_mean_31 : decode cX7_mean 31 = .ok (.iload_n 1, 1) := by decide +kernel
theorem dX7_mean_32 : decode cX7_mean 32 = .ok (.invokevirtual 145, 3) := by decide +kernel
theorem dX7_mean_35 : decode cX7_mean 35 = .ok (.aload_n 0, 1) := by decide +kernel
theorem dX7_mean_36 : decode cX7_mean 36 = .ok (.iload_n 2, 1) := by decide +kernel
theorem dX7_mean_37 : decode cX7_mean 37 = .ok (.invokevirtual 158, 3) := by decide +kernel
theorem dX7_mean_40 : decode cX7_mean 40 = .ok (.lconst 0, 1) := by decide +kernel
theorem dX7_mean_41 : decode cX7_mean 41 = .ok (.lstore 4, 2) := by decide +kernel
theorem dX7_mean_43 : decode cX7_mean 43 = .ok (.iconst 0, 1) := by decide +kernel
theorem dX7_mean_44 : decode cX7_mean 44 = .ok (.istore 6, 2) := by decide +kernel
theorem dX7_mean_46 : decode cX7_mean 46 = .ok (.iload 6, 2) := by decide +kernel
theorem dX7_mean_48 : decode cX7_mean 48 = .ok (.iconst 1, 1) := by decide +kernel
theorem dX7_mean_49 : decode cX7_mean 49 = .ok (.aload_n 0, 1) := by decide +kernel
theorem dX7_mean_50 : decode cX7_mean 50 = .ok (.getfield 60, 3) := by decide +kernel
theorem dX7_mean_53 : decode cX7_mean 53 = .ok (.ishl, 1) := by decide +kernel
theorem dX7_mean_54 : decode cX7_mean 54 = .ok (.if_icmp .ge 29, 3) := by decide +kernel
theorem dX7_mean_57 : decode cX7_mean 57 = .ok (.lload 4, 2) := by decide +kernel
theorem dX7_mean_59 : decode cX7_mean 59 = .ok (.aload_n 0, 1) := by decide +kernel
theorem dX7_mean_60 : decode cX7_mean 60 = .ok (.getfield 36, 3) := by decide +kernel
theorem dX7_mean_63 : decode cX7_mean 63 = .ok (.iload 6, 2) := by decide +kernel
theorem dX7_mean_65 : decode cX7_mean 65 = .ok (.baload, 1) := by decide +kernel
theorem dX7_mean_66 : decode cX7_mean 66 = .ok (.i2l, 1) := by decide +kernel
theorem dX7_mean_67 : decode cX7_mean 67 = .ok (.aload_n 0, 1) := by decide +kernel
theorem dX7_mean_68 : decode cX7_mean 68 = .ok (.iload 6, 2) := by decide +kernel
theorem dX7_mean_70 : decode cX7_mean 70 = .ok (.invokevirtual 138, 3) := by decide +kernel
theorem dX7_mean_73 : decode cX7_mean 73 = .ok (.lmul, 1) := by decide +kernel
theorem dX7_mean_74 : decode cX7_mean 74 = .ok (.ladd, 1) := by decide +kernel
theorem dX7_mean_75 : decode cX7_mean 75 = .ok (.lstore 4, 2) := by decide +kernel
theorem dX7_mean_77 : decode cX7_mean 77 = .ok (.iinc 6 1, 3) := by decide +kernel
theorem dX7_mean_80 : decode cX7_mean 80 = .ok (.goto (-34), 3) := by decide +kernel
theorem dX7_mean_83 : decode cX7_mean 83 = .ok (.lload 4, 2) := by decide +kernel
theorem dX7_mean_85 : decode cX7_mean 85 = .ok (.aload_n 0, 1) := by decide +kernel
theorem dX7_mean_86 : decode cX7_mean 86 = .ok (.invokevirtual 151, 3) := by decide +kernel
theorem dX7_mean_89 : decode cX7_mean 89 = .ok (.iload_n 3, 1) := by decide +kernel
theorem dX7_mean_90 : decode cX7_mean 90 = .ok (.invokestatic 161, 3) := by decide +kernel
theorem dX7_mean_93 : decode cX7_mean 93 = .ok (.lreturn, 1) := by decide +kernel
set_option maxRecDepth 20000 in
theorem ggX7_pair_X7_isModel : GoodIn wsX7_pair wsX7_isModel := goodIn_r _ [6, 7, 8, 9, 5, 10] (by decide +kernel) (by decide +kernel)
set_option maxRecDepth 20000 in
theorem gX7_pair_X7_isModel : GoodIn wsX7_pair (va_wsS RX7 142 yX7_isModel wsX7_isModel) := goodIn_app (goodIn_of _ (by decide +kernel)) ggX7_pair_X7_isModel
set_option maxRecDepth 20000 in
theorem ggX7_pair_X7_isNode : GoodIn wsX7_pair wsX7_isNode := goodIn_r _ [14, 15, 8, 9, 5, 10, 73, 74, 75, 76, 77, 78, 79, 80, 81, 82, 83, 84, 85, 86, 87, 88, 89, 90, 91, 92, 93] (by decide +kernel) (by decide +kernel)
set_option maxRecDepth 20000 in
theorem gX7_pair_X7_isNode : GoodIn wsX7_pair (wsV RX7 75 RX7 yX7_isNode wsX7_isNode) := goodIn_app (goodIn_of _ (by decide +kernel)) ggX7_pair_X7_isNode
set_option maxRecDepth 20000 in
theorem ggX7_pair_X7_isHalf : GoodIn wsX7_pair wsX7_isHalf := goodIn_r _ [18, 8, 9, 5, 10] (by decide +kernel) (by decide +kernel)
set_option maxRecDepth 20000 in
theorem gX7_pair_X7_isHalf : GoodIn wsX7_pair (va_wsS RX7 155 yX7_isHalf wsX7_isHalf) := goodIn_app (goodIn_of _ (by decide +kernel)) ggX7_pair_X7_isHalf
set_option maxRecDepth 20000 in
theorem ggX7_pair_X7_ready : GoodIn wsX7_pair wsX7_ready := goodIn_r _ [22, 23, 24, 2, 25, 26, 27, 28, 15, 29, 30, 31, 32, 5, 33, 34, 35, 36, 37, 38, 39, 40, 41, 42, 43, 44, 45, 46, 47, 48, 49, 50, 51, 52, 53, 54, 55, 56, 73, 74, 75, 76, 77, 78, 79, 80, 81, 82, 83, 84, 85, 86, 87, 88, 89, 90, 91, 92, 93] (by decide +kernel) (by decide +kernel)
set_option maxRecDepth 20000 in
theorem gX7_pair_X7_ready : GoodIn wsX7_pair (wsV RX7 145 RX7 yX7_ready wsX7_ready) := goodIn_app (goodIn_of _ (by decide +kernel)) ggX7_pair_X7_ready
set_option maxRecDepth 20000 in
theorem ggX7_pair_X7_has : GoodIn wsX7_pair wsX7_has := goodIn_r _ [43, 44, 45, 5, 46] (by decide +kernel) (by decide +kernel)
set_option maxRecDepth 20000 in
theorem gX7_pair_X7_has : GoodIn wsX7_pair (va_wsS RX7 79 yX7_has wsX7_has) := goodIn_app (goodIn_of _ (by decide +kernel)) ggX7_pair_X7_has
set_option maxRecDepth 20000 in
theorem ggX7_pair_X7_weightOf : GoodIn wsX7_pair wsX7_weightOf := goodIn_r _ [60, 25, 23, 61, 52, 30, 31, 32, 5, 33, 2, 62, 63, 64, 65, 15, 29, 37, 38, 39, 40, 41, 42, 43, 44, 45, 46, 34, 35, 36, 73, 74, 75, 76, 77, 78, 79, 80, 81, 82, 83, 84, 85, 86, 87, 88, 89, 90, 91, 92, 93] (by decide +kernel) (by decide +kernel)
set_option maxRecDepth 20000 in
theorem gX7_pair_X7_weightOf : GoodIn wsX7_pair (wsV RX7 138 RX7 yX7_weightOf wsX7_weightOf) := goodIn_app (goodIn_of _ (by decide +kernel)) ggX7_pair_X7_weightOf
set_option maxRecDepth 20000 in
theorem ggX7_pair_X7_totalOf : GoodIn wsX7_pair wsX7_totalOf := goodIn_r _ [69, 2, 57, 58, 59, 5, 60, 25, 23, 61, 52, 30, 31, 32, 33, 62, 63, 64, 65, 15, 29, 37, 38, 39, 40, 41, 42, 43, 44, 45, 46, 34, 35, 36, 73, 74, 75, 76, 77, 78, 79, 80, 81, 82, 83, 84, 85, 86, 87, 88, 89, 90, 91, 92, 93] (by decide +kernel) (by decide +kernel)
set_option maxRecDepth 20000 in
theorem gX7_pair_X7_totalOf : GoodIn wsX7_pair (wsV RX7 151 RX7 yX7_totalOf wsX7_totalOf) := goodIn_app (goodIn_of _ (by decide +kernel)) ggX7_pair_X7_totalOf
set_option maxRecDepth 20000 in
theorem ggX7_pair_X7_told : GoodIn wsX7_pair wsX7_told := goodIn_r _ [72] (by decide +kernel) (by decide +kernel)
set_option maxRecDepth 20000 in
theorem gX7_pair_X7_told : GoodIn wsX7_pair (va_wsS RX7 161 yX7_told wsX7_told) := goodIn_app (goodIn_of _ (by decide +kernel)) ggX7_pair_X7_told
theorem dX7_pair_0 : decode cX7_pair 0 = .ok (.iload_n 1, 1) := by decide +kernel
theorem dX7_pair_1 : decode cX7_pair 1 = .ok (.invokestatic 142, 3) := by decide +kernel
theorem dX7_pair_4 : decode cX7_pair 4 = .ok (.ifCond .eq 32, 3) := by decide +kernel
theorem dX7_pair_7 : decode cX7_pair 7 = .ok (.aload_n 0, 1) := by decide +kernel
theorem dX7_pair_8 : decode cX7_pair 8 = .ok (.iload_n 2, 1) := by decide +kernel
theorem dX7_pair_9 : decode cX7_pair 9 = .ok (.invokevirtual 75, 3) := by decide +kernel
theorem dX7_pair_12 : decode cX7_pair 12 = .ok (.ifCond .eq 24, 3) := by decide +kernel
theorem dX7_pair_15 : decode cX7_pair 15 = .ok (.aload_n 0, 1) := by decide +kernel
theorem dX7_pair_16 : decode cX7_pair 16 = .ok (.iload_n 3, 1) := by decide +kernel
theorem dX7_pair_17 : decode cX7_pair 17 = .ok (.invokevirtual 75, 3) := by decide +kernel
theorem dX7_pair_20 : decode cX7_pair 20 = .ok (.ifCond .eq 16, 3) := by decide +kernel
theorem dX7_pair_23 : decode cX7_pair 23 = .ok (.iload_n 2, 1) := by decide +kernel
theorem dX7_pair_24 : decode cX7_pair 24 = .ok (.iload_n 3, 1) := by decide +kernel
theorem dX7_pair_25 : decode cX7_pair 25 = .ok (.if_icmp .eq 11, 3) := by decide +kernel
theorem dX7_pair_28 : decode cX7_pair 28 = .ok (.iload 4, 2) := by decide +kernel
theorem dX7_pair_30 : decode cX7_pair 30 = .ok (.invokestatic 155, 3) := by decide +kernel
theorem dX7_pair_33 : decode cX7_pair 33 = .ok (.ifCond .ne 7, 3) := by decide +kernel
theorem dX7_pair_36 : decode cX7_pair 36 = .ok (.ldc2_w 149, 3) := by decide +kernel
theorem dX7_pair_39 : decode cX7_pair 39 = .ok (.lreturn, 1) := by decide +kernel
theorem dX7_pair_40 : decode cX7_pair 40 = .ok (.aload_n 0, 1) := by decide +kernel
theorem dX7_pair_41 : decode cX7_pair 41 = .ok (.iload_n 1, 1) := by decide +kernel
theorem dX7_pair_42 : decode cX7_pair 42 = .ok (.invokevirtual 145, 3) := by decide +kernel
theorem dX7_pair_45 : decode cX7_pair 45 = .ok (.lconst 0, 1) := by decide +kernel
theorem dX7_pair_46 : decode cX7_pair 46 = .ok (.lstore 5, 2) := by decide +kernel
theorem dX7_pair_48 : decode cX7_pair 48 = .ok (.iconst 0, 1) := by decide +kernel
theorem dX7_pair_49 : decode cX7_pair 49 = .ok (.istore 7, 2) := by decide +kernel
theorem dX7_pair_51 : decode cX7_pair 51 = .ok (.iload 7, 2) := by decide +kernel
theorem dX7_pair_53 : decode cX7_pair 53 = .ok (.iconst 1, 1) := by decide +kernel
theorem dX7_pair_54 : decode cX7_pair 54 = .ok (.aload_n 0, 1) := by decide +kernel
theorem dX7_pair_55 : decode cX7_pair 55 = .ok (.getfield 60, 3) := by decide +kernel
theorem dX7_pair_58 : decode cX7_pair 58 = .ok (.ishl, 1) := by decide +kernel
theorem dX7_pair_59 : decode cX7_pair 59 = .ok (.if_icmp .ge 34, 3) := by decide +kernel
theorem dX7_pair_62 : decode cX7_pair 62 = .ok (.lload 5, 2) := by decide +kernel
theorem dX7_pair_64 : decode cX7_pair 64 = .ok (.iload 7, 2) := by decide +kernel
theorem dX7_pair_66 : decode cX7_pair 66 = .ok (.iload_n 2, 1) := by decide +kernel
theorem dX7_pair_67 : decode cX7_pair 67 = .ok (.iload_n 3, 1) := by decide +kernel
theorem dX7_pair_68 : decode cX7_pair 68 = .ok (.invokestatic 79, 3) := by decide +kernel
theorem dX7_pair_71 : decode cX7_pair 71 = .ok (.ifCond .eq 12, 3) := by decide +kernel
theorem dX7_pair_74 : decode cX7_pair 74 = .ok (.aload_n 0, 1) := by decide +kernel
theorem dX7_pair_75 : decode cX7_pair 75 = .ok (.iload 7, 2) := by decide +kernel
theorem dX7_pair_77 : decode cX7_pair 77 = .ok (.invokevirtual 138, 3) := by decide +kernel
theorem dX7_pair_80 : decode cX7_pair 80 = .ok (.goto 4, 3) := by decide +kernel
theorem dX7_pair_83 : decode cX7_pair 83 = .ok (.lconst 0, 1) := by decide +kernel
theorem dX7_pair_84 : decode cX7_pair 84 = .ok (.ladd, 1) := by decide +kernel
theorem dX7_pair_85 : decode cX7_pair 85 = .ok (.lstore 5, 2) := by decide +kernel
theorem dX7_pair_87 : decode cX7_pair 87 = .ok (.iinc 7 1, 3) := by decide +kernel
theorem dX7_pair_90 : decode cX7_pair 90 = .ok (.goto (-39), 3) := by decide +kernel
theorem dX7_pair_93 : decode cX7_pair 93 = .ok (.lload 5, 2) := by decide +kernel
theorem dX7_pair_95 : decode cX7_pair 95 = .ok (.aload_n 0, 1) := by decide +kernel
theorem dX7_pair_96 : decode cX7_pair 96 = .ok (.invokevirtual 151, 3) := by decide +kernel
theorem dX7_pair_99 : decode cX7_pair 99 = .ok (.iload 4, 2) := by decide +kernel
theorem dX7_pair_101 : decode cX7_pair 101 = .ok (.invokestatic 161, 3) := by decide +kernel
theorem dX7_pair_104 : decode cX7_pair 104 = .ok (.lreturn, 1) := by decide +kernel
set_option maxRecDepth 20000 in
theorem ggX7_likely_X7_isModel : GoodIn wsX7_likely wsX7_isModel := goodIn_r _ [6, 7, 8, 9, 5, 10] (by decide +kernel) (by decide +kernel)
set_option maxRecDepth 20000 in
theorem gX7_likely_X7_isModel : GoodIn wsX7_likely (va_wsS RX7 142 yX7_isModel wsX7_isModel) := goodIn_app (goodIn_of _ (by decide +kernel)) ggX7_likely_X7_isModel
set_option maxRecDepth 20000 in
theorem ggX7_likely_X7_isHalf : GoodIn wsX7_likely wsX7_isHalf := goodIn_r _ [13, 8, 9, 5, 10] (by decide +kernel) (by decide +kernel)
set_option maxRecDepth 20000 in
theorem gX7_likely_X7_isHalf : GoodIn wsX7_likely (va_wsS RX7 155 yX7_isHalf wsX7_isHalf) := goodIn_app (goodIn_of _ (by decide +kernel)) ggX7_likely_X7_isHalf
set_option maxRecDepth 20000 in
theorem ggX7_likely_X7_ready : GoodIn wsX7_likely wsX7_ready := goodIn_r _ [17, 18, 2, 19, 20, 21, 22, 23, 24, 25, 26, 27, 28, 5, 29, 30, 31, 32, 33, 34, 35, 36, 37, 38, 39, 40, 41, 42, 43, 44, 45, 46, 47, 48, 49, 50, 51, 52, 69, 70, 71, 72, 73, 74, 75, 76, 77, 78, 79, 80, 81, 82, 83, 84, 85, 86, 87, 88, 89] (by decide +kernel) (by decide +kernel)
set_option maxRecDepth 20000 in
theorem gX7_likely_X7_ready : GoodIn wsX7_likely (wsV RX7 145 RX7 yX7_ready wsX7_ready) := goodIn_app (goodIn_of _ (by decide +kernel)) ggX7_likely_X7_ready
set_option maxRecDepth 20000 in
theorem ggX7_likely_X7_weightOf : GoodIn wsX7_likely wsX7_weightOf := goodIn_r _ [56, 20, 18, 57, 48, 26, 27, 28, 5, 29, 19, 58, 59, 60, 61, 24, 25, 33, 34, 35, 36, 37, 38, 39, 40, 41, 42, 30, 31, 32, 69, 70, 71, 72, 73, 74, 75, 76, 77, 78, 79, 80, 81, 82, 83, 84, 85, 86, 87, 88, 89] (by decide +kernel) (by decide +kernel)
set_option maxRecDepth 20000 in
theorem gX7_likely_X7_weightOf : GoodIn wsX7_likely (wsV RX7 138 RX7 yX7_weightOf wsX7_weightOf) := goodIn_app (goodIn_of _ (by decide +kernel)) ggX7_likely_X7_weightOf
set_option maxRecDepth 20000 in
theorem ggX7_likely_X7_totalOf : GoodIn wsX7_likely wsX7_totalOf := goodIn_r _ [65, 19, 53, 54, 55, 5, 56, 20, 18, 57, 48, 26, 27, 28, 29, 58, 59, 60, 61, 24, 25, 33, 34, 35, 36, 37, 38, 39, 40, 41, 42, 30, 31, 32, 69, 70, 71, 72, 73, 74, 75, 76, 77, 78, 79, 80, 81, 82, 83, 84, 85, 86, 87, 88, 89] (by decide +kernel) (by decide +kernel)
set_option maxRecDepth 20000 in
theorem gX7_likely_X7_totalOf : GoodIn wsX7_likely (wsV RX7 151 RX7 yX7_totalOf wsX7_totalOf) := goodIn_app (goodIn_of _ (by decide +kernel)) ggX7_likely_X7_totalOf
set_option maxRecDepth 20000 in
theorem ggX7_likely_X7_told : GoodIn wsX7_likely wsX7_told := goodIn_r _ [68] (by decide +kernel) (by decide +kernel)
set_option maxRecDepth 20000 in
theorem gX7_likely_X7_told : GoodIn wsX7_likely (va_wsS RX7 161 yX7_told wsX7_told) := goodIn_app (goodIn_of _ (by decide +kernel)) ggX7_likely_X7_told
theorem dX7_likely_0 : decode cX7_likely 0 = .ok (.iload_n 1, 1) := by decide +kernel
theorem dX7_likely_1 : decode cX7_likely 1 = .ok (.invokestatic 142, 3) := by decide +kernel
theorem dX7_likely_4 : decode cX7_likely 4 = .ok (.ifCond .eq 10, 3) := by decide +kernel
theorem dX7_likely_7 : decode cX7_likely 7 = .ok (.iload_n 2, 1) := by decide +kernel
theorem dX7_likely_8 : decode cX7_likely 8 = .ok (.invokestatic 155, 3) := by decide +kernel
theorem dX7_likely_11 : decode cX7_likely 11 = .ok (.ifCond .ne 7, 3) := by decide +kernel
theorem dX7_likely_14 : decode cX7_likely 14 = .ok (.ldc2_w 149, 3) := by decide +kernel
theorem dX7_likely_17 : decode cX7_likely 17 = .ok (.lreturn, 1) := by decide +kernel
theorem dX7_likely_18 : decode cX7_likely 18 = .ok (.aload_n 0, 1) := by decide +kernel
theorem dX7_likely_19 : decode cX7_likely 19 = .ok (.iload_n 1, 1) := by decide +kernel
theorem dX7_likely_20 : decode cX7_likely 20 = .ok (.invokevirtual 145, 3) := by decide +kernel
theorem dX7_likely_23 : decode cX7_likely 23 = .ok (.aload_n 0, 1) := by decide +kernel
theorem dX7_likely_24 : decode cX7_likely 24 = .ok (.aload_n 0, 1) := by decide +kernel
theorem dX7_likely_25 : decode cX7_likely 25 = .ok (.getfield 69, 3) := by decide +kernel
theorem dX7_likely_28 : decode cX7_likely 28 = .ok (.invokevirtual 138, 3) := by decide +kernel
theorem dX7_likely_31 : decode cX7_likely 31 = .ok (.aload_n 0, 1) := by decide +kernel
theorem dX7_likely_32 : decode cX7_likely 32 = .ok (.invokevirtual 151, 3) := by decide +kernel
theorem dX7_likely_35 : decode cX7_likely 35 = .ok (.iload_n 2, 1) := by decide +kernel
theorem dX7_likely_36 : decode cX7_likely 36 = .ok (.invokestatic 161, 3) := by decide +kernel
theorem dX7_likely_39 : decode cX7_likely 39 = .ok (.lreturn, 1) := by decide +kernel
theorem dX7_isOrder_0 : decode cX7_isOrder 0 = .ok (.iload_n 1, 1) := by decide +kernel
theorem dX7_isOrder_1 : decode cX7_isOrder 1 = .ok (.istore_n 2, 1) := by decide +kernel
theorem dX7_isOrder_2 : decode cX7_isOrder 2 = .ok (.iconst 0, 1) := by decide +kernel
theorem dX7_isOrder_3 : decode cX7_isOrder 3 = .ok (.istore_n 3, 1) := by decide +kernel
theorem dX7_isOrder_4 : decode cX7_isOrder 4 = .ok (.iconst 0, 1) := by decide +kernel
theorem dX7_isOrder_5 : decode cX7_isOrder 5 = .ok (.istore 4, 2) := by decide +kernel
theorem dX7_isOrder_7 : decode cX7_isOrder 7 = .ok (.iload 4, 2) := by decide +kernel
theorem dX7_isOrder_9 : decode cX7_isOrder 9 = .ok (.aload_n 0, 1) := by decide +kernel
theorem dX7_isOrder_10 : decode cX7_isOrder 10 = .ok (.getfield 7, 3) := by decide +kernel
theorem dX7_isOrder_13 : decode cX7_isOrder 13 = .ok (.if_icmp .ge 41, 3) := by decide +kernel
theorem dX7_isOrder_16 : decode cX7_isOrder 16 = .ok (.aload_n 0, 1) := by decide +kernel
theorem dX7_isOrder_17 : decode cX7_isOrder 17 = .ok (.getfield 50, 3) := by decide +kernel
theorem dX7_isOrder_20 : decode cX7_isOrder 20 = .ok (.iload 4, 2) := by decide +kernel
theorem dX7_isOrder_22 : decode cX7_isOrder 22 = .ok (.iload_n 2, 1) := by decide +kernel
theorem dX7_isOrder_23 : decode cX7_isOrder 23 = .ok (.aload_n 0, 1) := by decide +kernel
theorem dX7_isOrder_24 : decode cX7_isOrder 24 = .ok (.getfield 7, 3) := by decide +kernel
theorem dX7_isOrder_27 : decode cX7_isOrder 27 = .ok (.irem, 1) := by decide +kernel
theorem dX7_isOrder_28 : decode cX7_isOrder 28 = .ok (.iastore, 1) := by decide +kernel
theorem dX7_isOrder_29 : decode cX7_isOrder 29 = .ok (.iload_n 2, 1) := by decide +kernel
theorem dX7_isOrder_30 : decode cX7_isOrder 30 = .ok (.aload_n 0, 1) := by decide +kernel
theorem dX7_isOrder_31 : decode cX7_isOrder 31 = .ok (.getfield 7, 3) := by decide +kernel
theorem dX7_isOrder_34 : decode cX7_isOrder 34 = .ok (.idiv, 1) := by decide +kernel
theorem dX7_isOrder_35 : decode cX7_isOrder 35 = .ok (.istore_n 2, 1) := by decide +kernel
theorem dX7_isOrder_36 : decode cX7_isOrder 36 = .ok (.iload_n 3, 1) := by decide +kernel
theorem dX7_isOrder_37 : decode cX7_isOrder 37 = .ok (.iconst 1, 1) := by decide +kernel
theorem dX7_isOrder_38 : decode cX7_isOrder 38 = .ok (.aload_n 0, 1) := by decide +kernel
theorem dX7_isOrder_39 : decode cX7_isOrder 39 = .ok (.getfield 50, 3) := by decide +kernel
theorem dX7_isOrder_42 : decode cX7_isOrder 42 = .ok (.iload 4, 2) := by decide +kernel
theorem dX7_isOrder_44 : decode cX7_isOrder 44 = .ok (.iaload, 1) := by decide +kernel
theorem dX7_isOrder_45 : decode cX7_isOrder 45 = .ok (.ishl, 1) := by decide +kernel
theorem dX7_isOrder_46 : decode cX7_isOrder 46 = .ok (.ior, 1) := by decide +kernel
theorem dX7_isOrder_47 : decode cX7_isOrder 47 = .ok (.istore_n 3, 1) := by decide +kernel
theorem dX7_isOrder_48 : decode cX7_isOrder 48 = .ok (.iinc 4 1, 3) := by decide +kernel
theorem dX7_isOrder_51 : decode cX7_isOrder 51 = .ok (.goto (-44), 3) := by decide +kernel
theorem dX7_isOrder_54 : decode cX7_isOrder 54 = .ok (.iload_n 3, 1) := by decide +kernel
theorem dX7_isOrder_55 : decode cX7_isOrder 55 = .ok (.iconst 1, 1) := by decide +kernel
theorem dX7_isOrder_56 : decode cX7_isOrder 56 = .ok (.aload_n 0, 1) := by decide +kernel
theorem dX7_isOrder_57 : decode cX7_isOrder 57 = .ok (.getfield 7, 3) := by decide +kernel
theorem dX7_isOrder_60 : decode cX7_isOrder 60 = .ok (.ishl, 1) := by decide +kernel
theorem dX7_isOrder_61 : decode cX7_isOrder 61 = .ok (.iconst 1, 1) := by decide +kernel
theorem dX7_isOrder_62 : decode cX7_isOrder 62 = .ok (.isub, 1) := by decide +kernel
theorem dX7_isOrder_63 : decode cX7_isOrder 63 = .ok (.if_icmp .ne 7, 3) := by decide +kernel
theorem dX7_isOrder_66 : decode cX7_isOrder 66 = .ok (.iconst 1, 1) := by decide +kernel
theorem dX7_isOrder_67 : decode cX7_isOrder 67 = .ok (.goto 4, 3) := by decide +kernel
theorem dX7_isOrder_70 : decode cX7_isOrder 70 = .ok (.iconst 0, 1) := by decide +kernel
theorem dX7_isOrder_71 : decode cX7_isOrder 71 = .ok (.ireturn, 1) := by decide +kernel
set_option maxRecDepth 20000 in
theorem ggX7_moved_X7_has : GoodIn wsX7_moved wsX7_has := goodIn_r _ [6, 7, 8, 5, 9] (by decide +kernel) (by decide +kernel)
set_option maxRecDepth 20000 in
theorem gX7_moved_X7_has : GoodIn wsX7_moved (va_wsS RX7 79 yX7_has wsX7_has) := goodIn_app (goodIn_of _ (by decide +kernel)) ggX7_moved_X7_has
set_option maxRecDepth 20000 in
theorem ggX7_moved_X7_pairOf : GoodIn wsX7_moved wsX7_pairOf := goodIn_r _ [9] (by decide +kernel) (by decide +kernel)
set_option maxRecDepth 20000 in
theorem gX7_moved_X7_pairOf : GoodIn wsX7_moved (va_wsS RX7 63 yX7_pairOf wsX7_pairOf) := goodIn_app (goodIn_of _ (by decide +kernel)) ggX7_moved_X7_pairOf
theorem dX7_moved_0 : decode cX7_moved 0 = .ok (.iconst 0, 1) := by decide +kernel
theorem dX7_moved_1 : decode cX7_moved 1 = .ok (.istore_n 2, 1) := by decide +kernel
theorem dX7_moved_2 : decode cX7_moved 2 = .ok (.iconst 1, 1) := by decide +kernel
theorem dX7_moved_3 : decode cX7_moved 3 = .ok (.istore_n 3, 1) := by decide +kernel
theorem dX7_moved_4 : decode cX7_moved 4 = .ok (.iload_n 3, 1) := by decide +kernel
theorem dX7_moved_5 : decode cX7_moved 5 = .ok (.aload_n 0, 1) := by decide +kernel
theorem dX7_moved_6 : decode cX7_moved 6 = .ok (.getfield 7, 3) := by decide +kernel
theorem dX7_moved_9 : decode cX7_moved 9 = .ok (.if_icmp .ge 59, 3) := by decide +kernel
theorem dX7_moved_12 : decode cX7_moved 12 = .ok (.iconst 0, 1) := by decide +kernel
theorem dX7_moved_13 : decode cX7_moved 13 = .ok (.istore 4, 2) := by decide +kernel
theorem dX7_moved_15 : decode cX7_moved 15 = .ok (.iload 4, 2) := by decide +kernel
theorem dX7_moved_17 : decode cX7_moved 17 = .ok (.iload_n 3, 1) := by decide +kernel
theorem dX7_moved_18 : decode cX7_moved 18 = .ok (.if_icmp .ge 44, 3) := by decide +kernel
theorem dX7_moved_21 : decode cX7_moved 21 = .ok (.iload_n 2, 1) := by decide +kernel
theorem dX7_moved_22 : decode cX7_moved 22 = .ok (.iload_n 1, 1) := by decide +kernel
theorem dX7_moved_23 : decode cX7_moved 23 = .ok (.iload 4, 2) := by decide +kernel
theorem dX7_moved_25 : decode cX7_moved 25 = .ok (.iload_n 3, 1) := by decide +kernel
theorem dX7_moved_26 : decode cX7_moved 26 = .ok (.invokestatic 79, 3) := by decide +kernel
theorem dX7_moved_29 : decode cX7_moved 29 = .ok (.ifCond .eq 24, 3) := by decide +kernel
theorem dX7_moved_32 : decode cX7_moved 32 = .ok (.iconst 1, 1) := by decide +kernel
theorem dX7_moved_33 : decode cX7_moved 33 = .ok (.aload_n 0, 1) := by decide +kernel
theorem dX7_moved_34 : decode cX7_moved 34 = .ok (.getfield 50, 3) := by decide +kernel
theorem dX7_moved_37 : decode cX7_moved 37 = .ok (.iload 4, 2) := by decide +kernel
theorem dX7_moved_39 : decode cX7_moved 39 = .ok (.iaload, 1) := by decide +kernel
theorem dX7_moved_40 : decode cX7_moved 40 = .ok (.aload_n 0, 1) := by decide +kernel
theorem dX7_moved_41 : decode cX7_moved 41 = .ok (.getfield 50, 3) := by decide +kernel
theorem dX7_moved_44 : decode cX7_moved 44 = .ok (.iload_n 3, 1) := by decide +kernel
theorem dX7_moved_45 : decode cX7_moved 45 = .ok (.iaload, 1) := by decide +kernel
theorem dX7_moved_46 : decode cX7_moved 46 = .ok (.invokestatic 63, 3) := by decide +kernel
theorem dX7_moved_49 : decode cX7_moved 49 = .ok (.ishl, 1) := by decide +kernel
theorem dX7_moved_50 : decode cX7_moved 50 = .ok (.goto 4, 3) := by decide +kernel
theorem dX7_moved_53 : decode cX7_moved 53 = .ok (.iconst 0, 1) := by decide +kernel
theorem dX7_moved_54 : decode cX7_moved 54 = .ok (.ior, 1) := by decide +kernel
theorem dX7_moved_55 : decode cX7_moved 55 = .ok (.istore_n 2, 1) := by decide +kernel
theorem dX7_moved_56 : decode cX7_moved 56 = .ok (.iinc 4 1, 3) := by decide +kernel
theorem dX7_moved_59 : decode cX7_moved 59 = .ok (.goto (-44), 3) := by decide +kernel
theorem dX7_moved_62 : decode cX7_moved 62 = .ok (.iinc 3 1, 3) := by decide +kernel
theorem dX7_moved_65 : decode cX7_moved 65 = .ok (.goto (-61), 3) := by decide +kernel
theorem dX7_moved_68 : decode cX7_moved 68 = .ok (.iload_n 2, 1) := by decide +kernel
theorem dX7_moved_69 : decode cX7_moved 69 = .ok (.ireturn, 1) := by decide +kernel
set_option maxRecDepth 20000 in
theorem ggX7_waysTo_X7_power : GoodIn wsX7_waysTo wsX7_power := goodIn_r _ [5] (by decide +kernel) (by decide +kernel)
set_option maxRecDepth 20000 in
theorem gX7_waysTo_X7_power : GoodIn wsX7_waysTo (va_wsS RX7 128 yX7_power wsX7_power) := goodIn_app (goodIn_of _ (by decide +kernel)) ggX7_waysTo_X7_power
set_option maxRecDepth 20000 in
theorem ggX7_waysTo_X7_isOrder : GoodIn wsX7_waysTo wsX7_isOrder := goodIn_r _ [9, 1, 10, 21, 22, 23, 24, 25, 26, 27, 28, 29, 30, 31, 32, 33, 34, 35, 36, 37, 38, 39, 40, 41] (by decide +kernel) (by decide +kernel)
set_option maxRecDepth 20000 in
theorem gX7_waysTo_X7_isOrder : GoodIn wsX7_waysTo (wsV RX7 165 RX7 yX7_isOrder wsX7_isOrder) := goodIn_app (goodIn_of _ (by decide +kernel)) ggX7_waysTo_X7_isOrder
set_option maxRecDepth 20000 in
theorem ggX7_waysTo_X7_moved : GoodIn wsX7_waysTo wsX7_moved := goodIn_r _ [14, 1, 10, 15, 16, 4, 17, 18, 19, 20, 21, 22, 23, 24, 25, 26, 27, 28, 29, 30, 31, 32, 33, 34, 35, 36, 37, 38, 39, 40, 41] (by decide +kernel) (by decide +kernel)
set_option maxRecDepth 20000 in
theorem gX7_waysTo_X7_moved : GoodIn wsX7_waysTo (wsV RX7 168 RX7 yX7_moved wsX7_moved) := goodIn_app (goodIn_of _ (by decide +kernel)) ggX7_waysTo_X7_moved
theorem dX7_waysTo_0 : decode cX7_waysTo 0 = .ok (.aload_n 0, 1) := by decide +kernel
theorem dX7_waysTo_1 : decode cX7_waysTo 1 = .ok (.getfield 7, 3) := by decide +kernel
theorem dX7_waysTo_4 : decode cX7_waysTo 4 = .ok (.i2l, 1) := by decide +kernel
theorem dX7_waysTo_5 : decode cX7_waysTo 5 = .ok (.aload_n 0, 1) := by decide +kernel
theorem dX7_waysTo_6 : decode cX7_waysTo 6 = .ok (.getfield 7, 3) := by decide +kernel
theorem dX7_waysTo_9 : decode cX7_waysTo 9 = .ok (.invokestatic 128, 3) := by decide +kernel
theorem dX7_waysTo_12 : decode cX7_waysTo 12 = .ok (.l2i, 1) := by decide +kernel
theorem dX7_waysTo_13 : decode cX7_waysTo 13 = .ok (.istore_n 3, 1) := by decide +kernel
theorem dX7_waysTo_14 : decode cX7_waysTo 14 = .ok (.iconst 0, 1) := by decide +kernel
theorem dX7_waysTo_15 : decode cX7_waysTo 15 = .ok (.istore 4, 2) := by decide +kernel
theorem dX7_waysTo_17 : decode cX7_waysTo 17 = .ok (.iconst 0, 1) := by decide +kernel
theorem dX7_waysTo_18 : decode cX7_waysTo 18 = .ok (.istore 5, 2) := by decide +kernel
theorem dX7_waysTo_20 : decode cX7_waysTo 20 = .ok (.iload 5, 2) := by decide +kernel
theorem dX7_waysTo_22 : decode cX7_waysTo 22 = .ok (.iload_n 3, 1) := by decide +kernel
theorem dX7_waysTo_23 : decode cX7_waysTo 23 = .ok (.if_icmp .ge 37, 3) := by decide +kernel
theorem dX7_waysTo_26 : decode cX7_waysTo 26 = .ok (.iload 4, 2) := by decide +kernel
theorem dX7_waysTo_28 : decode cX7_waysTo 28 = .ok (.aload_n 0, 1) := by decide +kernel
theorem dX7_waysTo_29 : decode cX7_waysTo 29 = .ok (.iload 5, 2) := by decide +kernel
theorem dX7_waysTo_31 : decode cX7_waysTo 31 = .ok (.invokevirtual 165, 3) := by decide +kernel
theorem dX7_waysTo_34 : decode cX7_waysTo 34 = .ok (.ifCond .eq 16, 3) := by decide +kernel
theorem dX7_waysTo_37 : decode cX7_waysTo 37 = .ok (.aload_n 0, 1) := by decide +kernel
theorem dX7_waysTo_38 : decode cX7_waysTo 38 = .ok (.iload_n 1, 1) := by decide +kernel
theorem dX7_waysTo_39 : decode cX7_waysTo 39 = .ok (.invokevirtual 168, 3) := by decide +kernel
theorem dX7_waysTo_42 : decode cX7_waysTo 42 = .ok (.iload_n 2, 1) := by decide +kernel
theorem dX7_waysTo_43 : decode cX7_waysTo 43 = .ok (.if_icmp .ne 7, 3) := by decide +kernel
theorem dX7_waysTo_46 : decode cX7_waysTo 46 = .ok (.iconst 1, 1) := by decide +kernel
theorem dX7_waysTo_47 : decode cX7_waysTo 47 = .ok (.goto 4, 3) := by decide +kernel
theorem dX7_waysTo_50 : decode cX7_waysTo 50 = .ok (.iconst 0, 1) := by decide +kernel
theorem dX7_waysTo_51 : decode cX7_waysTo 51 = .ok (.iadd, 1) := by decide +kernel
theorem dX7_waysTo_52 : decode cX7_waysTo 52 = .ok (.istore 4, 2) := by decide +kernel
theorem dX7_waysTo_54 : decode cX7_waysTo 54 = .ok (.iinc 5 1, 3) := by decide +kernel
theorem dX7_waysTo_57 : decode cX7_waysTo 57 = .ok (.goto (-37), 3) := by decide +kernel
theorem dX7_waysTo_60 : decode cX7_waysTo 60 = .ok (.iload 4, 2) := by decide +kernel
theorem dX7_waysTo_62 : decode cX7_waysTo 62 = .ok (.ireturn, 1) := by decide +kernel
set_option maxRecDepth 20000 in
theorem ggX7_alike_X7_isNumber : GoodIn wsX7_alike wsX7_isNumber := goodIn_r _ [6, 7, 8, 9, 5, 10, 34, 35, 36, 37, 38, 39, 40, 41, 42, 43, 44, 45, 46, 47, 48, 49, 50, 51, 52, 53, 54] (by decide +kernel) (by decide +kernel)
set_option maxRecDepth 20000 in
theorem gX7_alike_X7_isNumber : GoodIn wsX7_alike (wsV RX7 89 RX7 yX7_isNumber wsX7_isNumber) := goodIn_app (goodIn_of _ (by decide +kernel)) ggX7_alike_X7_isNumber
set_option maxRecDepth 20000 in
theorem ggX7_alike_X7_waysTo : GoodIn wsX7_alike wsX7_waysTo := goodIn_r _ [14, 15, 16, 17, 5, 18, 19, 20, 21, 22, 23, 24, 25, 26, 27, 28, 29, 30, 31, 32, 33, 34, 35, 36, 37, 38, 39, 40, 41, 42, 43, 44, 45, 46, 47, 48, 49, 50, 51, 52, 53, 54] (by decide +kernel) (by decide +kernel)
set_option maxRecDepth 20000 in
theorem gX7_alike_X7_waysTo : GoodIn wsX7_alike (wsV RX7 171 RX7 yX7_waysTo wsX7_waysTo) := goodIn_app (goodIn_of _ (by decide +kernel)) ggX7_alike_X7_waysTo
theorem dX7_alike_0 : decode cX7_alike 0 = .ok (.aload_n 0, 1) := by decide +kernel
theorem dX7_alike_1 : decode cX7_alike 1 = .ok (.iload_n 1, 1) := by decide +kernel
theorem dX7_alike_2 : decode cX7_alike 2 = .ok (.invokevirtual 89, 3) := by decide +kernel
theorem dX7_alike_5 : decode cX7_alike 5 = .ok (.ifCond .ne 5, 3) := by decide +kernel
theorem dX7_alike_8 : decode cX7_alike 8 = .ok (.iconst (-1), 1) := by decide +kernel
theorem dX7_alike_9 : decode cX7_alike 9 = .ok (.ireturn, 1) := by decide +kernel
theorem dX7_alike_10 : decode cX7_alike 10 = .ok (.aload_n 0, 1) := by decide +kernel
theorem dX7_alike_11 : decode cX7_alike 11 = .ok (.aload_n 0, 1) := by decide +kernel
theorem dX7_alike_12 : decode cX7_alike 12 = .ok (.getfield 69, 3) := by decide +kernel
theorem dX7_alike_15 : decode cX7_alike 15 = .ok (.iload_n 1, 1) := by decide +kernel
theorem dX7_alike_16 : decode cX7_alike 16 = .ok (.invokevirtual 171, 3) := by decide +kernel
theorem dX7_alike_19 : decode cX7_alike 19 = .ok (.ifCond .le 7, 3) := by decide +kernel
theorem dX7_alike_22 : decode cX7_alike 22 = .ok (.iconst 1, 1) := by decide +kernel
theorem dX7_alike_23 : decode cX7_alike 23 = .ok (.goto 4, 3) := by decide +kernel
theorem dX7_alike_26 : decode cX7_alike 26 = .ok (.iconst 0, 1) := by decide +kernel
theorem dX7_alike_27 : decode cX7_alike 27 = .ok (.ireturn, 1) := by decide +kernel
set_option maxRecDepth 20000 in
theorem ggX7_kinds_X7_waysTo : GoodIn wsX7_kinds wsX7_waysTo := goodIn_r _ [7, 1, 8, 9, 6, 10, 11, 12, 13, 14, 15, 16, 17, 18, 19, 20, 21, 22, 23, 24, 25, 26, 27, 28, 29, 30, 31, 32, 33, 34, 35, 36, 37, 38, 39, 40, 41, 42, 43, 44, 45, 46] (by decide +kernel) (by decide +kernel)
set_option maxRecDepth 20000 in
theorem gX7_kinds_X7_waysTo : GoodIn wsX7_kinds (wsV RX7 171 RX7 yX7_waysTo wsX7_waysTo) := goodIn_app (goodIn_of _ (by decide +kernel)) ggX7_kinds_X7_waysTo
theorem dX7_kinds_0 : decode cX7_kinds 0 = .ok (.iconst 1, 1) := by decide +kernel
theorem dX7_kinds_1 : decode cX7_kinds 1 = .ok (.istore_n 1, 1) := by decide +kernel
theorem dX7_kinds_2 : decode cX7_kinds 2 = .ok (.iconst 2, 1) := by decide +kernel
theorem dX7_kinds_3 : decode cX7_kinds 3 = .ok (.istore_n 2, 1) := by decide +kernel
theorem dX7_kinds_4 : decode cX7_kinds 4 = .ok (.iload_n 2, 1) := by decide +kernel
theorem dX7_kinds_5 : decode cX7_kinds 5 = .ok (.aload_n 0, 1) := by decide +kernel
theorem dX7_kinds_6 : decode cX7_kinds 6 = .ok (.getfield 7, 3) := by decide +kernel
theorem dX7_kinds_9 : decode cX7_kinds 9 = .ok (.if_icmp .gt 13, 3) := by decide +kernel
theorem dX7_kinds_12 : decode cX7_kinds 12 = .ok (.iload_n 1, 1) := by decide +kernel
theorem dX7_kinds_13 : decode cX7_kinds 13 = .ok (.iload_n 2, 1) := by decide +kernel
theorem dX7_kinds_14 : decode cX7_kinds 14 = .ok (.imul, 1) := by decide +kernel
theorem dX7_kinds_15 : decode cX7_kinds 15 = .ok (.istore_n 1, 1) := by decide +kernel
theorem dX7_kinds_16 : decode cX7_kinds 16 = .ok (.iinc 2 1, 3) := by decide +kernel
theorem dX7_kinds_19 : decode cX7_kinds 19 = .ok (.goto (-15), 3) := by decide +kernel
theorem dX7_kinds_22 : decode cX7_kinds 22 = .ok (.iload_n 1, 1) := by decide +kernel
theorem dX7_kinds_23 : decode cX7_kinds 23 = .ok (.aload_n 0, 1) := by decide +kernel
theorem dX7_kinds_24 : decode cX7_kinds 24 = .ok (.aload_n 0, 1) := by decide +kernel
theorem dX7_kinds_25 : decode cX7_kinds 25 = .ok (.getfield 69, 3) := by decide +kernel
theorem dX7_kinds_28 : decode cX7_kinds 28 = .ok (.aload_n 0, 1) := by decide +kernel
theorem dX7_kinds_29 : decode cX7_kinds 29 = .ok (.getfield 69, 3) := by decide +kernel
theorem dX7_kinds_32 : decode cX7_kinds 32 = .ok (.invokevirtual 171, 3) := by decide +kernel
theorem dX7_kinds_35 : decode cX7_kinds 35 = .ok (.idiv, 1) := by decide +kernel
theorem dX7_kinds_36 : decode cX7_kinds 36 = .ok (.ireturn, 1) := by decide +kernel
theorem dX7_seed_0 : decode cX7_seed 0 = .ok (.aload_n 0, 1) := by decide +kernel
theorem dX7_seed_1 : decode cX7_seed 1 = .ok (.lload_n 1, 1) := by decide +kernel
theorem dX7_seed_2 : decode cX7_seed 2 = .ok (.putfield 174, 3) := by decide +kernel
theorem dX7_seed_5 : decode cX7_seed 5 = .ok (.return_, 1) := by decide +kernel
theorem dX7_draw_0 : decode cX7_draw 0 = .ok (.ldc2_w 178, 3) := by decide +kernel
theorem dX7_draw_3 : decode cX7_draw 3 = .ok (.ldc2_w 178, 3) := by decide +kernel
theorem dX7_draw_6 : decode cX7_draw 6 = .ok (.lload_n 1, 1) := by decide +kernel
theorem dX7_draw_7 : decode cX7_draw 7 = .ok (.lrem, 1) := by decide +kernel
theorem dX7_draw_8 : decode cX7_draw 8 = .ok (.lsub, 1) := by decide +kernel
theorem dX7_draw_9 : decode cX7_draw 9 = .ok (.lstore_n 3, 1) := by decide +kernel
theorem dX7_draw_10 : decode cX7_draw 10 = .ok (.lload_n 3, 1) := by decide +kernel
theorem dX7_draw_11 : decode cX7_draw 11 = .ok (.lstore 5, 2) := by decide +kernel
theorem dX7_draw_13 : decode cX7_draw 13 = .ok (.lload 5, 2) := by decide +kernel
theorem dX7_draw_15 : decode cX7_draw 15 = .ok (.lload_n 3, 1) := by decide +kernel
theorem dX7_draw_16 : decode cX7_draw 16 = .ok (.lcmp, 1) := by decide +kernel
theorem dX7_draw_17 : decode cX7_draw 17 = .ok (.ifCond .lt 30, 3) := by decide +kernel
theorem dX7_draw_20 : decode cX7_draw 20 = .ok (.aload_n 0, 1) := by decide +kernel
theorem dX7_draw_21 : decode cX7_draw 21 = .ok (.aload_n 0, 1) := by decide +kernel
theorem dX7_draw_22 : decode cX7_draw 22 = .ok (.getfield 174, 3) := by decide +kernel
theorem dX7_draw_25 : decode cX7_draw 25 = .ok (.ldc2_w 180, 3) := by decide +kernel
theorem dX7_draw_28 : decode cX7_draw 28 = .ok (.lmul, 1) := by decide +kernel
theorem dX7_draw_29 : decode cX7_draw 29 = .ok (.ldc2_w 182, 3) := by decide +kernel
theorem dX7_draw_32 : decode cX7_draw 32 = .ok (.ladd, 1) := by decide +kernel
theorem dX7_draw_33 : decode cX7_draw 33 = .ok (.putfield 174, 3) := by decide +kernel
theorem dX7_draw_36 : decode cX7_draw 36 = .ok (.aload_n 0, 1) := by decide +kernel
theorem dX7_draw_37 : decode cX7_draw 37 = .ok (.getfield 174, 3) := by decide +kernel
theorem dX7_draw_40 : decode cX7_draw 40 = .ok (.iconst 1, 1) := by decide +kernel
theorem dX7_draw_41 : decode cX7_draw 41 = .ok (.lushr, 1) := by decide +kernel
theorem dX7_draw_42 : decode cX7_draw 42 = .ok (.lstore 5, 2) := by decide +kernel
theorem dX7_draw_44 : decode cX7_draw 44 = .ok (.goto (-31), 3) := by decide +kernel
theorem dX7_draw_47 : decode cX7_draw 47 = .ok (.lload 5, 2) := by decide +kernel
theorem dX7_draw_49 : decode cX7_draw 49 = .ok (.lload_n 1, 1) := by decide +kernel
theorem dX7_draw_50 : decode cX7_draw 50 = .ok (.lrem, 1) := by decide +kernel
theorem dX7_draw_51 : decode cX7_draw 51 = .ok (.lreturn, 1) := by decide +kernel
theorem dX7_edgeAt_0 : decode cX7_edgeAt 0 = .ok (.iload_n 1, 1) := by decide +kernel
theorem dX7_edgeAt_1 : decode cX7_edgeAt 1 = .ok (.istore_n 2, 1) := by decide +kernel
theorem dX7_edgeAt_2 : decode cX7_edgeAt 2 = .ok (.iconst 0, 1) := by decide +kernel
theorem dX7_edgeAt_3 : decode cX7_edgeAt 3 = .ok (.istore_n 3, 1) := by decide +kernel
theorem dX7_edgeAt_4 : decode cX7_edgeAt 4 = .ok (.iload_n 2, 1) := by decide +kernel
theorem dX7_edgeAt_5 : decode cX7_edgeAt 5 = .ok (.ifCond .gt 14, 3) := by decide +kernel
theorem dX7_edgeAt_8 : decode cX7_edgeAt 8 = .ok (.aload_n 0, 1) := by decide +kernel
theorem dX7_edgeAt_9 : decode cX7_edgeAt 9 = .ok (.getfield 69, 3) := by decide +kernel
theorem dX7_edgeAt_12 : decode cX7_edgeAt 12 = .ok (.iload_n 3, 1) := by decide +kernel
theorem dX7_edgeAt_13 : decode cX7_edgeAt 13 = .ok (.ishr, 1) := by decide +kernel
theorem dX7_edgeAt_14 : decode cX7_edgeAt 14 = .ok (.iconst 1, 1) := by decide +kernel
theorem dX7_edgeAt_15 : decode cX7_edgeAt 15 = .ok (.iand, 1) := by decide +kernel
theorem dX7_edgeAt_16 : decode cX7_edgeAt 16 = .ok (.ifCond .ne 20, 3) := by decide +kernel
theorem dX7_edgeAt_19 : decode cX7_edgeAt 19 = .ok (.iload_n 2, 1) := by decide +kernel
theorem dX7_edgeAt_20 : decode cX7_edgeAt 20 = .ok (.aload_n 0, 1) := by decide +kernel
theorem dX7_edgeAt_21 : decode cX7_edgeAt 21 = .ok (.getfield 69, 3) := by decide +kernel
theorem dX7_edgeAt_24 : decode cX7_edgeAt 24 = .ok (.iload_n 3, 1) := by decide +kernel
theorem dX7_edgeAt_25 : decode cX7_edgeAt 25 = .ok (.ishr, 1) := by decide +kernel
theorem dX7_edgeAt_26 : decode cX7_edgeAt 26 = .ok (.iconst 1, 1) := by decide +kernel
theorem dX7_edgeAt_27 : decode cX7_edgeAt 27 = .ok (.iand, 1) := by decide +kernel
theorem dX7_edgeAt_28 : decode cX7_edgeAt 28 = .ok (.isub, 1) := by decide +kernel
theorem dX7_edgeAt_29 : decode cX7_edgeAt 29 = .ok (.istore_n 2, 1) := by decide +kernel
theorem dX7_edgeAt_30 : decode cX7_edgeAt 30 = .ok (.iinc 3 1, 3) := by decide +kernel
theorem dX7_edgeAt_33 : decode cX7_edgeAt 33 = .ok (.goto (-29), 3) := by decide +kernel
theorem dX7_edgeAt_36 : decode cX7_edgeAt 36 = .ok (.iload_n 3, 1) := by decide +kernel
theorem dX7_edgeAt_37 : decode cX7_edgeAt 37 = .ok (.ireturn, 1) := by decide +kernel
theorem dX7_upper_0 : decode cX7_upper 0 = .ok (.iconst 1, 1) := by decide +kernel
theorem dX7_upper_1 : decode cX7_upper 1 = .ok (.istore_n 1, 1) := by decide +kernel
theorem dX7_upper_2 : decode cX7_upper 2 = .ok (.iload_n 1, 1) := by decide +kernel
theorem dX7_upper_3 : decode cX7_upper 3 = .ok (.iconst 1, 1) := by decide +kernel
theorem dX7_upper_4 : decode cX7_upper 4 = .ok (.iadd, 1) := by decide +kernel
theorem dX7_upper_5 : decode cX7_upper 5 = .ok (.iload_n 1, 1) := by decide +kernel
theorem dX7_upper_6 : decode cX7_upper 6 = .ok (.imul, 1) := by decide +kernel
theorem dX7_upper_7 : decode cX7_upper 7 = .ok (.iconst 2, 1) := by decide +kernel
theorem dX7_upper_8 : decode cX7_upper 8 = .ok (.idiv, 1) := by decide +kernel
theorem dX7_upper_9 : decode cX7_upper 9 = .ok (.iload_n 0, 1) := by decide +kernel
theorem dX7_upper_10 : decode cX7_upper 10 = .ok (.if_icmp .gt 9, 3) := by decide +kernel
theorem dX7_upper_13 : decode cX7_upper 13 = .ok (.iinc 1 1, 3) := by decide +kernel
theorem dX7_upper_16 : decode cX7_upper 16 = .ok (.goto (-14), 3) := by decide +kernel
theorem dX7_upper_19 : decode cX7_upper 19 = .ok (.iload_n 1, 1) := by decide +kernel
theorem dX7_upper_20 : decode cX7_upper 20 = .ok (.ireturn, 1) := by decide +kernel
set_option maxRecDepth 20000 in
theorem ggX7_isSwapped_X7_edgesOf : GoodIn wsX7_isSwapped wsX7_edgesOf := goodIn_r _ [7, 8, 27, 28, 29, 30, 31, 32, 33, 34, 35, 36, 37, 38, 39, 40, 41, 42, 43, 44, 45, 46, 47] (by decide +kernel) (by decide +kernel)
set_option maxRecDepth 20000 in
theorem gX7_isSwapped_X7_edgesOf : GoodIn wsX7_isSwapped (wsV RX7 95 RX7 yX7_edgesOf wsX7_edgesOf) := goodIn_app (goodIn_of _ (by decide +kernel)) ggX7_isSwapped_X7_edgesOf
set_option maxRecDepth 20000 in
theorem ggX7_isSwapped_X7_draw : GoodIn wsX7_isSwapped wsX7_draw := goodIn_r _ [12, 13, 14, 15, 16, 27, 28, 29, 30, 31, 32, 33, 34, 35, 36, 37, 38, 39, 40, 41, 42, 43, 44, 45, 46, 47] (by decide +kernel) (by decide +kernel)
set_option maxRecDepth 20000 in
theorem gX7_isSwapped_X7_draw : GoodIn wsX7_isSwapped (wsV RX7 184 RX7 yX7_draw wsX7_draw) := goodIn_app (goodIn_of _ (by decide +kernel)) ggX7_isSwapped_X7_draw
set_option maxRecDepth 20000 in
theorem ggX7_isSwapped_X7_edgeAt : GoodIn wsX7_isSwapped wsX7_edgeAt := goodIn_r _ [20, 1, 27, 28, 29, 30, 31, 32, 33, 34, 35, 36, 37, 38, 39, 40, 41, 42, 43, 44, 45, 46, 47] (by decide +kernel) (by decide +kernel)
set_option maxRecDepth 20000 in
theorem gX7_isSwapped_X7_edgeAt : GoodIn wsX7_isSwapped (wsV RX7 188 RX7 yX7_edgeAt wsX7_edgeAt) := goodIn_app (goodIn_of _ (by decide +kernel)) ggX7_isSwapped_X7_edgeAt
set_option maxRecDepth 20000 in
theorem ggX7_isSwapped_X7_upper : GoodIn wsX7_isSwapped wsX7_upper := goodIn_r _ [23] (by decide +kernel) (by decide +kernel)
set_option maxRecDepth 20000 in
theorem gX7_isSwapped_X7_upper : GoodIn wsX7_isSwapped (va_wsS RX7 191 yX7_upper wsX7_upper) := goodIn_app (goodIn_of _ (by decide +kernel)) ggX7_isSwapped_X7_upper
set_option maxRecDepth 20000 in
theorem ggX7_isSwapped_X7_pairOf : GoodIn wsX7_isSwapped wsX7_pairOf := goodIn_r _ [26] (by decide +kernel) (by decide +kernel)
set_option maxRecDepth 20000 in
theorem gX7_isSwapped_X7_pairOf : GoodIn wsX7_isSwapped (va_wsS RX7 63 yX7_pairOf wsX7_pairOf) := goodIn_app (goodIn_of _ (by decide +kernel)) ggX7_isSwapped_X7_pairOf
theorem dX7_isSwapped_0 : decode cX7_isSwapped 0 = .ok (.aload_n 0, 1) := by decide +kernel
theorem dX7_isSwapped_1 : decode cX7_isSwapped 1 = .ok (.aload_n 0, 1) := by decide +kernel
theorem dX7_isSwapped_2 : decode cX7_isSwapped 2 = .ok (.getfield 69, 3) := by decide +kernel
theorem dX7_isSwapped_5 : decode cX7_isSwapped 5 = .ok (.invokevirtual 95, 3) := by decide +kernel
theorem dX7_isSwapped_8 : decode cX7_isSwapped 8 = .ok (.istore_n 1, 1) := by decide +kernel
theorem dX7_isSwapped_9 : decode cX7_isSwapped 9 = .ok (.iload_n 1, 1) := by decide +kernel
theorem dX7_isSwapped_10 : decode cX7_isSwapped 10 = .ok (.iconst 2, 1) := by decide +kernel
theorem dX7_isSwapped_11 : decode cX7_isSwapped 11 = .ok (.if_icmp .ge 5, 3) := by decide +kernel
theorem dX7_isSwapped_14 : decode cX7_isSwapped 14 = .ok (.iconst 0, 1) := by decide +kernel
theorem dX7_isSwapped_15 : decode cX7_isSwapped 15 = .ok (.ireturn, 1) := by decide +kernel
theorem dX7_isSwapped_16 : decode cX7_isSwapped 16 = .ok (.aload_n 0, 1) := by decide +kernel
theorem dX7_isSwapped_17 : decode cX7_isSwapped 17 = .ok (.aload_n 0, 1) := by decide +kernel
theorem dX7_isSwapped_18 : decode cX7_isSwapped 18 = .ok (.iload_n 1, 1) := by decide +kernel
theorem dX7_isSwapped_19 : decode cX7_isSwapped 19 = .ok (.i2l, 1) := by decide +kernel
theorem dX7_isSwapped_20 : decode cX7_isSwapped 20 = .ok (.invokevirtual 184, 3) := by decide +kernel
theorem dX7_isSwapped_23 : decode cX7_isSwapped 23 = .ok (.l2i, 1) := by decide +kernel
theorem dX7_isSwapped_24 : decode cX7_isSwapped 24 = .ok (.invokevirtual 188, 3) := by decide +kernel
theorem dX7_isSwapped_27 : decode cX7_isSwapped 27 = .ok (.istore_n 2, 1) := by decide +kernel
theorem dX7_isSwapped_28 : decode cX7_isSwapped 28 = .ok (.aload_n 0, 1) := by decide +kernel
theorem dX7_isSwapped_29 : decode cX7_isSwapped 29 = .ok (.aload_n 0, 1) := by decide +kernel
theorem dX7_isSwapped_30 : decode cX7_isSwapped 30 = .ok (.iload_n 1, 1) := by decide +kernel
theorem dX7_isSwapped_31 : decode cX7_isSwapped 31 = .ok (.i2l, 1) := by decide +kernel
theorem dX7_isSwapped_32 : decode cX7_isSwapped 32 = .ok (.invokevirtual 184, 3) := by decide +kernel
theorem dX7_isSwapped_35 : decode cX7_isSwapped 35 = .ok (.l2i, 1) := by decide +kernel
theorem dX7_isSwapped_36 : decode cX7_isSwapped 36 = .ok (.invokevirtual 188, 3) := by decide +kernel
theorem dX7_isSwapped_39 : decode cX7_isSwapped 39 = .ok (.istore_n 3, 1) := by decide +kernel
theorem dX7_isSwapped_40 : decode cX7_isSwapped 40 = .ok (.aload_n 0, 1) := by decide +kernel
theorem dX7_isSwapped_41 : decode cX7_isSwapped 41 = .ok (.ldc2_w 83, 3) := by decide +kernel
theorem dX7_isSwapped_44 : decode cX7_isSwapped 44 = .ok (.invokevirtual 184, 3) := by decide +kernel
theorem dX7_isSwapped_47 : decode cX7_isSwapped 47 = .ok (.lconst 0, 1) := by decide +kernel
theorem dX7_isSwapped_48 : decode cX7_isSwapped 48 = .ok (.lcmp, 1) := by decide +kernel
theorem dX7_isSwapped_49 : decode cX7_isSwapped 49 = .ok (.ifCond .ne 7, 3) := by decide +kernel
theorem dX7_isSwapped_52 : decode cX7_isSwapped 52 = .ok (.iconst 1, 1) := by decide +kernel
theorem dX7_isSwapped_53 : decode cX7_isSwapped 53 = .ok (.goto 4, 3) := by decide +kernel
theorem dX7_isSwapped_56 : decode cX7_isSwapped 56 = .ok (.iconst 0, 1) := by decide +kernel
theorem dX7_isSwapped_57 : decode cX7_isSwapped 57 = .ok (.istore 4, 2) := by decide +kernel
theorem dX7_isSwapped_59 : decode cX7_isSwapped 59 = .ok (.iload_n 2, 1) := by decide +kernel
theorem dX7_isSwapped_60 : decode cX7_isSwapped 60 = .ok (.invokestatic 191, 3) := by decide +kernel
theorem dX7_isSwapped_63 : decode cX7_isSwapped 63 = .ok (.istore 5, 2) := by decide +kernel
theorem dX7_isSwapped_65 : decode cX7_isSwapped 65 = .ok (.iload_n 2, 1) := by decide +kernel
theorem dX7_isSwapped_66 : decode cX7_isSwapped 66 = .ok (.iload 5, 2) := by decide +kernel
theorem dX7_isSwapped_68 : decode cX7_isSwapped 68 = .ok (.iload 5, 2) := by decide +kernel
theorem dX7_isSwapped_70 : decode cX7_isSwapped 70 = .ok (.iconst 1, 1) := by decide +kernel
theorem dX7_isSwapped_71 : decode cX7_isSwapped 71 = .ok (.isub, 1) := by decide +kernel
theorem dX7_isSwapped_72 : decode cX7_isSwapped 72 = .ok (.imul, 1) := by decide +kernel
theorem dX7_isSwapped_73 : decode cX7_isSwapped 73 = .ok (.iconst 2, 1) := by decide +kernel
theorem dX7_isSwapped_74 : decode cX7_isSwapped 74 = .ok (.idiv, 1) := by decide +kernel
theorem dX7_isSwapped_75 : decode cX7_isSwapped 75 = .ok (.isub, 1) := by decide +kernel
theorem dX7_isSwapped_76 : decode cX7_isSwapped 76 = .ok (.istore 6, 2) := by decide +kernel
theorem dX7_isSwapped_78 : decode cX7_isSwapped 78 = .ok (.iload_n 3, 1) := by decide +kernel
theorem dX7_isSwapped_79 : decode cX7_isSwapped 79 = .ok (.invokestatic 191, 3) := by decide +kernel
theorem dX7_isSwapped_82 : decode cX7_isSwapped 82 = .ok (.istore 7, 2) := by decide +kernel
theorem dX7_isSwapped_84 : decode cX7_isSwapped 84 = .ok (.iload_n 3, 1) := by decide +kernel
theorem dX7_isSwapped_85 : decode cX7_isSwapped 85 = .ok (.iload 7, 2) := by decide +kernel
theorem dX7_isSwapped_87 : decode cX7_isSwapped 87 = .ok (.iload 7, 2) := by decide +kernel
theorem dX7_isSwapped_89 : decode cX7_isSwapped 89 = .ok (.iconst 1, 1) := by decide +kernel
theorem dX7_isSwapped_90 : decode cX7_isSwapped 90 = .ok (.isub, 1) := by decide +kernel
theorem dX7_isSwapped_91 : decode cX7_isSwapped 91 = .ok (.imul, 1) := by decide +kernel
theorem dX7_isSwapped_92 : decode cX7_isSwapped 92 = .ok (.iconst 2, 1) := by decide +kernel
theorem dX7_isSwapped_93 : decode cX7_isSwapped 93 = .ok (.idiv, 1) := by decide +kernel
theorem dX7_isSwapped_94 : decode cX7_isSwapped 94 = .ok (.isub, 1) := by decide +kernel
theorem dX7_isSwapped_95 : decode cX7_isSwapped 95 = .ok (.istore 8, 2) := by decide +kernel
theorem dX7_isSwapped_97 : decode cX7_isSwapped 97 = .ok (.iload 6, 2) := by decide +kernel
theorem dX7_isSwapped_99 : decode cX7_isSwapped 99 = .ok (.iload 8, 2) := by decide +kernel
theorem dX7_isSwapped_101 : decode cX7_isSwapped 101 = .ok (.if_icmp .eq 24, 3) := by decide +kernel
theorem dX7_isSwapped_104 : decode cX7_isSwapped 104 = .ok (.iload 6, 2) := by decide +kernel
theorem dX7_isSwapped_106 : decode cX7_isSwapped 106 = .ok (.iload 7, 2) := by decide +kernel
theorem dX7_isSwapped_108 : decode cX7_isSwapped 108 = .ok (.if_icmp .eq 17, 3) := by decide +kernel
theorem dX7_isSwapped_111 : decode cX7_isSwapped 111 = .ok (.iload 5, 2) := by decide +kernel
theorem dX7_isSwapped_113 : decode cX7_isSwapped 113 = .ok (.iload 8, 2) := by decide +kernel
theorem dX7_isSwapped_115 : decode cX7_isSwapped 115 = .ok (.if_icmp .eq 10, 3) := by decide +kernel
theorem dX7_isSwapped_118 : decode cX7_isSwapped 118 = .ok (.iload 5, 2) := by decide +kernel
theorem dX7_isSwapped_120 : decode cX7_isSwapped 120 = .ok (.iload 7, 2) := by decide +kernel
theorem dX7_isSwapped_122 : decode cX7_isSwapped 122 = .ok (.if_icmp .ne 5, 3) := by decide +kernel
theorem dX7_isSwapped_125 : decode cX7_isSwapped 125 = .ok (.iconst 0, 1) := by decide +kernel
theorem dX7_isSwapped_126 : decode cX7_isSwapped 126 = .ok (.ireturn, 1) := by decide +kernel
theorem dX7_isSwapped_127 : decode cX7_isSwapped 127 = .ok (.iload 4, 2) := by decide +kernel
theorem dX7_isSwapped_129 : decode cX7_isSwapped 129 = .ok (.ifCond .eq 13, 3) := by decide +kernel
theorem dX7_isSwapped_132 : decode cX7_isSwapped 132 = .ok (.iload 6, 2) := by decide +kernel
theorem dX7_isSwapped_134 : decode cX7_isSwapped 134 = .ok (.iload 7, 2) := by decide +kernel
theorem dX7_isSwapped_136 : decode cX7_isSwapped 136 = .ok (.invokestatic 63, 3) := by decide +kernel
theorem dX7_isSwapped_139 : decode cX7_isSwapped 139 = .ok (.goto 10, 3) := by decide +kernel
theorem dX7_isSwapped_142 : decode cX7_isSwapped 142 = .ok (.iload 6, 2) := by decide +kernel
theorem dX7_isSwapped_144 : decode cX7_isSwapped 144 = .ok (.iload 8, 2) := by decide +kernel
theorem dX7_isSwapped_146 : decode cX7_isSwapped 146 = .ok (.invokestatic 63, 3) := by decide +kernel
theorem dX7_isSwapped_149 : decode cX7_isSwapped 149 = .ok (.istore 9, 2) := by decide +kernel
theorem dX7_isSwapped_151 : decode cX7_isSwapped 151 = .ok (.iload 4, 2) := by decide +kernel
theorem dX7_isSwapped_153 : decode cX7_isSwapped 153 = .ok (.ifCond .eq 13, 3) := by decide +kernel
theorem dX7_isSwapped_156 : decode cX7_isSwapped 156 = .ok (.iload 8, 2) := by decide +kernel
theorem dX7_isSwapped_158 : decode cX7_isSwapped 158 = .ok (.iload 5, 2) := by decide +kernel
theorem dX7_isSwapped_160 : decode cX7_isSwapped 160 = .ok (.invokestatic 63, 3) := by decide +kernel
theorem dX7_isSwapped_163 : decode cX7_isSwapped 163 = .ok (.goto 10, 3) := by decide +kernel
theorem dX7_isSwapped_166 : decode cX7_isSwapped 166 = .ok (.iload 5, 2) := by decide +kernel
theorem dX7_isSwapped_168 : decode cX7_isSwapped 168 = .ok (.iload 7, 2) := by decide +kernel
theorem dX7_isSwapped_170 : decode cX7_isSwapped 170 = .ok (.invokestatic 63, 3) := by decide +kernel
theorem dX7_isSwapped_173 : decode cX7_isSwapped 173 = .ok (.istore 10, 2) := by decide +kernel
theorem dX7_isSwapped_175 : decode cX7_isSwapped 175 = .ok (.aload_n 0, 1) := by decide +kernel
theorem dX7_isSwapped_176 : decode cX7_isSwapped 176 = .ok (.getfield 69, 3) := by decide +kernel
theorem dX7_isSwapped_179 : decode cX7_isSwapped 179 = .ok (.iload 9, 2) := by decide +kernel
theorem dX7_isSwapped_181 : decode cX7_isSwapped 181 = .ok (.ishr, 1) := by decide +kernel
theorem dX7_isSwapped_182 : decode cX7_isSwapped 182 = .ok (.iconst 1, 1) := by decide +kernel
theorem dX7_isSwapped_183 : decode cX7_isSwapped 183 = .ok (.iand, 1) := by decide +kernel
theorem dX7_isSwapped_184 : decode cX7_isSwapped 184 = .ok (.iconst 1, 1) := by decide +kernel
theorem dX7_isSwapped_185 : decode cX7_isSwapped 185 = .ok (.if_icmp .eq 16, 3) := by decide +kernel
theorem dX7_isSwapped_188 : decode cX7_isSwapped 188 = .ok (.aload_n 0, 1) := by decide +kernel
theorem dX7_isSwapped_189 : decode cX7_isSwapped 189 = .ok (.getfield 69, 3) := by decide +kernel
theorem dX7_isSwapped_192 : decode cX7_isSwapped 192 = .ok (.iload 10, 2) := by decide +kernel
theorem dX7_isSwapped_194 : decode cX7_isSwapped 194 = .ok (.ishr, 1) := by decide +kernel
theorem dX7_isSwapped_195 : decode cX7_isSwapped 195 = .ok (.iconst 1, 1) := by decide +kernel
theorem dX7_isSwapped_196 : decode cX7_isSwapped 196 = .ok (.iand, 1) := by decide +kernel
theorem dX7_isSwapped_197 : decode cX7_isSwapped 197 = .ok (.iconst 1, 1) := by decide +kernel
theorem dX7_isSwapped_198 : decode cX7_isSwapped 198 = .ok (.if_icmp .ne 5, 3) := by decide +kernel
theorem dX7_isSwapped_201 : decode cX7_isSwapped 201 = .ok (.iconst 0, 1) := by decide +kernel
theorem dX7_isSwapped_202 : decode cX7_isSwapped 202 = .ok (.ireturn, 1) := by decide +kernel
theorem dX7_isSwapped_203 : decode cX7_isSwapped 203 = .ok (.aload_n 0, 1) := by decide +kernel
theorem dX7_isSwapped_204 : decode cX7_isSwapped 204 = .ok (.aload_n 0, 1) := by decide +kernel
theorem dX7_isSwapped_205 : decode cX7_isSwapped 205 = .ok (.getfield 69, 3) := by decide +kernel
theorem dX7_isSwapped_208 : decode cX7_isSwapped 208 = .ok (.iconst 1, 1) := by decide +kernel
theorem dX7_isSwapped_209 : decode cX7_isSwapped 209 = .ok (.iload_n 2, 1) := by decide +kernel
theorem dX7_isSwapped_210 : decode cX7_isSwapped 210 = .ok (.ishl, 1) := by decide +kernel
theorem dX7_isSwapped_211 : decode cX7_isSwapped 211 = .ok (.iconst (-1), 1) := by decide +kernel
theorem dX7_isSwapped_212 : decode cX7_isSwapped 212 = .ok (.ixor, 1) := by decide +kernel
theorem dX7_isSwapped_213 : decode cX7_isSwapped 213 = .ok (.iand, 1) := by decide +kernel
theorem dX7_isSwapped_214 : decode cX7_isSwapped 214 = .ok (.iconst 1, 1) := by decide +kernel
theorem dX7_isSwapped_215 : decode cX7_isSwapped 215 = .ok (.iload_n 3, 1) := by decide +kernel
theorem dX7_isSwapped_216 : decode cX7_isSwapped 216 = .ok (.ishl, 1) := by decide +kernel
theorem dX7_isSwapped_217 : decode cX7_isSwapped 217 = .ok (.iconst (-1), 1) := by decide +kernel
theorem dX7_isSwapped_218 : decode cX7_isSwapped 218 = .ok (.ixor, 1) := by decide +kernel
theorem dX7_isSwapped_219 : decode cX7_isSwapped 219 = .ok (.iand, 1) := by decide +kernel
theorem dX7_isSwapped_220 : decode cX7_isSwapped 220 = .ok (.iconst 1, 1) := by decide +kernel
theorem dX7_isSwapped_221 : decode cX7_isSwapped 221 = .ok (.iload 9, 2) := by decide +kernel
theorem dX7_isSwapped_223 : decode cX7_isSwapped 223 = .ok (.ishl, 1) := by decide +kernel
theorem dX7_isSwapped_224 : decode cX7_isSwapped 224 = .ok (.ior, 1) := by decide +kernel
theorem dX7_isSwapped_225 : decode cX7_isSwapped 225 = .ok (.iconst 1, 1) := by decide +kernel
theorem dX7_isSwapped_226 : decode cX7_isSwapped 226 = .ok (.iload 10, 2) := by decide +kernel
theorem dX7_isSwapped_228 : decode cX7_isSwapped 228 = .ok (.ishl, 1) := by decide +kernel
theorem dX7_isSwapped_229 : decode cX7_isSwapped 229 = .ok (.ior, 1) := by decide +kernel
theorem dX7_isSwapped_230 : decode cX7_isSwapped 230 = .ok (.putfield 69, 3) := by decide +kernel
theorem dX7_isSwapped_233 : decode cX7_isSwapped 233 = .ok (.iconst 1, 1) := by decide +kernel
theorem dX7_isSwapped_234 : decode cX7_isSwapped 234 = .ok (.ireturn, 1) := by decide +kernel
set_option maxRecDepth 20000 in
theorem ggX7_swaps_X7_in : GoodIn wsX7_swaps wsX7_in := goodIn_r _ [5] (by decide +kernel) (by decide +kernel)
set_option maxRecDepth 20000 in
theorem gX7_swaps_X7_in : GoodIn wsX7_swaps (va_wsS RX7 56 yX7_in wsX7_in) := goodIn_app (goodIn_of _ (by decide +kernel)) ggX7_swaps_X7_in
set_option maxRecDepth 20000 in
theorem ggX7_swaps_X7_isSwapped : GoodIn wsX7_swaps wsX7_isSwapped := goodIn_r _ [9, 10, 11, 12, 13, 14, 4, 15, 16, 17, 18, 19, 20, 21, 22, 23, 24, 25, 26, 27, 28, 29, 30, 31, 32, 33, 34, 35, 36, 37, 38, 39, 40, 41, 42, 43, 44, 45, 46, 47, 48, 49, 50, 51, 52, 53, 54, 55] (by decide +kernel) (by decide +kernel)
set_option maxRecDepth 20000 in
theorem gX7_swaps_X7_isSwapped : GoodIn wsX7_swaps (wsV RX7 196 RX7 yX7_isSwapped wsX7_isSwapped) := goodIn_app (goodIn_of _ (by decide +kernel)) ggX7_swaps_X7_isSwapped
theorem dX7_swaps_0 : decode cX7_swaps 0 = .ok (.iload_n 1, 1) := by decide +kernel
theorem dX7_swaps_1 : decode cX7_swaps 1 = .ok (.i2l, 1) := by decide +kernel
theorem dX7_swaps_2 : decode cX7_swaps 2 = .ok (.lconst 0, 1) := by decide +kernel
theorem dX7_swaps_3 : decode cX7_swaps 3 = .ok (.ldc2_w 194, 3) := by decide +kernel
theorem dX7_swaps_6 : decode cX7_swaps 6 = .ok (.invokestatic 56, 3) := by decide +kernel
theorem dX7_swaps_9 : decode cX7_swaps 9 = .ok (.ifCond .ne 5, 3) := by decide +kernel
theorem dX7_swaps_12 : decode cX7_swaps 12 = .ok (.iconst (-1), 1) := by decide +kernel
theorem dX7_swaps_13 : decode cX7_swaps 13 = .ok (.ireturn, 1) := by decide +kernel
theorem dX7_swaps_14 : decode cX7_swaps 14 = .ok (.iconst 0, 1) := by decide +kernel
theorem dX7_swaps_15 : decode cX7_swaps 15 = .ok (.istore_n 2, 1) := by decide +kernel
theorem dX7_swaps_16 : decode cX7_swaps 16 = .ok (.iconst 0, 1) := by decide +kernel
theorem dX7_swaps_17 : decode cX7_swaps 17 = .ok (.istore_n 3, 1) := by decide +kernel
theorem dX7_swaps_18 : decode cX7_swaps 18 = .ok (.iload_n 3, 1) := by decide +kernel
theorem dX7_swaps_19 : decode cX7_swaps 19 = .ok (.iload_n 1, 1) := by decide +kernel
theorem dX7_swaps_20 : decode cX7_swaps 20 = .ok (.if_icmp .ge 24, 3) := by decide +kernel
theorem dX7_swaps_23 : decode cX7_swaps 23 = .ok (.iload_n 2, 1) := by decide +kernel
theorem dX7_swaps_24 : decode cX7_swaps 24 = .ok (.aload_n 0, 1) := by decide +kernel
theorem dX7_swaps_25 : decode cX7_swaps 25 = .ok (.invokevirtual 196, 3) := by decide +kernel
theorem dX7_swaps_28 : decode cX7_swaps 28 = .ok (.ifCond .eq 7, 3) := by decide +kernel
theorem dX7_swaps_31 : decode cX7_swaps 31 = .ok (.iconst 1, 1) := by decide +kernel
theorem dX7_swaps_32 : decode cX7_swaps 32 = .ok (.goto 4, 3) := by decide +kernel
theorem dX7_swaps_35 : decode cX7_swaps 35 = .ok (.iconst 0, 1) := by decide +kernel
theorem dX7_swaps_36 : decode cX7_swaps 36 = .ok (.iadd, 1) := by decide +kernel
theorem dX7_swaps_37 : decode cX7_swaps 37 = .ok (.istore_n 2, 1) := by decide +kernel
theorem dX7_swaps_38 : decode cX7_swaps 38 = .ok (.iinc 3 1, 3) := by decide +kernel
theorem dX7_swaps_41 : decode cX7_swaps 41 = .ok (.goto (-23), 3) := by decide +kernel
theorem dX7_swaps_44 : decode cX7_swaps 44 = .ok (.iload_n 2, 1) := by decide +kernel
theorem dX7_swaps_45 : decode cX7_swaps 45 = .ok (.ireturn, 1) := by decide +kernel
set_option maxRecDepth 20000 in
theorem ggX7_drawn_X7_isModel : GoodIn wsX7_drawn wsX7_isModel := goodIn_r _ [5, 6, 7, 8, 4, 9] (by decide +kernel) (by decide +kernel)
set_option maxRecDepth 20000 in
theorem gX7_drawn_X7_isModel : GoodIn wsX7_drawn (va_wsS RX7 142 yX7_isModel wsX7_isModel) := goodIn_app (goodIn_of _ (by decide +kernel)) ggX7_drawn_X7_isModel
set_option maxRecDepth 20000 in
theorem ggX7_drawn_X7_ready : GoodIn wsX7_drawn wsX7_ready := goodIn_r _ [13, 14, 1, 15, 16, 17, 18, 19, 20, 21, 22, 23, 24, 4, 25, 26, 27, 28, 29, 30, 31, 32, 33, 34, 35, 36, 37, 38, 39, 40, 41, 42, 43, 44, 45, 46, 47, 48, 70, 71, 72, 73, 74, 75, 76, 77, 78, 79, 80, 81, 82, 83, 84, 85, 86, 87, 88, 89, 90] (by decide +kernel) (by decide +kernel)
set_option maxRecDepth 20000 in
theorem gX7_drawn_X7_ready : GoodIn wsX7_drawn (wsV RX7 145 RX7 yX7_ready wsX7_ready) := goodIn_app (goodIn_of _ (by decide +kernel)) ggX7_drawn_X7_ready
set_option maxRecDepth 20000 in
theorem ggX7_drawn_X7_totalOf : GoodIn wsX7_drawn wsX7_totalOf := goodIn_r _ [52, 15, 53, 54, 55, 4, 56, 16, 14, 57, 44, 22, 23, 24, 25, 58, 59, 60, 61, 20, 21, 29, 30, 31, 32, 33, 34, 35, 36, 37, 38, 26, 27, 28, 70, 71, 72, 73, 74, 75, 76, 77, 78, 79, 80, 81, 82, 83, 84, 85, 86, 87, 88, 89, 90] (by decide +kernel) (by decide +kernel)
set_option maxRecDepth 20000 in
theorem gX7_drawn_X7_totalOf : GoodIn wsX7_drawn (wsV RX7 151 RX7 yX7_totalOf wsX7_totalOf) := goodIn_app (goodIn_of _ (by decide +kernel)) ggX7_drawn_X7_totalOf
set_option maxRecDepth 20000 in
theorem ggX7_drawn_X7_draw : GoodIn wsX7_drawn wsX7_draw := goodIn_r _ [65, 66, 67, 68, 69, 70, 71, 72, 73, 74, 75, 76, 77, 78, 79, 80, 81, 82, 83, 84, 85, 86, 87, 88, 89, 90] (by decide +kernel) (by decide +kernel)
set_option maxRecDepth 20000 in
theorem gX7_drawn_X7_draw : GoodIn wsX7_drawn (wsV RX7 184 RX7 yX7_draw wsX7_draw) := goodIn_app (goodIn_of _ (by decide +kernel)) ggX7_drawn_X7_draw
set_option maxRecDepth 20000 in
theorem ggX7_drawn_X7_weightOf : GoodIn wsX7_drawn wsX7_weightOf := goodIn_r _ [56, 16, 14, 57, 44, 22, 23, 24, 4, 25, 15, 58, 59, 60, 61, 20, 21, 29, 30, 31, 32, 33, 34, 35, 36, 37, 38, 26, 27, 28, 70, 71, 72, 73, 74, 75, 76, 77, 78, 79, 80, 81, 82, 83, 84, 85, 86, 87, 88, 89, 90] (by decide +kernel) (by decide +kernel)
set_option maxRecDepth 20000 in
theorem gX7_drawn_X7_weightOf : GoodIn wsX7_drawn (wsV RX7 138 RX7 yX7_weightOf wsX7_weightOf) := goodIn_app (goodIn_of _ (by decide +kernel)) ggX7_drawn_X7_weightOf
theorem dX7_drawn_0 : decode cX7_drawn 0 = .ok (.iload_n 1, 1) := by decide +kernel
theorem dX7_drawn_1 : decode cX7_drawn 1 = .ok (.invokestatic 142, 3) := by decide +kernel
theorem dX7_drawn_4 : decode cX7_drawn 4 = .ok (.ifCond .ne 5, 3) := by decide +kernel
theorem dX7_drawn_7 : decode cX7_drawn 7 = .ok (.iconst (-1), 1) := by decide +kernel
theorem dX7_drawn_8 : decode cX7_drawn 8 = .ok (.ireturn, 1) := by decide +kernel
theorem dX7_drawn_9 : decode cX7_drawn 9 = .ok (.aload_n 0, 1) := by decide +kernel
theorem dX7_drawn_10 : decode cX7_drawn 10 = .ok (.iload_n 1, 1) := by decide +kernel
theorem dX7_drawn_11 : decode cX7_drawn 11 = .ok (.invokevirtual 145, 3) := by decide +kernel
theorem dX7_drawn_14 : decode cX7_drawn 14 = .ok (.aload_n 0, 1) := by decide +kernel
theorem dX7_drawn_15 : decode cX7_drawn 15 = .ok (.aload_n 0, 1) := by decide +kernel
theorem dX7_drawn_16 : decode cX7_drawn 16 = .ok (.invokevirtual 151, 3) := by decide +kernel
theorem dX7_drawn_19 : decode cX7_drawn 19 = .ok (.invokevirtual 184, 3) := by decide +kernel
theorem dX7_drawn_22 : decode cX7_drawn 22 = .ok (.lstore_n 2, 1) := by decide +kernel
theorem dX7_drawn_23 : decode cX7_drawn 23 = .ok (.iconst 0, 1) := by decide +kernel
theorem dX7_drawn_24 : decode cX7_drawn 24 = .ok (.istore 4, 2) := by decide +kernel
theorem dX7_drawn_26 : decode cX7_drawn 26 = .ok (.lload_n 2, 1) := by decide +kernel
theorem dX7_drawn_27 : decode cX7_drawn 27 = .ok (.aload_n 0, 1) := by decide +kernel
theorem dX7_drawn_28 : decode cX7_drawn 28 = .ok (.iload 4, 2) := by decide +kernel
theorem dX7_drawn_30 : decode cX7_drawn 30 = .ok (.invokevirtual 138, 3) := by decide +kernel
theorem dX7_drawn_33 : decode cX7_drawn 33 = .ok (.lcmp, 1) := by decide +kernel
theorem dX7_drawn_34 : decode cX7_drawn 34 = .ok (.ifCond .lt 18, 3) := by decide +kernel
theorem dX7_drawn_37 : decode cX7_drawn 37 = .ok (.lload_n 2, 1) := by decide +kernel
theorem dX7_drawn_38 : decode cX7_drawn 38 = .ok (.aload_n 0, 1) := by decide +kernel
theorem dX7_drawn_39 : decode cX7_drawn 39 = .ok (.iload 4, 2) := by decide +kernel
theorem dX7_drawn_41 : decode cX7_drawn 41 = .ok (.invokevirtual 138, 3) := by decide +kernel
theorem dX7_drawn_44 : decode cX7_drawn 44 = .ok (.lsub, 1) := by decide +kernel
theorem dX7_drawn_45 : decode cX7_drawn 45 = .ok (.lstore_n 2, 1) := by decide +kernel
theorem dX7_drawn_46 : decode cX7_drawn 46 = .ok (.iinc 4 1, 3) := by decide +kernel
theorem dX7_drawn_49 : decode cX7_drawn 49 = .ok (.goto (-23), 3) := by decide +kernel
theorem dX7_drawn_52 : decode cX7_drawn 52 = .ok (.aload_n 0, 1) := by decide +kernel
theorem dX7_drawn_53 : decode cX7_drawn 53 = .ok (.iload 4, 2) := by decide +kernel
theorem dX7_drawn_55 : decode cX7_drawn 55 = .ok (.putfield 69, 3) := by decide +kernel
theorem dX7_drawn_58 : decode cX7_drawn 58 = .ok (.aload_n 0, 1) := by decide +kernel
theorem dX7_drawn_59 : decode cX7_drawn 59 = .ok (.getfield 69, 3) := by decide +kernel
theorem dX7_drawn_62 : decode cX7_drawn 62 = .ok (.ireturn, 1) := by decide +kernel
theorem dX7_isWay_0 : decode cX7_isWay 0 = .ok (.iload_n 1, 1) := by decide +kernel
theorem dX7_isWay_1 : decode cX7_isWay 1 = .ok (.istore_n 3, 1) := by decide +kernel
theorem dX7_isWay_2 : decode cX7_isWay 2 = .ok (.aload_n 0, 1) := by decide +kernel
theorem dX7_isWay_3 : decode cX7_isWay 3 = .ok (.getfield 7, 3) := by decide +kernel
theorem dX7_isWay_6 : decode cX7_isWay 6 = .ok (.iconst 1, 1) := by decide +kernel
theorem dX7_isWay_7 : decode cX7_isWay 7 = .ok (.isub, 1) := by decide +kernel
theorem dX7_isWay_8 : decode cX7_isWay 8 = .ok (.istore 4, 2) := by decide +kernel
theorem dX7_isWay_10 : decode cX7_isWay 10 = .ok (.iload 4, 2) := by decide +kernel
theorem dX7_isWay_12 : decode cX7_isWay 12 = .ok (.ifCond .lt 23, 3) := by decide +kernel
theorem dX7_isWay_15 : decode cX7_isWay 15 = .ok (.aload_n 0, 1) := by decide +kernel
theorem dX7_isWay_16 : decode cX7_isWay 16 = .ok (.getfield 53, 3) := by decide +kernel
theorem dX7_isWay_19 : decode cX7_isWay 19 = .ok (.iload 4, 2) := by decide +kernel
theorem dX7_isWay_21 : decode cX7_isWay 21 = .ok (.iload_n 3, 1) := by decide +kernel
theorem dX7_isWay_22 : decode cX7_isWay 22 = .ok (.iload_n 2, 1) := by decide +kernel
theorem dX7_isWay_23 : decode cX7_isWay 23 = .ok (.irem, 1) := by decide +kernel
theorem dX7_isWay_24 : decode cX7_isWay 24 = .ok (.iastore, 1) := by decide +kernel
theorem dX7_isWay_25 : decode cX7_isWay 25 = .ok (.iload_n 3, 1) := by decide +kernel
theorem dX7_isWay_26 : decode cX7_isWay 26 = .ok (.iload_n 2, 1) := by decide +kernel
theorem dX7_isWay_27 : decode cX7_isWay 27 = .ok (.idiv, 1) := by decide +kernel
theorem dX7_isWay_28 : decode cX7_isWay 28 = .ok (.istore_n 3, 1) := by decide +kernel
theorem dX7_isWay_29 : decode cX7_isWay 29 = .ok (.iinc 4 (-1), 3) := by decide +kernel
theorem dX7_isWay_32 : decode cX7_isWay 32 = .ok (.goto (-22), 3) := by decide +kernel
theorem dX7_isWay_35 : decode cX7_isWay 35 = .ok (.iconst 0, 1) := by decide +kernel
theorem dX7_isWay_36 : decode cX7_isWay 36 = .ok (.istore 4, 2) := by decide +kernel
theorem dX7_isWay_38 : decode cX7_isWay 38 = .ok (.iconst 1, 1) := by decide +kernel
theorem dX7_isWay_39 : decode cX7_isWay 39 = .ok (.istore 5, 2) := by decide +kernel
theorem dX7_isWay_41 : decode cX7_isWay 41 = .ok (.iconst 0, 1) := by decide +kernel
theorem dX7_isWay_42 : decode cX7_isWay 42 = .ok (.istore 6, 2) := by decide +kernel
theorem dX7_isWay_44 : decode cX7_isWay 44 = .ok (.iload 6, 2) := by decide +kernel
theorem dX7_isWay_46 : decode cX7_isWay 46 = .ok (.aload_n 0, 1) := by decide +kernel
theorem dX7_isWay_47 : decode cX7_isWay 47 = .ok (.getfield 7, 3) := by decide +kernel
theorem dX7_isWay_50 : decode cX7_isWay 50 = .ok (.if_icmp .ge 55, 3) := by decide +kernel
theorem dX7_isWay_53 : decode cX7_isWay 53 = .ok (.iload 5, 2) := by decide +kernel
theorem dX7_isWay_55 : decode cX7_isWay 55 = .ok (.ifCond .eq 19, 3) := by decide +kernel
theorem dX7_isWay_58 : decode cX7_isWay 58 = .ok (.aload_n 0, 1) := by decide +kernel
theorem dX7_isWay_59 : decode cX7_isWay 59 = .ok (.getfield 53, 3) := by decide +kernel
theorem dX7_isWay_62 : decode cX7_isWay 62 = .ok (.iload 6, 2) := by decide +kernel
theorem dX7_isWay_64 : decode cX7_isWay 64 = .ok (.iaload, 1) := by decide +kernel
theorem dX7_isWay_65 : decode cX7_isWay 65 = .ok (.iload 4, 2) := by decide +kernel
theorem dX7_isWay_67 : decode cX7_isWay 67 = .ok (.if_icmp .gt 7, 3) := by decide +kernel
theorem dX7_isWay_70 : decode cX7_isWay 70 = .ok (.iconst 1, 1) := by decide +kernel
theorem dX7_isWay_71 : decode cX7_isWay 71 = .ok (.goto 4, 3) := by decide +kernel
theorem dX7_isWay_74 : decode cX7_isWay 74 = .ok (.iconst 0, 1) := by decide +kernel
theorem dX7_isWay_75 : decode cX7_isWay 75 = .ok (.istore 5, 2) := by decide +kernel
theorem dX7_isWay_77 : decode cX7_isWay 77 = .ok (.iload 4, 2) := by decide +kernel
theorem dX7_isWay_79 : decode cX7_isWay 79 = .ok (.aload_n 0, 1) := by decide +kernel
theorem dX7_isWay_80 : decode cX7_isWay 80 = .ok (.getfield 53, 3) := by decide +kernel
theorem dX7_isWay_83 : decode cX7_isWay 83 = .ok (.iload 6, 2) := by decide +kernel
theorem dX7_isWay_85 : decode cX7_isWay 85 = .ok (.iaload, 1) := by decide +kernel
theorem dX7_isWay_86 : decode cX7_isWay 86 = .ok (.iload 4, 2) := by decide +kernel
theorem dX7_isWay_88 : decode cX7_isWay 88 = .ok (.if_icmp .ne 7, 3) := by decide +kernel
theorem dX7_isWay_91 : decode cX7_isWay 91 = .ok (.iconst 1, 1) := by decide +kernel
theorem dX7_isWay_92 : decode cX7_isWay 92 = .ok (.goto 4, 3) := by decide +kernel
theorem dX7_isWay_95 : decode cX7_isWay 95 = .ok (.iconst 0, 1) := by decide +kernel
theorem dX7_isWay_96 : decode cX7_isWay 96 = .ok (.iadd, 1) := by decide +kernel
theorem dX7_isWay_97 : decode cX7_isWay 97 = .ok (.istore 4, 2) := by decide +kernel
theorem dX7_isWay_99 : decode cX7_isWay 99 = .ok (.iinc 6 1, 3) := by decide +kernel
theorem dX7_isWay_102 : decode cX7_isWay 102 = .ok (.goto (-58), 3) := by decide +kernel
theorem dX7_isWay_105 : decode cX7_isWay 105 = .ok (.iload 5, 2) := by decide +kernel
theorem dX7_isWay_107 : decode cX7_isWay 107 = .ok (.ifCond .eq 13, 3) := by decide +kernel
theorem dX7_isWay_110 : decode cX7_isWay 110 = .ok (.iload 4, 2) := by decide +kernel
theorem dX7_isWay_112 : decode cX7_isWay 112 = .ok (.iload_n 2, 1) := by decide +kernel
theorem dX7_isWay_113 : decode cX7_isWay 113 = .ok (.if_icmp .ne 7, 3) := by decide +kernel
theorem dX7_isWay_116 : decode cX7_isWay 116 = .ok (.iconst 1, 1) := by decide +kernel
theorem dX7_isWay_117 : decode cX7_isWay 117 = .ok (.goto 4, 3) := by decide +kernel
theorem dX7_isWay_120 : decode cX7_isWay 120 = .ok (.iconst 0, 1) := by decide +kernel
theorem dX7_isWay_121 : decode cX7_isWay 121 = .ok (.ireturn, 1) := by decide +kernel
theorem dX7_choices_0 : decode cX7_choices 0 = .ok (.iconst 1, 1) := by decide +kernel
theorem dX7_choices_1 : decode cX7_choices 1 = .ok (.istore_n 2, 1) := by decide +kernel
theorem dX7_choices_2 : decode cX7_choices 2 = .ok (.iconst 1, 1) := by decide +kernel
theorem dX7_choices_3 : decode cX7_choices 3 = .ok (.istore_n 3, 1) := by decide +kernel
theorem dX7_choices_4 : decode cX7_choices 4 = .ok (.iload_n 3, 1) := by decide +kernel
theorem dX7_choices_5 : decode cX7_choices 5 = .ok (.iload_n 1, 1) := by decide +kernel
theorem dX7_choices_6 : decode cX7_choices 6 = .ok (.if_icmp .gt 19, 3) := by decide +kernel
theorem dX7_choices_9 : decode cX7_choices 9 = .ok (.iload_n 2, 1) := by decide +kernel
theorem dX7_choices_10 : decode cX7_choices 10 = .ok (.iload_n 0, 1) := by decide +kernel
theorem dX7_choices_11 : decode cX7_choices 11 = .ok (.iload_n 1, 1) := by decide +kernel
theorem dX7_choices_12 : decode cX7_choices 12 = .ok (.isub, 1) := by decide +kernel
theorem dX7_choices_13 : decode cX7_choices 13 = .ok (.iload_n 3, 1) := by decide +kernel
theorem dX7_choices_14 : decode cX7_choices 14 = .ok (.iadd, 1) := by decide +kernel
theorem dX7_choices_15 : decode cX7_choices 15 = .ok (.imul, 1) := by decide +kernel
theorem dX7_choices_16 : decode cX7_choices 16 = .ok (.iload_n 3, 1) := by decide +kernel
theorem dX7_choices_17 : decode cX7_choices 17 = .ok (.idiv, 1) := by decide +kernel
