set_option maxRecDepth 20000 in
theorem gX6_total_X6_isModel : GoodIn wsX6_total (va_wsS RX6 113 yX6_isModel wsX6_isModel) := goodIn_app (goodIn_of _ (by decide +kernel)) ggX6_total_X6_isModel
set_option maxRecDepth 20000 in
theorem ggX6_total_X5_prepare : GoodIn wsX6_total wsX5_prepare := goodIn_r _ [13, 14, 15, 16, 17, 18, 19, 20, 21, 22, 23, 24, 25, 26, 27, 28, 29, 30, 31, 32, 33, 12, 34, 35, 36, 37, 38, 39, 40, 41, 42, 43, 44, 45, 46, 47, 48, 49, 50, 51, 52, 53, 54, 55, 56, 57, 58, 59, 60, 61, 62, 63, 64, 65, 66, 67, 68, 69, 70, 71, 72, 143, 144, 145, 146, 147, 148, 149, 150, 151, 152, 153, 154, 155, 156, 157, 158, 159, 160, 161, 162] (by decide +kernel) (by decide +kernel)
set_option maxRecDepth 20000 in
theorem gX6_total_X5_prepare : GoodIn wsX6_total (wsV RX6 116 RX5 yX5_prepare wsX5_prepare) := goodIn_app (goodIn_of _ (by decide +kernel)) ggX6_total_X5_prepare
set_option maxRecDepth 20000 in
theorem ggX6_total_X6_sumOfWeights : GoodIn wsX6_total wsX6_sumOfWeights := goodIn_r _ [76, 77, 2, 78, 79, 80, 12, 81, 21, 22, 26, 20, 14, 41, 42, 43, 44, 45, 46, 47, 54, 55, 56, 57, 23, 82, 83, 84, 61, 85, 70, 71, 72, 86, 87, 88, 89, 63, 90, 91, 92, 93, 94, 95, 96, 97, 98, 18, 99, 100, 101, 102, 103, 29, 104, 105, 106, 49, 50, 51, 52, 53, 107, 108, 109, 110, 111, 112, 113, 114, 115, 116, 117, 118, 119, 120, 121, 122, 123, 124, 125, 126, 127, 128, 129, 130, 131, 132, 25, 24, 48, 133, 134, 135, 136, 137, 138, 139, 140, 141, 142, 143, 144, 145, 146, 147, 148, 149, 150, 151, 152, 153, 154, 158, 159, 160, 161, 162, 155, 156, 157] (by decide +kernel) (by decide +kernel)
set_option maxRecDepth 20000 in
theorem gX6_total_X6_sumOfWeights : GoodIn wsX6_total (wsV RX6 126 RX6 yX6_sumOfWeights wsX6_sumOfWeights) := goodIn_app (goodIn_of _ (by decide +kernel)) ggX6_total_X6_sumOfWeights
theorem dX6_total_0 : decode cX6_total 0 = .ok (.iload_n 1, 1) := by decide +kernel
theorem dX6_total_1 : decode cX6_total 1 = .ok (.invokestatic 113, 3) := by decide +kernel
theorem dX6_total_4 : decode cX6_total 4 = .ok (.ifCond .ne 7, 3) := by decide +kernel
theorem dX6_total_7 : decode cX6_total 7 = .ok (.ldc2_w 124, 3) := by decide +kernel
theorem dX6_total_10 : decode cX6_total 10 = .ok (.lreturn, 1) := by decide +kernel
theorem dX6_total_11 : decode cX6_total 11 = .ok (.aload_n 0, 1) := by decide +kernel
theorem dX6_total_12 : decode cX6_total 12 = .ok (.getfield 30, 3) := by decide +kernel
theorem dX6_total_15 : decode cX6_total 15 = .ok (.iload_n 1, 1) := by decide +kernel
theorem dX6_total_16 : decode cX6_total 16 = .ok (.aload_n 0, 1) := by decide +kernel
theorem dX6_total_17 : decode cX6_total 17 = .ok (.getfield 66, 3) := by decide +kernel
theorem dX6_total_20 : decode cX6_total 20 = .ok (.aload_n 0, 1) := by decide +kernel
theorem dX6_total_21 : decode cX6_total 21 = .ok (.getfield 59, 3) := by decide +kernel
theorem dX6_total_24 : decode cX6_total 24 = .ok (.invokevirtual 116, 3) := by decide +kernel
theorem dX6_total_27 : decode cX6_total 27 = .ok (.aload_n 0, 1) := by decide +kernel
theorem dX6_total_28 : decode cX6_total 28 = .ok (.invokevirtual 126, 3) := by decide +kernel
theorem dX6_total_31 : decode cX6_total 31 = .ok (.lreturn, 1) := by decide +kernel
set_option maxRecDepth 20000 in
theorem ggX6_odds_X6_isModel : GoodIn wsX6_odds wsX6_isModel := goodIn_r _ [10] (by decide +kernel) (by decide +kernel)
set_option maxRecDepth 20000 in
theorem gX6_odds_X6_isModel : GoodIn wsX6_odds (va_wsS RX6 113 yX6_isModel wsX6_isModel) := goodIn_app (goodIn_of _ (by decide +kernel)) ggX6_odds_X6_isModel
set_option maxRecDepth 20000 in
theorem ggX6_odds_X6_isThing : GoodIn wsX6_odds wsX6_isThing := goodIn_r _ [13] (by decide +kernel) (by decide +kernel)
set_option maxRecDepth 20000 in
theorem gX6_odds_X6_isThing : GoodIn wsX6_odds (va_wsS RX6 106 yX6_isThing wsX6_isThing) := goodIn_app (goodIn_of _ (by decide +kernel)) ggX6_odds_X6_isThing
set_option maxRecDepth 20000 in
theorem ggX6_odds_X6_isSideOrPart : GoodIn wsX6_odds wsX6_isSideOrPart := goodIn_r _ [16] (by decide +kernel) (by decide +kernel)
set_option maxRecDepth 20000 in
theorem gX6_odds_X6_isSideOrPart : GoodIn wsX6_odds (va_wsS RX6 130 yX6_isSideOrPart wsX6_isSideOrPart) := goodIn_app (goodIn_of _ (by decide +kernel)) ggX6_odds_X6_isSideOrPart
set_option maxRecDepth 20000 in
theorem ggX6_odds_X5_prepare : GoodIn wsX6_odds wsX5_prepare := goodIn_r _ [21, 22, 23, 24, 25, 26, 27, 28, 29, 30, 31, 32, 33, 34, 35, 36, 37, 38, 39, 40, 41, 20, 42, 43, 44, 45, 46, 47, 48, 49, 50, 51, 52, 53, 54, 55, 56, 57, 58, 59, 60, 61, 62, 63, 64, 65, 66, 67, 68, 69, 70, 71, 72, 73, 74, 75, 76, 77, 78, 79, 80, 154, 155, 156, 157, 158, 159, 160, 161, 162, 163, 164, 165, 166, 167, 168, 169, 170, 171, 172, 173] (by decide +kernel) (by decide +kernel)
set_option maxRecDepth 20000 in
theorem gX6_odds_X5_prepare : GoodIn wsX6_odds (wsV RX6 116 RX5 yX5_prepare wsX5_prepare) := goodIn_app (goodIn_of _ (by decide +kernel)) ggX6_odds_X5_prepare
set_option maxRecDepth 20000 in
theorem ggX6_odds_X3_makeRoom : GoodIn wsX6_odds wsX3_makeRoom := goodIn_r _ [70, 71, 72, 73, 74, 75, 76, 77, 78, 79, 69, 80, 169, 170, 171, 172, 173] (by decide +kernel) (by decide +kernel)
set_option maxRecDepth 20000 in
theorem gX6_odds_X3_makeRoom : GoodIn wsX6_odds (wsV RX6 133 RX3 yX3_makeRoom wsX3_makeRoom) := goodIn_app (goodIn_of _ (by decide +kernel)) ggX6_odds_X3_makeRoom
set_option maxRecDepth 20000 in
theorem ggX6_odds_X3_look : GoodIn wsX6_odds wsX3_look := goodIn_r _ [85, 78, 79, 69, 80, 86, 87, 88, 89, 71, 90, 91, 92, 93, 94, 95, 96, 97, 98, 26, 99, 100, 101, 102, 103, 37, 104, 105, 106, 57, 58, 59, 60, 61, 50, 51, 52, 53, 54, 55, 107, 108, 109, 110, 111, 112, 113, 114, 115, 116, 117, 118, 119, 120, 121, 122, 123, 124, 125, 126, 127, 128, 169, 170, 171, 172, 173, 166, 167, 168] (by decide +kernel) (by decide +kernel)
set_option maxRecDepth 20000 in
theorem gX6_odds_X3_look : GoodIn wsX6_odds (wsV RX6 136 RX3 yX3_look wsX3_look) := goodIn_app (goodIn_of _ (by decide +kernel)) ggX6_odds_X3_look
set_option maxRecDepth 20000 in
theorem ggX6_odds_X5_of : GoodIn wsX6_odds wsX5_of := goodIn_r _ [132, 29, 30, 34, 28, 22, 49, 50, 51, 52, 53, 54, 55, 62, 63, 64, 20, 65, 31, 133, 83, 84, 69, 85, 78, 79, 80, 86, 87, 88, 89, 71, 90, 91, 92, 93, 94, 95, 96, 97, 98, 26, 99, 100, 101, 102, 103, 37, 104, 105, 106, 57, 58, 59, 60, 61, 107, 108, 109, 110, 111, 112, 113, 114, 115, 116, 117, 118, 119, 120, 121, 122, 123, 124, 125, 126, 127, 128, 134, 135, 136, 137, 33, 32, 56, 154, 155, 156, 157, 158, 159, 160, 161, 162, 163, 164, 165, 169, 170, 171, 172, 173, 166, 167, 168] (by decide +kernel) (by decide +kernel)
set_option maxRecDepth 20000 in
theorem gX6_odds_X5_of : GoodIn wsX6_odds (wsV RX6 120 RX5 yX5_of wsX5_of) := goodIn_app (goodIn_of _ (by decide +kernel)) ggX6_odds_X5_of
set_option maxRecDepth 20000 in
theorem ggX6_odds_X6_tell : GoodIn wsX6_odds wsX6_tell := goodIn_r _ [140, 141, 142, 9, 143] (by decide +kernel) (by decide +kernel)
set_option maxRecDepth 20000 in
theorem gX6_odds_X6_tell : GoodIn wsX6_odds (va_wsS RX6 139 yX6_tell wsX6_tell) := goodIn_app (goodIn_of _ (by decide +kernel)) ggX6_odds_X6_tell
theorem dX6_odds_0 : decode cX6_odds 0 = .ok (.iload_n 1, 1) := by decide +kernel
theorem dX6_odds_1 : decode cX6_odds 1 = .ok (.invokestatic 113, 3) := by decide +kernel
theorem dX6_odds_4 : decode cX6_odds 4 = .ok (.ifCond .eq 25, 3) := by decide +kernel
theorem dX6_odds_7 : decode cX6_odds 7 = .ok (.iload_n 2, 1) := by decide +kernel
theorem dX6_odds_8 : decode cX6_odds 8 = .ok (.invokestatic 106, 3) := by decide +kernel
theorem dX6_odds_11 : decode cX6_odds 11 = .ok (.ifCond .eq 18, 3) := by decide +kernel
theorem dX6_odds_14 : decode cX6_odds 14 = .ok (.iload_n 3, 1) := by decide +kernel
theorem dX6_odds_15 : decode cX6_odds 15 = .ok (.invokestatic 130, 3) := by decide +kernel
theorem dX6_odds_18 : decode cX6_odds 18 = .ok (.ifCond .eq 11, 3) := by decide +kernel
theorem dX6_odds_21 : decode cX6_odds 21 = .ok (.iload 4, 2) := by decide +kernel
theorem dX6_odds_23 : decode cX6_odds 23 = .ok (.invokestatic 130, 3) := by decide +kernel
theorem dX6_odds_26 : decode cX6_odds 26 = .ok (.ifCond .ne 7, 3) := by decide +kernel
theorem dX6_odds_29 : decode cX6_odds 29 = .ok (.ldc2_w 124, 3) := by decide +kernel
theorem dX6_odds_32 : decode cX6_odds 32 = .ok (.lreturn, 1) := by decide +kernel
theorem dX6_odds_33 : decode cX6_odds 33 = .ok (.aload_n 0, 1) := by decide +kernel
theorem dX6_odds_34 : decode cX6_odds 34 = .ok (.getfield 30, 3) := by decide +kernel
theorem dX6_odds_37 : decode cX6_odds 37 = .ok (.iload_n 1, 1) := by decide +kernel
theorem dX6_odds_38 : decode cX6_odds 38 = .ok (.aload_n 0, 1) := by decide +kernel
theorem dX6_odds_39 : decode cX6_odds 39 = .ok (.getfield 66, 3) := by decide +kernel
theorem dX6_odds_42 : decode cX6_odds 42 = .ok (.aload_n 0, 1) := by decide +kernel
theorem dX6_odds_43 : decode cX6_odds 43 = .ok (.getfield 59, 3) := by decide +kernel
theorem dX6_odds_46 : decode cX6_odds 46 = .ok (.invokevirtual 116, 3) := by decide +kernel
theorem dX6_odds_49 : decode cX6_odds 49 = .ok (.aload_n 0, 1) := by decide +kernel
theorem dX6_odds_50 : decode cX6_odds 50 = .ok (.getfield 21, 3) := by decide +kernel
theorem dX6_odds_53 : decode cX6_odds 53 = .ok (.iload_n 2, 1) := by decide +kernel
theorem dX6_odds_54 : decode cX6_odds 54 = .ok (.aload_n 0, 1) := by decide +kernel
theorem dX6_odds_55 : decode cX6_odds 55 = .ok (.getfield 63, 3) := by decide +kernel
theorem dX6_odds_58 : decode cX6_odds 58 = .ok (.invokevirtual 133, 3) := by decide +kernel
theorem dX6_odds_61 : decode cX6_odds 61 = .ok (.aload_n 0, 1) := by decide +kernel
theorem dX6_odds_62 : decode cX6_odds 62 = .ok (.getfield 21, 3) := by decide +kernel
theorem dX6_odds_65 : decode cX6_odds 65 = .ok (.iload_n 2, 1) := by decide +kernel
theorem dX6_odds_66 : decode cX6_odds 66 = .ok (.aload_n 0, 1) := by decide +kernel
theorem dX6_odds_67 : decode cX6_odds 67 = .ok (.getfield 66, 3) := by decide +kernel
theorem dX6_odds_70 : decode cX6_odds 70 = .ok (.aload_n 0, 1) := by decide +kernel
theorem dX6_odds_71 : decode cX6_odds 71 = .ok (.getfield 59, 3) := by decide +kernel
theorem dX6_odds_74 : decode cX6_odds 74 = .ok (.invokevirtual 136, 3) := by decide +kernel
theorem dX6_odds_77 : decode cX6_odds 77 = .ok (.istore 5, 2) := by decide +kernel
theorem dX6_odds_79 : decode cX6_odds 79 = .ok (.lconst 0, 1) := by decide +kernel
theorem dX6_odds_80 : decode cX6_odds 80 = .ok (.lstore 6, 2) := by decide +kernel
theorem dX6_odds_82 : decode cX6_odds 82 = .ok (.lconst 0, 1) := by decide +kernel
theorem dX6_odds_83 : decode cX6_odds 83 = .ok (.lstore 8, 2) := by decide +kernel
theorem dX6_odds_85 : decode cX6_odds 85 = .ok (.iconst 0, 1) := by decide +kernel
theorem dX6_odds_86 : decode cX6_odds 86 = .ok (.istore 10, 2) := by decide +kernel
theorem dX6_odds_88 : decode cX6_odds 88 = .ok (.iload 10, 2) := by decide +kernel
theorem dX6_odds_90 : decode cX6_odds 90 = .ok (.aload_n 0, 1) := by decide +kernel
theorem dX6_odds_91 : decode cX6_odds 91 = .ok (.getfield 63, 3) := by decide +kernel
theorem dX6_odds_94 : decode cX6_odds 94 = .ok (.if_icmp .ge 82, 3) := by decide +kernel
theorem dX6_odds_97 : decode cX6_odds 97 = .ok (.aload_n 0, 1) := by decide +kernel
theorem dX6_odds_98 : decode cX6_odds 98 = .ok (.getfield 30, 3) := by decide +kernel
theorem dX6_odds_101 : decode cX6_odds 101 = .ok (.iload 10, 2) := by decide +kernel
theorem dX6_odds_103 : decode cX6_odds 103 = .ok (.invokevirtual 120, 3) := by decide +kernel
theorem dX6_odds_106 : decode cX6_odds 106 = .ok (.lstore 11, 2) := by decide +kernel
theorem dX6_odds_108 : decode cX6_odds 108 = .ok (.lload 11, 2) := by decide +kernel
theorem dX6_odds_110 : decode cX6_odds 110 = .ok (.lconst 0, 1) := by decide +kernel
theorem dX6_odds_111 : decode cX6_odds 111 = .ok (.lcmp, 1) := by decide +kernel
theorem dX6_odds_112 : decode cX6_odds 112 = .ok (.ifCond .le 58, 3) := by decide +kernel
theorem dX6_odds_115 : decode cX6_odds 115 = .ok (.aload_n 0, 1) := by decide +kernel
theorem dX6_odds_116 : decode cX6_odds 116 = .ok (.getfield 21, 3) := by decide +kernel
theorem dX6_odds_119 : decode cX6_odds 119 = .ok (.iload_n 2, 1) := by decide +kernel
theorem dX6_odds_120 : decode cX6_odds 120 = .ok (.iload 10, 2) := by decide +kernel
theorem dX6_odds_122 : decode cX6_odds 122 = .ok (.aload_n 0, 1) := by decide +kernel
theorem dX6_odds_123 : decode cX6_odds 123 = .ok (.getfield 59, 3) := by decide +kernel
theorem dX6_odds_126 : decode cX6_odds 126 = .ok (.invokevirtual 136, 3) := by decide +kernel
theorem dX6_odds_129 : decode cX6_odds 129 = .ok (.istore 13, 2) := by decide +kernel
theorem dX6_odds_131 : decode cX6_odds 131 = .ok (.lload 8, 2) := by decide +kernel
theorem dX6_odds_133 : decode cX6_odds 133 = .ok (.lload 11, 2) := by decide +kernel
theorem dX6_odds_135 : decode cX6_odds 135 = .ok (.ladd, 1) := by decide +kernel
theorem dX6_odds_136 : decode cX6_odds 136 = .ok (.lstore 8, 2) := by decide +kernel
theorem dX6_odds_138 : decode cX6_odds 138 = .ok (.lload 6, 2) := by decide +kernel
theorem dX6_odds_140 : decode cX6_odds 140 = .ok (.iload_n 3, 1) := by decide +kernel
theorem dX6_odds_141 : decode cX6_odds 141 = .ok (.ifCond .ne 13, 3) := by decide +kernel
theorem dX6_odds_144 : decode cX6_odds 144 = .ok (.iload 13, 2) := by decide +kernel
theorem dX6_odds_146 : decode cX6_odds 146 = .ok (.iload 5, 2) := by decide +kernel
theorem dX6_odds_148 : decode cX6_odds 148 = .ok (.if_icmp .lt 18, 3) := by decide +kernel
theorem dX6_odds_151 : decode cX6_odds 151 = .ok (.goto 10, 3) := by decide +kernel
theorem dX6_odds_154 : decode cX6_odds 154 = .ok (.iload 13, 2) := by decide +kernel
theorem dX6_odds_156 : decode cX6_odds 156 = .ok (.iload 5, 2) := by decide +kernel
theorem dX6_odds_158 : decode cX6_odds 158 = .ok (.if_icmp .gt 8, 3) := by decide +kernel
theorem dX6_odds_161 : decode cX6_odds 161 = .ok (.lload 11, 2) := by decide +kernel
theorem dX6_odds_163 : decode cX6_odds 163 = .ok (.goto 4, 3) := by decide +kernel
theorem dX6_odds_166 : decode cX6_odds 166 = .ok (.lconst 0, 1) := by decide +kernel
theorem dX6_odds_167 : decode cX6_odds 167 = .ok (.ladd, 1) := by decide +kernel
theorem dX6_odds_168 : decode cX6_odds 168 = .ok (.lstore 6, 2) := by decide +kernel
theorem dX6_odds_170 : decode cX6_odds 170 = .ok (.iinc 10 1, 3) := by decide +kernel
theorem dX6_odds_173 : decode cX6_odds 173 = .ok (.goto (-85), 3) := by decide +kernel
theorem dX6_odds_176 : decode cX6_odds 176 = .ok (.lload 6, 2) := by decide +kernel
theorem dX6_odds_178 : decode cX6_odds 178 = .ok (.lload 8, 2) := by decide +kernel
theorem dX6_odds_180 : decode cX6_odds 180 = .ok (.iload 4, 2) := by decide +kernel
theorem dX6_odds_182 : decode cX6_odds 182 = .ok (.invokestatic 139, 3) := by decide +kernel
theorem dX6_odds_185 : decode cX6_odds 185 = .ok (.lreturn, 1) := by decide +kernel
set_option maxRecDepth 20000 in
theorem ggX6_mean_X6_isModel : GoodIn wsX6_mean wsX6_isModel := goodIn_r _ [10] (by decide +kernel) (by decide +kernel)
set_option maxRecDepth 20000 in
theorem gX6_mean_X6_isModel : GoodIn wsX6_mean (va_wsS RX6 113 yX6_isModel wsX6_isModel) := goodIn_app (goodIn_of _ (by decide +kernel)) ggX6_mean_X6_isModel
set_option maxRecDepth 20000 in
theorem ggX6_mean_X6_isThing : GoodIn wsX6_mean wsX6_isThing := goodIn_r _ [13] (by decide +kernel) (by decide +kernel)
set_option maxRecDepth 20000 in
theorem gX6_mean_X6_isThing : GoodIn wsX6_mean (va_wsS RX6 106 yX6_isThing wsX6_isThing) := goodIn_app (goodIn_of _ (by decide +kernel)) ggX6_mean_X6_isThing
set_option maxRecDepth 20000 in
theorem ggX6_mean_X6_isSideOrPart : GoodIn wsX6_mean wsX6_isSideOrPart := goodIn_r _ [16] (by decide +kernel) (by decide +kernel)
set_option maxRecDepth 20000 in
theorem gX6_mean_X6_isSideOrPart : GoodIn wsX6_mean (va_wsS RX6 130 yX6_isSideOrPart wsX6_isSideOrPart) := goodIn_app (goodIn_of _ (by decide +kernel)) ggX6_mean_X6_isSideOrPart
set_option maxRecDepth 20000 in
theorem ggX6_mean_X5_prepare : GoodIn wsX6_mean wsX5_prepare := goodIn_r _ [21, 22, 23, 24, 25, 26, 27, 28, 29, 30, 31, 32, 33, 34, 35, 36, 37, 38, 39, 40, 41, 20, 42, 43, 44, 45, 46, 47, 48, 49, 50, 51, 52, 53, 54, 55, 56, 57, 58, 59, 60, 61, 62, 63, 64, 65, 66, 67, 68, 69, 70, 71, 72, 73, 74, 75, 76, 77, 78, 79, 80, 154, 155, 156, 157, 158, 159, 160, 161, 162, 163, 164, 165, 166, 167, 168, 169, 170, 171, 172, 173] (by decide +kernel) (by decide +kernel)
set_option maxRecDepth 20000 in
theorem gX6_mean_X5_prepare : GoodIn wsX6_mean (wsV RX6 116 RX5 yX5_prepare wsX5_prepare) := goodIn_app (goodIn_of _ (by decide +kernel)) ggX6_mean_X5_prepare
set_option maxRecDepth 20000 in
theorem ggX6_mean_X3_makeRoom : GoodIn wsX6_mean wsX3_makeRoom := goodIn_r _ [70, 71, 72, 73, 74, 75, 76, 77, 78, 79, 69, 80, 169, 170, 171, 172, 173] (by decide +kernel) (by decide +kernel)
set_option maxRecDepth 20000 in
theorem gX6_mean_X3_makeRoom : GoodIn wsX6_mean (wsV RX6 133 RX3 yX3_makeRoom wsX3_makeRoom) := goodIn_app (goodIn_of _ (by decide +kernel)) ggX6_mean_X3_makeRoom
set_option maxRecDepth 20000 in
theorem ggX6_mean_X5_of : GoodIn wsX6_mean wsX5_of := goodIn_r _ [85, 29, 30, 34, 28, 22, 49, 50, 51, 52, 53, 54, 55, 62, 63, 64, 20, 65, 31, 86, 87, 88, 69, 89, 78, 79, 80, 90, 91, 92, 93, 71, 94, 95, 96, 97, 98, 99, 100, 101, 102, 26, 103, 104, 105, 106, 107, 37, 108, 109, 110, 57, 58, 59, 60, 61, 111, 112, 113, 114, 115, 116, 117, 118, 119, 120, 121, 122, 123, 124, 125, 126, 127, 128, 129, 130, 131, 132, 133, 134, 135, 136, 33, 32, 56, 154, 155, 156, 157, 158, 159, 160, 161, 162, 163, 164, 165, 169, 170, 171, 172, 173, 166, 167, 168] (by decide +kernel) (by decide +kernel)
set_option maxRecDepth 20000 in
theorem gX6_mean_X5_of : GoodIn wsX6_mean (wsV RX6 120 RX5 yX5_of wsX5_of) := goodIn_app (goodIn_of _ (by decide +kernel)) ggX6_mean_X5_of
set_option maxRecDepth 20000 in
theorem ggX6_mean_X3_look : GoodIn wsX6_mean wsX3_look := goodIn_r _ [89, 78, 79, 69, 80, 90, 91, 92, 93, 71, 94, 95, 96, 97, 98, 99, 100, 101, 102, 26, 103, 104, 105, 106, 107, 37, 108, 109, 110, 57, 58, 59, 60, 61, 50, 51, 52, 53, 54, 55, 111, 112, 113, 114, 115, 116, 117, 118, 119, 120, 121, 122, 123, 124, 125, 126, 127, 128, 129, 130, 131, 132, 169, 170, 171, 172, 173, 166, 167, 168] (by decide +kernel) (by decide +kernel)
set_option maxRecDepth 20000 in
theorem gX6_mean_X3_look : GoodIn wsX6_mean (wsV RX6 136 RX3 yX3_look wsX3_look) := goodIn_app (goodIn_of _ (by decide +kernel)) ggX6_mean_X3_look
set_option maxRecDepth 20000 in
theorem ggX6_mean_X6_tell : GoodIn wsX6_mean wsX6_tell := goodIn_r _ [140, 141, 142, 9, 143] (by decide +kernel) (by decide +kernel)
set_option maxRecDepth 20000 in
theorem gX6_mean_X6_tell : GoodIn wsX6_mean (va_wsS RX6 139 yX6_tell wsX6_tell) := goodIn_app (goodIn_of _ (by decide +kernel)) ggX6_mean_X6_tell
theorem dX6_mean_0 : decode cX6_mean 0 = .ok (.iload_n 1, 1) := by decide +kernel
theorem dX6_mean_1 : decode cX6_mean 1 = .ok (.invokestatic 113, 3) := by decide +kernel
theorem dX6_mean_4 : decode cX6_mean 4 = .ok (.ifCond .eq 17, 3) := by decide +kernel
theorem dX6_mean_7 : decode cX6_mean 7 = .ok (.iload_n 2, 1) := by decide +kernel
theorem dX6_mean_8 : decode cX6_mean 8 = .ok (.invokestatic 106, 3) := by decide +kernel
theorem dX6_mean_11 : decode cX6_mean 11 = .ok (.ifCond .eq 10, 3) := by decide +kernel
theorem dX6_mean_14 : decode cX6_mean 14 = .ok (.iload_n 3, 1) := by decide +kernel
theorem dX6_mean_15 : decode cX6_mean 15 = .ok (.invokestatic 130, 3) := by decide +kernel
theorem dX6_mean_18 : decode cX6_mean 18 = .ok (.ifCond .ne 7, 3) := by decide +kernel
theorem dX6_mean_21 : decode cX6_mean 21 = .ok (.ldc2_w 124, 3) := by decide +kernel
theorem dX6_mean_24 : decode cX6_mean 24 = .ok (.lreturn, 1) := by decide +kernel
theorem dX6_mean_25 : decode cX6_mean 25 = .ok (.aload_n 0, 1) := by decide +kernel
theorem dX6_mean_26 : decode cX6_mean 26 = .ok (.getfield 30, 3) := by decide +kernel
theorem dX6_mean_29 : decode cX6_mean 29 = .ok (.iload_n 1, 1) := by decide +kernel
theorem dX6_mean_30 : decode cX6_mean 30 = .ok (.aload_n 0, 1) := by decide +kernel
theorem dX6_mean_31 : decode cX6_mean 31 = .ok (.getfield 66, 3) := by decide +kernel
theorem dX6_mean_34 : decode cX6_mean 34 = .ok (.aload_n 0, 1) := by decide +kernel
theorem dX6_mean_35 : decode cX6_mean 35 = .ok (.getfield 59, 3) := by decide +kernel
theorem dX6_mean_38 : decode cX6_mean 38 = .ok (.invokevirtual 116, 3) := by decide +kernel
theorem dX6_mean_41 : decode cX6_mean 41 = .ok (.aload_n 0, 1) := by decide +kernel
theorem dX6_mean_42 : decode cX6_mean 42 = .ok (.getfield 21, 3) := by decide +kernel
theorem dX6_mean_45 : decode cX6_mean 45 = .ok (.iload_n 2, 1) := by decide +kernel
theorem dX6_mean_46 : decode cX6_mean 46 = .ok (.aload_n 0, 1) := by decide +kernel
theorem dX6_mean_47 : decode cX6_mean 47 = .ok (.getfield 63, 3) := by decide +kernel
theorem dX6_mean_50 : decode cX6_mean 50 = .ok (.invokevirtual 133, 3) := by decide +kernel
theorem dX6_mean_53 : decode cX6_mean 53 = .ok (.lconst 0, 1) := by decide +kernel
theorem dX6_mean_54 : decode cX6_mean 54 = .ok (.lstore 4, 2) := by decide +kernel
theorem dX6_mean_56 : decode cX6_mean 56 = .ok (.lconst 0, 1) := by decide +kernel
theorem dX6_mean_57 : decode cX6_mean 57 = .ok (.lstore 6, 2) := by decide +kernel
theorem dX6_mean_59 : decode cX6_mean 59 = .ok (.iconst 0, 1) := by decide +kernel
theorem dX6_mean_60 : decode cX6_mean 60 = .ok (.istore 8, 2) := by decide +kernel
theorem dX6_mean_62 : decode cX6_mean 62 = .ok (.iload 8, 2) := by decide +kernel
theorem dX6_mean_64 : decode cX6_mean 64 = .ok (.aload_n 0, 1) := by decide +kernel
theorem dX6_mean_65 : decode cX6_mean 65 = .ok (.getfield 63, 3) := by decide +kernel
theorem dX6_mean_68 : decode cX6_mean 68 = .ok (.if_icmp .ge 57, 3) := by decide +kernel
theorem dX6_mean_71 : decode cX6_mean 71 = .ok (.aload_n 0, 1) := by decide +kernel
theorem dX6_mean_72 : decode cX6_mean 72 = .ok (.getfield 30, 3) := by decide +kernel
theorem dX6_mean_75 : decode cX6_mean 75 = .ok (.iload 8, 2) := by decide +kernel
theorem dX6_mean_77 : decode cX6_mean 77 = .ok (.invokevirtual 120, 3) := by decide +kernel
theorem dX6_mean_80 : decode cX6_mean 80 = .ok (.lstore 9, 2) := by decide +kernel
theorem dX6_mean_82 : decode cX6_mean 82 = .ok (.lload 9, 2) := by decide +kernel
theorem dX6_mean_84 : decode cX6_mean 84 = .ok (.lconst 0, 1) := by decide +kernel
theorem dX6_mean_85 : decode cX6_mean 85 = .ok (.lcmp, 1) := by decide +kernel
theorem dX6_mean_86 : decode cX6_mean 86 = .ok (.ifCond .le 33, 3) := by decide +kernel
theorem dX6_mean_89 : decode cX6_mean 89 = .ok (.lload 6, 2) := by decide +kernel
theorem dX6_mean_91 : decode cX6_mean 91 = .ok (.lload 9, 2) := by decide +kernel
theorem dX6_mean_93 : decode cX6_mean 93 = .ok (.ladd, 1) := by decide +kernel
theorem dX6_mean_94 : decode cX6_mean 94 = .ok (.lstore 6, 2) := by decide +kernel
theorem dX6_mean_96 : decode cX6_mean 96 = .ok (.lload 4, 2) := by decide +kernel
theorem dX6_mean_98 : decode cX6_mean 98 = .ok (.lload 9, 2) := by decide +kernel
theorem dX6_mean_100 : decode cX6_mean 100 = .ok (.aload_n 0, 1) := by decide +kernel
theorem dX6_mean_101 : decode cX6_mean 101 = .ok (.getfield 21, 3) := by decide +kernel
theorem dX6_mean_104 : decode cX6_mean 104 = .ok (.iload_n 2, 1) := by decide +kernel
theorem dX6_mean_105 : decode cX6_mean 105 = .ok (.iload 8, 2) := by decide +kernel
theorem dX6_mean_107 : decode cX6_mean 107 = .ok (.aload_n 0, 1) := by decide +kernel
theorem dX6_mean_108 : decode cX6_mean 108 = .ok (.getfield 59, 3) := by decide +kernel
theorem dX6_mean_111 : decode cX6_mean 111 = .ok (.invokevirtual 136, 3) := by decide +kernel
theorem dX6_mean_114 : decode cX6_mean 114 = .ok (.i2l, 1) := by decide +kernel
theorem dX6_mean_115 : decode cX6_mean 115 = .ok (.lmul, 1) := by decide +kernel
theorem dX6_mean_116 : decode cX6_mean 116 = .ok (.ladd, 1) := by decide +kernel
theorem dX6_mean_117 : decode cX6_mean 117 = .ok (.lstore 4, 2) := by decide +kernel
theorem dX6_mean_119 : decode cX6_mean 119 = .ok (.iinc 8 1, 3) := by decide +kernel
theorem dX6_mean_122 : decode cX6_mean 122 = .ok (.goto (-60), 3) := by decide +kernel
theorem dX6_mean_125 : decode cX6_mean 125 = .ok (.lload 4, 2) := by decide +kernel
theorem dX6_mean_127 : decode cX6_mean 127 = .ok (.lload 6, 2) := by decide +kernel
theorem dX6_mean_129 : decode cX6_mean 129 = .ok (.iload_n 3, 1) := by decide +kernel
theorem dX6_mean_130 : decode cX6_mean 130 = .ok (.invokestatic 139, 3) := by decide +kernel
theorem dX6_mean_133 : decode cX6_mean 133 = .ok (.lreturn, 1) := by decide +kernel
set_option maxRecDepth 20000 in
theorem ggX6_pair_X6_isModel : GoodIn wsX6_pair wsX6_isModel := goodIn_r _ [9] (by decide +kernel) (by decide +kernel)
set_option maxRecDepth 20000 in
theorem gX6_pair_X6_isModel : GoodIn wsX6_pair (va_wsS RX6 113 yX6_isModel wsX6_isModel) := goodIn_app (goodIn_of _ (by decide +kernel)) ggX6_pair_X6_isModel
set_option maxRecDepth 20000 in
theorem ggX6_pair_X6_isPair : GoodIn wsX6_pair wsX6_isPair := goodIn_r _ [13, 14, 15, 16, 8, 17, 4, 150, 151, 152, 153, 154, 155, 156, 157, 158, 159] (by decide +kernel) (by decide +kernel)
set_option maxRecDepth 20000 in
theorem gX6_pair_X6_isPair : GoodIn wsX6_pair (wsV RX6 84 RX6 yX6_isPair wsX6_isPair) := goodIn_app (goodIn_of _ (by decide +kernel)) ggX6_pair_X6_isPair
set_option maxRecDepth 20000 in
theorem ggX6_pair_X6_isSideOrPart : GoodIn wsX6_pair wsX6_isSideOrPart := goodIn_r _ [20] (by decide +kernel) (by decide +kernel)
set_option maxRecDepth 20000 in
theorem gX6_pair_X6_isSideOrPart : GoodIn wsX6_pair (va_wsS RX6 130 yX6_isSideOrPart wsX6_isSideOrPart) := goodIn_app (goodIn_of _ (by decide +kernel)) ggX6_pair_X6_isSideOrPart
set_option maxRecDepth 20000 in
theorem ggX6_pair_X5_prepare : GoodIn wsX6_pair wsX5_prepare := goodIn_r _ [25, 26, 27, 28, 29, 30, 31, 32, 33, 34, 35, 36, 37, 38, 39, 40, 41, 42, 43, 44, 45, 24, 46, 47, 48, 49, 50, 51, 52, 53, 54, 55, 56, 57, 58, 59, 60, 61, 62, 63, 64, 65, 66, 67, 68, 69, 70, 71, 72, 73, 74, 75, 76, 77, 78, 79, 80, 81, 82, 83, 84, 160, 161, 162, 163, 164, 165, 166, 167, 168, 169, 170, 171, 172, 173, 174, 175, 176, 177, 178, 179] (by decide +kernel) (by decide +kernel)
set_option maxRecDepth 20000 in
theorem gX6_pair_X5_prepare : GoodIn wsX6_pair (wsV RX6 116 RX5 yX5_prepare wsX5_prepare) := goodIn_app (goodIn_of _ (by decide +kernel)) ggX6_pair_X5_prepare
set_option maxRecDepth 20000 in
theorem ggX6_pair_X1_indexOf : GoodIn wsX6_pair wsX1_indexOf := goodIn_r _ [87, 88, 40, 41, 42] (by decide +kernel) (by decide +kernel)
set_option maxRecDepth 20000 in
theorem gX6_pair_X1_indexOf : GoodIn wsX6_pair (va_wsS RX6 88 yX1_indexOf wsX1_indexOf) := goodIn_app (goodIn_of _ (by decide +kernel)) ggX6_pair_X1_indexOf
set_option maxRecDepth 20000 in
theorem ggX6_pair_X5_of : GoodIn wsX6_pair wsX5_of := goodIn_r _ [92, 33, 34, 38, 32, 26, 53, 54, 55, 56, 57, 58, 59, 66, 67, 68, 24, 69, 35, 93, 94, 95, 73, 96, 82, 83, 84, 97, 98, 99, 100, 75, 101, 102, 103, 104, 105, 106, 107, 108, 109, 30, 110, 111, 112, 113, 114, 41, 115, 116, 117, 61, 62, 63, 64, 65, 118, 119, 120, 121, 122, 123, 124, 125, 126, 127, 128, 129, 130, 131, 132, 133, 134, 135, 136, 137, 138, 139, 140, 141, 142, 143, 37, 36, 60, 160, 161, 162, 163, 164, 165, 166, 167, 168, 169, 170, 171, 175, 176, 177, 178, 179, 172, 173, 174] (by decide +kernel) (by decide +kernel)
set_option maxRecDepth 20000 in
theorem gX6_pair_X5_of : GoodIn wsX6_pair (wsV RX6 120 RX5 yX5_of wsX5_of) := goodIn_app (goodIn_of _ (by decide +kernel)) ggX6_pair_X5_of
set_option maxRecDepth 20000 in
theorem ggX6_pair_X6_tell : GoodIn wsX6_pair wsX6_tell := goodIn_r _ [146, 147, 148, 8, 149] (by decide +kernel) (by decide +kernel)
set_option maxRecDepth 20000 in
theorem gX6_pair_X6_tell : GoodIn wsX6_pair (va_wsS RX6 139 yX6_tell wsX6_tell) := goodIn_app (goodIn_of _ (by decide +kernel)) ggX6_pair_X6_tell
theorem dX6_pair_0 : decode cX6_pair 0 = .ok (.iload_n 1, 1) := by decide +kernel
theorem dX6_pair_1 : decode cX6_pair 1 = .ok (.invokestatic 113, 3) := by decide +kernel
theorem dX6_pair_4 : decode cX6_pair 4 = .ok (.ifCond .eq 20, 3) := by decide +kernel
theorem dX6_pair_7 : decode cX6_pair 7 = .ok (.aload_n 0, 1) := by decide +kernel
theorem dX6_pair_8 : decode cX6_pair 8 = .ok (.iload_n 2, 1) := by decide +kernel
theorem dX6_pair_9 : decode cX6_pair 9 = .ok (.iload_n 3, 1) := by decide +kernel
theorem dX6_pair_10 : decode cX6_pair 10 = .ok (.invokevirtual 84, 3) := by decide +kernel
theorem dX6_pair_13 : decode cX6_pair 13 = .ok (.ifCond .eq 11, 3) := by decide +kernel
theorem dX6_pair_16 : decode cX6_pair 16 = .ok (.iload 4, 2) := by decide +kernel
theorem dX6_pair_18 : decode cX6_pair 18 = .ok (.invokestatic 130, 3) := by decide +kernel
theorem dX6_pair_21 : decode cX6_pair 21 = .ok (.ifCond .ne 7, 3) := by decide +kernel
theorem dX6_pair_24 : decode cX6_pair 24 = .ok (.ldc2_w 124, 3) := by decide +kernel
theorem dX6_pair_27 : decode cX6_pair 27 = .ok (.lreturn, 1) := by decide +kernel
theorem dX6_pair_28 : decode cX6_pair 28 = .ok (.aload_n 0, 1) := by decide +kernel
theorem dX6_pair_29 : decode cX6_pair 29 = .ok (.getfield 30, 3) := by decide +kernel
theorem dX6_pair_32 : decode cX6_pair 32 = .ok (.iload_n 1, 1) := by decide +kernel
theorem dX6_pair_33 : decode cX6_pair 33 = .ok (.aload_n 0, 1) := by decide +kernel
theorem dX6_pair_34 : decode cX6_pair 34 = .ok (.getfield 66, 3) := by decide +kernel
theorem dX6_pair_37 : decode cX6_pair 37 = .ok (.aload_n 0, 1) := by decide +kernel
theorem dX6_pair_38 : decode cX6_pair 38 = .ok (.getfield 59, 3) := by decide +kernel
theorem dX6_pair_41 : decode cX6_pair 41 = .ok (.invokevirtual 116, 3) := by decide +kernel
theorem dX6_pair_44 : decode cX6_pair 44 = .ok (.iconst 1, 1) := by decide +kernel
theorem dX6_pair_45 : decode cX6_pair 45 = .ok (.iload_n 2, 1) := by decide +kernel
theorem dX6_pair_46 : decode cX6_pair 46 = .ok (.iload_n 3, 1) := by decide +kernel
theorem dX6_pair_47 : decode cX6_pair 47 = .ok (.invokestatic 88, 3) := by decide +kernel
theorem dX6_pair_50 : decode cX6_pair 50 = .ok (.ishl, 1) := by decide +kernel
theorem dX6_pair_51 : decode cX6_pair 51 = .ok (.istore 5, 2) := by decide +kernel
theorem dX6_pair_53 : decode cX6_pair 53 = .ok (.lconst 0, 1) := by decide +kernel
theorem dX6_pair_54 : decode cX6_pair 54 = .ok (.lstore 6, 2) := by decide +kernel
theorem dX6_pair_56 : decode cX6_pair 56 = .ok (.lconst 0, 1) := by decide +kernel
theorem dX6_pair_57 : decode cX6_pair 57 = .ok (.lstore 8, 2) := by decide +kernel
theorem dX6_pair_59 : decode cX6_pair 59 = .ok (.iconst 0, 1) := by decide +kernel
theorem dX6_pair_60 : decode cX6_pair 60 = .ok (.istore 10, 2) := by decide +kernel
theorem dX6_pair_62 : decode cX6_pair 62 = .ok (.iload 10, 2) := by decide +kernel
theorem dX6_pair_64 : decode cX6_pair 64 = .ok (.aload_n 0, 1) := by decide +kernel
theorem dX6_pair_65 : decode cX6_pair 65 = .ok (.getfield 63, 3) := by decide +kernel
theorem dX6_pair_68 : decode cX6_pair 68 = .ok (.if_icmp .ge 46, 3) := by decide +kernel
theorem dX6_pair_71 : decode cX6_pair 71 = .ok (.aload_n 0, 1) := by decide +kernel
theorem dX6_pair_72 : decode cX6_pair 72 = .ok (.getfield 30, 3) := by decide +kernel
theorem dX6_pair_75 : decode cX6_pair 75 = .ok (.iload 10, 2) := by decide +kernel
theorem dX6_pair_77 : decode cX6_pair 77 = .ok (.invokevirtual 120, 3) := by decide +kernel
theorem dX6_pair_80 : decode cX6_pair 80 = .ok (.lstore 11, 2) := by decide +kernel
theorem dX6_pair_82 : decode cX6_pair 82 = .ok (.lload 8, 2) := by decide +kernel
theorem dX6_pair_84 : decode cX6_pair 84 = .ok (.lload 11, 2) := by decide +kernel
theorem dX6_pair_86 : decode cX6_pair 86 = .ok (.ladd, 1) := by decide +kernel
theorem dX6_pair_87 : decode cX6_pair 87 = .ok (.lstore 8, 2) := by decide +kernel
theorem dX6_pair_89 : decode cX6_pair 89 = .ok (.lload 6, 2) := by decide +kernel
theorem dX6_pair_91 : decode cX6_pair 91 = .ok (.iload 10, 2) := by decide +kernel
theorem dX6_pair_93 : decode cX6_pair 93 = .ok (.iload 5, 2) := by decide +kernel
theorem dX6_pair_95 : decode cX6_pair 95 = .ok (.iand, 1) := by decide +kernel
theorem dX6_pair_96 : decode cX6_pair 96 = .ok (.ifCond .eq 8, 3) := by decide +kernel
theorem dX6_pair_99 : decode cX6_pair 99 = .ok (.lload 11, 2) := by decide +kernel
theorem dX6_pair_101 : decode cX6_pair 101 = .ok (.goto 4, 3) := by decide +kernel
theorem dX6_pair_104 : decode cX6_pair 104 = .ok (.lconst 0, 1) := by decide +kernel
theorem dX6_pair_105 : decode cX6_pair 105 = .ok (.ladd, 1) := by decide +kernel
theorem dX6_pair_106 : decode cX6_pair 106 = .ok (.lstore 6, 2) := by decide +kernel
theorem dX6_pair_108 : decode cX6_pair 108 = .ok (.iinc 10 1, 3) := by decide +kernel
theorem dX6_pair_111 : decode cX6_pair 111 = .ok (.goto (-49), 3) := by decide +kernel
theorem dX6_pair_114 : decode cX6_pair 114 = .ok (.lload 6, 2) := by decide +kernel
theorem dX6_pair_116 : decode cX6_pair 116 = .ok (.lload 8, 2) := by decide +kernel
theorem dX6_pair_118 : decode cX6_pair 118 = .ok (.iload 4, 2) := by decide +kernel
theorem dX6_pair_120 : decode cX6_pair 120 = .ok (.invokestatic 139, 3) := by decide +kernel
theorem dX6_pair_123 : decode cX6_pair 123 = .ok (.lreturn, 1) := by decide +kernel
set_option maxRecDepth 20000 in
theorem ggX6_likely_X6_isModel : GoodIn wsX6_likely wsX6_isModel := goodIn_r _ [8] (by decide +kernel) (by decide +kernel)
set_option maxRecDepth 20000 in
theorem gX6_likely_X6_isModel : GoodIn wsX6_likely (va_wsS RX6 113 yX6_isModel wsX6_isModel) := goodIn_app (goodIn_of _ (by decide +kernel)) ggX6_likely_X6_isModel
set_option maxRecDepth 20000 in
theorem ggX6_likely_X6_isSideOrPart : GoodIn wsX6_likely wsX6_isSideOrPart := goodIn_r _ [11] (by decide +kernel) (by decide +kernel)
set_option maxRecDepth 20000 in
theorem gX6_likely_X6_isSideOrPart : GoodIn wsX6_likely (va_wsS RX6 130 yX6_isSideOrPart wsX6_isSideOrPart) := goodIn_app (goodIn_of _ (by decide +kernel)) ggX6_likely_X6_isSideOrPart
set_option maxRecDepth 20000 in
theorem ggX6_likely_X5_prepare : GoodIn wsX6_likely wsX5_prepare := goodIn_r _ [16, 17, 18, 19, 20, 21, 22, 23, 24, 25, 26, 27, 28, 29, 30, 31, 32, 33, 34, 35, 36, 15, 37, 38, 39, 40, 41, 42, 43, 44, 45, 46, 47, 48, 49, 50, 51, 52, 53, 54, 55, 56, 57, 58, 59, 60, 61, 62, 63, 64, 65, 66, 67, 68, 69, 70, 71, 72, 73, 74, 75, 152, 153, 154, 155, 156, 157, 158, 159, 160, 161, 162, 163, 164, 165, 166, 167, 168, 169, 170, 171] (by decide +kernel) (by decide +kernel)
set_option maxRecDepth 20000 in
theorem gX6_likely_X5_prepare : GoodIn wsX6_likely (wsV RX6 116 RX5 yX5_prepare wsX5_prepare) := goodIn_app (goodIn_of _ (by decide +kernel)) ggX6_likely_X5_prepare
set_option maxRecDepth 20000 in
theorem ggX6_likely_X5_of : GoodIn wsX6_likely wsX5_of := goodIn_r _ [79, 24, 25, 29, 23, 17, 44, 45, 46, 47, 48, 49, 50, 57, 58, 59, 15, 60, 26, 80, 81, 82, 64, 83, 73, 74, 75, 84, 85, 86, 87, 66, 88, 89, 90, 91, 92, 93, 94, 95, 96, 21, 97, 98, 99, 100, 101, 32, 102, 103, 104, 52, 53, 54, 55, 56, 105, 106, 107, 108, 109, 110, 111, 112, 113, 114, 115, 116, 117, 118, 119, 120, 121, 122, 123, 124, 125, 126, 127, 128, 129, 130, 28, 27, 51, 152, 153, 154, 155, 156, 157, 158, 159, 160, 161, 162, 163, 167, 168, 169, 170, 171, 164, 165, 166] (by decide +kernel) (by decide +kernel)
set_option maxRecDepth 20000 in
theorem gX6_likely_X5_of : GoodIn wsX6_likely (wsV RX6 120 RX5 yX5_of wsX5_of) := goodIn_app (goodIn_of _ (by decide +kernel)) ggX6_likely_X5_of
set_option maxRecDepth 20000 in
theorem ggX6_likely_X6_sumOfWeights : GoodIn wsX6_likely wsX6_sumOfWeights := goodIn_r _ [134, 135, 2, 76, 77, 78, 15, 79, 24, 25, 29, 23, 17, 44, 45, 46, 47, 48, 49, 50, 57, 58, 59, 60, 26, 80, 81, 82, 64, 83, 73, 74, 75, 84, 85, 86, 87, 66, 88, 89, 90, 91, 92, 93, 94, 95, 96, 21, 97, 98, 99, 100, 101, 32, 102, 103, 104, 52, 53, 54, 55, 56, 105, 106, 107, 108, 109, 110, 111, 112, 113, 114, 115, 116, 117, 118, 119, 120, 121, 122, 123, 124, 125, 126, 127, 128, 129, 130, 28, 27, 51, 142, 143, 144, 145, 146, 147, 148, 149, 150, 151, 152, 153, 154, 155, 156, 157, 158, 159, 160, 161, 162, 163, 167, 168, 169, 170, 171, 164, 165, 166] (by decide +kernel) (by decide +kernel)
set_option maxRecDepth 20000 in
theorem gX6_likely_X6_sumOfWeights : GoodIn wsX6_likely (wsV RX6 126 RX6 yX6_sumOfWeights wsX6_sumOfWeights) := goodIn_app (goodIn_of _ (by decide +kernel)) ggX6_likely_X6_sumOfWeights
set_option maxRecDepth 20000 in
theorem ggX6_likely_X6_tell : GoodIn wsX6_likely wsX6_tell := goodIn_r _ [138, 139, 140, 7, 141] (by decide +kernel) (by decide +kernel)
set_option maxRecDepth 20000 in
theorem gX6_likely_X6_tell : GoodIn wsX6_likely (va_wsS RX6 139 yX6_tell wsX6_tell) := goodIn_app (goodIn_of _ (by decide +kernel)) ggX6_likely_X6_tell
theorem dX6_likely_0 : decode cX6_likely 0 = .ok (.iload_n 1, 1) := by decide +kernel
theorem dX6_likely_1 : decode cX6_likely 1 = .ok (.invokestatic 113, 3) := by decide +kernel
theorem dX6_likely_4 : decode cX6_likely 4 = .ok (.ifCond .eq 10, 3) := by decide +kernel
theorem dX6_likely_7 : decode cX6_likely 7 = .ok (.iload_n 2, 1) := by decide +kernel
theorem dX6_likely_8 : decode cX6_likely 8 = .ok (.invokestatic 130, 3) := by decide +kernel
theorem dX6_likely_11 : decode cX6_likely 11 = .ok (.ifCond .ne 7, 3) := by decide +kernel
theorem dX6_likely_14 : decode cX6_likely 14 = .ok (.ldc2_w 124, 3) := by decide +kernel
theorem dX6_likely_17 : decode cX6_likely 17 = .ok (.lreturn, 1) := by decide +kernel
theorem dX6_likely_18 : decode cX6_likely 18 = .ok (.aload_n 0, 1) := by decide +kernel
theorem dX6_likely_19 : decode cX6_likely 19 = .ok (.getfield 30, 3) := by decide +kernel
theorem dX6_likely_22 : decode cX6_likely 22 = .ok (.iload_n 1, 1) := by decide +kernel
theorem dX6_likely_23 : decode cX6_likely 23 = .ok (.aload_n 0, 1) := by decide +kernel
theorem dX6_likely_24 : decode cX6_likely 24 = .ok (.getfield 66, 3) := by decide +kernel
theorem dX6_likely_27 : decode cX6_likely 27 = .ok (.aload_n 0, 1) := by decide +kernel
theorem dX6_likely_28 : decode cX6_likely 28 = .ok (.getfield 59, 3) := by decide +kernel
theorem dX6_likely_31 : decode cX6_likely 31 = .ok (.invokevirtual 116, 3) := by decide +kernel
theorem dX6_likely_34 : decode cX6_likely 34 = .ok (.aload_n 0, 1) := by decide +kernel
theorem dX6_likely_35 : decode cX6_likely 35 = .ok (.getfield 30, 3) := by decide +kernel
theorem dX6_likely_38 : decode cX6_likely 38 = .ok (.aload_n 0, 1) := by decide +kernel
theorem dX6_likely_39 : decode cX6_likely 39 = .ok (.getfield 66, 3) := by decide +kernel
theorem dX6_likely_42 : decode cX6_likely 42 = .ok (.invokevirtual 120, 3) := by decide +kernel
theorem dX6_likely_45 : decode cX6_likely 45 = .ok (.aload_n 0, 1) := by decide +kernel
theorem dX6_likely_46 : decode cX6_likely 46 = .ok (.invokevirtual 126, 3) := by decide +kernel
theorem dX6_likely_49 : decode cX6_likely 49 = .ok (.iload_n 2, 1) := by decide +kernel
theorem dX6_likely_50 : decode cX6_likely 50 = .ok (.invokestatic 139, 3) := by decide +kernel
theorem dX6_likely_53 : decode cX6_likely 53 = .ok (.lreturn, 1) := by decide +kernel
set_option maxRecDepth 20000 in
theorem ggX6_alike_X6_isGraph : GoodIn wsX6_alike wsX6_isGraph := goodIn_r _ [8, 9, 38, 39, 40, 41, 42, 43, 44, 45, 46, 47] (by decide +kernel) (by decide +kernel)
set_option maxRecDepth 20000 in
theorem gX6_alike_X6_isGraph : GoodIn wsX6_alike (wsV RX6 103 RX6 yX6_isGraph wsX6_isGraph) := goodIn_app (goodIn_of _ (by decide +kernel)) ggX6_alike_X6_isGraph
set_option maxRecDepth 20000 in
theorem ggX6_alike_X2_count : GoodIn wsX6_alike wsX2_count := goodIn_r _ [14, 15, 16, 17, 18, 19, 20, 21, 22, 23, 24, 13, 25, 26, 27, 28, 29, 30, 31, 32, 33, 34, 35, 36, 37, 48, 49, 50, 51] (by decide +kernel) (by decide +kernel)
set_option maxRecDepth 20000 in
theorem gX6_alike_X2_count : GoodIn wsX6_alike (wsV RX6 143 RX2 yX2_count wsX2_count) := goodIn_app (goodIn_of _ (by decide +kernel)) ggX6_alike_X2_count
theorem dX6_alike_0 : decode cX6_alike 0 = .ok (.aload_n 0, 1) := by decide +kernel
theorem dX6_alike_1 : decode cX6_alike 1 = .ok (.iload_n 1, 1) := by decide +kernel
theorem dX6_alike_2 : decode cX6_alike 2 = .ok (.invokevirtual 103, 3) := by decide +kernel
theorem dX6_alike_5 : decode cX6_alike 5 = .ok (.ifCond .ne 5, 3) := by decide +kernel
theorem dX6_alike_8 : decode cX6_alike 8 = .ok (.iconst (-1), 1) := by decide +kernel
theorem dX6_alike_9 : decode cX6_alike 9 = .ok (.ireturn, 1) := by decide +kernel
theorem dX6_alike_10 : decode cX6_alike 10 = .ok (.aload_n 0, 1) := by decide +kernel
theorem dX6_alike_11 : decode cX6_alike 11 = .ok (.getfield 44, 3) := by decide +kernel
theorem dX6_alike_14 : decode cX6_alike 14 = .ok (.aload_n 0, 1) := by decide +kernel
theorem dX6_alike_15 : decode cX6_alike 15 = .ok (.getfield 66, 3) := by decide +kernel
theorem dX6_alike_18 : decode cX6_alike 18 = .ok (.iload_n 1, 1) := by decide +kernel
theorem dX6_alike_19 : decode cX6_alike 19 = .ok (.aload_n 0, 1) := by decide +kernel
theorem dX6_alike_20 : decode cX6_alike 20 = .ok (.getfield 59, 3) := by decide +kernel
theorem dX6_alike_23 : decode cX6_alike 23 = .ok (.invokevirtual 143, 3) := by decide +kernel
theorem dX6_alike_26 : decode cX6_alike 26 = .ok (.ifCond .le 7, 3) := by decide +kernel
theorem dX6_alike_29 : decode cX6_alike 29 = .ok (.iconst 1, 1) := by decide +kernel
theorem dX6_alike_30 : decode cX6_alike 30 = .ok (.goto 4, 3) := by decide +kernel
theorem dX6_alike_33 : decode cX6_alike 33 = .ok (.iconst 0, 1) := by decide +kernel
theorem dX6_alike_34 : decode cX6_alike 34 = .ok (.ireturn, 1) := by decide +kernel
set_option maxRecDepth 20000 in
theorem ggX6_kinds_X2_count : GoodIn wsX6_kinds wsX2_count := goodIn_r _ [8, 9, 10, 11, 12, 13, 14, 15, 16, 17, 18, 7, 19, 20, 21, 22, 23, 24, 25, 26, 27, 28, 29, 30, 31, 45, 46, 47, 48] (by decide +kernel) (by decide +kernel)
set_option maxRecDepth 20000 in
theorem gX6_kinds_X2_count : GoodIn wsX6_kinds (wsV RX6 143 RX2 yX2_count wsX2_count) := goodIn_app (goodIn_of _ (by decide +kernel)) ggX6_kinds_X2_count
set_option maxRecDepth 20000 in
theorem ggX6_kinds_X2_all : GoodIn wsX6_kinds wsX2_all := goodIn_r _ [34] (by decide +kernel) (by decide +kernel)
set_option maxRecDepth 20000 in
theorem gX6_kinds_X2_all : GoodIn wsX6_kinds (va_wsS RX6 146 yX2_all wsX2_all) := goodIn_app (goodIn_of _ (by decide +kernel)) ggX6_kinds_X2_all
theorem dX6_kinds_0 : decode cX6_kinds 0 = .ok (.aload_n 0, 1) := by decide +kernel
theorem dX6_kinds_1 : decode cX6_kinds 1 = .ok (.getfield 44, 3) := by decide +kernel
theorem dX6_kinds_4 : decode cX6_kinds 4 = .ok (.aload_n 0, 1) := by decide +kernel
theorem dX6_kinds_5 : decode cX6_kinds 5 = .ok (.getfield 66, 3) := by decide +kernel
theorem dX6_kinds_8 : decode cX6_kinds 8 = .ok (.aload_n 0, 1) := by decide +kernel
theorem dX6_kinds_9 : decode cX6_kinds 9 = .ok (.getfield 66, 3) := by decide +kernel
theorem dX6_kinds_12 : decode cX6_kinds 12 = .ok (.aload_n 0, 1) := by decide +kernel
theorem dX6_kinds_13 : decode cX6_kinds 13 = .ok (.getfield 59, 3) := by decide +kernel
theorem dX6_kinds_16 : decode cX6_kinds 16 = .ok (.invokevirtual 143, 3) := by decide +kernel
theorem dX6_kinds_19 : decode cX6_kinds 19 = .ok (.istore_n 1, 1) := by decide +kernel
theorem dX6_kinds_20 : decode cX6_kinds 20 = .ok (.iload_n 1, 1) := by decide +kernel
theorem dX6_kinds_21 : decode cX6_kinds 21 = .ok (.iconst 1, 1) := by decide +kernel
theorem dX6_kinds_22 : decode cX6_kinds 22 = .ok (.if_icmp .ge 7, 3) := by decide +kernel
theorem dX6_kinds_25 : decode cX6_kinds 25 = .ok (.iconst 1, 1) := by decide +kernel
theorem dX6_kinds_26 : decode cX6_kinds 26 = .ok (.goto 12, 3) := by decide +kernel
theorem dX6_kinds_29 : decode cX6_kinds 29 = .ok (.aload_n 0, 1) := by decide +kernel
theorem dX6_kinds_30 : decode cX6_kinds 30 = .ok (.getfield 59, 3) := by decide +kernel
theorem dX6_kinds_33 : decode cX6_kinds 33 = .ok (.invokestatic 146, 3) := by decide +kernel
theorem dX6_kinds_36 : decode cX6_kinds 36 = .ok (.iload_n 1, 1) := by decide +kernel
theorem dX6_kinds_37 : decode cX6_kinds 37 = .ok (.idiv, 1) := by decide +kernel
theorem dX6_kinds_38 : decode cX6_kinds 38 = .ok (.ireturn, 1) := by decide +kernel
set_option maxRecDepth 20000 in
theorem ggX6_seed_X0_setState : GoodIn wsX6_seed wsX0_setState := goodIn_r _ [6, 7, 18] (by decide +kernel) (by decide +kernel)
set_option maxRecDepth 20000 in
theorem gX6_seed_X0_setState : GoodIn wsX6_seed (wsV RX6 149 RX0 yX0_setState wsX0_setState) := goodIn_app (goodIn_of _ (by decide +kernel)) ggX6_seed_X0_setState
theorem dX6_seed_0 : decode cX6_seed 0 = .ok (.aload_n 0, 1) := by decide +kernel
theorem dX6_seed_1 : decode cX6_seed 1 = .ok (.getfield 37, 3) := by decide +kernel
theorem dX6_seed_4 : decode cX6_seed 4 = .ok (.lload_n 1, 1) := by decide +kernel
theorem dX6_seed_5 : decode cX6_seed 5 = .ok (.invokevirtual 149, 3) := by decide +kernel
theorem dX6_seed_8 : decode cX6_seed 8 = .ok (.return_, 1) := by decide +kernel
set_option maxRecDepth 20000 in
theorem ggX6_swaps_X6_trySwap : GoodIn wsX6_swaps wsX6_trySwap := goodIn_r _ [5, 6, 7, 8, 9, 10, 11, 12, 13, 14, 15, 16, 17, 18, 19, 20, 21, 22, 23, 24, 25, 26, 27, 28, 29, 4, 30, 31, 32, 33, 34, 35, 36, 37, 38, 39, 40, 41, 42, 43, 44, 45, 46, 47, 48, 49, 50, 51, 52, 53, 54, 55, 56, 57, 58, 59, 60, 61] (by decide +kernel) (by decide +kernel)
set_option maxRecDepth 20000 in
theorem gX6_swaps_X6_trySwap : GoodIn wsX6_swaps (wsV RX6 153 RX6 yX6_trySwap wsX6_trySwap) := goodIn_app (goodIn_of _ (by decide +kernel)) ggX6_swaps_X6_trySwap
theorem dX6_swaps_0 : decode cX6_swaps 0 = .ok (.iload_n 1, 1) := by decide +kernel
theorem dX6_swaps_1 : decode cX6_swaps 1 = .ok (.ifCond .lt 9, 3) := by decide +kernel
theorem dX6_swaps_4 : decode cX6_swaps 4 = .ok (.iload_n 1, 1) := by decide +kernel
theorem dX6_swaps_5 : decode cX6_swaps 5 = .ok (.bipush 100, 2) := by decide +kernel
theorem dX6_swaps_7 : decode cX6_swaps 7 = .ok (.if_icmp .le 5, 3) := by decide +kernel
theorem dX6_swaps_10 : decode cX6_swaps 10 = .ok (.iconst (-1), 1) := by decide +kernel
theorem dX6_swaps_11 : decode cX6_swaps 11 = .ok (.ireturn, 1) := by decide +kernel
theorem dX6_swaps_12 : decode cX6_swaps 12 = .ok (.iconst 0, 1) := by decide +kernel
theorem dX6_swaps_13 : decode cX6_swaps 13 = .ok (.istore_n 2, 1) := by decide +kernel
theorem dX6_swaps_14 : decode cX6_swaps 14 = .ok (.iconst 0, 1) := by decide +kernel
theorem dX6_swaps_15 : decode cX6_swaps 15 = .ok (.istore_n 3, 1) := by decide +kernel
theorem dX6_swaps_16 : decode cX6_swaps 16 = .ok (.iload_n 3, 1) := by decide +kernel
theorem dX6_swaps_17 : decode cX6_swaps 17 = .ok (.iload_n 1, 1) := by decide +kernel
theorem dX6_swaps_18 : decode cX6_swaps 18 = .ok (.if_icmp .ge 19, 3) := by decide +kernel
theorem dX6_swaps_21 : decode cX6_swaps 21 = .ok (.aload_n 0, 1) := by decide +kernel
theorem dX6_swaps_22 : decode cX6_swaps 22 = .ok (.invokevirtual 153, 3) := by decide +kernel
theorem dX6_swaps_25 : decode cX6_swaps 25 = .ok (.ifCond .eq 6, 3) := by decide +kernel
theorem dX6_swaps_28 : decode cX6_swaps 28 = .ok (.iinc 2 1, 3) := by decide +kernel
theorem dX6_swaps_31 : decode cX6_swaps 31 = .ok (.iinc 3 1, 3) := by decide +kernel
theorem dX6_swaps_34 : decode cX6_swaps 34 = .ok (.goto (-18), 3) := by decide +kernel
theorem dX6_swaps_37 : decode cX6_swaps 37 = .ok (.iload_n 2, 1) := by decide +kernel
theorem dX6_swaps_38 : decode cX6_swaps 38 = .ok (.ireturn, 1) := by decide +kernel
set_option maxRecDepth 20000 in
theorem ggX6_drawn_X6_isModel : GoodIn wsX6_drawn wsX6_isModel := goodIn_r _ [8] (by decide +kernel) (by decide +kernel)
set_option maxRecDepth 20000 in
theorem gX6_drawn_X6_isModel : GoodIn wsX6_drawn (va_wsS RX6 113 yX6_isModel wsX6_isModel) := goodIn_app (goodIn_of _ (by decide +kernel)) ggX6_drawn_X6_isModel
set_option maxRecDepth 20000 in
theorem ggX6_drawn_X5_prepare : GoodIn wsX6_drawn wsX5_prepare := goodIn_r _ [13, 14, 15, 16, 17, 18, 19, 20, 21, 22, 23, 24, 25, 26, 27, 28, 29, 30, 31, 32, 33, 12, 34, 35, 36, 37, 38, 39, 40, 41, 42, 43, 44, 45, 46, 47, 48, 49, 50, 51, 52, 53, 54, 55, 56, 57, 58, 59, 60, 61, 62, 63, 64, 65, 66, 67, 68, 69, 70, 71, 72, 157, 158, 159, 160, 161, 162, 163, 164, 165, 166, 167, 168, 169, 170, 171, 172, 173, 174, 175, 176] (by decide +kernel) (by decide +kernel)
set_option maxRecDepth 20000 in
theorem gX6_drawn_X5_prepare : GoodIn wsX6_drawn (wsV RX6 116 RX5 yX5_prepare wsX5_prepare) := goodIn_app (goodIn_of _ (by decide +kernel)) ggX6_drawn_X5_prepare
set_option maxRecDepth 20000 in
theorem ggX6_drawn_X6_sumOfWeights : GoodIn wsX6_drawn wsX6_sumOfWeights := goodIn_r _ [76, 77, 1, 78, 79, 80, 12, 81, 21, 22, 26, 20, 14, 41, 42, 43, 44, 45, 46, 47, 54, 55, 56, 57, 23, 82, 83, 84, 61, 85, 70, 71, 72, 86, 87, 88, 89, 63, 90, 91, 92, 93, 94, 95, 96, 97, 98, 18, 99, 100, 101, 102, 103, 29, 104, 105, 106, 49, 50, 51, 52, 53, 107, 108, 109, 110, 111, 112, 113, 114, 115, 116, 117, 118, 119, 120, 121, 122, 123, 124, 125, 126, 127, 128, 129, 130, 131, 132, 25, 24, 48, 147, 148, 149, 150, 151, 152, 153, 154, 155, 156, 157, 158, 159, 160, 161, 162, 163, 164, 165, 166, 167, 168, 172, 173, 174, 175, 176, 169, 170, 171] (by decide +kernel) (by decide +kernel)
set_option maxRecDepth 20000 in
theorem gX6_drawn_X6_sumOfWeights : GoodIn wsX6_drawn (wsV RX6 126 RX6 yX6_sumOfWeights wsX6_sumOfWeights) := goodIn_app (goodIn_of _ (by decide +kernel)) ggX6_drawn_X6_sumOfWeights
set_option maxRecDepth 20000 in
theorem ggX6_drawn_X0_below : GoodIn wsX6_drawn wsX0_below := goodIn_r _ [137, 138, 139, 140, 141, 142, 177] (by decide +kernel) (by decide +kernel)
set_option maxRecDepth 20000 in
theorem gX6_drawn_X0_below : GoodIn wsX6_drawn (wsV RX6 157 RX0 yX0_below wsX0_below) := goodIn_app (goodIn_of _ (by decide +kernel)) ggX6_drawn_X0_below
set_option maxRecDepth 20000 in
theorem ggX6_drawn_X6_graphAt : GoodIn wsX6_drawn wsX6_graphAt := goodIn_r _ [146, 77, 1, 2, 78, 79, 80, 12, 81, 21, 22, 26, 20, 14, 41, 42, 43, 44, 45, 46, 47, 54, 55, 56, 57, 23, 82, 83, 84, 61, 85, 70, 71, 72, 86, 87, 88, 89, 63, 90, 91, 92, 93, 94, 95, 96, 97, 98, 18, 99, 100, 101, 102, 103, 29, 104, 105, 106, 49, 50, 51, 52, 53, 107, 108, 109, 110, 111, 112, 113, 114, 115, 116, 117, 118, 119, 120, 121, 122, 123, 124, 125, 126, 127, 128, 129, 130, 131, 132, 25, 24, 48, 147, 148, 149, 150, 151, 152, 153, 154, 155, 156, 157, 158, 159, 160, 161, 162, 163, 164, 165, 166, 167, 168, 172, 173, 174, 175, 176, 169, 170, 171] (by decide +kernel) (by decide +kernel)
set_option maxRecDepth 20000 in
theorem gX6_drawn_X6_graphAt : GoodIn wsX6_drawn (wsV RX6 161 RX6 yX6_graphAt wsX6_graphAt) := goodIn_app (goodIn_of _ (by decide +kernel)) ggX6_drawn_X6_graphAt
theorem dX6_drawn_0 : decode cX6_drawn 0 = .ok (.iload_n 1, 1) := by decide +kernel
theorem dX6_drawn_1 : decode cX6_drawn 1 = .ok (.invokestatic 113, 3) := by decide +kernel
theorem dX6_drawn_4 : decode cX6_drawn 4 = .ok (.ifCond .ne 5, 3) := by decide +kernel
theorem dX6_drawn_7 : decode cX6_drawn 7 = .ok (.iconst (-1), 1) := by decide +kernel
theorem dX6_drawn_8 : decode cX6_drawn 8 = .ok (.ireturn, 1) := by decide +kernel
theorem dX6_drawn_9 : decode cX6_drawn 9 = .ok (.aload_n 0, 1) := by decide +kernel
theorem dX6_drawn_10 : decode cX6_drawn 10 = .ok (.getfield 30, 3) := by decide +kernel
theorem dX6_drawn_13 : decode cX6_drawn 13 = .ok (.iload_n 1, 1) := by decide +kernel
theorem dX6_drawn_14 : decode cX6_drawn 14 = .ok (.aload_n 0, 1) := by decide +kernel
theorem dX6_drawn_15 : decode cX6_drawn 15 = .ok (.getfield 66, 3) := by decide +kernel
theorem dX6_drawn_18 : decode cX6_drawn 18 = .ok (.aload_n 0, 1) := by decide +kernel
theorem dX6_drawn_19 : decode cX6_drawn 19 = .ok (.getfield 59, 3) := by decide +kernel
theorem dX6_drawn_22 : decode cX6_drawn 22 = .ok (.invokevirtual 116, 3) := by decide +kernel
theorem dX6_drawn_25 : decode cX6_drawn 25 = .ok (.aload_n 0, 1) := by decide +kernel
theorem dX6_drawn_26 : decode cX6_drawn 26 = .ok (.aload_n 0, 1) := by decide +kernel
theorem dX6_drawn_27 : decode cX6_drawn 27 = .ok (.aload_n 0, 1) := by decide +kernel
theorem dX6_drawn_28 : decode cX6_drawn 28 = .ok (.getfield 37, 3) := by decide +kernel
theorem dX6_drawn_31 : decode cX6_drawn 31 = .ok (.aload_n 0, 1) := by decide +kernel
theorem dX6_drawn_32 : decode cX6_drawn 32 = .ok (.invokevirtual 126, 3) := by decide +kernel
theorem dX6_drawn_35 : decode cX6_drawn 35 = .ok (.invokevirtual 157, 3) := by decide +kernel
theorem dX6_drawn_38 : decode cX6_drawn 38 = .ok (.invokevirtual 161, 3) := by decide +kernel
theorem dX6_drawn_41 : decode cX6_drawn 41 = .ok (.putfield 66, 3) := by decide +kernel
theorem dX6_drawn_44 : decode cX6_drawn 44 = .ok (.aload_n 0, 1) := by decide +kernel
theorem dX6_drawn_45 : decode cX6_drawn 45 = .ok (.getfield 66, 3) := by decide +kernel
theorem dX6_drawn_48 : decode cX6_drawn 48 = .ok (.ireturn, 1) := by decide +kernel
set_option maxRecDepth 20000 in
theorem ggX6_blocks_X4_findBest : GoodIn wsX6_blocks wsX4_findBest := goodIn_r _ [8, 9, 10, 11, 12, 13, 14, 15, 16, 17, 18, 19, 20, 21, 7, 22, 23, 24, 25, 26, 27, 28, 29, 30, 31, 32, 33, 34, 35, 36, 37, 38, 39, 40, 41, 42, 43, 44, 45, 46, 47, 48, 49, 50, 51, 52, 53, 54, 55, 56, 57, 58, 59, 60, 61, 62, 63, 74, 75, 76, 77, 78, 79, 80, 81, 82, 83, 84, 85, 86] (by decide +kernel) (by decide +kernel)
set_option maxRecDepth 20000 in
theorem gX6_blocks_X4_findBest : GoodIn wsX6_blocks (wsV RX6 165 RX4 yX4_findBest wsX4_findBest) := goodIn_app (goodIn_of _ (by decide +kernel)) ggX6_blocks_X4_findBest
theorem dX6_blocks_0 : decode cX6_blocks 0 = .ok (.iload_n 1, 1) := by decide +kernel
theorem dX6_blocks_1 : decode cX6_blocks 1 = .ok (.iconst 1, 1) := by decide +kernel
theorem dX6_blocks_2 : decode cX6_blocks 2 = .ok (.if_icmp .lt 11, 3) := by decide +kernel
theorem dX6_blocks_5 : decode cX6_blocks 5 = .ok (.iload_n 1, 1) := by decide +kernel
theorem dX6_blocks_6 : decode cX6_blocks 6 = .ok (.aload_n 0, 1) := by decide +kernel
theorem dX6_blocks_7 : decode cX6_blocks 7 = .ok (.getfield 59, 3) := by decide +kernel
theorem dX6_blocks_10 : decode cX6_blocks 10 = .ok (.if_icmp .le 5, 3) := by decide +kernel
theorem dX6_blocks_13 : decode cX6_blocks 13 = .ok (.iconst (-1), 1) := by decide +kernel
theorem dX6_blocks_14 : decode cX6_blocks 14 = .ok (.ireturn, 1) := by decide +kernel
theorem dX6_blocks_15 : decode cX6_blocks 15 = .ok (.aload_n 0, 1) := by decide +kernel
theorem dX6_blocks_16 : decode cX6_blocks 16 = .ok (.getfield 51, 3) := by decide +kernel
theorem dX6_blocks_19 : decode cX6_blocks 19 = .ok (.aload_n 0, 1) := by decide +kernel
theorem dX6_blocks_20 : decode cX6_blocks 20 = .ok (.getfield 66, 3) := by decide +kernel
theorem dX6_blocks_23 : decode cX6_blocks 23 = .ok (.aload_n 0, 1) := by decide +kernel
theorem dX6_blocks_24 : decode cX6_blocks 24 = .ok (.getfield 59, 3) := by decide +kernel
theorem dX6_blocks_27 : decode cX6_blocks 27 = .ok (.iload_n 1, 1) := by decide +kernel
theorem dX6_blocks_28 : decode cX6_blocks 28 = .ok (.invokevirtual 165, 3) := by decide +kernel
theorem dX6_blocks_31 : decode cX6_blocks 31 = .ok (.ireturn, 1) := by decide +kernel
set_option maxRecDepth 20000 in
theorem ggX6_block_X6_isNode : GoodIn wsX6_block wsX6_isNode := goodIn_r _ [6, 7, 19, 20, 21, 22, 23, 24, 25, 26, 27, 28] (by decide +kernel) (by decide +kernel)
set_option maxRecDepth 20000 in
theorem gX6_block_X6_isNode : GoodIn wsX6_block (wsV RX6 92 RX6 yX6_isNode wsX6_isNode) := goodIn_app (goodIn_of _ (by decide +kernel)) ggX6_block_X6_isNode
set_option maxRecDepth 20000 in
theorem ggX6_block_X4_isFound : GoodIn wsX6_block wsX4_isFound := goodIn_r _ [12, 13, 29, 30, 31, 32, 33, 34, 35, 36, 37, 38] (by decide +kernel) (by decide +kernel)
set_option maxRecDepth 20000 in
theorem gX6_block_X4_isFound : GoodIn wsX6_block (wsV RX6 168 RX4 yX4_isFound wsX4_isFound) := goodIn_app (goodIn_of _ (by decide +kernel)) ggX6_block_X4_isFound
set_option maxRecDepth 20000 in
theorem ggX6_block_X4_bestOf : GoodIn wsX6_block wsX4_bestOf := goodIn_r _ [17, 18, 29, 30, 31, 32, 33, 34, 35, 36, 37, 38] (by decide +kernel) (by decide +kernel)
set_option maxRecDepth 20000 in
theorem gX6_block_X4_bestOf : GoodIn wsX6_block (wsV RX6 171 RX4 yX4_bestOf wsX4_bestOf) := goodIn_app (goodIn_of _ (by decide +kernel)) ggX6_block_X4_bestOf
theorem dX6_block_0 : decode cX6_block 0 = .ok (.aload_n 0, 1) := by decide +kernel
theorem dX6_block_1 : decode cX6_block 1 = .ok (.iload_n 1, 1) := by decide +kernel
theorem dX6_block_2 : decode cX6_block 2 = .ok (.invokevirtual 92, 3) := by decide +kernel
theorem dX6_block_5 : decode cX6_block 5 = .ok (.ifCond .ne 5, 3) := by decide +kernel
theorem dX6_block_8 : decode cX6_block 8 = .ok (.iconst (-1), 1) := by decide +kernel
theorem dX6_block_9 : decode cX6_block 9 = .ok (.ireturn, 1) := by decide +kernel
theorem dX6_block_10 : decode cX6_block 10 = .ok (.aload_n 0, 1) := by decide +kernel
theorem dX6_block_11 : decode cX6_block 11 = .ok (.getfield 51, 3) := by decide +kernel
theorem dX6_block_14 : decode cX6_block 14 = .ok (.invokevirtual 168, 3) := by decide +kernel
theorem dX6_block_17 : decode cX6_block 17 = .ok (.ifCond .eq 14, 3) := by decide +kernel
theorem dX6_block_20 : decode cX6_block 20 = .ok (.aload_n 0, 1) := by decide +kernel
theorem dX6_block_21 : decode cX6_block 21 = .ok (.getfield 51, 3) := by decide +kernel
theorem dX6_block_24 : decode cX6_block 24 = .ok (.iload_n 1, 1) := by decide +kernel
theorem dX6_block_25 : decode cX6_block 25 = .ok (.invokevirtual 171, 3) := by decide +kernel
theorem dX6_block_28 : decode cX6_block 28 = .ok (.goto 5, 3) := by decide +kernel
theorem dX6_block_31 : decode cX6_block 31 = .ok (.bipush (-2), 2) := by decide +kernel
theorem dX6_block_33 : decode cX6_block 33 = .ok (.ireturn, 1) := by decide +kernel
theorem dX6_isNode_0 : decode cX6_isNode 0 = .ok (.iload_n 1, 1) := by decide +kernel
theorem dX6_isNode_1 : decode cX6_isNode 1 = .ok (.ifCond .lt 15, 3) := by decide +kernel
theorem dX6_isNode_4 : decode cX6_isNode 4 = .ok (.iload_n 1, 1) := by decide +kernel
theorem dX6_isNode_5 : decode cX6_isNode 5 = .ok (.aload_n 0, 1) := by decide +kernel
theorem dX6_isNode_6 : decode cX6_isNode 6 = .ok (.getfield 59, 3) := by decide +kernel
theorem dX6_isNode_9 : decode cX6_isNode 9 = .ok (.if_icmp .ge 7, 3) := by decide +kernel
theorem dX6_isNode_12 : decode cX6_isNode 12 = .ok (.iconst 1, 1) := by decide +kernel
theorem dX6_isNode_13 : decode cX6_isNode 13 = .ok (.goto 4, 3) := by decide +kernel
theorem dX6_isNode_16 : decode cX6_isNode 16 = .ok (.iconst 0, 1) := by decide +kernel
theorem dX6_isNode_17 : decode cX6_isNode 17 = .ok (.ireturn, 1) := by decide +kernel
set_option maxRecDepth 20000 in
theorem ggX6_isPair_X6_isNode : GoodIn wsX6_isPair wsX6_isNode := goodIn_r _ [5, 6, 7, 8, 9, 10, 11, 12, 13, 14, 15, 16] (by decide +kernel) (by decide +kernel)
set_option maxRecDepth 20000 in
theorem gX6_isPair_X6_isNode : GoodIn wsX6_isPair (wsV RX6 92 RX6 yX6_isNode wsX6_isNode) := goodIn_app (goodIn_of _ (by decide +kernel)) ggX6_isPair_X6_isNode
theorem dX6_isPair_0 : decode cX6_isPair 0 = .ok (.aload_n 0, 1) := by decide +kernel
theorem dX6_isPair_1 : decode cX6_isPair 1 = .ok (.iload_n 1, 1) := by decide +kernel
theorem dX6_isPair_2 : decode cX6_isPair 2 = .ok (.invokevirtual 92, 3) := by decide +kernel
theorem dX6_isPair_5 : decode cX6_isPair 5 = .ok (.ifCond .eq 20, 3) := by decide +kernel
theorem dX6_isPair_8 : decode cX6_isPair 8 = .ok (.aload_n 0, 1) := by decide +kernel
theorem dX6_isPair_9 : decode cX6_isPair 9 = .ok (.iload_n 2, 1) := by decide +kernel
theorem dX6_isPair_10 : decode cX6_isPair 10 = .ok (.invokevirtual 92, 3) := by decide +kernel
theorem dX6_isPair_13 : decode cX6_isPair 13 = .ok (.ifCond .eq 12, 3) := by decide +kernel
theorem dX6_isPair_16 : decode cX6_isPair 16 = .ok (.iload_n 1, 1) := by decide +kernel
theorem dX6_isPair_17 : decode cX6_isPair 17 = .ok (.iload_n 2, 1) := by decide +kernel
theorem dX6_isPair_18 : decode cX6_isPair 18 = .ok (.if_icmp .eq 7, 3) := by decide +kernel
theorem dX6_isPair_21 : decode cX6_isPair 21 = .ok (.iconst 1, 1) := by decide +kernel
theorem dX6_isPair_22 : decode cX6_isPair 22 = .ok (.goto 4, 3) := by decide +kernel
theorem dX6_isPair_25 : decode cX6_isPair 25 = .ok (.iconst 0, 1) := by decide +kernel
theorem dX6_isPair_26 : decode cX6_isPair 26 = .ok (.ireturn, 1) := by decide +kernel
theorem dX6_isGraph_0 : decode cX6_isGraph 0 = .ok (.iload_n 1, 1) := by decide +kernel
theorem dX6_isGraph_1 : decode cX6_isGraph 1 = .ok (.ifCond .lt 15, 3) := by decide +kernel
theorem dX6_isGraph_4 : decode cX6_isGraph 4 = .ok (.iload_n 1, 1) := by decide +kernel
theorem dX6_isGraph_5 : decode cX6_isGraph 5 = .ok (.aload_n 0, 1) := by decide +kernel
theorem dX6_isGraph_6 : decode cX6_isGraph 6 = .ok (.getfield 63, 3) := by decide +kernel
theorem dX6_isGraph_9 : decode cX6_isGraph 9 = .ok (.if_icmp .ge 7, 3) := by decide +kernel
theorem dX6_isGraph_12 : decode cX6_isGraph 12 = .ok (.iconst 1, 1) := by decide +kernel
theorem dX6_isGraph_13 : decode cX6_isGraph 13 = .ok (.goto 4, 3) := by decide +kernel
theorem dX6_isGraph_16 : decode cX6_isGraph 16 = .ok (.iconst 0, 1) := by decide +kernel
theorem dX6_isGraph_17 : decode cX6_isGraph 17 = .ok (.ireturn, 1) := by decide +kernel
theorem dX6_isThing_0 : decode cX6_isThing 0 = .ok (.iload_n 0, 1) := by decide +kernel
theorem dX6_isThing_1 : decode cX6_isThing 1 = .ok (.ifCond .lt 13, 3) := by decide +kernel
theorem dX6_isThing_4 : decode cX6_isThing 4 = .ok (.iload_n 0, 1) := by decide +kernel
theorem dX6_isThing_5 : decode cX6_isThing 5 = .ok (.bipush 8, 2) := by decide +kernel
theorem dX6_isThing_7 : decode cX6_isThing 7 = .ok (.if_icmp .ge 7, 3) := by decide +kernel
theorem dX6_isThing_10 : decode cX6_isThing 10 = .ok (.iconst 1, 1) := by decide +kernel
theorem dX6_isThing_11 : decode cX6_isThing 11 = .ok (.goto 4, 3) := by decide +kernel
theorem dX6_isThing_14 : decode cX6_isThing 14 = .ok (.iconst 0, 1) := by decide +kernel
theorem dX6_isThing_15 : decode cX6_isThing 15 = .ok (.ireturn, 1) := by decide +kernel
theorem dX6_isModel_0 : decode cX6_isModel 0 = .ok (.iload_n 0, 1) := by decide +kernel
theorem dX6_isModel_1 : decode cX6_isModel 1 = .ok (.ifCond .lt 12, 3) := by decide +kernel
theorem dX6_isModel_4 : decode cX6_isModel 4 = .ok (.iload_n 0, 1) := by decide +kernel
theorem dX6_isModel_5 : decode cX6_isModel 5 = .ok (.iconst 4, 1) := by decide +kernel
theorem dX6_isModel_6 : decode cX6_isModel 6 = .ok (.if_icmp .ge 7, 3) := by decide +kernel
theorem dX6_isModel_9 : decode cX6_isModel 9 = .ok (.iconst 1, 1) := by decide +kernel
theorem dX6_isModel_10 : decode cX6_isModel 10 = .ok (.goto 4, 3) := by decide +kernel
theorem dX6_isModel_13 : decode cX6_isModel 13 = .ok (.iconst 0, 1) := by decide +kernel
theorem dX6_isModel_14 : decode cX6_isModel 14 = .ok (.ireturn, 1) := by decide +kernel
theorem dX6_isSideOrPart_0 : decode cX6_isSideOrPart 0 = .ok (.iload_n 0, 1) := by decide +kernel
theorem dX6_isSideOrPart_1 : decode cX6_isSideOrPart 1 = .ok (.ifCond .eq 8, 3) := by decide +kernel
theorem dX6_isSideOrPart_4 : decode cX6_isSideOrPart 4 = .ok (.iload_n 0, 1) := by decide +kernel
theorem dX6_isSideOrPart_5 : decode cX6_isSideOrPart 5 = .ok (.iconst 1, 1) := by decide +kernel
theorem dX6_isSideOrPart_6 : decode cX6_isSideOrPart 6 = .ok (.if_icmp .ne 7, 3) := by decide +kernel
theorem dX6_isSideOrPart_9 : decode cX6_isSideOrPart 9 = .ok (.iconst 1, 1) := by decide +kernel
theorem dX6_isSideOrPart_10 : decode cX6_isSideOrPart 10 = .ok (.goto 4, 3) := by decide +kernel
theorem dX6_isSideOrPart_13 : decode cX6_isSideOrPart 13 = .ok (.iconst 0, 1) := by decide +kernel
theorem dX6_isSideOrPart_14 : decode cX6_isSideOrPart 14 = .ok (.ireturn, 1) := by decide +kernel
set_option maxRecDepth 20000 in
theorem ggX6_sumOfWeights_X5_of : GoodIn wsX6_sumOfWeights wsX5_of := goodIn_r _ [7, 8, 9, 10, 11, 12, 13, 14, 15, 16, 17, 18, 19, 20, 21, 22, 6, 23, 24, 25, 26, 27, 28, 29, 30, 31, 32, 33, 34, 35, 36, 37, 38, 39, 40, 41, 42, 43, 44, 45, 46, 47, 48, 49, 50, 51, 52, 53, 54, 55, 56, 57, 58, 59, 60, 61, 62, 63, 64, 65, 66, 67, 68, 69, 70, 71, 72, 73, 74, 75, 76, 77, 78, 79, 80, 81, 82, 83, 84, 85, 86, 87, 88, 89, 90, 101, 102, 103, 104, 105, 106, 107, 108, 109, 110, 111, 112, 113, 114, 115, 116, 117, 118, 119, 120] (by decide +kernel) (by decide +kernel)
set_option maxRecDepth 20000 in
theorem gX6_sumOfWeights_X5_of : GoodIn wsX6_sumOfWeights (wsV RX6 120 RX5 yX5_of wsX5_of) := goodIn_app (goodIn_of _ (by decide +kernel)) ggX6_sumOfWeights_X5_of
theorem dX6_sumOfWeights_0 : decode cX6_sumOfWeights 0 = .ok (.lconst 0, 1) := by decide +kernel
theorem dX6_sumOfWeights_1 : decode cX6_sumOfWeights 1 = .ok (.lstore_n 1, 1) := by decide +kernel
theorem dX6_sumOfWeights_2 : decode cX6_sumOfWeights 2 = .ok (.iconst 0, 1) := by decide +kernel
theorem dX6_sumOfWeights_3 : decode cX6_sumOfWeights 3 = .ok (.istore_n 3, 1) := by decide +kernel
theorem dX6_sumOfWeights_4 : decode cX6_sumOfWeights 4 = .ok (.iload_n 3, 1) := by decide +kernel
theorem dX6_sumOfWeights_5 : decode cX6_sumOfWeights 5 = .ok (.aload_n 0, 1) := by decide +kernel
theorem dX6_sumOfWeights_6 : decode cX6_sumOfWeights 6 = .ok (.getfield 63, 3) := by decide +kernel
theorem dX6_sumOfWeights_9 : decode cX6_sumOfWeights 9 = .ok (.if_icmp .ge 20, 3) := by decide +kernel
theorem dX6_sumOfWeights_12 : decode cX6_sumOfWeights 12 = .ok (.lload_n 1, 1) := by decide +kernel
theorem dX6_sumOfWeights_13 : decode cX6_sumOfWeights 13 = .ok (.aload_n 0, 1) := by decide +kernel
theorem dX6_sumOfWeights_14 : decode cX6_sumOfWeights 14 = .ok (.getfield 30, 3) := by decide +kernel
theorem dX6_sumOfWeights_17 : decode cX6_sumOfWeights 17 = .ok (.iload_n 3, 1) := by decide +kernel
theorem dX6_sumOfWeights_18 : decode cX6_sumOfWeights 18 = .ok (.invokevirtual 120, 3) := by decide +kernel
theorem dX6_sumOfWeights_21 : decode cX6_sumOfWeights 21 = .ok (.ladd, 1) := by decide +kernel
theorem dX6_sumOfWeights_22 : decode cX6_sumOfWeights 22 = .ok (.lstore_n 1, 1) := by decide +kernel
theorem dX6_sumOfWeights_23 : decode cX6_sumOfWeights 23 = .ok (.iinc 3 1, 3) := by decide +kernel
theorem dX6_sumOfWeights_26 : decode cX6_sumOfWeights 26 = .ok (.goto (-22), 3) := by decide +kernel
theorem dX6_sumOfWeights_29 : decode cX6_sumOfWeights 29 = .ok (.lload_n 1, 1) := by decide +kernel
theorem dX6_sumOfWeights_30 : decode cX6_sumOfWeights 30 = .ok (.lreturn, 1) := by decide +kernel
set_option maxRecDepth 20000 in
theorem ggX6_graphAt_X5_of : GoodIn wsX6_graphAt wsX5_of := goodIn_r _ [8, 9, 10, 11, 12, 13, 14, 15, 16, 17, 18, 19, 20, 21, 22, 23, 7, 24, 25, 26, 27, 28, 29, 30, 31, 32, 33, 34, 35, 36, 37, 38, 39, 40, 41, 42, 43, 44, 45, 46, 47, 48, 49, 50, 51, 52, 53, 54, 55, 56, 57, 58, 59, 60, 61, 62, 63, 64, 65, 66, 67, 68, 69, 70, 71, 72, 73, 74, 75, 76, 77, 78, 79, 80, 81, 82, 83, 84, 85, 86, 87, 88, 89, 90, 91, 102, 103, 104, 105, 106, 107, 108, 109, 110, 111, 112, 113, 114, 115, 116, 117, 118, 119, 120, 121] (by decide +kernel) (by decide +kernel)
set_option maxRecDepth 20000 in
theorem gX6_graphAt_X5_of : GoodIn wsX6_graphAt (wsV RX6 120 RX5 yX5_of wsX5_of) := goodIn_app (goodIn_of _ (by decide +kernel)) ggX6_graphAt_X5_of
theorem dX6_graphAt_0 : decode cX6_graphAt 0 = .ok (.lconst 0, 1) := by decide +kernel
theorem dX6_graphAt_1 : decode cX6_graphAt 1 = .ok (.lstore_n 3, 1) := by decide +kernel
theorem dX6_graphAt_2 : decode cX6_graphAt 2 = .ok (.iconst 0, 1) := by decide +kernel
theorem dX6_graphAt_3 : decode cX6_graphAt 3 = .ok (.istore 5, 2) := by decide +kernel
theorem dX6_graphAt_5 : decode cX6_graphAt 5 = .ok (.iload 5, 2) := by decide +kernel
theorem dX6_graphAt_7 : decode cX6_graphAt 7 = .ok (.aload_n 0, 1) := by decide +kernel
theorem dX6_graphAt_8 : decode cX6_graphAt 8 = .ok (.getfield 63, 3) := by decide +kernel
theorem dX6_graphAt_11 : decode cX6_graphAt 11 = .ok (.if_icmp .ge 30, 3) := by decide +kernel
theorem dX6_graphAt_14 : decode cX6_graphAt 14 = .ok (.lload_n 3, 1) := by decide +kernel
theorem dX6_graphAt_15 : decode cX6_graphAt 15 = .ok (.aload_n 0, 1) := by decide +kernel
theorem dX6_graphAt_16 : decode cX6_graphAt 16 = .ok (.getfield 30, 3) := by decide +kernel
theorem dX6_graphAt_19 : decode cX6_graphAt 19 = .ok (.iload 5, 2) := by decide +kernel
theorem dX6_graphAt_21 : decode cX6_graphAt 21 = .ok (.invokevirtual 120, 3) := by decide +kernel
theorem dX6_graphAt_24 : decode cX6_graphAt 24 = .ok (.ladd, 1) := by decide +kernel
theorem dX6_graphAt_25 : decode cX6_graphAt 25 = .ok (.lstore_n 3, 1) := by decide +kernel
theorem dX6_graphAt_26 : decode cX6_graphAt 26 = .ok (.lload_n 3, 1) := by decide +kernel
theorem dX6_graphAt_27 : decode cX6_graphAt 27 = .ok (.lload_n 1, 1) := by decide +kernel
theorem dX6_graphAt_28 : decode cX6_graphAt 28 = .ok (.lcmp, 1) := by decide +kernel
theorem dX6_graphAt_29 : decode cX6_graphAt 29 = .ok (.ifCond .le 6, 3) := by decide +kernel
theorem dX6_graphAt_32 : decode cX6_graphAt 32 = .ok (.iload 5, 2) := by decide +kernel
theorem dX6_graphAt_34 : decode cX6_graphAt 34 = .ok (.ireturn, 1) := by decide +kernel
theorem dX6_graphAt_35 : decode cX6_graphAt 35 = .ok (.iinc 5 1, 3) := by decide +kernel
theorem dX6_graphAt_38 : decode cX6_graphAt 38 = .ok (.goto (-33), 3) := by decide +kernel
theorem dX6_graphAt_41 : decode cX6_graphAt 41 = .ok (.aload_n 0, 1) := by decide +kernel
theorem dX6_graphAt_42 : decode cX6_graphAt 42 = .ok (.getfield 66, 3) := by decide +kernel
theorem dX6_graphAt_45 : decode cX6_graphAt 45 = .ok (.ireturn, 1) := by decide +kernel
set_option maxRecDepth 20000 in
theorem ggX6_trySwap_J6_bitCount_0f7a4 : GoodIn wsX6_trySwap wsJ6_bitCount_0f7a4 := goodIn_r _ [8, 9, 10, 11] (by decide +kernel) (by decide +kernel)
set_option maxRecDepth 20000 in
theorem gX6_trySwap_J6_bitCount_0f7a4 : GoodIn wsX6_trySwap (va_wsS RX6 174 yJ6_bitCount_0f7a4 wsJ6_bitCount_0f7a4) := goodIn_app (goodIn_of _ (by decide +kernel)) ggX6_trySwap_J6_bitCount_0f7a4
set_option maxRecDepth 20000 in
theorem ggX6_trySwap_X0_below : GoodIn wsX6_trySwap wsX0_below := goodIn_r _ [16, 17, 18, 19, 20, 21, 54] (by decide +kernel) (by decide +kernel)
set_option maxRecDepth 20000 in
theorem gX6_trySwap_X0_below : GoodIn wsX6_trySwap (wsV RX6 157 RX0 yX0_below wsX0_below) := goodIn_app (goodIn_of _ (by decide +kernel)) ggX6_trySwap_X0_below
set_option maxRecDepth 20000 in
theorem ggX6_trySwap_X6_edgeAt : GoodIn wsX6_trySwap wsX6_edgeAt := goodIn_r _ [26, 1, 44, 45, 46, 47, 48, 49, 50, 51, 52, 53] (by decide +kernel) (by decide +kernel)
set_option maxRecDepth 20000 in
theorem gX6_trySwap_X6_edgeAt : GoodIn wsX6_trySwap (wsV RX6 179 RX6 yX6_edgeAt wsX6_edgeAt) := goodIn_app (goodIn_of _ (by decide +kernel)) ggX6_trySwap_X6_edgeAt
set_option maxRecDepth 20000 in
theorem ggX6_trySwap_X1_low : GoodIn wsX6_trySwap wsX1_low := goodIn_r _ [31, 32, 55, 56, 57] (by decide +kernel) (by decide +kernel)
set_option maxRecDepth 20000 in
theorem gX6_trySwap_X1_low : GoodIn wsX6_trySwap (wsV RX6 184 RX1 yX1_low wsX1_low) := goodIn_app (goodIn_of _ (by decide +kernel)) ggX6_trySwap_X1_low
set_option maxRecDepth 20000 in
theorem ggX6_trySwap_X1_high : GoodIn wsX6_trySwap wsX1_high := goodIn_r _ [36, 37, 55, 56, 57] (by decide +kernel) (by decide +kernel)
set_option maxRecDepth 20000 in
theorem gX6_trySwap_X1_high : GoodIn wsX6_trySwap (wsV RX6 187 RX1 yX1_high wsX1_high) := goodIn_app (goodIn_of _ (by decide +kernel)) ggX6_trySwap_X1_high
set_option maxRecDepth 20000 in
theorem ggX6_trySwap_X1_indexOf : GoodIn wsX6_trySwap wsX1_indexOf := goodIn_r _ [40, 41, 42, 30, 43] (by decide +kernel) (by decide +kernel)
set_option maxRecDepth 20000 in
theorem gX6_trySwap_X1_indexOf : GoodIn wsX6_trySwap (va_wsS RX6 88 yX1_indexOf wsX1_indexOf) := goodIn_app (goodIn_of _ (by decide +kernel)) ggX6_trySwap_X1_indexOf
theorem dX6_trySwap_0 : decode cX6_trySwap 0 = .ok (.aload_n 0, 1) := by decide +kernel
theorem dX6_trySwap_1 : decode cX6_trySwap 1 = .ok (.getfield 66, 3) := by decide +kernel
theorem dX6_trySwap_4 : decode cX6_trySwap 4 = .ok (.invokestatic 174, 3) := by decide +kernel
theorem dX6_trySwap_7 : decode cX6_trySwap 7 = .ok (.istore_n 1, 1) := by decide +kernel
theorem dX6_trySwap_8 : decode cX6_trySwap 8 = .ok (.iload_n 1, 1) := by decide +kernel
theorem dX6_trySwap_9 : decode cX6_trySwap 9 = .ok (.iconst 2, 1) := by decide +kernel
theorem dX6_trySwap_10 : decode cX6_trySwap 10 = .ok (.if_icmp .ge 5, 3) := by decide +kernel
theorem dX6_trySwap_13 : decode cX6_trySwap 13 = .ok (.iconst 0, 1) := by decide +kernel
theorem dX6_trySwap_14 : decode cX6_trySwap 14 = .ok (.ireturn, 1) := by decide +kernel
theorem dX6_trySwap_15 : decode cX6_trySwap 15 = .ok (.aload_n 0, 1) := by decide +kernel
theorem dX6_trySwap_16 : decode cX6_trySwap 16 = .ok (.aload_n 0, 1) := by decide +kernel
theorem dX6_trySwap_17 : decode cX6_trySwap 17 = .ok (.getfield 37, 3) := by decide +kernel
theorem dX6_trySwap_20 : decode cX6_trySwap 20 = .ok (.iload_n 1, 1) := by decide +kernel
theorem dX6_trySwap_21 : decode cX6_trySwap 21 = .ok (.i2l, 1) := by decide +kernel
theorem dX6_trySwap_22 : decode cX6_trySwap 22 = .ok (.invokevirtual 157, 3) := by decide +kernel
theorem dX6_trySwap_25 : decode cX6_trySwap 25 = .ok (.l2i, 1) := by decide +kernel
theorem dX6_trySwap_26 : decode cX6_trySwap 26 = .ok (.invokevirtual 179, 3) := by decide +kernel
theorem dX6_trySwap_29 : decode cX6_trySwap 29 = .ok (.istore_n 2, 1) := by decide +kernel
theorem dX6_trySwap_30 : decode cX6_trySwap 30 = .ok (.aload_n 0, 1) := by decide +kernel
theorem dX6_trySwap_31 : decode cX6_trySwap 31 = .ok (.aload_n 0, 1) := by decide +kernel
theorem dX6_trySwap_32 : decode cX6_trySwap 32 = .ok (.getfield 37, 3) := by decide +kernel
theorem dX6_trySwap_35 : decode cX6_trySwap 35 = .ok (.iload_n 1, 1) := by decide +kernel
theorem dX6_trySwap_36 : decode cX6_trySwap 36 = .ok (.i2l, 1) := by decide +kernel
theorem dX6_trySwap_37 : decode cX6_trySwap 37 = .ok (.invokevirtual 157, 3) := by decide +kernel
theorem dX6_trySwap_40 : decode cX6_trySwap 40 = .ok (.l2i, 1) := by decide +kernel
theorem dX6_trySwap_41 : decode cX6_trySwap 41 = .ok (.invokevirtual 179, 3) := by decide +kernel
theorem dX6_trySwap_44 : decode cX6_trySwap 44 = .ok (.istore_n 3, 1) := by decide +kernel
theorem dX6_trySwap_45 : decode cX6_trySwap 45 = .ok (.aload_n 0, 1) := by decide +kernel
theorem dX6_trySwap_46 : decode cX6_trySwap 46 = .ok (.getfield 37, 3) := by decide +kernel
theorem dX6_trySwap_49 : decode cX6_trySwap 49 = .ok (.ldc2_w 182, 3) := by decide +kernel
theorem dX6_trySwap_52 : decode cX6_trySwap 52 = .ok (.invokevirtual 157, 3) := by decide +kernel
theorem dX6_trySwap_55 : decode cX6_trySwap 55 = .ok (.lconst 0, 1) := by decide +kernel
theorem dX6_trySwap_56 : decode cX6_trySwap 56 = .ok (.lcmp, 1) := by decide +kernel
theorem dX6_trySwap_57 : decode cX6_trySwap 57 = .ok (.ifCond .ne 7, 3) := by decide +kernel
theorem dX6_trySwap_60 : decode cX6_trySwap 60 = .ok (.iconst 1, 1) := by decide +kernel
theorem dX6_trySwap_61 : decode cX6_trySwap 61 = .ok (.goto 4, 3) := by decide +kernel
theorem dX6_trySwap_64 : decode cX6_trySwap 64 = .ok (.iconst 0, 1) := by decide +kernel
theorem dX6_trySwap_65 : decode cX6_trySwap 65 = .ok (.istore 4, 2) := by decide +kernel
theorem dX6_trySwap_67 : decode cX6_trySwap 67 = .ok (.aload_n 0, 1) := by decide +kernel
theorem dX6_trySwap_68 : decode cX6_trySwap 68 = .ok (.getfield 12, 3) := by decide +kernel
theorem dX6_trySwap_71 : decode cX6_trySwap 71 = .ok (.iload_n 2, 1) := by decide +kernel
theorem dX6_trySwap_72 : decode cX6_trySwap 72 = .ok (.invokevirtual 184, 3) := by decide +kernel
theorem dX6_trySwap_75 : decode cX6_trySwap 75 = .ok (.istore 5, 2) := by decide +kernel
theorem dX6_trySwap_77 : decode cX6_trySwap 77 = .ok (.aload_n 0, 1) := by decide +kernel
theorem dX6_trySwap_78 : decode cX6_trySwap 78 = .ok (.getfield 12, 3) := by decide +kernel
theorem dX6_trySwap_81 : decode cX6_trySwap 81 = .ok (.iload_n 2, 1) := by decide +kernel
theorem dX6_trySwap_82 : decode cX6_trySwap 82 = .ok (.invokevirtual 187, 3) := by decide +kernel
theorem dX6_trySwap_85 : decode cX6_trySwap 85 = .ok (.istore 6, 2) := by decide +kernel
theorem dX6_trySwap_87 : decode cX6_trySwap 87 = .ok (.aload_n 0, 1) := by decide +kernel
theorem dX6_trySwap_88 : decode cX6_trySwap 88 = .ok (.getfield 12, 3) := by decide +kernel
theorem dX6_trySwap_91 : decode cX6_trySwap 91 = .ok (.iload_n 3, 1) := by decide +kernel
theorem dX6_trySwap_92 : decode cX6_trySwap 92 = .ok (.invokevirtual 184, 3) := by decide +kernel
theorem dX6_trySwap_95 : decode cX6_trySwap 95 = .ok (.istore 7, 2) := by decide +kernel
theorem dX6_trySwap_97 : decode cX6_trySwap 97 = .ok (.aload_n 0, 1) := by decide +kernel
theorem dX6_trySwap_98 : decode cX6_trySwap 98 = .ok (.getfield 12, 3) := by decide +kernel
theorem dX6_trySwap_101 : decode cX6_trySwap 101 = .ok (.iload_n 3, 1) := by decide +kernel
theorem dX6_trySwap_102 : decode cX6_trySwap 102 = .ok (.invokevirtual 187, 3) := by decide +kernel
theorem dX6_trySwap_105 : decode cX6_trySwap 105 = .ok (.istore 8, 2) := by decide +kernel
theorem dX6_trySwap_107 : decode cX6_trySwap 107 = .ok (.iload 5, 2) := by decide +kernel
theorem dX6_trySwap_109 : decode cX6_trySwap 109 = .ok (.iload 7, 2) := by decide +kernel
theorem dX6_trySwap_111 : decode cX6_trySwap 111 = .ok (.if_icmp .eq 24, 3) := by decide +kernel
theorem dX6_trySwap_114 : decode cX6_trySwap 114 = .ok (.iload 5, 2) := by decide +kernel
theorem dX6_trySwap_116 : decode cX6_trySwap 116 = .ok (.iload 8, 2) := by decide +kernel
theorem dX6_trySwap_118 : decode cX6_trySwap 118 = .ok (.if_icmp .eq 17, 3) := by decide +kernel
theorem dX6_trySwap_121 : decode cX6_trySwap 121 = .ok (.iload 6, 2) := by decide +kernel
theorem dX6_trySwap_123 : decode cX6_trySwap 123 = .ok (.iload 7, 2) := by decide +kernel
theorem dX6_trySwap_125 : decode cX6_trySwap 125 = .ok (.if_icmp .eq 10, 3) := by decide +kernel
theorem dX6_trySwap_128 : decode cX6_trySwap 128 = .ok (.iload 6, 2) := by decide +kernel
theorem dX6_trySwap_130 : decode cX6_trySwap 130 = .ok (.iload 8, 2) := by decide +kernel
theorem dX6_trySwap_132 : decode cX6_trySwap 132 = .ok (.if_icmp .ne 5, 3) := by decide +kernel
theorem dX6_trySwap_135 : decode cX6_trySwap 135 = .ok (.iconst 0, 1) := by decide +kernel
theorem dX6_trySwap_136 : decode cX6_trySwap 136 = .ok (.ireturn, 1) := by decide +kernel
theorem dX6_trySwap_137 : decode cX6_trySwap 137 = .ok (.iconst 1, 1) := by decide +kernel
theorem dX6_trySwap_138 : decode cX6_trySwap 138 = .ok (.iload 4, 2) := by decide +kernel
theorem dX6_trySwap_140 : decode cX6_trySwap 140 = .ok (.ifCond .eq 13, 3) := by decide +kernel
theorem dX6_trySwap_143 : decode cX6_trySwap 143 = .ok (.iload 5, 2) := by decide +kernel
theorem dX6_trySwap_145 : decode cX6_trySwap 145 = .ok (.iload 8, 2) := by decide +kernel
theorem dX6_trySwap_147 : decode cX6_trySwap 147 = .ok (.invokestatic 88, 3) := by decide +kernel
theorem dX6_trySwap_150 : decode cX6_trySwap 150 = .ok (.goto 10, 3) := by decide +kernel
theorem dX6_trySwap_153 : decode cX6_trySwap 153 = .ok (.iload 5, 2) := by decide +kernel
theorem dX6_trySwap_155 : decode cX6_trySwap 155 = .ok (.iload 7, 2) := by decide +kernel
theorem dX6_trySwap_157 : decode cX6_trySwap 157 = .ok (.invokestatic 88, 3) := by decide +kernel
theorem dX6_trySwap_160 : decode cX6_trySwap 160 = .ok (.ishl, 1) := by decide +kernel
theorem dX6_trySwap_161 : decode cX6_trySwap 161 = .ok (.istore 9, 2) := by decide +kernel
theorem dX6_trySwap_163 : decode cX6_trySwap 163 = .ok (.iconst 1, 1) := by decide +kernel
theorem dX6_trySwap_164 : decode cX6_trySwap 164 = .ok (.iload 4, 2) := by decide +kernel
theorem dX6_trySwap_166 : decode cX6_trySwap 166 = .ok (.ifCond .eq 13, 3) := by decide +kernel
theorem dX6_trySwap_169 : decode cX6_trySwap 169 = .ok (.iload 7, 2) := by decide +kernel
theorem dX6_trySwap_171 : decode cX6_trySwap 171 = .ok (.iload 6, 2) := by decide +kernel
theorem dX6_trySwap_173 : decode cX6_trySwap 173 = .ok (.invokestatic 88, 3) := by decide +kernel
theorem dX6_trySwap_176 : decode cX6_trySwap 176 = .ok (.goto 10, 3) := by decide +kernel
theorem dX6_trySwap_179 : decode cX6_trySwap 179 = .ok (.iload 6, 2) := by decide +kernel
theorem dX6_trySwap_181 : decode cX6_trySwap 181 = .ok (.iload 8, 2) := by decide +kernel
theorem dX6_trySwap_183 : decode cX6_trySwap 183 = .ok (.invokestatic 88, 3) := by decide +kernel
theorem dX6_trySwap_186 : decode cX6_trySwap 186 = .ok (.ishl, 1) := by decide +kernel
theorem dX6_trySwap_187 : decode cX6_trySwap 187 = .ok (.istore 10, 2) := by decide +kernel
theorem dX6_trySwap_189 : decode cX6_trySwap 189 = .ok (.aload_n 0, 1) := by decide +kernel
theorem dX6_trySwap_190 : decode cX6_trySwap 190 = .ok (.getfield 66, 3) := by decide +kernel
theorem dX6_trySwap_193 : decode cX6_trySwap 193 = .ok (.iload 9, 2) := by decide +kernel
theorem dX6_trySwap_195 : decode cX6_trySwap 195 = .ok (.iload 10, 2) := by decide +kernel
theorem dX6_trySwap_197 : decode cX6_trySwap 197 = .ok (.ior, 1) := by decide +kernel
theorem dX6_trySwap_198 : decode cX6_trySwap 198 = .ok (.iand, 1) := by decide +kernel
theorem dX6_trySwap_199 : decode cX6_trySwap 199 = .ok (.ifCond .eq 5, 3) := by decide +kernel
theorem dX6_trySwap_202 : decode cX6_trySwap 202 = .ok (.iconst 0, 1) := by decide +kernel
theorem dX6_trySwap_203 : decode cX6_trySwap 203 = .ok (.ireturn, 1) := by decide +kernel
theorem dX6_trySwap_204 : decode cX6_trySwap 204 = .ok (.aload_n 0, 1) := by decide +kernel
theorem dX6_trySwap_205 : decode cX6_trySwap 205 = .ok (.aload_n 0, 1) := by decide +kernel
theorem dX6_trySwap_206 : decode cX6_trySwap 206 = .ok (.getfield 66, 3) := by decide +kernel
theorem dX6_trySwap_209 : decode cX6_trySwap 209 = .ok (.iconst 1, 1) := by decide +kernel
theorem dX6_trySwap_210 : decode cX6_trySwap 210 = .ok (.iload_n 2, 1) := by decide +kernel
theorem dX6_trySwap_211 : decode cX6_trySwap 211 = .ok (.ishl, 1) := by decide +kernel
theorem dX6_trySwap_212 : decode cX6_trySwap 212 = .ok (.iconst (-1), 1) := by decide +kernel
theorem dX6_trySwap_213 : decode cX6_trySwap 213 = .ok (.ixor, 1) := by decide +kernel
theorem dX6_trySwap_214 : decode cX6_trySwap 214 = .ok (.iand, 1) := by decide +kernel
theorem dX6_trySwap_215 : decode cX6_trySwap 215 = .ok (.iconst 1, 1) := by decide +kernel
theorem dX6_trySwap_216 : decode cX6_trySwap 216 = .ok (.iload_n 3, 1) := by decide +kernel
theorem dX6_trySwap_217 : decode cX6_trySwap 217 = .ok (.ishl, 1) := by decide +kernel
theorem dX6_trySwap_218 : decode cX6_trySwap 218 = .ok (.iconst (-1), 1) := by decide +kernel
theorem dX6_trySwap_219 : decode cX6_trySwap 219 = .ok (.ixor, 1) := by decide +kernel
theorem dX6_trySwap_220 : decode cX6_trySwap 220 = .ok (.iand, 1) := by decide +kernel
theorem dX6_trySwap_221 : decode cX6_trySwap 221 = .ok (.iload 9, 2) := by decide +kernel
theorem dX6_trySwap_223 : decode cX6_trySwap 223 = .ok (.ior, 1) := by decide +kernel
theorem dX6_trySwap_224 : decode cX6_trySwap 224 = .ok (.iload 10, 2) := by decide +kernel
theorem dX6_trySwap_226 : decode cX6_trySwap 226 = .ok (.ior, 1) := by decide +kernel
theorem dX6_trySwap_227 : decode cX6_trySwap 227 = .ok (.putfield 66, 3) := by decide +kernel
theorem dX6_trySwap_230 : decode cX6_trySwap 230 = .ok (.iconst 1, 1) := by decide +kernel
theorem dX6_trySwap_231 : decode cX6_trySwap 231 = .ok (.ireturn, 1) := by decide +kernel
theorem dX6_edgeAt_0 : decode cX6_edgeAt 0 = .ok (.iconst 0, 1) := by decide +kernel
theorem dX6_edgeAt_1 : decode cX6_edgeAt 1 = .ok (.istore_n 2, 1) := by decide +kernel
theorem dX6_edgeAt_2 : decode cX6_edgeAt 2 = .ok (.iconst 0, 1) := by decide +kernel
theorem dX6_edgeAt_3 : decode cX6_edgeAt 3 = .ok (.istore_n 3, 1) := by decide +kernel
theorem dX6_edgeAt_4 : decode cX6_edgeAt 4 = .ok (.iload_n 3, 1) := by decide +kernel
theorem dX6_edgeAt_5 : decode cX6_edgeAt 5 = .ok (.bipush 15, 2) := by decide +kernel
theorem dX6_edgeAt_7 : decode cX6_edgeAt 7 = .ok (.if_icmp .ge 30, 3) := by decide +kernel
theorem dX6_edgeAt_10 : decode cX6_edgeAt 10 = .ok (.aload_n 0, 1) := by decide +kernel
theorem dX6_edgeAt_11 : decode cX6_edgeAt 11 = .ok (.getfield 66, 3) := by decide +kernel
theorem dX6_edgeAt_14 : decode cX6_edgeAt 14 = .ok (.iload_n 3, 1) := by decide +kernel
theorem dX6_edgeAt_15 : decode cX6_edgeAt 15 = .ok (.ishr, 1) := by decide +kernel
theorem dX6_edgeAt_16 : decode cX6_edgeAt 16 = .ok (.iconst 1, 1) := by decide +kernel
theorem dX6_edgeAt_17 : decode cX6_edgeAt 17 = .ok (.iand, 1) := by decide +kernel
theorem dX6_edgeAt_18 : decode cX6_edgeAt 18 = .ok (.ifCond .eq 13, 3) := by decide +kernel
theorem dX6_edgeAt_21 : decode cX6_edgeAt 21 = .ok (.iload_n 2, 1) := by decide +kernel
theorem dX6_edgeAt_22 : decode cX6_edgeAt 22 = .ok (.iload_n 1, 1) := by decide +kernel
theorem dX6_edgeAt_23 : decode cX6_edgeAt 23 = .ok (.if_icmp .ne 5, 3) := by decide +kernel
theorem dX6_edgeAt_26 : decode cX6_edgeAt 26 = .ok (.iload_n 3, 1) := by decide +kernel
theorem dX6_edgeAt_27 : decode cX6_edgeAt 27 = .ok (.ireturn, 1) := by decide +kernel
theorem dX6_edgeAt_28 : decode cX6_edgeAt 28 = .ok (.iinc 2 1, 3) := by decide +kernel
theorem dX6_edgeAt_31 : decode cX6_edgeAt 31 = .ok (.iinc 3 1, 3) := by decide +kernel
theorem dX6_edgeAt_34 : decode cX6_edgeAt 34 = .ok (.goto (-30), 3) := by decide +kernel
theorem dX6_edgeAt_37 : decode cX6_edgeAt 37 = .ok (.iconst 0, 1) := by decide +kernel
theorem dX6_edgeAt_38 : decode cX6_edgeAt 38 = .ok (.ireturn, 1) := by decide +kernel
set_option maxRecDepth 20000 in
theorem ggX6_tell_X6_commonDivisor : GoodIn wsX6_tell wsX6_commonDivisor := goodIn_r _ [4] (by decide +kernel) (by decide +kernel)
set_option maxRecDepth 20000 in
theorem gX6_tell_X6_commonDivisor : GoodIn wsX6_tell (va_wsS RX6 190 yX6_commonDivisor wsX6_commonDivisor) := goodIn_app (goodIn_of _ (by decide +kernel)) ggX6_tell_X6_commonDivisor
theorem dX6_tell_0 : decode cX6_tell 0 = .ok (.lload_n 0, 1) := by decide +kernel
theorem dX6_tell_1 : decode cX6_tell 1 = .ok (.lload_n 2, 1) := by decide +kernel
theorem dX6_tell_2 : decode cX6_tell 2 = .ok (.invokestatic 190, 3) := by decide +kernel
theorem dX6_tell_5 : decode cX6_tell 5 = .ok (.lstore 5, 2) := by decide +kernel
theorem dX6_tell_7 : decode cX6_tell 7 = .ok (.lload 5, 2) := by decide +kernel
theorem dX6_tell_9 : decode cX6_tell 9 = .ok (.lconst 1, 1) := by decide +kernel
theorem dX6_tell_10 : decode cX6_tell 10 = .ok (.lcmp, 1) := by decide +kernel
theorem dX6_tell_11 : decode cX6_tell 11 = .ok (.ifCond .ge 14, 3) := by decide +kernel
theorem dX6_tell_14 : decode cX6_tell 14 = .ok (.iload 4, 2) := by decide +kernel
theorem dX6_tell_16 : decode cX6_tell 16 = .ok (.ifCond .ne 7, 3) := by decide +kernel
theorem dX6_tell_19 : decode cX6_tell 19 = .ok (.lconst 0, 1) := by decide +kernel
theorem dX6_tell_20 : decode cX6_tell 20 = .ok (.goto 4, 3) := by decide +kernel
theorem dX6_tell_23 : decode cX6_tell 23 = .ok (.lconst 1, 1) := by decide +kernel
theorem dX6_tell_24 : decode cX6_tell 24 = .ok (.lreturn, 1) := by decide +kernel
theorem dX6_tell_25 : decode cX6_tell 25 = .ok (.iload 4, 2) := by decide +kernel
theorem dX6_tell_27 : decode cX6_tell 27 = .ok (.ifCond .ne 7, 3) := by decide +kernel
theorem dX6_tell_30 : decode cX6_tell 30 = .ok (.lload_n 0, 1) := by decide +kernel
theorem dX6_tell_31 : decode cX6_tell 31 = .ok (.goto 4, 3) := by decide +kernel
theorem dX6_tell_34 : decode cX6_tell 34 = .ok (.lload_n 2, 1) := by decide +kernel
theorem dX6_tell_35 : decode cX6_tell 35 = .ok (.lload 5, 2) := by decide +kernel
theorem dX6_tell_37 : decode cX6_tell 37 = .ok (.ldiv, 1) := by decide +kernel
theorem dX6_tell_38 : decode cX6_tell 38 = .ok (.lreturn, 1) := by decide +kernel
theorem dX6_commonDivisor_0 : decode cX6_commonDivisor 0 = .ok (.lload_n 0, 1) := by decide +kernel
theorem dX6_commonDivisor_1 : decode cX6_commonDivisor 1 = .ok (.lstore 4, 2) := by decide +kernel
theorem dX6_commonDivisor_3 : decode cX6_commonDivisor 3 = .ok (.lload_n 2, 1) := by decide +kernel
theorem dX6_commonDivisor_4 : decode cX6_commonDivisor 4 = .ok (.lstore 6, 2) := by decide +kernel
theorem dX6_commonDivisor_6 : decode cX6_commonDivisor 6 = .ok (.iconst 0, 1) := by decide +kernel
theorem dX6_commonDivisor_7 : decode cX6_commonDivisor 7 = .ok (.istore 8, 2) := by decide +kernel
theorem dX6_commonDivisor_9 : decode cX6_commonDivisor 9 = .ok (.iload 8, 2) := by decide +kernel
theorem dX6_commonDivisor_11 : decode cX6_commonDivisor 11 = .ok (.sipush 200, 3) := by decide +kernel
theorem dX6_commonDivisor_14 : decode cX6_commonDivisor 14 = .ok (.if_icmp .ge 31, 3) := by decide +kernel
theorem dX6_commonDivisor_17 : decode cX6_commonDivisor 17 = .ok (.lload 6, 2) := by decide +kernel
theorem dX6_commonDivisor_19 : decode cX6_commonDivisor 19 = .ok (.lconst 0, 1) := by decide +kernel
theorem dX6_commonDivisor_20 : decode cX6_commonDivisor 20 = .ok (.lcmp, 1) := by decide +kernel
theorem dX6_commonDivisor_21 : decode cX6_commonDivisor 21 = .ok (.ifCond .eq 24, 3) := by decide +kernel
theorem dX6_commonDivisor_24 : decode cX6_commonDivisor 24 = .ok (.lload 4, 2) := by decide +kernel
theorem dX6_commonDivisor_26 : decode cX6_commonDivisor 26 = .ok (.lload 6, 2) := by decide +kernel
theorem dX6_commonDivisor_28 : decode cX6_commonDivisor 28 = .ok (.lrem, 1) := by decide +kernel
theorem dX6_commonDivisor_29 : decode cX6_commonDivisor 29 = .ok (.lstore 9, 2) := by decide +kernel
theorem dX6_commonDivisor_31 : decode cX6_commonDivisor 31 = .ok (.lload 6, 2) := by decide +kernel
theorem dX6_commonDivisor_33 : decode cX6_commonDivisor 33 = .ok (.lstore 4, 2) := by decide +kernel
theorem dX6_commonDivisor_35 : decode cX6_commonDivisor 35 = .ok (.lload 9, 2) := by decide +kernel
theorem dX6_commonDivisor_37 : decode cX6_commonDivisor 37 = .ok (.lstore 6, 2) := by decide +kernel
theorem dX6_commonDivisor_39 : decode cX6_commonDivisor 39 = .ok (.iinc 8 1, 3) := by decide +kernel
theorem dX6_commonDivisor_42 : decode cX6_commonDivisor 42 = .ok (.goto (-33), 3) := by decide +kernel
theorem dX6_commonDivisor_45 : decode cX6_commonDivisor 45 = .ok (.lload 4, 2) := by decide +kernel
theorem dX6_commonDivisor_47 : decode cX6_commonDivisor 47 = .ok (.lreturn, 1) := by decide +kernel
theorem dX7_init_0 : decode cX7_init 0 = .ok (.aload_n 0, 1) := by decide +kernel
theorem dX7_init_1 : decode cX7_init 1 = .ok (.invokespecial 1, 3) := by decide +kernel
theorem dX7_init_4 : decode cX7_init 4 = .ok (.aload_n 0, 1) := by decide +kernel
theorem dX7_init_5 : decode cX7_init 5 = .ok (.iconst 1, 1) := by decide +kernel
theorem dX7_init_6 : decode cX7_init 6 = .ok (.putfield 7, 3) := by decide +kernel
theorem dX7_init_9 : decode cX7_init 9 = .ok (.aload_n 0, 1) := by decide +kernel
theorem dX7_init_10 : decode cX7_init 10 = .ok (.bipush 6, 2) := by decide +kernel
theorem dX7_init_12 : decode cX7_init 12 = .ok (.newarray .int, 2) := by decide +kernel
theorem dX7_init_14 : decode cX7_init 14 = .ok (.putfield 13, 3) := by decide +kernel
theorem dX7_init_17 : decode cX7_init 17 = .ok (.aload_n 0, 1) := by decide +kernel
theorem dX7_init_18 : decode cX7_init 18 = .ok (.iconst 1, 1) := by decide +kernel
theorem dX7_init_19 : decode cX7_init 19 = .ok (.putfield 17, 3) := by decide +kernel
theorem dX7_init_22 : decode cX7_init 22 = .ok (.aload_n 0, 1) := by decide +kernel
theorem dX7_init_23 : decode cX7_init 23 = .ok (.iconst 2, 1) := by decide +kernel
theorem dX7_init_24 : decode cX7_init 24 = .ok (.putfield 20, 3) := by decide +kernel
theorem dX7_init_27 : decode cX7_init 27 = .ok (.aload_n 0, 1) := by decide +kernel
theorem dX7_init_28 : decode cX7_init 28 = .ok (.iconst 1, 1) := by decide +kernel
theorem dX7_init_29 : decode cX7_init 29 = .ok (.putfield 23, 3) := by decide +kernel
theorem dX7_init_32 : decode cX7_init 32 = .ok (.aload_n 0, 1) := by decide +kernel
theorem dX7_init_33 : decode cX7_init 33 = .ok (.iconst 1, 1) := by decide +kernel
theorem dX7_init_34 : decode cX7_init 34 = .ok (.putfield 26, 3) := by decide +kernel
theorem dX7_init_37 : decode cX7_init 37 = .ok (.aload_n 0, 1) := by decide +kernel
theorem dX7_init_38 : decode cX7_init 38 = .ok (.bipush 6, 2) := by decide +kernel
theorem dX7_init_40 : decode cX7_init 40 = .ok (.newarray .int, 2) := by decide +kernel
theorem dX7_init_42 : decode cX7_init 42 = .ok (.putfield 29, 3) := by decide +kernel
theorem dX7_init_45 : decode cX7_init 45 = .ok (.aload_n 0, 1) := by decide +kernel
theorem dX7_init_46 : decode cX7_init 46 = .ok (.iconst (-1), 1) := by decide +kernel
theorem dX7_init_47 : decode cX7_init 47 = .ok (.putfield 32, 3) := by decide +kernel
theorem dX7_init_50 : decode cX7_init 50 = .ok (.aload_n 0, 1) := by decide +kernel
theorem dX7_init_51 : decode cX7_init 51 = .ok (.ldc 35, 2) := by decide +kernel
theorem dX7_init_53 : decode cX7_init 53 = .ok (.newarray .byte, 2) := by decide +kernel
theorem dX7_init_55 : decode cX7_init 55 = .ok (.putfield 36, 3) := by decide +kernel
theorem dX7_init_58 : decode cX7_init 58 = .ok (.aload_n 0, 1) := by decide +kernel
theorem dX7_init_59 : decode cX7_init 59 = .ok (.ldc 35, 2) := by decide +kernel
theorem dX7_init_61 : decode cX7_init 61 = .ok (.newarray .byte, 2) := by decide +kernel
theorem dX7_init_63 : decode cX7_init 63 = .ok (.putfield 40, 3) := by decide +kernel
theorem dX7_init_66 : decode cX7_init 66 = .ok (.aload_n 0, 1) := by decide +kernel
theorem dX7_init_67 : decode cX7_init 67 = .ok (.bipush 16, 2) := by decide +kernel
theorem dX7_init_69 : decode cX7_init 69 = .ok (.newarray .long, 2) := by decide +kernel
theorem dX7_init_71 : decode cX7_init 71 = .ok (.putfield 43, 3) := by decide +kernel
theorem dX7_init_74 : decode cX7_init 74 = .ok (.aload_n 0, 1) := by decide +kernel
theorem dX7_init_75 : decode cX7_init 75 = .ok (.bipush 6, 2) := by decide +kernel
theorem dX7_init_77 : decode cX7_init 77 = .ok (.newarray .int, 2) := by decide +kernel
theorem dX7_init_79 : decode cX7_init 79 = .ok (.putfield 47, 3) := by decide +kernel
theorem dX7_init_82 : decode cX7_init 82 = .ok (.aload_n 0, 1) := by decide +kernel
theorem dX7_init_83 : decode cX7_init 83 = .ok (.bipush 6, 2) := by decide +kernel
theorem dX7_init_85 : decode cX7_init 85 = .ok (.newarray .int, 2) := by decide +kernel
theorem dX7_init_87 : decode cX7_init 87 = .ok (.putfield 50, 3) := by decide +kernel
theorem dX7_init_90 : decode cX7_init 90 = .ok (.aload_n 0, 1) := by decide +kernel
theorem dX7_init_91 : decode cX7_init 91 = .ok (.bipush 6, 2) := by decide +kernel
theorem dX7_init_93 : decode cX7_init 93 = .ok (.newarray .int, 2) := by decide +kernel
theorem dX7_init_95 : decode cX7_init 95 = .ok (.putfield 53, 3) := by decide +kernel
theorem dX7_init_98 : decode cX7_init 98 = .ok (.return_, 1) := by decide +kernel
theorem dX7_in_0 : decode cX7_in 0 = .ok (.lload_n 0, 1) := by decide +kernel
theorem dX7_in_1 : decode cX7_in 1 = .ok (.lload_n 2, 1) := by decide +kernel
theorem dX7_in_2 : decode cX7_in 2 = .ok (.lcmp, 1) := by decide +kernel
theorem dX7_in_3 : decode cX7_in 3 = .ok (.ifCond .lt 14, 3) := by decide +kernel
theorem dX7_in_6 : decode cX7_in 6 = .ok (.lload_n 0, 1) := by decide +kernel
theorem dX7_in_7 : decode cX7_in 7 = .ok (.lload 4, 2) := by decide +kernel
theorem dX7_in_9 : decode cX7_in 9 = .ok (.lcmp, 1) := by decide +kernel
theorem dX7_in_10 : decode cX7_in 10 = .ok (.ifCond .gt 7, 3) := by decide +kernel
theorem dX7_in_13 : decode cX7_in 13 = .ok (.iconst 1, 1) := by decide +kernel
theorem dX7_in_14 : decode cX7_in 14 = .ok (.goto 4, 3) := by decide +kernel
theorem dX7_in_17 : decode cX7_in 17 = .ok (.iconst 0, 1) := by decide +kernel
theorem dX7_in_18 : decode cX7_in 18 = .ok (.ireturn, 1) := by decide +kernel
set_option maxRecDepth 20000 in
theorem ggX7_isNode_X7_in : GoodIn wsX7_isNode wsX7_in := goodIn_r _ [5] (by decide +kernel) (by decide +kernel)
set_option maxRecDepth 20000 in
theorem gX7_isNode_X7_in : GoodIn wsX7_isNode (va_wsS RX7 56 yX7_in wsX7_in) := goodIn_app (goodIn_of _ (by decide +kernel)) ggX7_isNode_X7_in
theorem dX7_isNode_0 : decode cX7_isNode 0 = .ok (.iload_n 1, 1) := by decide +kernel
theorem dX7_isNode_1 : decode cX7_isNode 1 = .ok (.i2l, 1) := by decide +kernel
theorem dX7_isNode_2 : decode cX7_isNode 2 = .ok (.lconst 0, 1) := by decide +kernel
theorem dX7_isNode_3 : decode cX7_isNode 3 = .ok (.aload_n 0, 1) := by decide +kernel
theorem dX7_isNode_4 : decode cX7_isNode 4 = .ok (.getfield 7, 3) := by decide +kernel
theorem dX7_isNode_7 : decode cX7_isNode 7 = .ok (.iconst 1, 1) := by decide +kernel
theorem dX7_isNode_8 : decode cX7_isNode 8 = .ok (.isub, 1) := by decide +kernel
theorem dX7_isNode_9 : decode cX7_isNode 9 = .ok (.i2l, 1) := by decide +kernel
theorem dX7_isNode_10 : decode cX7_isNode 10 = .ok (.invokestatic 56, 3) := by decide +kernel
theorem dX7_isNode_13 : decode cX7_isNode 13 = .ok (.ireturn, 1) := by decide +kernel
set_option maxRecDepth 20000 in
theorem ggX7_isNumber_X7_in : GoodIn wsX7_isNumber wsX7_in := goodIn_r _ [5] (by decide +kernel) (by decide +kernel)
set_option maxRecDepth 20000 in
theorem gX7_isNumber_X7_in : GoodIn wsX7_isNumber (va_wsS RX7 56 yX7_in wsX7_in) := goodIn_app (goodIn_of _ (by decide +kernel)) ggX7_isNumber_X7_in
theorem dX7_isNumber_0 : decode cX7_isNumber 0 = .ok (.iload_n 1, 1) := by decide +kernel
theorem dX7_isNumber_1 : decode cX7_isNumber 1 = .ok (.i2l, 1) := by decide +kernel
theorem dX7_isNumber_2 : decode cX7_isNumber 2 = .ok (.lconst 0, 1) := by decide +kernel
theorem dX7_isNumber_3 : decode cX7_isNumber 3 = .ok (.iconst 1, 1) := by decide +kernel
theorem dX7_isNumber_4 : decode cX7_isNumber 4 = .ok (.aload_n 0, 1) := by decide +kernel
theorem dX7_isNumber_5 : decode cX7_isNumber 5 = .ok (.getfield 60, 3) := by decide +kernel
theorem dX7_isNumber_8 : decode cX7_isNumber 8 = .ok (.ishl, 1) := by decide +kernel
theorem dX7_isNumber_9 : decode cX7_isNumber 9 = .ok (.iconst 1, 1) := by decide +kernel
theorem dX7_isNumber_10 : decode cX7_isNumber 10 = .ok (.isub, 1) := by decide +kernel
theorem dX7_isNumber_11 : decode cX7_isNumber 11 = .ok (.i2l, 1) := by decide +kernel
theorem dX7_isNumber_12 : decode cX7_isNumber 12 = .ok (.invokestatic 56, 3) := by decide +kernel
theorem dX7_isNumber_15 : decode cX7_isNumber 15 = .ok (.ireturn, 1) := by decide +kernel
theorem dX7_pairOf_0 : decode cX7_pairOf 0 = .ok (.iload_n 0, 1) := by decide +kernel
