theorem dX7_choices_18 : decode cX7_choices 18 = .ok (.istore_n 2, 1) := by decide +kernel
theorem dX7_choices_19 : decode cX7_choices 19 = .ok (.iinc 3 1, 3) := by decide +kernel
theorem dX7_choices_22 : decode cX7_choices 22 = .ok (.goto (-18), 3) := by decide +kernel
theorem dX7_choices_25 : decode cX7_choices 25 = .ok (.iload_n 2, 1) := by decide +kernel
theorem dX7_choices_26 : decode cX7_choices 26 = .ok (.ireturn, 1) := by decide +kernel
set_option maxRecDepth 20000 in
theorem ggX7_costOf_X7_has : GoodIn wsX7_costOf wsX7_has := goodIn_r _ [7, 8, 9, 6, 10] (by decide +kernel) (by decide +kernel)
set_option maxRecDepth 20000 in
theorem gX7_costOf_X7_has : GoodIn wsX7_costOf (va_wsS RX7 79 yX7_has wsX7_has) := goodIn_app (goodIn_of _ (by decide +kernel)) ggX7_costOf_X7_has
set_option maxRecDepth 20000 in
theorem ggX7_costOf_X7_choices : GoodIn wsX7_costOf wsX7_choices := goodIn_r _ [13] (by decide +kernel) (by decide +kernel)
set_option maxRecDepth 20000 in
theorem gX7_costOf_X7_choices : GoodIn wsX7_costOf (va_wsS RX7 200 yX7_choices wsX7_choices) := goodIn_app (goodIn_of _ (by decide +kernel)) ggX7_costOf_X7_choices
theorem dX7_costOf_0 : decode cX7_costOf 0 = .ok (.iconst 1, 1) := by decide +kernel
theorem dX7_costOf_1 : decode cX7_costOf 1 = .ok (.istore_n 2, 1) := by decide +kernel
theorem dX7_costOf_2 : decode cX7_costOf 2 = .ok (.iconst 0, 1) := by decide +kernel
theorem dX7_costOf_3 : decode cX7_costOf 3 = .ok (.istore_n 3, 1) := by decide +kernel
theorem dX7_costOf_4 : decode cX7_costOf 4 = .ok (.iload_n 3, 1) := by decide +kernel
theorem dX7_costOf_5 : decode cX7_costOf 5 = .ok (.iload_n 1, 1) := by decide +kernel
theorem dX7_costOf_6 : decode cX7_costOf 6 = .ok (.if_icmp .ge 171, 3) := by decide +kernel
theorem dX7_costOf_9 : decode cX7_costOf 9 = .ok (.iload_n 3, 1) := by decide +kernel
theorem dX7_costOf_10 : decode cX7_costOf 10 = .ok (.istore 4, 2) := by decide +kernel
theorem dX7_costOf_12 : decode cX7_costOf 12 = .ok (.iload 4, 2) := by decide +kernel
theorem dX7_costOf_14 : decode cX7_costOf 14 = .ok (.iload_n 1, 1) := by decide +kernel
theorem dX7_costOf_15 : decode cX7_costOf 15 = .ok (.if_icmp .ge 156, 3) := by decide +kernel
theorem dX7_costOf_18 : decode cX7_costOf 18 = .ok (.iconst 0, 1) := by decide +kernel
theorem dX7_costOf_19 : decode cX7_costOf 19 = .ok (.istore 5, 2) := by decide +kernel
theorem dX7_costOf_21 : decode cX7_costOf 21 = .ok (.iconst 0, 1) := by decide +kernel
theorem dX7_costOf_22 : decode cX7_costOf 22 = .ok (.istore 6, 2) := by decide +kernel
theorem dX7_costOf_24 : decode cX7_costOf 24 = .ok (.iconst 1, 1) := by decide +kernel
theorem dX7_costOf_25 : decode cX7_costOf 25 = .ok (.istore 7, 2) := by decide +kernel
theorem dX7_costOf_27 : decode cX7_costOf 27 = .ok (.iload 7, 2) := by decide +kernel
theorem dX7_costOf_29 : decode cX7_costOf 29 = .ok (.aload_n 0, 1) := by decide +kernel
theorem dX7_costOf_30 : decode cX7_costOf 30 = .ok (.getfield 7, 3) := by decide +kernel
theorem dX7_costOf_33 : decode cX7_costOf 33 = .ok (.if_icmp .ge 122, 3) := by decide +kernel
theorem dX7_costOf_36 : decode cX7_costOf 36 = .ok (.iconst 0, 1) := by decide +kernel
theorem dX7_costOf_37 : decode cX7_costOf 37 = .ok (.istore 8, 2) := by decide +kernel
theorem dX7_costOf_39 : decode cX7_costOf 39 = .ok (.iload 8, 2) := by decide +kernel
theorem dX7_costOf_41 : decode cX7_costOf 41 = .ok (.iload 7, 2) := by decide +kernel
theorem dX7_costOf_43 : decode cX7_costOf 43 = .ok (.if_icmp .ge 106, 3) := by decide +kernel
theorem dX7_costOf_46 : decode cX7_costOf 46 = .ok (.aload_n 0, 1) := by decide +kernel
theorem dX7_costOf_47 : decode cX7_costOf 47 = .ok (.getfield 53, 3) := by decide +kernel
theorem dX7_costOf_50 : decode cX7_costOf 50 = .ok (.iload 8, 2) := by decide +kernel
theorem dX7_costOf_52 : decode cX7_costOf 52 = .ok (.iaload, 1) := by decide +kernel
theorem dX7_costOf_53 : decode cX7_costOf 53 = .ok (.iload_n 3, 1) := by decide +kernel
theorem dX7_costOf_54 : decode cX7_costOf 54 = .ok (.if_icmp .ne 15, 3) := by decide +kernel
theorem dX7_costOf_57 : decode cX7_costOf 57 = .ok (.aload_n 0, 1) := by decide +kernel
theorem dX7_costOf_58 : decode cX7_costOf 58 = .ok (.getfield 53, 3) := by decide +kernel
theorem dX7_costOf_61 : decode cX7_costOf 61 = .ok (.iload 7, 2) := by decide +kernel
theorem dX7_costOf_63 : decode cX7_costOf 63 = .ok (.iaload, 1) := by decide +kernel
theorem dX7_costOf_64 : decode cX7_costOf 64 = .ok (.iload 4, 2) := by decide +kernel
theorem dX7_costOf_66 : decode cX7_costOf 66 = .ok (.if_icmp .eq 26, 3) := by decide +kernel
theorem dX7_costOf_69 : decode cX7_costOf 69 = .ok (.aload_n 0, 1) := by decide +kernel
theorem dX7_costOf_70 : decode cX7_costOf 70 = .ok (.getfield 53, 3) := by decide +kernel
theorem dX7_costOf_73 : decode cX7_costOf 73 = .ok (.iload 8, 2) := by decide +kernel
theorem dX7_costOf_75 : decode cX7_costOf 75 = .ok (.iaload, 1) := by decide +kernel
theorem dX7_costOf_76 : decode cX7_costOf 76 = .ok (.iload 4, 2) := by decide +kernel
theorem dX7_costOf_78 : decode cX7_costOf 78 = .ok (.if_icmp .ne 18, 3) := by decide +kernel
theorem dX7_costOf_81 : decode cX7_costOf 81 = .ok (.aload_n 0, 1) := by decide +kernel
theorem dX7_costOf_82 : decode cX7_costOf 82 = .ok (.getfield 53, 3) := by decide +kernel
theorem dX7_costOf_85 : decode cX7_costOf 85 = .ok (.iload 7, 2) := by decide +kernel
theorem dX7_costOf_87 : decode cX7_costOf 87 = .ok (.iaload, 1) := by decide +kernel
theorem dX7_costOf_88 : decode cX7_costOf 88 = .ok (.iload_n 3, 1) := by decide +kernel
theorem dX7_costOf_89 : decode cX7_costOf 89 = .ok (.if_icmp .ne 7, 3) := by decide +kernel
theorem dX7_costOf_92 : decode cX7_costOf 92 = .ok (.iconst 1, 1) := by decide +kernel
theorem dX7_costOf_93 : decode cX7_costOf 93 = .ok (.goto 4, 3) := by decide +kernel
theorem dX7_costOf_96 : decode cX7_costOf 96 = .ok (.iconst 0, 1) := by decide +kernel
theorem dX7_costOf_97 : decode cX7_costOf 97 = .ok (.istore 9, 2) := by decide +kernel
theorem dX7_costOf_99 : decode cX7_costOf 99 = .ok (.iload 5, 2) := by decide +kernel
theorem dX7_costOf_101 : decode cX7_costOf 101 = .ok (.iload 9, 2) := by decide +kernel
theorem dX7_costOf_103 : decode cX7_costOf 103 = .ok (.ifCond .eq 7, 3) := by decide +kernel
theorem dX7_costOf_106 : decode cX7_costOf 106 = .ok (.iconst 1, 1) := by decide +kernel
theorem dX7_costOf_107 : decode cX7_costOf 107 = .ok (.goto 4, 3) := by decide +kernel
theorem dX7_costOf_110 : decode cX7_costOf 110 = .ok (.iconst 0, 1) := by decide +kernel
theorem dX7_costOf_111 : decode cX7_costOf 111 = .ok (.iadd, 1) := by decide +kernel
theorem dX7_costOf_112 : decode cX7_costOf 112 = .ok (.istore 5, 2) := by decide +kernel
theorem dX7_costOf_114 : decode cX7_costOf 114 = .ok (.iload 6, 2) := by decide +kernel
theorem dX7_costOf_116 : decode cX7_costOf 116 = .ok (.iload 9, 2) := by decide +kernel
theorem dX7_costOf_118 : decode cX7_costOf 118 = .ok (.ifCond .eq 21, 3) := by decide +kernel
theorem dX7_costOf_121 : decode cX7_costOf 121 = .ok (.aload_n 0, 1) := by decide +kernel
theorem dX7_costOf_122 : decode cX7_costOf 122 = .ok (.getfield 69, 3) := by decide +kernel
theorem dX7_costOf_125 : decode cX7_costOf 125 = .ok (.iload 8, 2) := by decide +kernel
theorem dX7_costOf_127 : decode cX7_costOf 127 = .ok (.iload 7, 2) := by decide +kernel
theorem dX7_costOf_129 : decode cX7_costOf 129 = .ok (.invokestatic 79, 3) := by decide +kernel
theorem dX7_costOf_132 : decode cX7_costOf 132 = .ok (.ifCond .eq 7, 3) := by decide +kernel
theorem dX7_costOf_135 : decode cX7_costOf 135 = .ok (.iconst 1, 1) := by decide +kernel
theorem dX7_costOf_136 : decode cX7_costOf 136 = .ok (.goto 4, 3) := by decide +kernel
theorem dX7_costOf_139 : decode cX7_costOf 139 = .ok (.iconst 0, 1) := by decide +kernel
theorem dX7_costOf_140 : decode cX7_costOf 140 = .ok (.iadd, 1) := by decide +kernel
theorem dX7_costOf_141 : decode cX7_costOf 141 = .ok (.istore 6, 2) := by decide +kernel
theorem dX7_costOf_143 : decode cX7_costOf 143 = .ok (.iinc 8 1, 3) := by decide +kernel
theorem dX7_costOf_146 : decode cX7_costOf 146 = .ok (.goto (-107), 3) := by decide +kernel
theorem dX7_costOf_149 : decode cX7_costOf 149 = .ok (.iinc 7 1, 3) := by decide +kernel
theorem dX7_costOf_152 : decode cX7_costOf 152 = .ok (.goto (-125), 3) := by decide +kernel
theorem dX7_costOf_155 : decode cX7_costOf 155 = .ok (.iload_n 2, 1) := by decide +kernel
theorem dX7_costOf_156 : decode cX7_costOf 156 = .ok (.iload 5, 2) := by decide +kernel
theorem dX7_costOf_158 : decode cX7_costOf 158 = .ok (.iload 6, 2) := by decide +kernel
theorem dX7_costOf_160 : decode cX7_costOf 160 = .ok (.invokestatic 200, 3) := by decide +kernel
theorem dX7_costOf_163 : decode cX7_costOf 163 = .ok (.imul, 1) := by decide +kernel
theorem dX7_costOf_164 : decode cX7_costOf 164 = .ok (.istore_n 2, 1) := by decide +kernel
theorem dX7_costOf_165 : decode cX7_costOf 165 = .ok (.iinc 4 1, 3) := by decide +kernel
theorem dX7_costOf_168 : decode cX7_costOf 168 = .ok (.goto (-156), 3) := by decide +kernel
theorem dX7_costOf_171 : decode cX7_costOf 171 = .ok (.iinc 3 1, 3) := by decide +kernel
theorem dX7_costOf_174 : decode cX7_costOf 174 = .ok (.goto (-170), 3) := by decide +kernel
theorem dX7_costOf_177 : decode cX7_costOf 177 = .ok (.iload_n 2, 1) := by decide +kernel
theorem dX7_costOf_178 : decode cX7_costOf 178 = .ok (.ireturn, 1) := by decide +kernel
set_option maxRecDepth 20000 in
theorem ggX7_blocks_X7_in : GoodIn wsX7_blocks wsX7_in := goodIn_r _ [8] (by decide +kernel) (by decide +kernel)
set_option maxRecDepth 20000 in
theorem gX7_blocks_X7_in : GoodIn wsX7_blocks (va_wsS RX7 56 yX7_in wsX7_in) := goodIn_app (goodIn_of _ (by decide +kernel)) ggX7_blocks_X7_in
set_option maxRecDepth 20000 in
theorem ggX7_blocks_X7_power : GoodIn wsX7_blocks wsX7_power := goodIn_r _ [11] (by decide +kernel) (by decide +kernel)
set_option maxRecDepth 20000 in
theorem gX7_blocks_X7_power : GoodIn wsX7_blocks (va_wsS RX7 128 yX7_power wsX7_power) := goodIn_app (goodIn_of _ (by decide +kernel)) ggX7_blocks_X7_power
set_option maxRecDepth 20000 in
theorem ggX7_blocks_X7_isWay : GoodIn wsX7_blocks wsX7_isWay := goodIn_r _ [15, 1, 3, 30, 31, 32, 33, 34, 35, 36, 37, 38, 39, 40, 41, 42, 43, 44, 45, 46, 47, 48, 49, 50] (by decide +kernel) (by decide +kernel)
set_option maxRecDepth 20000 in
theorem gX7_blocks_X7_isWay : GoodIn wsX7_blocks (wsV RX7 203 RX7 yX7_isWay wsX7_isWay) := goodIn_app (goodIn_of _ (by decide +kernel)) ggX7_blocks_X7_isWay
set_option maxRecDepth 20000 in
theorem ggX7_blocks_X7_costOf : GoodIn wsX7_blocks wsX7_costOf := goodIn_r _ [19, 1, 3, 20, 21, 22, 7, 23, 24, 25, 26, 27, 28, 29, 30, 31, 32, 33, 34, 35, 36, 37, 38, 39, 40, 41, 42, 43, 44, 45, 46, 47, 48, 49, 50] (by decide +kernel) (by decide +kernel)
set_option maxRecDepth 20000 in
theorem gX7_blocks_X7_costOf : GoodIn wsX7_blocks (wsV RX7 207 RX7 yX7_costOf wsX7_costOf) := goodIn_app (goodIn_of _ (by decide +kernel)) ggX7_blocks_X7_costOf
theorem dX7_blocks_0 : decode cX7_blocks 0 = .ok (.iload_n 1, 1) := by decide +kernel
theorem dX7_blocks_1 : decode cX7_blocks 1 = .ok (.i2l, 1) := by decide +kernel
theorem dX7_blocks_2 : decode cX7_blocks 2 = .ok (.lconst 1, 1) := by decide +kernel
theorem dX7_blocks_3 : decode cX7_blocks 3 = .ok (.aload_n 0, 1) := by decide +kernel
theorem dX7_blocks_4 : decode cX7_blocks 4 = .ok (.getfield 7, 3) := by decide +kernel
theorem dX7_blocks_7 : decode cX7_blocks 7 = .ok (.i2l, 1) := by decide +kernel
theorem dX7_blocks_8 : decode cX7_blocks 8 = .ok (.invokestatic 56, 3) := by decide +kernel
theorem dX7_blocks_11 : decode cX7_blocks 11 = .ok (.ifCond .ne 5, 3) := by decide +kernel
theorem dX7_blocks_14 : decode cX7_blocks 14 = .ok (.iconst (-1), 1) := by decide +kernel
theorem dX7_blocks_15 : decode cX7_blocks 15 = .ok (.ireturn, 1) := by decide +kernel
theorem dX7_blocks_16 : decode cX7_blocks 16 = .ok (.iload_n 1, 1) := by decide +kernel
theorem dX7_blocks_17 : decode cX7_blocks 17 = .ok (.i2l, 1) := by decide +kernel
theorem dX7_blocks_18 : decode cX7_blocks 18 = .ok (.aload_n 0, 1) := by decide +kernel
theorem dX7_blocks_19 : decode cX7_blocks 19 = .ok (.getfield 7, 3) := by decide +kernel
theorem dX7_blocks_22 : decode cX7_blocks 22 = .ok (.invokestatic 128, 3) := by decide +kernel
theorem dX7_blocks_25 : decode cX7_blocks 25 = .ok (.l2i, 1) := by decide +kernel
theorem dX7_blocks_26 : decode cX7_blocks 26 = .ok (.istore_n 2, 1) := by decide +kernel
theorem dX7_blocks_27 : decode cX7_blocks 27 = .ok (.iconst 0, 1) := by decide +kernel
theorem dX7_blocks_28 : decode cX7_blocks 28 = .ok (.istore_n 3, 1) := by decide +kernel
theorem dX7_blocks_29 : decode cX7_blocks 29 = .ok (.iconst 0, 1) := by decide +kernel
theorem dX7_blocks_30 : decode cX7_blocks 30 = .ok (.istore 4, 2) := by decide +kernel
theorem dX7_blocks_32 : decode cX7_blocks 32 = .ok (.iload 4, 2) := by decide +kernel
theorem dX7_blocks_34 : decode cX7_blocks 34 = .ok (.iload_n 2, 1) := by decide +kernel
theorem dX7_blocks_35 : decode cX7_blocks 35 = .ok (.if_icmp .ge 71, 3) := by decide +kernel
theorem dX7_blocks_38 : decode cX7_blocks 38 = .ok (.aload_n 0, 1) := by decide +kernel
theorem dX7_blocks_39 : decode cX7_blocks 39 = .ok (.iload 4, 2) := by decide +kernel
theorem dX7_blocks_41 : decode cX7_blocks 41 = .ok (.iload_n 1, 1) := by decide +kernel
theorem dX7_blocks_42 : decode cX7_blocks 42 = .ok (.invokevirtual 203, 3) := by decide +kernel
theorem dX7_blocks_45 : decode cX7_blocks 45 = .ok (.ifCond .eq 55, 3) := by decide +kernel
theorem dX7_blocks_48 : decode cX7_blocks 48 = .ok (.aload_n 0, 1) := by decide +kernel
theorem dX7_blocks_49 : decode cX7_blocks 49 = .ok (.iload_n 1, 1) := by decide +kernel
theorem dX7_blocks_50 : decode cX7_blocks 50 = .ok (.invokevirtual 207, 3) := by decide +kernel
theorem dX7_blocks_53 : decode cX7_blocks 53 = .ok (.istore 5, 2) := by decide +kernel
theorem dX7_blocks_55 : decode cX7_blocks 55 = .ok (.iload_n 3, 1) := by decide +kernel
theorem dX7_blocks_56 : decode cX7_blocks 56 = .ok (.ifCond .eq 9, 3) := by decide +kernel
theorem dX7_blocks_59 : decode cX7_blocks 59 = .ok (.iload 5, 2) := by decide +kernel
theorem dX7_blocks_61 : decode cX7_blocks 61 = .ok (.iload_n 3, 1) := by decide +kernel
theorem dX7_blocks_62 : decode cX7_blocks 62 = .ok (.if_icmp .ge 38, 3) := by decide +kernel
theorem dX7_blocks_65 : decode cX7_blocks 65 = .ok (.iload 5, 2) := by decide +kernel
theorem dX7_blocks_67 : decode cX7_blocks 67 = .ok (.istore_n 3, 1) := by decide +kernel
theorem dX7_blocks_68 : decode cX7_blocks 68 = .ok (.iconst 0, 1) := by decide +kernel
theorem dX7_blocks_69 : decode cX7_blocks 69 = .ok (.istore 6, 2) := by decide +kernel
theorem dX7_blocks_71 : decode cX7_blocks 71 = .ok (.iload 6, 2) := by decide +kernel
theorem dX7_blocks_73 : decode cX7_blocks 73 = .ok (.aload_n 0, 1) := by decide +kernel
theorem dX7_blocks_74 : decode cX7_blocks 74 = .ok (.getfield 7, 3) := by decide +kernel
theorem dX7_blocks_77 : decode cX7_blocks 77 = .ok (.if_icmp .ge 23, 3) := by decide +kernel
theorem dX7_blocks_80 : decode cX7_blocks 80 = .ok (.aload_n 0, 1) := by decide +kernel
theorem dX7_blocks_81 : decode cX7_blocks 81 = .ok (.getfield 29, 3) := by decide +kernel
theorem dX7_blocks_84 : decode cX7_blocks 84 = .ok (.iload 6, 2) := by decide +kernel
theorem dX7_blocks_86 : decode cX7_blocks 86 = .ok (.aload_n 0, 1) := by decide +kernel
theorem dX7_blocks_87 : decode cX7_blocks 87 = .ok (.getfield 53, 3) := by decide +kernel
theorem dX7_blocks_90 : decode cX7_blocks 90 = .ok (.iload 6, 2) := by decide +kernel
theorem dX7_blocks_92 : decode cX7_blocks 92 = .ok (.iaload, 1) := by decide +kernel
theorem dX7_blocks_93 : decode cX7_blocks 93 = .ok (.iastore, 1) := by decide +kernel
theorem dX7_blocks_94 : decode cX7_blocks 94 = .ok (.iinc 6 1, 3) := by decide +kernel
theorem dX7_blocks_97 : decode cX7_blocks 97 = .ok (.goto (-26), 3) := by decide +kernel
theorem dX7_blocks_100 : decode cX7_blocks 100 = .ok (.iinc 4 1, 3) := by decide +kernel
theorem dX7_blocks_103 : decode cX7_blocks 103 = .ok (.goto (-71), 3) := by decide +kernel
theorem dX7_blocks_106 : decode cX7_blocks 106 = .ok (.aload_n 0, 1) := by decide +kernel
theorem dX7_blocks_107 : decode cX7_blocks 107 = .ok (.iload_n 1, 1) := by decide +kernel
theorem dX7_blocks_108 : decode cX7_blocks 108 = .ok (.putfield 72, 3) := by decide +kernel
theorem dX7_blocks_111 : decode cX7_blocks 111 = .ok (.iload_n 3, 1) := by decide +kernel
theorem dX7_blocks_112 : decode cX7_blocks 112 = .ok (.ireturn, 1) := by decide +kernel
set_option maxRecDepth 20000 in
theorem ggX7_block_X7_isNode : GoodIn wsX7_block wsX7_isNode := goodIn_r _ [7, 8, 9, 10, 6, 11, 12, 13, 14, 15, 16, 17, 18, 19, 20, 21, 22, 23, 24, 25, 26, 27, 28, 29, 30, 31, 32] (by decide +kernel) (by decide +kernel)
set_option maxRecDepth 20000 in
theorem gX7_block_X7_isNode : GoodIn wsX7_block (wsV RX7 75 RX7 yX7_isNode wsX7_isNode) := goodIn_app (goodIn_of _ (by decide +kernel)) ggX7_block_X7_isNode
theorem dX7_block_0 : decode cX7_block 0 = .ok (.aload_n 0, 1) := by decide +kernel
theorem dX7_block_1 : decode cX7_block 1 = .ok (.iload_n 1, 1) := by decide +kernel
theorem dX7_block_2 : decode cX7_block 2 = .ok (.invokevirtual 75, 3) := by decide +kernel
theorem dX7_block_5 : decode cX7_block 5 = .ok (.ifCond .ne 5, 3) := by decide +kernel
theorem dX7_block_8 : decode cX7_block 8 = .ok (.iconst (-1), 1) := by decide +kernel
theorem dX7_block_9 : decode cX7_block 9 = .ok (.ireturn, 1) := by decide +kernel
theorem dX7_block_10 : decode cX7_block 10 = .ok (.aload_n 0, 1) := by decide +kernel
theorem dX7_block_11 : decode cX7_block 11 = .ok (.getfield 72, 3) := by decide +kernel
theorem dX7_block_14 : decode cX7_block 14 = .ok (.ifCond .ne 8, 3) := by decide +kernel
theorem dX7_block_17 : decode cX7_block 17 = .ok (.bipush (-2), 2) := by decide +kernel
theorem dX7_block_19 : decode cX7_block 19 = .ok (.goto 9, 3) := by decide +kernel
theorem dX7_block_22 : decode cX7_block 22 = .ok (.aload_n 0, 1) := by decide +kernel
theorem dX7_block_23 : decode cX7_block 23 = .ok (.getfield 29, 3) := by decide +kernel
theorem dX7_block_26 : decode cX7_block 26 = .ok (.iload_n 1, 1) := by decide +kernel
theorem dX7_block_27 : decode cX7_block 27 = .ok (.iaload, 1) := by decide +kernel
theorem dX7_block_28 : decode cX7_block 28 = .ok (.ireturn, 1) := by decide +kernel
set_option maxRecDepth 20000 in
theorem ggL_law_X6_init : GoodIn wsL_law wsX6_init := goodIn_r _ [9, 10, 11, 12, 13, 14, 15, 16, 17, 18, 19, 20, 21, 22, 23, 24, 25, 26, 27, 28, 29, 30, 31, 32, 33, 34, 35, 36, 37, 38, 39, 40, 41, 42, 43, 44, 45, 46, 47, 48, 49, 50, 51, 52, 53, 54, 55, 56, 57, 58, 59, 60, 61, 62, 63, 64, 65, 66, 67, 68, 69, 70, 71, 72, 73, 74, 75, 76, 77, 78, 79, 80, 81, 82, 83, 84, 85, 86, 87, 88, 89, 90, 91, 92, 93, 94, 95, 96, 97, 98, 99, 100, 101, 102, 103, 104, 105, 106, 107, 707, 708, 709, 676, 677, 678, 679, 680, 681, 682, 683, 684, 685, 710, 711, 712, 713, 714, 715, 716, 717, 718, 719, 720, 721, 722, 723, 724, 725, 726, 727, 728, 729, 730, 731, 732, 733, 734, 735, 736, 737, 738, 739, 740, 741] (by decide +kernel) (by decide +kernel)
set_option maxRecDepth 20000 in
theorem gL_law_X6_init : GoodIn wsL_law (wsX6_init) := ggL_law_X6_init
set_option maxRecDepth 20000 in
theorem ggL_law_X7_init : GoodIn wsL_law wsX7_init := goodIn_r _ [110, 111, 11, 12, 112, 37, 113, 114, 115, 116, 117, 118, 119, 120, 121, 122, 123, 83, 124, 125, 126, 127, 686, 687, 688, 689, 690, 691, 692, 693, 694, 695, 696, 697, 698, 699, 700, 701, 702, 703, 704, 705, 706] (by decide +kernel) (by decide +kernel)
set_option maxRecDepth 20000 in
theorem gL_law_X7_init : GoodIn wsL_law (wsX7_init) := ggL_law_X7_init
set_option maxRecDepth 20000 in
theorem ggL_law_X6_begin : GoodIn wsL_law wsX6_begin := goodIn_r _ [131, 39, 40, 41, 38, 20, 16, 36, 132, 53, 15, 54, 133, 134, 135, 136, 49, 50, 51, 52, 137, 138, 139, 19, 140, 63, 141, 142, 143, 35, 144, 145, 676, 677, 678, 679, 680, 681, 682, 683, 684, 685, 710, 711, 712, 713, 714, 732, 733, 734, 735, 736, 737, 738, 739, 740, 741] (by decide +kernel) (by decide +kernel)
set_option maxRecDepth 20000 in
theorem gL_law_X6_begin : GoodIn wsL_law (wsV RL 13 RX6 yX6_begin wsX6_begin) := goodIn_app (goodIn_of _ (by decide +kernel)) ggL_law_X6_begin
set_option maxRecDepth 20000 in
theorem ggL_law_X7_begin : GoodIn wsL_law wsX7_begin := goodIn_r _ [149, 150, 112, 151, 152, 153, 113, 154, 155, 5, 156, 686, 687, 688, 689, 690, 691, 692, 693, 694, 695, 696, 697, 698, 699, 700, 701, 702, 703, 704, 705, 706] (by decide +kernel) (by decide +kernel)
set_option maxRecDepth 20000 in
theorem gL_law_X7_begin : GoodIn wsL_law (wsV RL 17 RX7 yX7_begin wsX7_begin) := goodIn_app (goodIn_of _ (by decide +kernel)) ggL_law_X7_begin
set_option maxRecDepth 20000 in
theorem ggL_law_X6_edge : GoodIn wsL_law wsX6_edge := goodIn_r _ [160, 41, 161, 162, 163, 2, 164, 165, 166, 167, 168, 39, 169, 50, 15, 51, 52, 53, 54, 676, 677, 678, 679, 680, 681, 682, 683, 684, 685] (by decide +kernel) (by decide +kernel)
set_option maxRecDepth 20000 in
theorem gL_law_X6_edge : GoodIn wsL_law (wsV RL 18 RX6 yX6_edge wsX6_edge) := goodIn_app (goodIn_of _ (by decide +kernel)) ggL_law_X6_edge
set_option maxRecDepth 20000 in
theorem ggL_law_X7_edge : GoodIn wsL_law wsX7_edge := goodIn_r _ [173, 152, 174, 175, 176, 5, 177, 112, 154, 155, 156, 178, 179, 180, 181, 182, 183, 686, 687, 688, 689, 690, 691, 692, 693, 694, 695, 696, 697, 698, 699, 700, 701, 702, 703, 704, 705, 706] (by decide +kernel) (by decide +kernel)
set_option maxRecDepth 20000 in
theorem gL_law_X7_edge : GoodIn wsL_law (wsV RL 22 RX7 yX7_edge wsX7_edge) := goodIn_app (goodIn_of _ (by decide +kernel)) ggL_law_X7_edge
set_option maxRecDepth 20000 in
theorem ggL_law_X6_label : GoodIn wsL_law wsX6_label := goodIn_r _ [187, 38, 20, 16, 165, 166, 167, 2, 168, 39, 133, 134, 135, 15, 136, 49, 50, 51, 52, 53, 54, 137, 138, 139, 19, 140, 63, 676, 677, 678, 679, 680, 681, 682, 683, 684, 685, 710, 711, 712, 713, 714] (by decide +kernel) (by decide +kernel)
set_option maxRecDepth 20000 in
theorem gL_law_X6_label : GoodIn wsL_law (wsV RL 23 RX6 yX6_label wsX6_label) := goodIn_app (goodIn_of _ (by decide +kernel)) ggL_law_X6_label
set_option maxRecDepth 20000 in
theorem ggL_law_X7_label : GoodIn wsL_law wsX7_label := goodIn_r _ [191, 192, 113, 174, 175, 176, 5, 177, 112, 154, 155, 156, 686, 687, 688, 689, 690, 691, 692, 693, 694, 695, 696, 697, 698, 699, 700, 701, 702, 703, 704, 705, 706] (by decide +kernel) (by decide +kernel)
set_option maxRecDepth 20000 in
theorem gL_law_X7_label : GoodIn wsL_law (wsV RL 27 RX7 yX7_label wsX7_label) := goodIn_app (goodIn_of _ (by decide +kernel)) ggL_law_X7_label
set_option maxRecDepth 20000 in
theorem ggL_law_X6_chance : GoodIn wsL_law wsX6_chance := goodIn_r _ [196, 24, 197, 198, 199, 23, 200, 87, 88, 676, 677, 678, 679, 680, 681, 682, 683, 684, 685, 715, 716, 717, 718, 719, 720, 721, 722, 723, 724, 725, 726] (by decide +kernel) (by decide +kernel)
set_option maxRecDepth 20000 in
theorem gL_law_X6_chance : GoodIn wsL_law (wsV RL 28 RX6 yX6_chance wsX6_chance) := goodIn_app (goodIn_of _ (by decide +kernel)) ggL_law_X6_chance
set_option maxRecDepth 20000 in
theorem ggL_law_X7_chance : GoodIn wsL_law wsX7_chance := goodIn_r _ [204, 205, 114, 115, 154, 155, 5, 156, 686, 687, 688, 689, 690, 691, 692, 693, 694, 695, 696, 697, 698, 699, 700, 701, 702, 703, 704, 705, 706] (by decide +kernel) (by decide +kernel)
set_option maxRecDepth 20000 in
theorem gL_law_X7_chance : GoodIn wsL_law (wsV RL 31 RX7 yX7_chance wsX7_chance) := goodIn_app (goodIn_of _ (by decide +kernel)) ggL_law_X7_chance
set_option maxRecDepth 20000 in
theorem ggL_law_X6_lean : GoodIn wsL_law wsX6_lean := goodIn_r _ [209, 24, 210, 211, 212, 23, 213, 89, 90, 676, 677, 678, 679, 680, 681, 682, 683, 684, 685, 715, 716, 717, 718, 719, 720, 721, 722, 723, 724, 725, 726] (by decide +kernel) (by decide +kernel)
set_option maxRecDepth 20000 in
theorem gL_law_X6_lean : GoodIn wsL_law (wsV RL 32 RX6 yX6_lean wsX6_lean) := goodIn_app (goodIn_of _ (by decide +kernel)) ggL_law_X6_lean
set_option maxRecDepth 20000 in
theorem ggL_law_X7_lean : GoodIn wsL_law wsX7_lean := goodIn_r _ [217, 218, 192, 116, 117, 154, 155, 5, 156, 686, 687, 688, 689, 690, 691, 692, 693, 694, 695, 696, 697, 698, 699, 700, 701, 702, 703, 704, 705, 706] (by decide +kernel) (by decide +kernel)
set_option maxRecDepth 20000 in
theorem gL_law_X7_lean : GoodIn wsL_law (wsV RL 35 RX7 yX7_lean wsX7_lean) := goodIn_app (goodIn_of _ (by decide +kernel)) ggL_law_X7_lean
set_option maxRecDepth 20000 in
theorem ggL_law_X6_number : GoodIn wsL_law wsX6_number := goodIn_r _ [222, 41, 676, 677, 678, 679, 680, 681, 682, 683, 684, 685] (by decide +kernel) (by decide +kernel)
set_option maxRecDepth 20000 in
theorem gL_law_X6_number : GoodIn wsL_law (wsV RL 36 RX6 yX6_number wsX6_number) := goodIn_app (goodIn_of _ (by decide +kernel)) ggL_law_X6_number
set_option maxRecDepth 20000 in
theorem ggL_law_X7_number : GoodIn wsL_law wsX7_number := goodIn_r _ [226, 152, 686, 687, 688, 689, 690, 691, 692, 693, 694, 695, 696, 697, 698, 699, 700, 701, 702, 703, 704, 705, 706] (by decide +kernel) (by decide +kernel)
set_option maxRecDepth 20000 in
theorem gL_law_X7_number : GoodIn wsL_law (wsV RL 40 RX7 yX7_number wsX7_number) := goodIn_app (goodIn_of _ (by decide +kernel)) ggL_law_X7_number
set_option maxRecDepth 20000 in
theorem ggL_law_X6_become : GoodIn wsL_law wsX6_become := goodIn_r _ [230, 41, 231, 232, 233, 2, 234, 40, 676, 677, 678, 679, 680, 681, 682, 683, 684, 685] (by decide +kernel) (by decide +kernel)
set_option maxRecDepth 20000 in
theorem gL_law_X6_become : GoodIn wsL_law (wsV RL 41 RX6 yX6_become wsX6_become) := goodIn_app (goodIn_of _ (by decide +kernel)) ggL_law_X6_become
set_option maxRecDepth 20000 in
theorem ggL_law_X7_become : GoodIn wsL_law wsX7_become := goodIn_r _ [238, 152, 239, 240, 241, 5, 242, 151, 154, 155, 156, 686, 687, 688, 689, 690, 691, 692, 693, 694, 695, 696, 697, 698, 699, 700, 701, 702, 703, 704, 705, 706] (by decide +kernel) (by decide +kernel)
set_option maxRecDepth 20000 in
theorem gL_law_X7_become : GoodIn wsL_law (wsV RL 44 RX7 yX7_become wsX7_become) := goodIn_app (goodIn_of _ (by decide +kernel)) ggL_law_X7_become
set_option maxRecDepth 20000 in
theorem ggL_law_X6_thing : GoodIn wsL_law wsX6_thing := goodIn_r _ [246, 20, 41, 39, 247, 248, 2, 249, 250, 251, 252, 19, 253, 254, 255, 256, 257, 59, 60, 61, 258, 259, 260, 261, 262, 68, 69, 70, 15, 71, 46, 263, 264, 265, 266, 48, 267, 268, 269, 270, 271, 272, 273, 72, 73, 74, 75, 47, 274, 275, 276, 277, 278, 279, 280, 281, 282, 283, 284, 285, 286, 287, 288, 63, 289, 676, 677, 678, 679, 680, 681, 682, 683, 684, 685, 710, 711, 712, 713, 714, 707, 708, 709] (by decide +kernel) (by decide +kernel)
set_option maxRecDepth 20000 in
theorem gL_law_X6_thing : GoodIn wsL_law (wsV RL 45 RX6 yX6_thing wsX6_thing) := goodIn_app (goodIn_of _ (by decide +kernel)) ggL_law_X6_thing
set_option maxRecDepth 20000 in
theorem ggL_law_X7_thing : GoodIn wsL_law wsX7_thing := goodIn_r _ [293, 294, 152, 154, 155, 5, 156, 295, 296, 297, 298, 299, 300, 301, 302, 151, 303, 304, 305, 306, 112, 178, 179, 180, 181, 182, 183, 307, 308, 309, 310, 311, 312, 313, 314, 315, 316, 317, 318, 113, 319, 320, 321, 322, 323, 324, 325, 326, 686, 687, 688, 689, 690, 691, 692, 693, 694, 695, 696, 697, 698, 699, 700, 701, 702, 703, 704, 705, 706] (by decide +kernel) (by decide +kernel)
set_option maxRecDepth 20000 in
theorem gL_law_X7_thing : GoodIn wsL_law (wsV RL 48 RX7 yX7_thing wsX7_thing) := goodIn_app (goodIn_of _ (by decide +kernel)) ggL_law_X7_thing
set_option maxRecDepth 20000 in
theorem ggL_law_X6_many : GoodIn wsL_law wsX6_many := goodIn_r _ [330, 24, 41, 39, 40, 331, 332, 2, 333, 334, 335, 336, 23, 337, 338, 339, 340, 341, 260, 342, 343, 84, 85, 90, 86, 81, 82, 344, 53, 15, 54, 345, 346, 347, 348, 87, 88, 89, 349, 350, 351, 352, 268, 269, 270, 271, 272, 273, 353, 264, 265, 266, 48, 267, 354, 355, 356, 357, 358, 359, 360, 19, 361, 62, 362, 37, 363, 364, 365, 366, 367, 368, 369, 370, 371, 372, 373, 374, 375, 376, 377, 378, 379, 380, 381, 254, 255, 256, 257, 59, 60, 61, 258, 259, 261, 262, 68, 69, 70, 71, 46, 263, 72, 73, 74, 75, 47, 274, 275, 276, 277, 278, 279, 280, 281, 282, 283, 284, 285, 286, 287, 288, 63, 289, 382, 383, 384, 385, 676, 677, 678, 679, 680, 681, 682, 683, 684, 685, 715, 716, 717, 718, 719, 720, 721, 722, 723, 724, 725, 726, 707, 708, 709, 710, 711, 712, 713, 714] (by decide +kernel) (by decide +kernel)
set_option maxRecDepth 20000 in
theorem gL_law_X6_many : GoodIn wsL_law (wsV RL 49 RX6 yX6_many wsX6_many) := goodIn_app (goodIn_of _ (by decide +kernel)) ggL_law_X6_many
set_option maxRecDepth 20000 in
theorem ggL_law_X7_many : GoodIn wsL_law wsX7_many := goodIn_r _ [389, 151, 390, 391, 5, 392, 218, 154, 155, 156, 393, 394, 395, 396, 397, 152, 124, 114, 115, 116, 112, 125, 299, 300, 301, 302, 398, 399, 400, 323, 324, 325, 326, 178, 179, 180, 181, 182, 183, 401, 402, 403, 404, 405, 123, 303, 304, 305, 306, 406, 407, 408, 409, 117, 410, 411, 412, 413, 686, 687, 688, 689, 690, 691, 692, 693, 694, 695, 696, 697, 698, 699, 700, 701, 702, 703, 704, 705, 706] (by decide +kernel) (by decide +kernel)
set_option maxRecDepth 20000 in
theorem gL_law_X7_many : GoodIn wsL_law (wsV RL 52 RX7 yX7_many wsX7_many) := goodIn_app (goodIn_of _ (by decide +kernel)) ggL_law_X7_many
set_option maxRecDepth 20000 in
theorem ggL_law_X6_total : GoodIn wsL_law wsX6_total := goodIn_r _ [417, 418, 24, 41, 39, 331, 332, 2, 333, 334, 335, 336, 23, 337, 338, 339, 340, 341, 260, 342, 343, 84, 85, 90, 86, 81, 82, 344, 53, 15, 54, 345, 346, 347, 348, 87, 88, 89, 349, 350, 351, 352, 268, 269, 270, 271, 272, 273, 353, 264, 265, 266, 48, 267, 354, 355, 356, 357, 358, 359, 360, 19, 361, 62, 362, 37, 363, 364, 365, 366, 367, 368, 369, 419, 420, 421, 422, 40, 370, 371, 372, 373, 374, 375, 376, 377, 378, 379, 380, 381, 254, 255, 256, 257, 59, 60, 61, 258, 259, 261, 262, 68, 69, 70, 71, 46, 263, 72, 73, 74, 75, 47, 274, 275, 276, 277, 278, 279, 280, 281, 282, 283, 284, 285, 286, 287, 288, 63, 289, 382, 383, 384, 385, 676, 677, 678, 679, 680, 681, 682, 683, 684, 685, 715, 716, 717, 718, 719, 720, 721, 722, 723, 724, 725, 726, 707, 708, 709, 710, 711, 712, 713, 714] (by decide +kernel) (by decide +kernel)
set_option maxRecDepth 20000 in
theorem gL_law_X6_total : GoodIn wsL_law (wsV RL 53 RX6 yX6_total wsX6_total) := goodIn_app (goodIn_of _ (by decide +kernel)) ggL_law_X6_total
set_option maxRecDepth 20000 in
theorem ggL_law_X7_total : GoodIn wsL_law wsX7_total := goodIn_r _ [426, 427, 390, 391, 5, 392, 218, 154, 155, 156, 393, 394, 395, 396, 397, 152, 151, 124, 114, 115, 116, 112, 125, 299, 300, 301, 302, 398, 399, 400, 323, 324, 325, 326, 178, 179, 180, 181, 182, 183, 401, 402, 403, 404, 405, 123, 303, 304, 305, 306, 428, 429, 430, 431, 406, 407, 408, 409, 117, 410, 411, 412, 413, 686, 687, 688, 689, 690, 691, 692, 693, 694, 695, 696, 697, 698, 699, 700, 701, 702, 703, 704, 705, 706] (by decide +kernel) (by decide +kernel)
set_option maxRecDepth 20000 in
theorem gL_law_X7_total : GoodIn wsL_law (wsV RL 57 RX7 yX7_total wsX7_total) := goodIn_app (goodIn_of _ (by decide +kernel)) ggL_law_X7_total
set_option maxRecDepth 20000 in
theorem ggL_law_X6_odds : GoodIn wsL_law wsX6_odds := goodIn_r _ [435, 418, 24, 41, 39, 20, 40, 331, 332, 2, 333, 247, 248, 249, 436, 437, 438, 334, 335, 336, 23, 337, 338, 339, 340, 341, 260, 342, 343, 84, 85, 90, 86, 81, 82, 344, 53, 15, 54, 345, 346, 347, 348, 87, 88, 89, 349, 350, 351, 352, 268, 269, 270, 271, 272, 273, 353, 264, 265, 266, 48, 267, 354, 355, 356, 357, 358, 359, 360, 19, 361, 62, 362, 37, 363, 364, 365, 366, 367, 368, 369, 439, 440, 375, 376, 377, 378, 379, 380, 381, 254, 255, 256, 257, 59, 60, 61, 258, 259, 261, 262, 68, 69, 70, 71, 46, 263, 72, 73, 74, 75, 47, 274, 275, 276, 277, 278, 279, 280, 281, 282, 283, 284, 285, 286, 287, 288, 63, 289, 370, 371, 372, 373, 374, 382, 383, 384, 385, 441, 442, 443, 444, 445, 446, 676, 677, 678, 679, 680, 681, 682, 683, 684, 685, 715, 716, 717, 718, 719, 720, 721, 722, 723, 724, 725, 726, 707, 708, 709, 710, 711, 712, 713, 714] (by decide +kernel) (by decide +kernel)
set_option maxRecDepth 20000 in
theorem gL_law_X6_odds : GoodIn wsL_law (wsV RL 58 RX6 yX6_odds wsX6_odds) := goodIn_app (goodIn_of _ (by decide +kernel)) ggL_law_X6_odds
set_option maxRecDepth 20000 in
theorem ggL_law_X7_odds : GoodIn wsL_law wsX7_odds := goodIn_r _ [450, 294, 427, 122, 152, 151, 390, 391, 5, 392, 218, 154, 155, 156, 451, 452, 453, 393, 394, 395, 396, 397, 124, 114, 115, 116, 112, 125, 299, 300, 301, 302, 398, 399, 400, 323, 324, 325, 326, 178, 179, 180, 181, 182, 183, 401, 402, 403, 404, 405, 123, 303, 304, 305, 306, 454, 455, 456, 457, 119, 458, 295, 296, 297, 298, 307, 308, 309, 310, 311, 312, 313, 314, 315, 316, 317, 318, 113, 319, 320, 321, 322, 406, 407, 408, 409, 117, 410, 411, 412, 413, 428, 429, 430, 431, 459, 460, 461, 686, 687, 688, 689, 690, 691, 692, 693, 694, 695, 696, 697, 698, 699, 700, 701, 702, 703, 704, 705, 706] (by decide +kernel) (by decide +kernel)
set_option maxRecDepth 20000 in
theorem gL_law_X7_odds : GoodIn wsL_law (wsV RL 62 RX7 yX7_odds wsX7_odds) := goodIn_app (goodIn_of _ (by decide +kernel)) ggL_law_X7_odds
set_option maxRecDepth 20000 in
theorem ggL_law_X6_mean : GoodIn wsL_law wsX6_mean := goodIn_r _ [465, 418, 24, 41, 39, 20, 40, 331, 332, 2, 333, 247, 248, 249, 436, 437, 438, 334, 335, 336, 23, 337, 338, 339, 340, 341, 260, 342, 343, 84, 85, 90, 86, 81, 82, 344, 53, 15, 54, 345, 346, 347, 348, 87, 88, 89, 349, 350, 351, 352, 268, 269, 270, 271, 272, 273, 353, 264, 265, 266, 48, 267, 354, 355, 356, 357, 358, 359, 360, 19, 361, 62, 362, 37, 363, 364, 365, 366, 367, 368, 369, 439, 370, 371, 372, 373, 374, 375, 376, 377, 378, 379, 380, 381, 254, 255, 256, 257, 59, 60, 61, 258, 259, 261, 262, 68, 69, 70, 71, 46, 263, 72, 73, 74, 75, 47, 274, 275, 276, 277, 278, 279, 280, 281, 282, 283, 284, 285, 286, 287, 288, 63, 289, 382, 383, 384, 385, 440, 441, 442, 443, 444, 445, 446, 676, 677, 678, 679, 680, 681, 682, 683, 684, 685, 715, 716, 717, 718, 719, 720, 721, 722, 723, 724, 725, 726, 707, 708, 709, 710, 711, 712, 713, 714] (by decide +kernel) (by decide +kernel)
set_option maxRecDepth 20000 in
theorem gL_law_X6_mean : GoodIn wsL_law (wsV RL 63 RX6 yX6_mean wsX6_mean) := goodIn_app (goodIn_of _ (by decide +kernel)) ggL_law_X6_mean
set_option maxRecDepth 20000 in
theorem ggL_law_X7_mean : GoodIn wsL_law wsX7_mean := goodIn_r _ [469, 294, 427, 151, 122, 390, 391, 5, 392, 218, 154, 155, 156, 451, 452, 453, 393, 394, 395, 396, 397, 152, 124, 114, 115, 116, 112, 125, 299, 300, 301, 302, 398, 399, 400, 323, 324, 325, 326, 178, 179, 180, 181, 182, 183, 401, 402, 403, 404, 405, 123, 303, 304, 305, 306, 454, 455, 456, 457, 119, 458, 295, 296, 297, 298, 307, 308, 309, 310, 311, 312, 313, 314, 315, 316, 317, 318, 113, 319, 320, 321, 322, 406, 407, 408, 409, 117, 410, 411, 412, 413, 428, 429, 430, 431, 459, 460, 461, 686, 687, 688, 689, 690, 691, 692, 693, 694, 695, 696, 697, 698, 699, 700, 701, 702, 703, 704, 705, 706] (by decide +kernel) (by decide +kernel)
set_option maxRecDepth 20000 in
theorem gL_law_X7_mean : GoodIn wsL_law (wsV RL 67 RX7 yX7_mean wsX7_mean) := goodIn_app (goodIn_of _ (by decide +kernel)) ggL_law_X7_mean
set_option maxRecDepth 20000 in
theorem ggL_law_X6_pair : GoodIn wsL_law wsX6_pair := goodIn_r _ [473, 418, 24, 41, 39, 40, 331, 332, 2, 333, 161, 162, 163, 164, 165, 166, 167, 168, 436, 437, 438, 334, 335, 336, 23, 337, 338, 339, 340, 341, 260, 342, 343, 84, 85, 90, 86, 81, 82, 344, 53, 15, 54, 345, 346, 347, 348, 87, 88, 89, 349, 350, 351, 352, 268, 269, 270, 271, 272, 273, 353, 264, 265, 266, 48, 267, 354, 355, 356, 357, 358, 359, 360, 19, 361, 62, 362, 37, 363, 364, 365, 366, 367, 368, 369, 169, 50, 51, 52, 370, 371, 372, 373, 374, 375, 376, 377, 378, 379, 380, 381, 254, 255, 256, 257, 59, 60, 61, 258, 259, 261, 262, 68, 69, 70, 71, 46, 263, 72, 73, 74, 75, 47, 274, 275, 276, 277, 278, 279, 280, 281, 282, 283, 284, 285, 286, 287, 288, 63, 289, 382, 383, 384, 385, 441, 442, 443, 444, 445, 446, 676, 677, 678, 679, 680, 681, 682, 683, 684, 685, 715, 716, 717, 718, 719, 720, 721, 722, 723, 724, 725, 726, 707, 708, 709, 710, 711, 712, 713, 714] (by decide +kernel) (by decide +kernel)
set_option maxRecDepth 20000 in
theorem gL_law_X6_pair : GoodIn wsL_law (wsV RL 68 RX6 yX6_pair wsX6_pair) := goodIn_app (goodIn_of _ (by decide +kernel)) ggL_law_X6_pair
set_option maxRecDepth 20000 in
theorem ggL_law_X7_pair : GoodIn wsL_law wsX7_pair := goodIn_r _ [477, 427, 151, 390, 391, 5, 392, 218, 154, 155, 156, 174, 175, 176, 177, 112, 451, 452, 453, 393, 394, 395, 396, 397, 152, 124, 114, 115, 116, 125, 299, 300, 301, 302, 398, 399, 400, 323, 324, 325, 326, 178, 179, 180, 181, 182, 183, 401, 402, 403, 404, 405, 123, 303, 304, 305, 306, 406, 407, 408, 409, 117, 410, 411, 412, 413, 428, 429, 430, 431, 459, 460, 461, 686, 687, 688, 689, 690, 691, 692, 693, 694, 695, 696, 697, 698, 699, 700, 701, 702, 703, 704, 705, 706] (by decide +kernel) (by decide +kernel)
set_option maxRecDepth 20000 in
theorem gL_law_X7_pair : GoodIn wsL_law (wsV RL 71 RX7 yX7_pair wsX7_pair) := goodIn_app (goodIn_of _ (by decide +kernel)) ggL_law_X7_pair
set_option maxRecDepth 20000 in
theorem ggL_law_X6_likely : GoodIn wsL_law wsX6_likely := goodIn_r _ [481, 418, 24, 41, 39, 331, 332, 2, 333, 436, 437, 438, 334, 335, 336, 23, 337, 338, 339, 340, 341, 260, 342, 343, 84, 85, 90, 86, 81, 82, 344, 53, 15, 54, 345, 346, 347, 348, 87, 88, 89, 349, 350, 351, 352, 268, 269, 270, 271, 272, 273, 353, 264, 265, 266, 48, 267, 354, 355, 356, 357, 358, 359, 360, 19, 361, 62, 362, 37, 363, 364, 365, 366, 367, 368, 369, 370, 371, 372, 373, 374, 375, 376, 377, 378, 379, 380, 381, 254, 255, 256, 257, 59, 60, 61, 258, 259, 261, 262, 68, 69, 70, 71, 46, 263, 72, 73, 74, 75, 47, 274, 275, 276, 277, 278, 279, 280, 281, 282, 283, 284, 285, 286, 287, 288, 63, 289, 382, 383, 384, 385, 419, 420, 421, 422, 40, 441, 442, 443, 444, 445, 446, 676, 677, 678, 679, 680, 681, 682, 683, 684, 685, 715, 716, 717, 718, 719, 720, 721, 722, 723, 724, 725, 726, 707, 708, 709, 710, 711, 712, 713, 714] (by decide +kernel) (by decide +kernel)
set_option maxRecDepth 20000 in
theorem gL_law_X6_likely : GoodIn wsL_law (wsV RL 72 RX6 yX6_likely wsX6_likely) := goodIn_app (goodIn_of _ (by decide +kernel)) ggL_law_X6_likely
set_option maxRecDepth 20000 in
theorem ggL_law_X7_likely : GoodIn wsL_law wsX7_likely := goodIn_r _ [485, 427, 152, 390, 391, 5, 392, 218, 154, 155, 156, 451, 452, 453, 393, 394, 395, 396, 397, 151, 124, 114, 115, 116, 112, 125, 299, 300, 301, 302, 398, 399, 400, 323, 324, 325, 326, 178, 179, 180, 181, 182, 183, 401, 402, 403, 404, 405, 123, 303, 304, 305, 306, 406, 407, 408, 409, 117, 410, 411, 412, 413, 428, 429, 430, 431, 459, 460, 461, 686, 687, 688, 689, 690, 691, 692, 693, 694, 695, 696, 697, 698, 699, 700, 701, 702, 703, 704, 705, 706] (by decide +kernel) (by decide +kernel)
set_option maxRecDepth 20000 in
theorem gL_law_X7_likely : GoodIn wsL_law (wsV RL 76 RX7 yX7_likely wsX7_likely) := goodIn_app (goodIn_of _ (by decide +kernel)) ggL_law_X7_likely
set_option maxRecDepth 20000 in
theorem ggL_law_X6_alike : GoodIn wsL_law wsX6_alike := goodIn_r _ [489, 32, 41, 39, 231, 232, 233, 2, 234, 40, 490, 491, 492, 31, 493, 494, 495, 496, 341, 260, 342, 497, 498, 499, 500, 501, 98, 502, 503, 504, 505, 506, 50, 15, 51, 52, 53, 54, 676, 677, 678, 679, 680, 681, 682, 683, 684, 685, 728, 729, 730, 731] (by decide +kernel) (by decide +kernel)
set_option maxRecDepth 20000 in
theorem gL_law_X6_alike : GoodIn wsL_law (wsV RL 77 RX6 yX6_alike wsX6_alike) := goodIn_app (goodIn_of _ (by decide +kernel)) ggL_law_X6_alike
set_option maxRecDepth 20000 in
theorem ggL_law_X7_alike : GoodIn wsL_law wsX7_alike := goodIn_r _ [510, 152, 239, 240, 241, 5, 242, 151, 154, 155, 156, 511, 512, 513, 514, 112, 398, 399, 400, 515, 516, 517, 518, 126, 519, 520, 521, 522, 178, 179, 180, 181, 182, 183, 686, 687, 688, 689, 690, 691, 692, 693, 694, 695, 696, 697, 698, 699, 700, 701, 702, 703, 704, 705, 706] (by decide +kernel) (by decide +kernel)
set_option maxRecDepth 20000 in
theorem gL_law_X7_alike : GoodIn wsL_law (wsV RL 80 RX7 yX7_alike wsX7_alike) := goodIn_app (goodIn_of _ (by decide +kernel)) ggL_law_X7_alike
set_option maxRecDepth 20000 in
theorem ggL_law_X6_kinds : GoodIn wsL_law wsX6_kinds := goodIn_r _ [526, 32, 41, 39, 490, 491, 492, 31, 493, 494, 495, 496, 341, 260, 342, 497, 498, 499, 500, 501, 98, 502, 503, 504, 505, 506, 50, 15, 51, 52, 53, 54, 527, 528, 529, 676, 677, 678, 679, 680, 681, 682, 683, 684, 685, 728, 729, 730, 731] (by decide +kernel) (by decide +kernel)
set_option maxRecDepth 20000 in
theorem gL_law_X6_kinds : GoodIn wsL_law (wsV RL 81 RX6 yX6_kinds wsX6_kinds) := goodIn_app (goodIn_of _ (by decide +kernel)) ggL_law_X6_kinds
set_option maxRecDepth 20000 in
theorem ggL_law_X7_kinds : GoodIn wsL_law wsX7_kinds := goodIn_r _ [533, 112, 152, 511, 512, 513, 5, 514, 398, 399, 400, 515, 516, 517, 518, 126, 519, 520, 521, 522, 178, 179, 180, 181, 182, 183, 686, 687, 688, 689, 690, 691, 692, 693, 694, 695, 696, 697, 698, 699, 700, 701, 702, 703, 704, 705, 706] (by decide +kernel) (by decide +kernel)
set_option maxRecDepth 20000 in
theorem gL_law_X7_kinds : GoodIn wsL_law (wsV RL 84 RX7 yX7_kinds wsX7_kinds) := goodIn_app (goodIn_of _ (by decide +kernel)) ggL_law_X7_kinds
set_option maxRecDepth 20000 in
theorem ggL_law_X6_seed : GoodIn wsL_law wsX6_seed := goodIn_r _ [537, 28, 538, 539, 540, 27, 541, 542, 676, 677, 678, 679, 680, 681, 682, 683, 684, 685, 727] (by decide +kernel) (by decide +kernel)
set_option maxRecDepth 20000 in
theorem gL_law_X6_seed : GoodIn wsL_law (wsV RL 87 RX6 yX6_seed wsX6_seed) := goodIn_app (goodIn_of _ (by decide +kernel)) ggL_law_X6_seed
set_option maxRecDepth 20000 in
theorem ggL_law_X7_seed : GoodIn wsL_law wsX7_seed := goodIn_r _ [546, 547, 686, 687, 688, 689, 690, 691, 692, 693, 694, 695, 696, 697, 698, 699, 700, 701, 702, 703, 704, 705, 706] (by decide +kernel) (by decide +kernel)
set_option maxRecDepth 20000 in
theorem gL_law_X7_seed : GoodIn wsL_law (wsV RL 91 RX7 yX7_seed wsX7_seed) := goodIn_app (goodIn_of _ (by decide +kernel)) ggL_law_X7_seed
set_option maxRecDepth 20000 in
theorem ggL_law_X6_swaps : GoodIn wsL_law wsX6_swaps := goodIn_r _ [551, 552, 553, 554, 2, 555, 41, 28, 556, 16, 557, 268, 269, 270, 271, 272, 273, 558, 559, 560, 27, 561, 562, 563, 542, 564, 565, 566, 567, 568, 569, 570, 69, 70, 15, 71, 46, 571, 73, 74, 75, 47, 169, 50, 51, 52, 53, 54, 676, 677, 678, 679, 680, 681, 682, 683, 684, 685, 727, 707, 708, 709] (by decide +kernel) (by decide +kernel)
set_option maxRecDepth 20000 in
theorem gL_law_X6_swaps : GoodIn wsL_law (wsV RL 92 RX6 yX6_swaps wsX6_swaps) := goodIn_app (goodIn_of _ (by decide +kernel)) ggL_law_X6_swaps
set_option maxRecDepth 20000 in
theorem ggL_law_X7_swaps : GoodIn wsL_law wsX7_swaps := goodIn_r _ [575, 576, 154, 155, 5, 156, 577, 578, 579, 580, 152, 192, 299, 300, 301, 302, 151, 581, 582, 583, 584, 585, 547, 586, 587, 588, 589, 590, 591, 592, 593, 594, 181, 182, 183, 686, 687, 688, 689, 690, 691, 692, 693, 694, 695, 696, 697, 698, 699, 700, 701, 702, 703, 704, 705, 706] (by decide +kernel) (by decide +kernel)
set_option maxRecDepth 20000 in
theorem gL_law_X7_swaps : GoodIn wsL_law (wsV RL 95 RX7 yX7_swaps wsX7_swaps) := goodIn_app (goodIn_of _ (by decide +kernel)) ggL_law_X7_swaps
set_option maxRecDepth 20000 in
theorem ggL_law_X6_drawn : GoodIn wsL_law wsX6_drawn := goodIn_r _ [598, 24, 41, 39, 28, 331, 332, 2, 333, 334, 335, 336, 23, 337, 338, 339, 340, 341, 260, 342, 343, 84, 85, 90, 86, 81, 82, 344, 53, 15, 54, 345, 346, 347, 348, 87, 88, 89, 349, 350, 351, 352, 268, 269, 270, 271, 272, 273, 353, 264, 265, 266, 48, 267, 354, 355, 356, 357, 358, 359, 360, 19, 361, 62, 362, 37, 363, 364, 365, 366, 367, 368, 369, 419, 420, 421, 422, 40, 370, 371, 372, 373, 374, 375, 376, 377, 378, 379, 380, 381, 254, 255, 256, 257, 59, 60, 61, 258, 259, 261, 262, 68, 69, 70, 71, 46, 263, 72, 73, 74, 75, 47, 274, 275, 276, 277, 278, 279, 280, 281, 282, 283, 284, 285, 286, 287, 288, 63, 289, 382, 383, 384, 385, 558, 559, 560, 27, 561, 562, 563, 542, 564, 565, 599, 600, 601, 602, 676, 677, 678, 679, 680, 681, 682, 683, 684, 685, 715, 716, 717, 718, 719, 720, 721, 722, 723, 724, 725, 726, 707, 708, 709, 710, 711, 712, 713, 714, 727] (by decide +kernel) (by decide +kernel)
set_option maxRecDepth 20000 in
theorem gL_law_X6_drawn : GoodIn wsL_law (wsV RL 96 RX6 yX6_drawn wsX6_drawn) := goodIn_app (goodIn_of _ (by decide +kernel)) ggL_law_X6_drawn
set_option maxRecDepth 20000 in
theorem ggL_law_X7_drawn : GoodIn wsL_law wsX7_drawn := goodIn_r _ [606, 152, 390, 391, 5, 392, 218, 154, 155, 156, 393, 394, 395, 396, 397, 151, 124, 114, 115, 116, 112, 125, 299, 300, 301, 302, 398, 399, 400, 323, 324, 325, 326, 178, 179, 180, 181, 182, 183, 401, 402, 403, 404, 405, 123, 303, 304, 305, 306, 428, 429, 430, 431, 406, 407, 408, 409, 117, 410, 411, 412, 413, 581, 582, 583, 584, 585, 547, 586, 587, 686, 687, 688, 689, 690, 691, 692, 693, 694, 695, 696, 697, 698, 699, 700, 701, 702, 703, 704, 705, 706] (by decide +kernel) (by decide +kernel)
set_option maxRecDepth 20000 in
theorem gL_law_X7_drawn : GoodIn wsL_law (wsV RL 99 RX7 yX7_drawn wsX7_drawn) := goodIn_app (goodIn_of _ (by decide +kernel)) ggL_law_X7_drawn
set_option maxRecDepth 20000 in
theorem ggL_law_X6_blocks : GoodIn wsL_law wsX6_blocks := goodIn_r _ [610, 39, 36, 41, 611, 612, 613, 35, 614, 615, 616, 341, 260, 342, 617, 618, 619, 620, 145, 621, 622, 623, 624, 104, 625, 626, 627, 628, 105, 629, 364, 365, 366, 630, 631, 632, 633, 106, 107, 634, 635, 636, 637, 103, 638, 259, 261, 639, 53, 15, 54, 640, 69, 70, 71, 46, 641, 73, 74, 75, 47, 642, 643, 644, 676, 677, 678, 679, 680, 681, 682, 683, 684, 685, 732, 733, 734, 735, 736, 737, 738, 739, 740, 741, 707, 708, 709] (by decide +kernel) (by decide +kernel)
set_option maxRecDepth 20000 in
theorem gL_law_X6_blocks : GoodIn wsL_law (wsV RL 100 RX6 yX6_blocks wsX6_blocks) := goodIn_app (goodIn_of _ (by decide +kernel)) ggL_law_X6_blocks
set_option maxRecDepth 20000 in
theorem ggL_law_X7_blocks : GoodIn wsL_law wsX7_blocks := goodIn_r _ [648, 112, 118, 127, 153, 154, 155, 5, 156, 398, 399, 400, 649, 650, 651, 652, 653, 654, 655, 656, 152, 178, 179, 180, 181, 182, 183, 657, 658, 659, 686, 687, 688, 689, 690, 691, 692, 693, 694, 695, 696, 697, 698, 699, 700, 701, 702, 703, 704, 705, 706] (by decide +kernel) (by decide +kernel)
set_option maxRecDepth 20000 in
theorem gL_law_X7_blocks : GoodIn wsL_law (wsV RL 103 RX7 yX7_blocks wsX7_blocks) := goodIn_app (goodIn_of _ (by decide +kernel)) ggL_law_X7_blocks
set_option maxRecDepth 20000 in
theorem ggL_law_X6_block : GoodIn wsL_law wsX6_block := goodIn_r _ [663, 36, 165, 166, 167, 2, 168, 39, 664, 665, 666, 35, 667, 145, 668, 669, 670, 671, 105, 676, 677, 678, 679, 680, 681, 682, 683, 684, 685, 732, 733, 734, 735, 736, 737, 738, 739, 740, 741] (by decide +kernel) (by decide +kernel)
set_option maxRecDepth 20000 in
theorem gL_law_X6_block : GoodIn wsL_law (wsV RL 104 RX6 yX6_block wsX6_block) := goodIn_app (goodIn_of _ (by decide +kernel)) ggL_law_X6_block
set_option maxRecDepth 20000 in
theorem ggL_law_X7_block : GoodIn wsL_law wsX7_block := goodIn_r _ [675, 153, 118, 174, 175, 176, 5, 177, 112, 154, 155, 156, 686, 687, 688, 689, 690, 691, 692, 693, 694, 695, 696, 697, 698, 699, 700, 701, 702, 703, 704, 705, 706] (by decide +kernel) (by decide +kernel)
set_option maxRecDepth 20000 in
theorem gL_law_X7_block : GoodIn wsL_law (wsV RL 107 RX7 yX7_block wsX7_block) := goodIn_app (goodIn_of _ (by decide +kernel)) ggL_law_X7_block
theorem dL_law_0 : decode cL_law 0 = .ok (.new 7, 3) := by decide +kernel
theorem dL_law_3 : decode cL_law 3 = .ok (.dup, 1) := by decide +kernel
theorem dL_law_4 : decode cL_law 4 = .ok (.invokespecial 9, 3) := by decide +kernel
theorem dL_law_7 : decode cL_law 7 = .ok (.astore_n 1, 1) := by decide +kernel
theorem dL_law_8 : decode cL_law 8 = .ok (.new 10, 3) := by decide +kernel
theorem dL_law_11 : decode cL_law 11 = .ok (.dup, 1) := by decide +kernel
theorem dL_law_12 : decode cL_law 12 = .ok (.invokespecial 12, 3) := by decide +kernel
theorem dL_law_15 : decode cL_law 15 = .ok (.astore_n 2, 1) := by decide +kernel
theorem dL_law_16 : decode cL_law 16 = .ok (.iconst 0, 1) := by decide +kernel
theorem dL_law_17 : decode cL_law 17 = .ok (.istore_n 3, 1) := by decide +kernel
theorem dL_law_18 : decode cL_law 18 = .ok (.iload_n 3, 1) := by decide +kernel
theorem dL_law_19 : decode cL_law 19 = .ok (.aload_n 0, 1) := by decide +kernel
theorem dL_law_20 : decode cL_law 20 = .ok (.arraylength, 1) := by decide +kernel
theorem dL_law_21 : decode cL_law 21 = .ok (.iconst 5, 1) := by decide +kernel
theorem dL_law_22 : decode cL_law 22 = .ok (.isub, 1) := by decide +kernel
theorem dL_law_23 : decode cL_law 23 = .ok (.if_icmp .gt 767, 3) := by decide +kernel
theorem dL_law_26 : decode cL_law 26 = .ok (.aload_n 0, 1) := by decide +kernel
theorem dL_law_27 : decode cL_law 27 = .ok (.iload_n 3, 1) := by decide +kernel
theorem dL_law_28 : decode cL_law 28 = .ok (.iaload, 1) := by decide +kernel
theorem dL_law_29 : decode cL_law 29 = .ok (.bipush 31, 2) := by decide +kernel
theorem dL_law_31 : decode cL_law 31 = .ok (.iand, 1) := by decide +kernel
theorem dL_law_32 : decode cL_law 32 = .ok (.tableswitch 752 0 20 #[100, 123, 182, 215, 248, 281, 294, 317, 340, 363, 387, 441, 485, 539, 573, 596, 609, 660, 683, 706, 729], 100) := by decide +kernel
theorem dL_law_132 : decode cL_law 132 = .ok (.aload_n 1, 1) := by decide +kernel
theorem dL_law_133 : decode cL_law 133 = .ok (.aload_n 0, 1) := by decide +kernel
theorem dL_law_134 : decode cL_law 134 = .ok (.iload_n 3, 1) := by decide +kernel
theorem dL_law_135 : decode cL_law 135 = .ok (.iconst 1, 1) := by decide +kernel
theorem dL_law_136 : decode cL_law 136 = .ok (.iadd, 1) := by decide +kernel
theorem dL_law_137 : decode cL_law 137 = .ok (.iaload, 1) := by decide +kernel
theorem dL_law_138 : decode cL_law 138 = .ok (.invokevirtual 13, 3) := by decide +kernel
theorem dL_law_141 : decode cL_law 141 = .ok (.aload_n 2, 1) := by decide +kernel
theorem dL_law_142 : decode cL_law 142 = .ok (.aload_n 0, 1) := by decide +kernel
theorem dL_law_143 : decode cL_law 143 = .ok (.iload_n 3, 1) := by decide +kernel
theorem dL_law_144 : decode cL_law 144 = .ok (.iconst 1, 1) := by decide +kernel
theorem dL_law_145 : decode cL_law 145 = .ok (.iadd, 1) := by decide +kernel
theorem dL_law_146 : decode cL_law 146 = .ok (.iaload, 1) := by decide +kernel
theorem dL_law_147 : decode cL_law 147 = .ok (.invokevirtual 17, 3) := by decide +kernel
theorem dL_law_150 : decode cL_law 150 = .ok (.if_icmp .eq 634, 3) := by decide +kernel
theorem dL_law_153 : decode cL_law 153 = .ok (.iconst 0, 1) := by decide +kernel
theorem dL_law_154 : decode cL_law 154 = .ok (.ireturn, 1) := by decide +kernel
theorem dL_law_155 : decode cL_law 155 = .ok (.aload_n 1, 1) := by decide +kernel
theorem dL_law_156 : decode cL_law 156 = .ok (.aload_n 0, 1) := by decide +kernel
theorem dL_law_157 : decode cL_law 157 = .ok (.iload_n 3, 1) := by decide +kernel
theorem dL_law_158 : decode cL_law 158 = .ok (.iconst 1, 1) := by decide +kernel
theorem dL_law_159 : decode cL_law 159 = .ok (.iadd, 1) := by decide +kernel
theorem dL_law_160 : decode cL_law 160 = .ok (.iaload, 1) := by decide +kernel
theorem dL_law_161 : decode cL_law 161 = .ok (.aload_n 0, 1) := by decide +kernel
theorem dL_law_162 : decode cL_law 162 = .ok (.iload_n 3, 1) := by decide +kernel
theorem dL_law_163 : decode cL_law 163 = .ok (.iconst 2, 1) := by decide +kernel
theorem dL_law_164 : decode cL_law 164 = .ok (.iadd, 1) := by decide +kernel
theorem dL_law_165 : decode cL_law 165 = .ok (.iaload, 1) := by decide +kernel
theorem dL_law_166 : decode cL_law 166 = .ok (.aload_n 0, 1) := by decide +kernel
theorem dL_law_167 : decode cL_law 167 = .ok (.iload_n 3, 1) := by decide +kernel
theorem dL_law_168 : decode cL_law 168 = .ok (.iconst 3, 1) := by decide +kernel
theorem dL_law_169 : decode cL_law 169 = .ok (.iadd, 1) := by decide +kernel
theorem dL_law_170 : decode cL_law 170 = .ok (.iaload, 1) := by decide +kernel
theorem dL_law_171 : decode cL_law 171 = .ok (.ifCond .eq 7, 3) := by decide +kernel
theorem dL_law_174 : decode cL_law 174 = .ok (.iconst 1, 1) := by decide +kernel
theorem dL_law_175 : decode cL_law 175 = .ok (.goto 4, 3) := by decide +kernel
theorem dL_law_178 : decode cL_law 178 = .ok (.iconst 0, 1) := by decide +kernel
theorem dL_law_179 : decode cL_law 179 = .ok (.invokevirtual 18, 3) := by decide +kernel
theorem dL_law_182 : decode cL_law 182 = .ok (.aload_n 2, 1) := by decide +kernel
theorem dL_law_183 : decode cL_law 183 = .ok (.aload_n 0, 1) := by decide +kernel
theorem dL_law_184 : decode cL_law 184 = .ok (.iload_n 3, 1) := by decide +kernel
theorem dL_law_185 : decode cL_law 185 = .ok (.iconst 1, 1) := by decide +kernel
theorem dL_law_186 : decode cL_law 186 = .ok (.iadd, 1) := by decide +kernel
theorem dL_law_187 : decode cL_law 187 = .ok (.iaload, 1) := by decide +kernel
theorem dL_law_188 : decode cL_law 188 = .ok (.aload_n 0, 1) := by decide +kernel
theorem dL_law_189 : decode cL_law 189 = .ok (.iload_n 3, 1) := by decide +kernel
theorem dL_law_190 : decode cL_law 190 = .ok (.iconst 2, 1) := by decide +kernel
theorem dL_law_191 : decode cL_law 191 = .ok (.iadd, 1) := by decide +kernel
theorem dL_law_192 : decode cL_law 192 = .ok (.iaload, 1) := by decide +kernel
theorem dL_law_193 : decode cL_law 193 = .ok (.aload_n 0, 1) := by decide +kernel
theorem dL_law_194 : decode cL_law 194 = .ok (.iload_n 3, 1) := by decide +kernel
theorem dL_law_195 : decode cL_law 195 = .ok (.iconst 3, 1) := by decide +kernel
theorem dL_law_196 : decode cL_law 196 = .ok (.iadd, 1) := by decide +kernel
theorem dL_law_197 : decode cL_law 197 = .ok (.iaload, 1) := by decide +kernel
theorem dL_law_198 : decode cL_law 198 = .ok (.ifCond .eq 7, 3) := by decide +kernel
theorem dL_law_201 : decode cL_law 201 = .ok (.iconst 1, 1) := by decide +kernel
theorem dL_law_202 : decode cL_law 202 = .ok (.goto 4, 3) := by decide +kernel
theorem dL_law_205 : decode cL_law 205 = .ok (.iconst 0, 1) := by decide +kernel
theorem dL_law_206 : decode cL_law 206 = .ok (.invokevirtual 22, 3) := by decide +kernel
theorem dL_law_209 : decode cL_law 209 = .ok (.if_icmp .eq 575, 3) := by decide +kernel
theorem dL_law_212 : decode cL_law 212 = .ok (.iconst 0, 1) := by decide +kernel
theorem dL_law_213 : decode cL_law 213 = .ok (.ireturn, 1) := by decide +kernel
theorem dL_law_214 : decode cL_law 214 = .ok (.aload_n 1, 1) := by decide +kernel
theorem dL_law_215 : decode cL_law 215 = .ok (.aload_n 0, 1) := by decide +kernel
theorem dL_law_216 : decode cL_law 216 = .ok (.iload_n 3, 1) := by decide +kernel
theorem dL_law_217 : decode cL_law 217 = .ok (.iconst 1, 1) := by decide +kernel
theorem dL_law_218 : decode cL_law 218 = .ok (.iadd, 1) := by decide +kernel
theorem dL_law_219 : decode cL_law 219 = .ok (.iaload, 1) := by decide +kernel
theorem dL_law_220 : decode cL_law 220 = .ok (.aload_n 0, 1) := by decide +kernel
theorem dL_law_221 : decode cL_law 221 = .ok (.iload_n 3, 1) := by decide +kernel
theorem dL_law_222 : decode cL_law 222 = .ok (.iconst 2, 1) := by decide +kernel
theorem dL_law_223 : decode cL_law 223 = .ok (.iadd, 1) := by decide +kernel
theorem dL_law_224 : decode cL_law 224 = .ok (.iaload, 1) := by decide +kernel
theorem dL_law_225 : decode cL_law 225 = .ok (.invokevirtual 23, 3) := by decide +kernel
theorem dL_law_228 : decode cL_law 228 = .ok (.aload_n 2, 1) := by decide +kernel
theorem dL_law_229 : decode cL_law 229 = .ok (.aload_n 0, 1) := by decide +kernel
theorem dL_law_230 : decode cL_law 230 = .ok (.iload_n 3, 1) := by decide +kernel
theorem dL_law_231 : decode cL_law 231 = .ok (.iconst 1, 1) := by decide +kernel
theorem dL_law_232 : decode cL_law 232 = .ok (.iadd, 1) := by decide +kernel
theorem dL_law_233 : decode cL_law 233 = .ok (.iaload, 1) := by decide +kernel
theorem dL_law_234 : decode cL_law 234 = .ok (.aload_n 0, 1) := by decide +kernel
theorem dL_law_235 : decode cL_law 235 = .ok (.iload_n 3, 1) := by decide +kernel
theorem dL_law_236 : decode cL_law 236 = .ok (.iconst 2, 1) := by decide +kernel
theorem dL_law_237 : decode cL_law 237 = .ok (.iadd, 1) := by decide +kernel
theorem dL_law_238 : decode cL_law 238 = .ok (.iaload, 1) := by decide +kernel
theorem dL_law_239 : decode cL_law 239 = .ok (.invokevirtual 27, 3) := by decide +kernel
theorem dL_law_242 : decode cL_law 242 = .ok (.if_icmp .eq 542, 3) := by decide +kernel
theorem dL_law_245 : decode cL_law 245 = .ok (.iconst 0, 1) := by decide +kernel
theorem dL_law_246 : decode cL_law 246 = .ok (.ireturn, 1) := by decide +kernel
theorem dL_law_247 : decode cL_law 247 = .ok (.aload_n 1, 1) := by decide +kernel
theorem dL_law_248 : decode cL_law 248 = .ok (.aload_n 0, 1) := by decide +kernel
theorem dL_law_249 : decode cL_law 249 = .ok (.iload_n 3, 1) := by decide +kernel
theorem dL_law_250 : decode cL_law 250 = .ok (.iconst 1, 1) := by decide +kernel
theorem dL_law_251 : decode cL_law 251 = .ok (.iadd, 1) := by decide +kernel
theorem dL_law_252 : decode cL_law 252 = .ok (.iaload, 1) := by decide +kernel
theorem dL_law_253 : decode cL_law 253 = .ok (.aload_n 0, 1) := by decide +kernel
theorem dL_law_254 : decode cL_law 254 = .ok (.iload_n 3, 1) := by decide +kernel
theorem dL_law_255 : decode cL_law 255 = .ok (.iconst 2, 1) := by decide +kernel
theorem dL_law_256 : decode cL_law 256 = .ok (.iadd, 1) := by decide +kernel
theorem dL_law_257 : decode cL_law 257 = .ok (.iaload, 1) := by decide +kernel
theorem dL_law_258 : decode cL_law 258 = .ok (.invokevirtual 28, 3) := by decide +kernel
theorem dL_law_261 : decode cL_law 261 = .ok (.aload_n 2, 1) := by decide +kernel
theorem dL_law_262 : decode cL_law 262 = .ok (.aload_n 0, 1) := by decide +kernel
theorem dL_law_263 : decode cL_law 263 = .ok (.iload_n 3, 1) := by decide +kernel
theorem dL_law_264 : decode cL_law 264 = .ok (.iconst 1, 1) := by decide +kernel
theorem dL_law_265 : decode cL_law 265 = .ok (.iadd, 1) := by decide +kernel
theorem dL_law_266 : decode cL_law 266 = .ok (.iaload, 1) := by decide +kernel
theorem dL_law_267 : decode cL_law 267 = .ok (.aload_n 0, 1) := by decide +kernel
theorem dL_law_268 : decode cL_law 268 = .ok (.iload_n 3, 1) := by decide +kernel
theorem dL_law_269 : decode cL_law 269 = .ok (.iconst 2, 1) := by decide +kernel
theorem dL_law_270 : decode cL_law 270 = .ok (.iadd, 1) := by decide +kernel
theorem dL_law_271 : decode cL_law 271 = .ok (.iaload, 1) := by decide +kernel
theorem dL_law_272 : decode cL_law 272 = .ok (.invokevirtual 31, 3) := by decide +kernel
theorem dL_law_275 : decode cL_law 275 = .ok (.if_icmp .eq 509, 3) := by decide +kernel
theorem dL_law_278 : decode cL_law 278 = .ok (.iconst 0, 1) := by decide +kernel
theorem dL_law_279 : decode cL_law 279 = .ok (.ireturn, 1) := by decide +kernel
theorem dL_law_280 : decode cL_law 280 = .ok (.aload_n 1, 1) := by decide +kernel
theorem dL_law_281 : decode cL_law 281 = .ok (.aload_n 0, 1) := by decide +kernel
theorem dL_law_282 : decode cL_law 282 = .ok (.iload_n 3, 1) := by decide +kernel
theorem dL_law_283 : decode cL_law 283 = .ok (.iconst 1, 1) := by decide +kernel
theorem dL_law_284 : decode cL_law 284 = .ok (.iadd, 1) := by decide +kernel
theorem dL_law_285 : decode cL_law 285 = .ok (.iaload, 1) := by decide +kernel
theorem dL_law_286 : decode cL_law 286 = .ok (.aload_n 0, 1) := by decide +kernel
theorem dL_law_287 : decode cL_law 287 = .ok (.iload_n 3, 1) := by decide +kernel
theorem dL_law_288 : decode cL_law 288 = .ok (.iconst 2, 1) := by decide +kernel
theorem dL_law_289 : decode cL_law 289 = .ok (.iadd, 1) := by decide +kernel
theorem dL_law_290 : decode cL_law 290 = .ok (.iaload, 1) := by decide +kernel
theorem dL_law_291 : decode cL_law 291 = .ok (.invokevirtual 32, 3) := by decide +kernel
theorem dL_law_294 : decode cL_law 294 = .ok (.aload_n 2, 1) := by decide +kernel
theorem dL_law_295 : decode cL_law 295 = .ok (.aload_n 0, 1) := by decide +kernel
theorem dL_law_296 : decode cL_law 296 = .ok (.iload_n 3, 1) := by decide +kernel
theorem dL_law_297 : decode cL_law 297 = .ok (.iconst 1, 1) := by decide +kernel
theorem dL_law_298 : decode cL_law 298 = .ok (.iadd, 1) := by decide +kernel
theorem dL_law_299 : decode cL_law 299 = .ok (.iaload, 1) := by decide +kernel
theorem dL_law_300 : decode cL_law 300 = .ok (.aload_n 0, 1) := by decide +kernel
theorem dL_law_301 : decode cL_law 301 = .ok (.iload_n 3, 1) := by decide +kernel
theorem dL_law_302 : decode cL_law 302 = .ok (.iconst 2, 1) := by decide +kernel
theorem dL_law_303 : decode cL_law 303 = .ok (.iadd, 1) := by decide +kernel
theorem dL_law_304 : decode cL_law 304 = .ok (.iaload, 1) := by decide +kernel
theorem dL_law_305 : decode cL_law 305 = .ok (.invokevirtual 35, 3) := by decide +kernel
theorem dL_law_308 : decode cL_law 308 = .ok (.if_icmp .eq 476, 3) := by decide +kernel
theorem dL_law_311 : decode cL_law 311 = .ok (.iconst 0, 1) := by decide +kernel
theorem dL_law_312 : decode cL_law 312 = .ok (.ireturn, 1) := by decide +kernel
theorem dL_law_313 : decode cL_law 313 = .ok (.aload_n 1, 1) := by decide +kernel
theorem dL_law_314 : decode cL_law 314 = .ok (.invokevirtual 36, 3) := by decide +kernel
theorem dL_law_317 : decode cL_law 317 = .ok (.aload_n 2, 1) := by decide +kernel
theorem dL_law_318 : decode cL_law 318 = .ok (.invokevirtual 40, 3) := by decide +kernel
theorem dL_law_321 : decode cL_law 321 = .ok (.if_icmp .eq 463, 3) := by decide +kernel
theorem dL_law_324 : decode cL_law 324 = .ok (.iconst 0, 1) := by decide +kernel
theorem dL_law_325 : decode cL_law 325 = .ok (.ireturn, 1) := by decide +kernel
theorem dL_law_326 : decode cL_law 326 = .ok (.aload_n 1, 1) := by decide +kernel
theorem dL_law_327 : decode cL_law 327 = .ok (.aload_n 0, 1) := by decide +kernel
theorem dL_law_328 : decode cL_law 328 = .ok (.iload_n 3, 1) := by decide +kernel
theorem dL_law_329 : decode cL_law 329 = .ok (.iconst 1, 1) := by decide +kernel
theorem dL_law_330 : decode cL_law 330 = .ok (.iadd, 1) := by decide +kernel
theorem dL_law_331 : decode cL_law 331 = .ok (.iaload, 1) := by decide +kernel
theorem dL_law_332 : decode cL_law 332 = .ok (.invokevirtual 41, 3) := by decide +kernel
theorem dL_law_335 : decode cL_law 335 = .ok (.aload_n 2, 1) := by decide +kernel
theorem dL_law_336 : decode cL_law 336 = .ok (.aload_n 0, 1) := by decide +kernel
theorem dL_law_337 : decode cL_law 337 = .ok (.iload_n 3, 1) := by decide +kernel
theorem dL_law_338 : decode cL_law 338 = .ok (.iconst 1, 1) := by decide +kernel
theorem dL_law_339 : decode cL_law 339 = .ok (.iadd, 1) := by decide +kernel
theorem dL_law_340 : decode cL_law 340 = .ok (.iaload, 1) := by decide +kernel
theorem dL_law_341 : decode cL_law 341 = .ok (.invokevirtual 44, 3) := by decide +kernel
theorem dL_law_344 : decode cL_law 344 = .ok (.if_icmp .eq 440, 3) := by decide +kernel
theorem dL_law_347 : decode cL_law 347 = .ok (.iconst 0, 1) := by decide +kernel
theorem dL_law_348 : decode cL_law 348 = .ok (.ireturn, 1) := by decide +kernel
theorem dL_law_349 : decode cL_law 349 = .ok (.aload_n 1, 1) := by decide +kernel
theorem dL_law_350 : decode cL_law 350 = .ok (.aload_n 0, 1) := by decide +kernel
theorem dL_law_351 : decode cL_law 351 = .ok (.iload_n 3, 1) := by decide +kernel
theorem dL_law_352 : decode cL_law 352 = .ok (.iconst 1, 1) := by decide +kernel
theorem dL_law_353 : decode cL_law 353 = .ok (.iadd, 1) := by decide +kernel
theorem dL_law_354 : decode cL_law 354 = .ok (.iaload, 1) := by decide +kernel
theorem dL_law_355 : decode cL_law 355 = .ok (.invokevirtual 45, 3) := by decide +kernel
theorem dL_law_358 : decode cL_law 358 = .ok (.aload_n 2, 1) := by decide +kernel
theorem dL_law_359 : decode cL_law 359 = .ok (.aload_n 0, 1) := by decide +kernel
theorem dL_law_360 : decode cL_law 360 = .ok (.iload_n 3, 1) := by decide +kernel
theorem dL_law_361 : decode cL_law 361 = .ok (.iconst 1, 1) := by decide +kernel
theorem dL_law_362 : decode cL_law 362 = .ok (.iadd, 1) := by decide +kernel
theorem dL_law_363 : decode cL_law 363 = .ok (.iaload, 1) := by decide +kernel
theorem dL_law_364 : decode cL_law 364 = .ok (.invokevirtual 48, 3) := by decide +kernel
theorem dL_law_367 : decode cL_law 367 = .ok (.if_icmp .eq 417, 3) := by decide +kernel
theorem dL_law_370 : decode cL_law 370 = .ok (.iconst 0, 1) := by decide +kernel
theorem dL_law_371 : decode cL_law 371 = .ok (.ireturn, 1) := by decide +kernel
theorem dL_law_372 : decode cL_law 372 = .ok (.aload_n 1, 1) := by decide +kernel
theorem dL_law_373 : decode cL_law 373 = .ok (.aload_n 0, 1) := by decide +kernel
theorem dL_law_374 : decode cL_law 374 = .ok (.iload_n 3, 1) := by decide +kernel
theorem dL_law_375 : decode cL_law 375 = .ok (.iconst 1, 1) := by decide +kernel
theorem dL_law_376 : decode cL_law 376 = .ok (.iadd, 1) := by decide +kernel
theorem dL_law_377 : decode cL_law 377 = .ok (.iaload, 1) := by decide +kernel
theorem dL_law_378 : decode cL_law 378 = .ok (.invokevirtual 49, 3) := by decide +kernel
theorem dL_law_381 : decode cL_law 381 = .ok (.aload_n 2, 1) := by decide +kernel
theorem dL_law_382 : decode cL_law 382 = .ok (.aload_n 0, 1) := by decide +kernel
theorem dL_law_383 : decode cL_law 383 = .ok (.iload_n 3, 1) := by decide +kernel
theorem dL_law_384 : decode cL_law 384 = .ok (.iconst 1, 1) := by decide +kernel
theorem dL_law_385 : decode cL_law 385 = .ok (.iadd, 1) := by decide +kernel
theorem dL_law_386 : decode cL_law 386 = .ok (.iaload, 1) := by decide +kernel
theorem dL_law_387 : decode cL_law 387 = .ok (.invokevirtual 52, 3) := by decide +kernel
theorem dL_law_390 : decode cL_law 390 = .ok (.if_icmp .eq 394, 3) := by decide +kernel
theorem dL_law_393 : decode cL_law 393 = .ok (.iconst 0, 1) := by decide +kernel
theorem dL_law_394 : decode cL_law 394 = .ok (.ireturn, 1) := by decide +kernel
theorem dL_law_395 : decode cL_law 395 = .ok (.aload_n 1, 1) := by decide +kernel
theorem dL_law_396 : decode cL_law 396 = .ok (.aload_n 0, 1) := by decide +kernel
theorem dL_law_397 : decode cL_law 397 = .ok (.iload_n 3, 1) := by decide +kernel
theorem dL_law_398 : decode cL_law 398 = .ok (.iconst 1, 1) := by decide +kernel
theorem dL_law_399 : decode cL_law 399 = .ok (.iadd, 1) := by decide +kernel
theorem dL_law_400 : decode cL_law 400 = .ok (.iaload, 1) := by decide +kernel
theorem dL_law_401 : decode cL_law 401 = .ok (.invokevirtual 53, 3) := by decide +kernel
theorem dL_law_404 : decode cL_law 404 = .ok (.aload_n 2, 1) := by decide +kernel
theorem dL_law_405 : decode cL_law 405 = .ok (.aload_n 0, 1) := by decide +kernel
theorem dL_law_406 : decode cL_law 406 = .ok (.iload_n 3, 1) := by decide +kernel
theorem dL_law_407 : decode cL_law 407 = .ok (.iconst 1, 1) := by decide +kernel
theorem dL_law_408 : decode cL_law 408 = .ok (.iadd, 1) := by decide +kernel
theorem dL_law_409 : decode cL_law 409 = .ok (.iaload, 1) := by decide +kernel
theorem dL_law_410 : decode cL_law 410 = .ok (.invokevirtual 57, 3) := by decide +kernel
theorem dL_law_413 : decode cL_law 413 = .ok (.lcmp, 1) := by decide +kernel
theorem dL_law_414 : decode cL_law 414 = .ok (.ifCond .eq 370, 3) := by decide +kernel
theorem dL_law_417 : decode cL_law 417 = .ok (.iconst 0, 1) := by decide +kernel
theorem dL_law_418 : decode cL_law 418 = .ok (.ireturn, 1) := by decide +kernel
theorem dL_law_419 : decode cL_law 419 = .ok (.aload_n 1, 1) := by decide +kernel
theorem dL_law_420 : decode cL_law 420 = .ok (.aload_n 0, 1) := by decide +kernel
theorem dL_law_421 : decode cL_law 421 = .ok (.iload_n 3, 1) := by decide +kernel
theorem dL_law_422 : decode cL_law 422 = .ok (.iconst 1, 1) := by decide +kernel
theorem dL_law_423 : decode cL_law 423 = .ok (.iadd, 1) := by decide +kernel
theorem dL_law_424 : decode cL_law 424 = .ok (.iaload, 1) := by decide +kernel
theorem dL_law_425 : decode cL_law 425 = .ok (.aload_n 0, 1) := by decide +kernel
theorem dL_law_426 : decode cL_law 426 = .ok (.iload_n 3, 1) := by decide +kernel
theorem dL_law_427 : decode cL_law 427 = .ok (.iconst 2, 1) := by decide +kernel
theorem dL_law_428 : decode cL_law 428 = .ok (.iadd, 1) := by decide +kernel
theorem dL_law_429 : decode cL_law 429 = .ok (.iaload, 1) := by decide +kernel
theorem dL_law_430 : decode cL_law 430 = .ok (.aload_n 0, 1) := by decide +kernel
theorem dL_law_431 : decode cL_law 431 = .ok (.iload_n 3, 1) := by decide +kernel
theorem dL_law_432 : decode cL_law 432 = .ok (.iconst 3, 1) := by decide +kernel
theorem dL_law_433 : decode cL_law 433 = .ok (.iadd, 1) := by decide +kernel
theorem dL_law_434 : decode cL_law 434 = .ok (.iaload, 1) := by decide +kernel
theorem dL_law_435 : decode cL_law 435 = .ok (.aload_n 0, 1) := by decide +kernel
theorem dL_law_436 : decode cL_law 436 = .ok (.iload_n 3, 1) := by decide +kernel
theorem dL_law_437 : decode cL_law 437 = .ok (.iconst 4, 1) := by decide +kernel
theorem dL_law_438 : decode cL_law 438 = .ok (.iadd, 1) := by decide +kernel
theorem dL_law_439 : decode cL_law 439 = .ok (.iaload, 1) := by decide +kernel
theorem dL_law_440 : decode cL_law 440 = .ok (.invokevirtual 58, 3) := by decide +kernel
theorem dL_law_443 : decode cL_law 443 = .ok (.aload_n 2, 1) := by decide +kernel
theorem dL_law_444 : decode cL_law 444 = .ok (.aload_n 0, 1) := by decide +kernel
theorem dL_law_445 : decode cL_law 445 = .ok (.iload_n 3, 1) := by decide +kernel
theorem dL_law_446 : decode cL_law 446 = .ok (.iconst 1, 1) := by decide +kernel
theorem dL_law_447 : decode cL_law 447 = .ok (.iadd, 1) := by decide +kernel
theorem dL_law_448 : decode cL_law 448 = .ok (.iaload, 1) := by decide +kernel
theorem dL_law_449 : decode cL_law 449 = .ok (.aload_n 0, 1) := by decide +kernel
theorem dL_law_450 : decode cL_law 450 = .ok (.iload_n 3, 1) := by decide +kernel
theorem dL_law_451 : decode cL_law 451 = .ok (.iconst 2, 1) := by decide +kernel
theorem dL_law_452 : decode cL_law 452 = .ok (.iadd, 1) := by decide +kernel
theorem dL_law_453 : decode cL_law 453 = .ok (.iaload, 1) := by decide +kernel
theorem dL_law_454 : decode cL_law 454 = .ok (.aload_n 0, 1) := by decide +kernel
theorem dL_law_455 : decode cL_law 455 = .ok (.iload_n 3, 1) := by decide +kernel
theorem dL_law_456 : decode cL_law 456 = .ok (.iconst 3, 1) := by decide +kernel
theorem dL_law_457 : decode cL_law 457 = .ok (.iadd, 1) := by decide +kernel
theorem dL_law_458 : decode cL_law 458 = .ok (.iaload, 1) := by decide +kernel
theorem dL_law_459 : decode cL_law 459 = .ok (.aload_n 0, 1) := by decide +kernel
theorem dL_law_460 : decode cL_law 460 = .ok (.iload_n 3, 1) := by decide +kernel
theorem dL_law_461 : decode cL_law 461 = .ok (.iconst 4, 1) := by decide +kernel
theorem dL_law_462 : decode cL_law 462 = .ok (.iadd, 1) := by decide +kernel
theorem dL_law_463 : decode cL_law 463 = .ok (.iaload, 1) := by decide +kernel
theorem dL_law_464 : decode cL_law 464 = .ok (.invokevirtual 62, 3) := by decide +kernel
theorem dL_law_467 : decode cL_law 467 = .ok (.lcmp, 1) := by decide +kernel
theorem dL_law_468 : decode cL_law 468 = .ok (.ifCond .eq 316, 3) := by decide +kernel
theorem dL_law_471 : decode cL_law 471 = .ok (.iconst 0, 1) := by decide +kernel
theorem dL_law_472 : decode cL_law 472 = .ok (.ireturn, 1) := by decide +kernel
theorem dL_law_473 : decode cL_law 473 = .ok (.aload_n 1, 1) := by decide +kernel
theorem dL_law_474 : decode cL_law 474 = .ok (.aload_n 0, 1) := by decide +kernel
theorem dL_law_475 : decode cL_law 475 = .ok (.iload_n 3, 1) := by decide +kernel
theorem dL_law_476 : decode cL_law 476 = .ok (.iconst 1, 1) := by decide +kernel
theorem dL_law_477 : decode cL_law 477 = .ok (.iadd, 1) := by decide +kernel
theorem dL_law_478 : decode cL_law 478 = .ok (.iaload, 1) := by decide +kernel
theorem dL_law_479 : decode cL_law 479 = .ok (.aload_n 0, 1) := by decide +kernel
theorem dL_law_480 : decode cL_law 480 = .ok (.iload_n 3, 1) := by decide +kernel
theorem dL_law_481 : decode cL_law 481 = .ok (.iconst 2, 1) := by decide +kernel
theorem dL_law_482 : decode cL_law 482 = .ok (.iadd, 1) := by decide +kernel
theorem dL_law_483 : decode cL_law 483 = .ok (.iaload, 1) := by decide +kernel
theorem dL_law_484 : decode cL_law 484 = .ok (.aload_n 0, 1) := by decide +kernel
theorem dL_law_485 : decode cL_law 485 = .ok (.iload_n 3, 1) := by decide +kernel
theorem dL_law_486 : decode cL_law 486 = .ok (.iconst 3, 1) := by decide +kernel
theorem dL_law_487 : decode cL_law 487 = .ok (.iadd, 1) := by decide +kernel
theorem dL_law_488 : decode cL_law 488 = .ok (.iaload, 1) := by decide +kernel
theorem dL_law_489 : decode cL_law 489 = .ok (.invokevirtual 63, 3) := by decide +kernel
theorem dL_law_492 : decode cL_law 492 = .ok (.aload_n 2, 1) := by decide +kernel
theorem dL_law_493 : decode cL_law 493 = .ok (.aload_n 0, 1) := by decide +kernel
theorem dL_law_494 : decode cL_law 494 = .ok (.iload_n 3, 1) := by decide +kernel
theorem dL_law_495 : decode cL_law 495 = .ok (.iconst 1, 1) := by decide +kernel
theorem dL_law_496 : decode cL_law 496 = .ok (.iadd, 1) := by decide +kernel
theorem dL_law_497 : decode cL_law 497 = .ok (.iaload, 1) := by decide +kernel
theorem dL_law_498 : decode cL_law 498 = .ok (.aload_n 0, 1) := by decide +kernel
theorem dL_law_499 : decode cL_law 499 = .ok (.iload_n 3, 1) := by decide +kernel
theorem dL_law_500 : decode cL_law 500 = .ok (.iconst 2, 1) := by decide +kernel
theorem dL_law_501 : decode cL_law 501 = .ok (.iadd, 1) := by decide +kernel
theorem dL_law_502 : decode cL_law 502 = .ok (.iaload, 1) := by decide +kernel
theorem dL_law_503 : decode cL_law 503 = .ok (.aload_n 0, 1) := by decide +kernel
theorem dL_law_504 : decode cL_law 504 = .ok (.iload_n 3, 1) := by decide +kernel
theorem dL_law_505 : decode cL_law 505 = .ok (.iconst 3, 1) := by decide +kernel
theorem dL_law_506 : decode cL_law 506 = .ok (.iadd, 1) := by decide +kernel
theorem dL_law_507 : decode cL_law 507 = .ok (.iaload, 1) := by decide +kernel
theorem dL_law_508 : decode cL_law 508 = .ok (.invokevirtual 67, 3) := by decide +kernel
theorem dL_law_511 : decode cL_law 511 = .ok (.lcmp, 1) := by decide +kernel
theorem dL_law_512 : decode cL_law 512 = .ok (.ifCond .eq 272, 3) := by decide +kernel
theorem dL_law_515 : decode cL_law 515 = .ok (.iconst 0, 1) := by decide +kernel
theorem dL_law_516 : decode cL_law 516 = .ok (.ireturn, 1) := by decide +kernel
theorem dL_law_517 : decode cL_law 517 = .ok (.aload_n 1, 1) := by decide +kernel
theorem dL_law_518 : decode cL_law 518 = .ok (.aload_n 0, 1) := by decide +kernel
theorem dL_law_519 : decode cL_law 519 = .ok (.iload_n 3, 1) := by decide +kernel
theorem dL_law_520 : decode cL_law 520 = .ok (.iconst 1, 1) := by decide +kernel
theorem dL_law_521 : decode cL_law 521 = .ok (.iadd, 1) := by decide +kernel
theorem dL_law_522 : decode cL_law 522 = .ok (.iaload, 1) := by decide +kernel
theorem dL_law_523 : decode cL_law 523 = .ok (.aload_n 0, 1) := by decide +kernel
theorem dL_law_524 : decode cL_law 524 = .ok (.iload_n 3, 1) := by decide +kernel
theorem dL_law_525 : decode cL_law 525 = .ok (.iconst 2, 1) := by decide +kernel
theorem dL_law_526 : decode cL_law 526 = .ok (.iadd, 1) := by decide +kernel
theorem dL_law_527 : decode cL_law 527 = .ok (.iaload, 1) := by decide +kernel
theorem dL_law_528 : decode cL_law 528 = .ok (.aload_n 0, 1) := by decide +kernel
theorem dL_law_529 : decode cL_law 529 = .ok (.iload_n 3, 1) := by decide +kernel
theorem dL_law_530 : decode cL_law 530 = .ok (.iconst 3, 1) := by decide +kernel
theorem dL_law_531 : decode cL_law 531 = .ok (.iadd, 1) := by decide +kernel
theorem dL_law_532 : decode cL_law 532 = .ok (.iaload, 1) := by decide +kernel
theorem dL_law_533 : decode cL_law 533 = .ok (.aload_n 0, 1) := by decide +kernel
theorem dL_law_534 : decode cL_law 534 = .ok (.iload_n 3, 1) := by decide +kernel
theorem dL_law_535 : decode cL_law 535 = .ok (.iconst 4, 1) := by decide +kernel
theorem dL_law_536 : decode cL_law 536 = .ok (.iadd, 1) := by decide +kernel
theorem dL_law_537 : decode cL_law 537 = .ok (.iaload, 1) := by decide +kernel
theorem dL_law_538 : decode cL_law 538 = .ok (.invokevirtual 68, 3) := by decide +kernel
theorem dL_law_541 : decode cL_law 541 = .ok (.aload_n 2, 1) := by decide +kernel
theorem dL_law_542 : decode cL_law 542 = .ok (.aload_n 0, 1) := by decide +kernel
theorem dL_law_543 : decode cL_law 543 = .ok (.iload_n 3, 1) := by decide +kernel
theorem dL_law_544 : decode cL_law 544 = .ok (.iconst 1, 1) := by decide +kernel
theorem dL_law_545 : decode cL_law 545 = .ok (.iadd, 1) := by decide +kernel
theorem dL_law_546 : decode cL_law 546 = .ok (.iaload, 1) := by decide +kernel
theorem dL_law_547 : decode cL_law 547 = .ok (.aload_n 0, 1) := by decide +kernel
theorem dL_law_548 : decode cL_law 548 = .ok (.iload_n 3, 1) := by decide +kernel
theorem dL_law_549 : decode cL_law 549 = .ok (.iconst 2, 1) := by decide +kernel
theorem dL_law_550 : decode cL_law 550 = .ok (.iadd, 1) := by decide +kernel
theorem dL_law_551 : decode cL_law 551 = .ok (.iaload, 1) := by decide +kernel
theorem dL_law_552 : decode cL_law 552 = .ok (.aload_n 0, 1) := by decide +kernel
theorem dL_law_553 : decode cL_law 553 = .ok (.iload_n 3, 1) := by decide +kernel
theorem dL_law_554 : decode cL_law 554 = .ok (.iconst 3, 1) := by decide +kernel
theorem dL_law_555 : decode cL_law 555 = .ok (.iadd, 1) := by decide +kernel
theorem dL_law_556 : decode cL_law 556 = .ok (.iaload, 1) := by decide +kernel
theorem dL_law_557 : decode cL_law 557 = .ok (.aload_n 0, 1) := by decide +kernel
theorem dL_law_558 : decode cL_law 558 = .ok (.iload_n 3, 1) := by decide +kernel
theorem dL_law_559 : decode cL_law 559 = .ok (.iconst 4, 1) := by decide +kernel
theorem dL_law_560 : decode cL_law 560 = .ok (.iadd, 1) := by decide +kernel
theorem dL_law_561 : decode cL_law 561 = .ok (.iaload, 1) := by decide +kernel
theorem dL_law_562 : decode cL_law 562 = .ok (.invokevirtual 71, 3) := by decide +kernel
theorem dL_law_565 : decode cL_law 565 = .ok (.lcmp, 1) := by decide +kernel
theorem dL_law_566 : decode cL_law 566 = .ok (.ifCond .eq 218, 3) := by decide +kernel
theorem dL_law_569 : decode cL_law 569 = .ok (.iconst 0, 1) := by decide +kernel
theorem dL_law_570 : decode cL_law 570 = .ok (.ireturn, 1) := by decide +kernel
theorem dL_law_571 : decode cL_law 571 = .ok (.aload_n 1, 1) := by decide +kernel
theorem dL_law_572 : decode cL_law 572 = .ok (.aload_n 0, 1) := by decide +kernel
theorem dL_law_573 : decode cL_law 573 = .ok (.iload_n 3, 1) := by decide +kernel
theorem dL_law_574 : decode cL_law 574 = .ok (.iconst 1, 1) := by decide +kernel
theorem dL_law_575 : decode cL_law 575 = .ok (.iadd, 1) := by decide +kernel
theorem dL_law_576 : decode cL_law 576 = .ok (.iaload, 1) := by decide +kernel
theorem dL_law_577 : decode cL_law 577 = .ok (.aload_n 0, 1) := by decide +kernel
theorem dL_law_578 : decode cL_law 578 = .ok (.iload_n 3, 1) := by decide +kernel
theorem dL_law_579 : decode cL_law 579 = .ok (.iconst 2, 1) := by decide +kernel
theorem dL_law_580 : decode cL_law 580 = .ok (.iadd, 1) := by decide +kernel
theorem dL_law_581 : decode cL_law 581 = .ok (.iaload, 1) := by decide +kernel
theorem dL_law_582 : decode cL_law 582 = .ok (.invokevirtual 72, 3) := by decide +kernel
theorem dL_law_585 : decode cL_law 585 = .ok (.aload_n 2, 1) := by decide +kernel
theorem dL_law_586 : decode cL_law 586 = .ok (.aload_n 0, 1) := by decide +kernel
theorem dL_law_587 : decode cL_law 587 = .ok (.iload_n 3, 1) := by decide +kernel
theorem dL_law_588 : decode cL_law 588 = .ok (.iconst 1, 1) := by decide +kernel
theorem dL_law_589 : decode cL_law 589 = .ok (.iadd, 1) := by decide +kernel
theorem dL_law_590 : decode cL_law 590 = .ok (.iaload, 1) := by decide +kernel
theorem dL_law_591 : decode cL_law 591 = .ok (.aload_n 0, 1) := by decide +kernel
theorem dL_law_592 : decode cL_law 592 = .ok (.iload_n 3, 1) := by decide +kernel
theorem dL_law_593 : decode cL_law 593 = .ok (.iconst 2, 1) := by decide +kernel
theorem dL_law_594 : decode cL_law 594 = .ok (.iadd, 1) := by decide +kernel
theorem dL_law_595 : decode cL_law 595 = .ok (.iaload, 1) := by decide +kernel
theorem dL_law_596 : decode cL_law 596 = .ok (.invokevirtual 76, 3) := by decide +kernel
theorem dL_law_599 : decode cL_law 599 = .ok (.lcmp, 1) := by decide +kernel
theorem dL_law_600 : decode cL_law 600 = .ok (.ifCond .eq 184, 3) := by decide +kernel
theorem dL_law_603 : decode cL_law 603 = .ok (.iconst 0, 1) := by decide +kernel
theorem dL_law_604 : decode cL_law 604 = .ok (.ireturn, 1) := by decide +kernel
theorem dL_law_605 : decode cL_law 605 = .ok (.aload_n 1, 1) := by decide +kernel
theorem dL_law_606 : decode cL_law 606 = .ok (.aload_n 0, 1) := by decide +kernel
theorem dL_law_607 : decode cL_law 607 = .ok (.iload_n 3, 1) := by decide +kernel
theorem dL_law_608 : decode cL_law 608 = .ok (.iconst 1, 1) := by decide +kernel
theorem dL_law_609 : decode cL_law 609 = .ok (.iadd, 1) := by decide +kernel
theorem dL_law_610 : decode cL_law 610 = .ok (.iaload, 1) := by decide +kernel
theorem dL_law_611 : decode cL_law 611 = .ok (.invokevirtual 77, 3) := by decide +kernel
theorem dL_law_614 : decode cL_law 614 = .ok (.aload_n 2, 1) := by decide +kernel
theorem dL_law_615 : decode cL_law 615 = .ok (.aload_n 0, 1) := by decide +kernel
theorem dL_law_616 : decode cL_law 616 = .ok (.iload_n 3, 1) := by decide +kernel
theorem dL_law_617 : decode cL_law 617 = .ok (.iconst 1, 1) := by decide +kernel
theorem dL_law_618 : decode cL_law 618 = .ok (.iadd, 1) := by decide +kernel
theorem dL_law_619 : decode cL_law 619 = .ok (.iaload, 1) := by decide +kernel
theorem dL_law_620 : decode cL_law 620 = .ok (.invokevirtual 80, 3) := by decide +kernel
theorem dL_law_623 : decode cL_law 623 = .ok (.if_icmp .eq 161, 3) := by decide +kernel
theorem dL_law_626 : decode cL_law 626 = .ok (.iconst 0, 1) := by decide +kernel
theorem dL_law_627 : decode cL_law 627 = .ok (.ireturn, 1) := by decide +kernel
theorem dL_law_628 : decode cL_law 628 = .ok (.aload_n 1, 1) := by decide +kernel
theorem dL_law_629 : decode cL_law 629 = .ok (.invokevirtual 81, 3) := by decide +kernel
theorem dL_law_632 : decode cL_law 632 = .ok (.aload_n 2, 1) := by decide +kernel
theorem dL_law_633 : decode cL_law 633 = .ok (.invokevirtual 84, 3) := by decide +kernel
theorem dL_law_636 : decode cL_law 636 = .ok (.if_icmp .eq 148, 3) := by decide +kernel
theorem dL_law_639 : decode cL_law 639 = .ok (.iconst 0, 1) := by decide +kernel
theorem dL_law_640 : decode cL_law 640 = .ok (.ireturn, 1) := by decide +kernel
theorem dL_law_641 : decode cL_law 641 = .ok (.aload_n 1, 1) := by decide +kernel
theorem dL_law_642 : decode cL_law 642 = .ok (.aload_n 0, 1) := by decide +kernel
theorem dL_law_643 : decode cL_law 643 = .ok (.iload_n 3, 1) := by decide +kernel
theorem dL_law_644 : decode cL_law 644 = .ok (.iconst 1, 1) := by decide +kernel
theorem dL_law_645 : decode cL_law 645 = .ok (.iadd, 1) := by decide +kernel
theorem dL_law_646 : decode cL_law 646 = .ok (.iaload, 1) := by decide +kernel
theorem dL_law_647 : decode cL_law 647 = .ok (.i2l, 1) := by decide +kernel
theorem dL_law_648 : decode cL_law 648 = .ok (.bipush 32, 2) := by decide +kernel
theorem dL_law_650 : decode cL_law 650 = .ok (.lshl, 1) := by decide +kernel
theorem dL_law_651 : decode cL_law 651 = .ok (.aload_n 0, 1) := by decide +kernel
theorem dL_law_652 : decode cL_law 652 = .ok (.iload_n 3, 1) := by decide +kernel
theorem dL_law_653 : decode cL_law 653 = .ok (.iconst 2, 1) := by decide +kernel
theorem dL_law_654 : decode cL_law 654 = .ok (.iadd, 1) := by decide +kernel
theorem dL_law_655 : decode cL_law 655 = .ok (.iaload, 1) := by decide +kernel
theorem dL_law_656 : decode cL_law 656 = .ok (.i2l, 1) := by decide +kernel
theorem dL_law_657 : decode cL_law 657 = .ok (.ldc2_w 85, 3) := by decide +kernel
theorem dL_law_660 : decode cL_law 660 = .ok (.land, 1) := by decide +kernel
theorem dL_law_661 : decode cL_law 661 = .ok (.lor, 1) := by decide +kernel
theorem dL_law_662 : decode cL_law 662 = .ok (.invokevirtual 87, 3) := by decide +kernel
theorem dL_law_665 : decode cL_law 665 = .ok (.aload_n 2, 1) := by decide +kernel
theorem dL_law_666 : decode cL_law 666 = .ok (.aload_n 0, 1) := by decide +kernel
theorem dL_law_667 : decode cL_law 667 = .ok (.iload_n 3, 1) := by decide +kernel
theorem dL_law_668 : decode cL_law 668 = .ok (.iconst 1, 1) := by decide +kernel
theorem dL_law_669 : decode cL_law 669 = .ok (.iadd, 1) := by decide +kernel
theorem dL_law_670 : decode cL_law 670 = .ok (.iaload, 1) := by decide +kernel
theorem dL_law_671 : decode cL_law 671 = .ok (.i2l, 1) := by decide +kernel
theorem dL_law_672 : decode cL_law 672 = .ok (.bipush 32, 2) := by decide +kernel
theorem dL_law_674 : decode cL_law 674 = .ok (.lshl, 1) := by decide +kernel
theorem dL_law_675 : decode cL_law 675 = .ok (.aload_n 0, 1) := by decide +kernel
theorem dL_law_676 : decode cL_law 676 = .ok (.iload_n 3, 1) := by decide +kernel
theorem dL_law_677 : decode cL_law 677 = .ok (.iconst 2, 1) := by decide +kernel
theorem dL_law_678 : decode cL_law 678 = .ok (.iadd, 1) := by decide +kernel
theorem dL_law_679 : decode cL_law 679 = .ok (.iaload, 1) := by decide +kernel
theorem dL_law_680 : decode cL_law 680 = .ok (.i2l, 1) := by decide +kernel
theorem dL_law_681 : decode cL_law 681 = .ok (.ldc2_w 85, 3) := by decide +kernel
theorem dL_law_684 : decode cL_law 684 = .ok (.land, 1) := by decide +kernel
theorem dL_law_685 : decode cL_law 685 = .ok (.lor, 1) := by decide +kernel
theorem dL_law_686 : decode cL_law 686 = .ok (.invokevirtual 91, 3) := by decide +kernel
theorem dL_law_689 : decode cL_law 689 = .ok (.goto 95, 3) := by decide +kernel
theorem dL_law_692 : decode cL_law 692 = .ok (.aload_n 1, 1) := by decide +kernel
theorem dL_law_693 : decode cL_law 693 = .ok (.aload_n 0, 1) := by decide +kernel
theorem dL_law_694 : decode cL_law 694 = .ok (.iload_n 3, 1) := by decide +kernel
theorem dL_law_695 : decode cL_law 695 = .ok (.iconst 1, 1) := by decide +kernel
theorem dL_law_696 : decode cL_law 696 = .ok (.iadd, 1) := by decide +kernel
theorem dL_law_697 : decode cL_law 697 = .ok (.iaload, 1) := by decide +kernel
theorem dL_law_698 : decode cL_law 698 = .ok (.invokevirtual 92, 3) := by decide +kernel
theorem dL_law_701 : decode cL_law 701 = .ok (.aload_n 2, 1) := by decide +kernel
theorem dL_law_702 : decode cL_law 702 = .ok (.aload_n 0, 1) := by decide +kernel
theorem dL_law_703 : decode cL_law 703 = .ok (.iload_n 3, 1) := by decide +kernel
theorem dL_law_704 : decode cL_law 704 = .ok (.iconst 1, 1) := by decide +kernel
theorem dL_law_705 : decode cL_law 705 = .ok (.iadd, 1) := by decide +kernel
theorem dL_law_706 : decode cL_law 706 = .ok (.iaload, 1) := by decide +kernel
theorem dL_law_707 : decode cL_law 707 = .ok (.invokevirtual 95, 3) := by decide +kernel
theorem dL_law_710 : decode cL_law 710 = .ok (.if_icmp .eq 74, 3) := by decide +kernel
theorem dL_law_713 : decode cL_law 713 = .ok (.iconst 0, 1) := by decide +kernel
theorem dL_law_714 : decode cL_law 714 = .ok (.ireturn, 1) := by decide +kernel
theorem dL_law_715 : decode cL_law 715 = .ok (.aload_n 1, 1) := by decide +kernel
theorem dL_law_716 : decode cL_law 716 = .ok (.aload_n 0, 1) := by decide +kernel
theorem dL_law_717 : decode cL_law 717 = .ok (.iload_n 3, 1) := by decide +kernel
theorem dL_law_718 : decode cL_law 718 = .ok (.iconst 1, 1) := by decide +kernel
theorem dL_law_719 : decode cL_law 719 = .ok (.iadd, 1) := by decide +kernel
theorem dL_law_720 : decode cL_law 720 = .ok (.iaload, 1) := by decide +kernel
theorem dL_law_721 : decode cL_law 721 = .ok (.invokevirtual 96, 3) := by decide +kernel
theorem dL_law_724 : decode cL_law 724 = .ok (.aload_n 2, 1) := by decide +kernel
theorem dL_law_725 : decode cL_law 725 = .ok (.aload_n 0, 1) := by decide +kernel
theorem dL_law_726 : decode cL_law 726 = .ok (.iload_n 3, 1) := by decide +kernel
theorem dL_law_727 : decode cL_law 727 = .ok (.iconst 1, 1) := by decide +kernel
theorem dL_law_728 : decode cL_law 728 = .ok (.iadd, 1) := by decide +kernel
theorem dL_law_729 : decode cL_law 729 = .ok (.iaload, 1) := by decide +kernel
theorem dL_law_730 : decode cL_law 730 = .ok (.invokevirtual 99, 3) := by decide +kernel
theorem dL_law_733 : decode cL_law 733 = .ok (.if_icmp .eq 51, 3) := by decide +kernel
theorem dL_law_736 : decode cL_law 736 = .ok (.iconst 0, 1) := by decide +kernel
theorem dL_law_737 : decode cL_law 737 = .ok (.ireturn, 1) := by decide +kernel
theorem dL_law_738 : decode cL_law 738 = .ok (.aload_n 1, 1) := by decide +kernel
theorem dL_law_739 : decode cL_law 739 = .ok (.aload_n 0, 1) := by decide +kernel
theorem dL_law_740 : decode cL_law 740 = .ok (.iload_n 3, 1) := by decide +kernel
theorem dL_law_741 : decode cL_law 741 = .ok (.iconst 1, 1) := by decide +kernel
theorem dL_law_742 : decode cL_law 742 = .ok (.iadd, 1) := by decide +kernel
theorem dL_law_743 : decode cL_law 743 = .ok (.iaload, 1) := by decide +kernel
theorem dL_law_744 : decode cL_law 744 = .ok (.invokevirtual 100, 3) := by decide +kernel
theorem dL_law_747 : decode cL_law 747 = .ok (.aload_n 2, 1) := by decide +kernel
theorem dL_law_748 : decode cL_law 748 = .ok (.aload_n 0, 1) := by decide +kernel
theorem dL_law_749 : decode cL_law 749 = .ok (.iload_n 3, 1) := by decide +kernel
theorem dL_law_750 : decode cL_law 750 = .ok (.iconst 1, 1) := by decide +kernel
theorem dL_law_751 : decode cL_law 751 = .ok (.iadd, 1) := by decide +kernel
theorem dL_law_752 : decode cL_law 752 = .ok (.iaload, 1) := by decide +kernel
theorem dL_law_753 : decode cL_law 753 = .ok (.invokevirtual 103, 3) := by decide +kernel
theorem dL_law_756 : decode cL_law 756 = .ok (.if_icmp .eq 28, 3) := by decide +kernel
theorem dL_law_759 : decode cL_law 759 = .ok (.iconst 0, 1) := by decide +kernel
theorem dL_law_760 : decode cL_law 760 = .ok (.ireturn, 1) := by decide +kernel
theorem dL_law_761 : decode cL_law 761 = .ok (.aload_n 1, 1) := by decide +kernel
theorem dL_law_762 : decode cL_law 762 = .ok (.aload_n 0, 1) := by decide +kernel
theorem dL_law_763 : decode cL_law 763 = .ok (.iload_n 3, 1) := by decide +kernel
theorem dL_law_764 : decode cL_law 764 = .ok (.iconst 1, 1) := by decide +kernel
theorem dL_law_765 : decode cL_law 765 = .ok (.iadd, 1) := by decide +kernel
theorem dL_law_766 : decode cL_law 766 = .ok (.iaload, 1) := by decide +kernel
theorem dL_law_767 : decode cL_law 767 = .ok (.invokevirtual 104, 3) := by decide +kernel
theorem dL_law_770 : decode cL_law 770 = .ok (.aload_n 2, 1) := by decide +kernel
theorem dL_law_771 : decode cL_law 771 = .ok (.aload_n 0, 1) := by decide +kernel
theorem dL_law_772 : decode cL_law 772 = .ok (.iload_n 3, 1) := by decide +kernel
theorem dL_law_773 : decode cL_law 773 = .ok (.iconst 1, 1) := by decide +kernel
theorem dL_law_774 : decode cL_law 774 = .ok (.iadd, 1) := by decide +kernel
theorem dL_law_775 : decode cL_law 775 = .ok (.iaload, 1) := by decide +kernel
theorem dL_law_776 : decode cL_law 776 = .ok (.invokevirtual 107, 3) := by decide +kernel
theorem dL_law_779 : decode cL_law 779 = .ok (.if_icmp .eq 5, 3) := by decide +kernel
theorem dL_law_782 : decode cL_law 782 = .ok (.iconst 0, 1) := by decide +kernel
theorem dL_law_783 : decode cL_law 783 = .ok (.ireturn, 1) := by decide +kernel
theorem dL_law_784 : decode cL_law 784 = .ok (.iinc 3 5, 3) := by decide +kernel
theorem dL_law_787 : decode cL_law 787 = .ok (.goto (-769), 3) := by decide +kernel
theorem dL_law_790 : decode cL_law 790 = .ok (.iconst 1, 1) := by decide +kernel
theorem dL_law_791 : decode cL_law 791 = .ok (.ireturn, 1) := by decide +kernel
