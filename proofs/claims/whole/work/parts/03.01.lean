theorem dX3_withEdge_228 : decode cX3_withEdge 228 = .ok (.iadd, 1) := by decide +kernel
theorem dX3_withEdge_229 : decode cX3_withEdge 229 = .ok (.ireturn, 1) := by decide +kernel
theorem dX3_countWhole_0 : decode cX3_countWhole 0 = .ok (.iconst 0, 1) := by decide +kernel
theorem dX3_countWhole_1 : decode cX3_countWhole 1 = .ok (.istore 4, 2) := by decide +kernel
theorem dX3_countWhole_3 : decode cX3_countWhole 3 = .ok (.iload_n 2, 1) := by decide +kernel
theorem dX3_countWhole_4 : decode cX3_countWhole 4 = .ok (.istore 5, 2) := by decide +kernel
theorem dX3_countWhole_6 : decode cX3_countWhole 6 = .ok (.iload 5, 2) := by decide +kernel
theorem dX3_countWhole_8 : decode cX3_countWhole 8 = .ok (.iload_n 2, 1) := by decide +kernel
theorem dX3_countWhole_9 : decode cX3_countWhole 9 = .ok (.iload_n 3, 1) := by decide +kernel
theorem dX3_countWhole_10 : decode cX3_countWhole 10 = .ok (.iadd, 1) := by decide +kernel
theorem dX3_countWhole_11 : decode cX3_countWhole 11 = .ok (.if_icmp .ge 32, 3) := by decide +kernel
theorem dX3_countWhole_14 : decode cX3_countWhole 14 = .ok (.iload 5, 2) := by decide +kernel
theorem dX3_countWhole_16 : decode cX3_countWhole 16 = .ok (.aload_n 1, 1) := by decide +kernel
theorem dX3_countWhole_17 : decode cX3_countWhole 17 = .ok (.arraylength, 1) := by decide +kernel
theorem dX3_countWhole_18 : decode cX3_countWhole 18 = .ok (.if_icmp .ge 25, 3) := by decide +kernel
theorem dX3_countWhole_21 : decode cX3_countWhole 21 = .ok (.iload_n 0, 1) := by decide +kernel
theorem dX3_countWhole_22 : decode cX3_countWhole 22 = .ok (.aload_n 1, 1) := by decide +kernel
theorem dX3_countWhole_23 : decode cX3_countWhole 23 = .ok (.iload 5, 2) := by decide +kernel
theorem dX3_countWhole_25 : decode cX3_countWhole 25 = .ok (.iaload, 1) := by decide +kernel
theorem dX3_countWhole_26 : decode cX3_countWhole 26 = .ok (.iand, 1) := by decide +kernel
theorem dX3_countWhole_27 : decode cX3_countWhole 27 = .ok (.aload_n 1, 1) := by decide +kernel
theorem dX3_countWhole_28 : decode cX3_countWhole 28 = .ok (.iload 5, 2) := by decide +kernel
theorem dX3_countWhole_30 : decode cX3_countWhole 30 = .ok (.iaload, 1) := by decide +kernel
theorem dX3_countWhole_31 : decode cX3_countWhole 31 = .ok (.if_icmp .ne 6, 3) := by decide +kernel
theorem dX3_countWhole_34 : decode cX3_countWhole 34 = .ok (.iinc 4 1, 3) := by decide +kernel
theorem dX3_countWhole_37 : decode cX3_countWhole 37 = .ok (.iinc 5 1, 3) := by decide +kernel
theorem dX3_countWhole_40 : decode cX3_countWhole 40 = .ok (.goto (-34), 3) := by decide +kernel
theorem dX3_countWhole_43 : decode cX3_countWhole 43 = .ok (.iload 4, 2) := by decide +kernel
theorem dX3_countWhole_45 : decode cX3_countWhole 45 = .ok (.ireturn, 1) := by decide +kernel
theorem dX4_init_0 : decode cX4_init 0 = .ok (.aload_n 0, 1) := by decide +kernel
theorem dX4_init_1 : decode cX4_init 1 = .ok (.invokespecial 3, 3) := by decide +kernel
theorem dX4_init_4 : decode cX4_init 4 = .ok (.aload_n 0, 1) := by decide +kernel
theorem dX4_init_5 : decode cX4_init 5 = .ok (.aload_n 1, 1) := by decide +kernel
theorem dX4_init_6 : decode cX4_init 6 = .ok (.putfield 9, 3) := by decide +kernel
theorem dX4_init_9 : decode cX4_init 9 = .ok (.aload_n 0, 1) := by decide +kernel
theorem dX4_init_10 : decode cX4_init 10 = .ok (.bipush 6, 2) := by decide +kernel
theorem dX4_init_12 : decode cX4_init 12 = .ok (.newarray .int, 2) := by decide +kernel
theorem dX4_init_14 : decode cX4_init 14 = .ok (.putfield 15, 3) := by decide +kernel
theorem dX4_init_17 : decode cX4_init 17 = .ok (.aload_n 0, 1) := by decide +kernel
theorem dX4_init_18 : decode cX4_init 18 = .ok (.bipush 6, 2) := by decide +kernel
theorem dX4_init_20 : decode cX4_init 20 = .ok (.newarray .int, 2) := by decide +kernel
theorem dX4_init_22 : decode cX4_init 22 = .ok (.putfield 19, 3) := by decide +kernel
theorem dX4_init_25 : decode cX4_init 25 = .ok (.aload_n 0, 1) := by decide +kernel
theorem dX4_init_26 : decode cX4_init 26 = .ok (.bipush 36, 2) := by decide +kernel
theorem dX4_init_28 : decode cX4_init 28 = .ok (.newarray .int, 2) := by decide +kernel
theorem dX4_init_30 : decode cX4_init 30 = .ok (.putfield 22, 3) := by decide +kernel
theorem dX4_init_33 : decode cX4_init 33 = .ok (.aload_n 0, 1) := by decide +kernel
theorem dX4_init_34 : decode cX4_init 34 = .ok (.bipush 36, 2) := by decide +kernel
theorem dX4_init_36 : decode cX4_init 36 = .ok (.newarray .int, 2) := by decide +kernel
theorem dX4_init_38 : decode cX4_init 38 = .ok (.putfield 25, 3) := by decide +kernel
theorem dX4_init_41 : decode cX4_init 41 = .ok (.return_, 1) := by decide +kernel
theorem dX4_forget_0 : decode cX4_forget 0 = .ok (.aload_n 0, 1) := by decide +kernel
theorem dX4_forget_1 : decode cX4_forget 1 = .ok (.iconst 0, 1) := by decide +kernel
theorem dX4_forget_2 : decode cX4_forget 2 = .ok (.putfield 28, 3) := by decide +kernel
theorem dX4_forget_5 : decode cX4_forget 5 = .ok (.return_, 1) := by decide +kernel
theorem dX4_isFound_0 : decode cX4_isFound 0 = .ok (.aload_n 0, 1) := by decide +kernel
theorem dX4_isFound_1 : decode cX4_isFound 1 = .ok (.getfield 28, 3) := by decide +kernel
theorem dX4_isFound_4 : decode cX4_isFound 4 = .ok (.ireturn, 1) := by decide +kernel
theorem dX4_bestOf_0 : decode cX4_bestOf 0 = .ok (.iload_n 1, 1) := by decide +kernel
theorem dX4_bestOf_1 : decode cX4_bestOf 1 = .ok (.ifCond .lt 18, 3) := by decide +kernel
theorem dX4_bestOf_4 : decode cX4_bestOf 4 = .ok (.iload_n 1, 1) := by decide +kernel
theorem dX4_bestOf_5 : decode cX4_bestOf 5 = .ok (.bipush 6, 2) := by decide +kernel
theorem dX4_bestOf_7 : decode cX4_bestOf 7 = .ok (.if_icmp .ge 12, 3) := by decide +kernel
theorem dX4_bestOf_10 : decode cX4_bestOf 10 = .ok (.aload_n 0, 1) := by decide +kernel
theorem dX4_bestOf_11 : decode cX4_bestOf 11 = .ok (.getfield 19, 3) := by decide +kernel
theorem dX4_bestOf_14 : decode cX4_bestOf 14 = .ok (.iload_n 1, 1) := by decide +kernel
theorem dX4_bestOf_15 : decode cX4_bestOf 15 = .ok (.iaload, 1) := by decide +kernel
theorem dX4_bestOf_16 : decode cX4_bestOf 16 = .ok (.goto 4, 3) := by decide +kernel
theorem dX4_bestOf_19 : decode cX4_bestOf 19 = .ok (.iconst 0, 1) := by decide +kernel
theorem dX4_bestOf_20 : decode cX4_bestOf 20 = .ok (.ireturn, 1) := by decide +kernel
set_option maxRecDepth 20000 in
theorem ggX4_findBest_X4_place : GoodIn wsX4_findBest wsX4_place := goodIn_r _ [15, 6, 7, 16, 17, 18, 19, 14, 20, 9, 21, 22, 23, 24, 25, 26, 27, 28, 29, 30, 31, 32, 33, 34, 35, 36, 2, 3, 4, 5, 37, 38, 39, 1, 40, 41, 42, 43, 44, 45, 46, 47, 48, 49, 50, 51, 52, 53, 54, 55, 56, 11, 12, 13, 57, 58, 59, 60, 61, 62, 63, 64, 65, 66, 67, 68, 69] (by decide +kernel) (by decide +kernel)
set_option maxRecDepth 20000 in
theorem gX4_findBest_X4_place : GoodIn wsX4_findBest (wsV RX4 52 RX4 yX4_place wsX4_place) := goodIn_app (goodIn_of _ (by decide +kernel)) ggX4_findBest_X4_place
theorem dX4_findBest_0 : decode cX4_findBest 0 = .ok (.aload_n 0, 1) := by decide +kernel
theorem dX4_findBest_1 : decode cX4_findBest 1 = .ok (.iload_n 1, 1) := by decide +kernel
theorem dX4_findBest_2 : decode cX4_findBest 2 = .ok (.putfield 32, 3) := by decide +kernel
theorem dX4_findBest_5 : decode cX4_findBest 5 = .ok (.aload_n 0, 1) := by decide +kernel
theorem dX4_findBest_6 : decode cX4_findBest 6 = .ok (.iload_n 2, 1) := by decide +kernel
theorem dX4_findBest_7 : decode cX4_findBest 7 = .ok (.bipush 6, 2) := by decide +kernel
theorem dX4_findBest_9 : decode cX4_findBest 9 = .ok (.invokestatic 36, 3) := by decide +kernel
theorem dX4_findBest_12 : decode cX4_findBest 12 = .ok (.putfield 42, 3) := by decide +kernel
theorem dX4_findBest_15 : decode cX4_findBest 15 = .ok (.aload_n 0, 1) := by decide +kernel
theorem dX4_findBest_16 : decode cX4_findBest 16 = .ok (.iload_n 3, 1) := by decide +kernel
theorem dX4_findBest_17 : decode cX4_findBest 17 = .ok (.putfield 45, 3) := by decide +kernel
theorem dX4_findBest_20 : decode cX4_findBest 20 = .ok (.aload_n 0, 1) := by decide +kernel
theorem dX4_findBest_21 : decode cX4_findBest 21 = .ok (.ldc 48, 2) := by decide +kernel
theorem dX4_findBest_23 : decode cX4_findBest 23 = .ok (.putfield 49, 3) := by decide +kernel
theorem dX4_findBest_26 : decode cX4_findBest 26 = .ok (.aload_n 0, 1) := by decide +kernel
theorem dX4_findBest_27 : decode cX4_findBest 27 = .ok (.iconst 0, 1) := by decide +kernel
theorem dX4_findBest_28 : decode cX4_findBest 28 = .ok (.iconst 0, 1) := by decide +kernel
theorem dX4_findBest_29 : decode cX4_findBest 29 = .ok (.invokevirtual 52, 3) := by decide +kernel
theorem dX4_findBest_32 : decode cX4_findBest 32 = .ok (.aload_n 0, 1) := by decide +kernel
theorem dX4_findBest_33 : decode cX4_findBest 33 = .ok (.iconst 1, 1) := by decide +kernel
theorem dX4_findBest_34 : decode cX4_findBest 34 = .ok (.putfield 28, 3) := by decide +kernel
theorem dX4_findBest_37 : decode cX4_findBest 37 = .ok (.aload_n 0, 1) := by decide +kernel
theorem dX4_findBest_38 : decode cX4_findBest 38 = .ok (.getfield 49, 3) := by decide +kernel
theorem dX4_findBest_41 : decode cX4_findBest 41 = .ok (.ireturn, 1) := by decide +kernel
set_option maxRecDepth 20000 in
theorem ggX4_place_X4_compare : GoodIn wsX4_place wsX4_compare := goodIn_r _ [8, 9, 3, 10, 11, 12, 13, 14, 15, 16, 17, 7, 18, 19, 20, 21, 22, 23, 24, 1, 25, 26, 27, 28, 29, 30, 31, 32, 33, 34, 35, 36, 37, 38, 39, 40, 41, 42, 43, 44, 45, 46, 47, 48, 49, 50, 54, 55, 56, 57, 58, 59, 60, 61, 62, 63, 64, 65, 66] (by decide +kernel) (by decide +kernel)
set_option maxRecDepth 20000 in
theorem gX4_place_X4_compare : GoodIn wsX4_place (wsV RX4 56 RX4 yX4_compare wsX4_compare) := goodIn_app (goodIn_of _ (by decide +kernel)) ggX4_place_X4_compare
set_option maxRecDepth 20000 in
theorem ggX4_place_X4_place : GoodIn wsX4_place wsX4_place := goodIn_r _ [0, 1, 2, 3, 4, 5, 6, 7, 8, 9, 10, 11, 12, 13, 14, 15, 16, 17, 18, 19, 20, 21, 22, 23, 24, 25, 26, 27, 28, 29, 30, 31, 32, 33, 34, 35, 36, 37, 38, 39, 40, 41, 42, 43, 44, 45, 46, 47, 48, 49, 50, 51, 52, 53, 54, 55, 56, 57, 58, 59, 60, 61, 62, 63, 64, 65, 66] (by decide +kernel) (by decide +kernel)
set_option maxRecDepth 20000 in
theorem gX4_place_X4_place : GoodIn wsX4_place (wsV RX4 52 RX4 yX4_place wsX4_place) := goodIn_app (goodIn_of _ (by decide +kernel)) ggX4_place_X4_place
theorem dX4_place_0 : decode cX4_place 0 = .ok (.iload_n 2, 1) := by decide +kernel
theorem dX4_place_1 : decode cX4_place 1 = .ok (.aload_n 0, 1) := by decide +kernel
theorem dX4_place_2 : decode cX4_place 2 = .ok (.getfield 42, 3) := by decide +kernel
theorem dX4_place_5 : decode cX4_place 5 = .ok (.iadd, 1) := by decide +kernel
theorem dX4_place_6 : decode cX4_place 6 = .ok (.iload_n 1, 1) := by decide +kernel
theorem dX4_place_7 : decode cX4_place 7 = .ok (.isub, 1) := by decide +kernel
theorem dX4_place_8 : decode cX4_place 8 = .ok (.aload_n 0, 1) := by decide +kernel
theorem dX4_place_9 : decode cX4_place 9 = .ok (.getfield 45, 3) := by decide +kernel
theorem dX4_place_12 : decode cX4_place 12 = .ok (.if_icmp .ge 4, 3) := by decide +kernel
theorem dX4_place_15 : decode cX4_place 15 = .ok (.return_, 1) := by decide +kernel
theorem dX4_place_16 : decode cX4_place 16 = .ok (.iload_n 1, 1) := by decide +kernel
theorem dX4_place_17 : decode cX4_place 17 = .ok (.aload_n 0, 1) := by decide +kernel
theorem dX4_place_18 : decode cX4_place 18 = .ok (.getfield 42, 3) := by decide +kernel
theorem dX4_place_21 : decode cX4_place 21 = .ok (.if_icmp .lt 8, 3) := by decide +kernel
theorem dX4_place_24 : decode cX4_place 24 = .ok (.aload_n 0, 1) := by decide +kernel
theorem dX4_place_25 : decode cX4_place 25 = .ok (.invokevirtual 56, 3) := by decide +kernel
theorem dX4_place_28 : decode cX4_place 28 = .ok (.return_, 1) := by decide +kernel
theorem dX4_place_29 : decode cX4_place 29 = .ok (.iconst 0, 1) := by decide +kernel
theorem dX4_place_30 : decode cX4_place 30 = .ok (.istore_n 3, 1) := by decide +kernel
theorem dX4_place_31 : decode cX4_place 31 = .ok (.iload_n 3, 1) := by decide +kernel
theorem dX4_place_32 : decode cX4_place 32 = .ok (.iload_n 2, 1) := by decide +kernel
theorem dX4_place_33 : decode cX4_place 33 = .ok (.if_icmp .gt 43, 3) := by decide +kernel
theorem dX4_place_36 : decode cX4_place 36 = .ok (.iload_n 3, 1) := by decide +kernel
theorem dX4_place_37 : decode cX4_place 37 = .ok (.aload_n 0, 1) := by decide +kernel
theorem dX4_place_38 : decode cX4_place 38 = .ok (.getfield 45, 3) := by decide +kernel
theorem dX4_place_41 : decode cX4_place 41 = .ok (.if_icmp .ge 35, 3) := by decide +kernel
theorem dX4_place_44 : decode cX4_place 44 = .ok (.aload_n 0, 1) := by decide +kernel
theorem dX4_place_45 : decode cX4_place 45 = .ok (.getfield 15, 3) := by decide +kernel
theorem dX4_place_48 : decode cX4_place 48 = .ok (.iload_n 1, 1) := by decide +kernel
theorem dX4_place_49 : decode cX4_place 49 = .ok (.iload_n 3, 1) := by decide +kernel
theorem dX4_place_50 : decode cX4_place 50 = .ok (.iastore, 1) := by decide +kernel
theorem dX4_place_51 : decode cX4_place 51 = .ok (.aload_n 0, 1) := by decide +kernel
theorem dX4_place_52 : decode cX4_place 52 = .ok (.iload_n 1, 1) := by decide +kernel
theorem dX4_place_53 : decode cX4_place 53 = .ok (.iconst 1, 1) := by decide +kernel
theorem dX4_place_54 : decode cX4_place 54 = .ok (.iadd, 1) := by decide +kernel
theorem dX4_place_55 : decode cX4_place 55 = .ok (.iload_n 3, 1) := by decide +kernel
theorem dX4_place_56 : decode cX4_place 56 = .ok (.iload_n 2, 1) := by decide +kernel
theorem dX4_place_57 : decode cX4_place 57 = .ok (.if_icmp .ne 9, 3) := by decide +kernel
theorem dX4_place_60 : decode cX4_place 60 = .ok (.iload_n 2, 1) := by decide +kernel
theorem dX4_place_61 : decode cX4_place 61 = .ok (.iconst 1, 1) := by decide +kernel
theorem dX4_place_62 : decode cX4_place 62 = .ok (.iadd, 1) := by decide +kernel
theorem dX4_place_63 : decode cX4_place 63 = .ok (.goto 4, 3) := by decide +kernel
theorem dX4_place_66 : decode cX4_place 66 = .ok (.iload_n 2, 1) := by decide +kernel
theorem dX4_place_67 : decode cX4_place 67 = .ok (.invokevirtual 52, 3) := by decide +kernel
theorem dX4_place_70 : decode cX4_place 70 = .ok (.iinc 3 1, 3) := by decide +kernel
theorem dX4_place_73 : decode cX4_place 73 = .ok (.goto (-42), 3) := by decide +kernel
theorem dX4_place_76 : decode cX4_place 76 = .ok (.return_, 1) := by decide +kernel
set_option maxRecDepth 20000 in
theorem ggX4_compare_X4_costOfTrial : GoodIn wsX4_compare wsX4_costOfTrial := goodIn_r _ [12, 13, 14, 15, 16, 17, 11, 18, 19, 2, 20, 21, 22, 23, 24, 25, 26, 27, 28, 29, 30, 31, 32, 33, 34, 35, 36, 37, 38, 39, 40, 41, 42, 43, 44, 45, 46, 47, 48, 49, 50, 51, 52, 53, 54, 55, 56, 57, 58] (by decide +kernel) (by decide +kernel)
set_option maxRecDepth 20000 in
theorem gX4_compare_X4_costOfTrial : GoodIn wsX4_compare (wsV RX4 59 RX4 yX4_costOfTrial wsX4_costOfTrial) := goodIn_app (goodIn_of _ (by decide +kernel)) ggX4_compare_X4_costOfTrial
theorem dX4_compare_0 : decode cX4_compare 0 = .ok (.aload_n 0, 1) := by decide +kernel
theorem dX4_compare_1 : decode cX4_compare 1 = .ok (.invokevirtual 59, 3) := by decide +kernel
theorem dX4_compare_4 : decode cX4_compare 4 = .ok (.istore_n 1, 1) := by decide +kernel
theorem dX4_compare_5 : decode cX4_compare 5 = .ok (.iload_n 1, 1) := by decide +kernel
theorem dX4_compare_6 : decode cX4_compare 6 = .ok (.aload_n 0, 1) := by decide +kernel
theorem dX4_compare_7 : decode cX4_compare 7 = .ok (.getfield 49, 3) := by decide +kernel
theorem dX4_compare_10 : decode cX4_compare 10 = .ok (.if_icmp .ge 23, 3) := by decide +kernel
theorem dX4_compare_13 : decode cX4_compare 13 = .ok (.aload_n 0, 1) := by decide +kernel
theorem dX4_compare_14 : decode cX4_compare 14 = .ok (.iload_n 1, 1) := by decide +kernel
theorem dX4_compare_15 : decode cX4_compare 15 = .ok (.putfield 49, 3) := by decide +kernel
theorem dX4_compare_18 : decode cX4_compare 18 = .ok (.aload_n 0, 1) := by decide +kernel
theorem dX4_compare_19 : decode cX4_compare 19 = .ok (.getfield 15, 3) := by decide +kernel
theorem dX4_compare_22 : decode cX4_compare 22 = .ok (.iconst 0, 1) := by decide +kernel
theorem dX4_compare_23 : decode cX4_compare 23 = .ok (.aload_n 0, 1) := by decide +kernel
theorem dX4_compare_24 : decode cX4_compare 24 = .ok (.getfield 19, 3) := by decide +kernel
theorem dX4_compare_27 : decode cX4_compare 27 = .ok (.iconst 0, 1) := by decide +kernel
theorem dX4_compare_28 : decode cX4_compare 28 = .ok (.bipush 6, 2) := by decide +kernel
theorem dX4_compare_30 : decode cX4_compare 30 = .ok (.invokestatic 63, 3) := by decide +kernel
theorem dX4_compare_33 : decode cX4_compare 33 = .ok (.return_, 1) := by decide +kernel
set_option maxRecDepth 20000 in
theorem ggX4_costOfTrial_X4_countPairs : GoodIn wsX4_costOfTrial wsX4_countPairs := goodIn_r _ [7, 1, 2, 8, 9, 10, 11, 12, 13, 14, 15, 16, 17, 18, 19, 20, 21, 22, 23, 24, 25, 26, 27, 28, 29, 30, 31, 32, 36, 37, 38, 39, 40, 41, 42, 43, 44, 45, 46, 47, 48] (by decide +kernel) (by decide +kernel)
set_option maxRecDepth 20000 in
theorem gX4_costOfTrial_X4_countPairs : GoodIn wsX4_costOfTrial (wsV RX4 69 RX4 yX4_countPairs wsX4_countPairs) := goodIn_app (goodIn_of _ (by decide +kernel)) ggX4_costOfTrial_X4_countPairs
set_option maxRecDepth 20000 in
theorem ggX4_costOfTrial_X4_choices : GoodIn wsX4_costOfTrial wsX4_choices := goodIn_r _ [35] (by decide +kernel) (by decide +kernel)
set_option maxRecDepth 20000 in
theorem gX4_costOfTrial_X4_choices : GoodIn wsX4_costOfTrial (va_wsS RX4 72 yX4_choices wsX4_choices) := goodIn_app (goodIn_of _ (by decide +kernel)) ggX4_costOfTrial_X4_choices
theorem dX4_costOfTrial_0 : decode cX4_costOfTrial 0 = .ok (.aload_n 0, 1) := by decide +kernel
theorem dX4_costOfTrial_1 : decode cX4_costOfTrial 1 = .ok (.invokevirtual 69, 3) := by decide +kernel
theorem dX4_costOfTrial_4 : decode cX4_costOfTrial 4 = .ok (.iconst 1, 1) := by decide +kernel
theorem dX4_costOfTrial_5 : decode cX4_costOfTrial 5 = .ok (.istore_n 1, 1) := by decide +kernel
theorem dX4_costOfTrial_6 : decode cX4_costOfTrial 6 = .ok (.iconst 0, 1) := by decide +kernel
theorem dX4_costOfTrial_7 : decode cX4_costOfTrial 7 = .ok (.istore_n 2, 1) := by decide +kernel
theorem dX4_costOfTrial_8 : decode cX4_costOfTrial 8 = .ok (.iload_n 2, 1) := by decide +kernel
theorem dX4_costOfTrial_9 : decode cX4_costOfTrial 9 = .ok (.aload_n 0, 1) := by decide +kernel
theorem dX4_costOfTrial_10 : decode cX4_costOfTrial 10 = .ok (.getfield 22, 3) := by decide +kernel
theorem dX4_costOfTrial_13 : decode cX4_costOfTrial 13 = .ok (.arraylength, 1) := by decide +kernel
theorem dX4_costOfTrial_14 : decode cX4_costOfTrial 14 = .ok (.if_icmp .ge 27, 3) := by decide +kernel
theorem dX4_costOfTrial_17 : decode cX4_costOfTrial 17 = .ok (.iload_n 1, 1) := by decide +kernel
theorem dX4_costOfTrial_18 : decode cX4_costOfTrial 18 = .ok (.aload_n 0, 1) := by decide +kernel
theorem dX4_costOfTrial_19 : decode cX4_costOfTrial 19 = .ok (.getfield 22, 3) := by decide +kernel
theorem dX4_costOfTrial_22 : decode cX4_costOfTrial 22 = .ok (.iload_n 2, 1) := by decide +kernel
theorem dX4_costOfTrial_23 : decode cX4_costOfTrial 23 = .ok (.iaload, 1) := by decide +kernel
theorem dX4_costOfTrial_24 : decode cX4_costOfTrial 24 = .ok (.aload_n 0, 1) := by decide +kernel
theorem dX4_costOfTrial_25 : decode cX4_costOfTrial 25 = .ok (.getfield 25, 3) := by decide +kernel
theorem dX4_costOfTrial_28 : decode cX4_costOfTrial 28 = .ok (.iload_n 2, 1) := by decide +kernel
theorem dX4_costOfTrial_29 : decode cX4_costOfTrial 29 = .ok (.iaload, 1) := by decide +kernel
theorem dX4_costOfTrial_30 : decode cX4_costOfTrial 30 = .ok (.invokestatic 72, 3) := by decide +kernel
theorem dX4_costOfTrial_33 : decode cX4_costOfTrial 33 = .ok (.imul, 1) := by decide +kernel
theorem dX4_costOfTrial_34 : decode cX4_costOfTrial 34 = .ok (.istore_n 1, 1) := by decide +kernel
theorem dX4_costOfTrial_35 : decode cX4_costOfTrial 35 = .ok (.iinc 2 1, 3) := by decide +kernel
theorem dX4_costOfTrial_38 : decode cX4_costOfTrial 38 = .ok (.goto (-30), 3) := by decide +kernel
theorem dX4_costOfTrial_41 : decode cX4_costOfTrial 41 = .ok (.iload_n 1, 1) := by decide +kernel
theorem dX4_costOfTrial_42 : decode cX4_costOfTrial 42 = .ok (.ireturn, 1) := by decide +kernel
set_option maxRecDepth 20000 in
theorem ggX4_countPairs_X1_among : GoodIn wsX4_countPairs wsX1_among := goodIn_r _ [17] (by decide +kernel) (by decide +kernel)
set_option maxRecDepth 20000 in
theorem gX4_countPairs_X1_among : GoodIn wsX4_countPairs (va_wsS RX4 75 yX1_among wsX1_among) := goodIn_app (goodIn_of _ (by decide +kernel)) ggX4_countPairs_X1_among
set_option maxRecDepth 20000 in
theorem ggX4_countPairs_X1_low : GoodIn wsX4_countPairs wsX1_low := goodIn_r _ [21, 22, 38, 39, 40] (by decide +kernel) (by decide +kernel)
set_option maxRecDepth 20000 in
theorem gX4_countPairs_X1_low : GoodIn wsX4_countPairs (wsV RX4 81 RX1 yX1_low wsX1_low) := goodIn_app (goodIn_of _ (by decide +kernel)) ggX4_countPairs_X1_low
set_option maxRecDepth 20000 in
theorem ggX4_countPairs_X1_high : GoodIn wsX4_countPairs wsX1_high := goodIn_r _ [26, 27, 38, 39, 40] (by decide +kernel) (by decide +kernel)
set_option maxRecDepth 20000 in
theorem gX4_countPairs_X1_high : GoodIn wsX4_countPairs (wsV RX4 84 RX1 yX1_high wsX1_high) := goodIn_app (goodIn_of _ (by decide +kernel)) ggX4_countPairs_X1_high
theorem dX4_countPairs_0 : decode cX4_countPairs 0 = .ok (.iconst 0, 1) := by decide +kernel
theorem dX4_countPairs_1 : decode cX4_countPairs 1 = .ok (.istore_n 1, 1) := by decide +kernel
theorem dX4_countPairs_2 : decode cX4_countPairs 2 = .ok (.iload_n 1, 1) := by decide +kernel
theorem dX4_countPairs_3 : decode cX4_countPairs 3 = .ok (.aload_n 0, 1) := by decide +kernel
theorem dX4_countPairs_4 : decode cX4_countPairs 4 = .ok (.getfield 22, 3) := by decide +kernel
theorem dX4_countPairs_7 : decode cX4_countPairs 7 = .ok (.arraylength, 1) := by decide +kernel
theorem dX4_countPairs_8 : decode cX4_countPairs 8 = .ok (.if_icmp .ge 23, 3) := by decide +kernel
theorem dX4_countPairs_11 : decode cX4_countPairs 11 = .ok (.aload_n 0, 1) := by decide +kernel
theorem dX4_countPairs_12 : decode cX4_countPairs 12 = .ok (.getfield 22, 3) := by decide +kernel
theorem dX4_countPairs_15 : decode cX4_countPairs 15 = .ok (.iload_n 1, 1) := by decide +kernel
theorem dX4_countPairs_16 : decode cX4_countPairs 16 = .ok (.iconst 0, 1) := by decide +kernel
theorem dX4_countPairs_17 : decode cX4_countPairs 17 = .ok (.iastore, 1) := by decide +kernel
theorem dX4_countPairs_18 : decode cX4_countPairs 18 = .ok (.aload_n 0, 1) := by decide +kernel
theorem dX4_countPairs_19 : decode cX4_countPairs 19 = .ok (.getfield 25, 3) := by decide +kernel
theorem dX4_countPairs_22 : decode cX4_countPairs 22 = .ok (.iload_n 1, 1) := by decide +kernel
theorem dX4_countPairs_23 : decode cX4_countPairs 23 = .ok (.iconst 0, 1) := by decide +kernel
theorem dX4_countPairs_24 : decode cX4_countPairs 24 = .ok (.iastore, 1) := by decide +kernel
theorem dX4_countPairs_25 : decode cX4_countPairs 25 = .ok (.iinc 1 1, 3) := by decide +kernel
theorem dX4_countPairs_28 : decode cX4_countPairs 28 = .ok (.goto (-26), 3) := by decide +kernel
theorem dX4_countPairs_31 : decode cX4_countPairs 31 = .ok (.aload_n 0, 1) := by decide +kernel
theorem dX4_countPairs_32 : decode cX4_countPairs 32 = .ok (.getfield 42, 3) := by decide +kernel
theorem dX4_countPairs_35 : decode cX4_countPairs 35 = .ok (.invokestatic 75, 3) := by decide +kernel
theorem dX4_countPairs_38 : decode cX4_countPairs 38 = .ok (.istore_n 1, 1) := by decide +kernel
theorem dX4_countPairs_39 : decode cX4_countPairs 39 = .ok (.iconst 0, 1) := by decide +kernel
theorem dX4_countPairs_40 : decode cX4_countPairs 40 = .ok (.istore_n 2, 1) := by decide +kernel
theorem dX4_countPairs_41 : decode cX4_countPairs 41 = .ok (.iload_n 2, 1) := by decide +kernel
theorem dX4_countPairs_42 : decode cX4_countPairs 42 = .ok (.iload_n 1, 1) := by decide +kernel
theorem dX4_countPairs_43 : decode cX4_countPairs 43 = .ok (.if_icmp .ge 85, 3) := by decide +kernel
theorem dX4_countPairs_46 : decode cX4_countPairs 46 = .ok (.aload_n 0, 1) := by decide +kernel
theorem dX4_countPairs_47 : decode cX4_countPairs 47 = .ok (.getfield 15, 3) := by decide +kernel
theorem dX4_countPairs_50 : decode cX4_countPairs 50 = .ok (.aload_n 0, 1) := by decide +kernel
theorem dX4_countPairs_51 : decode cX4_countPairs 51 = .ok (.getfield 9, 3) := by decide +kernel
theorem dX4_countPairs_54 : decode cX4_countPairs 54 = .ok (.iload_n 2, 1) := by decide +kernel
theorem dX4_countPairs_55 : decode cX4_countPairs 55 = .ok (.invokevirtual 81, 3) := by decide +kernel
theorem dX4_countPairs_58 : decode cX4_countPairs 58 = .ok (.iaload, 1) := by decide +kernel
theorem dX4_countPairs_59 : decode cX4_countPairs 59 = .ok (.istore_n 3, 1) := by decide +kernel
theorem dX4_countPairs_60 : decode cX4_countPairs 60 = .ok (.aload_n 0, 1) := by decide +kernel
theorem dX4_countPairs_61 : decode cX4_countPairs 61 = .ok (.getfield 15, 3) := by decide +kernel
theorem dX4_countPairs_64 : decode cX4_countPairs 64 = .ok (.aload_n 0, 1) := by decide +kernel
theorem dX4_countPairs_65 : decode cX4_countPairs 65 = .ok (.getfield 9, 3) := by decide +kernel
theorem dX4_countPairs_68 : decode cX4_countPairs 68 = .ok (.iload_n 2, 1) := by decide +kernel
theorem dX4_countPairs_69 : decode cX4_countPairs 69 = .ok (.invokevirtual 84, 3) := by decide +kernel
theorem dX4_countPairs_72 : decode cX4_countPairs 72 = .ok (.iaload, 1) := by decide +kernel
theorem dX4_countPairs_73 : decode cX4_countPairs 73 = .ok (.istore 4, 2) := by decide +kernel
theorem dX4_countPairs_75 : decode cX4_countPairs 75 = .ok (.iload_n 3, 1) := by decide +kernel
theorem dX4_countPairs_76 : decode cX4_countPairs 76 = .ok (.iload 4, 2) := by decide +kernel
theorem dX4_countPairs_78 : decode cX4_countPairs 78 = .ok (.invokestatic 36, 3) := by decide +kernel
theorem dX4_countPairs_81 : decode cX4_countPairs 81 = .ok (.bipush 6, 2) := by decide +kernel
theorem dX4_countPairs_83 : decode cX4_countPairs 83 = .ok (.imul, 1) := by decide +kernel
theorem dX4_countPairs_84 : decode cX4_countPairs 84 = .ok (.iload_n 3, 1) := by decide +kernel
theorem dX4_countPairs_85 : decode cX4_countPairs 85 = .ok (.iload 4, 2) := by decide +kernel
theorem dX4_countPairs_87 : decode cX4_countPairs 87 = .ok (.invokestatic 87, 3) := by decide +kernel
theorem dX4_countPairs_90 : decode cX4_countPairs 90 = .ok (.iadd, 1) := by decide +kernel
theorem dX4_countPairs_91 : decode cX4_countPairs 91 = .ok (.istore 5, 2) := by decide +kernel
theorem dX4_countPairs_93 : decode cX4_countPairs 93 = .ok (.aload_n 0, 1) := by decide +kernel
theorem dX4_countPairs_94 : decode cX4_countPairs 94 = .ok (.getfield 22, 3) := by decide +kernel
theorem dX4_countPairs_97 : decode cX4_countPairs 97 = .ok (.iload 5, 2) := by decide +kernel
theorem dX4_countPairs_99 : decode cX4_countPairs 99 = .ok (.dup2, 1) := by decide +kernel
theorem dX4_countPairs_100 : decode cX4_countPairs 100 = .ok (.iaload, 1) := by decide +kernel
theorem dX4_countPairs_101 : decode cX4_countPairs 101 = .ok (.iconst 1, 1) := by decide +kernel
theorem dX4_countPairs_102 : decode cX4_countPairs 102 = .ok (.iadd, 1) := by decide +kernel
theorem dX4_countPairs_103 : decode cX4_countPairs 103 = .ok (.iastore, 1) := by decide +kernel
theorem dX4_countPairs_104 : decode cX4_countPairs 104 = .ok (.aload_n 0, 1) := by decide +kernel
theorem dX4_countPairs_105 : decode cX4_countPairs 105 = .ok (.getfield 25, 3) := by decide +kernel
theorem dX4_countPairs_108 : decode cX4_countPairs 108 = .ok (.iload 5, 2) := by decide +kernel
theorem dX4_countPairs_110 : decode cX4_countPairs 110 = .ok (.dup2, 1) := by decide +kernel
theorem dX4_countPairs_111 : decode cX4_countPairs 111 = .ok (.iaload, 1) := by decide +kernel
theorem dX4_countPairs_112 : decode cX4_countPairs 112 = .ok (.aload_n 0, 1) := by decide +kernel
theorem dX4_countPairs_113 : decode cX4_countPairs 113 = .ok (.getfield 32, 3) := by decide +kernel
theorem dX4_countPairs_116 : decode cX4_countPairs 116 = .ok (.iload_n 2, 1) := by decide +kernel
theorem dX4_countPairs_117 : decode cX4_countPairs 117 = .ok (.ishr, 1) := by decide +kernel
theorem dX4_countPairs_118 : decode cX4_countPairs 118 = .ok (.iconst 1, 1) := by decide +kernel
theorem dX4_countPairs_119 : decode cX4_countPairs 119 = .ok (.iand, 1) := by decide +kernel
theorem dX4_countPairs_120 : decode cX4_countPairs 120 = .ok (.iadd, 1) := by decide +kernel
theorem dX4_countPairs_121 : decode cX4_countPairs 121 = .ok (.iastore, 1) := by decide +kernel
theorem dX4_countPairs_122 : decode cX4_countPairs 122 = .ok (.iinc 2 1, 3) := by decide +kernel
theorem dX4_countPairs_125 : decode cX4_countPairs 125 = .ok (.goto (-84), 3) := by decide +kernel
theorem dX4_countPairs_128 : decode cX4_countPairs 128 = .ok (.return_, 1) := by decide +kernel
theorem dX4_choices_0 : decode cX4_choices 0 = .ok (.iconst 1, 1) := by decide +kernel
theorem dX4_choices_1 : decode cX4_choices 1 = .ok (.istore_n 2, 1) := by decide +kernel
theorem dX4_choices_2 : decode cX4_choices 2 = .ok (.iconst 0, 1) := by decide +kernel
theorem dX4_choices_3 : decode cX4_choices 3 = .ok (.istore_n 3, 1) := by decide +kernel
theorem dX4_choices_4 : decode cX4_choices 4 = .ok (.iload_n 3, 1) := by decide +kernel
theorem dX4_choices_5 : decode cX4_choices 5 = .ok (.iload_n 1, 1) := by decide +kernel
theorem dX4_choices_6 : decode cX4_choices 6 = .ok (.if_icmp .ge 19, 3) := by decide +kernel
theorem dX4_choices_9 : decode cX4_choices 9 = .ok (.iload_n 2, 1) := by decide +kernel
theorem dX4_choices_10 : decode cX4_choices 10 = .ok (.iload_n 0, 1) := by decide +kernel
theorem dX4_choices_11 : decode cX4_choices 11 = .ok (.iload_n 3, 1) := by decide +kernel
theorem dX4_choices_12 : decode cX4_choices 12 = .ok (.isub, 1) := by decide +kernel
theorem dX4_choices_13 : decode cX4_choices 13 = .ok (.imul, 1) := by decide +kernel
theorem dX4_choices_14 : decode cX4_choices 14 = .ok (.iload_n 3, 1) := by decide +kernel
theorem dX4_choices_15 : decode cX4_choices 15 = .ok (.iconst 1, 1) := by decide +kernel
theorem dX4_choices_16 : decode cX4_choices 16 = .ok (.iadd, 1) := by decide +kernel
theorem dX4_choices_17 : decode cX4_choices 17 = .ok (.idiv, 1) := by decide +kernel
theorem dX4_choices_18 : decode cX4_choices 18 = .ok (.istore_n 2, 1) := by decide +kernel
theorem dX4_choices_19 : decode cX4_choices 19 = .ok (.iinc 3 1, 3) := by decide +kernel
theorem dX4_choices_22 : decode cX4_choices 22 = .ok (.goto (-18), 3) := by decide +kernel
theorem dX4_choices_25 : decode cX4_choices 25 = .ok (.iload_n 2, 1) := by decide +kernel
theorem dX4_choices_26 : decode cX4_choices 26 = .ok (.ireturn, 1) := by decide +kernel
theorem dX5_init_0 : decode cX5_init 0 = .ok (.aload_n 0, 1) := by decide +kernel
theorem dX5_init_1 : decode cX5_init 1 = .ok (.invokespecial 3, 3) := by decide +kernel
theorem dX5_init_4 : decode cX5_init 4 = .ok (.aload_n 0, 1) := by decide +kernel
theorem dX5_init_5 : decode cX5_init 5 = .ok (.aload_n 1, 1) := by decide +kernel
theorem dX5_init_6 : decode cX5_init 6 = .ok (.putfield 9, 3) := by decide +kernel
theorem dX5_init_9 : decode cX5_init 9 = .ok (.aload_n 0, 1) := by decide +kernel
theorem dX5_init_10 : decode cX5_init 10 = .ok (.aload_n 2, 1) := by decide +kernel
theorem dX5_init_11 : decode cX5_init 11 = .ok (.putfield 15, 3) := by decide +kernel
theorem dX5_init_14 : decode cX5_init 14 = .ok (.aload_n 0, 1) := by decide +kernel
theorem dX5_init_15 : decode cX5_init 15 = .ok (.bipush 16, 2) := by decide +kernel
theorem dX5_init_17 : decode cX5_init 17 = .ok (.newarray .long, 2) := by decide +kernel
theorem dX5_init_19 : decode cX5_init 19 = .ok (.putfield 19, 3) := by decide +kernel
theorem dX5_init_22 : decode cX5_init 22 = .ok (.aload_n 0, 1) := by decide +kernel
theorem dX5_init_23 : decode cX5_init 23 = .ok (.bipush 32, 2) := by decide +kernel
theorem dX5_init_25 : decode cX5_init 25 = .ok (.newarray .long, 2) := by decide +kernel
theorem dX5_init_27 : decode cX5_init 27 = .ok (.putfield 23, 3) := by decide +kernel
theorem dX5_init_30 : decode cX5_init 30 = .ok (.aload_n 0, 1) := by decide +kernel
theorem dX5_init_31 : decode cX5_init 31 = .ok (.bipush 6, 2) := by decide +kernel
theorem dX5_init_33 : decode cX5_init 33 = .ok (.newarray .int, 2) := by decide +kernel
theorem dX5_init_35 : decode cX5_init 35 = .ok (.putfield 26, 3) := by decide +kernel
theorem dX5_init_38 : decode cX5_init 38 = .ok (.aload_n 0, 1) := by decide +kernel
theorem dX5_init_39 : decode cX5_init 39 = .ok (.iconst 1, 1) := by decide +kernel
theorem dX5_init_40 : decode cX5_init 40 = .ok (.putfield 30, 3) := by decide +kernel
theorem dX5_init_43 : decode cX5_init 43 = .ok (.aload_n 0, 1) := by decide +kernel
theorem dX5_init_44 : decode cX5_init 44 = .ok (.iconst 2, 1) := by decide +kernel
theorem dX5_init_45 : decode cX5_init 45 = .ok (.putfield 34, 3) := by decide +kernel
theorem dX5_init_48 : decode cX5_init 48 = .ok (.aload_n 0, 1) := by decide +kernel
theorem dX5_init_49 : decode cX5_init 49 = .ok (.iconst 1, 1) := by decide +kernel
theorem dX5_init_50 : decode cX5_init 50 = .ok (.putfield 37, 3) := by decide +kernel
theorem dX5_init_53 : decode cX5_init 53 = .ok (.aload_n 0, 1) := by decide +kernel
theorem dX5_init_54 : decode cX5_init 54 = .ok (.iconst 1, 1) := by decide +kernel
theorem dX5_init_55 : decode cX5_init 55 = .ok (.putfield 40, 3) := by decide +kernel
theorem dX5_init_58 : decode cX5_init 58 = .ok (.return_, 1) := by decide +kernel
theorem dX5_setChance_0 : decode cX5_setChance 0 = .ok (.aload_n 0, 1) := by decide +kernel
theorem dX5_setChance_1 : decode cX5_setChance 1 = .ok (.iload_n 1, 1) := by decide +kernel
theorem dX5_setChance_2 : decode cX5_setChance 2 = .ok (.putfield 30, 3) := by decide +kernel
theorem dX5_setChance_5 : decode cX5_setChance 5 = .ok (.aload_n 0, 1) := by decide +kernel
theorem dX5_setChance_6 : decode cX5_setChance 6 = .ok (.iload_n 2, 1) := by decide +kernel
theorem dX5_setChance_7 : decode cX5_setChance 7 = .ok (.putfield 34, 3) := by decide +kernel
theorem dX5_setChance_10 : decode cX5_setChance 10 = .ok (.return_, 1) := by decide +kernel
theorem dX5_setLean_0 : decode cX5_setLean 0 = .ok (.aload_n 0, 1) := by decide +kernel
theorem dX5_setLean_1 : decode cX5_setLean 1 = .ok (.iload_n 1, 1) := by decide +kernel
theorem dX5_setLean_2 : decode cX5_setLean 2 = .ok (.putfield 37, 3) := by decide +kernel
theorem dX5_setLean_5 : decode cX5_setLean 5 = .ok (.aload_n 0, 1) := by decide +kernel
theorem dX5_setLean_6 : decode cX5_setLean 6 = .ok (.iload_n 2, 1) := by decide +kernel
theorem dX5_setLean_7 : decode cX5_setLean 7 = .ok (.putfield 40, 3) := by decide +kernel
theorem dX5_setLean_10 : decode cX5_setLean 10 = .ok (.return_, 1) := by decide +kernel
set_option maxRecDepth 20000 in
theorem ggX5_prepare_X1_among : GoodIn wsX5_prepare wsX1_among := goodIn_r _ [17] (by decide +kernel) (by decide +kernel)
set_option maxRecDepth 20000 in
theorem gX5_prepare_X1_among : GoodIn wsX5_prepare (va_wsS RX5 58 yX1_among wsX1_among) := goodIn_app (goodIn_of _ (by decide +kernel)) ggX5_prepare_X1_among
set_option maxRecDepth 20000 in
theorem ggX5_prepare_X5_weightOfEdges : GoodIn wsX5_prepare wsX5_weightOfEdges := goodIn_r _ [22, 1, 23, 24, 25, 2, 26, 27, 21, 28, 29, 30, 31, 32, 33, 34, 35, 61, 62, 63, 64, 65, 66, 67, 68, 69, 70, 71, 72] (by decide +kernel) (by decide +kernel)
set_option maxRecDepth 20000 in
theorem gX5_prepare_X5_weightOfEdges : GoodIn wsX5_prepare (wsV RX5 64 RX5 yX5_weightOfEdges wsX5_weightOfEdges) := goodIn_app (goodIn_of _ (by decide +kernel)) ggX5_prepare_X5_weightOfEdges
set_option maxRecDepth 20000 in
theorem ggX5_prepare_X5_power : GoodIn wsX5_prepare wsX5_power := goodIn_r _ [28] (by decide +kernel) (by decide +kernel)
set_option maxRecDepth 20000 in
theorem gX5_prepare_X5_power : GoodIn wsX5_prepare (va_wsS RX5 68 yX5_power wsX5_power) := goodIn_app (goodIn_of _ (by decide +kernel)) ggX5_prepare_X5_power
set_option maxRecDepth 20000 in
theorem ggX5_prepare_X1_degree : GoodIn wsX5_prepare wsX1_degree := goodIn_r _ [39, 40, 41, 30, 31, 32, 33, 34, 35, 73, 74, 75] (by decide +kernel) (by decide +kernel)
set_option maxRecDepth 20000 in
theorem gX5_prepare_X1_degree : GoodIn wsX5_prepare (wsV RX5 72 RX1 yX1_degree wsX1_degree) := goodIn_app (goodIn_of _ (by decide +kernel)) ggX5_prepare_X1_degree
set_option maxRecDepth 20000 in
theorem ggX5_prepare_X5_countsTriangles : GoodIn wsX5_prepare wsX5_countsTriangles := goodIn_r _ [45, 1, 10, 61, 62, 63, 64, 65, 66, 67, 68, 69, 70, 71, 72] (by decide +kernel) (by decide +kernel)
set_option maxRecDepth 20000 in
theorem gX5_prepare_X5_countsTriangles : GoodIn wsX5_prepare (wsV RX5 75 RX5 yX5_countsTriangles wsX5_countsTriangles) := goodIn_app (goodIn_of _ (by decide +kernel)) ggX5_prepare_X5_countsTriangles
set_option maxRecDepth 20000 in
theorem ggX5_prepare_X3_makeRoom : GoodIn wsX5_prepare wsX3_makeRoom := goodIn_r _ [50, 51, 52, 53, 54, 55, 56, 57, 58, 59, 49, 60, 76, 77, 78, 79, 80] (by decide +kernel) (by decide +kernel)
set_option maxRecDepth 20000 in
theorem gX5_prepare_X3_makeRoom : GoodIn wsX5_prepare (wsV RX5 79 RX3 yX3_makeRoom wsX3_makeRoom) := goodIn_app (goodIn_of _ (by decide +kernel)) ggX5_prepare_X3_makeRoom
theorem dX5_prepare_0 : decode cX5_prepare 0 = .ok (.aload_n 0, 1) := by decide +kernel
theorem dX5_prepare_1 : decode cX5_prepare 1 = .ok (.iload_n 1, 1) := by decide +kernel
theorem dX5_prepare_2 : decode cX5_prepare 2 = .ok (.putfield 43, 3) := by decide +kernel
theorem dX5_prepare_5 : decode cX5_prepare 5 = .ok (.aload_n 0, 1) := by decide +kernel
theorem dX5_prepare_6 : decode cX5_prepare 6 = .ok (.iload_n 2, 1) := by decide +kernel
theorem dX5_prepare_7 : decode cX5_prepare 7 = .ok (.putfield 46, 3) := by decide +kernel
theorem dX5_prepare_10 : decode cX5_prepare 10 = .ok (.aload_n 0, 1) := by decide +kernel
theorem dX5_prepare_11 : decode cX5_prepare 11 = .ok (.iload_n 3, 1) := by decide +kernel
theorem dX5_prepare_12 : decode cX5_prepare 12 = .ok (.bipush 6, 2) := by decide +kernel
theorem dX5_prepare_14 : decode cX5_prepare 14 = .ok (.invokestatic 49, 3) := by decide +kernel
theorem dX5_prepare_17 : decode cX5_prepare 17 = .ok (.putfield 55, 3) := by decide +kernel
theorem dX5_prepare_20 : decode cX5_prepare 20 = .ok (.aload_n 0, 1) := by decide +kernel
theorem dX5_prepare_21 : decode cX5_prepare 21 = .ok (.getfield 55, 3) := by decide +kernel
theorem dX5_prepare_24 : decode cX5_prepare 24 = .ok (.invokestatic 58, 3) := by decide +kernel
theorem dX5_prepare_27 : decode cX5_prepare 27 = .ok (.istore 4, 2) := by decide +kernel
theorem dX5_prepare_29 : decode cX5_prepare 29 = .ok (.iconst 0, 1) := by decide +kernel
theorem dX5_prepare_30 : decode cX5_prepare 30 = .ok (.istore 5, 2) := by decide +kernel
theorem dX5_prepare_32 : decode cX5_prepare 32 = .ok (.iload 5, 2) := by decide +kernel
theorem dX5_prepare_34 : decode cX5_prepare 34 = .ok (.iload 4, 2) := by decide +kernel
theorem dX5_prepare_36 : decode cX5_prepare 36 = .ok (.if_icmp .gt 24, 3) := by decide +kernel
theorem dX5_prepare_39 : decode cX5_prepare 39 = .ok (.aload_n 0, 1) := by decide +kernel
theorem dX5_prepare_40 : decode cX5_prepare 40 = .ok (.getfield 19, 3) := by decide +kernel
theorem dX5_prepare_43 : decode cX5_prepare 43 = .ok (.iload 5, 2) := by decide +kernel
theorem dX5_prepare_45 : decode cX5_prepare 45 = .ok (.aload_n 0, 1) := by decide +kernel
theorem dX5_prepare_46 : decode cX5_prepare 46 = .ok (.iload 5, 2) := by decide +kernel
theorem dX5_prepare_48 : decode cX5_prepare 48 = .ok (.iload 4, 2) := by decide +kernel
theorem dX5_prepare_50 : decode cX5_prepare 50 = .ok (.invokevirtual 64, 3) := by decide +kernel
theorem dX5_prepare_53 : decode cX5_prepare 53 = .ok (.lastore, 1) := by decide +kernel
theorem dX5_prepare_54 : decode cX5_prepare 54 = .ok (.iinc 5 1, 3) := by decide +kernel
theorem dX5_prepare_57 : decode cX5_prepare 57 = .ok (.goto (-25), 3) := by decide +kernel
theorem dX5_prepare_60 : decode cX5_prepare 60 = .ok (.iconst 0, 1) := by decide +kernel
theorem dX5_prepare_61 : decode cX5_prepare 61 = .ok (.istore 5, 2) := by decide +kernel
theorem dX5_prepare_63 : decode cX5_prepare 63 = .ok (.iload 5, 2) := by decide +kernel
theorem dX5_prepare_65 : decode cX5_prepare 65 = .ok (.aload_n 0, 1) := by decide +kernel
theorem dX5_prepare_66 : decode cX5_prepare 66 = .ok (.getfield 23, 3) := by decide +kernel
theorem dX5_prepare_69 : decode cX5_prepare 69 = .ok (.arraylength, 1) := by decide +kernel
theorem dX5_prepare_70 : decode cX5_prepare 70 = .ok (.if_icmp .ge 26, 3) := by decide +kernel
theorem dX5_prepare_73 : decode cX5_prepare 73 = .ok (.aload_n 0, 1) := by decide +kernel
theorem dX5_prepare_74 : decode cX5_prepare 74 = .ok (.getfield 23, 3) := by decide +kernel
theorem dX5_prepare_77 : decode cX5_prepare 77 = .ok (.iload 5, 2) := by decide +kernel
theorem dX5_prepare_79 : decode cX5_prepare 79 = .ok (.aload_n 0, 1) := by decide +kernel
theorem dX5_prepare_80 : decode cX5_prepare 80 = .ok (.getfield 40, 3) := by decide +kernel
theorem dX5_prepare_83 : decode cX5_prepare 83 = .ok (.i2l, 1) := by decide +kernel
theorem dX5_prepare_84 : decode cX5_prepare 84 = .ok (.iload 5, 2) := by decide +kernel
theorem dX5_prepare_86 : decode cX5_prepare 86 = .ok (.invokestatic 68, 3) := by decide +kernel
theorem dX5_prepare_89 : decode cX5_prepare 89 = .ok (.lastore, 1) := by decide +kernel
theorem dX5_prepare_90 : decode cX5_prepare 90 = .ok (.iinc 5 1, 3) := by decide +kernel
theorem dX5_prepare_93 : decode cX5_prepare 93 = .ok (.goto (-30), 3) := by decide +kernel
theorem dX5_prepare_96 : decode cX5_prepare 96 = .ok (.iconst 0, 1) := by decide +kernel
theorem dX5_prepare_97 : decode cX5_prepare 97 = .ok (.istore 5, 2) := by decide +kernel
theorem dX5_prepare_99 : decode cX5_prepare 99 = .ok (.iload 5, 2) := by decide +kernel
theorem dX5_prepare_101 : decode cX5_prepare 101 = .ok (.aload_n 0, 1) := by decide +kernel
theorem dX5_prepare_102 : decode cX5_prepare 102 = .ok (.getfield 55, 3) := by decide +kernel
theorem dX5_prepare_105 : decode cX5_prepare 105 = .ok (.if_icmp .ge 29, 3) := by decide +kernel
theorem dX5_prepare_108 : decode cX5_prepare 108 = .ok (.aload_n 0, 1) := by decide +kernel
theorem dX5_prepare_109 : decode cX5_prepare 109 = .ok (.getfield 26, 3) := by decide +kernel
theorem dX5_prepare_112 : decode cX5_prepare 112 = .ok (.iload 5, 2) := by decide +kernel
theorem dX5_prepare_114 : decode cX5_prepare 114 = .ok (.aload_n 0, 1) := by decide +kernel
theorem dX5_prepare_115 : decode cX5_prepare 115 = .ok (.getfield 9, 3) := by decide +kernel
theorem dX5_prepare_118 : decode cX5_prepare 118 = .ok (.aload_n 0, 1) := by decide +kernel
theorem dX5_prepare_119 : decode cX5_prepare 119 = .ok (.getfield 46, 3) := by decide +kernel
theorem dX5_prepare_122 : decode cX5_prepare 122 = .ok (.iload 5, 2) := by decide +kernel
theorem dX5_prepare_124 : decode cX5_prepare 124 = .ok (.invokevirtual 72, 3) := by decide +kernel
theorem dX5_prepare_127 : decode cX5_prepare 127 = .ok (.iastore, 1) := by decide +kernel
theorem dX5_prepare_128 : decode cX5_prepare 128 = .ok (.iinc 5 1, 3) := by decide +kernel
theorem dX5_prepare_131 : decode cX5_prepare 131 = .ok (.goto (-32), 3) := by decide +kernel
theorem dX5_prepare_134 : decode cX5_prepare 134 = .ok (.aload_n 0, 1) := by decide +kernel
theorem dX5_prepare_135 : decode cX5_prepare 135 = .ok (.invokevirtual 75, 3) := by decide +kernel
theorem dX5_prepare_138 : decode cX5_prepare 138 = .ok (.ifCond .eq 15, 3) := by decide +kernel
theorem dX5_prepare_141 : decode cX5_prepare 141 = .ok (.aload_n 0, 1) := by decide +kernel
theorem dX5_prepare_142 : decode cX5_prepare 142 = .ok (.getfield 15, 3) := by decide +kernel
theorem dX5_prepare_145 : decode cX5_prepare 145 = .ok (.iconst 1, 1) := by decide +kernel
theorem dX5_prepare_146 : decode cX5_prepare 146 = .ok (.iconst 1, 1) := by decide +kernel
theorem dX5_prepare_147 : decode cX5_prepare 147 = .ok (.iload 4, 2) := by decide +kernel
theorem dX5_prepare_149 : decode cX5_prepare 149 = .ok (.ishl, 1) := by decide +kernel
theorem dX5_prepare_150 : decode cX5_prepare 150 = .ok (.invokevirtual 79, 3) := by decide +kernel
theorem dX5_prepare_153 : decode cX5_prepare 153 = .ok (.return_, 1) := by decide +kernel
set_option maxRecDepth 20000 in
theorem ggX5_weightOfEdges_X5_power : GoodIn wsX5_weightOfEdges wsX5_power := goodIn_r _ [9] (by decide +kernel) (by decide +kernel)
set_option maxRecDepth 20000 in
theorem gX5_weightOfEdges_X5_power : GoodIn wsX5_weightOfEdges (va_wsS RX5 68 yX5_power wsX5_power) := goodIn_app (goodIn_of _ (by decide +kernel)) ggX5_weightOfEdges_X5_power
set_option maxRecDepth 20000 in
theorem ggX5_weightOfEdges_J6_bitCount_0f7a4 : GoodIn wsX5_weightOfEdges wsJ6_bitCount_0f7a4 := goodIn_r _ [13, 14, 15, 16] (by decide +kernel) (by decide +kernel)
set_option maxRecDepth 20000 in
theorem gX5_weightOfEdges_J6_bitCount_0f7a4 : GoodIn wsX5_weightOfEdges (va_wsS RX5 85 yJ6_bitCount_0f7a4 wsJ6_bitCount_0f7a4) := goodIn_app (goodIn_of _ (by decide +kernel)) ggX5_weightOfEdges_J6_bitCount_0f7a4
theorem dX5_weightOfEdges_0 : decode cX5_weightOfEdges 0 = .ok (.aload_n 0, 1) := by decide +kernel
theorem dX5_weightOfEdges_1 : decode cX5_weightOfEdges 1 = .ok (.getfield 43, 3) := by decide +kernel
theorem dX5_weightOfEdges_4 : decode cX5_weightOfEdges 4 = .ok (.lookupswitch 65 #[(0, 28), (3, 55)], 28) := by decide +kernel
theorem dX5_weightOfEdges_32 : decode cX5_weightOfEdges 32 = .ok (.aload_n 0, 1) := by decide +kernel
theorem dX5_weightOfEdges_33 : decode cX5_weightOfEdges 33 = .ok (.getfield 30, 3) := by decide +kernel
theorem dX5_weightOfEdges_36 : decode cX5_weightOfEdges 36 = .ok (.i2l, 1) := by decide +kernel
theorem dX5_weightOfEdges_37 : decode cX5_weightOfEdges 37 = .ok (.iload_n 1, 1) := by decide +kernel
theorem dX5_weightOfEdges_38 : decode cX5_weightOfEdges 38 = .ok (.invokestatic 68, 3) := by decide +kernel
theorem dX5_weightOfEdges_41 : decode cX5_weightOfEdges 41 = .ok (.aload_n 0, 1) := by decide +kernel
theorem dX5_weightOfEdges_42 : decode cX5_weightOfEdges 42 = .ok (.getfield 34, 3) := by decide +kernel
theorem dX5_weightOfEdges_45 : decode cX5_weightOfEdges 45 = .ok (.aload_n 0, 1) := by decide +kernel
theorem dX5_weightOfEdges_46 : decode cX5_weightOfEdges 46 = .ok (.getfield 30, 3) := by decide +kernel
theorem dX5_weightOfEdges_49 : decode cX5_weightOfEdges 49 = .ok (.isub, 1) := by decide +kernel
theorem dX5_weightOfEdges_50 : decode cX5_weightOfEdges 50 = .ok (.i2l, 1) := by decide +kernel
theorem dX5_weightOfEdges_51 : decode cX5_weightOfEdges 51 = .ok (.iload_n 2, 1) := by decide +kernel
theorem dX5_weightOfEdges_52 : decode cX5_weightOfEdges 52 = .ok (.iload_n 1, 1) := by decide +kernel
theorem dX5_weightOfEdges_53 : decode cX5_weightOfEdges 53 = .ok (.isub, 1) := by decide +kernel
theorem dX5_weightOfEdges_54 : decode cX5_weightOfEdges 54 = .ok (.invokestatic 68, 3) := by decide +kernel
theorem dX5_weightOfEdges_57 : decode cX5_weightOfEdges 57 = .ok (.lmul, 1) := by decide +kernel
theorem dX5_weightOfEdges_58 : decode cX5_weightOfEdges 58 = .ok (.lreturn, 1) := by decide +kernel
theorem dX5_weightOfEdges_59 : decode cX5_weightOfEdges 59 = .ok (.aload_n 0, 1) := by decide +kernel
theorem dX5_weightOfEdges_60 : decode cX5_weightOfEdges 60 = .ok (.getfield 37, 3) := by decide +kernel
theorem dX5_weightOfEdges_63 : decode cX5_weightOfEdges 63 = .ok (.i2l, 1) := by decide +kernel
theorem dX5_weightOfEdges_64 : decode cX5_weightOfEdges 64 = .ok (.iload_n 1, 1) := by decide +kernel
theorem dX5_weightOfEdges_65 : decode cX5_weightOfEdges 65 = .ok (.invokestatic 68, 3) := by decide +kernel
theorem dX5_weightOfEdges_68 : decode cX5_weightOfEdges 68 = .ok (.lreturn, 1) := by decide +kernel
theorem dX5_weightOfEdges_69 : decode cX5_weightOfEdges 69 = .ok (.iload_n 1, 1) := by decide +kernel
theorem dX5_weightOfEdges_70 : decode cX5_weightOfEdges 70 = .ok (.aload_n 0, 1) := by decide +kernel
theorem dX5_weightOfEdges_71 : decode cX5_weightOfEdges 71 = .ok (.getfield 46, 3) := by decide +kernel
theorem dX5_weightOfEdges_74 : decode cX5_weightOfEdges 74 = .ok (.invokestatic 85, 3) := by decide +kernel
theorem dX5_weightOfEdges_77 : decode cX5_weightOfEdges 77 = .ok (.if_icmp .ne 7, 3) := by decide +kernel
theorem dX5_weightOfEdges_80 : decode cX5_weightOfEdges 80 = .ok (.lconst 1, 1) := by decide +kernel
theorem dX5_weightOfEdges_81 : decode cX5_weightOfEdges 81 = .ok (.goto 4, 3) := by decide +kernel
theorem dX5_weightOfEdges_84 : decode cX5_weightOfEdges 84 = .ok (.lconst 0, 1) := by decide +kernel
theorem dX5_weightOfEdges_85 : decode cX5_weightOfEdges 85 = .ok (.lreturn, 1) := by decide +kernel
theorem dX5_power_0 : decode cX5_power 0 = .ok (.lconst 1, 1) := by decide +kernel
theorem dX5_power_1 : decode cX5_power 1 = .ok (.lstore_n 3, 1) := by decide +kernel
theorem dX5_power_2 : decode cX5_power 2 = .ok (.iconst 0, 1) := by decide +kernel
theorem dX5_power_3 : decode cX5_power 3 = .ok (.istore 5, 2) := by decide +kernel
theorem dX5_power_5 : decode cX5_power 5 = .ok (.iload 5, 2) := by decide +kernel
theorem dX5_power_7 : decode cX5_power 7 = .ok (.iload_n 2, 1) := by decide +kernel
theorem dX5_power_8 : decode cX5_power 8 = .ok (.if_icmp .ge 13, 3) := by decide +kernel
theorem dX5_power_11 : decode cX5_power 11 = .ok (.lload_n 3, 1) := by decide +kernel
theorem dX5_power_12 : decode cX5_power 12 = .ok (.lload_n 0, 1) := by decide +kernel
theorem dX5_power_13 : decode cX5_power 13 = .ok (.lmul, 1) := by decide +kernel
theorem dX5_power_14 : decode cX5_power 14 = .ok (.lstore_n 3, 1) := by decide +kernel
theorem dX5_power_15 : decode cX5_power 15 = .ok (.iinc 5 1, 3) := by decide +kernel
theorem dX5_power_18 : decode cX5_power 18 = .ok (.goto (-13), 3) := by decide +kernel
theorem dX5_power_21 : decode cX5_power 21 = .ok (.lload_n 3, 1) := by decide +kernel
theorem dX5_power_22 : decode cX5_power 22 = .ok (.lreturn, 1) := by decide +kernel
theorem dX5_countsTriangles_0 : decode cX5_countsTriangles 0 = .ok (.aload_n 0, 1) := by decide +kernel
theorem dX5_countsTriangles_1 : decode cX5_countsTriangles 1 = .ok (.getfield 43, 3) := by decide +kernel
theorem dX5_countsTriangles_4 : decode cX5_countsTriangles 4 = .ok (.iconst 3, 1) := by decide +kernel
theorem dX5_countsTriangles_5 : decode cX5_countsTriangles 5 = .ok (.if_icmp .ne 15, 3) := by decide +kernel
theorem dX5_countsTriangles_8 : decode cX5_countsTriangles 8 = .ok (.aload_n 0, 1) := by decide +kernel
theorem dX5_countsTriangles_9 : decode cX5_countsTriangles 9 = .ok (.getfield 40, 3) := by decide +kernel
theorem dX5_countsTriangles_12 : decode cX5_countsTriangles 12 = .ok (.iconst 1, 1) := by decide +kernel
theorem dX5_countsTriangles_13 : decode cX5_countsTriangles 13 = .ok (.if_icmp .eq 7, 3) := by decide +kernel
theorem dX5_countsTriangles_16 : decode cX5_countsTriangles 16 = .ok (.iconst 1, 1) := by decide +kernel
theorem dX5_countsTriangles_17 : decode cX5_countsTriangles 17 = .ok (.goto 4, 3) := by decide +kernel
theorem dX5_countsTriangles_20 : decode cX5_countsTriangles 20 = .ok (.iconst 0, 1) := by decide +kernel
theorem dX5_countsTriangles_21 : decode cX5_countsTriangles 21 = .ok (.ireturn, 1) := by decide +kernel
set_option maxRecDepth 20000 in
theorem ggX5_of_J6_bitCount_0f7a4 : GoodIn wsX5_of wsJ6_bitCount_0f7a4 := goodIn_r _ [9, 10, 11, 12] (by decide +kernel) (by decide +kernel)
set_option maxRecDepth 20000 in
theorem gX5_of_J6_bitCount_0f7a4 : GoodIn wsX5_of (va_wsS RX5 85 yJ6_bitCount_0f7a4 wsJ6_bitCount_0f7a4) := goodIn_app (goodIn_of _ (by decide +kernel)) ggX5_of_J6_bitCount_0f7a4
set_option maxRecDepth 20000 in
theorem ggX5_of_X5_countsTriangles : GoodIn wsX5_of wsX5_countsTriangles := goodIn_r _ [17, 5, 18, 85, 86, 87, 88, 89, 90, 91, 92, 93, 94, 95, 96] (by decide +kernel) (by decide +kernel)
set_option maxRecDepth 20000 in
theorem gX5_of_X5_countsTriangles : GoodIn wsX5_of (wsV RX5 75 RX5 yX5_countsTriangles wsX5_countsTriangles) := goodIn_app (goodIn_of _ (by decide +kernel)) ggX5_of_X5_countsTriangles
set_option maxRecDepth 20000 in
theorem ggX5_of_X3_look : GoodIn wsX5_of wsX3_look := goodIn_r _ [23, 24, 25, 22, 26, 27, 28, 29, 30, 31, 32, 33, 34, 35, 36, 37, 38, 39, 40, 41, 42, 43, 44, 45, 46, 47, 48, 49, 50, 51, 52, 53, 54, 55, 7, 8, 9, 10, 11, 12, 56, 57, 58, 59, 60, 61, 62, 63, 64, 65, 66, 67, 68, 69, 70, 71, 72, 73, 74, 75, 76, 77, 97, 98, 99, 100, 101, 102, 103, 104] (by decide +kernel) (by decide +kernel)
set_option maxRecDepth 20000 in
theorem gX5_of_X3_look : GoodIn wsX5_of (wsV RX5 90 RX3 yX3_look wsX3_look) := goodIn_app (goodIn_of _ (by decide +kernel)) ggX5_of_X3_look
set_option maxRecDepth 20000 in
theorem ggX5_of_X5_hasOwnDegrees : GoodIn wsX5_of wsX5_hasOwnDegrees := goodIn_r _ [81, 4, 82, 83, 84, 51, 52, 47, 53, 54, 55, 7, 8, 9, 10, 11, 12, 85, 86, 87, 88, 89, 90, 91, 92, 93, 94, 95, 96, 102, 103, 104] (by decide +kernel) (by decide +kernel)
set_option maxRecDepth 20000 in
theorem gX5_of_X5_hasOwnDegrees : GoodIn wsX5_of (wsV RX5 94 RX5 yX5_hasOwnDegrees wsX5_hasOwnDegrees) := goodIn_app (goodIn_of _ (by decide +kernel)) ggX5_of_X5_hasOwnDegrees
theorem dX5_of_0 : decode cX5_of 0 = .ok (.aload_n 0, 1) := by decide +kernel
theorem dX5_of_1 : decode cX5_of 1 = .ok (.getfield 19, 3) := by decide +kernel
theorem dX5_of_4 : decode cX5_of 4 = .ok (.iload_n 1, 1) := by decide +kernel
theorem dX5_of_5 : decode cX5_of 5 = .ok (.invokestatic 85, 3) := by decide +kernel
theorem dX5_of_8 : decode cX5_of 8 = .ok (.bipush 15, 2) := by decide +kernel
theorem dX5_of_10 : decode cX5_of 10 = .ok (.iand, 1) := by decide +kernel
theorem dX5_of_11 : decode cX5_of 11 = .ok (.laload, 1) := by decide +kernel
theorem dX5_of_12 : decode cX5_of 12 = .ok (.lstore_n 2, 1) := by decide +kernel
theorem dX5_of_13 : decode cX5_of 13 = .ok (.aload_n 0, 1) := by decide +kernel
theorem dX5_of_14 : decode cX5_of 14 = .ok (.invokevirtual 75, 3) := by decide +kernel
theorem dX5_of_17 : decode cX5_of 17 = .ok (.ifCond .eq 27, 3) := by decide +kernel
theorem dX5_of_20 : decode cX5_of 20 = .ok (.lload_n 2, 1) := by decide +kernel
theorem dX5_of_21 : decode cX5_of 21 = .ok (.aload_n 0, 1) := by decide +kernel
theorem dX5_of_22 : decode cX5_of 22 = .ok (.getfield 23, 3) := by decide +kernel
theorem dX5_of_25 : decode cX5_of 25 = .ok (.aload_n 0, 1) := by decide +kernel
theorem dX5_of_26 : decode cX5_of 26 = .ok (.getfield 15, 3) := by decide +kernel
theorem dX5_of_29 : decode cX5_of 29 = .ok (.iconst 1, 1) := by decide +kernel
theorem dX5_of_30 : decode cX5_of 30 = .ok (.iload_n 1, 1) := by decide +kernel
theorem dX5_of_31 : decode cX5_of 31 = .ok (.aload_n 0, 1) := by decide +kernel
theorem dX5_of_32 : decode cX5_of 32 = .ok (.getfield 55, 3) := by decide +kernel
theorem dX5_of_35 : decode cX5_of 35 = .ok (.invokevirtual 90, 3) := by decide +kernel
theorem dX5_of_38 : decode cX5_of 38 = .ok (.bipush 31, 2) := by decide +kernel
theorem dX5_of_40 : decode cX5_of 40 = .ok (.iand, 1) := by decide +kernel
theorem dX5_of_41 : decode cX5_of 41 = .ok (.laload, 1) := by decide +kernel
theorem dX5_of_42 : decode cX5_of 42 = .ok (.lmul, 1) := by decide +kernel
theorem dX5_of_43 : decode cX5_of 43 = .ok (.lreturn, 1) := by decide +kernel
theorem dX5_of_44 : decode cX5_of 44 = .ok (.aload_n 0, 1) := by decide +kernel
theorem dX5_of_45 : decode cX5_of 45 = .ok (.getfield 43, 3) := by decide +kernel
theorem dX5_of_48 : decode cX5_of 48 = .ok (.iconst 2, 1) := by decide +kernel
theorem dX5_of_49 : decode cX5_of 49 = .ok (.if_icmp .ne 19, 3) := by decide +kernel
theorem dX5_of_52 : decode cX5_of 52 = .ok (.lload_n 2, 1) := by decide +kernel
theorem dX5_of_53 : decode cX5_of 53 = .ok (.lconst 0, 1) := by decide +kernel
theorem dX5_of_54 : decode cX5_of 54 = .ok (.lcmp, 1) := by decide +kernel
theorem dX5_of_55 : decode cX5_of 55 = .ok (.ifCond .eq 13, 3) := by decide +kernel
theorem dX5_of_58 : decode cX5_of 58 = .ok (.aload_n 0, 1) := by decide +kernel
theorem dX5_of_59 : decode cX5_of 59 = .ok (.iload_n 1, 1) := by decide +kernel
theorem dX5_of_60 : decode cX5_of 60 = .ok (.invokevirtual 94, 3) := by decide +kernel
theorem dX5_of_63 : decode cX5_of 63 = .ok (.ifCond .ne 5, 3) := by decide +kernel
theorem dX5_of_66 : decode cX5_of 66 = .ok (.lconst 0, 1) := by decide +kernel
theorem dX5_of_67 : decode cX5_of 67 = .ok (.lreturn, 1) := by decide +kernel
theorem dX5_of_68 : decode cX5_of 68 = .ok (.lload_n 2, 1) := by decide +kernel
theorem dX5_of_69 : decode cX5_of 69 = .ok (.lreturn, 1) := by decide +kernel
set_option maxRecDepth 20000 in
theorem ggX5_hasOwnDegrees_X1_degree : GoodIn wsX5_hasOwnDegrees wsX1_degree := goodIn_r _ [8, 9, 10, 11, 12, 13, 14, 15, 16, 29, 30, 31] (by decide +kernel) (by decide +kernel)
set_option maxRecDepth 20000 in
theorem gX5_hasOwnDegrees_X1_degree : GoodIn wsX5_hasOwnDegrees (wsV RX5 72 RX1 yX1_degree wsX1_degree) := goodIn_app (goodIn_of _ (by decide +kernel)) ggX5_hasOwnDegrees_X1_degree
theorem dX5_hasOwnDegrees_0 : decode cX5_hasOwnDegrees 0 = .ok (.iconst 0, 1) := by decide +kernel
theorem dX5_hasOwnDegrees_1 : decode cX5_hasOwnDegrees 1 = .ok (.istore_n 2, 1) := by decide +kernel
theorem dX5_hasOwnDegrees_2 : decode cX5_hasOwnDegrees 2 = .ok (.iload_n 2, 1) := by decide +kernel
theorem dX5_hasOwnDegrees_3 : decode cX5_hasOwnDegrees 3 = .ok (.aload_n 0, 1) := by decide +kernel
theorem dX5_hasOwnDegrees_4 : decode cX5_hasOwnDegrees 4 = .ok (.getfield 55, 3) := by decide +kernel
theorem dX5_hasOwnDegrees_7 : decode cX5_hasOwnDegrees 7 = .ok (.if_icmp .ge 29, 3) := by decide +kernel
theorem dX5_hasOwnDegrees_10 : decode cX5_hasOwnDegrees 10 = .ok (.aload_n 0, 1) := by decide +kernel
theorem dX5_hasOwnDegrees_11 : decode cX5_hasOwnDegrees 11 = .ok (.getfield 9, 3) := by decide +kernel
theorem dX5_hasOwnDegrees_14 : decode cX5_hasOwnDegrees 14 = .ok (.iload_n 1, 1) := by decide +kernel
theorem dX5_hasOwnDegrees_15 : decode cX5_hasOwnDegrees 15 = .ok (.iload_n 2, 1) := by decide +kernel
theorem dX5_hasOwnDegrees_16 : decode cX5_hasOwnDegrees 16 = .ok (.invokevirtual 72, 3) := by decide +kernel
theorem dX5_hasOwnDegrees_19 : decode cX5_hasOwnDegrees 19 = .ok (.aload_n 0, 1) := by decide +kernel
theorem dX5_hasOwnDegrees_20 : decode cX5_hasOwnDegrees 20 = .ok (.getfield 26, 3) := by decide +kernel
theorem dX5_hasOwnDegrees_23 : decode cX5_hasOwnDegrees 23 = .ok (.iload_n 2, 1) := by decide +kernel
theorem dX5_hasOwnDegrees_24 : decode cX5_hasOwnDegrees 24 = .ok (.iaload, 1) := by decide +kernel
theorem dX5_hasOwnDegrees_25 : decode cX5_hasOwnDegrees 25 = .ok (.if_icmp .eq 5, 3) := by decide +kernel
theorem dX5_hasOwnDegrees_28 : decode cX5_hasOwnDegrees 28 = .ok (.iconst 0, 1) := by decide +kernel
theorem dX5_hasOwnDegrees_29 : decode cX5_hasOwnDegrees 29 = .ok (.ireturn, 1) := by decide +kernel
theorem dX5_hasOwnDegrees_30 : decode cX5_hasOwnDegrees 30 = .ok (.iinc 2 1, 3) := by decide +kernel
theorem dX5_hasOwnDegrees_33 : decode cX5_hasOwnDegrees 33 = .ok (.goto (-31), 3) := by decide +kernel
theorem dX5_hasOwnDegrees_36 : decode cX5_hasOwnDegrees 36 = .ok (.iconst 1, 1) := by decide +kernel
theorem dX5_hasOwnDegrees_37 : decode cX5_hasOwnDegrees 37 = .ok (.ireturn, 1) := by decide +kernel
set_option maxRecDepth 20000 in
theorem ggX6_init_X1_init : GoodIn wsX6_init wsX1_init := goodIn_r _ [35, 36, 2, 3, 28, 37, 38, 39, 40, 41, 6, 42, 43, 44, 45, 99, 100, 101] (by decide +kernel) (by decide +kernel)
set_option maxRecDepth 20000 in
theorem gX6_init_X1_init : GoodIn wsX6_init (wsX1_init) := ggX6_init_X1_init
set_option maxRecDepth 20000 in
theorem ggX6_init_X3_init : GoodIn wsX6_init wsX3_init := goodIn_r _ [48, 49, 2, 3, 50, 28, 51, 52, 53, 54, 55, 56, 57, 10, 58, 59, 60, 61, 6, 62, 37, 63, 64, 65, 66, 38, 67, 41, 42, 43, 44, 45, 112, 113, 114, 115, 116, 99, 100, 101] (by decide +kernel) (by decide +kernel)
set_option maxRecDepth 20000 in
theorem gX6_init_X3_init : GoodIn wsX6_init (wsX3_init) := ggX6_init_X3_init
set_option maxRecDepth 20000 in
theorem ggX6_init_X5_init : GoodIn wsX6_init wsX5_init := goodIn_r _ [70, 71, 2, 3, 72, 73, 74, 75, 76, 28, 77, 78, 79, 80, 81, 117, 118, 119, 120, 121, 122, 123, 124, 125, 126, 127, 128] (by decide +kernel) (by decide +kernel)
set_option maxRecDepth 20000 in
theorem gX6_init_X5_init : GoodIn wsX6_init (wsX5_init) := ggX6_init_X5_init
set_option maxRecDepth 20000 in
theorem ggX6_init_X0_init : GoodIn wsX6_init wsX0_init := goodIn_r _ [83, 84, 2, 3] (by decide +kernel) (by decide +kernel)
set_option maxRecDepth 20000 in
theorem gX6_init_X0_init_n36 : GoodIn wsX6_init (wsX0_init) := ggX6_init_X0_init
set_option maxRecDepth 20000 in
theorem ggX6_init_X2_init : GoodIn wsX6_init wsX2_init := goodIn_r _ [87, 88, 2, 3, 28, 89, 130, 131, 132, 133] (by decide +kernel) (by decide +kernel)
set_option maxRecDepth 20000 in
theorem gX6_init_X2_init : GoodIn wsX6_init (wsX2_init) := ggX6_init_X2_init
set_option maxRecDepth 20000 in
theorem ggX6_init_X4_init : GoodIn wsX6_init wsX4_init := goodIn_r _ [92, 93, 2, 3, 94, 28, 95, 96, 97, 98, 134, 135, 136, 137, 138, 139, 140, 141, 142, 143] (by decide +kernel) (by decide +kernel)
set_option maxRecDepth 20000 in
theorem gX6_init_X4_init : GoodIn wsX6_init (wsX4_init) := ggX6_init_X4_init
theorem dX6_init_0 : decode cX6_init 0 = .ok (.aload_n 0, 1) := by decide +kernel
theorem dX6_init_1 : decode cX6_init 1 = .ok (.invokespecial 3, 3) := by decide +kernel
theorem dX6_init_4 : decode cX6_init 4 = .ok (.aload_n 0, 1) := by decide +kernel
theorem dX6_init_5 : decode cX6_init 5 = .ok (.new 9, 3) := by decide +kernel
theorem dX6_init_8 : decode cX6_init 8 = .ok (.dup, 1) := by decide +kernel
theorem dX6_init_9 : decode cX6_init 9 = .ok (.invokespecial 11, 3) := by decide +kernel
theorem dX6_init_12 : decode cX6_init 12 = .ok (.putfield 12, 3) := by decide +kernel
theorem dX6_init_15 : decode cX6_init 15 = .ok (.aload_n 0, 1) := by decide +kernel
theorem dX6_init_16 : decode cX6_init 16 = .ok (.new 16, 3) := by decide +kernel
theorem dX6_init_19 : decode cX6_init 19 = .ok (.dup, 1) := by decide +kernel
theorem dX6_init_20 : decode cX6_init 20 = .ok (.aload_n 0, 1) := by decide +kernel
theorem dX6_init_21 : decode cX6_init 21 = .ok (.getfield 12, 3) := by decide +kernel
theorem dX6_init_24 : decode cX6_init 24 = .ok (.invokespecial 18, 3) := by decide +kernel
theorem dX6_init_27 : decode cX6_init 27 = .ok (.putfield 21, 3) := by decide +kernel
theorem dX6_init_30 : decode cX6_init 30 = .ok (.aload_n 0, 1) := by decide +kernel
theorem dX6_init_31 : decode cX6_init 31 = .ok (.new 25, 3) := by decide +kernel
theorem dX6_init_34 : decode cX6_init 34 = .ok (.dup, 1) := by decide +kernel
theorem dX6_init_35 : decode cX6_init 35 = .ok (.aload_n 0, 1) := by decide +kernel
theorem dX6_init_36 : decode cX6_init 36 = .ok (.getfield 12, 3) := by decide +kernel
theorem dX6_init_39 : decode cX6_init 39 = .ok (.aload_n 0, 1) := by decide +kernel
theorem dX6_init_40 : decode cX6_init 40 = .ok (.getfield 21, 3) := by decide +kernel
theorem dX6_init_43 : decode cX6_init 43 = .ok (.invokespecial 27, 3) := by decide +kernel
theorem dX6_init_46 : decode cX6_init 46 = .ok (.putfield 30, 3) := by decide +kernel
theorem dX6_init_49 : decode cX6_init 49 = .ok (.aload_n 0, 1) := by decide +kernel
theorem dX6_init_50 : decode cX6_init 50 = .ok (.new 34, 3) := by decide +kernel
theorem dX6_init_53 : decode cX6_init 53 = .ok (.dup, 1) := by decide +kernel
theorem dX6_init_54 : decode cX6_init 54 = .ok (.invokespecial 36, 3) := by decide +kernel
theorem dX6_init_57 : decode cX6_init 57 = .ok (.putfield 37, 3) := by decide +kernel
theorem dX6_init_60 : decode cX6_init 60 = .ok (.aload_n 0, 1) := by decide +kernel
theorem dX6_init_61 : decode cX6_init 61 = .ok (.new 41, 3) := by decide +kernel
theorem dX6_init_64 : decode cX6_init 64 = .ok (.dup, 1) := by decide +kernel
theorem dX6_init_65 : decode cX6_init 65 = .ok (.invokespecial 43, 3) := by decide +kernel
theorem dX6_init_68 : decode cX6_init 68 = .ok (.putfield 44, 3) := by decide +kernel
theorem dX6_init_71 : decode cX6_init 71 = .ok (.aload_n 0, 1) := by decide +kernel
theorem dX6_init_72 : decode cX6_init 72 = .ok (.new 48, 3) := by decide +kernel
theorem dX6_init_75 : decode cX6_init 75 = .ok (.dup, 1) := by decide +kernel
theorem dX6_init_76 : decode cX6_init 76 = .ok (.aload_n 0, 1) := by decide +kernel
theorem dX6_init_77 : decode cX6_init 77 = .ok (.getfield 12, 3) := by decide +kernel
theorem dX6_init_80 : decode cX6_init 80 = .ok (.invokespecial 50, 3) := by decide +kernel
theorem dX6_init_83 : decode cX6_init 83 = .ok (.putfield 51, 3) := by decide +kernel
theorem dX6_init_86 : decode cX6_init 86 = .ok (.aload_n 0, 1) := by decide +kernel
theorem dX6_init_87 : decode cX6_init 87 = .ok (.bipush 6, 2) := by decide +kernel
theorem dX6_init_89 : decode cX6_init 89 = .ok (.newarray .int, 2) := by decide +kernel
theorem dX6_init_91 : decode cX6_init 91 = .ok (.putfield 55, 3) := by decide +kernel
theorem dX6_init_94 : decode cX6_init 94 = .ok (.aload_n 0, 1) := by decide +kernel
theorem dX6_init_95 : decode cX6_init 95 = .ok (.iconst 1, 1) := by decide +kernel
theorem dX6_init_96 : decode cX6_init 96 = .ok (.putfield 59, 3) := by decide +kernel
theorem dX6_init_99 : decode cX6_init 99 = .ok (.aload_n 0, 1) := by decide +kernel
theorem dX6_init_100 : decode cX6_init 100 = .ok (.iconst 1, 1) := by decide +kernel
theorem dX6_init_101 : decode cX6_init 101 = .ok (.putfield 63, 3) := by decide +kernel
theorem dX6_init_104 : decode cX6_init 104 = .ok (.aload_n 0, 1) := by decide +kernel
theorem dX6_init_105 : decode cX6_init 105 = .ok (.iconst 0, 1) := by decide +kernel
theorem dX6_init_106 : decode cX6_init 106 = .ok (.putfield 66, 3) := by decide +kernel
theorem dX6_init_109 : decode cX6_init 109 = .ok (.return_, 1) := by decide +kernel
set_option maxRecDepth 20000 in
theorem ggX6_begin_X1_among : GoodIn wsX6_begin wsX1_among := goodIn_r _ [11] (by decide +kernel) (by decide +kernel)
set_option maxRecDepth 20000 in
theorem gX6_begin_X1_among : GoodIn wsX6_begin (va_wsS RX6 69 yX1_among wsX1_among) := goodIn_app (goodIn_of _ (by decide +kernel)) ggX6_begin_X1_among
set_option maxRecDepth 20000 in
theorem ggX6_begin_X1_ofSameLabel : GoodIn wsX6_begin wsX1_ofSameLabel := goodIn_r _ [15, 16, 17, 10, 18, 19, 9, 11] (by decide +kernel) (by decide +kernel)
set_option maxRecDepth 20000 in
theorem gX6_begin_X1_ofSameLabel : GoodIn wsX6_begin (wsV RX6 73 RX1 yX1_ofSameLabel wsX1_ofSameLabel) := goodIn_app (goodIn_of _ (by decide +kernel)) ggX6_begin_X1_ofSameLabel
set_option maxRecDepth 20000 in
theorem ggX6_begin_X3_setSameLabel : GoodIn wsX6_begin wsX3_setSameLabel := goodIn_r _ [24, 25, 42, 43, 44, 45, 46] (by decide +kernel) (by decide +kernel)
set_option maxRecDepth 20000 in
theorem gX6_begin_X3_setSameLabel : GoodIn wsX6_begin (wsV RX6 77 RX3 yX3_setSameLabel wsX3_setSameLabel) := goodIn_app (goodIn_of _ (by decide +kernel)) ggX6_begin_X3_setSameLabel
set_option maxRecDepth 20000 in
theorem ggX6_begin_X4_forget : GoodIn wsX6_begin wsX4_forget := goodIn_r _ [30, 31, 47, 48, 49, 50, 51, 52, 53, 54, 55, 56] (by decide +kernel) (by decide +kernel)
set_option maxRecDepth 20000 in
theorem gX6_begin_X4_forget : GoodIn wsX6_begin (wsV RX6 81 RX4 yX4_forget wsX4_forget) := goodIn_app (goodIn_of _ (by decide +kernel)) ggX6_begin_X4_forget
theorem dX6_begin_0 : decode cX6_begin 0 = .ok (.iload_n 1, 1) := by decide +kernel
theorem dX6_begin_1 : decode cX6_begin 1 = .ok (.iconst 1, 1) := by decide +kernel
theorem dX6_begin_2 : decode cX6_begin 2 = .ok (.if_icmp .lt 9, 3) := by decide +kernel
theorem dX6_begin_5 : decode cX6_begin 5 = .ok (.iload_n 1, 1) := by decide +kernel
theorem dX6_begin_6 : decode cX6_begin 6 = .ok (.bipush 6, 2) := by decide +kernel
theorem dX6_begin_8 : decode cX6_begin 8 = .ok (.if_icmp .le 5, 3) := by decide +kernel
theorem dX6_begin_11 : decode cX6_begin 11 = .ok (.iconst (-1), 1) := by decide +kernel
theorem dX6_begin_12 : decode cX6_begin 12 = .ok (.ireturn, 1) := by decide +kernel
theorem dX6_begin_13 : decode cX6_begin 13 = .ok (.aload_n 0, 1) := by decide +kernel
theorem dX6_begin_14 : decode cX6_begin 14 = .ok (.iload_n 1, 1) := by decide +kernel
theorem dX6_begin_15 : decode cX6_begin 15 = .ok (.putfield 59, 3) := by decide +kernel
theorem dX6_begin_18 : decode cX6_begin 18 = .ok (.aload_n 0, 1) := by decide +kernel
theorem dX6_begin_19 : decode cX6_begin 19 = .ok (.iconst 1, 1) := by decide +kernel
theorem dX6_begin_20 : decode cX6_begin 20 = .ok (.iload_n 1, 1) := by decide +kernel
theorem dX6_begin_21 : decode cX6_begin 21 = .ok (.invokestatic 69, 3) := by decide +kernel
theorem dX6_begin_24 : decode cX6_begin 24 = .ok (.ishl, 1) := by decide +kernel
theorem dX6_begin_25 : decode cX6_begin 25 = .ok (.putfield 63, 3) := by decide +kernel
theorem dX6_begin_28 : decode cX6_begin 28 = .ok (.aload_n 0, 1) := by decide +kernel
theorem dX6_begin_29 : decode cX6_begin 29 = .ok (.iconst 0, 1) := by decide +kernel
theorem dX6_begin_30 : decode cX6_begin 30 = .ok (.putfield 66, 3) := by decide +kernel
theorem dX6_begin_33 : decode cX6_begin 33 = .ok (.iconst 0, 1) := by decide +kernel
theorem dX6_begin_34 : decode cX6_begin 34 = .ok (.istore_n 2, 1) := by decide +kernel
theorem dX6_begin_35 : decode cX6_begin 35 = .ok (.iload_n 2, 1) := by decide +kernel
theorem dX6_begin_36 : decode cX6_begin 36 = .ok (.bipush 6, 2) := by decide +kernel
theorem dX6_begin_38 : decode cX6_begin 38 = .ok (.if_icmp .ge 16, 3) := by decide +kernel
theorem dX6_begin_41 : decode cX6_begin 41 = .ok (.aload_n 0, 1) := by decide +kernel
theorem dX6_begin_42 : decode cX6_begin 42 = .ok (.getfield 55, 3) := by decide +kernel
theorem dX6_begin_45 : decode cX6_begin 45 = .ok (.iload_n 2, 1) := by decide +kernel
theorem dX6_begin_46 : decode cX6_begin 46 = .ok (.iconst 0, 1) := by decide +kernel
theorem dX6_begin_47 : decode cX6_begin 47 = .ok (.iastore, 1) := by decide +kernel
theorem dX6_begin_48 : decode cX6_begin 48 = .ok (.iinc 2 1, 3) := by decide +kernel
theorem dX6_begin_51 : decode cX6_begin 51 = .ok (.goto (-16), 3) := by decide +kernel
theorem dX6_begin_54 : decode cX6_begin 54 = .ok (.aload_n 0, 1) := by decide +kernel
theorem dX6_begin_55 : decode cX6_begin 55 = .ok (.getfield 21, 3) := by decide +kernel
theorem dX6_begin_58 : decode cX6_begin 58 = .ok (.aload_n 0, 1) := by decide +kernel
theorem dX6_begin_59 : decode cX6_begin 59 = .ok (.getfield 12, 3) := by decide +kernel
theorem dX6_begin_62 : decode cX6_begin 62 = .ok (.aload_n 0, 1) := by decide +kernel
theorem dX6_begin_63 : decode cX6_begin 63 = .ok (.getfield 55, 3) := by decide +kernel
theorem dX6_begin_66 : decode cX6_begin 66 = .ok (.invokevirtual 73, 3) := by decide +kernel
theorem dX6_begin_69 : decode cX6_begin 69 = .ok (.invokevirtual 77, 3) := by decide +kernel
theorem dX6_begin_72 : decode cX6_begin 72 = .ok (.aload_n 0, 1) := by decide +kernel
theorem dX6_begin_73 : decode cX6_begin 73 = .ok (.getfield 51, 3) := by decide +kernel
theorem dX6_begin_76 : decode cX6_begin 76 = .ok (.invokevirtual 81, 3) := by decide +kernel
theorem dX6_begin_79 : decode cX6_begin 79 = .ok (.iload_n 1, 1) := by decide +kernel
theorem dX6_begin_80 : decode cX6_begin 80 = .ok (.invokestatic 69, 3) := by decide +kernel
theorem dX6_begin_83 : decode cX6_begin 83 = .ok (.ireturn, 1) := by decide +kernel
set_option maxRecDepth 20000 in
theorem ggX6_edge_X6_isPair : GoodIn wsX6_edge wsX6_isPair := goodIn_r _ [6, 7, 8, 9, 5, 10, 11, 19, 20, 21, 22, 23, 24, 25, 26, 27, 28] (by decide +kernel) (by decide +kernel)
set_option maxRecDepth 20000 in
theorem gX6_edge_X6_isPair : GoodIn wsX6_edge (wsV RX6 84 RX6 yX6_isPair wsX6_isPair) := goodIn_app (goodIn_of _ (by decide +kernel)) ggX6_edge_X6_isPair
set_option maxRecDepth 20000 in
theorem ggX6_edge_X1_indexOf : GoodIn wsX6_edge wsX1_indexOf := goodIn_r _ [15, 16, 17, 14, 18] (by decide +kernel) (by decide +kernel)
set_option maxRecDepth 20000 in
theorem gX6_edge_X1_indexOf : GoodIn wsX6_edge (va_wsS RX6 88 yX1_indexOf wsX1_indexOf) := goodIn_app (goodIn_of _ (by decide +kernel)) ggX6_edge_X1_indexOf
theorem dX6_edge_0 : decode cX6_edge 0 = .ok (.aload_n 0, 1) := by decide +kernel
theorem dX6_edge_1 : decode cX6_edge 1 = .ok (.iload_n 1, 1) := by decide +kernel
theorem dX6_edge_2 : decode cX6_edge 2 = .ok (.iload_n 2, 1) := by decide +kernel
theorem dX6_edge_3 : decode cX6_edge 3 = .ok (.invokevirtual 84, 3) := by decide +kernel
theorem dX6_edge_6 : decode cX6_edge 6 = .ok (.ifCond .ne 5, 3) := by decide +kernel
theorem dX6_edge_9 : decode cX6_edge 9 = .ok (.iconst (-1), 1) := by decide +kernel
theorem dX6_edge_10 : decode cX6_edge 10 = .ok (.ireturn, 1) := by decide +kernel
theorem dX6_edge_11 : decode cX6_edge 11 = .ok (.iconst 1, 1) := by decide +kernel
theorem dX6_edge_12 : decode cX6_edge 12 = .ok (.iload_n 1, 1) := by decide +kernel
theorem dX6_edge_13 : decode cX6_edge 13 = .ok (.iload_n 2, 1) := by decide +kernel
theorem dX6_edge_14 : decode cX6_edge 14 = .ok (.invokestatic 88, 3) := by decide +kernel
theorem dX6_edge_17 : decode cX6_edge 17 = .ok (.ishl, 1) := by decide +kernel
theorem dX6_edge_18 : decode cX6_edge 18 = .ok (.istore 4, 2) := by decide +kernel
theorem dX6_edge_20 : decode cX6_edge 20 = .ok (.iload_n 3, 1) := by decide +kernel
theorem dX6_edge_21 : decode cX6_edge 21 = .ok (.ifCond .eq 13, 3) := by decide +kernel
theorem dX6_edge_24 : decode cX6_edge 24 = .ok (.aload_n 0, 1) := by decide +kernel
theorem dX6_edge_25 : decode cX6_edge 25 = .ok (.getfield 66, 3) := by decide +kernel
theorem dX6_edge_28 : decode cX6_edge 28 = .ok (.iload 4, 2) := by decide +kernel
theorem dX6_edge_30 : decode cX6_edge 30 = .ok (.ior, 1) := by decide +kernel
theorem dX6_edge_31 : decode cX6_edge 31 = .ok (.goto 12, 3) := by decide +kernel
theorem dX6_edge_34 : decode cX6_edge 34 = .ok (.aload_n 0, 1) := by decide +kernel
theorem dX6_edge_35 : decode cX6_edge 35 = .ok (.getfield 66, 3) := by decide +kernel
theorem dX6_edge_38 : decode cX6_edge 38 = .ok (.iload 4, 2) := by decide +kernel
theorem dX6_edge_40 : decode cX6_edge 40 = .ok (.iconst (-1), 1) := by decide +kernel
theorem dX6_edge_41 : decode cX6_edge 41 = .ok (.ixor, 1) := by decide +kernel
theorem dX6_edge_42 : decode cX6_edge 42 = .ok (.iand, 1) := by decide +kernel
theorem dX6_edge_43 : decode cX6_edge 43 = .ok (.istore 5, 2) := by decide +kernel
theorem dX6_edge_45 : decode cX6_edge 45 = .ok (.iload 5, 2) := by decide +kernel
theorem dX6_edge_47 : decode cX6_edge 47 = .ok (.aload_n 0, 1) := by decide +kernel
theorem dX6_edge_48 : decode cX6_edge 48 = .ok (.getfield 66, 3) := by decide +kernel
theorem dX6_edge_51 : decode cX6_edge 51 = .ok (.if_icmp .ne 7, 3) := by decide +kernel
theorem dX6_edge_54 : decode cX6_edge 54 = .ok (.iconst 0, 1) := by decide +kernel
theorem dX6_edge_55 : decode cX6_edge 55 = .ok (.goto 4, 3) := by decide +kernel
theorem dX6_edge_58 : decode cX6_edge 58 = .ok (.iconst 1, 1) := by decide +kernel
theorem dX6_edge_59 : decode cX6_edge 59 = .ok (.istore 6, 2) := by decide +kernel
theorem dX6_edge_61 : decode cX6_edge 61 = .ok (.aload_n 0, 1) := by decide +kernel
theorem dX6_edge_62 : decode cX6_edge 62 = .ok (.iload 5, 2) := by decide +kernel
theorem dX6_edge_64 : decode cX6_edge 64 = .ok (.putfield 66, 3) := by decide +kernel
theorem dX6_edge_67 : decode cX6_edge 67 = .ok (.iload 6, 2) := by decide +kernel
theorem dX6_edge_69 : decode cX6_edge 69 = .ok (.ireturn, 1) := by decide +kernel
set_option maxRecDepth 20000 in
theorem ggX6_label_X6_isNode : GoodIn wsX6_label wsX6_isNode := goodIn_r _ [8, 9, 27, 28, 29, 30, 31, 32, 33, 34, 35, 36] (by decide +kernel) (by decide +kernel)
set_option maxRecDepth 20000 in
theorem gX6_label_X6_isNode : GoodIn wsX6_label (wsV RX6 92 RX6 yX6_isNode wsX6_isNode) := goodIn_app (goodIn_of _ (by decide +kernel)) ggX6_label_X6_isNode
set_option maxRecDepth 20000 in
theorem ggX6_label_X1_ofSameLabel : GoodIn wsX6_label wsX1_ofSameLabel := goodIn_r _ [14, 15, 16, 13, 17, 18, 19, 20] (by decide +kernel) (by decide +kernel)
set_option maxRecDepth 20000 in
theorem gX6_label_X1_ofSameLabel : GoodIn wsX6_label (wsV RX6 73 RX1 yX1_ofSameLabel wsX1_ofSameLabel) := goodIn_app (goodIn_of _ (by decide +kernel)) ggX6_label_X1_ofSameLabel
set_option maxRecDepth 20000 in
theorem ggX6_label_X3_setSameLabel : GoodIn wsX6_label wsX3_setSameLabel := goodIn_r _ [25, 26, 37, 38, 39, 40, 41] (by decide +kernel) (by decide +kernel)
set_option maxRecDepth 20000 in
theorem gX6_label_X3_setSameLabel : GoodIn wsX6_label (wsV RX6 77 RX3 yX3_setSameLabel wsX3_setSameLabel) := goodIn_app (goodIn_of _ (by decide +kernel)) ggX6_label_X3_setSameLabel
theorem dX6_label_0 : decode cX6_label 0 = .ok (.aload_n 0, 1) := by decide +kernel
theorem dX6_label_1 : decode cX6_label 1 = .ok (.iload_n 1, 1) := by decide +kernel
theorem dX6_label_2 : decode cX6_label 2 = .ok (.invokevirtual 92, 3) := by decide +kernel
theorem dX6_label_5 : decode cX6_label 5 = .ok (.ifCond .eq 12, 3) := by decide +kernel
theorem dX6_label_8 : decode cX6_label 8 = .ok (.iload_n 2, 1) := by decide +kernel
theorem dX6_label_9 : decode cX6_label 9 = .ok (.ifCond .lt 8, 3) := by decide +kernel
theorem dX6_label_12 : decode cX6_label 12 = .ok (.iload_n 2, 1) := by decide +kernel
theorem dX6_label_13 : decode cX6_label 13 = .ok (.iconst 3, 1) := by decide +kernel
theorem dX6_label_14 : decode cX6_label 14 = .ok (.if_icmp .lt 5, 3) := by decide +kernel
theorem dX6_label_17 : decode cX6_label 17 = .ok (.iconst (-1), 1) := by decide +kernel
theorem dX6_label_18 : decode cX6_label 18 = .ok (.ireturn, 1) := by decide +kernel
theorem dX6_label_19 : decode cX6_label 19 = .ok (.aload_n 0, 1) := by decide +kernel
theorem dX6_label_20 : decode cX6_label 20 = .ok (.getfield 55, 3) := by decide +kernel
theorem dX6_label_23 : decode cX6_label 23 = .ok (.iload_n 1, 1) := by decide +kernel
theorem dX6_label_24 : decode cX6_label 24 = .ok (.iaload, 1) := by decide +kernel
theorem dX6_label_25 : decode cX6_label 25 = .ok (.istore_n 3, 1) := by decide +kernel
theorem dX6_label_26 : decode cX6_label 26 = .ok (.aload_n 0, 1) := by decide +kernel
theorem dX6_label_27 : decode cX6_label 27 = .ok (.getfield 55, 3) := by decide +kernel
theorem dX6_label_30 : decode cX6_label 30 = .ok (.iload_n 1, 1) := by decide +kernel
theorem dX6_label_31 : decode cX6_label 31 = .ok (.iload_n 2, 1) := by decide +kernel
theorem dX6_label_32 : decode cX6_label 32 = .ok (.iastore, 1) := by decide +kernel
theorem dX6_label_33 : decode cX6_label 33 = .ok (.aload_n 0, 1) := by decide +kernel
theorem dX6_label_34 : decode cX6_label 34 = .ok (.getfield 21, 3) := by decide +kernel
theorem dX6_label_37 : decode cX6_label 37 = .ok (.aload_n 0, 1) := by decide +kernel
theorem dX6_label_38 : decode cX6_label 38 = .ok (.getfield 12, 3) := by decide +kernel
theorem dX6_label_41 : decode cX6_label 41 = .ok (.aload_n 0, 1) := by decide +kernel
theorem dX6_label_42 : decode cX6_label 42 = .ok (.getfield 55, 3) := by decide +kernel
theorem dX6_label_45 : decode cX6_label 45 = .ok (.invokevirtual 73, 3) := by decide +kernel
theorem dX6_label_48 : decode cX6_label 48 = .ok (.invokevirtual 77, 3) := by decide +kernel
theorem dX6_label_51 : decode cX6_label 51 = .ok (.iload_n 3, 1) := by decide +kernel
theorem dX6_label_52 : decode cX6_label 52 = .ok (.ireturn, 1) := by decide +kernel
set_option maxRecDepth 20000 in
theorem ggX6_chance_X5_setChance : GoodIn wsX6_chance wsX5_setChance := goodIn_r _ [6, 7, 8, 19, 20, 21, 22, 23, 24, 25, 26, 27, 28, 29, 30] (by decide +kernel) (by decide +kernel)
set_option maxRecDepth 20000 in
theorem gX6_chance_X5_setChance : GoodIn wsX6_chance (wsV RX6 96 RX5 yX5_setChance wsX5_setChance) := goodIn_app (goodIn_of _ (by decide +kernel)) ggX6_chance_X5_setChance
theorem dX6_chance_0 : decode cX6_chance 0 = .ok (.iload_n 2, 1) := by decide +kernel
theorem dX6_chance_1 : decode cX6_chance 1 = .ok (.iconst 1, 1) := by decide +kernel
theorem dX6_chance_2 : decode cX6_chance 2 = .ok (.if_icmp .lt 18, 3) := by decide +kernel
theorem dX6_chance_5 : decode cX6_chance 5 = .ok (.iload_n 2, 1) := by decide +kernel
theorem dX6_chance_6 : decode cX6_chance 6 = .ok (.bipush 10, 2) := by decide +kernel
theorem dX6_chance_8 : decode cX6_chance 8 = .ok (.if_icmp .gt 12, 3) := by decide +kernel
theorem dX6_chance_11 : decode cX6_chance 11 = .ok (.iload_n 1, 1) := by decide +kernel
theorem dX6_chance_12 : decode cX6_chance 12 = .ok (.ifCond .lt 8, 3) := by decide +kernel
theorem dX6_chance_15 : decode cX6_chance 15 = .ok (.iload_n 1, 1) := by decide +kernel
theorem dX6_chance_16 : decode cX6_chance 16 = .ok (.iload_n 2, 1) := by decide +kernel
theorem dX6_chance_17 : decode cX6_chance 17 = .ok (.if_icmp .le 5, 3) := by decide +kernel
theorem dX6_chance_20 : decode cX6_chance 20 = .ok (.iconst (-1), 1) := by decide +kernel
theorem dX6_chance_21 : decode cX6_chance 21 = .ok (.ireturn, 1) := by decide +kernel
theorem dX6_chance_22 : decode cX6_chance 22 = .ok (.aload_n 0, 1) := by decide +kernel
theorem dX6_chance_23 : decode cX6_chance 23 = .ok (.getfield 30, 3) := by decide +kernel
theorem dX6_chance_26 : decode cX6_chance 26 = .ok (.iload_n 1, 1) := by decide +kernel
theorem dX6_chance_27 : decode cX6_chance 27 = .ok (.iload_n 2, 1) := by decide +kernel
theorem dX6_chance_28 : decode cX6_chance 28 = .ok (.invokevirtual 96, 3) := by decide +kernel
theorem dX6_chance_31 : decode cX6_chance 31 = .ok (.iconst 1, 1) := by decide +kernel
theorem dX6_chance_32 : decode cX6_chance 32 = .ok (.ireturn, 1) := by decide +kernel
set_option maxRecDepth 20000 in
theorem ggX6_lean_X5_setLean : GoodIn wsX6_lean wsX5_setLean := goodIn_r _ [6, 7, 8, 19, 20, 21, 22, 23, 24, 25, 26, 27, 28, 29, 30] (by decide +kernel) (by decide +kernel)
set_option maxRecDepth 20000 in
theorem gX6_lean_X5_setLean : GoodIn wsX6_lean (wsV RX6 100 RX5 yX5_setLean wsX5_setLean) := goodIn_app (goodIn_of _ (by decide +kernel)) ggX6_lean_X5_setLean
theorem dX6_lean_0 : decode cX6_lean 0 = .ok (.iload_n 1, 1) := by decide +kernel
theorem dX6_lean_1 : decode cX6_lean 1 = .ok (.iconst 1, 1) := by decide +kernel
theorem dX6_lean_2 : decode cX6_lean 2 = .ok (.if_icmp .lt 18, 3) := by decide +kernel
theorem dX6_lean_5 : decode cX6_lean 5 = .ok (.iload_n 1, 1) := by decide +kernel
theorem dX6_lean_6 : decode cX6_lean 6 = .ok (.iconst 3, 1) := by decide +kernel
theorem dX6_lean_7 : decode cX6_lean 7 = .ok (.if_icmp .gt 13, 3) := by decide +kernel
theorem dX6_lean_10 : decode cX6_lean 10 = .ok (.iload_n 2, 1) := by decide +kernel
theorem dX6_lean_11 : decode cX6_lean 11 = .ok (.iconst 1, 1) := by decide +kernel
theorem dX6_lean_12 : decode cX6_lean 12 = .ok (.if_icmp .lt 8, 3) := by decide +kernel
theorem dX6_lean_15 : decode cX6_lean 15 = .ok (.iload_n 2, 1) := by decide +kernel
theorem dX6_lean_16 : decode cX6_lean 16 = .ok (.iconst 2, 1) := by decide +kernel
theorem dX6_lean_17 : decode cX6_lean 17 = .ok (.if_icmp .le 5, 3) := by decide +kernel
theorem dX6_lean_20 : decode cX6_lean 20 = .ok (.iconst (-1), 1) := by decide +kernel
theorem dX6_lean_21 : decode cX6_lean 21 = .ok (.ireturn, 1) := by decide +kernel
theorem dX6_lean_22 : decode cX6_lean 22 = .ok (.aload_n 0, 1) := by decide +kernel
theorem dX6_lean_23 : decode cX6_lean 23 = .ok (.getfield 30, 3) := by decide +kernel
theorem dX6_lean_26 : decode cX6_lean 26 = .ok (.iload_n 1, 1) := by decide +kernel
theorem dX6_lean_27 : decode cX6_lean 27 = .ok (.iload_n 2, 1) := by decide +kernel
theorem dX6_lean_28 : decode cX6_lean 28 = .ok (.invokevirtual 100, 3) := by decide +kernel
theorem dX6_lean_31 : decode cX6_lean 31 = .ok (.iconst 1, 1) := by decide +kernel
theorem dX6_lean_32 : decode cX6_lean 32 = .ok (.ireturn, 1) := by decide +kernel
theorem dX6_number_0 : decode cX6_number 0 = .ok (.aload_n 0, 1) := by decide +kernel
theorem dX6_number_1 : decode cX6_number 1 = .ok (.getfield 66, 3) := by decide +kernel
theorem dX6_number_4 : decode cX6_number 4 = .ok (.ireturn, 1) := by decide +kernel
set_option maxRecDepth 20000 in
theorem ggX6_become_X6_isGraph : GoodIn wsX6_become wsX6_isGraph := goodIn_r _ [6, 7, 8, 9, 10, 11, 12, 13, 14, 15, 16, 17] (by decide +kernel) (by decide +kernel)
set_option maxRecDepth 20000 in
theorem gX6_become_X6_isGraph : GoodIn wsX6_become (wsV RX6 103 RX6 yX6_isGraph wsX6_isGraph) := goodIn_app (goodIn_of _ (by decide +kernel)) ggX6_become_X6_isGraph
theorem dX6_become_0 : decode cX6_become 0 = .ok (.aload_n 0, 1) := by decide +kernel
theorem dX6_become_1 : decode cX6_become 1 = .ok (.iload_n 1, 1) := by decide +kernel
theorem dX6_become_2 : decode cX6_become 2 = .ok (.invokevirtual 103, 3) := by decide +kernel
theorem dX6_become_5 : decode cX6_become 5 = .ok (.ifCond .ne 5, 3) := by decide +kernel
theorem dX6_become_8 : decode cX6_become 8 = .ok (.iconst (-1), 1) := by decide +kernel
theorem dX6_become_9 : decode cX6_become 9 = .ok (.ireturn, 1) := by decide +kernel
theorem dX6_become_10 : decode cX6_become 10 = .ok (.aload_n 0, 1) := by decide +kernel
theorem dX6_become_11 : decode cX6_become 11 = .ok (.iload_n 1, 1) := by decide +kernel
theorem dX6_become_12 : decode cX6_become 12 = .ok (.putfield 66, 3) := by decide +kernel
theorem dX6_become_15 : decode cX6_become 15 = .ok (.iconst 1, 1) := by decide +kernel
theorem dX6_become_16 : decode cX6_become 16 = .ok (.ireturn, 1) := by decide +kernel
set_option maxRecDepth 20000 in
theorem ggX6_thing_X6_isThing : GoodIn wsX6_thing wsX6_isThing := goodIn_r _ [7] (by decide +kernel) (by decide +kernel)
set_option maxRecDepth 20000 in
theorem gX6_thing_X6_isThing : GoodIn wsX6_thing (va_wsS RX6 106 yX6_isThing wsX6_isThing) := goodIn_app (goodIn_of _ (by decide +kernel)) ggX6_thing_X6_isThing
set_option maxRecDepth 20000 in
theorem ggX6_thing_X3_measure : GoodIn wsX6_thing wsX3_measure := goodIn_r _ [12, 13, 14, 15, 11, 16, 17, 18, 19, 20, 21, 22, 23, 24, 25, 26, 27, 28, 29, 30, 31, 32, 33, 34, 35, 36, 37, 38, 39, 40, 41, 42, 43, 44, 45, 46, 47, 48, 49, 50, 51, 52, 53, 54, 55, 56, 57, 58, 59, 60, 61, 62, 63, 64, 75, 76, 77, 78, 79, 80, 81, 82] (by decide +kernel) (by decide +kernel)
set_option maxRecDepth 20000 in
theorem gX6_thing_X3_measure : GoodIn wsX6_thing (wsV RX6 109 RX3 yX3_measure wsX3_measure) := goodIn_app (goodIn_of _ (by decide +kernel)) ggX6_thing_X3_measure
theorem dX6_thing_0 : decode cX6_thing 0 = .ok (.iload_n 1, 1) := by decide +kernel
theorem dX6_thing_1 : decode cX6_thing 1 = .ok (.invokestatic 106, 3) := by decide +kernel
theorem dX6_thing_4 : decode cX6_thing 4 = .ok (.ifCond .ne 5, 3) := by decide +kernel
theorem dX6_thing_7 : decode cX6_thing 7 = .ok (.iconst (-1), 1) := by decide +kernel
theorem dX6_thing_8 : decode cX6_thing 8 = .ok (.ireturn, 1) := by decide +kernel
theorem dX6_thing_9 : decode cX6_thing 9 = .ok (.aload_n 0, 1) := by decide +kernel
theorem dX6_thing_10 : decode cX6_thing 10 = .ok (.getfield 21, 3) := by decide +kernel
theorem dX6_thing_13 : decode cX6_thing 13 = .ok (.iload_n 1, 1) := by decide +kernel
theorem dX6_thing_14 : decode cX6_thing 14 = .ok (.aload_n 0, 1) := by decide +kernel
theorem dX6_thing_15 : decode cX6_thing 15 = .ok (.getfield 66, 3) := by decide +kernel
theorem dX6_thing_18 : decode cX6_thing 18 = .ok (.aload_n 0, 1) := by decide +kernel
theorem dX6_thing_19 : decode cX6_thing 19 = .ok (.getfield 59, 3) := by decide +kernel
theorem dX6_thing_22 : decode cX6_thing 22 = .ok (.invokevirtual 109, 3) := by decide +kernel
theorem dX6_thing_25 : decode cX6_thing 25 = .ok (.ireturn, 1) := by decide +kernel
set_option maxRecDepth 20000 in
theorem ggX6_many_X6_isModel : GoodIn wsX6_many wsX6_isModel := goodIn_r _ [8] (by decide +kernel) (by decide +kernel)
set_option maxRecDepth 20000 in
theorem gX6_many_X6_isModel : GoodIn wsX6_many (va_wsS RX6 113 yX6_isModel wsX6_isModel) := goodIn_app (goodIn_of _ (by decide +kernel)) ggX6_many_X6_isModel
set_option maxRecDepth 20000 in
theorem ggX6_many_X5_prepare : GoodIn wsX6_many wsX5_prepare := goodIn_r _ [13, 14, 15, 16, 17, 18, 19, 20, 21, 22, 23, 24, 25, 26, 27, 28, 29, 30, 31, 32, 33, 12, 34, 35, 36, 37, 38, 39, 40, 41, 42, 43, 44, 45, 46, 47, 48, 49, 50, 51, 52, 53, 54, 55, 56, 57, 58, 59, 60, 61, 62, 63, 64, 65, 66, 67, 68, 69, 70, 71, 72, 138, 139, 140, 141, 142, 143, 144, 145, 146, 147, 148, 149, 150, 151, 152, 153, 154, 155, 156, 157] (by decide +kernel) (by decide +kernel)
set_option maxRecDepth 20000 in
theorem gX6_many_X5_prepare : GoodIn wsX6_many (wsV RX6 116 RX5 yX5_prepare wsX5_prepare) := goodIn_app (goodIn_of _ (by decide +kernel)) ggX6_many_X5_prepare
set_option maxRecDepth 20000 in
theorem ggX6_many_X5_of : GoodIn wsX6_many wsX5_of := goodIn_r _ [76, 21, 22, 26, 20, 14, 41, 42, 43, 44, 45, 46, 47, 54, 55, 56, 12, 57, 23, 77, 78, 79, 61, 80, 70, 71, 72, 81, 82, 83, 84, 63, 85, 86, 87, 88, 89, 90, 91, 92, 93, 18, 94, 95, 96, 97, 98, 29, 99, 100, 101, 49, 50, 51, 52, 53, 102, 103, 104, 105, 106, 107, 108, 109, 110, 111, 112, 113, 114, 115, 116, 117, 118, 119, 120, 121, 122, 123, 124, 125, 126, 127, 25, 24, 48, 138, 139, 140, 141, 142, 143, 144, 145, 146, 147, 148, 149, 153, 154, 155, 156, 157, 150, 151, 152] (by decide +kernel) (by decide +kernel)
set_option maxRecDepth 20000 in
theorem gX6_many_X5_of : GoodIn wsX6_many (wsV RX6 120 RX5 yX5_of wsX5_of) := goodIn_app (goodIn_of _ (by decide +kernel)) ggX6_many_X5_of
theorem dX6_many_0 : decode cX6_many 0 = .ok (.iload_n 1, 1) := by decide +kernel
theorem dX6_many_1 : decode cX6_many 1 = .ok (.invokestatic 113, 3) := by decide +kernel
theorem dX6_many_4 : decode cX6_many 4 = .ok (.ifCond .ne 5, 3) := by decide +kernel
theorem dX6_many_7 : decode cX6_many 7 = .ok (.iconst (-1), 1) := by decide +kernel
theorem dX6_many_8 : decode cX6_many 8 = .ok (.ireturn, 1) := by decide +kernel
theorem dX6_many_9 : decode cX6_many 9 = .ok (.aload_n 0, 1) := by decide +kernel
theorem dX6_many_10 : decode cX6_many 10 = .ok (.getfield 30, 3) := by decide +kernel
theorem dX6_many_13 : decode cX6_many 13 = .ok (.iload_n 1, 1) := by decide +kernel
theorem dX6_many_14 : decode cX6_many 14 = .ok (.aload_n 0, 1) := by decide +kernel
theorem dX6_many_15 : decode cX6_many 15 = .ok (.getfield 66, 3) := by decide +kernel
theorem dX6_many_18 : decode cX6_many 18 = .ok (.aload_n 0, 1) := by decide +kernel
theorem dX6_many_19 : decode cX6_many 19 = .ok (.getfield 59, 3) := by decide +kernel
theorem dX6_many_22 : decode cX6_many 22 = .ok (.invokevirtual 116, 3) := by decide +kernel
theorem dX6_many_25 : decode cX6_many 25 = .ok (.iconst 0, 1) := by decide +kernel
theorem dX6_many_26 : decode cX6_many 26 = .ok (.istore_n 2, 1) := by decide +kernel
theorem dX6_many_27 : decode cX6_many 27 = .ok (.iconst 0, 1) := by decide +kernel
theorem dX6_many_28 : decode cX6_many 28 = .ok (.istore_n 3, 1) := by decide +kernel
theorem dX6_many_29 : decode cX6_many 29 = .ok (.iload_n 3, 1) := by decide +kernel
theorem dX6_many_30 : decode cX6_many 30 = .ok (.aload_n 0, 1) := by decide +kernel
theorem dX6_many_31 : decode cX6_many 31 = .ok (.getfield 63, 3) := by decide +kernel
theorem dX6_many_34 : decode cX6_many 34 = .ok (.if_icmp .ge 25, 3) := by decide +kernel
theorem dX6_many_37 : decode cX6_many 37 = .ok (.aload_n 0, 1) := by decide +kernel
theorem dX6_many_38 : decode cX6_many 38 = .ok (.getfield 30, 3) := by decide +kernel
theorem dX6_many_41 : decode cX6_many 41 = .ok (.iload_n 3, 1) := by decide +kernel
theorem dX6_many_42 : decode cX6_many 42 = .ok (.invokevirtual 120, 3) := by decide +kernel
theorem dX6_many_45 : decode cX6_many 45 = .ok (.lconst 0, 1) := by decide +kernel
theorem dX6_many_46 : decode cX6_many 46 = .ok (.lcmp, 1) := by decide +kernel
theorem dX6_many_47 : decode cX6_many 47 = .ok (.ifCond .le 6, 3) := by decide +kernel
theorem dX6_many_50 : decode cX6_many 50 = .ok (.iinc 2 1, 3) := by decide +kernel
theorem dX6_many_53 : decode cX6_many 53 = .ok (.iinc 3 1, 3) := by decide +kernel
theorem dX6_many_56 : decode cX6_many 56 = .ok (.goto (-27), 3) := by decide +kernel
theorem dX6_many_59 : decode cX6_many 59 = .ok (.iload_n 2, 1) := by decide +kernel
theorem dX6_many_60 : decode cX6_many 60 = .ok (.ireturn, 1) := by decide +kernel
set_option maxRecDepth 20000 in
theorem ggX6_total_X6_isModel : GoodIn wsX6_total wsX6_isModel := goodIn_r _ [8] (by decide +kernel) (by decide +kernel)
