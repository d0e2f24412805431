theorem dX0_init_0 : decode cX0_init 0 = .ok (.aload_n 0, 1) := by decide +kernel
theorem dX0_init_1 : decode cX0_init 1 = .ok (.invokespecial 1, 3) := by decide +kernel
theorem dX0_init_4 : decode cX0_init 4 = .ok (.return_, 1) := by decide +kernel
theorem dX0_setState_0 : decode cX0_setState 0 = .ok (.aload_n 0, 1) := by decide +kernel
theorem dX0_setState_1 : decode cX0_setState 1 = .ok (.lload_n 1, 1) := by decide +kernel
theorem dX0_setState_2 : decode cX0_setState 2 = .ok (.putfield 7, 3) := by decide +kernel
theorem dX0_setState_5 : decode cX0_setState 5 = .ok (.return_, 1) := by decide +kernel
theorem dX0_below_0 : decode cX0_below 0 = .ok (.lload_n 1, 1) := by decide +kernel
theorem dX0_below_1 : decode cX0_below 1 = .ok (.lconst 1, 1) := by decide +kernel
theorem dX0_below_2 : decode cX0_below 2 = .ok (.lcmp, 1) := by decide +kernel
theorem dX0_below_3 : decode cX0_below 3 = .ok (.ifCond .ge 5, 3) := by decide +kernel
theorem dX0_below_6 : decode cX0_below 6 = .ok (.lconst 0, 1) := by decide +kernel
theorem dX0_below_7 : decode cX0_below 7 = .ok (.lreturn, 1) := by decide +kernel
theorem dX0_below_8 : decode cX0_below 8 = .ok (.ldc2_w 13, 3) := by decide +kernel
theorem dX0_below_11 : decode cX0_below 11 = .ok (.ldc2_w 13, 3) := by decide +kernel
theorem dX0_below_14 : decode cX0_below 14 = .ok (.lload_n 1, 1) := by decide +kernel
theorem dX0_below_15 : decode cX0_below 15 = .ok (.lrem, 1) := by decide +kernel
theorem dX0_below_16 : decode cX0_below 16 = .ok (.lsub, 1) := by decide +kernel
theorem dX0_below_17 : decode cX0_below 17 = .ok (.lstore_n 3, 1) := by decide +kernel
theorem dX0_below_18 : decode cX0_below 18 = .ok (.lconst 0, 1) := by decide +kernel
theorem dX0_below_19 : decode cX0_below 19 = .ok (.lstore 5, 2) := by decide +kernel
theorem dX0_below_21 : decode cX0_below 21 = .ok (.iconst 0, 1) := by decide +kernel
theorem dX0_below_22 : decode cX0_below 22 = .ok (.istore 7, 2) := by decide +kernel
theorem dX0_below_24 : decode cX0_below 24 = .ok (.iload 7, 2) := by decide +kernel
theorem dX0_below_26 : decode cX0_below 26 = .ok (.ldc 15, 2) := by decide +kernel
theorem dX0_below_28 : decode cX0_below 28 = .ok (.if_icmp .ge 43, 3) := by decide +kernel
theorem dX0_below_31 : decode cX0_below 31 = .ok (.aload_n 0, 1) := by decide +kernel
theorem dX0_below_32 : decode cX0_below 32 = .ok (.aload_n 0, 1) := by decide +kernel
theorem dX0_below_33 : decode cX0_below 33 = .ok (.getfield 7, 3) := by decide +kernel
theorem dX0_below_36 : decode cX0_below 36 = .ok (.ldc2_w 16, 3) := by decide +kernel
theorem dX0_below_39 : decode cX0_below 39 = .ok (.lmul, 1) := by decide +kernel
theorem dX0_below_40 : decode cX0_below 40 = .ok (.ldc2_w 18, 3) := by decide +kernel
theorem dX0_below_43 : decode cX0_below 43 = .ok (.ladd, 1) := by decide +kernel
theorem dX0_below_44 : decode cX0_below 44 = .ok (.putfield 7, 3) := by decide +kernel
theorem dX0_below_47 : decode cX0_below 47 = .ok (.aload_n 0, 1) := by decide +kernel
theorem dX0_below_48 : decode cX0_below 48 = .ok (.getfield 7, 3) := by decide +kernel
theorem dX0_below_51 : decode cX0_below 51 = .ok (.iconst 1, 1) := by decide +kernel
theorem dX0_below_52 : decode cX0_below 52 = .ok (.lushr, 1) := by decide +kernel
theorem dX0_below_53 : decode cX0_below 53 = .ok (.lstore 5, 2) := by decide +kernel
theorem dX0_below_55 : decode cX0_below 55 = .ok (.lload 5, 2) := by decide +kernel
theorem dX0_below_57 : decode cX0_below 57 = .ok (.lload_n 3, 1) := by decide +kernel
theorem dX0_below_58 : decode cX0_below 58 = .ok (.lcmp, 1) := by decide +kernel
theorem dX0_below_59 : decode cX0_below 59 = .ok (.ifCond .ge 6, 3) := by decide +kernel
theorem dX0_below_62 : decode cX0_below 62 = .ok (.goto 9, 3) := by decide +kernel
theorem dX0_below_65 : decode cX0_below 65 = .ok (.iinc 7 1, 3) := by decide +kernel
theorem dX0_below_68 : decode cX0_below 68 = .ok (.goto (-44), 3) := by decide +kernel
theorem dX0_below_71 : decode cX0_below 71 = .ok (.lload 5, 2) := by decide +kernel
theorem dX0_below_73 : decode cX0_below 73 = .ok (.lload_n 1, 1) := by decide +kernel
theorem dX0_below_74 : decode cX0_below 74 = .ok (.lrem, 1) := by decide +kernel
theorem dX0_below_75 : decode cX0_below 75 = .ok (.lreturn, 1) := by decide +kernel
set_option maxRecDepth 20000 in
theorem ggX1_init_X1_indexOf : GoodIn wsX1_init wsX1_indexOf := goodIn_r _ [11, 12, 13, 10, 14] (by decide +kernel) (by decide +kernel)
set_option maxRecDepth 20000 in
theorem gX1_init_X1_indexOf : GoodIn wsX1_init (va_wsS RX1 21 yX1_indexOf wsX1_indexOf) := goodIn_app (goodIn_of _ (by decide +kernel)) ggX1_init_X1_indexOf
theorem dX1_init_0 : decode cX1_init 0 = .ok (.aload_n 0, 1) := by decide +kernel
theorem dX1_init_1 : decode cX1_init 1 = .ok (.invokespecial 3, 3) := by decide +kernel
theorem dX1_init_4 : decode cX1_init 4 = .ok (.aload_n 0, 1) := by decide +kernel
theorem dX1_init_5 : decode cX1_init 5 = .ok (.bipush 15, 2) := by decide +kernel
theorem dX1_init_7 : decode cX1_init 7 = .ok (.newarray .int, 2) := by decide +kernel
theorem dX1_init_9 : decode cX1_init 9 = .ok (.putfield 9, 3) := by decide +kernel
theorem dX1_init_12 : decode cX1_init 12 = .ok (.aload_n 0, 1) := by decide +kernel
theorem dX1_init_13 : decode cX1_init 13 = .ok (.bipush 15, 2) := by decide +kernel
theorem dX1_init_15 : decode cX1_init 15 = .ok (.newarray .int, 2) := by decide +kernel
theorem dX1_init_17 : decode cX1_init 17 = .ok (.putfield 15, 3) := by decide +kernel
theorem dX1_init_20 : decode cX1_init 20 = .ok (.aload_n 0, 1) := by decide +kernel
theorem dX1_init_21 : decode cX1_init 21 = .ok (.bipush 6, 2) := by decide +kernel
theorem dX1_init_23 : decode cX1_init 23 = .ok (.newarray .int, 2) := by decide +kernel
theorem dX1_init_25 : decode cX1_init 25 = .ok (.putfield 18, 3) := by decide +kernel
theorem dX1_init_28 : decode cX1_init 28 = .ok (.iconst 1, 1) := by decide +kernel
theorem dX1_init_29 : decode cX1_init 29 = .ok (.istore_n 1, 1) := by decide +kernel
theorem dX1_init_30 : decode cX1_init 30 = .ok (.iload_n 1, 1) := by decide +kernel
theorem dX1_init_31 : decode cX1_init 31 = .ok (.bipush 6, 2) := by decide +kernel
theorem dX1_init_33 : decode cX1_init 33 = .ok (.if_icmp .ge 66, 3) := by decide +kernel
theorem dX1_init_36 : decode cX1_init 36 = .ok (.iconst 0, 1) := by decide +kernel
theorem dX1_init_37 : decode cX1_init 37 = .ok (.istore_n 2, 1) := by decide +kernel
theorem dX1_init_38 : decode cX1_init 38 = .ok (.iload_n 2, 1) := by decide +kernel
theorem dX1_init_39 : decode cX1_init 39 = .ok (.iload_n 1, 1) := by decide +kernel
theorem dX1_init_40 : decode cX1_init 40 = .ok (.if_icmp .ge 53, 3) := by decide +kernel
theorem dX1_init_43 : decode cX1_init 43 = .ok (.iload_n 2, 1) := by decide +kernel
theorem dX1_init_44 : decode cX1_init 44 = .ok (.iload_n 1, 1) := by decide +kernel
theorem dX1_init_45 : decode cX1_init 45 = .ok (.invokestatic 21, 3) := by decide +kernel
theorem dX1_init_48 : decode cX1_init 48 = .ok (.istore_n 3, 1) := by decide +kernel
theorem dX1_init_49 : decode cX1_init 49 = .ok (.aload_n 0, 1) := by decide +kernel
theorem dX1_init_50 : decode cX1_init 50 = .ok (.getfield 9, 3) := by decide +kernel
theorem dX1_init_53 : decode cX1_init 53 = .ok (.iload_n 3, 1) := by decide +kernel
theorem dX1_init_54 : decode cX1_init 54 = .ok (.iload_n 2, 1) := by decide +kernel
theorem dX1_init_55 : decode cX1_init 55 = .ok (.iastore, 1) := by decide +kernel
theorem dX1_init_56 : decode cX1_init 56 = .ok (.aload_n 0, 1) := by decide +kernel
theorem dX1_init_57 : decode cX1_init 57 = .ok (.getfield 15, 3) := by decide +kernel
theorem dX1_init_60 : decode cX1_init 60 = .ok (.iload_n 3, 1) := by decide +kernel
theorem dX1_init_61 : decode cX1_init 61 = .ok (.iload_n 1, 1) := by decide +kernel
theorem dX1_init_62 : decode cX1_init 62 = .ok (.iastore, 1) := by decide +kernel
theorem dX1_init_63 : decode cX1_init 63 = .ok (.aload_n 0, 1) := by decide +kernel
theorem dX1_init_64 : decode cX1_init 64 = .ok (.getfield 18, 3) := by decide +kernel
theorem dX1_init_67 : decode cX1_init 67 = .ok (.iload_n 2, 1) := by decide +kernel
theorem dX1_init_68 : decode cX1_init 68 = .ok (.dup2, 1) := by decide +kernel
theorem dX1_init_69 : decode cX1_init 69 = .ok (.iaload, 1) := by decide +kernel
theorem dX1_init_70 : decode cX1_init 70 = .ok (.iconst 1, 1) := by decide +kernel
theorem dX1_init_71 : decode cX1_init 71 = .ok (.iload_n 3, 1) := by decide +kernel
theorem dX1_init_72 : decode cX1_init 72 = .ok (.ishl, 1) := by decide +kernel
theorem dX1_init_73 : decode cX1_init 73 = .ok (.ior, 1) := by decide +kernel
theorem dX1_init_74 : decode cX1_init 74 = .ok (.iastore, 1) := by decide +kernel
theorem dX1_init_75 : decode cX1_init 75 = .ok (.aload_n 0, 1) := by decide +kernel
theorem dX1_init_76 : decode cX1_init 76 = .ok (.getfield 18, 3) := by decide +kernel
theorem dX1_init_79 : decode cX1_init 79 = .ok (.iload_n 1, 1) := by decide +kernel
theorem dX1_init_80 : decode cX1_init 80 = .ok (.dup2, 1) := by decide +kernel
theorem dX1_init_81 : decode cX1_init 81 = .ok (.iaload, 1) := by decide +kernel
theorem dX1_init_82 : decode cX1_init 82 = .ok (.iconst 1, 1) := by decide +kernel
theorem dX1_init_83 : decode cX1_init 83 = .ok (.iload_n 3, 1) := by decide +kernel
theorem dX1_init_84 : decode cX1_init 84 = .ok (.ishl, 1) := by decide +kernel
theorem dX1_init_85 : decode cX1_init 85 = .ok (.ior, 1) := by decide +kernel
theorem dX1_init_86 : decode cX1_init 86 = .ok (.iastore, 1) := by decide +kernel
theorem dX1_init_87 : decode cX1_init 87 = .ok (.iinc 2 1, 3) := by decide +kernel
theorem dX1_init_90 : decode cX1_init 90 = .ok (.goto (-52), 3) := by decide +kernel
theorem dX1_init_93 : decode cX1_init 93 = .ok (.iinc 1 1, 3) := by decide +kernel
theorem dX1_init_96 : decode cX1_init 96 = .ok (.goto (-66), 3) := by decide +kernel
theorem dX1_init_99 : decode cX1_init 99 = .ok (.return_, 1) := by decide +kernel
theorem dX1_among_0 : decode cX1_among 0 = .ok (.iload_n 0, 1) := by decide +kernel
theorem dX1_among_1 : decode cX1_among 1 = .ok (.iload_n 0, 1) := by decide +kernel
theorem dX1_among_2 : decode cX1_among 2 = .ok (.iconst 1, 1) := by decide +kernel
theorem dX1_among_3 : decode cX1_among 3 = .ok (.isub, 1) := by decide +kernel
theorem dX1_among_4 : decode cX1_among 4 = .ok (.imul, 1) := by decide +kernel
theorem dX1_among_5 : decode cX1_among 5 = .ok (.iconst 2, 1) := by decide +kernel
theorem dX1_among_6 : decode cX1_among 6 = .ok (.idiv, 1) := by decide +kernel
theorem dX1_among_7 : decode cX1_among 7 = .ok (.ireturn, 1) := by decide +kernel
set_option maxRecDepth 20000 in
theorem ggX1_indexOf_X1_among : GoodIn wsX1_indexOf wsX1_among := goodIn_r _ [4] (by decide +kernel) (by decide +kernel)
set_option maxRecDepth 20000 in
theorem gX1_indexOf_X1_among : GoodIn wsX1_indexOf (va_wsS RX1 25 yX1_among wsX1_among) := goodIn_app (goodIn_of _ (by decide +kernel)) ggX1_indexOf_X1_among
theorem dX1_indexOf_0 : decode cX1_indexOf 0 = .ok (.iload_n 0, 1) := by decide +kernel
theorem dX1_indexOf_1 : decode cX1_indexOf 1 = .ok (.iload_n 1, 1) := by decide +kernel
theorem dX1_indexOf_2 : decode cX1_indexOf 2 = .ok (.if_icmp .ge 12, 3) := by decide +kernel
theorem dX1_indexOf_5 : decode cX1_indexOf 5 = .ok (.iload_n 1, 1) := by decide +kernel
theorem dX1_indexOf_6 : decode cX1_indexOf 6 = .ok (.invokestatic 25, 3) := by decide +kernel
theorem dX1_indexOf_9 : decode cX1_indexOf 9 = .ok (.iload_n 0, 1) := by decide +kernel
theorem dX1_indexOf_10 : decode cX1_indexOf 10 = .ok (.iadd, 1) := by decide +kernel
theorem dX1_indexOf_11 : decode cX1_indexOf 11 = .ok (.goto 9, 3) := by decide +kernel
theorem dX1_indexOf_14 : decode cX1_indexOf 14 = .ok (.iload_n 0, 1) := by decide +kernel
theorem dX1_indexOf_15 : decode cX1_indexOf 15 = .ok (.invokestatic 25, 3) := by decide +kernel
theorem dX1_indexOf_18 : decode cX1_indexOf 18 = .ok (.iload_n 1, 1) := by decide +kernel
theorem dX1_indexOf_19 : decode cX1_indexOf 19 = .ok (.iadd, 1) := by decide +kernel
theorem dX1_indexOf_20 : decode cX1_indexOf 20 = .ok (.ireturn, 1) := by decide +kernel
theorem dX1_low_0 : decode cX1_low 0 = .ok (.iload_n 1, 1) := by decide +kernel
theorem dX1_low_1 : decode cX1_low 1 = .ok (.ifCond .lt 18, 3) := by decide +kernel
theorem dX1_low_4 : decode cX1_low 4 = .ok (.iload_n 1, 1) := by decide +kernel
theorem dX1_low_5 : decode cX1_low 5 = .ok (.bipush 15, 2) := by decide +kernel
theorem dX1_low_7 : decode cX1_low 7 = .ok (.if_icmp .ge 12, 3) := by decide +kernel
theorem dX1_low_10 : decode cX1_low 10 = .ok (.aload_n 0, 1) := by decide +kernel
theorem dX1_low_11 : decode cX1_low 11 = .ok (.getfield 9, 3) := by decide +kernel
theorem dX1_low_14 : decode cX1_low 14 = .ok (.iload_n 1, 1) := by decide +kernel
theorem dX1_low_15 : decode cX1_low 15 = .ok (.iaload, 1) := by decide +kernel
theorem dX1_low_16 : decode cX1_low 16 = .ok (.goto 4, 3) := by decide +kernel
theorem dX1_low_19 : decode cX1_low 19 = .ok (.iconst 0, 1) := by decide +kernel
theorem dX1_low_20 : decode cX1_low 20 = .ok (.ireturn, 1) := by decide +kernel
theorem dX1_high_0 : decode cX1_high 0 = .ok (.iload_n 1, 1) := by decide +kernel
theorem dX1_high_1 : decode cX1_high 1 = .ok (.ifCond .lt 18, 3) := by decide +kernel
theorem dX1_high_4 : decode cX1_high 4 = .ok (.iload_n 1, 1) := by decide +kernel
theorem dX1_high_5 : decode cX1_high 5 = .ok (.bipush 15, 2) := by decide +kernel
theorem dX1_high_7 : decode cX1_high 7 = .ok (.if_icmp .ge 12, 3) := by decide +kernel
theorem dX1_high_10 : decode cX1_high 10 = .ok (.aload_n 0, 1) := by decide +kernel
theorem dX1_high_11 : decode cX1_high 11 = .ok (.getfield 15, 3) := by decide +kernel
theorem dX1_high_14 : decode cX1_high 14 = .ok (.iload_n 1, 1) := by decide +kernel
theorem dX1_high_15 : decode cX1_high 15 = .ok (.iaload, 1) := by decide +kernel
theorem dX1_high_16 : decode cX1_high 16 = .ok (.goto 4, 3) := by decide +kernel
theorem dX1_high_19 : decode cX1_high 19 = .ok (.iconst 1, 1) := by decide +kernel
theorem dX1_high_20 : decode cX1_high 20 = .ok (.ireturn, 1) := by decide +kernel
set_option maxRecDepth 20000 in
theorem ggX1_degree_J6_bitCount_0f7a4 : GoodIn wsX1_degree wsJ6_bitCount_0f7a4 := goodIn_r _ [5, 6, 7, 8] (by decide +kernel) (by decide +kernel)
set_option maxRecDepth 20000 in
theorem gX1_degree_J6_bitCount_0f7a4 : GoodIn wsX1_degree (va_wsS RX1 29 yJ6_bitCount_0f7a4 wsJ6_bitCount_0f7a4) := goodIn_app (goodIn_of _ (by decide +kernel)) ggX1_degree_J6_bitCount_0f7a4
theorem dX1_degree_0 : decode cX1_degree 0 = .ok (.iload_n 2, 1) := by decide +kernel
theorem dX1_degree_1 : decode cX1_degree 1 = .ok (.ifCond .lt 23, 3) := by decide +kernel
theorem dX1_degree_4 : decode cX1_degree 4 = .ok (.iload_n 2, 1) := by decide +kernel
theorem dX1_degree_5 : decode cX1_degree 5 = .ok (.bipush 6, 2) := by decide +kernel
theorem dX1_degree_7 : decode cX1_degree 7 = .ok (.if_icmp .ge 17, 3) := by decide +kernel
theorem dX1_degree_10 : decode cX1_degree 10 = .ok (.iload_n 1, 1) := by decide +kernel
theorem dX1_degree_11 : decode cX1_degree 11 = .ok (.aload_n 0, 1) := by decide +kernel
theorem dX1_degree_12 : decode cX1_degree 12 = .ok (.getfield 18, 3) := by decide +kernel
theorem dX1_degree_15 : decode cX1_degree 15 = .ok (.iload_n 2, 1) := by decide +kernel
theorem dX1_degree_16 : decode cX1_degree 16 = .ok (.iaload, 1) := by decide +kernel
theorem dX1_degree_17 : decode cX1_degree 17 = .ok (.iand, 1) := by decide +kernel
theorem dX1_degree_18 : decode cX1_degree 18 = .ok (.invokestatic 29, 3) := by decide +kernel
theorem dX1_degree_21 : decode cX1_degree 21 = .ok (.goto 4, 3) := by decide +kernel
theorem dX1_degree_24 : decode cX1_degree 24 = .ok (.iconst 0, 1) := by decide +kernel
theorem dX1_degree_25 : decode cX1_degree 25 = .ok (.ireturn, 1) := by decide +kernel
set_option maxRecDepth 20000 in
theorem ggX1_ofSameLabel_X1_indexOf : GoodIn wsX1_ofSameLabel wsX1_indexOf := goodIn_r _ [4, 5, 6, 3, 7] (by decide +kernel) (by decide +kernel)
set_option maxRecDepth 20000 in
theorem gX1_ofSameLabel_X1_indexOf : GoodIn wsX1_ofSameLabel (va_wsS RX1 21 yX1_indexOf wsX1_indexOf) := goodIn_app (goodIn_of _ (by decide +kernel)) ggX1_ofSameLabel_X1_indexOf
theorem dX1_ofSameLabel_0 : decode cX1_ofSameLabel 0 = .ok (.iconst 0, 1) := by decide +kernel
theorem dX1_ofSameLabel_1 : decode cX1_ofSameLabel 1 = .ok (.istore_n 2, 1) := by decide +kernel
theorem dX1_ofSameLabel_2 : decode cX1_ofSameLabel 2 = .ok (.iconst 1, 1) := by decide +kernel
theorem dX1_ofSameLabel_3 : decode cX1_ofSameLabel 3 = .ok (.istore_n 3, 1) := by decide +kernel
theorem dX1_ofSameLabel_4 : decode cX1_ofSameLabel 4 = .ok (.iload_n 3, 1) := by decide +kernel
theorem dX1_ofSameLabel_5 : decode cX1_ofSameLabel 5 = .ok (.aload_n 1, 1) := by decide +kernel
theorem dX1_ofSameLabel_6 : decode cX1_ofSameLabel 6 = .ok (.arraylength, 1) := by decide +kernel
theorem dX1_ofSameLabel_7 : decode cX1_ofSameLabel 7 = .ok (.if_icmp .ge 45, 3) := by decide +kernel
theorem dX1_ofSameLabel_10 : decode cX1_ofSameLabel 10 = .ok (.iconst 0, 1) := by decide +kernel
theorem dX1_ofSameLabel_11 : decode cX1_ofSameLabel 11 = .ok (.istore 4, 2) := by decide +kernel
theorem dX1_ofSameLabel_13 : decode cX1_ofSameLabel 13 = .ok (.iload 4, 2) := by decide +kernel
theorem dX1_ofSameLabel_15 : decode cX1_ofSameLabel 15 = .ok (.iload_n 3, 1) := by decide +kernel
theorem dX1_ofSameLabel_16 : decode cX1_ofSameLabel 16 = .ok (.if_icmp .ge 30, 3) := by decide +kernel
theorem dX1_ofSameLabel_19 : decode cX1_ofSameLabel 19 = .ok (.aload_n 1, 1) := by decide +kernel
theorem dX1_ofSameLabel_20 : decode cX1_ofSameLabel 20 = .ok (.iload 4, 2) := by decide +kernel
theorem dX1_ofSameLabel_22 : decode cX1_ofSameLabel 22 = .ok (.iaload, 1) := by decide +kernel
theorem dX1_ofSameLabel_23 : decode cX1_ofSameLabel 23 = .ok (.aload_n 1, 1) := by decide +kernel
theorem dX1_ofSameLabel_24 : decode cX1_ofSameLabel 24 = .ok (.iload_n 3, 1) := by decide +kernel
theorem dX1_ofSameLabel_25 : decode cX1_ofSameLabel 25 = .ok (.iaload, 1) := by decide +kernel
theorem dX1_ofSameLabel_26 : decode cX1_ofSameLabel 26 = .ok (.if_icmp .ne 14, 3) := by decide +kernel
theorem dX1_ofSameLabel_29 : decode cX1_ofSameLabel 29 = .ok (.iload_n 2, 1) := by decide +kernel
theorem dX1_ofSameLabel_30 : decode cX1_ofSameLabel 30 = .ok (.iconst 1, 1) := by decide +kernel
theorem dX1_ofSameLabel_31 : decode cX1_ofSameLabel 31 = .ok (.iload 4, 2) := by decide +kernel
theorem dX1_ofSameLabel_33 : decode cX1_ofSameLabel 33 = .ok (.iload_n 3, 1) := by decide +kernel
theorem dX1_ofSameLabel_34 : decode cX1_ofSameLabel 34 = .ok (.invokestatic 21, 3) := by decide +kernel
theorem dX1_ofSameLabel_37 : decode cX1_ofSameLabel 37 = .ok (.ishl, 1) := by decide +kernel
theorem dX1_ofSameLabel_38 : decode cX1_ofSameLabel 38 = .ok (.ior, 1) := by decide +kernel
theorem dX1_ofSameLabel_39 : decode cX1_ofSameLabel 39 = .ok (.istore_n 2, 1) := by decide +kernel
theorem dX1_ofSameLabel_40 : decode cX1_ofSameLabel 40 = .ok (.iinc 4 1, 3) := by decide +kernel
theorem dX1_ofSameLabel_43 : decode cX1_ofSameLabel 43 = .ok (.goto (-30), 3) := by decide +kernel
theorem dX1_ofSameLabel_46 : decode cX1_ofSameLabel 46 = .ok (.iinc 3 1, 3) := by decide +kernel
theorem dX1_ofSameLabel_49 : decode cX1_ofSameLabel 49 = .ok (.goto (-45), 3) := by decide +kernel
theorem dX1_ofSameLabel_52 : decode cX1_ofSameLabel 52 = .ok (.iload_n 2, 1) := by decide +kernel
theorem dX1_ofSameLabel_53 : decode cX1_ofSameLabel 53 = .ok (.ireturn, 1) := by decide +kernel
theorem dX1_hangTogether_0 : decode cX1_hangTogether 0 = .ok (.iconst 1, 1) := by decide +kernel
theorem dX1_hangTogether_1 : decode cX1_hangTogether 1 = .ok (.iload_n 2, 1) := by decide +kernel
theorem dX1_hangTogether_2 : decode cX1_hangTogether 2 = .ok (.ishl, 1) := by decide +kernel
theorem dX1_hangTogether_3 : decode cX1_hangTogether 3 = .ok (.istore 4, 2) := by decide +kernel
theorem dX1_hangTogether_5 : decode cX1_hangTogether 5 = .ok (.iconst 0, 1) := by decide +kernel
theorem dX1_hangTogether_6 : decode cX1_hangTogether 6 = .ok (.istore 5, 2) := by decide +kernel
theorem dX1_hangTogether_8 : decode cX1_hangTogether 8 = .ok (.iconst 1, 1) := by decide +kernel
theorem dX1_hangTogether_9 : decode cX1_hangTogether 9 = .ok (.istore 6, 2) := by decide +kernel
theorem dX1_hangTogether_11 : decode cX1_hangTogether 11 = .ok (.iload 6, 2) := by decide +kernel
theorem dX1_hangTogether_13 : decode cX1_hangTogether 13 = .ok (.bipush 6, 2) := by decide +kernel
theorem dX1_hangTogether_15 : decode cX1_hangTogether 15 = .ok (.if_icmp .ge 81, 3) := by decide +kernel
theorem dX1_hangTogether_18 : decode cX1_hangTogether 18 = .ok (.iload 4, 2) := by decide +kernel
theorem dX1_hangTogether_20 : decode cX1_hangTogether 20 = .ok (.iload 5, 2) := by decide +kernel
theorem dX1_hangTogether_22 : decode cX1_hangTogether 22 = .ok (.if_icmp .eq 74, 3) := by decide +kernel
theorem dX1_hangTogether_25 : decode cX1_hangTogether 25 = .ok (.iload 4, 2) := by decide +kernel
theorem dX1_hangTogether_27 : decode cX1_hangTogether 27 = .ok (.istore 5, 2) := by decide +kernel
theorem dX1_hangTogether_29 : decode cX1_hangTogether 29 = .ok (.iconst 0, 1) := by decide +kernel
theorem dX1_hangTogether_30 : decode cX1_hangTogether 30 = .ok (.istore 7, 2) := by decide +kernel
theorem dX1_hangTogether_32 : decode cX1_hangTogether 32 = .ok (.iload 7, 2) := by decide +kernel
theorem dX1_hangTogether_34 : decode cX1_hangTogether 34 = .ok (.bipush 15, 2) := by decide +kernel
theorem dX1_hangTogether_36 : decode cX1_hangTogether 36 = .ok (.if_icmp .ge 54, 3) := by decide +kernel
theorem dX1_hangTogether_39 : decode cX1_hangTogether 39 = .ok (.iconst 1, 1) := by decide +kernel
theorem dX1_hangTogether_40 : decode cX1_hangTogether 40 = .ok (.aload_n 0, 1) := by decide +kernel
theorem dX1_hangTogether_41 : decode cX1_hangTogether 41 = .ok (.getfield 9, 3) := by decide +kernel
theorem dX1_hangTogether_44 : decode cX1_hangTogether 44 = .ok (.iload 7, 2) := by decide +kernel
theorem dX1_hangTogether_46 : decode cX1_hangTogether 46 = .ok (.iaload, 1) := by decide +kernel
theorem dX1_hangTogether_47 : decode cX1_hangTogether 47 = .ok (.ishl, 1) := by decide +kernel
theorem dX1_hangTogether_48 : decode cX1_hangTogether 48 = .ok (.iconst 1, 1) := by decide +kernel
theorem dX1_hangTogether_49 : decode cX1_hangTogether 49 = .ok (.aload_n 0, 1) := by decide +kernel
theorem dX1_hangTogether_50 : decode cX1_hangTogether 50 = .ok (.getfield 15, 3) := by decide +kernel
theorem dX1_hangTogether_53 : decode cX1_hangTogether 53 = .ok (.iload 7, 2) := by decide +kernel
theorem dX1_hangTogether_55 : decode cX1_hangTogether 55 = .ok (.iaload, 1) := by decide +kernel
theorem dX1_hangTogether_56 : decode cX1_hangTogether 56 = .ok (.ishl, 1) := by decide +kernel
theorem dX1_hangTogether_57 : decode cX1_hangTogether 57 = .ok (.ior, 1) := by decide +kernel
theorem dX1_hangTogether_58 : decode cX1_hangTogether 58 = .ok (.istore 8, 2) := by decide +kernel
theorem dX1_hangTogether_60 : decode cX1_hangTogether 60 = .ok (.iload_n 1, 1) := by decide +kernel
theorem dX1_hangTogether_61 : decode cX1_hangTogether 61 = .ok (.iload 7, 2) := by decide +kernel
theorem dX1_hangTogether_63 : decode cX1_hangTogether 63 = .ok (.ishr, 1) := by decide +kernel
theorem dX1_hangTogether_64 : decode cX1_hangTogether 64 = .ok (.iconst 1, 1) := by decide +kernel
theorem dX1_hangTogether_65 : decode cX1_hangTogether 65 = .ok (.iand, 1) := by decide +kernel
theorem dX1_hangTogether_66 : decode cX1_hangTogether 66 = .ok (.ifCond .eq 18, 3) := by decide +kernel
theorem dX1_hangTogether_69 : decode cX1_hangTogether 69 = .ok (.iload 4, 2) := by decide +kernel
theorem dX1_hangTogether_71 : decode cX1_hangTogether 71 = .ok (.iload 8, 2) := by decide +kernel
theorem dX1_hangTogether_73 : decode cX1_hangTogether 73 = .ok (.iand, 1) := by decide +kernel
theorem dX1_hangTogether_74 : decode cX1_hangTogether 74 = .ok (.ifCond .eq 10, 3) := by decide +kernel
theorem dX1_hangTogether_77 : decode cX1_hangTogether 77 = .ok (.iload 4, 2) := by decide +kernel
theorem dX1_hangTogether_79 : decode cX1_hangTogether 79 = .ok (.iload 8, 2) := by decide +kernel
theorem dX1_hangTogether_81 : decode cX1_hangTogether 81 = .ok (.ior, 1) := by decide +kernel
theorem dX1_hangTogether_82 : decode cX1_hangTogether 82 = .ok (.istore 4, 2) := by decide +kernel
theorem dX1_hangTogether_84 : decode cX1_hangTogether 84 = .ok (.iinc 7 1, 3) := by decide +kernel
theorem dX1_hangTogether_87 : decode cX1_hangTogether 87 = .ok (.goto (-55), 3) := by decide +kernel
theorem dX1_hangTogether_90 : decode cX1_hangTogether 90 = .ok (.iinc 6 1, 3) := by decide +kernel
theorem dX1_hangTogether_93 : decode cX1_hangTogether 93 = .ok (.goto (-82), 3) := by decide +kernel
theorem dX1_hangTogether_96 : decode cX1_hangTogether 96 = .ok (.iload 4, 2) := by decide +kernel
theorem dX1_hangTogether_98 : decode cX1_hangTogether 98 = .ok (.iload_n 3, 1) := by decide +kernel
theorem dX1_hangTogether_99 : decode cX1_hangTogether 99 = .ok (.ishr, 1) := by decide +kernel
theorem dX1_hangTogether_100 : decode cX1_hangTogether 100 = .ok (.iconst 1, 1) := by decide +kernel
theorem dX1_hangTogether_101 : decode cX1_hangTogether 101 = .ok (.iand, 1) := by decide +kernel
theorem dX1_hangTogether_102 : decode cX1_hangTogether 102 = .ok (.ifCond .eq 7, 3) := by decide +kernel
theorem dX1_hangTogether_105 : decode cX1_hangTogether 105 = .ok (.iconst 1, 1) := by decide +kernel
theorem dX1_hangTogether_106 : decode cX1_hangTogether 106 = .ok (.goto 4, 3) := by decide +kernel
theorem dX1_hangTogether_109 : decode cX1_hangTogether 109 = .ok (.iconst 0, 1) := by decide +kernel
theorem dX1_hangTogether_110 : decode cX1_hangTogether 110 = .ok (.ireturn, 1) := by decide +kernel
theorem dX2_init_0 : decode cX2_init 0 = .ok (.aload_n 0, 1) := by decide +kernel
theorem dX2_init_1 : decode cX2_init 1 = .ok (.invokespecial 3, 3) := by decide +kernel
theorem dX2_init_4 : decode cX2_init 4 = .ok (.aload_n 0, 1) := by decide +kernel
theorem dX2_init_5 : decode cX2_init 5 = .ok (.bipush 6, 2) := by decide +kernel
theorem dX2_init_7 : decode cX2_init 7 = .ok (.newarray .int, 2) := by decide +kernel
theorem dX2_init_9 : decode cX2_init 9 = .ok (.putfield 9, 3) := by decide +kernel
theorem dX2_init_12 : decode cX2_init 12 = .ok (.return_, 1) := by decide +kernel
theorem dX2_all_0 : decode cX2_all 0 = .ok (.iconst 1, 1) := by decide +kernel
theorem dX2_all_1 : decode cX2_all 1 = .ok (.istore_n 1, 1) := by decide +kernel
theorem dX2_all_2 : decode cX2_all 2 = .ok (.iconst 2, 1) := by decide +kernel
theorem dX2_all_3 : decode cX2_all 3 = .ok (.istore_n 2, 1) := by decide +kernel
theorem dX2_all_4 : decode cX2_all 4 = .ok (.iload_n 2, 1) := by decide +kernel
theorem dX2_all_5 : decode cX2_all 5 = .ok (.iload_n 0, 1) := by decide +kernel
theorem dX2_all_6 : decode cX2_all 6 = .ok (.if_icmp .gt 13, 3) := by decide +kernel
theorem dX2_all_9 : decode cX2_all 9 = .ok (.iload_n 1, 1) := by decide +kernel
theorem dX2_all_10 : decode cX2_all 10 = .ok (.iload_n 2, 1) := by decide +kernel
theorem dX2_all_11 : decode cX2_all 11 = .ok (.imul, 1) := by decide +kernel
theorem dX2_all_12 : decode cX2_all 12 = .ok (.istore_n 1, 1) := by decide +kernel
theorem dX2_all_13 : decode cX2_all 13 = .ok (.iinc 2 1, 3) := by decide +kernel
theorem dX2_all_16 : decode cX2_all 16 = .ok (.goto (-12), 3) := by decide +kernel
theorem dX2_all_19 : decode cX2_all 19 = .ok (.iload_n 1, 1) := by decide +kernel
theorem dX2_all_20 : decode cX2_all 20 = .ok (.ireturn, 1) := by decide +kernel
set_option maxRecDepth 20000 in
theorem ggX2_count_X2_countFrom : GoodIn wsX2_count wsX2_countFrom := goodIn_r _ [12, 7, 13, 14, 15, 16, 11, 17, 1, 2, 18, 19, 20, 21, 22, 23, 24, 8, 9, 10, 25, 26, 27, 28] (by decide +kernel) (by decide +kernel)
set_option maxRecDepth 20000 in
theorem gX2_count_X2_countFrom : GoodIn wsX2_count (wsV RX2 31 RX2 yX2_countFrom wsX2_countFrom) := goodIn_app (goodIn_of _ (by decide +kernel)) ggX2_count_X2_countFrom
theorem dX2_count_0 : decode cX2_count 0 = .ok (.aload_n 0, 1) := by decide +kernel
theorem dX2_count_1 : decode cX2_count 1 = .ok (.iload_n 1, 1) := by decide +kernel
theorem dX2_count_2 : decode cX2_count 2 = .ok (.putfield 15, 3) := by decide +kernel
theorem dX2_count_5 : decode cX2_count 5 = .ok (.aload_n 0, 1) := by decide +kernel
theorem dX2_count_6 : decode cX2_count 6 = .ok (.iload_n 2, 1) := by decide +kernel
theorem dX2_count_7 : decode cX2_count 7 = .ok (.putfield 19, 3) := by decide +kernel
theorem dX2_count_10 : decode cX2_count 10 = .ok (.aload_n 0, 1) := by decide +kernel
theorem dX2_count_11 : decode cX2_count 11 = .ok (.iload_n 3, 1) := by decide +kernel
theorem dX2_count_12 : decode cX2_count 12 = .ok (.bipush 6, 2) := by decide +kernel
theorem dX2_count_14 : decode cX2_count 14 = .ok (.invokestatic 22, 3) := by decide +kernel
theorem dX2_count_17 : decode cX2_count 17 = .ok (.putfield 28, 3) := by decide +kernel
theorem dX2_count_20 : decode cX2_count 20 = .ok (.aload_n 0, 1) := by decide +kernel
theorem dX2_count_21 : decode cX2_count 21 = .ok (.iconst 0, 1) := by decide +kernel
theorem dX2_count_22 : decode cX2_count 22 = .ok (.iconst 0, 1) := by decide +kernel
theorem dX2_count_23 : decode cX2_count 23 = .ok (.invokevirtual 31, 3) := by decide +kernel
theorem dX2_count_26 : decode cX2_count 26 = .ok (.ireturn, 1) := by decide +kernel
set_option maxRecDepth 20000 in
theorem ggX2_countFrom_X2_fits : GoodIn wsX2_countFrom wsX2_fits := goodIn_r _ [7, 8, 9, 2, 10, 11, 12, 13, 14, 15, 16, 20, 21, 22, 23] (by decide +kernel) (by decide +kernel)
set_option maxRecDepth 20000 in
theorem gX2_countFrom_X2_fits : GoodIn wsX2_countFrom (wsV RX2 34 RX2 yX2_fits wsX2_fits) := goodIn_app (goodIn_of _ (by decide +kernel)) ggX2_countFrom_X2_fits
set_option maxRecDepth 20000 in
theorem ggX2_countFrom_X2_countFrom : GoodIn wsX2_countFrom wsX2_countFrom := goodIn_r _ [0, 1, 2, 3, 4, 5, 6, 7, 8, 9, 10, 11, 12, 13, 14, 15, 16, 17, 18, 19, 20, 21, 22, 23] (by decide +kernel) (by decide +kernel)
set_option maxRecDepth 20000 in
theorem gX2_countFrom_X2_countFrom : GoodIn wsX2_countFrom (wsV RX2 31 RX2 yX2_countFrom wsX2_countFrom) := goodIn_app (goodIn_of _ (by decide +kernel)) ggX2_countFrom_X2_countFrom
theorem dX2_countFrom_0 : decode cX2_countFrom 0 = .ok (.iload_n 1, 1) := by decide +kernel
theorem dX2_countFrom_1 : decode cX2_countFrom 1 = .ok (.aload_n 0, 1) := by decide +kernel
theorem dX2_countFrom_2 : decode cX2_countFrom 2 = .ok (.getfield 28, 3) := by decide +kernel
theorem dX2_countFrom_5 : decode cX2_countFrom 5 = .ok (.if_icmp .lt 5, 3) := by decide +kernel
theorem dX2_countFrom_8 : decode cX2_countFrom 8 = .ok (.iconst 1, 1) := by decide +kernel
theorem dX2_countFrom_9 : decode cX2_countFrom 9 = .ok (.ireturn, 1) := by decide +kernel
theorem dX2_countFrom_10 : decode cX2_countFrom 10 = .ok (.iconst 0, 1) := by decide +kernel
theorem dX2_countFrom_11 : decode cX2_countFrom 11 = .ok (.istore_n 3, 1) := by decide +kernel
theorem dX2_countFrom_12 : decode cX2_countFrom 12 = .ok (.iconst 0, 1) := by decide +kernel
theorem dX2_countFrom_13 : decode cX2_countFrom 13 = .ok (.istore 4, 2) := by decide +kernel
theorem dX2_countFrom_15 : decode cX2_countFrom 15 = .ok (.iload 4, 2) := by decide +kernel
theorem dX2_countFrom_17 : decode cX2_countFrom 17 = .ok (.aload_n 0, 1) := by decide +kernel
theorem dX2_countFrom_18 : decode cX2_countFrom 18 = .ok (.getfield 28, 3) := by decide +kernel
theorem dX2_countFrom_21 : decode cX2_countFrom 21 = .ok (.if_icmp .ge 52, 3) := by decide +kernel
theorem dX2_countFrom_24 : decode cX2_countFrom 24 = .ok (.iload_n 2, 1) := by decide +kernel
theorem dX2_countFrom_25 : decode cX2_countFrom 25 = .ok (.iload 4, 2) := by decide +kernel
theorem dX2_countFrom_27 : decode cX2_countFrom 27 = .ok (.ishr, 1) := by decide +kernel
theorem dX2_countFrom_28 : decode cX2_countFrom 28 = .ok (.iconst 1, 1) := by decide +kernel
theorem dX2_countFrom_29 : decode cX2_countFrom 29 = .ok (.iand, 1) := by decide +kernel
theorem dX2_countFrom_30 : decode cX2_countFrom 30 = .ok (.ifCond .ne 37, 3) := by decide +kernel
theorem dX2_countFrom_33 : decode cX2_countFrom 33 = .ok (.aload_n 0, 1) := by decide +kernel
theorem dX2_countFrom_34 : decode cX2_countFrom 34 = .ok (.iload_n 1, 1) := by decide +kernel
theorem dX2_countFrom_35 : decode cX2_countFrom 35 = .ok (.iload 4, 2) := by decide +kernel
theorem dX2_countFrom_37 : decode cX2_countFrom 37 = .ok (.invokevirtual 34, 3) := by decide +kernel
theorem dX2_countFrom_40 : decode cX2_countFrom 40 = .ok (.ifCond .eq 27, 3) := by decide +kernel
theorem dX2_countFrom_43 : decode cX2_countFrom 43 = .ok (.aload_n 0, 1) := by decide +kernel
theorem dX2_countFrom_44 : decode cX2_countFrom 44 = .ok (.getfield 9, 3) := by decide +kernel
theorem dX2_countFrom_47 : decode cX2_countFrom 47 = .ok (.iload_n 1, 1) := by decide +kernel
theorem dX2_countFrom_48 : decode cX2_countFrom 48 = .ok (.iload 4, 2) := by decide +kernel
theorem dX2_countFrom_50 : decode cX2_countFrom 50 = .ok (.iastore, 1) := by decide +kernel
theorem dX2_countFrom_51 : decode cX2_countFrom 51 = .ok (.iload_n 3, 1) := by decide +kernel
theorem dX2_countFrom_52 : decode cX2_countFrom 52 = .ok (.aload_n 0, 1) := by decide +kernel
theorem dX2_countFrom_53 : decode cX2_countFrom 53 = .ok (.iload_n 1, 1) := by decide +kernel
theorem dX2_countFrom_54 : decode cX2_countFrom 54 = .ok (.iconst 1, 1) := by decide +kernel
theorem dX2_countFrom_55 : decode cX2_countFrom 55 = .ok (.iadd, 1) := by decide +kernel
theorem dX2_countFrom_56 : decode cX2_countFrom 56 = .ok (.iload_n 2, 1) := by decide +kernel
theorem dX2_countFrom_57 : decode cX2_countFrom 57 = .ok (.iconst 1, 1) := by decide +kernel
theorem dX2_countFrom_58 : decode cX2_countFrom 58 = .ok (.iload 4, 2) := by decide +kernel
theorem dX2_countFrom_60 : decode cX2_countFrom 60 = .ok (.ishl, 1) := by decide +kernel
theorem dX2_countFrom_61 : decode cX2_countFrom 61 = .ok (.ior, 1) := by decide +kernel
theorem dX2_countFrom_62 : decode cX2_countFrom 62 = .ok (.invokevirtual 31, 3) := by decide +kernel
theorem dX2_countFrom_65 : decode cX2_countFrom 65 = .ok (.iadd, 1) := by decide +kernel
theorem dX2_countFrom_66 : decode cX2_countFrom 66 = .ok (.istore_n 3, 1) := by decide +kernel
theorem dX2_countFrom_67 : decode cX2_countFrom 67 = .ok (.iinc 4 1, 3) := by decide +kernel
theorem dX2_countFrom_70 : decode cX2_countFrom 70 = .ok (.goto (-55), 3) := by decide +kernel
theorem dX2_countFrom_73 : decode cX2_countFrom 73 = .ok (.iload_n 3, 1) := by decide +kernel
theorem dX2_countFrom_74 : decode cX2_countFrom 74 = .ok (.ireturn, 1) := by decide +kernel
set_option maxRecDepth 20000 in
theorem ggX2_fits_X1_indexOf : GoodIn wsX2_fits wsX1_indexOf := goodIn_r _ [7, 8, 9, 6, 10] (by decide +kernel) (by decide +kernel)
set_option maxRecDepth 20000 in
theorem gX2_fits_X1_indexOf : GoodIn wsX2_fits (va_wsS RX2 38 yX1_indexOf wsX1_indexOf) := goodIn_app (goodIn_of _ (by decide +kernel)) ggX2_fits_X1_indexOf
theorem dX2_fits_0 : decode cX2_fits 0 = .ok (.iconst 0, 1) := by decide +kernel
theorem dX2_fits_1 : decode cX2_fits 1 = .ok (.istore_n 3, 1) := by decide +kernel
theorem dX2_fits_2 : decode cX2_fits 2 = .ok (.iload_n 3, 1) := by decide +kernel
theorem dX2_fits_3 : decode cX2_fits 3 = .ok (.iload_n 1, 1) := by decide +kernel
theorem dX2_fits_4 : decode cX2_fits 4 = .ok (.if_icmp .ge 51, 3) := by decide +kernel
theorem dX2_fits_7 : decode cX2_fits 7 = .ok (.aload_n 0, 1) := by decide +kernel
theorem dX2_fits_8 : decode cX2_fits 8 = .ok (.getfield 15, 3) := by decide +kernel
theorem dX2_fits_11 : decode cX2_fits 11 = .ok (.iload_n 3, 1) := by decide +kernel
theorem dX2_fits_12 : decode cX2_fits 12 = .ok (.iload_n 1, 1) := by decide +kernel
theorem dX2_fits_13 : decode cX2_fits 13 = .ok (.invokestatic 38, 3) := by decide +kernel
theorem dX2_fits_16 : decode cX2_fits 16 = .ok (.ishr, 1) := by decide +kernel
theorem dX2_fits_17 : decode cX2_fits 17 = .ok (.iconst 1, 1) := by decide +kernel
theorem dX2_fits_18 : decode cX2_fits 18 = .ok (.iand, 1) := by decide +kernel
theorem dX2_fits_19 : decode cX2_fits 19 = .ok (.istore 4, 2) := by decide +kernel
theorem dX2_fits_21 : decode cX2_fits 21 = .ok (.aload_n 0, 1) := by decide +kernel
theorem dX2_fits_22 : decode cX2_fits 22 = .ok (.getfield 19, 3) := by decide +kernel
theorem dX2_fits_25 : decode cX2_fits 25 = .ok (.aload_n 0, 1) := by decide +kernel
theorem dX2_fits_26 : decode cX2_fits 26 = .ok (.getfield 9, 3) := by decide +kernel
theorem dX2_fits_29 : decode cX2_fits 29 = .ok (.iload_n 3, 1) := by decide +kernel
theorem dX2_fits_30 : decode cX2_fits 30 = .ok (.iaload, 1) := by decide +kernel
theorem dX2_fits_31 : decode cX2_fits 31 = .ok (.iload_n 2, 1) := by decide +kernel
theorem dX2_fits_32 : decode cX2_fits 32 = .ok (.invokestatic 38, 3) := by decide +kernel
theorem dX2_fits_35 : decode cX2_fits 35 = .ok (.ishr, 1) := by decide +kernel
theorem dX2_fits_36 : decode cX2_fits 36 = .ok (.iconst 1, 1) := by decide +kernel
theorem dX2_fits_37 : decode cX2_fits 37 = .ok (.iand, 1) := by decide +kernel
theorem dX2_fits_38 : decode cX2_fits 38 = .ok (.istore 5, 2) := by decide +kernel
theorem dX2_fits_40 : decode cX2_fits 40 = .ok (.iload 4, 2) := by decide +kernel
theorem dX2_fits_42 : decode cX2_fits 42 = .ok (.iload 5, 2) := by decide +kernel
theorem dX2_fits_44 : decode cX2_fits 44 = .ok (.if_icmp .eq 5, 3) := by decide +kernel
theorem dX2_fits_47 : decode cX2_fits 47 = .ok (.iconst 0, 1) := by decide +kernel
theorem dX2_fits_48 : decode cX2_fits 48 = .ok (.ireturn, 1) := by decide +kernel
theorem dX2_fits_49 : decode cX2_fits 49 = .ok (.iinc 3 1, 3) := by decide +kernel
theorem dX2_fits_52 : decode cX2_fits 52 = .ok (.goto (-50), 3) := by decide +kernel
theorem dX2_fits_55 : decode cX2_fits 55 = .ok (.iconst 1, 1) := by decide +kernel
theorem dX2_fits_56 : decode cX2_fits 56 = .ok (.ireturn, 1) := by decide +kernel
set_option maxRecDepth 20000 in
theorem ggX3_init_X3_fillSteps : GoodIn wsX3_init wsX3_fillSteps := goodIn_r _ [14, 4, 6, 7, 15, 16, 17, 18, 19, 20, 21, 22, 23, 24, 25, 26, 27, 28, 29, 30, 31, 32, 33, 34, 35, 36, 37, 38, 39] (by decide +kernel) (by decide +kernel)
set_option maxRecDepth 20000 in
theorem gX3_init_X3_fillSteps : GoodIn wsX3_init (wsV RX3 29 RX3 yX3_fillSteps wsX3_fillSteps) := goodIn_app (goodIn_of _ (by decide +kernel)) ggX3_init_X3_fillSteps
theorem dX3_init_0 : decode cX3_init 0 = .ok (.aload_n 0, 1) := by decide +kernel
theorem dX3_init_1 : decode cX3_init 1 = .ok (.invokespecial 3, 3) := by decide +kernel
theorem dX3_init_4 : decode cX3_init 4 = .ok (.aload_n 0, 1) := by decide +kernel
theorem dX3_init_5 : decode cX3_init 5 = .ok (.aload_n 1, 1) := by decide +kernel
theorem dX3_init_6 : decode cX3_init 6 = .ok (.putfield 9, 3) := by decide +kernel
theorem dX3_init_9 : decode cX3_init 9 = .ok (.aload_n 0, 1) := by decide +kernel
theorem dX3_init_10 : decode cX3_init 10 = .ok (.bipush 60, 2) := by decide +kernel
theorem dX3_init_12 : decode cX3_init 12 = .ok (.newarray .int, 2) := by decide +kernel
theorem dX3_init_14 : decode cX3_init 14 = .ok (.putfield 15, 3) := by decide +kernel
theorem dX3_init_17 : decode cX3_init 17 = .ok (.aload_n 0, 1) := by decide +kernel
theorem dX3_init_18 : decode cX3_init 18 = .ok (.sipush 180, 3) := by decide +kernel
theorem dX3_init_21 : decode cX3_init 21 = .ok (.newarray .int, 2) := by decide +kernel
theorem dX3_init_23 : decode cX3_init 23 = .ok (.putfield 19, 3) := by decide +kernel
theorem dX3_init_26 : decode cX3_init 26 = .ok (.aload_n 0, 1) := by decide +kernel
theorem dX3_init_27 : decode cX3_init 27 = .ok (.iconst 1, 1) := by decide +kernel
theorem dX3_init_28 : decode cX3_init 28 = .ok (.newarray .int, 2) := by decide +kernel
theorem dX3_init_30 : decode cX3_init 30 = .ok (.putfield 22, 3) := by decide +kernel
theorem dX3_init_33 : decode cX3_init 33 = .ok (.aload_n 0, 1) := by decide +kernel
theorem dX3_init_34 : decode cX3_init 34 = .ok (.sipush 32767, 3) := by decide +kernel
theorem dX3_init_37 : decode cX3_init 37 = .ok (.putfield 25, 3) := by decide +kernel
theorem dX3_init_40 : decode cX3_init 40 = .ok (.iconst 0, 1) := by decide +kernel
theorem dX3_init_41 : decode cX3_init 41 = .ok (.istore_n 2, 1) := by decide +kernel
theorem dX3_init_42 : decode cX3_init 42 = .ok (.iload_n 2, 1) := by decide +kernel
theorem dX3_init_43 : decode cX3_init 43 = .ok (.bipush 15, 2) := by decide +kernel
theorem dX3_init_45 : decode cX3_init 45 = .ok (.if_icmp .ge 14, 3) := by decide +kernel
theorem dX3_init_48 : decode cX3_init 48 = .ok (.aload_n 0, 1) := by decide +kernel
theorem dX3_init_49 : decode cX3_init 49 = .ok (.iload_n 2, 1) := by decide +kernel
theorem dX3_init_50 : decode cX3_init 50 = .ok (.invokevirtual 29, 3) := by decide +kernel
theorem dX3_init_53 : decode cX3_init 53 = .ok (.iinc 2 1, 3) := by decide +kernel
theorem dX3_init_56 : decode cX3_init 56 = .ok (.goto (-14), 3) := by decide +kernel
theorem dX3_init_59 : decode cX3_init 59 = .ok (.return_, 1) := by decide +kernel
set_option maxRecDepth 20000 in
theorem ggX3_fillSteps_X1_low : GoodIn wsX3_fillSteps wsX1_low := goodIn_r _ [8, 9, 26, 27, 28] (by decide +kernel) (by decide +kernel)
set_option maxRecDepth 20000 in
theorem gX3_fillSteps_X1_low : GoodIn wsX3_fillSteps (wsV RX3 33 RX1 yX1_low wsX1_low) := goodIn_app (goodIn_of _ (by decide +kernel)) ggX3_fillSteps_X1_low
set_option maxRecDepth 20000 in
theorem ggX3_fillSteps_X1_high : GoodIn wsX3_fillSteps wsX1_high := goodIn_r _ [13, 14, 26, 27, 28] (by decide +kernel) (by decide +kernel)
set_option maxRecDepth 20000 in
theorem gX3_fillSteps_X1_high : GoodIn wsX3_fillSteps (wsV RX3 39 RX1 yX1_high wsX1_high) := goodIn_app (goodIn_of _ (by decide +kernel)) ggX3_fillSteps_X1_high
set_option maxRecDepth 20000 in
theorem ggX3_fillSteps_X1_indexOf : GoodIn wsX3_fillSteps wsX1_indexOf := goodIn_r _ [17, 18, 19, 7, 20] (by decide +kernel) (by decide +kernel)
set_option maxRecDepth 20000 in
theorem gX3_fillSteps_X1_indexOf : GoodIn wsX3_fillSteps (va_wsS RX3 42 yX1_indexOf wsX1_indexOf) := goodIn_app (goodIn_of _ (by decide +kernel)) ggX3_fillSteps_X1_indexOf
theorem dX3_fillSteps_0 : decode cX3_fillSteps 0 = .ok (.aload_n 0, 1) := by decide +kernel
theorem dX3_fillSteps_1 : decode cX3_fillSteps 1 = .ok (.getfield 9, 3) := by decide +kernel
theorem dX3_fillSteps_4 : decode cX3_fillSteps 4 = .ok (.iload_n 1, 1) := by decide +kernel
theorem dX3_fillSteps_5 : decode cX3_fillSteps 5 = .ok (.invokevirtual 33, 3) := by decide +kernel
theorem dX3_fillSteps_8 : decode cX3_fillSteps 8 = .ok (.istore_n 2, 1) := by decide +kernel
theorem dX3_fillSteps_9 : decode cX3_fillSteps 9 = .ok (.aload_n 0, 1) := by decide +kernel
theorem dX3_fillSteps_10 : decode cX3_fillSteps 10 = .ok (.getfield 9, 3) := by decide +kernel
theorem dX3_fillSteps_13 : decode cX3_fillSteps 13 = .ok (.iload_n 1, 1) := by decide +kernel
theorem dX3_fillSteps_14 : decode cX3_fillSteps 14 = .ok (.invokevirtual 39, 3) := by decide +kernel
theorem dX3_fillSteps_17 : decode cX3_fillSteps 17 = .ok (.istore_n 3, 1) := by decide +kernel
theorem dX3_fillSteps_18 : decode cX3_fillSteps 18 = .ok (.iload_n 1, 1) := by decide +kernel
theorem dX3_fillSteps_19 : decode cX3_fillSteps 19 = .ok (.iconst 4, 1) := by decide +kernel
theorem dX3_fillSteps_20 : decode cX3_fillSteps 20 = .ok (.imul, 1) := by decide +kernel
theorem dX3_fillSteps_21 : decode cX3_fillSteps 21 = .ok (.istore 4, 2) := by decide +kernel
theorem dX3_fillSteps_23 : decode cX3_fillSteps 23 = .ok (.iload_n 1, 1) := by decide +kernel
theorem dX3_fillSteps_24 : decode cX3_fillSteps 24 = .ok (.bipush 12, 2) := by decide +kernel
theorem dX3_fillSteps_26 : decode cX3_fillSteps 26 = .ok (.imul, 1) := by decide +kernel
theorem dX3_fillSteps_27 : decode cX3_fillSteps 27 = .ok (.istore 5, 2) := by decide +kernel
theorem dX3_fillSteps_29 : decode cX3_fillSteps 29 = .ok (.iconst 0, 1) := by decide +kernel
theorem dX3_fillSteps_30 : decode cX3_fillSteps 30 = .ok (.istore 6, 2) := by decide +kernel
theorem dX3_fillSteps_32 : decode cX3_fillSteps 32 = .ok (.iload 6, 2) := by decide +kernel
theorem dX3_fillSteps_34 : decode cX3_fillSteps 34 = .ok (.bipush 6, 2) := by decide +kernel
theorem dX3_fillSteps_36 : decode cX3_fillSteps 36 = .ok (.if_icmp .ge 118, 3) := by decide +kernel
theorem dX3_fillSteps_39 : decode cX3_fillSteps 39 = .ok (.iload 6, 2) := by decide +kernel
theorem dX3_fillSteps_41 : decode cX3_fillSteps 41 = .ok (.iload_n 2, 1) := by decide +kernel
theorem dX3_fillSteps_42 : decode cX3_fillSteps 42 = .ok (.if_icmp .eq 106, 3) := by decide +kernel
theorem dX3_fillSteps_45 : decode cX3_fillSteps 45 = .ok (.iload 6, 2) := by decide +kernel
theorem dX3_fillSteps_47 : decode cX3_fillSteps 47 = .ok (.iload_n 3, 1) := by decide +kernel
theorem dX3_fillSteps_48 : decode cX3_fillSteps 48 = .ok (.if_icmp .eq 100, 3) := by decide +kernel
theorem dX3_fillSteps_51 : decode cX3_fillSteps 51 = .ok (.iconst 1, 1) := by decide +kernel
theorem dX3_fillSteps_52 : decode cX3_fillSteps 52 = .ok (.iload_n 2, 1) := by decide +kernel
theorem dX3_fillSteps_53 : decode cX3_fillSteps 53 = .ok (.iload 6, 2) := by decide +kernel
theorem dX3_fillSteps_55 : decode cX3_fillSteps 55 = .ok (.invokestatic 42, 3) := by decide +kernel
theorem dX3_fillSteps_58 : decode cX3_fillSteps 58 = .ok (.ishl, 1) := by decide +kernel
theorem dX3_fillSteps_59 : decode cX3_fillSteps 59 = .ok (.istore 7, 2) := by decide +kernel
theorem dX3_fillSteps_61 : decode cX3_fillSteps 61 = .ok (.aload_n 0, 1) := by decide +kernel
theorem dX3_fillSteps_62 : decode cX3_fillSteps 62 = .ok (.getfield 15, 3) := by decide +kernel
theorem dX3_fillSteps_65 : decode cX3_fillSteps 65 = .ok (.iload 4, 2) := by decide +kernel
theorem dX3_fillSteps_67 : decode cX3_fillSteps 67 = .ok (.iload 7, 2) := by decide +kernel
theorem dX3_fillSteps_69 : decode cX3_fillSteps 69 = .ok (.iconst 1, 1) := by decide +kernel
theorem dX3_fillSteps_70 : decode cX3_fillSteps 70 = .ok (.iload 6, 2) := by decide +kernel
theorem dX3_fillSteps_72 : decode cX3_fillSteps 72 = .ok (.iload_n 3, 1) := by decide +kernel
theorem dX3_fillSteps_73 : decode cX3_fillSteps 73 = .ok (.invokestatic 42, 3) := by decide +kernel
theorem dX3_fillSteps_76 : decode cX3_fillSteps 76 = .ok (.ishl, 1) := by decide +kernel
theorem dX3_fillSteps_77 : decode cX3_fillSteps 77 = .ok (.ior, 1) := by decide +kernel
theorem dX3_fillSteps_78 : decode cX3_fillSteps 78 = .ok (.iastore, 1) := by decide +kernel
theorem dX3_fillSteps_79 : decode cX3_fillSteps 79 = .ok (.iinc 4 1, 3) := by decide +kernel
theorem dX3_fillSteps_82 : decode cX3_fillSteps 82 = .ok (.iconst 0, 1) := by decide +kernel
theorem dX3_fillSteps_83 : decode cX3_fillSteps 83 = .ok (.istore 8, 2) := by decide +kernel
theorem dX3_fillSteps_85 : decode cX3_fillSteps 85 = .ok (.iload 8, 2) := by decide +kernel
theorem dX3_fillSteps_87 : decode cX3_fillSteps 87 = .ok (.bipush 6, 2) := by decide +kernel
theorem dX3_fillSteps_89 : decode cX3_fillSteps 89 = .ok (.if_icmp .ge 59, 3) := by decide +kernel
theorem dX3_fillSteps_92 : decode cX3_fillSteps 92 = .ok (.iload 8, 2) := by decide +kernel
theorem dX3_fillSteps_94 : decode cX3_fillSteps 94 = .ok (.iload_n 2, 1) := by decide +kernel
theorem dX3_fillSteps_95 : decode cX3_fillSteps 95 = .ok (.if_icmp .eq 47, 3) := by decide +kernel
theorem dX3_fillSteps_98 : decode cX3_fillSteps 98 = .ok (.iload 8, 2) := by decide +kernel
theorem dX3_fillSteps_100 : decode cX3_fillSteps 100 = .ok (.iload_n 3, 1) := by decide +kernel
theorem dX3_fillSteps_101 : decode cX3_fillSteps 101 = .ok (.if_icmp .eq 41, 3) := by decide +kernel
theorem dX3_fillSteps_104 : decode cX3_fillSteps 104 = .ok (.iload 8, 2) := by decide +kernel
theorem dX3_fillSteps_106 : decode cX3_fillSteps 106 = .ok (.iload 6, 2) := by decide +kernel
theorem dX3_fillSteps_108 : decode cX3_fillSteps 108 = .ok (.if_icmp .eq 34, 3) := by decide +kernel
theorem dX3_fillSteps_111 : decode cX3_fillSteps 111 = .ok (.aload_n 0, 1) := by decide +kernel
theorem dX3_fillSteps_112 : decode cX3_fillSteps 112 = .ok (.getfield 19, 3) := by decide +kernel
theorem dX3_fillSteps_115 : decode cX3_fillSteps 115 = .ok (.iload 5, 2) := by decide +kernel
theorem dX3_fillSteps_117 : decode cX3_fillSteps 117 = .ok (.iload 7, 2) := by decide +kernel
theorem dX3_fillSteps_119 : decode cX3_fillSteps 119 = .ok (.iconst 1, 1) := by decide +kernel
theorem dX3_fillSteps_120 : decode cX3_fillSteps 120 = .ok (.iload 6, 2) := by decide +kernel
theorem dX3_fillSteps_122 : decode cX3_fillSteps 122 = .ok (.iload 8, 2) := by decide +kernel
theorem dX3_fillSteps_124 : decode cX3_fillSteps 124 = .ok (.invokestatic 42, 3) := by decide +kernel
theorem dX3_fillSteps_127 : decode cX3_fillSteps 127 = .ok (.ishl, 1) := by decide +kernel
theorem dX3_fillSteps_128 : decode cX3_fillSteps 128 = .ok (.ior, 1) := by decide +kernel
theorem dX3_fillSteps_129 : decode cX3_fillSteps 129 = .ok (.iconst 1, 1) := by decide +kernel
theorem dX3_fillSteps_130 : decode cX3_fillSteps 130 = .ok (.iload 8, 2) := by decide +kernel
theorem dX3_fillSteps_132 : decode cX3_fillSteps 132 = .ok (.iload_n 3, 1) := by decide +kernel
theorem dX3_fillSteps_133 : decode cX3_fillSteps 133 = .ok (.invokestatic 42, 3) := by decide +kernel
theorem dX3_fillSteps_136 : decode cX3_fillSteps 136 = .ok (.ishl, 1) := by decide +kernel
theorem dX3_fillSteps_137 : decode cX3_fillSteps 137 = .ok (.ior, 1) := by decide +kernel
theorem dX3_fillSteps_138 : decode cX3_fillSteps 138 = .ok (.iastore, 1) := by decide +kernel
theorem dX3_fillSteps_139 : decode cX3_fillSteps 139 = .ok (.iinc 5 1, 3) := by decide +kernel
theorem dX3_fillSteps_142 : decode cX3_fillSteps 142 = .ok (.iinc 8 1, 3) := by decide +kernel
theorem dX3_fillSteps_145 : decode cX3_fillSteps 145 = .ok (.goto (-60), 3) := by decide +kernel
theorem dX3_fillSteps_148 : decode cX3_fillSteps 148 = .ok (.iinc 6 1, 3) := by decide +kernel
theorem dX3_fillSteps_151 : decode cX3_fillSteps 151 = .ok (.goto (-119), 3) := by decide +kernel
theorem dX3_fillSteps_154 : decode cX3_fillSteps 154 = .ok (.return_, 1) := by decide +kernel
theorem dX3_setSameLabel_0 : decode cX3_setSameLabel 0 = .ok (.aload_n 0, 1) := by decide +kernel
theorem dX3_setSameLabel_1 : decode cX3_setSameLabel 1 = .ok (.iload_n 1, 1) := by decide +kernel
theorem dX3_setSameLabel_2 : decode cX3_setSameLabel 2 = .ok (.putfield 25, 3) := by decide +kernel
theorem dX3_setSameLabel_5 : decode cX3_setSameLabel 5 = .ok (.return_, 1) := by decide +kernel
set_option maxRecDepth 20000 in
theorem ggX3_makeRoom_X3_isQuick : GoodIn wsX3_makeRoom wsX3_isQuick := goodIn_r _ [11] (by decide +kernel) (by decide +kernel)
set_option maxRecDepth 20000 in
theorem gX3_makeRoom_X3_isQuick : GoodIn wsX3_makeRoom (va_wsS RX3 46 yX3_isQuick wsX3_isQuick) := goodIn_app (goodIn_of _ (by decide +kernel)) ggX3_makeRoom_X3_isQuick
theorem dX3_makeRoom_0 : decode cX3_makeRoom 0 = .ok (.iload_n 1, 1) := by decide +kernel
theorem dX3_makeRoom_1 : decode cX3_makeRoom 1 = .ok (.invokestatic 46, 3) := by decide +kernel
theorem dX3_makeRoom_4 : decode cX3_makeRoom 4 = .ok (.ifCond .ne 42, 3) := by decide +kernel
theorem dX3_makeRoom_7 : decode cX3_makeRoom 7 = .ok (.iload_n 2, 1) := by decide +kernel
theorem dX3_makeRoom_8 : decode cX3_makeRoom 8 = .ok (.aload_n 0, 1) := by decide +kernel
theorem dX3_makeRoom_9 : decode cX3_makeRoom 9 = .ok (.getfield 22, 3) := by decide +kernel
theorem dX3_makeRoom_12 : decode cX3_makeRoom 12 = .ok (.arraylength, 1) := by decide +kernel
theorem dX3_makeRoom_13 : decode cX3_makeRoom 13 = .ok (.if_icmp .le 33, 3) := by decide +kernel
theorem dX3_makeRoom_16 : decode cX3_makeRoom 16 = .ok (.iload_n 2, 1) := by decide +kernel
theorem dX3_makeRoom_17 : decode cX3_makeRoom 17 = .ok (.ldc 50, 2) := by decide +kernel
theorem dX3_makeRoom_19 : decode cX3_makeRoom 19 = .ok (.if_icmp .gt 27, 3) := by decide +kernel
theorem dX3_makeRoom_22 : decode cX3_makeRoom 22 = .ok (.iload_n 2, 1) := by decide +kernel
theorem dX3_makeRoom_23 : decode cX3_makeRoom 23 = .ok (.newarray .int, 2) := by decide +kernel
theorem dX3_makeRoom_25 : decode cX3_makeRoom 25 = .ok (.astore_n 3, 1) := by decide +kernel
theorem dX3_makeRoom_26 : decode cX3_makeRoom 26 = .ok (.aload_n 0, 1) := by decide +kernel
theorem dX3_makeRoom_27 : decode cX3_makeRoom 27 = .ok (.getfield 22, 3) := by decide +kernel
theorem dX3_makeRoom_30 : decode cX3_makeRoom 30 = .ok (.iconst 0, 1) := by decide +kernel
theorem dX3_makeRoom_31 : decode cX3_makeRoom 31 = .ok (.aload_n 3, 1) := by decide +kernel
theorem dX3_makeRoom_32 : decode cX3_makeRoom 32 = .ok (.iconst 0, 1) := by decide +kernel
theorem dX3_makeRoom_33 : decode cX3_makeRoom 33 = .ok (.aload_n 0, 1) := by decide +kernel
theorem dX3_makeRoom_34 : decode cX3_makeRoom 34 = .ok (.getfield 22, 3) := by decide +kernel
theorem dX3_makeRoom_37 : decode cX3_makeRoom 37 = .ok (.arraylength, 1) := by decide +kernel
theorem dX3_makeRoom_38 : decode cX3_makeRoom 38 = .ok (.invokestatic 51, 3) := by decide +kernel
theorem dX3_makeRoom_41 : decode cX3_makeRoom 41 = .ok (.aload_n 0, 1) := by decide +kernel
theorem dX3_makeRoom_42 : decode cX3_makeRoom 42 = .ok (.aload_n 3, 1) := by decide +kernel
theorem dX3_makeRoom_43 : decode cX3_makeRoom 43 = .ok (.putfield 22, 3) := by decide +kernel
theorem dX3_makeRoom_46 : decode cX3_makeRoom 46 = .ok (.return_, 1) := by decide +kernel
set_option maxRecDepth 20000 in
theorem ggX3_measure_X3_withEdge : GoodIn wsX3_measure wsX3_withEdge := goodIn_r _ [5, 6, 7, 8, 9, 10, 11, 12, 13, 14, 15, 16, 17, 18, 19, 20, 21, 22, 23, 24, 25, 26, 27, 28, 29, 30, 31, 32, 33, 34, 35, 36, 37, 38, 4, 39, 40, 41, 42, 43, 44, 45, 46, 47, 54, 55, 56, 57, 58, 59, 60, 61] (by decide +kernel) (by decide +kernel)
set_option maxRecDepth 20000 in
theorem gX3_measure_X3_withEdge : GoodIn wsX3_measure (wsV RX3 57 RX3 yX3_withEdge wsX3_withEdge) := goodIn_app (goodIn_of _ (by decide +kernel)) ggX3_measure_X3_withEdge
set_option maxRecDepth 20000 in
theorem ggX3_measure_X3_read : GoodIn wsX3_measure wsX3_read := goodIn_r _ [51, 52, 53, 26, 27, 28, 29, 30, 31, 44, 45, 4, 46, 13, 47, 54, 55, 56, 57, 58] (by decide +kernel) (by decide +kernel)
set_option maxRecDepth 20000 in
theorem gX3_measure_X3_read : GoodIn wsX3_measure (wsV RX3 61 RX3 yX3_read wsX3_read) := goodIn_app (goodIn_of _ (by decide +kernel)) ggX3_measure_X3_read
theorem dX3_measure_0 : decode cX3_measure 0 = .ok (.iconst 0, 1) := by decide +kernel
theorem dX3_measure_1 : decode cX3_measure 1 = .ok (.istore 4, 2) := by decide +kernel
theorem dX3_measure_3 : decode cX3_measure 3 = .ok (.iconst 0, 1) := by decide +kernel
theorem dX3_measure_4 : decode cX3_measure 4 = .ok (.istore 5, 2) := by decide +kernel
theorem dX3_measure_6 : decode cX3_measure 6 = .ok (.iconst 0, 1) := by decide +kernel
theorem dX3_measure_7 : decode cX3_measure 7 = .ok (.istore 6, 2) := by decide +kernel
theorem dX3_measure_9 : decode cX3_measure 9 = .ok (.iload 6, 2) := by decide +kernel
theorem dX3_measure_11 : decode cX3_measure 11 = .ok (.bipush 15, 2) := by decide +kernel
theorem dX3_measure_13 : decode cX3_measure 13 = .ok (.if_icmp .ge 39, 3) := by decide +kernel
theorem dX3_measure_16 : decode cX3_measure 16 = .ok (.iload_n 2, 1) := by decide +kernel
theorem dX3_measure_17 : decode cX3_measure 17 = .ok (.iload 6, 2) := by decide +kernel
theorem dX3_measure_19 : decode cX3_measure 19 = .ok (.ishr, 1) := by decide +kernel
theorem dX3_measure_20 : decode cX3_measure 20 = .ok (.iconst 1, 1) := by decide +kernel
theorem dX3_measure_21 : decode cX3_measure 21 = .ok (.iand, 1) := by decide +kernel
theorem dX3_measure_22 : decode cX3_measure 22 = .ok (.ifCond .eq 24, 3) := by decide +kernel
theorem dX3_measure_25 : decode cX3_measure 25 = .ok (.aload_n 0, 1) := by decide +kernel
theorem dX3_measure_26 : decode cX3_measure 26 = .ok (.iload 4, 2) := by decide +kernel
theorem dX3_measure_28 : decode cX3_measure 28 = .ok (.iload 5, 2) := by decide +kernel
theorem dX3_measure_30 : decode cX3_measure 30 = .ok (.iload 6, 2) := by decide +kernel
theorem dX3_measure_32 : decode cX3_measure 32 = .ok (.invokevirtual 57, 3) := by decide +kernel
theorem dX3_measure_35 : decode cX3_measure 35 = .ok (.istore 4, 2) := by decide +kernel
theorem dX3_measure_37 : decode cX3_measure 37 = .ok (.iload 5, 2) := by decide +kernel
theorem dX3_measure_39 : decode cX3_measure 39 = .ok (.iconst 1, 1) := by decide +kernel
theorem dX3_measure_40 : decode cX3_measure 40 = .ok (.iload 6, 2) := by decide +kernel
theorem dX3_measure_42 : decode cX3_measure 42 = .ok (.ishl, 1) := by decide +kernel
theorem dX3_measure_43 : decode cX3_measure 43 = .ok (.ior, 1) := by decide +kernel
theorem dX3_measure_44 : decode cX3_measure 44 = .ok (.istore 5, 2) := by decide +kernel
theorem dX3_measure_46 : decode cX3_measure 46 = .ok (.iinc 6 1, 3) := by decide +kernel
theorem dX3_measure_49 : decode cX3_measure 49 = .ok (.goto (-40), 3) := by decide +kernel
theorem dX3_measure_52 : decode cX3_measure 52 = .ok (.aload_n 0, 1) := by decide +kernel
theorem dX3_measure_53 : decode cX3_measure 53 = .ok (.iload_n 1, 1) := by decide +kernel
theorem dX3_measure_54 : decode cX3_measure 54 = .ok (.iload 4, 2) := by decide +kernel
theorem dX3_measure_56 : decode cX3_measure 56 = .ok (.iload_n 2, 1) := by decide +kernel
theorem dX3_measure_57 : decode cX3_measure 57 = .ok (.iload_n 3, 1) := by decide +kernel
theorem dX3_measure_58 : decode cX3_measure 58 = .ok (.invokevirtual 61, 3) := by decide +kernel
theorem dX3_measure_61 : decode cX3_measure 61 = .ok (.ireturn, 1) := by decide +kernel
set_option maxRecDepth 20000 in
theorem ggX3_look_X3_isQuick : GoodIn wsX3_look wsX3_isQuick := goodIn_r _ [4] (by decide +kernel) (by decide +kernel)
set_option maxRecDepth 20000 in
theorem gX3_look_X3_isQuick : GoodIn wsX3_look (va_wsS RX3 46 yX3_isQuick wsX3_isQuick) := goodIn_app (goodIn_of _ (by decide +kernel)) ggX3_look_X3_isQuick
set_option maxRecDepth 20000 in
theorem ggX3_look_X3_keptOf : GoodIn wsX3_look wsX3_keptOf := goodIn_r _ [8, 9, 5, 6, 7, 3, 10, 11, 12, 13, 14, 15, 16, 17, 18, 19, 20, 21, 22, 23, 24, 25, 26, 27, 28, 29, 30, 31, 32, 33, 34, 35, 36, 37, 38, 39, 40, 41, 42, 43, 44, 45, 46, 47, 48, 49, 50, 51, 52, 53, 54, 55, 62, 63, 64, 65, 66, 67, 68, 69] (by decide +kernel) (by decide +kernel)
set_option maxRecDepth 20000 in
theorem gX3_look_X3_keptOf : GoodIn wsX3_look (wsV RX3 65 RX3 yX3_keptOf wsX3_keptOf) := goodIn_app (goodIn_of _ (by decide +kernel)) ggX3_look_X3_keptOf
set_option maxRecDepth 20000 in
theorem ggX3_look_X3_read : GoodIn wsX3_look wsX3_read := goodIn_r _ [59, 60, 61, 34, 35, 36, 37, 38, 39, 52, 53, 3, 54, 21, 55, 62, 63, 64, 65, 66] (by decide +kernel) (by decide +kernel)
set_option maxRecDepth 20000 in
theorem gX3_look_X3_read : GoodIn wsX3_look (wsV RX3 61 RX3 yX3_read wsX3_read) := goodIn_app (goodIn_of _ (by decide +kernel)) ggX3_look_X3_read
theorem dX3_look_0 : decode cX3_look 0 = .ok (.aload_n 0, 1) := by decide +kernel
theorem dX3_look_1 : decode cX3_look 1 = .ok (.iload_n 1, 1) := by decide +kernel
theorem dX3_look_2 : decode cX3_look 2 = .ok (.iload_n 1, 1) := by decide +kernel
theorem dX3_look_3 : decode cX3_look 3 = .ok (.invokestatic 46, 3) := by decide +kernel
theorem dX3_look_6 : decode cX3_look 6 = .ok (.ifCond .eq 7, 3) := by decide +kernel
theorem dX3_look_9 : decode cX3_look 9 = .ok (.iconst 0, 1) := by decide +kernel
theorem dX3_look_10 : decode cX3_look 10 = .ok (.goto 10, 3) := by decide +kernel
theorem dX3_look_13 : decode cX3_look 13 = .ok (.aload_n 0, 1) := by decide +kernel
theorem dX3_look_14 : decode cX3_look 14 = .ok (.iload_n 2, 1) := by decide +kernel
theorem dX3_look_15 : decode cX3_look 15 = .ok (.bipush 15, 2) := by decide +kernel
theorem dX3_look_17 : decode cX3_look 17 = .ok (.invokevirtual 65, 3) := by decide +kernel
theorem dX3_look_20 : decode cX3_look 20 = .ok (.iload_n 2, 1) := by decide +kernel
theorem dX3_look_21 : decode cX3_look 21 = .ok (.iload_n 3, 1) := by decide +kernel
theorem dX3_look_22 : decode cX3_look 22 = .ok (.invokevirtual 61, 3) := by decide +kernel
theorem dX3_look_25 : decode cX3_look 25 = .ok (.ireturn, 1) := by decide +kernel
theorem dX3_isQuick_0 : decode cX3_isQuick 0 = .ok (.iload_n 0, 1) := by decide +kernel
theorem dX3_isQuick_1 : decode cX3_isQuick 1 = .ok (.ifCond .eq 9, 3) := by decide +kernel
theorem dX3_isQuick_4 : decode cX3_isQuick 4 = .ok (.iload_n 0, 1) := by decide +kernel
theorem dX3_isQuick_5 : decode cX3_isQuick 5 = .ok (.bipush 7, 2) := by decide +kernel
theorem dX3_isQuick_7 : decode cX3_isQuick 7 = .ok (.if_icmp .ne 7, 3) := by decide +kernel
theorem dX3_isQuick_10 : decode cX3_isQuick 10 = .ok (.iconst 1, 1) := by decide +kernel
theorem dX3_isQuick_11 : decode cX3_isQuick 11 = .ok (.goto 4, 3) := by decide +kernel
theorem dX3_isQuick_14 : decode cX3_isQuick 14 = .ok (.iconst 0, 1) := by decide +kernel
theorem dX3_isQuick_15 : decode cX3_isQuick 15 = .ok (.ireturn, 1) := by decide +kernel
set_option maxRecDepth 20000 in
theorem ggX3_read_J6_bitCount_0f7a4 : GoodIn wsX3_read wsJ6_bitCount_0f7a4 := goodIn_r _ [5, 6, 7, 8] (by decide +kernel) (by decide +kernel)
set_option maxRecDepth 20000 in
theorem gX3_read_J6_bitCount_0f7a4 : GoodIn wsX3_read (va_wsS RX3 68 yJ6_bitCount_0f7a4 wsJ6_bitCount_0f7a4) := goodIn_app (goodIn_of _ (by decide +kernel)) ggX3_read_J6_bitCount_0f7a4
set_option maxRecDepth 20000 in
theorem ggX3_read_X3_unpack : GoodIn wsX3_read wsX3_unpack := goodIn_r _ [12, 13, 14] (by decide +kernel) (by decide +kernel)
set_option maxRecDepth 20000 in
theorem gX3_read_X3_unpack : GoodIn wsX3_read (va_wsS RX3 73 yX3_unpack wsX3_unpack) := goodIn_app (goodIn_of _ (by decide +kernel)) ggX3_read_X3_unpack
theorem dX3_read_0 : decode cX3_read 0 = .ok (.iload_n 1, 1) := by decide +kernel
theorem dX3_read_1 : decode cX3_read 1 = .ok (.tableswitch 71 0 7 #[47, 71, 71, 62, 71, 71, 62, 52], 47) := by decide +kernel
theorem dX3_read_48 : decode cX3_read 48 = .ok (.iload_n 3, 1) := by decide +kernel
theorem dX3_read_49 : decode cX3_read 49 = .ok (.invokestatic 68, 3) := by decide +kernel
theorem dX3_read_52 : decode cX3_read 52 = .ok (.ireturn, 1) := by decide +kernel
theorem dX3_read_53 : decode cX3_read 53 = .ok (.iload_n 3, 1) := by decide +kernel
theorem dX3_read_54 : decode cX3_read 54 = .ok (.aload_n 0, 1) := by decide +kernel
theorem dX3_read_55 : decode cX3_read 55 = .ok (.getfield 25, 3) := by decide +kernel
theorem dX3_read_58 : decode cX3_read 58 = .ok (.iand, 1) := by decide +kernel
theorem dX3_read_59 : decode cX3_read 59 = .ok (.invokestatic 68, 3) := by decide +kernel
theorem dX3_read_62 : decode cX3_read 62 = .ok (.ireturn, 1) := by decide +kernel
theorem dX3_read_63 : decode cX3_read 63 = .ok (.iload 4, 2) := by decide +kernel
theorem dX3_read_65 : decode cX3_read 65 = .ok (.iload_n 1, 1) := by decide +kernel
theorem dX3_read_66 : decode cX3_read 66 = .ok (.iload_n 2, 1) := by decide +kernel
theorem dX3_read_67 : decode cX3_read 67 = .ok (.invokestatic 73, 3) := by decide +kernel
theorem dX3_read_70 : decode cX3_read 70 = .ok (.isub, 1) := by decide +kernel
theorem dX3_read_71 : decode cX3_read 71 = .ok (.ireturn, 1) := by decide +kernel
theorem dX3_read_72 : decode cX3_read 72 = .ok (.iload_n 1, 1) := by decide +kernel
theorem dX3_read_73 : decode cX3_read 73 = .ok (.iload_n 2, 1) := by decide +kernel
theorem dX3_read_74 : decode cX3_read 74 = .ok (.invokestatic 73, 3) := by decide +kernel
theorem dX3_read_77 : decode cX3_read 77 = .ok (.ireturn, 1) := by decide +kernel
theorem dX3_unpack_0 : decode cX3_unpack 0 = .ok (.iload_n 0, 1) := by decide +kernel
theorem dX3_unpack_1 : decode cX3_unpack 1 = .ok (.ifCond .lt 27, 3) := by decide +kernel
theorem dX3_unpack_4 : decode cX3_unpack 4 = .ok (.iload_n 0, 1) := by decide +kernel
theorem dX3_unpack_5 : decode cX3_unpack 5 = .ok (.getstatic 76, 3) := by decide +kernel
theorem dX3_unpack_8 : decode cX3_unpack 8 = .ok (.arraylength, 1) := by decide +kernel
theorem dX3_unpack_9 : decode cX3_unpack 9 = .ok (.if_icmp .ge 19, 3) := by decide +kernel
theorem dX3_unpack_12 : decode cX3_unpack 12 = .ok (.iload_n 1, 1) := by decide +kernel
theorem dX3_unpack_13 : decode cX3_unpack 13 = .ok (.getstatic 76, 3) := by decide +kernel
theorem dX3_unpack_16 : decode cX3_unpack 16 = .ok (.iload_n 0, 1) := by decide +kernel
theorem dX3_unpack_17 : decode cX3_unpack 17 = .ok (.iaload, 1) := by decide +kernel
theorem dX3_unpack_18 : decode cX3_unpack 18 = .ok (.ishr, 1) := by decide +kernel
theorem dX3_unpack_19 : decode cX3_unpack 19 = .ok (.getstatic 79, 3) := by decide +kernel
theorem dX3_unpack_22 : decode cX3_unpack 22 = .ok (.iload_n 0, 1) := by decide +kernel
theorem dX3_unpack_23 : decode cX3_unpack 23 = .ok (.iaload, 1) := by decide +kernel
theorem dX3_unpack_24 : decode cX3_unpack 24 = .ok (.iand, 1) := by decide +kernel
theorem dX3_unpack_25 : decode cX3_unpack 25 = .ok (.goto 4, 3) := by decide +kernel
theorem dX3_unpack_28 : decode cX3_unpack 28 = .ok (.iconst 0, 1) := by decide +kernel
theorem dX3_unpack_29 : decode cX3_unpack 29 = .ok (.ireturn, 1) := by decide +kernel
set_option maxRecDepth 20000 in
theorem ggX3_keptOf_X3_keptOf : GoodIn wsX3_keptOf wsX3_keptOf := goodIn_r _ [0, 1, 2, 3, 4, 5, 6, 7, 8, 9, 10, 11, 12, 13, 14, 15, 16, 17, 18, 19, 20, 21, 22, 23, 24, 25, 26, 27, 28, 29, 30, 31, 32, 33, 34, 35, 36, 37, 38, 39, 40, 41, 42, 43, 44, 45, 46, 47, 48, 49, 50, 51, 52, 53, 54, 55, 56, 57, 58, 59] (by decide +kernel) (by decide +kernel)
set_option maxRecDepth 20000 in
theorem gX3_keptOf_X3_keptOf : GoodIn wsX3_keptOf (wsV RX3 65 RX3 yX3_keptOf wsX3_keptOf) := goodIn_app (goodIn_of _ (by decide +kernel)) ggX3_keptOf_X3_keptOf
set_option maxRecDepth 20000 in
theorem ggX3_keptOf_X3_withEdge : GoodIn wsX3_keptOf wsX3_withEdge := goodIn_r _ [9, 10, 11, 12, 13, 14, 15, 16, 17, 18, 19, 20, 21, 22, 23, 24, 25, 26, 27, 28, 29, 30, 31, 32, 33, 34, 35, 36, 37, 38, 39, 40, 41, 42, 5, 43, 44, 45, 46, 47, 48, 49, 50, 51, 52, 53, 54, 55, 56, 57, 58, 59] (by decide +kernel) (by decide +kernel)
set_option maxRecDepth 20000 in
theorem gX3_keptOf_X3_withEdge : GoodIn wsX3_keptOf (wsV RX3 57 RX3 yX3_withEdge wsX3_withEdge) := goodIn_app (goodIn_of _ (by decide +kernel)) ggX3_keptOf_X3_withEdge
theorem dX3_keptOf_0 : decode cX3_keptOf 0 = .ok (.iload_n 1, 1) := by decide +kernel
theorem dX3_keptOf_1 : decode cX3_keptOf 1 = .ok (.ifCond .lt 12, 3) := by decide +kernel
theorem dX3_keptOf_4 : decode cX3_keptOf 4 = .ok (.iload_n 1, 1) := by decide +kernel
theorem dX3_keptOf_5 : decode cX3_keptOf 5 = .ok (.aload_n 0, 1) := by decide +kernel
theorem dX3_keptOf_6 : decode cX3_keptOf 6 = .ok (.getfield 22, 3) := by decide +kernel
theorem dX3_keptOf_9 : decode cX3_keptOf 9 = .ok (.arraylength, 1) := by decide +kernel
theorem dX3_keptOf_10 : decode cX3_keptOf 10 = .ok (.if_icmp .lt 5, 3) := by decide +kernel
theorem dX3_keptOf_13 : decode cX3_keptOf 13 = .ok (.iconst 0, 1) := by decide +kernel
theorem dX3_keptOf_14 : decode cX3_keptOf 14 = .ok (.ireturn, 1) := by decide +kernel
theorem dX3_keptOf_15 : decode cX3_keptOf 15 = .ok (.aload_n 0, 1) := by decide +kernel
theorem dX3_keptOf_16 : decode cX3_keptOf 16 = .ok (.getfield 22, 3) := by decide +kernel
theorem dX3_keptOf_19 : decode cX3_keptOf 19 = .ok (.iload_n 1, 1) := by decide +kernel
theorem dX3_keptOf_20 : decode cX3_keptOf 20 = .ok (.iaload, 1) := by decide +kernel
theorem dX3_keptOf_21 : decode cX3_keptOf 21 = .ok (.ifCond .eq 10, 3) := by decide +kernel
theorem dX3_keptOf_24 : decode cX3_keptOf 24 = .ok (.aload_n 0, 1) := by decide +kernel
theorem dX3_keptOf_25 : decode cX3_keptOf 25 = .ok (.getfield 22, 3) := by decide +kernel
theorem dX3_keptOf_28 : decode cX3_keptOf 28 = .ok (.iload_n 1, 1) := by decide +kernel
theorem dX3_keptOf_29 : decode cX3_keptOf 29 = .ok (.iaload, 1) := by decide +kernel
theorem dX3_keptOf_30 : decode cX3_keptOf 30 = .ok (.ireturn, 1) := by decide +kernel
theorem dX3_keptOf_31 : decode cX3_keptOf 31 = .ok (.iload_n 2, 1) := by decide +kernel
theorem dX3_keptOf_32 : decode cX3_keptOf 32 = .ok (.iconst 1, 1) := by decide +kernel
theorem dX3_keptOf_33 : decode cX3_keptOf 33 = .ok (.isub, 1) := by decide +kernel
theorem dX3_keptOf_34 : decode cX3_keptOf 34 = .ok (.istore_n 3, 1) := by decide +kernel
theorem dX3_keptOf_35 : decode cX3_keptOf 35 = .ok (.iload_n 3, 1) := by decide +kernel
theorem dX3_keptOf_36 : decode cX3_keptOf 36 = .ok (.ifCond .lt 53, 3) := by decide +kernel
theorem dX3_keptOf_39 : decode cX3_keptOf 39 = .ok (.iload_n 1, 1) := by decide +kernel
theorem dX3_keptOf_40 : decode cX3_keptOf 40 = .ok (.iload_n 3, 1) := by decide +kernel
theorem dX3_keptOf_41 : decode cX3_keptOf 41 = .ok (.ishr, 1) := by decide +kernel
theorem dX3_keptOf_42 : decode cX3_keptOf 42 = .ok (.iconst 1, 1) := by decide +kernel
theorem dX3_keptOf_43 : decode cX3_keptOf 43 = .ok (.iand, 1) := by decide +kernel
theorem dX3_keptOf_44 : decode cX3_keptOf 44 = .ok (.ifCond .eq 39, 3) := by decide +kernel
theorem dX3_keptOf_47 : decode cX3_keptOf 47 = .ok (.iload_n 1, 1) := by decide +kernel
theorem dX3_keptOf_48 : decode cX3_keptOf 48 = .ok (.iconst 1, 1) := by decide +kernel
theorem dX3_keptOf_49 : decode cX3_keptOf 49 = .ok (.iload_n 3, 1) := by decide +kernel
theorem dX3_keptOf_50 : decode cX3_keptOf 50 = .ok (.ishl, 1) := by decide +kernel
theorem dX3_keptOf_51 : decode cX3_keptOf 51 = .ok (.iconst (-1), 1) := by decide +kernel
theorem dX3_keptOf_52 : decode cX3_keptOf 52 = .ok (.ixor, 1) := by decide +kernel
theorem dX3_keptOf_53 : decode cX3_keptOf 53 = .ok (.iand, 1) := by decide +kernel
theorem dX3_keptOf_54 : decode cX3_keptOf 54 = .ok (.istore 4, 2) := by decide +kernel
theorem dX3_keptOf_56 : decode cX3_keptOf 56 = .ok (.aload_n 0, 1) := by decide +kernel
theorem dX3_keptOf_57 : decode cX3_keptOf 57 = .ok (.getfield 22, 3) := by decide +kernel
theorem dX3_keptOf_60 : decode cX3_keptOf 60 = .ok (.iload_n 1, 1) := by decide +kernel
theorem dX3_keptOf_61 : decode cX3_keptOf 61 = .ok (.aload_n 0, 1) := by decide +kernel
theorem dX3_keptOf_62 : decode cX3_keptOf 62 = .ok (.aload_n 0, 1) := by decide +kernel
theorem dX3_keptOf_63 : decode cX3_keptOf 63 = .ok (.iload 4, 2) := by decide +kernel
theorem dX3_keptOf_65 : decode cX3_keptOf 65 = .ok (.iload_n 3, 1) := by decide +kernel
theorem dX3_keptOf_66 : decode cX3_keptOf 66 = .ok (.invokevirtual 65, 3) := by decide +kernel
theorem dX3_keptOf_69 : decode cX3_keptOf 69 = .ok (.iload 4, 2) := by decide +kernel
theorem dX3_keptOf_71 : decode cX3_keptOf 71 = .ok (.iload_n 3, 1) := by decide +kernel
theorem dX3_keptOf_72 : decode cX3_keptOf 72 = .ok (.invokevirtual 57, 3) := by decide +kernel
theorem dX3_keptOf_75 : decode cX3_keptOf 75 = .ok (.iastore, 1) := by decide +kernel
theorem dX3_keptOf_76 : decode cX3_keptOf 76 = .ok (.aload_n 0, 1) := by decide +kernel
theorem dX3_keptOf_77 : decode cX3_keptOf 77 = .ok (.getfield 22, 3) := by decide +kernel
theorem dX3_keptOf_80 : decode cX3_keptOf 80 = .ok (.iload_n 1, 1) := by decide +kernel
theorem dX3_keptOf_81 : decode cX3_keptOf 81 = .ok (.iaload, 1) := by decide +kernel
theorem dX3_keptOf_82 : decode cX3_keptOf 82 = .ok (.ireturn, 1) := by decide +kernel
theorem dX3_keptOf_83 : decode cX3_keptOf 83 = .ok (.iinc 3 (-1), 3) := by decide +kernel
theorem dX3_keptOf_86 : decode cX3_keptOf 86 = .ok (.goto (-51), 3) := by decide +kernel
theorem dX3_keptOf_89 : decode cX3_keptOf 89 = .ok (.iconst 0, 1) := by decide +kernel
theorem dX3_keptOf_90 : decode cX3_keptOf 90 = .ok (.ireturn, 1) := by decide +kernel
set_option maxRecDepth 20000 in
theorem ggX3_withEdge_X1_low : GoodIn wsX3_withEdge wsX1_low := goodIn_r _ [13, 14, 49, 50, 51] (by decide +kernel) (by decide +kernel)
set_option maxRecDepth 20000 in
theorem gX3_withEdge_X1_low : GoodIn wsX3_withEdge (wsV RX3 33 RX1 yX1_low wsX1_low) := goodIn_app (goodIn_of _ (by decide +kernel)) ggX3_withEdge_X1_low
set_option maxRecDepth 20000 in
theorem ggX3_withEdge_X1_degree : GoodIn wsX3_withEdge wsX1_degree := goodIn_r _ [18, 19, 20, 21, 22, 23, 24, 25, 26, 49, 50, 51] (by decide +kernel) (by decide +kernel)
set_option maxRecDepth 20000 in
theorem gX3_withEdge_X1_degree : GoodIn wsX3_withEdge (wsV RX3 82 RX1 yX1_degree wsX1_degree) := goodIn_app (goodIn_of _ (by decide +kernel)) ggX3_withEdge_X1_degree
set_option maxRecDepth 20000 in
theorem ggX3_withEdge_X1_high : GoodIn wsX3_withEdge wsX1_high := goodIn_r _ [30, 31, 49, 50, 51] (by decide +kernel) (by decide +kernel)
set_option maxRecDepth 20000 in
theorem gX3_withEdge_X1_high : GoodIn wsX3_withEdge (wsV RX3 39 RX1 yX1_high wsX1_high) := goodIn_app (goodIn_of _ (by decide +kernel)) ggX3_withEdge_X1_high
set_option maxRecDepth 20000 in
theorem ggX3_withEdge_X3_countWhole : GoodIn wsX3_withEdge wsX3_countWhole := goodIn_r _ [35] (by decide +kernel) (by decide +kernel)
set_option maxRecDepth 20000 in
theorem gX3_withEdge_X3_countWhole : GoodIn wsX3_withEdge (va_wsS RX3 85 yX3_countWhole wsX3_countWhole) := goodIn_app (goodIn_of _ (by decide +kernel)) ggX3_withEdge_X3_countWhole
set_option maxRecDepth 20000 in
theorem ggX3_withEdge_X1_hangTogether : GoodIn wsX3_withEdge wsX1_hangTogether := goodIn_r _ [39, 14, 31, 49, 50, 51] (by decide +kernel) (by decide +kernel)
set_option maxRecDepth 20000 in
theorem gX3_withEdge_X1_hangTogether : GoodIn wsX3_withEdge (wsV RX3 89 RX1 yX1_hangTogether wsX1_hangTogether) := goodIn_app (goodIn_of _ (by decide +kernel)) ggX3_withEdge_X1_hangTogether
set_option maxRecDepth 20000 in
theorem ggX3_withEdge_X3_unpack : GoodIn wsX3_withEdge wsX3_unpack := goodIn_r _ [42, 8, 43] (by decide +kernel) (by decide +kernel)
set_option maxRecDepth 20000 in
theorem gX3_withEdge_X3_unpack : GoodIn wsX3_withEdge (va_wsS RX3 73 yX3_unpack wsX3_unpack) := goodIn_app (goodIn_of _ (by decide +kernel)) ggX3_withEdge_X3_unpack
theorem dX3_withEdge_0 : decode cX3_withEdge 0 = .ok (.aload_n 0, 1) := by decide +kernel
theorem dX3_withEdge_1 : decode cX3_withEdge 1 = .ok (.getfield 9, 3) := by decide +kernel
theorem dX3_withEdge_4 : decode cX3_withEdge 4 = .ok (.iload_n 2, 1) := by decide +kernel
theorem dX3_withEdge_5 : decode cX3_withEdge 5 = .ok (.aload_n 0, 1) := by decide +kernel
theorem dX3_withEdge_6 : decode cX3_withEdge 6 = .ok (.getfield 9, 3) := by decide +kernel
theorem dX3_withEdge_9 : decode cX3_withEdge 9 = .ok (.iload_n 3, 1) := by decide +kernel
theorem dX3_withEdge_10 : decode cX3_withEdge 10 = .ok (.invokevirtual 33, 3) := by decide +kernel
theorem dX3_withEdge_13 : decode cX3_withEdge 13 = .ok (.invokevirtual 82, 3) := by decide +kernel
theorem dX3_withEdge_16 : decode cX3_withEdge 16 = .ok (.istore 4, 2) := by decide +kernel
theorem dX3_withEdge_18 : decode cX3_withEdge 18 = .ok (.aload_n 0, 1) := by decide +kernel
theorem dX3_withEdge_19 : decode cX3_withEdge 19 = .ok (.getfield 9, 3) := by decide +kernel
theorem dX3_withEdge_22 : decode cX3_withEdge 22 = .ok (.iload_n 2, 1) := by decide +kernel
theorem dX3_withEdge_23 : decode cX3_withEdge 23 = .ok (.aload_n 0, 1) := by decide +kernel
theorem dX3_withEdge_24 : decode cX3_withEdge 24 = .ok (.getfield 9, 3) := by decide +kernel
theorem dX3_withEdge_27 : decode cX3_withEdge 27 = .ok (.iload_n 3, 1) := by decide +kernel
theorem dX3_withEdge_28 : decode cX3_withEdge 28 = .ok (.invokevirtual 39, 3) := by decide +kernel
theorem dX3_withEdge_31 : decode cX3_withEdge 31 = .ok (.invokevirtual 82, 3) := by decide +kernel
theorem dX3_withEdge_34 : decode cX3_withEdge 34 = .ok (.istore 5, 2) := by decide +kernel
theorem dX3_withEdge_36 : decode cX3_withEdge 36 = .ok (.iload_n 2, 1) := by decide +kernel
theorem dX3_withEdge_37 : decode cX3_withEdge 37 = .ok (.aload_n 0, 1) := by decide +kernel
theorem dX3_withEdge_38 : decode cX3_withEdge 38 = .ok (.getfield 15, 3) := by decide +kernel
theorem dX3_withEdge_41 : decode cX3_withEdge 41 = .ok (.iload_n 3, 1) := by decide +kernel
theorem dX3_withEdge_42 : decode cX3_withEdge 42 = .ok (.iconst 4, 1) := by decide +kernel
theorem dX3_withEdge_43 : decode cX3_withEdge 43 = .ok (.imul, 1) := by decide +kernel
theorem dX3_withEdge_44 : decode cX3_withEdge 44 = .ok (.iconst 4, 1) := by decide +kernel
theorem dX3_withEdge_45 : decode cX3_withEdge 45 = .ok (.invokestatic 85, 3) := by decide +kernel
theorem dX3_withEdge_48 : decode cX3_withEdge 48 = .ok (.istore 6, 2) := by decide +kernel
theorem dX3_withEdge_50 : decode cX3_withEdge 50 = .ok (.iload_n 2, 1) := by decide +kernel
theorem dX3_withEdge_51 : decode cX3_withEdge 51 = .ok (.aload_n 0, 1) := by decide +kernel
theorem dX3_withEdge_52 : decode cX3_withEdge 52 = .ok (.getfield 19, 3) := by decide +kernel
theorem dX3_withEdge_55 : decode cX3_withEdge 55 = .ok (.iload_n 3, 1) := by decide +kernel
theorem dX3_withEdge_56 : decode cX3_withEdge 56 = .ok (.bipush 12, 2) := by decide +kernel
theorem dX3_withEdge_58 : decode cX3_withEdge 58 = .ok (.imul, 1) := by decide +kernel
theorem dX3_withEdge_59 : decode cX3_withEdge 59 = .ok (.bipush 12, 2) := by decide +kernel
theorem dX3_withEdge_61 : decode cX3_withEdge 61 = .ok (.invokestatic 85, 3) := by decide +kernel
theorem dX3_withEdge_64 : decode cX3_withEdge 64 = .ok (.istore 7, 2) := by decide +kernel
theorem dX3_withEdge_66 : decode cX3_withEdge 66 = .ok (.iload 6, 2) := by decide +kernel
theorem dX3_withEdge_68 : decode cX3_withEdge 68 = .ok (.ifCond .ne 39, 3) := by decide +kernel
theorem dX3_withEdge_71 : decode cX3_withEdge 71 = .ok (.iload 7, 2) := by decide +kernel
theorem dX3_withEdge_73 : decode cX3_withEdge 73 = .ok (.ifCond .ne 34, 3) := by decide +kernel
theorem dX3_withEdge_76 : decode cX3_withEdge 76 = .ok (.aload_n 0, 1) := by decide +kernel
theorem dX3_withEdge_77 : decode cX3_withEdge 77 = .ok (.getfield 9, 3) := by decide +kernel
theorem dX3_withEdge_80 : decode cX3_withEdge 80 = .ok (.iload_n 2, 1) := by decide +kernel
theorem dX3_withEdge_81 : decode cX3_withEdge 81 = .ok (.aload_n 0, 1) := by decide +kernel
theorem dX3_withEdge_82 : decode cX3_withEdge 82 = .ok (.getfield 9, 3) := by decide +kernel
theorem dX3_withEdge_85 : decode cX3_withEdge 85 = .ok (.iload_n 3, 1) := by decide +kernel
theorem dX3_withEdge_86 : decode cX3_withEdge 86 = .ok (.invokevirtual 33, 3) := by decide +kernel
theorem dX3_withEdge_89 : decode cX3_withEdge 89 = .ok (.aload_n 0, 1) := by decide +kernel
theorem dX3_withEdge_90 : decode cX3_withEdge 90 = .ok (.getfield 9, 3) := by decide +kernel
theorem dX3_withEdge_93 : decode cX3_withEdge 93 = .ok (.iload_n 3, 1) := by decide +kernel
theorem dX3_withEdge_94 : decode cX3_withEdge 94 = .ok (.invokevirtual 39, 3) := by decide +kernel
theorem dX3_withEdge_97 : decode cX3_withEdge 97 = .ok (.invokevirtual 89, 3) := by decide +kernel
theorem dX3_withEdge_100 : decode cX3_withEdge 100 = .ok (.ifCond .ne 7, 3) := by decide +kernel
theorem dX3_withEdge_103 : decode cX3_withEdge 103 = .ok (.iconst 1, 1) := by decide +kernel
theorem dX3_withEdge_104 : decode cX3_withEdge 104 = .ok (.goto 4, 3) := by decide +kernel
theorem dX3_withEdge_107 : decode cX3_withEdge 107 = .ok (.iconst 0, 1) := by decide +kernel
theorem dX3_withEdge_108 : decode cX3_withEdge 108 = .ok (.istore 8, 2) := by decide +kernel
theorem dX3_withEdge_110 : decode cX3_withEdge 110 = .ok (.iconst 0, 1) := by decide +kernel
theorem dX3_withEdge_111 : decode cX3_withEdge 111 = .ok (.iload 4, 2) := by decide +kernel
theorem dX3_withEdge_113 : decode cX3_withEdge 113 = .ok (.iload 5, 2) := by decide +kernel
theorem dX3_withEdge_115 : decode cX3_withEdge 115 = .ok (.invokestatic 93, 3) := by decide +kernel
theorem dX3_withEdge_118 : decode cX3_withEdge 118 = .ok (.iconst 1, 1) := by decide +kernel
theorem dX3_withEdge_119 : decode cX3_withEdge 119 = .ok (.iadd, 1) := by decide +kernel
theorem dX3_withEdge_120 : decode cX3_withEdge 120 = .ok (.iconst 4, 1) := by decide +kernel
theorem dX3_withEdge_121 : decode cX3_withEdge 121 = .ok (.iload_n 1, 1) := by decide +kernel
theorem dX3_withEdge_122 : decode cX3_withEdge 122 = .ok (.invokestatic 73, 3) := by decide +kernel
theorem dX3_withEdge_125 : decode cX3_withEdge 125 = .ok (.isub, 1) := by decide +kernel
theorem dX3_withEdge_126 : decode cX3_withEdge 126 = .ok (.invokestatic 93, 3) := by decide +kernel
theorem dX3_withEdge_129 : decode cX3_withEdge 129 = .ok (.istore 9, 2) := by decide +kernel
theorem dX3_withEdge_131 : decode cX3_withEdge 131 = .ok (.iload 4, 2) := by decide +kernel
theorem dX3_withEdge_133 : decode cX3_withEdge 133 = .ok (.ifCond .ne 7, 3) := by decide +kernel
theorem dX3_withEdge_136 : decode cX3_withEdge 136 = .ok (.iconst 1, 1) := by decide +kernel
theorem dX3_withEdge_137 : decode cX3_withEdge 137 = .ok (.goto 4, 3) := by decide +kernel
theorem dX3_withEdge_140 : decode cX3_withEdge 140 = .ok (.iconst 0, 1) := by decide +kernel
theorem dX3_withEdge_141 : decode cX3_withEdge 141 = .ok (.iload 5, 2) := by decide +kernel
theorem dX3_withEdge_143 : decode cX3_withEdge 143 = .ok (.ifCond .ne 7, 3) := by decide +kernel
theorem dX3_withEdge_146 : decode cX3_withEdge 146 = .ok (.iconst 1, 1) := by decide +kernel
theorem dX3_withEdge_147 : decode cX3_withEdge 147 = .ok (.goto 4, 3) := by decide +kernel
theorem dX3_withEdge_150 : decode cX3_withEdge 150 = .ok (.iconst 0, 1) := by decide +kernel
theorem dX3_withEdge_151 : decode cX3_withEdge 151 = .ok (.iadd, 1) := by decide +kernel
theorem dX3_withEdge_152 : decode cX3_withEdge 152 = .ok (.istore 10, 2) := by decide +kernel
theorem dX3_withEdge_154 : decode cX3_withEdge 154 = .ok (.iload_n 1, 1) := by decide +kernel
theorem dX3_withEdge_155 : decode cX3_withEdge 155 = .ok (.iconst 1, 1) := by decide +kernel
theorem dX3_withEdge_156 : decode cX3_withEdge 156 = .ok (.getstatic 76, 3) := by decide +kernel
theorem dX3_withEdge_159 : decode cX3_withEdge 159 = .ok (.iconst 0, 1) := by decide +kernel
theorem dX3_withEdge_160 : decode cX3_withEdge 160 = .ok (.iaload, 1) := by decide +kernel
theorem dX3_withEdge_161 : decode cX3_withEdge 161 = .ok (.ishl, 1) := by decide +kernel
theorem dX3_withEdge_162 : decode cX3_withEdge 162 = .ok (.iadd, 1) := by decide +kernel
theorem dX3_withEdge_163 : decode cX3_withEdge 163 = .ok (.iload 6, 2) := by decide +kernel
theorem dX3_withEdge_165 : decode cX3_withEdge 165 = .ok (.getstatic 76, 3) := by decide +kernel
theorem dX3_withEdge_168 : decode cX3_withEdge 168 = .ok (.iconst 1, 1) := by decide +kernel
theorem dX3_withEdge_169 : decode cX3_withEdge 169 = .ok (.iaload, 1) := by decide +kernel
theorem dX3_withEdge_170 : decode cX3_withEdge 170 = .ok (.ishl, 1) := by decide +kernel
theorem dX3_withEdge_171 : decode cX3_withEdge 171 = .ok (.iadd, 1) := by decide +kernel
theorem dX3_withEdge_172 : decode cX3_withEdge 172 = .ok (.iload 4, 2) := by decide +kernel
theorem dX3_withEdge_174 : decode cX3_withEdge 174 = .ok (.iload 5, 2) := by decide +kernel
theorem dX3_withEdge_176 : decode cX3_withEdge 176 = .ok (.iadd, 1) := by decide +kernel
theorem dX3_withEdge_177 : decode cX3_withEdge 177 = .ok (.getstatic 76, 3) := by decide +kernel
theorem dX3_withEdge_180 : decode cX3_withEdge 180 = .ok (.iconst 2, 1) := by decide +kernel
theorem dX3_withEdge_181 : decode cX3_withEdge 181 = .ok (.iaload, 1) := by decide +kernel
theorem dX3_withEdge_182 : decode cX3_withEdge 182 = .ok (.ishl, 1) := by decide +kernel
theorem dX3_withEdge_183 : decode cX3_withEdge 183 = .ok (.iadd, 1) := by decide +kernel
theorem dX3_withEdge_184 : decode cX3_withEdge 184 = .ok (.iload 8, 2) := by decide +kernel
theorem dX3_withEdge_186 : decode cX3_withEdge 186 = .ok (.ifCond .eq 7, 3) := by decide +kernel
theorem dX3_withEdge_189 : decode cX3_withEdge 189 = .ok (.iconst 1, 1) := by decide +kernel
theorem dX3_withEdge_190 : decode cX3_withEdge 190 = .ok (.goto 4, 3) := by decide +kernel
theorem dX3_withEdge_193 : decode cX3_withEdge 193 = .ok (.iconst 0, 1) := by decide +kernel
theorem dX3_withEdge_194 : decode cX3_withEdge 194 = .ok (.getstatic 76, 3) := by decide +kernel
theorem dX3_withEdge_197 : decode cX3_withEdge 197 = .ok (.iconst 3, 1) := by decide +kernel
theorem dX3_withEdge_198 : decode cX3_withEdge 198 = .ok (.iaload, 1) := by decide +kernel
theorem dX3_withEdge_199 : decode cX3_withEdge 199 = .ok (.ishl, 1) := by decide +kernel
theorem dX3_withEdge_200 : decode cX3_withEdge 200 = .ok (.iadd, 1) := by decide +kernel
theorem dX3_withEdge_201 : decode cX3_withEdge 201 = .ok (.iload 9, 2) := by decide +kernel
theorem dX3_withEdge_203 : decode cX3_withEdge 203 = .ok (.getstatic 76, 3) := by decide +kernel
theorem dX3_withEdge_206 : decode cX3_withEdge 206 = .ok (.iconst 4, 1) := by decide +kernel
theorem dX3_withEdge_207 : decode cX3_withEdge 207 = .ok (.iaload, 1) := by decide +kernel
theorem dX3_withEdge_208 : decode cX3_withEdge 208 = .ok (.ishl, 1) := by decide +kernel
theorem dX3_withEdge_209 : decode cX3_withEdge 209 = .ok (.iadd, 1) := by decide +kernel
theorem dX3_withEdge_210 : decode cX3_withEdge 210 = .ok (.iload 7, 2) := by decide +kernel
theorem dX3_withEdge_212 : decode cX3_withEdge 212 = .ok (.getstatic 76, 3) := by decide +kernel
theorem dX3_withEdge_215 : decode cX3_withEdge 215 = .ok (.iconst 5, 1) := by decide +kernel
theorem dX3_withEdge_216 : decode cX3_withEdge 216 = .ok (.iaload, 1) := by decide +kernel
theorem dX3_withEdge_217 : decode cX3_withEdge 217 = .ok (.ishl, 1) := by decide +kernel
theorem dX3_withEdge_218 : decode cX3_withEdge 218 = .ok (.iadd, 1) := by decide +kernel
theorem dX3_withEdge_219 : decode cX3_withEdge 219 = .ok (.iload 10, 2) := by decide +kernel
theorem dX3_withEdge_221 : decode cX3_withEdge 221 = .ok (.getstatic 76, 3) := by decide +kernel
theorem dX3_withEdge_224 : decode cX3_withEdge 224 = .ok (.bipush 6, 2) := by decide +kernel
theorem dX3_withEdge_226 : decode cX3_withEdge 226 = .ok (.iaload, 1) := by decide +kernel
theorem dX3_withEdge_227 : decode cX3_withEdge 227 = .ok (.ishl, 1) := by decide +kernel
