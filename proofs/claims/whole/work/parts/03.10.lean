theorem dX7_pairOf_1 : decode cX7_pairOf 1 = .ok (.iload_n 1, 1) := by decide +kernel
theorem dX7_pairOf_2 : decode cX7_pairOf 2 = .ok (.if_icmp .ge 15, 3) := by decide +kernel
theorem dX7_pairOf_5 : decode cX7_pairOf 5 = .ok (.iload_n 1, 1) := by decide +kernel
theorem dX7_pairOf_6 : decode cX7_pairOf 6 = .ok (.iload_n 1, 1) := by decide +kernel
theorem dX7_pairOf_7 : decode cX7_pairOf 7 = .ok (.iconst 1, 1) := by decide +kernel
theorem dX7_pairOf_8 : decode cX7_pairOf 8 = .ok (.isub, 1) := by decide +kernel
theorem dX7_pairOf_9 : decode cX7_pairOf 9 = .ok (.imul, 1) := by decide +kernel
theorem dX7_pairOf_10 : decode cX7_pairOf 10 = .ok (.iconst 2, 1) := by decide +kernel
theorem dX7_pairOf_11 : decode cX7_pairOf 11 = .ok (.idiv, 1) := by decide +kernel
theorem dX7_pairOf_12 : decode cX7_pairOf 12 = .ok (.iload_n 0, 1) := by decide +kernel
theorem dX7_pairOf_13 : decode cX7_pairOf 13 = .ok (.iadd, 1) := by decide +kernel
theorem dX7_pairOf_14 : decode cX7_pairOf 14 = .ok (.goto 12, 3) := by decide +kernel
theorem dX7_pairOf_17 : decode cX7_pairOf 17 = .ok (.iload_n 0, 1) := by decide +kernel
theorem dX7_pairOf_18 : decode cX7_pairOf 18 = .ok (.iload_n 0, 1) := by decide +kernel
theorem dX7_pairOf_19 : decode cX7_pairOf 19 = .ok (.iconst 1, 1) := by decide +kernel
theorem dX7_pairOf_20 : decode cX7_pairOf 20 = .ok (.isub, 1) := by decide +kernel
theorem dX7_pairOf_21 : decode cX7_pairOf 21 = .ok (.imul, 1) := by decide +kernel
theorem dX7_pairOf_22 : decode cX7_pairOf 22 = .ok (.iconst 2, 1) := by decide +kernel
theorem dX7_pairOf_23 : decode cX7_pairOf 23 = .ok (.idiv, 1) := by decide +kernel
theorem dX7_pairOf_24 : decode cX7_pairOf 24 = .ok (.iload_n 1, 1) := by decide +kernel
theorem dX7_pairOf_25 : decode cX7_pairOf 25 = .ok (.iadd, 1) := by decide +kernel
theorem dX7_pairOf_26 : decode cX7_pairOf 26 = .ok (.ireturn, 1) := by decide +kernel
set_option maxRecDepth 20000 in
theorem ggX7_has_X7_pairOf : GoodIn wsX7_has wsX7_pairOf := goodIn_r _ [4] (by decide +kernel) (by decide +kernel)
set_option maxRecDepth 20000 in
theorem gX7_has_X7_pairOf : GoodIn wsX7_has (va_wsS RX7 63 yX7_pairOf wsX7_pairOf) := goodIn_app (goodIn_of _ (by decide +kernel)) ggX7_has_X7_pairOf
theorem dX7_has_0 : decode cX7_has 0 = .ok (.iload_n 1, 1) := by decide +kernel
theorem dX7_has_1 : decode cX7_has 1 = .ok (.iload_n 2, 1) := by decide +kernel
theorem dX7_has_2 : decode cX7_has 2 = .ok (.if_icmp .eq 20, 3) := by decide +kernel
theorem dX7_has_5 : decode cX7_has 5 = .ok (.iload_n 0, 1) := by decide +kernel
theorem dX7_has_6 : decode cX7_has 6 = .ok (.iload_n 1, 1) := by decide +kernel
theorem dX7_has_7 : decode cX7_has 7 = .ok (.iload_n 2, 1) := by decide +kernel
theorem dX7_has_8 : decode cX7_has 8 = .ok (.invokestatic 63, 3) := by decide +kernel
theorem dX7_has_11 : decode cX7_has 11 = .ok (.ishr, 1) := by decide +kernel
theorem dX7_has_12 : decode cX7_has 12 = .ok (.iconst 1, 1) := by decide +kernel
theorem dX7_has_13 : decode cX7_has 13 = .ok (.iand, 1) := by decide +kernel
theorem dX7_has_14 : decode cX7_has 14 = .ok (.iconst 1, 1) := by decide +kernel
theorem dX7_has_15 : decode cX7_has 15 = .ok (.if_icmp .ne 7, 3) := by decide +kernel
theorem dX7_has_18 : decode cX7_has 18 = .ok (.iconst 1, 1) := by decide +kernel
theorem dX7_has_19 : decode cX7_has 19 = .ok (.goto 4, 3) := by decide +kernel
theorem dX7_has_22 : decode cX7_has 22 = .ok (.iconst 0, 1) := by decide +kernel
theorem dX7_has_23 : decode cX7_has 23 = .ok (.ireturn, 1) := by decide +kernel
set_option maxRecDepth 20000 in
theorem ggX7_begin_X7_in : GoodIn wsX7_begin wsX7_in := goodIn_r _ [10] (by decide +kernel) (by decide +kernel)
set_option maxRecDepth 20000 in
theorem gX7_begin_X7_in : GoodIn wsX7_begin (va_wsS RX7 56 yX7_in wsX7_in) := goodIn_app (goodIn_of _ (by decide +kernel)) ggX7_begin_X7_in
theorem dX7_begin_0 : decode cX7_begin 0 = .ok (.iload_n 1, 1) := by decide +kernel
theorem dX7_begin_1 : decode cX7_begin 1 = .ok (.i2l, 1) := by decide +kernel
theorem dX7_begin_2 : decode cX7_begin 2 = .ok (.lconst 1, 1) := by decide +kernel
theorem dX7_begin_3 : decode cX7_begin 3 = .ok (.ldc2_w 67, 3) := by decide +kernel
theorem dX7_begin_6 : decode cX7_begin 6 = .ok (.invokestatic 56, 3) := by decide +kernel
theorem dX7_begin_9 : decode cX7_begin 9 = .ok (.ifCond .ne 5, 3) := by decide +kernel
theorem dX7_begin_12 : decode cX7_begin 12 = .ok (.iconst (-1), 1) := by decide +kernel
theorem dX7_begin_13 : decode cX7_begin 13 = .ok (.ireturn, 1) := by decide +kernel
theorem dX7_begin_14 : decode cX7_begin 14 = .ok (.aload_n 0, 1) := by decide +kernel
theorem dX7_begin_15 : decode cX7_begin 15 = .ok (.iload_n 1, 1) := by decide +kernel
theorem dX7_begin_16 : decode cX7_begin 16 = .ok (.putfield 7, 3) := by decide +kernel
theorem dX7_begin_19 : decode cX7_begin 19 = .ok (.aload_n 0, 1) := by decide +kernel
theorem dX7_begin_20 : decode cX7_begin 20 = .ok (.aload_n 0, 1) := by decide +kernel
theorem dX7_begin_21 : decode cX7_begin 21 = .ok (.getfield 7, 3) := by decide +kernel
theorem dX7_begin_24 : decode cX7_begin 24 = .ok (.aload_n 0, 1) := by decide +kernel
theorem dX7_begin_25 : decode cX7_begin 25 = .ok (.getfield 7, 3) := by decide +kernel
theorem dX7_begin_28 : decode cX7_begin 28 = .ok (.iconst 1, 1) := by decide +kernel
theorem dX7_begin_29 : decode cX7_begin 29 = .ok (.isub, 1) := by decide +kernel
theorem dX7_begin_30 : decode cX7_begin 30 = .ok (.imul, 1) := by decide +kernel
theorem dX7_begin_31 : decode cX7_begin 31 = .ok (.iconst 2, 1) := by decide +kernel
theorem dX7_begin_32 : decode cX7_begin 32 = .ok (.idiv, 1) := by decide +kernel
theorem dX7_begin_33 : decode cX7_begin 33 = .ok (.putfield 60, 3) := by decide +kernel
theorem dX7_begin_36 : decode cX7_begin 36 = .ok (.aload_n 0, 1) := by decide +kernel
theorem dX7_begin_37 : decode cX7_begin 37 = .ok (.iconst 0, 1) := by decide +kernel
theorem dX7_begin_38 : decode cX7_begin 38 = .ok (.putfield 69, 3) := by decide +kernel
theorem dX7_begin_41 : decode cX7_begin 41 = .ok (.aload_n 0, 1) := by decide +kernel
theorem dX7_begin_42 : decode cX7_begin 42 = .ok (.iconst 0, 1) := by decide +kernel
theorem dX7_begin_43 : decode cX7_begin 43 = .ok (.putfield 72, 3) := by decide +kernel
theorem dX7_begin_46 : decode cX7_begin 46 = .ok (.iconst 0, 1) := by decide +kernel
theorem dX7_begin_47 : decode cX7_begin 47 = .ok (.istore_n 2, 1) := by decide +kernel
theorem dX7_begin_48 : decode cX7_begin 48 = .ok (.iload_n 2, 1) := by decide +kernel
theorem dX7_begin_49 : decode cX7_begin 49 = .ok (.bipush 6, 2) := by decide +kernel
theorem dX7_begin_51 : decode cX7_begin 51 = .ok (.if_icmp .ge 16, 3) := by decide +kernel
theorem dX7_begin_54 : decode cX7_begin 54 = .ok (.aload_n 0, 1) := by decide +kernel
theorem dX7_begin_55 : decode cX7_begin 55 = .ok (.getfield 13, 3) := by decide +kernel
theorem dX7_begin_58 : decode cX7_begin 58 = .ok (.iload_n 2, 1) := by decide +kernel
theorem dX7_begin_59 : decode cX7_begin 59 = .ok (.iconst 0, 1) := by decide +kernel
theorem dX7_begin_60 : decode cX7_begin 60 = .ok (.iastore, 1) := by decide +kernel
theorem dX7_begin_61 : decode cX7_begin 61 = .ok (.iinc 2 1, 3) := by decide +kernel
theorem dX7_begin_64 : decode cX7_begin 64 = .ok (.goto (-16), 3) := by decide +kernel
theorem dX7_begin_67 : decode cX7_begin 67 = .ok (.aload_n 0, 1) := by decide +kernel
theorem dX7_begin_68 : decode cX7_begin 68 = .ok (.getfield 60, 3) := by decide +kernel
theorem dX7_begin_71 : decode cX7_begin 71 = .ok (.ireturn, 1) := by decide +kernel
set_option maxRecDepth 20000 in
theorem ggX7_edge_X7_isNode : GoodIn wsX7_edge wsX7_isNode := goodIn_r _ [6, 7, 8, 9, 5, 10, 17, 18, 19, 20, 21, 22, 23, 24, 25, 26, 27, 28, 29, 30, 31, 32, 33, 34, 35, 36, 37] (by decide +kernel) (by decide +kernel)
set_option maxRecDepth 20000 in
theorem gX7_edge_X7_isNode : GoodIn wsX7_edge (wsV RX7 75 RX7 yX7_isNode wsX7_isNode) := goodIn_app (goodIn_of _ (by decide +kernel)) ggX7_edge_X7_isNode
set_option maxRecDepth 20000 in
theorem ggX7_edge_X7_has : GoodIn wsX7_edge wsX7_has := goodIn_r _ [13, 14, 15, 5, 16] (by decide +kernel) (by decide +kernel)
set_option maxRecDepth 20000 in
theorem gX7_edge_X7_has : GoodIn wsX7_edge (va_wsS RX7 79 yX7_has wsX7_has) := goodIn_app (goodIn_of _ (by decide +kernel)) ggX7_edge_X7_has
set_option maxRecDepth 20000 in
theorem ggX7_edge_X7_pairOf : GoodIn wsX7_edge wsX7_pairOf := goodIn_r _ [16] (by decide +kernel) (by decide +kernel)
set_option maxRecDepth 20000 in
theorem gX7_edge_X7_pairOf : GoodIn wsX7_edge (va_wsS RX7 63 yX7_pairOf wsX7_pairOf) := goodIn_app (goodIn_of _ (by decide +kernel)) ggX7_edge_X7_pairOf
theorem dX7_edge_0 : decode cX7_edge 0 = .ok (.aload_n 0, 1) := by decide +kernel
theorem dX7_edge_1 : decode cX7_edge 1 = .ok (.iload_n 1, 1) := by decide +kernel
theorem dX7_edge_2 : decode cX7_edge 2 = .ok (.invokevirtual 75, 3) := by decide +kernel
theorem dX7_edge_5 : decode cX7_edge 5 = .ok (.ifCond .eq 16, 3) := by decide +kernel
theorem dX7_edge_8 : decode cX7_edge 8 = .ok (.aload_n 0, 1) := by decide +kernel
theorem dX7_edge_9 : decode cX7_edge 9 = .ok (.iload_n 2, 1) := by decide +kernel
theorem dX7_edge_10 : decode cX7_edge 10 = .ok (.invokevirtual 75, 3) := by decide +kernel
theorem dX7_edge_13 : decode cX7_edge 13 = .ok (.ifCond .eq 8, 3) := by decide +kernel
theorem dX7_edge_16 : decode cX7_edge 16 = .ok (.iload_n 1, 1) := by decide +kernel
theorem dX7_edge_17 : decode cX7_edge 17 = .ok (.iload_n 2, 1) := by decide +kernel
theorem dX7_edge_18 : decode cX7_edge 18 = .ok (.if_icmp .ne 5, 3) := by decide +kernel
theorem dX7_edge_21 : decode cX7_edge 21 = .ok (.iconst (-1), 1) := by decide +kernel
theorem dX7_edge_22 : decode cX7_edge 22 = .ok (.ireturn, 1) := by decide +kernel
theorem dX7_edge_23 : decode cX7_edge 23 = .ok (.aload_n 0, 1) := by decide +kernel
theorem dX7_edge_24 : decode cX7_edge 24 = .ok (.getfield 69, 3) := by decide +kernel
theorem dX7_edge_27 : decode cX7_edge 27 = .ok (.iload_n 1, 1) := by decide +kernel
theorem dX7_edge_28 : decode cX7_edge 28 = .ok (.iload_n 2, 1) := by decide +kernel
theorem dX7_edge_29 : decode cX7_edge 29 = .ok (.invokestatic 79, 3) := by decide +kernel
theorem dX7_edge_32 : decode cX7_edge 32 = .ok (.iload_n 3, 1) := by decide +kernel
theorem dX7_edge_33 : decode cX7_edge 33 = .ok (.if_icmp .ne 5, 3) := by decide +kernel
theorem dX7_edge_36 : decode cX7_edge 36 = .ok (.iconst 0, 1) := by decide +kernel
theorem dX7_edge_37 : decode cX7_edge 37 = .ok (.ireturn, 1) := by decide +kernel
theorem dX7_edge_38 : decode cX7_edge 38 = .ok (.aload_n 0, 1) := by decide +kernel
theorem dX7_edge_39 : decode cX7_edge 39 = .ok (.dup, 1) := by decide +kernel
theorem dX7_edge_40 : decode cX7_edge 40 = .ok (.getfield 69, 3) := by decide +kernel
theorem dX7_edge_43 : decode cX7_edge 43 = .ok (.iconst 1, 1) := by decide +kernel
theorem dX7_edge_44 : decode cX7_edge 44 = .ok (.iload_n 1, 1) := by decide +kernel
theorem dX7_edge_45 : decode cX7_edge 45 = .ok (.iload_n 2, 1) := by decide +kernel
theorem dX7_edge_46 : decode cX7_edge 46 = .ok (.invokestatic 63, 3) := by decide +kernel
theorem dX7_edge_49 : decode cX7_edge 49 = .ok (.ishl, 1) := by decide +kernel
theorem dX7_edge_50 : decode cX7_edge 50 = .ok (.ixor, 1) := by decide +kernel
theorem dX7_edge_51 : decode cX7_edge 51 = .ok (.putfield 69, 3) := by decide +kernel
theorem dX7_edge_54 : decode cX7_edge 54 = .ok (.iconst 1, 1) := by decide +kernel
theorem dX7_edge_55 : decode cX7_edge 55 = .ok (.ireturn, 1) := by decide +kernel
set_option maxRecDepth 20000 in
theorem ggX7_label_X7_isNode : GoodIn wsX7_label wsX7_isNode := goodIn_r _ [7, 8, 9, 10, 6, 11, 12, 13, 14, 15, 16, 17, 18, 19, 20, 21, 22, 23, 24, 25, 26, 27, 28, 29, 30, 31, 32] (by decide +kernel) (by decide +kernel)
set_option maxRecDepth 20000 in
theorem gX7_label_X7_isNode : GoodIn wsX7_label (wsV RX7 75 RX7 yX7_isNode wsX7_isNode) := goodIn_app (goodIn_of _ (by decide +kernel)) ggX7_label_X7_isNode
set_option maxRecDepth 20000 in
theorem ggX7_label_X7_in : GoodIn wsX7_label wsX7_in := goodIn_r _ [11] (by decide +kernel) (by decide +kernel)
set_option maxRecDepth 20000 in
theorem gX7_label_X7_in : GoodIn wsX7_label (va_wsS RX7 56 yX7_in wsX7_in) := goodIn_app (goodIn_of _ (by decide +kernel)) ggX7_label_X7_in
theorem dX7_label_0 : decode cX7_label 0 = .ok (.aload_n 0, 1) := by decide +kernel
theorem dX7_label_1 : decode cX7_label 1 = .ok (.iload_n 1, 1) := by decide +kernel
theorem dX7_label_2 : decode cX7_label 2 = .ok (.invokevirtual 75, 3) := by decide +kernel
theorem dX7_label_5 : decode cX7_label 5 = .ok (.ifCond .eq 15, 3) := by decide +kernel
theorem dX7_label_8 : decode cX7_label 8 = .ok (.iload_n 2, 1) := by decide +kernel
theorem dX7_label_9 : decode cX7_label 9 = .ok (.i2l, 1) := by decide +kernel
theorem dX7_label_10 : decode cX7_label 10 = .ok (.lconst 0, 1) := by decide +kernel
theorem dX7_label_11 : decode cX7_label 11 = .ok (.ldc2_w 83, 3) := by decide +kernel
theorem dX7_label_14 : decode cX7_label 14 = .ok (.invokestatic 56, 3) := by decide +kernel
theorem dX7_label_17 : decode cX7_label 17 = .ok (.ifCond .ne 5, 3) := by decide +kernel
theorem dX7_label_20 : decode cX7_label 20 = .ok (.iconst (-1), 1) := by decide +kernel
theorem dX7_label_21 : decode cX7_label 21 = .ok (.ireturn, 1) := by decide +kernel
theorem dX7_label_22 : decode cX7_label 22 = .ok (.aload_n 0, 1) := by decide +kernel
theorem dX7_label_23 : decode cX7_label 23 = .ok (.getfield 13, 3) := by decide +kernel
theorem dX7_label_26 : decode cX7_label 26 = .ok (.iload_n 1, 1) := by decide +kernel
theorem dX7_label_27 : decode cX7_label 27 = .ok (.iaload, 1) := by decide +kernel
theorem dX7_label_28 : decode cX7_label 28 = .ok (.istore_n 3, 1) := by decide +kernel
theorem dX7_label_29 : decode cX7_label 29 = .ok (.aload_n 0, 1) := by decide +kernel
theorem dX7_label_30 : decode cX7_label 30 = .ok (.getfield 13, 3) := by decide +kernel
theorem dX7_label_33 : decode cX7_label 33 = .ok (.iload_n 1, 1) := by decide +kernel
theorem dX7_label_34 : decode cX7_label 34 = .ok (.iload_n 2, 1) := by decide +kernel
theorem dX7_label_35 : decode cX7_label 35 = .ok (.iastore, 1) := by decide +kernel
theorem dX7_label_36 : decode cX7_label 36 = .ok (.iload_n 3, 1) := by decide +kernel
theorem dX7_label_37 : decode cX7_label 37 = .ok (.ireturn, 1) := by decide +kernel
set_option maxRecDepth 20000 in
theorem ggX7_chance_X7_in : GoodIn wsX7_chance wsX7_in := goodIn_r _ [7] (by decide +kernel) (by decide +kernel)
set_option maxRecDepth 20000 in
theorem gX7_chance_X7_in : GoodIn wsX7_chance (va_wsS RX7 56 yX7_in wsX7_in) := goodIn_app (goodIn_of _ (by decide +kernel)) ggX7_chance_X7_in
theorem dX7_chance_0 : decode cX7_chance 0 = .ok (.iload_n 2, 1) := by decide +kernel
theorem dX7_chance_1 : decode cX7_chance 1 = .ok (.i2l, 1) := by decide +kernel
theorem dX7_chance_2 : decode cX7_chance 2 = .ok (.lconst 1, 1) := by decide +kernel
theorem dX7_chance_3 : decode cX7_chance 3 = .ok (.ldc2_w 85, 3) := by decide +kernel
theorem dX7_chance_6 : decode cX7_chance 6 = .ok (.invokestatic 56, 3) := by decide +kernel
theorem dX7_chance_9 : decode cX7_chance 9 = .ok (.ifCond .eq 14, 3) := by decide +kernel
theorem dX7_chance_12 : decode cX7_chance 12 = .ok (.iload_n 1, 1) := by decide +kernel
theorem dX7_chance_13 : decode cX7_chance 13 = .ok (.i2l, 1) := by decide +kernel
theorem dX7_chance_14 : decode cX7_chance 14 = .ok (.lconst 0, 1) := by decide +kernel
theorem dX7_chance_15 : decode cX7_chance 15 = .ok (.iload_n 2, 1) := by decide +kernel
theorem dX7_chance_16 : decode cX7_chance 16 = .ok (.i2l, 1) := by decide +kernel
theorem dX7_chance_17 : decode cX7_chance 17 = .ok (.invokestatic 56, 3) := by decide +kernel
theorem dX7_chance_20 : decode cX7_chance 20 = .ok (.ifCond .ne 5, 3) := by decide +kernel
theorem dX7_chance_23 : decode cX7_chance 23 = .ok (.iconst (-1), 1) := by decide +kernel
theorem dX7_chance_24 : decode cX7_chance 24 = .ok (.ireturn, 1) := by decide +kernel
theorem dX7_chance_25 : decode cX7_chance 25 = .ok (.aload_n 0, 1) := by decide +kernel
theorem dX7_chance_26 : decode cX7_chance 26 = .ok (.iload_n 1, 1) := by decide +kernel
theorem dX7_chance_27 : decode cX7_chance 27 = .ok (.putfield 17, 3) := by decide +kernel
theorem dX7_chance_30 : decode cX7_chance 30 = .ok (.aload_n 0, 1) := by decide +kernel
theorem dX7_chance_31 : decode cX7_chance 31 = .ok (.iload_n 2, 1) := by decide +kernel
theorem dX7_chance_32 : decode cX7_chance 32 = .ok (.putfield 20, 3) := by decide +kernel
theorem dX7_chance_35 : decode cX7_chance 35 = .ok (.iconst 1, 1) := by decide +kernel
theorem dX7_chance_36 : decode cX7_chance 36 = .ok (.ireturn, 1) := by decide +kernel
set_option maxRecDepth 20000 in
theorem ggX7_lean_X7_in : GoodIn wsX7_lean wsX7_in := goodIn_r _ [8] (by decide +kernel) (by decide +kernel)
set_option maxRecDepth 20000 in
theorem gX7_lean_X7_in : GoodIn wsX7_lean (va_wsS RX7 56 yX7_in wsX7_in) := goodIn_app (goodIn_of _ (by decide +kernel)) ggX7_lean_X7_in
theorem dX7_lean_0 : decode cX7_lean 0 = .ok (.iload_n 1, 1) := by decide +kernel
theorem dX7_lean_1 : decode cX7_lean 1 = .ok (.i2l, 1) := by decide +kernel
theorem dX7_lean_2 : decode cX7_lean 2 = .ok (.lconst 1, 1) := by decide +kernel
theorem dX7_lean_3 : decode cX7_lean 3 = .ok (.ldc2_w 87, 3) := by decide +kernel
theorem dX7_lean_6 : decode cX7_lean 6 = .ok (.invokestatic 56, 3) := by decide +kernel
theorem dX7_lean_9 : decode cX7_lean 9 = .ok (.ifCond .eq 15, 3) := by decide +kernel
theorem dX7_lean_12 : decode cX7_lean 12 = .ok (.iload_n 2, 1) := by decide +kernel
theorem dX7_lean_13 : decode cX7_lean 13 = .ok (.i2l, 1) := by decide +kernel
theorem dX7_lean_14 : decode cX7_lean 14 = .ok (.lconst 1, 1) := by decide +kernel
theorem dX7_lean_15 : decode cX7_lean 15 = .ok (.ldc2_w 83, 3) := by decide +kernel
theorem dX7_lean_18 : decode cX7_lean 18 = .ok (.invokestatic 56, 3) := by decide +kernel
theorem dX7_lean_21 : decode cX7_lean 21 = .ok (.ifCond .ne 5, 3) := by decide +kernel
theorem dX7_lean_24 : decode cX7_lean 24 = .ok (.iconst (-1), 1) := by decide +kernel
theorem dX7_lean_25 : decode cX7_lean 25 = .ok (.ireturn, 1) := by decide +kernel
theorem dX7_lean_26 : decode cX7_lean 26 = .ok (.aload_n 0, 1) := by decide +kernel
theorem dX7_lean_27 : decode cX7_lean 27 = .ok (.iload_n 1, 1) := by decide +kernel
theorem dX7_lean_28 : decode cX7_lean 28 = .ok (.putfield 23, 3) := by decide +kernel
theorem dX7_lean_31 : decode cX7_lean 31 = .ok (.aload_n 0, 1) := by decide +kernel
theorem dX7_lean_32 : decode cX7_lean 32 = .ok (.iload_n 2, 1) := by decide +kernel
theorem dX7_lean_33 : decode cX7_lean 33 = .ok (.putfield 26, 3) := by decide +kernel
theorem dX7_lean_36 : decode cX7_lean 36 = .ok (.iconst 1, 1) := by decide +kernel
theorem dX7_lean_37 : decode cX7_lean 37 = .ok (.ireturn, 1) := by decide +kernel
theorem dX7_number_0 : decode cX7_number 0 = .ok (.aload_n 0, 1) := by decide +kernel
theorem dX7_number_1 : decode cX7_number 1 = .ok (.getfield 69, 3) := by decide +kernel
theorem dX7_number_4 : decode cX7_number 4 = .ok (.ireturn, 1) := by decide +kernel
set_option maxRecDepth 20000 in
theorem ggX7_become_X7_isNumber : GoodIn wsX7_become wsX7_isNumber := goodIn_r _ [6, 7, 8, 9, 5, 10, 11, 12, 13, 14, 15, 16, 17, 18, 19, 20, 21, 22, 23, 24, 25, 26, 27, 28, 29, 30, 31] (by decide +kernel) (by decide +kernel)
set_option maxRecDepth 20000 in
theorem gX7_become_X7_isNumber : GoodIn wsX7_become (wsV RX7 89 RX7 yX7_isNumber wsX7_isNumber) := goodIn_app (goodIn_of _ (by decide +kernel)) ggX7_become_X7_isNumber
theorem dX7_become_0 : decode cX7_become 0 = .ok (.aload_n 0, 1) := by decide +kernel
theorem dX7_become_1 : decode cX7_become 1 = .ok (.iload_n 1, 1) := by decide +kernel
theorem dX7_become_2 : decode cX7_become 2 = .ok (.invokevirtual 89, 3) := by decide +kernel
theorem dX7_become_5 : decode cX7_become 5 = .ok (.ifCond .ne 5, 3) := by decide +kernel
theorem dX7_become_8 : decode cX7_become 8 = .ok (.iconst (-1), 1) := by decide +kernel
theorem dX7_become_9 : decode cX7_become 9 = .ok (.ireturn, 1) := by decide +kernel
theorem dX7_become_10 : decode cX7_become 10 = .ok (.aload_n 0, 1) := by decide +kernel
theorem dX7_become_11 : decode cX7_become 11 = .ok (.iload_n 1, 1) := by decide +kernel
theorem dX7_become_12 : decode cX7_become 12 = .ok (.putfield 69, 3) := by decide +kernel
theorem dX7_become_15 : decode cX7_become 15 = .ok (.iconst 1, 1) := by decide +kernel
theorem dX7_become_16 : decode cX7_become 16 = .ok (.ireturn, 1) := by decide +kernel
theorem dX7_edgesOf_0 : decode cX7_edgesOf 0 = .ok (.iconst 0, 1) := by decide +kernel
theorem dX7_edgesOf_1 : decode cX7_edgesOf 1 = .ok (.istore_n 2, 1) := by decide +kernel
theorem dX7_edgesOf_2 : decode cX7_edgesOf 2 = .ok (.iconst 0, 1) := by decide +kernel
theorem dX7_edgesOf_3 : decode cX7_edgesOf 3 = .ok (.istore_n 3, 1) := by decide +kernel
theorem dX7_edgesOf_4 : decode cX7_edgesOf 4 = .ok (.iload_n 3, 1) := by decide +kernel
theorem dX7_edgesOf_5 : decode cX7_edgesOf 5 = .ok (.aload_n 0, 1) := by decide +kernel
theorem dX7_edgesOf_6 : decode cX7_edgesOf 6 = .ok (.getfield 60, 3) := by decide +kernel
theorem dX7_edgesOf_9 : decode cX7_edgesOf 9 = .ok (.if_icmp .ge 17, 3) := by decide +kernel
theorem dX7_edgesOf_12 : decode cX7_edgesOf 12 = .ok (.iload_n 2, 1) := by decide +kernel
theorem dX7_edgesOf_13 : decode cX7_edgesOf 13 = .ok (.iload_n 1, 1) := by decide +kernel
theorem dX7_edgesOf_14 : decode cX7_edgesOf 14 = .ok (.iload_n 3, 1) := by decide +kernel
theorem dX7_edgesOf_15 : decode cX7_edgesOf 15 = .ok (.ishr, 1) := by decide +kernel
theorem dX7_edgesOf_16 : decode cX7_edgesOf 16 = .ok (.iconst 1, 1) := by decide +kernel
theorem dX7_edgesOf_17 : decode cX7_edgesOf 17 = .ok (.iand, 1) := by decide +kernel
theorem dX7_edgesOf_18 : decode cX7_edgesOf 18 = .ok (.iadd, 1) := by decide +kernel
theorem dX7_edgesOf_19 : decode cX7_edgesOf 19 = .ok (.istore_n 2, 1) := by decide +kernel
theorem dX7_edgesOf_20 : decode cX7_edgesOf 20 = .ok (.iinc 3 1, 3) := by decide +kernel
theorem dX7_edgesOf_23 : decode cX7_edgesOf 23 = .ok (.goto (-19), 3) := by decide +kernel
theorem dX7_edgesOf_26 : decode cX7_edgesOf 26 = .ok (.iload_n 2, 1) := by decide +kernel
theorem dX7_edgesOf_27 : decode cX7_edgesOf 27 = .ok (.ireturn, 1) := by decide +kernel
set_option maxRecDepth 20000 in
theorem ggX7_degreeOf_X7_has : GoodIn wsX7_degreeOf wsX7_has := goodIn_r _ [5, 6, 7, 4, 8] (by decide +kernel) (by decide +kernel)
set_option maxRecDepth 20000 in
theorem gX7_degreeOf_X7_has : GoodIn wsX7_degreeOf (va_wsS RX7 79 yX7_has wsX7_has) := goodIn_app (goodIn_of _ (by decide +kernel)) ggX7_degreeOf_X7_has
theorem dX7_degreeOf_0 : decode cX7_degreeOf 0 = .ok (.iconst 0, 1) := by decide +kernel
theorem dX7_degreeOf_1 : decode cX7_degreeOf 1 = .ok (.istore_n 3, 1) := by decide +kernel
theorem dX7_degreeOf_2 : decode cX7_degreeOf 2 = .ok (.iconst 0, 1) := by decide +kernel
theorem dX7_degreeOf_3 : decode cX7_degreeOf 3 = .ok (.istore 4, 2) := by decide +kernel
theorem dX7_degreeOf_5 : decode cX7_degreeOf 5 = .ok (.iload 4, 2) := by decide +kernel
theorem dX7_degreeOf_7 : decode cX7_degreeOf 7 = .ok (.aload_n 0, 1) := by decide +kernel
theorem dX7_degreeOf_8 : decode cX7_degreeOf 8 = .ok (.getfield 7, 3) := by decide +kernel
theorem dX7_degreeOf_11 : decode cX7_degreeOf 11 = .ok (.if_icmp .ge 27, 3) := by decide +kernel
theorem dX7_degreeOf_14 : decode cX7_degreeOf 14 = .ok (.iload_n 3, 1) := by decide +kernel
theorem dX7_degreeOf_15 : decode cX7_degreeOf 15 = .ok (.iload_n 1, 1) := by decide +kernel
theorem dX7_degreeOf_16 : decode cX7_degreeOf 16 = .ok (.iload_n 2, 1) := by decide +kernel
theorem dX7_degreeOf_17 : decode cX7_degreeOf 17 = .ok (.iload 4, 2) := by decide +kernel
theorem dX7_degreeOf_19 : decode cX7_degreeOf 19 = .ok (.invokestatic 79, 3) := by decide +kernel
theorem dX7_degreeOf_22 : decode cX7_degreeOf 22 = .ok (.ifCond .eq 7, 3) := by decide +kernel
theorem dX7_degreeOf_25 : decode cX7_degreeOf 25 = .ok (.iconst 1, 1) := by decide +kernel
theorem dX7_degreeOf_26 : decode cX7_degreeOf 26 = .ok (.goto 4, 3) := by decide +kernel
theorem dX7_degreeOf_29 : decode cX7_degreeOf 29 = .ok (.iconst 0, 1) := by decide +kernel
theorem dX7_degreeOf_30 : decode cX7_degreeOf 30 = .ok (.iadd, 1) := by decide +kernel
theorem dX7_degreeOf_31 : decode cX7_degreeOf 31 = .ok (.istore_n 3, 1) := by decide +kernel
theorem dX7_degreeOf_32 : decode cX7_degreeOf 32 = .ok (.iinc 4 1, 3) := by decide +kernel
theorem dX7_degreeOf_35 : decode cX7_degreeOf 35 = .ok (.goto (-30), 3) := by decide +kernel
theorem dX7_degreeOf_38 : decode cX7_degreeOf 38 = .ok (.iload_n 3, 1) := by decide +kernel
theorem dX7_degreeOf_39 : decode cX7_degreeOf 39 = .ok (.ireturn, 1) := by decide +kernel
set_option maxRecDepth 20000 in
theorem ggX7_trianglesOf_X7_has : GoodIn wsX7_trianglesOf wsX7_has := goodIn_r _ [5, 6, 7, 4, 8] (by decide +kernel) (by decide +kernel)
set_option maxRecDepth 20000 in
theorem gX7_trianglesOf_X7_has : GoodIn wsX7_trianglesOf (va_wsS RX7 79 yX7_has wsX7_has) := goodIn_app (goodIn_of _ (by decide +kernel)) ggX7_trianglesOf_X7_has
theorem dX7_trianglesOf_0 : decode cX7_trianglesOf 0 = .ok (.iconst 0, 1) := by decide +kernel
theorem dX7_trianglesOf_1 : decode cX7_trianglesOf 1 = .ok (.istore_n 2, 1) := by decide +kernel
theorem dX7_trianglesOf_2 : decode cX7_trianglesOf 2 = .ok (.iconst 2, 1) := by decide +kernel
theorem dX7_trianglesOf_3 : decode cX7_trianglesOf 3 = .ok (.istore_n 3, 1) := by decide +kernel
theorem dX7_trianglesOf_4 : decode cX7_trianglesOf 4 = .ok (.iload_n 3, 1) := by decide +kernel
theorem dX7_trianglesOf_5 : decode cX7_trianglesOf 5 = .ok (.aload_n 0, 1) := by decide +kernel
theorem dX7_trianglesOf_6 : decode cX7_trianglesOf 6 = .ok (.getfield 7, 3) := by decide +kernel
theorem dX7_trianglesOf_9 : decode cX7_trianglesOf 9 = .ok (.if_icmp .ge 79, 3) := by decide +kernel
theorem dX7_trianglesOf_12 : decode cX7_trianglesOf 12 = .ok (.iconst 1, 1) := by decide +kernel
theorem dX7_trianglesOf_13 : decode cX7_trianglesOf 13 = .ok (.istore 4, 2) := by decide +kernel
theorem dX7_trianglesOf_15 : decode cX7_trianglesOf 15 = .ok (.iload 4, 2) := by decide +kernel
theorem dX7_trianglesOf_17 : decode cX7_trianglesOf 17 = .ok (.iload_n 3, 1) := by decide +kernel
theorem dX7_trianglesOf_18 : decode cX7_trianglesOf 18 = .ok (.if_icmp .ge 64, 3) := by decide +kernel
theorem dX7_trianglesOf_21 : decode cX7_trianglesOf 21 = .ok (.iconst 0, 1) := by decide +kernel
theorem dX7_trianglesOf_22 : decode cX7_trianglesOf 22 = .ok (.istore 5, 2) := by decide +kernel
theorem dX7_trianglesOf_24 : decode cX7_trianglesOf 24 = .ok (.iload 5, 2) := by decide +kernel
theorem dX7_trianglesOf_26 : decode cX7_trianglesOf 26 = .ok (.iload 4, 2) := by decide +kernel
theorem dX7_trianglesOf_28 : decode cX7_trianglesOf 28 = .ok (.if_icmp .ge 48, 3) := by decide +kernel
theorem dX7_trianglesOf_31 : decode cX7_trianglesOf 31 = .ok (.iload_n 1, 1) := by decide +kernel
theorem dX7_trianglesOf_32 : decode cX7_trianglesOf 32 = .ok (.iload 4, 2) := by decide +kernel
theorem dX7_trianglesOf_34 : decode cX7_trianglesOf 34 = .ok (.iload_n 3, 1) := by decide +kernel
theorem dX7_trianglesOf_35 : decode cX7_trianglesOf 35 = .ok (.invokestatic 79, 3) := by decide +kernel
theorem dX7_trianglesOf_38 : decode cX7_trianglesOf 38 = .ok (.ifCond .eq 38, 3) := by decide +kernel
theorem dX7_trianglesOf_41 : decode cX7_trianglesOf 41 = .ok (.iload_n 2, 1) := by decide +kernel
theorem dX7_trianglesOf_42 : decode cX7_trianglesOf 42 = .ok (.iload_n 1, 1) := by decide +kernel
theorem dX7_trianglesOf_43 : decode cX7_trianglesOf 43 = .ok (.iload 5, 2) := by decide +kernel
theorem dX7_trianglesOf_45 : decode cX7_trianglesOf 45 = .ok (.iload 4, 2) := by decide +kernel
theorem dX7_trianglesOf_47 : decode cX7_trianglesOf 47 = .ok (.invokestatic 79, 3) := by decide +kernel
theorem dX7_trianglesOf_50 : decode cX7_trianglesOf 50 = .ok (.ifCond .eq 17, 3) := by decide +kernel
theorem dX7_trianglesOf_53 : decode cX7_trianglesOf 53 = .ok (.iload_n 1, 1) := by decide +kernel
theorem dX7_trianglesOf_54 : decode cX7_trianglesOf 54 = .ok (.iload 5, 2) := by decide +kernel
theorem dX7_trianglesOf_56 : decode cX7_trianglesOf 56 = .ok (.iload_n 3, 1) := by decide +kernel
theorem dX7_trianglesOf_57 : decode cX7_trianglesOf 57 = .ok (.invokestatic 79, 3) := by decide +kernel
theorem dX7_trianglesOf_60 : decode cX7_trianglesOf 60 = .ok (.ifCond .eq 7, 3) := by decide +kernel
theorem dX7_trianglesOf_63 : decode cX7_trianglesOf 63 = .ok (.iconst 1, 1) := by decide +kernel
theorem dX7_trianglesOf_64 : decode cX7_trianglesOf 64 = .ok (.goto 4, 3) := by decide +kernel
theorem dX7_trianglesOf_67 : decode cX7_trianglesOf 67 = .ok (.iconst 0, 1) := by decide +kernel
theorem dX7_trianglesOf_68 : decode cX7_trianglesOf 68 = .ok (.iadd, 1) := by decide +kernel
theorem dX7_trianglesOf_69 : decode cX7_trianglesOf 69 = .ok (.istore_n 2, 1) := by decide +kernel
theorem dX7_trianglesOf_70 : decode cX7_trianglesOf 70 = .ok (.iinc 5 1, 3) := by decide +kernel
theorem dX7_trianglesOf_73 : decode cX7_trianglesOf 73 = .ok (.goto (-49), 3) := by decide +kernel
theorem dX7_trianglesOf_76 : decode cX7_trianglesOf 76 = .ok (.iinc 4 1, 3) := by decide +kernel
theorem dX7_trianglesOf_79 : decode cX7_trianglesOf 79 = .ok (.goto (-64), 3) := by decide +kernel
theorem dX7_trianglesOf_82 : decode cX7_trianglesOf 82 = .ok (.iinc 3 1, 3) := by decide +kernel
theorem dX7_trianglesOf_85 : decode cX7_trianglesOf 85 = .ok (.goto (-81), 3) := by decide +kernel
theorem dX7_trianglesOf_88 : decode cX7_trianglesOf 88 = .ok (.iload_n 2, 1) := by decide +kernel
theorem dX7_trianglesOf_89 : decode cX7_trianglesOf 89 = .ok (.ireturn, 1) := by decide +kernel
set_option maxRecDepth 20000 in
theorem ggX7_squaresOf_X7_has : GoodIn wsX7_squaresOf wsX7_has := goodIn_r _ [5, 6, 7, 4, 8] (by decide +kernel) (by decide +kernel)
set_option maxRecDepth 20000 in
theorem gX7_squaresOf_X7_has : GoodIn wsX7_squaresOf (va_wsS RX7 79 yX7_has wsX7_has) := goodIn_app (goodIn_of _ (by decide +kernel)) ggX7_squaresOf_X7_has
theorem dX7_squaresOf_0 : decode cX7_squaresOf 0 = .ok (.iconst 0, 1) := by decide +kernel
theorem dX7_squaresOf_1 : decode cX7_squaresOf 1 = .ok (.istore_n 2, 1) := by decide +kernel
theorem dX7_squaresOf_2 : decode cX7_squaresOf 2 = .ok (.iconst 0, 1) := by decide +kernel
theorem dX7_squaresOf_3 : decode cX7_squaresOf 3 = .ok (.istore_n 3, 1) := by decide +kernel
theorem dX7_squaresOf_4 : decode cX7_squaresOf 4 = .ok (.iload_n 3, 1) := by decide +kernel
theorem dX7_squaresOf_5 : decode cX7_squaresOf 5 = .ok (.aload_n 0, 1) := by decide +kernel
theorem dX7_squaresOf_6 : decode cX7_squaresOf 6 = .ok (.getfield 7, 3) := by decide +kernel
theorem dX7_squaresOf_9 : decode cX7_squaresOf 9 = .ok (.if_icmp .ge 134, 3) := by decide +kernel
theorem dX7_squaresOf_12 : decode cX7_squaresOf 12 = .ok (.iload_n 3, 1) := by decide +kernel
theorem dX7_squaresOf_13 : decode cX7_squaresOf 13 = .ok (.iconst 1, 1) := by decide +kernel
theorem dX7_squaresOf_14 : decode cX7_squaresOf 14 = .ok (.iadd, 1) := by decide +kernel
theorem dX7_squaresOf_15 : decode cX7_squaresOf 15 = .ok (.istore 4, 2) := by decide +kernel
theorem dX7_squaresOf_17 : decode cX7_squaresOf 17 = .ok (.iload 4, 2) := by decide +kernel
theorem dX7_squaresOf_19 : decode cX7_squaresOf 19 = .ok (.aload_n 0, 1) := by decide +kernel
theorem dX7_squaresOf_20 : decode cX7_squaresOf 20 = .ok (.getfield 7, 3) := by decide +kernel
theorem dX7_squaresOf_23 : decode cX7_squaresOf 23 = .ok (.if_icmp .ge 114, 3) := by decide +kernel
theorem dX7_squaresOf_26 : decode cX7_squaresOf 26 = .ok (.iload 4, 2) := by decide +kernel
theorem dX7_squaresOf_28 : decode cX7_squaresOf 28 = .ok (.iconst 1, 1) := by decide +kernel
theorem dX7_squaresOf_29 : decode cX7_squaresOf 29 = .ok (.iadd, 1) := by decide +kernel
theorem dX7_squaresOf_30 : decode cX7_squaresOf 30 = .ok (.istore 5, 2) := by decide +kernel
theorem dX7_squaresOf_32 : decode cX7_squaresOf 32 = .ok (.iload 5, 2) := by decide +kernel
theorem dX7_squaresOf_34 : decode cX7_squaresOf 34 = .ok (.aload_n 0, 1) := by decide +kernel
theorem dX7_squaresOf_35 : decode cX7_squaresOf 35 = .ok (.getfield 7, 3) := by decide +kernel
theorem dX7_squaresOf_38 : decode cX7_squaresOf 38 = .ok (.if_icmp .ge 93, 3) := by decide +kernel
theorem dX7_squaresOf_41 : decode cX7_squaresOf 41 = .ok (.iload_n 1, 1) := by decide +kernel
theorem dX7_squaresOf_42 : decode cX7_squaresOf 42 = .ok (.iload_n 3, 1) := by decide +kernel
theorem dX7_squaresOf_43 : decode cX7_squaresOf 43 = .ok (.iload 4, 2) := by decide +kernel
theorem dX7_squaresOf_45 : decode cX7_squaresOf 45 = .ok (.invokestatic 79, 3) := by decide +kernel
theorem dX7_squaresOf_48 : decode cX7_squaresOf 48 = .ok (.ifCond .eq 83, 3) := by decide +kernel
theorem dX7_squaresOf_51 : decode cX7_squaresOf 51 = .ok (.iload_n 3, 1) := by decide +kernel
theorem dX7_squaresOf_52 : decode cX7_squaresOf 52 = .ok (.iconst 1, 1) := by decide +kernel
theorem dX7_squaresOf_53 : decode cX7_squaresOf 53 = .ok (.iadd, 1) := by decide +kernel
theorem dX7_squaresOf_54 : decode cX7_squaresOf 54 = .ok (.istore 6, 2) := by decide +kernel
theorem dX7_squaresOf_56 : decode cX7_squaresOf 56 = .ok (.iload 6, 2) := by decide +kernel
theorem dX7_squaresOf_58 : decode cX7_squaresOf 58 = .ok (.aload_n 0, 1) := by decide +kernel
theorem dX7_squaresOf_59 : decode cX7_squaresOf 59 = .ok (.getfield 7, 3) := by decide +kernel
theorem dX7_squaresOf_62 : decode cX7_squaresOf 62 = .ok (.if_icmp .ge 63, 3) := by decide +kernel
theorem dX7_squaresOf_65 : decode cX7_squaresOf 65 = .ok (.iload_n 1, 1) := by decide +kernel
theorem dX7_squaresOf_66 : decode cX7_squaresOf 66 = .ok (.iload_n 3, 1) := by decide +kernel
theorem dX7_squaresOf_67 : decode cX7_squaresOf 67 = .ok (.iload 5, 2) := by decide +kernel
theorem dX7_squaresOf_69 : decode cX7_squaresOf 69 = .ok (.invokestatic 79, 3) := by decide +kernel
theorem dX7_squaresOf_72 : decode cX7_squaresOf 72 = .ok (.ifCond .eq 53, 3) := by decide +kernel
theorem dX7_squaresOf_75 : decode cX7_squaresOf 75 = .ok (.iload_n 2, 1) := by decide +kernel
theorem dX7_squaresOf_76 : decode cX7_squaresOf 76 = .ok (.iload 6, 2) := by decide +kernel
theorem dX7_squaresOf_78 : decode cX7_squaresOf 78 = .ok (.iload 4, 2) := by decide +kernel
theorem dX7_squaresOf_80 : decode cX7_squaresOf 80 = .ok (.if_icmp .eq 36, 3) := by decide +kernel
theorem dX7_squaresOf_83 : decode cX7_squaresOf 83 = .ok (.iload 6, 2) := by decide +kernel
theorem dX7_squaresOf_85 : decode cX7_squaresOf 85 = .ok (.iload 5, 2) := by decide +kernel
theorem dX7_squaresOf_87 : decode cX7_squaresOf 87 = .ok (.if_icmp .eq 29, 3) := by decide +kernel
theorem dX7_squaresOf_90 : decode cX7_squaresOf 90 = .ok (.iload_n 1, 1) := by decide +kernel
theorem dX7_squaresOf_91 : decode cX7_squaresOf 91 = .ok (.iload 4, 2) := by decide +kernel
theorem dX7_squaresOf_93 : decode cX7_squaresOf 93 = .ok (.iload 6, 2) := by decide +kernel
theorem dX7_squaresOf_95 : decode cX7_squaresOf 95 = .ok (.invokestatic 79, 3) := by decide +kernel
theorem dX7_squaresOf_98 : decode cX7_squaresOf 98 = .ok (.ifCond .eq 18, 3) := by decide +kernel
theorem dX7_squaresOf_101 : decode cX7_squaresOf 101 = .ok (.iload_n 1, 1) := by decide +kernel
theorem dX7_squaresOf_102 : decode cX7_squaresOf 102 = .ok (.iload 6, 2) := by decide +kernel
theorem dX7_squaresOf_104 : decode cX7_squaresOf 104 = .ok (.iload 5, 2) := by decide +kernel
theorem dX7_squaresOf_106 : decode cX7_squaresOf 106 = .ok (.invokestatic 79, 3) := by decide +kernel
theorem dX7_squaresOf_109 : decode cX7_squaresOf 109 = .ok (.ifCond .eq 7, 3) := by decide +kernel
theorem dX7_squaresOf_112 : decode cX7_squaresOf 112 = .ok (.iconst 1, 1) := by decide +kernel
theorem dX7_squaresOf_113 : decode cX7_squaresOf 113 = .ok (.goto 4, 3) := by decide +kernel
theorem dX7_squaresOf_116 : decode cX7_squaresOf 116 = .ok (.iconst 0, 1) := by decide +kernel
theorem dX7_squaresOf_117 : decode cX7_squaresOf 117 = .ok (.iadd, 1) := by decide +kernel
theorem dX7_squaresOf_118 : decode cX7_squaresOf 118 = .ok (.istore_n 2, 1) := by decide +kernel
theorem dX7_squaresOf_119 : decode cX7_squaresOf 119 = .ok (.iinc 6 1, 3) := by decide +kernel
theorem dX7_squaresOf_122 : decode cX7_squaresOf 122 = .ok (.goto (-66), 3) := by decide +kernel
theorem dX7_squaresOf_125 : decode cX7_squaresOf 125 = .ok (.iinc 5 1, 3) := by decide +kernel
theorem dX7_squaresOf_128 : decode cX7_squaresOf 128 = .ok (.goto (-96), 3) := by decide +kernel
theorem dX7_squaresOf_131 : decode cX7_squaresOf 131 = .ok (.iinc 4 1, 3) := by decide +kernel
theorem dX7_squaresOf_134 : decode cX7_squaresOf 134 = .ok (.goto (-117), 3) := by decide +kernel
theorem dX7_squaresOf_137 : decode cX7_squaresOf 137 = .ok (.iinc 3 1, 3) := by decide +kernel
theorem dX7_squaresOf_140 : decode cX7_squaresOf 140 = .ok (.goto (-136), 3) := by decide +kernel
theorem dX7_squaresOf_143 : decode cX7_squaresOf 143 = .ok (.iload_n 2, 1) := by decide +kernel
theorem dX7_squaresOf_144 : decode cX7_squaresOf 144 = .ok (.ireturn, 1) := by decide +kernel
set_option maxRecDepth 20000 in
theorem ggX7_partsOf_X7_has : GoodIn wsX7_partsOf wsX7_has := goodIn_r _ [5, 6, 7, 4, 8] (by decide +kernel) (by decide +kernel)
set_option maxRecDepth 20000 in
theorem gX7_partsOf_X7_has : GoodIn wsX7_partsOf (va_wsS RX7 79 yX7_has wsX7_has) := goodIn_app (goodIn_of _ (by decide +kernel)) ggX7_partsOf_X7_has
theorem dX7_partsOf_0 : decode cX7_partsOf 0 = .ok (.iconst 0, 1) := by decide +kernel
theorem dX7_partsOf_1 : decode cX7_partsOf 1 = .ok (.istore_n 2, 1) := by decide +kernel
theorem dX7_partsOf_2 : decode cX7_partsOf 2 = .ok (.iconst 0, 1) := by decide +kernel
theorem dX7_partsOf_3 : decode cX7_partsOf 3 = .ok (.istore_n 3, 1) := by decide +kernel
theorem dX7_partsOf_4 : decode cX7_partsOf 4 = .ok (.iconst 0, 1) := by decide +kernel
theorem dX7_partsOf_5 : decode cX7_partsOf 5 = .ok (.istore 4, 2) := by decide +kernel
theorem dX7_partsOf_7 : decode cX7_partsOf 7 = .ok (.iload 4, 2) := by decide +kernel
theorem dX7_partsOf_9 : decode cX7_partsOf 9 = .ok (.aload_n 0, 1) := by decide +kernel
theorem dX7_partsOf_10 : decode cX7_partsOf 10 = .ok (.getfield 7, 3) := by decide +kernel
theorem dX7_partsOf_13 : decode cX7_partsOf 13 = .ok (.if_icmp .ge 120, 3) := by decide +kernel
theorem dX7_partsOf_16 : decode cX7_partsOf 16 = .ok (.iload_n 2, 1) := by decide +kernel
theorem dX7_partsOf_17 : decode cX7_partsOf 17 = .ok (.iload 4, 2) := by decide +kernel
theorem dX7_partsOf_19 : decode cX7_partsOf 19 = .ok (.ishr, 1) := by decide +kernel
theorem dX7_partsOf_20 : decode cX7_partsOf 20 = .ok (.iconst 1, 1) := by decide +kernel
theorem dX7_partsOf_21 : decode cX7_partsOf 21 = .ok (.iand, 1) := by decide +kernel
theorem dX7_partsOf_22 : decode cX7_partsOf 22 = .ok (.ifCond .ne 105, 3) := by decide +kernel
theorem dX7_partsOf_25 : decode cX7_partsOf 25 = .ok (.iinc 3 1, 3) := by decide +kernel
theorem dX7_partsOf_28 : decode cX7_partsOf 28 = .ok (.iconst 1, 1) := by decide +kernel
theorem dX7_partsOf_29 : decode cX7_partsOf 29 = .ok (.iload 4, 2) := by decide +kernel
theorem dX7_partsOf_31 : decode cX7_partsOf 31 = .ok (.ishl, 1) := by decide +kernel
theorem dX7_partsOf_32 : decode cX7_partsOf 32 = .ok (.istore 5, 2) := by decide +kernel
theorem dX7_partsOf_34 : decode cX7_partsOf 34 = .ok (.iconst 0, 1) := by decide +kernel
theorem dX7_partsOf_35 : decode cX7_partsOf 35 = .ok (.istore 6, 2) := by decide +kernel
theorem dX7_partsOf_37 : decode cX7_partsOf 37 = .ok (.iload 5, 2) := by decide +kernel
theorem dX7_partsOf_39 : decode cX7_partsOf 39 = .ok (.iload 6, 2) := by decide +kernel
theorem dX7_partsOf_41 : decode cX7_partsOf 41 = .ok (.if_icmp .eq 81, 3) := by decide +kernel
theorem dX7_partsOf_44 : decode cX7_partsOf 44 = .ok (.iload 5, 2) := by decide +kernel
theorem dX7_partsOf_46 : decode cX7_partsOf 46 = .ok (.istore 6, 2) := by decide +kernel
theorem dX7_partsOf_48 : decode cX7_partsOf 48 = .ok (.iconst 0, 1) := by decide +kernel
theorem dX7_partsOf_49 : decode cX7_partsOf 49 = .ok (.istore 7, 2) := by decide +kernel
theorem dX7_partsOf_51 : decode cX7_partsOf 51 = .ok (.iload 7, 2) := by decide +kernel
theorem dX7_partsOf_53 : decode cX7_partsOf 53 = .ok (.aload_n 0, 1) := by decide +kernel
theorem dX7_partsOf_54 : decode cX7_partsOf 54 = .ok (.getfield 7, 3) := by decide +kernel
theorem dX7_partsOf_57 : decode cX7_partsOf 57 = .ok (.if_icmp .ge 62, 3) := by decide +kernel
theorem dX7_partsOf_60 : decode cX7_partsOf 60 = .ok (.iconst 0, 1) := by decide +kernel
theorem dX7_partsOf_61 : decode cX7_partsOf 61 = .ok (.istore 8, 2) := by decide +kernel
theorem dX7_partsOf_63 : decode cX7_partsOf 63 = .ok (.iload 8, 2) := by decide +kernel
theorem dX7_partsOf_65 : decode cX7_partsOf 65 = .ok (.aload_n 0, 1) := by decide +kernel
theorem dX7_partsOf_66 : decode cX7_partsOf 66 = .ok (.getfield 7, 3) := by decide +kernel
theorem dX7_partsOf_69 : decode cX7_partsOf 69 = .ok (.if_icmp .ge 44, 3) := by decide +kernel
theorem dX7_partsOf_72 : decode cX7_partsOf 72 = .ok (.iload 6, 2) := by decide +kernel
theorem dX7_partsOf_74 : decode cX7_partsOf 74 = .ok (.iload 7, 2) := by decide +kernel
theorem dX7_partsOf_76 : decode cX7_partsOf 76 = .ok (.ishr, 1) := by decide +kernel
theorem dX7_partsOf_77 : decode cX7_partsOf 77 = .ok (.iconst 1, 1) := by decide +kernel
theorem dX7_partsOf_78 : decode cX7_partsOf 78 = .ok (.iand, 1) := by decide +kernel
theorem dX7_partsOf_79 : decode cX7_partsOf 79 = .ok (.iconst 1, 1) := by decide +kernel
theorem dX7_partsOf_80 : decode cX7_partsOf 80 = .ok (.if_icmp .ne 33, 3) := by decide +kernel
theorem dX7_partsOf_83 : decode cX7_partsOf 83 = .ok (.iload 5, 2) := by decide +kernel
theorem dX7_partsOf_85 : decode cX7_partsOf 85 = .ok (.iload_n 1, 1) := by decide +kernel
theorem dX7_partsOf_86 : decode cX7_partsOf 86 = .ok (.iload 7, 2) := by decide +kernel
theorem dX7_partsOf_88 : decode cX7_partsOf 88 = .ok (.iload 8, 2) := by decide +kernel
theorem dX7_partsOf_90 : decode cX7_partsOf 90 = .ok (.invokestatic 79, 3) := by decide +kernel
theorem dX7_partsOf_93 : decode cX7_partsOf 93 = .ok (.ifCond .eq 10, 3) := by decide +kernel
theorem dX7_partsOf_96 : decode cX7_partsOf 96 = .ok (.iconst 1, 1) := by decide +kernel
theorem dX7_partsOf_97 : decode cX7_partsOf 97 = .ok (.iload 8, 2) := by decide +kernel
theorem dX7_partsOf_99 : decode cX7_partsOf 99 = .ok (.ishl, 1) := by decide +kernel
theorem dX7_partsOf_100 : decode cX7_partsOf 100 = .ok (.goto 4, 3) := by decide +kernel
theorem dX7_partsOf_103 : decode cX7_partsOf 103 = .ok (.iconst 0, 1) := by decide +kernel
theorem dX7_partsOf_104 : decode cX7_partsOf 104 = .ok (.ior, 1) := by decide +kernel
theorem dX7_partsOf_105 : decode cX7_partsOf 105 = .ok (.istore 5, 2) := by decide +kernel
theorem dX7_partsOf_107 : decode cX7_partsOf 107 = .ok (.iinc 8 1, 3) := by decide +kernel
theorem dX7_partsOf_110 : decode cX7_partsOf 110 = .ok (.goto (-47), 3) := by decide +kernel
theorem dX7_partsOf_113 : decode cX7_partsOf 113 = .ok (.iinc 7 1, 3) := by decide +kernel
theorem dX7_partsOf_116 : decode cX7_partsOf 116 = .ok (.goto (-65), 3) := by decide +kernel
theorem dX7_partsOf_119 : decode cX7_partsOf 119 = .ok (.goto (-82), 3) := by decide +kernel
theorem dX7_partsOf_122 : decode cX7_partsOf 122 = .ok (.iload_n 2, 1) := by decide +kernel
theorem dX7_partsOf_123 : decode cX7_partsOf 123 = .ok (.iload 5, 2) := by decide +kernel
theorem dX7_partsOf_125 : decode cX7_partsOf 125 = .ok (.ior, 1) := by decide +kernel
theorem dX7_partsOf_126 : decode cX7_partsOf 126 = .ok (.istore_n 2, 1) := by decide +kernel
theorem dX7_partsOf_127 : decode cX7_partsOf 127 = .ok (.iinc 4 1, 3) := by decide +kernel
theorem dX7_partsOf_130 : decode cX7_partsOf 130 = .ok (.goto (-123), 3) := by decide +kernel
theorem dX7_partsOf_133 : decode cX7_partsOf 133 = .ok (.iload_n 3, 1) := by decide +kernel
theorem dX7_partsOf_134 : decode cX7_partsOf 134 = .ok (.ireturn, 1) := by decide +kernel
set_option maxRecDepth 20000 in
theorem ggX7_byDegrees_X7_degreeOf : GoodIn wsX7_byDegrees wsX7_degreeOf := goodIn_r _ [6, 1, 7, 8, 5, 9, 10, 11, 12, 13, 14, 15, 16, 17, 18, 19, 20, 21, 22, 23, 24, 25, 26, 27, 28, 29, 30, 31, 32, 33] (by decide +kernel) (by decide +kernel)
set_option maxRecDepth 20000 in
theorem gX7_byDegrees_X7_degreeOf : GoodIn wsX7_byDegrees (wsV RX7 92 RX7 yX7_degreeOf wsX7_degreeOf) := goodIn_app (goodIn_of _ (by decide +kernel)) ggX7_byDegrees_X7_degreeOf
theorem dX7_byDegrees_0 : decode cX7_byDegrees 0 = .ok (.iconst 0, 1) := by decide +kernel
theorem dX7_byDegrees_1 : decode cX7_byDegrees 1 = .ok (.istore_n 3, 1) := by decide +kernel
theorem dX7_byDegrees_2 : decode cX7_byDegrees 2 = .ok (.iconst 0, 1) := by decide +kernel
theorem dX7_byDegrees_3 : decode cX7_byDegrees 3 = .ok (.istore 4, 2) := by decide +kernel
theorem dX7_byDegrees_5 : decode cX7_byDegrees 5 = .ok (.iconst 0, 1) := by decide +kernel
theorem dX7_byDegrees_6 : decode cX7_byDegrees 6 = .ok (.istore 5, 2) := by decide +kernel
theorem dX7_byDegrees_8 : decode cX7_byDegrees 8 = .ok (.iconst 0, 1) := by decide +kernel
theorem dX7_byDegrees_9 : decode cX7_byDegrees 9 = .ok (.istore 6, 2) := by decide +kernel
theorem dX7_byDegrees_11 : decode cX7_byDegrees 11 = .ok (.iload 6, 2) := by decide +kernel
theorem dX7_byDegrees_13 : decode cX7_byDegrees 13 = .ok (.aload_n 0, 1) := by decide +kernel
theorem dX7_byDegrees_14 : decode cX7_byDegrees 14 = .ok (.getfield 7, 3) := by decide +kernel
theorem dX7_byDegrees_17 : decode cX7_byDegrees 17 = .ok (.if_icmp .ge 61, 3) := by decide +kernel
theorem dX7_byDegrees_20 : decode cX7_byDegrees 20 = .ok (.aload_n 0, 1) := by decide +kernel
theorem dX7_byDegrees_21 : decode cX7_byDegrees 21 = .ok (.iload_n 1, 1) := by decide +kernel
theorem dX7_byDegrees_22 : decode cX7_byDegrees 22 = .ok (.iload 6, 2) := by decide +kernel
theorem dX7_byDegrees_24 : decode cX7_byDegrees 24 = .ok (.invokevirtual 92, 3) := by decide +kernel
theorem dX7_byDegrees_27 : decode cX7_byDegrees 27 = .ok (.istore 7, 2) := by decide +kernel
theorem dX7_byDegrees_29 : decode cX7_byDegrees 29 = .ok (.iload_n 3, 1) := by decide +kernel
theorem dX7_byDegrees_30 : decode cX7_byDegrees 30 = .ok (.iload 7, 2) := by decide +kernel
theorem dX7_byDegrees_32 : decode cX7_byDegrees 32 = .ok (.iload 7, 2) := by decide +kernel
theorem dX7_byDegrees_34 : decode cX7_byDegrees 34 = .ok (.iconst 1, 1) := by decide +kernel
theorem dX7_byDegrees_35 : decode cX7_byDegrees 35 = .ok (.isub, 1) := by decide +kernel
theorem dX7_byDegrees_36 : decode cX7_byDegrees 36 = .ok (.imul, 1) := by decide +kernel
theorem dX7_byDegrees_37 : decode cX7_byDegrees 37 = .ok (.iconst 2, 1) := by decide +kernel
theorem dX7_byDegrees_38 : decode cX7_byDegrees 38 = .ok (.idiv, 1) := by decide +kernel
theorem dX7_byDegrees_39 : decode cX7_byDegrees 39 = .ok (.iadd, 1) := by decide +kernel
theorem dX7_byDegrees_40 : decode cX7_byDegrees 40 = .ok (.istore_n 3, 1) := by decide +kernel
theorem dX7_byDegrees_41 : decode cX7_byDegrees 41 = .ok (.iload 7, 2) := by decide +kernel
theorem dX7_byDegrees_43 : decode cX7_byDegrees 43 = .ok (.iload 4, 2) := by decide +kernel
theorem dX7_byDegrees_45 : decode cX7_byDegrees 45 = .ok (.if_icmp .le 8, 3) := by decide +kernel
theorem dX7_byDegrees_48 : decode cX7_byDegrees 48 = .ok (.iload 7, 2) := by decide +kernel
theorem dX7_byDegrees_50 : decode cX7_byDegrees 50 = .ok (.goto 5, 3) := by decide +kernel
theorem dX7_byDegrees_53 : decode cX7_byDegrees 53 = .ok (.iload 4, 2) := by decide +kernel
theorem dX7_byDegrees_55 : decode cX7_byDegrees 55 = .ok (.istore 4, 2) := by decide +kernel
theorem dX7_byDegrees_57 : decode cX7_byDegrees 57 = .ok (.iload 5, 2) := by decide +kernel
theorem dX7_byDegrees_59 : decode cX7_byDegrees 59 = .ok (.iload 7, 2) := by decide +kernel
theorem dX7_byDegrees_61 : decode cX7_byDegrees 61 = .ok (.ifCond .ne 7, 3) := by decide +kernel
theorem dX7_byDegrees_64 : decode cX7_byDegrees 64 = .ok (.iconst 1, 1) := by decide +kernel
theorem dX7_byDegrees_65 : decode cX7_byDegrees 65 = .ok (.goto 4, 3) := by decide +kernel
theorem dX7_byDegrees_68 : decode cX7_byDegrees 68 = .ok (.iconst 0, 1) := by decide +kernel
theorem dX7_byDegrees_69 : decode cX7_byDegrees 69 = .ok (.iadd, 1) := by decide +kernel
theorem dX7_byDegrees_70 : decode cX7_byDegrees 70 = .ok (.istore 5, 2) := by decide +kernel
theorem dX7_byDegrees_72 : decode cX7_byDegrees 72 = .ok (.iinc 6 1, 3) := by decide +kernel
theorem dX7_byDegrees_75 : decode cX7_byDegrees 75 = .ok (.goto (-64), 3) := by decide +kernel
theorem dX7_byDegrees_78 : decode cX7_byDegrees 78 = .ok (.iload_n 2, 1) := by decide +kernel
theorem dX7_byDegrees_79 : decode cX7_byDegrees 79 = .ok (.iconst 2, 1) := by decide +kernel
theorem dX7_byDegrees_80 : decode cX7_byDegrees 80 = .ok (.if_icmp .ne 7, 3) := by decide +kernel
theorem dX7_byDegrees_83 : decode cX7_byDegrees 83 = .ok (.iload_n 3, 1) := by decide +kernel
theorem dX7_byDegrees_84 : decode cX7_byDegrees 84 = .ok (.goto 15, 3) := by decide +kernel
theorem dX7_byDegrees_87 : decode cX7_byDegrees 87 = .ok (.iload_n 2, 1) := by decide +kernel
theorem dX7_byDegrees_88 : decode cX7_byDegrees 88 = .ok (.iconst 4, 1) := by decide +kernel
theorem dX7_byDegrees_89 : decode cX7_byDegrees 89 = .ok (.if_icmp .ne 8, 3) := by decide +kernel
theorem dX7_byDegrees_92 : decode cX7_byDegrees 92 = .ok (.iload 4, 2) := by decide +kernel
theorem dX7_byDegrees_94 : decode cX7_byDegrees 94 = .ok (.goto 5, 3) := by decide +kernel
theorem dX7_byDegrees_97 : decode cX7_byDegrees 97 = .ok (.iload 5, 2) := by decide +kernel
theorem dX7_byDegrees_99 : decode cX7_byDegrees 99 = .ok (.ireturn, 1) := by decide +kernel
set_option maxRecDepth 20000 in
theorem ggX7_likeLabels_X7_has : GoodIn wsX7_likeLabels wsX7_has := goodIn_r _ [6, 7, 8, 5, 9] (by decide +kernel) (by decide +kernel)
set_option maxRecDepth 20000 in
theorem gX7_likeLabels_X7_has : GoodIn wsX7_likeLabels (va_wsS RX7 79 yX7_has wsX7_has) := goodIn_app (goodIn_of _ (by decide +kernel)) ggX7_likeLabels_X7_has
theorem dX7_likeLabels_0 : decode cX7_likeLabels 0 = .ok (.iconst 0, 1) := by decide +kernel
theorem dX7_likeLabels_1 : decode cX7_likeLabels 1 = .ok (.istore_n 2, 1) := by decide +kernel
theorem dX7_likeLabels_2 : decode cX7_likeLabels 2 = .ok (.iconst 1, 1) := by decide +kernel
theorem dX7_likeLabels_3 : decode cX7_likeLabels 3 = .ok (.istore_n 3, 1) := by decide +kernel
theorem dX7_likeLabels_4 : decode cX7_likeLabels 4 = .ok (.iload_n 3, 1) := by decide +kernel
theorem dX7_likeLabels_5 : decode cX7_likeLabels 5 = .ok (.aload_n 0, 1) := by decide +kernel
theorem dX7_likeLabels_6 : decode cX7_likeLabels 6 = .ok (.getfield 7, 3) := by decide +kernel
theorem dX7_likeLabels_9 : decode cX7_likeLabels 9 = .ok (.if_icmp .ge 58, 3) := by decide +kernel
theorem dX7_likeLabels_12 : decode cX7_likeLabels 12 = .ok (.iconst 0, 1) := by decide +kernel
theorem dX7_likeLabels_13 : decode cX7_likeLabels 13 = .ok (.istore 4, 2) := by decide +kernel
theorem dX7_likeLabels_15 : decode cX7_likeLabels 15 = .ok (.iload 4, 2) := by decide +kernel
theorem dX7_likeLabels_17 : decode cX7_likeLabels 17 = .ok (.iload_n 3, 1) := by decide +kernel
theorem dX7_likeLabels_18 : decode cX7_likeLabels 18 = .ok (.if_icmp .ge 43, 3) := by decide +kernel
theorem dX7_likeLabels_21 : decode cX7_likeLabels 21 = .ok (.iload_n 2, 1) := by decide +kernel
theorem dX7_likeLabels_22 : decode cX7_likeLabels 22 = .ok (.aload_n 0, 1) := by decide +kernel
theorem dX7_likeLabels_23 : decode cX7_likeLabels 23 = .ok (.getfield 13, 3) := by decide +kernel
theorem dX7_likeLabels_26 : decode cX7_likeLabels 26 = .ok (.iload 4, 2) := by decide +kernel
theorem dX7_likeLabels_28 : decode cX7_likeLabels 28 = .ok (.iaload, 1) := by decide +kernel
theorem dX7_likeLabels_29 : decode cX7_likeLabels 29 = .ok (.aload_n 0, 1) := by decide +kernel
theorem dX7_likeLabels_30 : decode cX7_likeLabels 30 = .ok (.getfield 13, 3) := by decide +kernel
theorem dX7_likeLabels_33 : decode cX7_likeLabels 33 = .ok (.iload_n 3, 1) := by decide +kernel
theorem dX7_likeLabels_34 : decode cX7_likeLabels 34 = .ok (.iaload, 1) := by decide +kernel
theorem dX7_likeLabels_35 : decode cX7_likeLabels 35 = .ok (.if_icmp .ne 17, 3) := by decide +kernel
theorem dX7_likeLabels_38 : decode cX7_likeLabels 38 = .ok (.iload_n 1, 1) := by decide +kernel
theorem dX7_likeLabels_39 : decode cX7_likeLabels 39 = .ok (.iload 4, 2) := by decide +kernel
theorem dX7_likeLabels_41 : decode cX7_likeLabels 41 = .ok (.iload_n 3, 1) := by decide +kernel
theorem dX7_likeLabels_42 : decode cX7_likeLabels 42 = .ok (.invokestatic 79, 3) := by decide +kernel
theorem dX7_likeLabels_45 : decode cX7_likeLabels 45 = .ok (.ifCond .eq 7, 3) := by decide +kernel
theorem dX7_likeLabels_48 : decode cX7_likeLabels 48 = .ok (.iconst 1, 1) := by decide +kernel
theorem dX7_likeLabels_49 : decode cX7_likeLabels 49 = .ok (.goto 4, 3) := by decide +kernel
theorem dX7_likeLabels_52 : decode cX7_likeLabels 52 = .ok (.iconst 0, 1) := by decide +kernel
theorem dX7_likeLabels_53 : decode cX7_likeLabels 53 = .ok (.iadd, 1) := by decide +kernel
theorem dX7_likeLabels_54 : decode cX7_likeLabels 54 = .ok (.istore_n 2, 1) := by decide +kernel
theorem dX7_likeLabels_55 : decode cX7_likeLabels 55 = .ok (.iinc 4 1, 3) := by decide +kernel
theorem dX7_likeLabels_58 : decode cX7_likeLabels 58 = .ok (.goto (-43), 3) := by decide +kernel
theorem dX7_likeLabels_61 : decode cX7_likeLabels 61 = .ok (.iinc 3 1, 3) := by decide +kernel
theorem dX7_likeLabels_64 : decode cX7_likeLabels 64 = .ok (.goto (-60), 3) := by decide +kernel
theorem dX7_likeLabels_67 : decode cX7_likeLabels 67 = .ok (.iload_n 2, 1) := by decide +kernel
theorem dX7_likeLabels_68 : decode cX7_likeLabels 68 = .ok (.ireturn, 1) := by decide +kernel
set_option maxRecDepth 20000 in
theorem ggX7_thingOf_X7_edgesOf : GoodIn wsX7_thingOf wsX7_edgesOf := goodIn_r _ [5, 6, 39, 40, 41, 42, 43, 44, 45, 46, 47, 48, 49, 50, 51, 52, 53, 54, 55, 56, 57, 58, 59] (by decide +kernel) (by decide +kernel)
set_option maxRecDepth 20000 in
theorem gX7_thingOf_X7_edgesOf : GoodIn wsX7_thingOf (wsV RX7 95 RX7 yX7_edgesOf wsX7_edgesOf) := goodIn_app (goodIn_of _ (by decide +kernel)) ggX7_thingOf_X7_edgesOf
set_option maxRecDepth 20000 in
theorem ggX7_thingOf_X7_trianglesOf : GoodIn wsX7_thingOf wsX7_trianglesOf := goodIn_r _ [10, 11, 12, 13, 4, 14, 15, 16, 17, 39, 40, 41, 42, 43, 44, 45, 46, 47, 48, 49, 50, 51, 52, 53, 54, 55, 56, 57, 58, 59] (by decide +kernel) (by decide +kernel)
set_option maxRecDepth 20000 in
theorem gX7_thingOf_X7_trianglesOf : GoodIn wsX7_thingOf (wsV RX7 99 RX7 yX7_trianglesOf wsX7_trianglesOf) := goodIn_app (goodIn_of _ (by decide +kernel)) ggX7_thingOf_X7_trianglesOf
set_option maxRecDepth 20000 in
theorem ggX7_thingOf_X7_partsOf : GoodIn wsX7_thingOf wsX7_partsOf := goodIn_r _ [21, 11, 12, 13, 4, 14, 15, 16, 17, 39, 40, 41, 42, 43, 44, 45, 46, 47, 48, 49, 50, 51, 52, 53, 54, 55, 56, 57, 58, 59] (by decide +kernel) (by decide +kernel)
set_option maxRecDepth 20000 in
theorem gX7_thingOf_X7_partsOf : GoodIn wsX7_thingOf (wsV RX7 102 RX7 yX7_partsOf wsX7_partsOf) := goodIn_app (goodIn_of _ (by decide +kernel)) ggX7_thingOf_X7_partsOf
set_option maxRecDepth 20000 in
theorem ggX7_thingOf_X7_squaresOf : GoodIn wsX7_thingOf wsX7_squaresOf := goodIn_r _ [25, 11, 12, 13, 4, 14, 15, 16, 17, 39, 40, 41, 42, 43, 44, 45, 46, 47, 48, 49, 50, 51, 52, 53, 54, 55, 56, 57, 58, 59] (by decide +kernel) (by decide +kernel)
set_option maxRecDepth 20000 in
theorem gX7_thingOf_X7_squaresOf : GoodIn wsX7_thingOf (wsV RX7 105 RX7 yX7_squaresOf wsX7_squaresOf) := goodIn_app (goodIn_of _ (by decide +kernel)) ggX7_thingOf_X7_squaresOf
set_option maxRecDepth 20000 in
theorem ggX7_thingOf_X7_likeLabels : GoodIn wsX7_thingOf wsX7_likeLabels := goodIn_r _ [29, 11, 30, 12, 13, 4, 14, 15, 16, 17, 39, 40, 41, 42, 43, 44, 45, 46, 47, 48, 49, 50, 51, 52, 53, 54, 55, 56, 57, 58, 59] (by decide +kernel) (by decide +kernel)
set_option maxRecDepth 20000 in
theorem gX7_thingOf_X7_likeLabels : GoodIn wsX7_thingOf (wsV RX7 108 RX7 yX7_likeLabels wsX7_likeLabels) := goodIn_app (goodIn_of _ (by decide +kernel)) ggX7_thingOf_X7_likeLabels
set_option maxRecDepth 20000 in
theorem ggX7_thingOf_X7_byDegrees : GoodIn wsX7_thingOf wsX7_byDegrees := goodIn_r _ [34, 11, 35, 36, 37, 4, 38, 12, 13, 14, 15, 16, 17, 39, 40, 41, 42, 43, 44, 45, 46, 47, 48, 49, 50, 51, 52, 53, 54, 55, 56, 57, 58, 59] (by decide +kernel) (by decide +kernel)
set_option maxRecDepth 20000 in
theorem gX7_thingOf_X7_byDegrees : GoodIn wsX7_thingOf (wsV RX7 111 RX7 yX7_byDegrees wsX7_byDegrees) := goodIn_app (goodIn_of _ (by decide +kernel)) ggX7_thingOf_X7_byDegrees
theorem dX7_thingOf_0 : decode cX7_thingOf 0 = .ok (.iload_n 2, 1) := by decide +kernel
theorem dX7_thingOf_1 : decode cX7_thingOf 1 = .ok (.tableswitch 77 0 7 #[47, 53, 77, 59, 77, 65, 77, 71], 47) := by decide +kernel
theorem dX7_thingOf_48 : decode cX7_thingOf 48 = .ok (.aload_n 0, 1) := by decide +kernel
theorem dX7_thingOf_49 : decode cX7_thingOf 49 = .ok (.iload_n 1, 1) := by decide +kernel
theorem dX7_thingOf_50 : decode cX7_thingOf 50 = .ok (.invokevirtual 95, 3) := by decide +kernel
theorem dX7_thingOf_53 : decode cX7_thingOf 53 = .ok (.ireturn, 1) := by decide +kernel
theorem dX7_thingOf_54 : decode cX7_thingOf 54 = .ok (.aload_n 0, 1) := by decide +kernel
theorem dX7_thingOf_55 : decode cX7_thingOf 55 = .ok (.iload_n 1, 1) := by decide +kernel
theorem dX7_thingOf_56 : decode cX7_thingOf 56 = .ok (.invokevirtual 99, 3) := by decide +kernel
theorem dX7_thingOf_59 : decode cX7_thingOf 59 = .ok (.ireturn, 1) := by decide +kernel
theorem dX7_thingOf_60 : decode cX7_thingOf 60 = .ok (.aload_n 0, 1) := by decide +kernel
theorem dX7_thingOf_61 : decode cX7_thingOf 61 = .ok (.iload_n 1, 1) := by decide +kernel
theorem dX7_thingOf_62 : decode cX7_thingOf 62 = .ok (.invokevirtual 102, 3) := by decide +kernel
theorem dX7_thingOf_65 : decode cX7_thingOf 65 = .ok (.ireturn, 1) := by decide +kernel
theorem dX7_thingOf_66 : decode cX7_thingOf 66 = .ok (.aload_n 0, 1) := by decide +kernel
theorem dX7_thingOf_67 : decode cX7_thingOf 67 = .ok (.iload_n 1, 1) := by decide +kernel
theorem dX7_thingOf_68 : decode cX7_thingOf 68 = .ok (.invokevirtual 105, 3) := by decide +kernel
theorem dX7_thingOf_71 : decode cX7_thingOf 71 = .ok (.ireturn, 1) := by decide +kernel
theorem dX7_thingOf_72 : decode cX7_thingOf 72 = .ok (.aload_n 0, 1) := by decide +kernel
theorem dX7_thingOf_73 : decode cX7_thingOf 73 = .ok (.iload_n 1, 1) := by decide +kernel
theorem dX7_thingOf_74 : decode cX7_thingOf 74 = .ok (.invokevirtual 108, 3) := by decide +kernel
theorem dX7_thingOf_77 : decode cX7_thingOf 77 = .ok (.ireturn, 1) := by decide +kernel
theorem dX7_thingOf_78 : decode cX7_thingOf 78 = .ok (.aload_n 0, 1) := by decide +kernel
theorem dX7_thingOf_79 : decode cX7_thingOf 79 = .ok (.iload_n 1, 1) := by decide +kernel
theorem dX7_thingOf_80 : decode cX7_thingOf 80 = .ok (.iload_n 2, 1) := by decide +kernel
theorem dX7_thingOf_81 : decode cX7_thingOf 81 = .ok (.invokevirtual 111, 3) := by decide +kernel
theorem dX7_thingOf_84 : decode cX7_thingOf 84 = .ok (.ireturn, 1) := by decide +kernel
set_option maxRecDepth 20000 in
theorem ggX7_thing_X7_in : GoodIn wsX7_thing wsX7_in := goodIn_r _ [6] (by decide +kernel) (by decide +kernel)
set_option maxRecDepth 20000 in
theorem gX7_thing_X7_in : GoodIn wsX7_thing (va_wsS RX7 56 yX7_in wsX7_in) := goodIn_app (goodIn_of _ (by decide +kernel)) ggX7_thing_X7_in
set_option maxRecDepth 20000 in
theorem ggX7_thing_X7_thingOf : GoodIn wsX7_thing wsX7_thingOf := goodIn_r _ [10, 11, 12, 13, 5, 14, 15, 16, 17, 18, 19, 20, 21, 22, 23, 24, 25, 26, 27, 28, 29, 30, 31, 32, 33, 34, 35, 36, 37, 38, 39, 40, 41, 42, 43, 44, 45, 46, 47, 48, 49, 50, 51, 52, 53, 54, 55, 56, 57, 58, 59, 60, 61, 62, 63, 64, 65, 66, 67, 68] (by decide +kernel) (by decide +kernel)
set_option maxRecDepth 20000 in
theorem gX7_thing_X7_thingOf : GoodIn wsX7_thing (wsV RX7 116 RX7 yX7_thingOf wsX7_thingOf) := goodIn_app (goodIn_of _ (by decide +kernel)) ggX7_thing_X7_thingOf
theorem dX7_thing_0 : decode cX7_thing 0 = .ok (.iload_n 1, 1) := by decide +kernel
theorem dX7_thing_1 : decode cX7_thing 1 = .ok (.i2l, 1) := by decide +kernel
theorem dX7_thing_2 : decode cX7_thing 2 = .ok (.lconst 0, 1) := by decide +kernel
theorem dX7_thing_3 : decode cX7_thing 3 = .ok (.ldc2_w 114, 3) := by decide +kernel
theorem dX7_thing_6 : decode cX7_thing 6 = .ok (.invokestatic 56, 3) := by decide +kernel
theorem dX7_thing_9 : decode cX7_thing 9 = .ok (.ifCond .eq 15, 3) := by decide +kernel
theorem dX7_thing_12 : decode cX7_thing 12 = .ok (.aload_n 0, 1) := by decide +kernel
theorem dX7_thing_13 : decode cX7_thing 13 = .ok (.aload_n 0, 1) := by decide +kernel
theorem dX7_thing_14 : decode cX7_thing 14 = .ok (.getfield 69, 3) := by decide +kernel
theorem dX7_thing_17 : decode cX7_thing 17 = .ok (.iload_n 1, 1) := by decide +kernel
theorem dX7_thing_18 : decode cX7_thing 18 = .ok (.invokevirtual 116, 3) := by decide +kernel
theorem dX7_thing_21 : decode cX7_thing 21 = .ok (.goto 4, 3) := by decide +kernel
theorem dX7_thing_24 : decode cX7_thing 24 = .ok (.iconst (-1), 1) := by decide +kernel
theorem dX7_thing_25 : decode cX7_thing 25 = .ok (.ireturn, 1) := by decide +kernel
set_option maxRecDepth 20000 in
theorem ggX7_findThings_X7_thingOf : GoodIn wsX7_findThings wsX7_thingOf := goodIn_r _ [10, 11, 12, 13, 9, 14, 4, 15, 16, 17, 18, 3, 19, 20, 21, 22, 23, 24, 25, 26, 27, 28, 29, 30, 31, 32, 33, 34, 35, 36, 37, 38, 39, 40, 41, 42, 43, 44, 45, 46, 47, 48, 49, 50, 51, 52, 53, 54, 55, 56, 57, 58, 59, 60, 61, 62, 63, 64, 65, 66] (by decide +kernel) (by decide +kernel)
set_option maxRecDepth 20000 in
theorem gX7_findThings_X7_thingOf : GoodIn wsX7_findThings (wsV RX7 116 RX7 yX7_thingOf wsX7_thingOf) := goodIn_app (goodIn_of _ (by decide +kernel)) ggX7_findThings_X7_thingOf
theorem dX7_findThings_0 : decode cX7_findThings 0 = .ok (.aload_n 0, 1) := by decide +kernel
theorem dX7_findThings_1 : decode cX7_findThings 1 = .ok (.getfield 32, 3) := by decide +kernel
theorem dX7_findThings_4 : decode cX7_findThings 4 = .ok (.iload_n 1, 1) := by decide +kernel
theorem dX7_findThings_5 : decode cX7_findThings 5 = .ok (.if_icmp .ne 21, 3) := by decide +kernel
theorem dX7_findThings_8 : decode cX7_findThings 8 = .ok (.aload_n 0, 1) := by decide +kernel
theorem dX7_findThings_9 : decode cX7_findThings 9 = .ok (.getfield 119, 3) := by decide +kernel
theorem dX7_findThings_12 : decode cX7_findThings 12 = .ok (.aload_n 0, 1) := by decide +kernel
theorem dX7_findThings_13 : decode cX7_findThings 13 = .ok (.getfield 7, 3) := by decide +kernel
theorem dX7_findThings_16 : decode cX7_findThings 16 = .ok (.if_icmp .ne 10, 3) := by decide +kernel
theorem dX7_findThings_19 : decode cX7_findThings 19 = .ok (.iload_n 1, 1) := by decide +kernel
theorem dX7_findThings_20 : decode cX7_findThings 20 = .ok (.bipush 7, 2) := by decide +kernel
theorem dX7_findThings_22 : decode cX7_findThings 22 = .ok (.if_icmp .eq 4, 3) := by decide +kernel
theorem dX7_findThings_25 : decode cX7_findThings 25 = .ok (.return_, 1) := by decide +kernel
theorem dX7_findThings_26 : decode cX7_findThings 26 = .ok (.aload_n 0, 1) := by decide +kernel
theorem dX7_findThings_27 : decode cX7_findThings 27 = .ok (.iload_n 1, 1) := by decide +kernel
theorem dX7_findThings_28 : decode cX7_findThings 28 = .ok (.putfield 32, 3) := by decide +kernel
theorem dX7_findThings_31 : decode cX7_findThings 31 = .ok (.aload_n 0, 1) := by decide +kernel
theorem dX7_findThings_32 : decode cX7_findThings 32 = .ok (.aload_n 0, 1) := by decide +kernel
theorem dX7_findThings_33 : decode cX7_findThings 33 = .ok (.getfield 7, 3) := by decide +kernel
theorem dX7_findThings_36 : decode cX7_findThings 36 = .ok (.putfield 119, 3) := by decide +kernel
theorem dX7_findThings_39 : decode cX7_findThings 39 = .ok (.iconst 0, 1) := by decide +kernel
theorem dX7_findThings_40 : decode cX7_findThings 40 = .ok (.istore_n 2, 1) := by decide +kernel
theorem dX7_findThings_41 : decode cX7_findThings 41 = .ok (.iload_n 2, 1) := by decide +kernel
theorem dX7_findThings_42 : decode cX7_findThings 42 = .ok (.iconst 1, 1) := by decide +kernel
theorem dX7_findThings_43 : decode cX7_findThings 43 = .ok (.aload_n 0, 1) := by decide +kernel
theorem dX7_findThings_44 : decode cX7_findThings 44 = .ok (.getfield 60, 3) := by decide +kernel
theorem dX7_findThings_47 : decode cX7_findThings 47 = .ok (.ishl, 1) := by decide +kernel
theorem dX7_findThings_48 : decode cX7_findThings 48 = .ok (.if_icmp .ge 22, 3) := by decide +kernel
theorem dX7_findThings_51 : decode cX7_findThings 51 = .ok (.aload_n 0, 1) := by decide +kernel
theorem dX7_findThings_52 : decode cX7_findThings 52 = .ok (.getfield 36, 3) := by decide +kernel
theorem dX7_findThings_55 : decode cX7_findThings 55 = .ok (.iload_n 2, 1) := by decide +kernel
theorem dX7_findThings_56 : decode cX7_findThings 56 = .ok (.aload_n 0, 1) := by decide +kernel
theorem dX7_findThings_57 : decode cX7_findThings 57 = .ok (.iload_n 2, 1) := by decide +kernel
theorem dX7_findThings_58 : decode cX7_findThings 58 = .ok (.iload_n 1, 1) := by decide +kernel
theorem dX7_findThings_59 : decode cX7_findThings 59 = .ok (.invokevirtual 116, 3) := by decide +kernel
theorem dX7_findThings_62 : decode cX7_findThings 62 = .ok (.i2b, 1) := by decide +kernel
theorem dX7_findThings_63 : decode cX7_findThings 63 = .ok (.bastore, 1) := by decide +kernel
theorem dX7_findThings_64 : decode cX7_findThings 64 = .ok (.iinc 2 1, 3) := by decide +kernel
theorem dX7_findThings_67 : decode cX7_findThings 67 = .ok (.goto (-26), 3) := by decide +kernel
theorem dX7_findThings_70 : decode cX7_findThings 70 = .ok (.return_, 1) := by decide +kernel
set_option maxRecDepth 20000 in
theorem ggX7_findTriangles_X7_trianglesOf : GoodIn wsX7_findTriangles wsX7_trianglesOf := goodIn_r _ [9, 2, 10, 11, 8, 12, 13, 14, 15, 16, 17, 18, 19, 20, 21, 22, 23, 24, 25, 26, 27, 28, 29, 30, 31, 32, 33, 34, 35, 36] (by decide +kernel) (by decide +kernel)
set_option maxRecDepth 20000 in
theorem gX7_findTriangles_X7_trianglesOf : GoodIn wsX7_findTriangles (wsV RX7 99 RX7 yX7_trianglesOf wsX7_trianglesOf) := goodIn_app (goodIn_of _ (by decide +kernel)) ggX7_findTriangles_X7_trianglesOf
theorem dX7_findTriangles_0 : decode cX7_findTriangles 0 = .ok (.aload_n 0, 1) := by decide +kernel
theorem dX7_findTriangles_1 : decode cX7_findTriangles 1 = .ok (.getfield 122, 3) := by decide +kernel
theorem dX7_findTriangles_4 : decode cX7_findTriangles 4 = .ok (.aload_n 0, 1) := by decide +kernel
theorem dX7_findTriangles_5 : decode cX7_findTriangles 5 = .ok (.getfield 7, 3) := by decide +kernel
theorem dX7_findTriangles_8 : decode cX7_findTriangles 8 = .ok (.if_icmp .ne 4, 3) := by decide +kernel
theorem dX7_findTriangles_11 : decode cX7_findTriangles 11 = .ok (.return_, 1) := by decide +kernel
theorem dX7_findTriangles_12 : decode cX7_findTriangles 12 = .ok (.aload_n 0, 1) := by decide +kernel
theorem dX7_findTriangles_13 : decode cX7_findTriangles 13 = .ok (.aload_n 0, 1) := by decide +kernel
theorem dX7_findTriangles_14 : decode cX7_findTriangles 14 = .ok (.getfield 7, 3) := by decide +kernel
theorem dX7_findTriangles_17 : decode cX7_findTriangles 17 = .ok (.putfield 122, 3) := by decide +kernel
theorem dX7_findTriangles_20 : decode cX7_findTriangles 20 = .ok (.iconst 0, 1) := by decide +kernel
theorem dX7_findTriangles_21 : decode cX7_findTriangles 21 = .ok (.istore_n 1, 1) := by decide +kernel
theorem dX7_findTriangles_22 : decode cX7_findTriangles 22 = .ok (.iload_n 1, 1) := by decide +kernel
theorem dX7_findTriangles_23 : decode cX7_findTriangles 23 = .ok (.iconst 1, 1) := by decide +kernel
theorem dX7_findTriangles_24 : decode cX7_findTriangles 24 = .ok (.aload_n 0, 1) := by decide +kernel
theorem dX7_findTriangles_25 : decode cX7_findTriangles 25 = .ok (.getfield 60, 3) := by decide +kernel
theorem dX7_findTriangles_28 : decode cX7_findTriangles 28 = .ok (.ishl, 1) := by decide +kernel
theorem dX7_findTriangles_29 : decode cX7_findTriangles 29 = .ok (.if_icmp .ge 21, 3) := by decide +kernel
theorem dX7_findTriangles_32 : decode cX7_findTriangles 32 = .ok (.aload_n 0, 1) := by decide +kernel
theorem dX7_findTriangles_33 : decode cX7_findTriangles 33 = .ok (.getfield 40, 3) := by decide +kernel
theorem dX7_findTriangles_36 : decode cX7_findTriangles 36 = .ok (.iload_n 1, 1) := by decide +kernel
theorem dX7_findTriangles_37 : decode cX7_findTriangles 37 = .ok (.aload_n 0, 1) := by decide +kernel
theorem dX7_findTriangles_38 : decode cX7_findTriangles 38 = .ok (.iload_n 1, 1) := by decide +kernel
theorem dX7_findTriangles_39 : decode cX7_findTriangles 39 = .ok (.invokevirtual 99, 3) := by decide +kernel
theorem dX7_findTriangles_42 : decode cX7_findTriangles 42 = .ok (.i2b, 1) := by decide +kernel
theorem dX7_findTriangles_43 : decode cX7_findTriangles 43 = .ok (.bastore, 1) := by decide +kernel
theorem dX7_findTriangles_44 : decode cX7_findTriangles 44 = .ok (.iinc 1 1, 3) := by decide +kernel
theorem dX7_findTriangles_47 : decode cX7_findTriangles 47 = .ok (.goto (-25), 3) := by decide +kernel
theorem dX7_findTriangles_50 : decode cX7_findTriangles 50 = .ok (.return_, 1) := by decide +kernel
theorem dX7_power_0 : decode cX7_power 0 = .ok (.lconst 1, 1) := by decide +kernel
theorem dX7_power_1 : decode cX7_power 1 = .ok (.lstore_n 3, 1) := by decide +kernel
theorem dX7_power_2 : decode cX7_power 2 = .ok (.iconst 0, 1) := by decide +kernel
theorem dX7_power_3 : decode cX7_power 3 = .ok (.istore 5, 2) := by decide +kernel
theorem dX7_power_5 : decode cX7_power 5 = .ok (.iload 5, 2) := by decide +kernel
theorem dX7_power_7 : decode cX7_power 7 = .ok (.iload_n 2, 1) := by decide +kernel
theorem dX7_power_8 : decode cX7_power 8 = .ok (.if_icmp .ge 13, 3) := by decide +kernel
theorem dX7_power_11 : decode cX7_power 11 = .ok (.lload_n 3, 1) := by decide +kernel
theorem dX7_power_12 : decode cX7_power 12 = .ok (.lload_n 0, 1) := by decide +kernel
theorem dX7_power_13 : decode cX7_power 13 = .ok (.lmul, 1) := by decide +kernel
theorem dX7_power_14 : decode cX7_power 14 = .ok (.lstore_n 3, 1) := by decide +kernel
theorem dX7_power_15 : decode cX7_power 15 = .ok (.iinc 5 1, 3) := by decide +kernel
theorem dX7_power_18 : decode cX7_power 18 = .ok (.goto (-13), 3) := by decide +kernel
theorem dX7_power_21 : decode cX7_power 21 = .ok (.lload_n 3, 1) := by decide +kernel
theorem dX7_power_22 : decode cX7_power 22 = .ok (.lreturn, 1) := by decide +kernel
set_option maxRecDepth 20000 in
theorem ggX7_hasDegrees_X7_degreeOf : GoodIn wsX7_hasDegrees wsX7_degreeOf := goodIn_r _ [7, 1, 8, 9, 6, 10, 11, 12, 13, 14, 15, 16, 17, 18, 19, 20, 21, 22, 23, 24, 25, 26, 27, 28, 29, 30, 31, 32, 33, 34] (by decide +kernel) (by decide +kernel)
set_option maxRecDepth 20000 in
theorem gX7_hasDegrees_X7_degreeOf : GoodIn wsX7_hasDegrees (wsV RX7 92 RX7 yX7_degreeOf wsX7_degreeOf) := goodIn_app (goodIn_of _ (by decide +kernel)) ggX7_hasDegrees_X7_degreeOf
theorem dX7_hasDegrees_0 : decode cX7_hasDegrees 0 = .ok (.iconst 0, 1) := by decide +kernel
theorem dX7_hasDegrees_1 : decode cX7_hasDegrees 1 = .ok (.istore_n 2, 1) := by decide +kernel
theorem dX7_hasDegrees_2 : decode cX7_hasDegrees 2 = .ok (.iload_n 2, 1) := by decide +kernel
theorem dX7_hasDegrees_3 : decode cX7_hasDegrees 3 = .ok (.aload_n 0, 1) := by decide +kernel
theorem dX7_hasDegrees_4 : decode cX7_hasDegrees 4 = .ok (.getfield 7, 3) := by decide +kernel
theorem dX7_hasDegrees_7 : decode cX7_hasDegrees 7 = .ok (.if_icmp .ge 26, 3) := by decide +kernel
theorem dX7_hasDegrees_10 : decode cX7_hasDegrees 10 = .ok (.aload_n 0, 1) := by decide +kernel
theorem dX7_hasDegrees_11 : decode cX7_hasDegrees 11 = .ok (.iload_n 1, 1) := by decide +kernel
theorem dX7_hasDegrees_12 : decode cX7_hasDegrees 12 = .ok (.iload_n 2, 1) := by decide +kernel
theorem dX7_hasDegrees_13 : decode cX7_hasDegrees 13 = .ok (.invokevirtual 92, 3) := by decide +kernel
theorem dX7_hasDegrees_16 : decode cX7_hasDegrees 16 = .ok (.aload_n 0, 1) := by decide +kernel
theorem dX7_hasDegrees_17 : decode cX7_hasDegrees 17 = .ok (.getfield 47, 3) := by decide +kernel
theorem dX7_hasDegrees_20 : decode cX7_hasDegrees 20 = .ok (.iload_n 2, 1) := by decide +kernel
theorem dX7_hasDegrees_21 : decode cX7_hasDegrees 21 = .ok (.iaload, 1) := by decide +kernel
theorem dX7_hasDegrees_22 : decode cX7_hasDegrees 22 = .ok (.if_icmp .eq 5, 3) := by decide +kernel
theorem dX7_hasDegrees_25 : decode cX7_hasDegrees 25 = .ok (.iconst 0, 1) := by decide +kernel
theorem dX7_hasDegrees_26 : decode cX7_hasDegrees 26 = .ok (.ireturn, 1) := by decide +kernel
theorem dX7_hasDegrees_27 : decode cX7_hasDegrees 27 = .ok (.iinc 2 1, 3) := by decide +kernel
theorem dX7_hasDegrees_30 : decode cX7_hasDegrees 30 = .ok (.goto (-28), 3) := by decide +kernel
theorem dX7_hasDegrees_33 : decode cX7_hasDegrees 33 = .ok (.iconst 1, 1) := by decide +kernel
theorem dX7_hasDegrees_34 : decode cX7_hasDegrees 34 = .ok (.ireturn, 1) := by decide +kernel
set_option maxRecDepth 20000 in
theorem ggX7_ready_X7_edgesOf : GoodIn wsX7_ready wsX7_edgesOf := goodIn_r _ [14, 3, 38, 39, 40, 41, 42, 43, 44, 45, 46, 47, 48, 49, 50, 51, 52, 53, 54, 55, 56, 57, 58] (by decide +kernel) (by decide +kernel)
set_option maxRecDepth 20000 in
theorem gX7_ready_X7_edgesOf : GoodIn wsX7_ready (wsV RX7 95 RX7 yX7_edgesOf wsX7_edgesOf) := goodIn_app (goodIn_of _ (by decide +kernel)) ggX7_ready_X7_edgesOf
set_option maxRecDepth 20000 in
theorem ggX7_ready_X7_power : GoodIn wsX7_ready wsX7_power := goodIn_r _ [17] (by decide +kernel) (by decide +kernel)
set_option maxRecDepth 20000 in
theorem gX7_ready_X7_power : GoodIn wsX7_ready (va_wsS RX7 128 yX7_power wsX7_power) := goodIn_app (goodIn_of _ (by decide +kernel)) ggX7_ready_X7_power
set_option maxRecDepth 20000 in
theorem ggX7_ready_X7_degreeOf : GoodIn wsX7_ready wsX7_degreeOf := goodIn_r _ [21, 8, 22, 23, 13, 24, 25, 26, 27, 38, 39, 40, 41, 42, 43, 44, 45, 46, 47, 48, 49, 50, 51, 52, 53, 54, 55, 56, 57, 58] (by decide +kernel) (by decide +kernel)
set_option maxRecDepth 20000 in
theorem gX7_ready_X7_degreeOf : GoodIn wsX7_ready (wsV RX7 92 RX7 yX7_degreeOf wsX7_degreeOf) := goodIn_app (goodIn_of _ (by decide +kernel)) ggX7_ready_X7_degreeOf
set_option maxRecDepth 20000 in
theorem ggX7_ready_X7_findTriangles : GoodIn wsX7_ready wsX7_findTriangles := goodIn_r _ [31, 32, 8, 3, 33, 34, 35, 36, 13, 37, 22, 23, 24, 25, 26, 27, 38, 39, 40, 41, 42, 43, 44, 45, 46, 47, 48, 49, 50, 51, 52, 53, 54, 55, 56, 57, 58] (by decide +kernel) (by decide +kernel)
set_option maxRecDepth 20000 in
theorem gX7_ready_X7_findTriangles : GoodIn wsX7_ready (wsV RX7 132 RX7 yX7_findTriangles wsX7_findTriangles) := goodIn_app (goodIn_of _ (by decide +kernel)) ggX7_ready_X7_findTriangles
theorem dX7_ready_0 : decode cX7_ready 0 = .ok (.aload_n 0, 1) := by decide +kernel
theorem dX7_ready_1 : decode cX7_ready 1 = .ok (.iload_n 1, 1) := by decide +kernel
theorem dX7_ready_2 : decode cX7_ready 2 = .ok (.putfield 125, 3) := by decide +kernel
theorem dX7_ready_5 : decode cX7_ready 5 = .ok (.aload_n 0, 1) := by decide +kernel
theorem dX7_ready_6 : decode cX7_ready 6 = .ok (.aload_n 0, 1) := by decide +kernel
theorem dX7_ready_7 : decode cX7_ready 7 = .ok (.getfield 69, 3) := by decide +kernel
theorem dX7_ready_10 : decode cX7_ready 10 = .ok (.invokevirtual 95, 3) := by decide +kernel
theorem dX7_ready_13 : decode cX7_ready 13 = .ok (.istore_n 2, 1) := by decide +kernel
theorem dX7_ready_14 : decode cX7_ready 14 = .ok (.iconst 0, 1) := by decide +kernel
theorem dX7_ready_15 : decode cX7_ready 15 = .ok (.istore_n 3, 1) := by decide +kernel
theorem dX7_ready_16 : decode cX7_ready 16 = .ok (.iload_n 3, 1) := by decide +kernel
theorem dX7_ready_17 : decode cX7_ready 17 = .ok (.aload_n 0, 1) := by decide +kernel
theorem dX7_ready_18 : decode cX7_ready 18 = .ok (.getfield 60, 3) := by decide +kernel
theorem dX7_ready_21 : decode cX7_ready 21 = .ok (.if_icmp .gt 83, 3) := by decide +kernel
theorem dX7_ready_24 : decode cX7_ready 24 = .ok (.aload_n 0, 1) := by decide +kernel
theorem dX7_ready_25 : decode cX7_ready 25 = .ok (.getfield 43, 3) := by decide +kernel
theorem dX7_ready_28 : decode cX7_ready 28 = .ok (.iload_n 3, 1) := by decide +kernel
theorem dX7_ready_29 : decode cX7_ready 29 = .ok (.iload_n 1, 1) := by decide +kernel
theorem dX7_ready_30 : decode cX7_ready 30 = .ok (.ifCond .ne 35, 3) := by decide +kernel
theorem dX7_ready_33 : decode cX7_ready 33 = .ok (.aload_n 0, 1) := by decide +kernel
theorem dX7_ready_34 : decode cX7_ready 34 = .ok (.getfield 17, 3) := by decide +kernel
theorem dX7_ready_37 : decode cX7_ready 37 = .ok (.i2l, 1) := by decide +kernel
theorem dX7_ready_38 : decode cX7_ready 38 = .ok (.iload_n 3, 1) := by decide +kernel
theorem dX7_ready_39 : decode cX7_ready 39 = .ok (.invokestatic 128, 3) := by decide +kernel
theorem dX7_ready_42 : decode cX7_ready 42 = .ok (.aload_n 0, 1) := by decide +kernel
theorem dX7_ready_43 : decode cX7_ready 43 = .ok (.getfield 20, 3) := by decide +kernel
theorem dX7_ready_46 : decode cX7_ready 46 = .ok (.aload_n 0, 1) := by decide +kernel
theorem dX7_ready_47 : decode cX7_ready 47 = .ok (.getfield 17, 3) := by decide +kernel
theorem dX7_ready_50 : decode cX7_ready 50 = .ok (.isub, 1) := by decide +kernel
theorem dX7_ready_51 : decode cX7_ready 51 = .ok (.i2l, 1) := by decide +kernel
theorem dX7_ready_52 : decode cX7_ready 52 = .ok (.aload_n 0, 1) := by decide +kernel
theorem dX7_ready_53 : decode cX7_ready 53 = .ok (.getfield 60, 3) := by decide +kernel
theorem dX7_ready_56 : decode cX7_ready 56 = .ok (.iload_n 3, 1) := by decide +kernel
theorem dX7_ready_57 : decode cX7_ready 57 = .ok (.isub, 1) := by decide +kernel
theorem dX7_ready_58 : decode cX7_ready 58 = .ok (.invokestatic 128, 3) := by decide +kernel
theorem dX7_ready_61 : decode cX7_ready 61 = .ok (.lmul, 1) := by decide +kernel
theorem dX7_ready_62 : decode cX7_ready 62 = .ok (.goto 35, 3) := by decide +kernel
theorem dX7_ready_65 : decode cX7_ready 65 = .ok (.iload_n 1, 1) := by decide +kernel
theorem dX7_ready_66 : decode cX7_ready 66 = .ok (.iconst 1, 1) := by decide +kernel
theorem dX7_ready_67 : decode cX7_ready 67 = .ok (.if_icmp .eq 8, 3) := by decide +kernel
theorem dX7_ready_70 : decode cX7_ready 70 = .ok (.iload_n 1, 1) := by decide +kernel
theorem dX7_ready_71 : decode cX7_ready 71 = .ok (.iconst 2, 1) := by decide +kernel
theorem dX7_ready_72 : decode cX7_ready 72 = .ok (.if_icmp .ne 16, 3) := by decide +kernel
theorem dX7_ready_75 : decode cX7_ready 75 = .ok (.iload_n 3, 1) := by decide +kernel
theorem dX7_ready_76 : decode cX7_ready 76 = .ok (.iload_n 2, 1) := by decide +kernel
theorem dX7_ready_77 : decode cX7_ready 77 = .ok (.if_icmp .ne 7, 3) := by decide +kernel
theorem dX7_ready_80 : decode cX7_ready 80 = .ok (.lconst 1, 1) := by decide +kernel
theorem dX7_ready_81 : decode cX7_ready 81 = .ok (.goto 16, 3) := by decide +kernel
theorem dX7_ready_84 : decode cX7_ready 84 = .ok (.lconst 0, 1) := by decide +kernel
theorem dX7_ready_85 : decode cX7_ready 85 = .ok (.goto 12, 3) := by decide +kernel
theorem dX7_ready_88 : decode cX7_ready 88 = .ok (.aload_n 0, 1) := by decide +kernel
theorem dX7_ready_89 : decode cX7_ready 89 = .ok (.getfield 23, 3) := by decide +kernel
theorem dX7_ready_92 : decode cX7_ready 92 = .ok (.i2l, 1) := by decide +kernel
theorem dX7_ready_93 : decode cX7_ready 93 = .ok (.iload_n 3, 1) := by decide +kernel
theorem dX7_ready_94 : decode cX7_ready 94 = .ok (.invokestatic 128, 3) := by decide +kernel
theorem dX7_ready_97 : decode cX7_ready 97 = .ok (.lastore, 1) := by decide +kernel
theorem dX7_ready_98 : decode cX7_ready 98 = .ok (.iinc 3 1, 3) := by decide +kernel
theorem dX7_ready_101 : decode cX7_ready 101 = .ok (.goto (-85), 3) := by decide +kernel
theorem dX7_ready_104 : decode cX7_ready 104 = .ok (.iconst 0, 1) := by decide +kernel
theorem dX7_ready_105 : decode cX7_ready 105 = .ok (.istore_n 3, 1) := by decide +kernel
theorem dX7_ready_106 : decode cX7_ready 106 = .ok (.iload_n 3, 1) := by decide +kernel
theorem dX7_ready_107 : decode cX7_ready 107 = .ok (.aload_n 0, 1) := by decide +kernel
theorem dX7_ready_108 : decode cX7_ready 108 = .ok (.getfield 7, 3) := by decide +kernel
theorem dX7_ready_111 : decode cX7_ready 111 = .ok (.if_icmp .ge 24, 3) := by decide +kernel
theorem dX7_ready_114 : decode cX7_ready 114 = .ok (.aload_n 0, 1) := by decide +kernel
theorem dX7_ready_115 : decode cX7_ready 115 = .ok (.getfield 47, 3) := by decide +kernel
theorem dX7_ready_118 : decode cX7_ready 118 = .ok (.iload_n 3, 1) := by decide +kernel
theorem dX7_ready_119 : decode cX7_ready 119 = .ok (.aload_n 0, 1) := by decide +kernel
theorem dX7_ready_120 : decode cX7_ready 120 = .ok (.aload_n 0, 1) := by decide +kernel
theorem dX7_ready_121 : decode cX7_ready 121 = .ok (.getfield 69, 3) := by decide +kernel
theorem dX7_ready_124 : decode cX7_ready 124 = .ok (.iload_n 3, 1) := by decide +kernel
theorem dX7_ready_125 : decode cX7_ready 125 = .ok (.invokevirtual 92, 3) := by decide +kernel
theorem dX7_ready_128 : decode cX7_ready 128 = .ok (.iastore, 1) := by decide +kernel
theorem dX7_ready_129 : decode cX7_ready 129 = .ok (.iinc 3 1, 3) := by decide +kernel
theorem dX7_ready_132 : decode cX7_ready 132 = .ok (.goto (-26), 3) := by decide +kernel
theorem dX7_ready_135 : decode cX7_ready 135 = .ok (.iload_n 1, 1) := by decide +kernel
theorem dX7_ready_136 : decode cX7_ready 136 = .ok (.iconst 2, 1) := by decide +kernel
theorem dX7_ready_137 : decode cX7_ready 137 = .ok (.if_icmp .le 7, 3) := by decide +kernel
theorem dX7_ready_140 : decode cX7_ready 140 = .ok (.aload_n 0, 1) := by decide +kernel
theorem dX7_ready_141 : decode cX7_ready 141 = .ok (.invokevirtual 132, 3) := by decide +kernel
theorem dX7_ready_144 : decode cX7_ready 144 = .ok (.return_, 1) := by decide +kernel
set_option maxRecDepth 20000 in
theorem ggX7_weightOf_X7_edgesOf : GoodIn wsX7_weightOf wsX7_edgesOf := goodIn_r _ [9, 10, 30, 31, 32, 33, 34, 35, 36, 37, 38, 39, 40, 41, 42, 43, 44, 45, 46, 47, 48, 49, 50] (by decide +kernel) (by decide +kernel)
set_option maxRecDepth 20000 in
theorem gX7_weightOf_X7_edgesOf : GoodIn wsX7_weightOf (wsV RX7 95 RX7 yX7_edgesOf wsX7_edgesOf) := goodIn_app (goodIn_of _ (by decide +kernel)) ggX7_weightOf_X7_edgesOf
set_option maxRecDepth 20000 in
theorem ggX7_weightOf_X7_hasDegrees : GoodIn wsX7_weightOf wsX7_hasDegrees := goodIn_r _ [14, 15, 16, 17, 18, 19, 8, 20, 21, 22, 23, 24, 25, 26, 30, 31, 32, 33, 34, 35, 36, 37, 38, 39, 40, 41, 42, 43, 44, 45, 46, 47, 48, 49, 50] (by decide +kernel) (by decide +kernel)
set_option maxRecDepth 20000 in
theorem gX7_weightOf_X7_hasDegrees : GoodIn wsX7_weightOf (wsV RX7 135 RX7 yX7_hasDegrees wsX7_hasDegrees) := goodIn_app (goodIn_of _ (by decide +kernel)) ggX7_weightOf_X7_hasDegrees
set_option maxRecDepth 20000 in
theorem ggX7_weightOf_X7_power : GoodIn wsX7_weightOf wsX7_power := goodIn_r _ [29] (by decide +kernel) (by decide +kernel)
set_option maxRecDepth 20000 in
theorem gX7_weightOf_X7_power : GoodIn wsX7_weightOf (va_wsS RX7 128 yX7_power wsX7_power) := goodIn_app (goodIn_of _ (by decide +kernel)) ggX7_weightOf_X7_power
theorem dX7_weightOf_0 : decode cX7_weightOf 0 = .ok (.aload_n 0, 1) := by decide +kernel
theorem dX7_weightOf_1 : decode cX7_weightOf 1 = .ok (.getfield 43, 3) := by decide +kernel
theorem dX7_weightOf_4 : decode cX7_weightOf 4 = .ok (.aload_n 0, 1) := by decide +kernel
theorem dX7_weightOf_5 : decode cX7_weightOf 5 = .ok (.iload_n 1, 1) := by decide +kernel
theorem dX7_weightOf_6 : decode cX7_weightOf 6 = .ok (.invokevirtual 95, 3) := by decide +kernel
theorem dX7_weightOf_9 : decode cX7_weightOf 9 = .ok (.laload, 1) := by decide +kernel
theorem dX7_weightOf_10 : decode cX7_weightOf 10 = .ok (.lstore_n 2, 1) := by decide +kernel
theorem dX7_weightOf_11 : decode cX7_weightOf 11 = .ok (.aload_n 0, 1) := by decide +kernel
theorem dX7_weightOf_12 : decode cX7_weightOf 12 = .ok (.getfield 125, 3) := by decide +kernel
theorem dX7_weightOf_15 : decode cX7_weightOf 15 = .ok (.iconst 2, 1) := by decide +kernel
theorem dX7_weightOf_16 : decode cX7_weightOf 16 = .ok (.if_icmp .ne 23, 3) := by decide +kernel
theorem dX7_weightOf_19 : decode cX7_weightOf 19 = .ok (.lload_n 2, 1) := by decide +kernel
theorem dX7_weightOf_20 : decode cX7_weightOf 20 = .ok (.lconst 0, 1) := by decide +kernel
theorem dX7_weightOf_21 : decode cX7_weightOf 21 = .ok (.lcmp, 1) := by decide +kernel
theorem dX7_weightOf_22 : decode cX7_weightOf 22 = .ok (.ifCond .le 15, 3) := by decide +kernel
theorem dX7_weightOf_25 : decode cX7_weightOf 25 = .ok (.aload_n 0, 1) := by decide +kernel
theorem dX7_weightOf_26 : decode cX7_weightOf 26 = .ok (.iload_n 1, 1) := by decide +kernel
theorem dX7_weightOf_27 : decode cX7_weightOf 27 = .ok (.invokevirtual 135, 3) := by decide +kernel
theorem dX7_weightOf_30 : decode cX7_weightOf 30 = .ok (.ifCond .eq 7, 3) := by decide +kernel
theorem dX7_weightOf_33 : decode cX7_weightOf 33 = .ok (.lconst 1, 1) := by decide +kernel
theorem dX7_weightOf_34 : decode cX7_weightOf 34 = .ok (.goto 4, 3) := by decide +kernel
theorem dX7_weightOf_37 : decode cX7_weightOf 37 = .ok (.lconst 0, 1) := by decide +kernel
theorem dX7_weightOf_38 : decode cX7_weightOf 38 = .ok (.lreturn, 1) := by decide +kernel
theorem dX7_weightOf_39 : decode cX7_weightOf 39 = .ok (.aload_n 0, 1) := by decide +kernel
theorem dX7_weightOf_40 : decode cX7_weightOf 40 = .ok (.getfield 125, 3) := by decide +kernel
theorem dX7_weightOf_43 : decode cX7_weightOf 43 = .ok (.iconst 2, 1) := by decide +kernel
theorem dX7_weightOf_44 : decode cX7_weightOf 44 = .ok (.if_icmp .le 22, 3) := by decide +kernel
theorem dX7_weightOf_47 : decode cX7_weightOf 47 = .ok (.lload_n 2, 1) := by decide +kernel
theorem dX7_weightOf_48 : decode cX7_weightOf 48 = .ok (.aload_n 0, 1) := by decide +kernel
theorem dX7_weightOf_49 : decode cX7_weightOf 49 = .ok (.getfield 26, 3) := by decide +kernel
theorem dX7_weightOf_52 : decode cX7_weightOf 52 = .ok (.i2l, 1) := by decide +kernel
theorem dX7_weightOf_53 : decode cX7_weightOf 53 = .ok (.aload_n 0, 1) := by decide +kernel
theorem dX7_weightOf_54 : decode cX7_weightOf 54 = .ok (.getfield 40, 3) := by decide +kernel
theorem dX7_weightOf_57 : decode cX7_weightOf 57 = .ok (.iload_n 1, 1) := by decide +kernel
theorem dX7_weightOf_58 : decode cX7_weightOf 58 = .ok (.baload, 1) := by decide +kernel
theorem dX7_weightOf_59 : decode cX7_weightOf 59 = .ok (.invokestatic 128, 3) := by decide +kernel
theorem dX7_weightOf_62 : decode cX7_weightOf 62 = .ok (.lmul, 1) := by decide +kernel
theorem dX7_weightOf_63 : decode cX7_weightOf 63 = .ok (.goto 4, 3) := by decide +kernel
theorem dX7_weightOf_66 : decode cX7_weightOf 66 = .ok (.lload_n 2, 1) := by decide +kernel
theorem dX7_weightOf_67 : decode cX7_weightOf 67 = .ok (.lreturn, 1) := by decide +kernel
set_option maxRecDepth 20000 in
theorem ggX7_totalOf_X7_weightOf : GoodIn wsX7_totalOf wsX7_weightOf := goodIn_r _ [6, 7, 8, 9, 10, 11, 12, 13, 5, 14, 1, 15, 16, 17, 18, 19, 20, 21, 22, 23, 24, 25, 26, 27, 28, 29, 30, 31, 32, 33, 34, 35, 36, 37, 38, 39, 40, 41, 42, 43, 44, 45, 46, 47, 48, 49, 50, 51, 52, 53, 54] (by decide +kernel) (by decide +kernel)
set_option maxRecDepth 20000 in
theorem gX7_totalOf_X7_weightOf : GoodIn wsX7_totalOf (wsV RX7 138 RX7 yX7_weightOf wsX7_weightOf) := goodIn_app (goodIn_of _ (by decide +kernel)) ggX7_totalOf_X7_weightOf
theorem dX7_totalOf_0 : decode cX7_totalOf 0 = .ok (.lconst 0, 1) := by decide +kernel
theorem dX7_totalOf_1 : decode cX7_totalOf 1 = .ok (.lstore_n 1, 1) := by decide +kernel
theorem dX7_totalOf_2 : decode cX7_totalOf 2 = .ok (.iconst 0, 1) := by decide +kernel
theorem dX7_totalOf_3 : decode cX7_totalOf 3 = .ok (.istore_n 3, 1) := by decide +kernel
theorem dX7_totalOf_4 : decode cX7_totalOf 4 = .ok (.iload_n 3, 1) := by decide +kernel
theorem dX7_totalOf_5 : decode cX7_totalOf 5 = .ok (.iconst 1, 1) := by decide +kernel
theorem dX7_totalOf_6 : decode cX7_totalOf 6 = .ok (.aload_n 0, 1) := by decide +kernel
theorem dX7_totalOf_7 : decode cX7_totalOf 7 = .ok (.getfield 60, 3) := by decide +kernel
theorem dX7_totalOf_10 : decode cX7_totalOf 10 = .ok (.ishl, 1) := by decide +kernel
theorem dX7_totalOf_11 : decode cX7_totalOf 11 = .ok (.if_icmp .ge 17, 3) := by decide +kernel
theorem dX7_totalOf_14 : decode cX7_totalOf 14 = .ok (.lload_n 1, 1) := by decide +kernel
theorem dX7_totalOf_15 : decode cX7_totalOf 15 = .ok (.aload_n 0, 1) := by decide +kernel
theorem dX7_totalOf_16 : decode cX7_totalOf 16 = .ok (.iload_n 3, 1) := by decide +kernel
theorem dX7_totalOf_17 : decode cX7_totalOf 17 = .ok (.invokevirtual 138, 3) := by decide +kernel
theorem dX7_totalOf_20 : decode cX7_totalOf 20 = .ok (.ladd, 1) := by decide +kernel
theorem dX7_totalOf_21 : decode cX7_totalOf 21 = .ok (.lstore_n 1, 1) := by decide +kernel
theorem dX7_totalOf_22 : decode cX7_totalOf 22 = .ok (.iinc 3 1, 3) := by decide +kernel
theorem dX7_totalOf_25 : decode cX7_totalOf 25 = .ok (.goto (-21), 3) := by decide +kernel
theorem dX7_totalOf_28 : decode cX7_totalOf 28 = .ok (.lload_n 1, 1) := by decide +kernel
theorem dX7_totalOf_29 : decode cX7_totalOf 29 = .ok (.lreturn, 1) := by decide +kernel
set_option maxRecDepth 20000 in
theorem ggX7_isModel_X7_in : GoodIn wsX7_isModel wsX7_in := goodIn_r _ [5] (by decide +kernel) (by decide +kernel)
set_option maxRecDepth 20000 in
theorem gX7_isModel_X7_in : GoodIn wsX7_isModel (va_wsS RX7 56 yX7_in wsX7_in) := goodIn_app (goodIn_of _ (by decide +kernel)) ggX7_isModel_X7_in
theorem dX7_isModel_0 : decode cX7_isModel 0 = .ok (.iload_n 0, 1) := by decide +kernel
theorem dX7_isModel_1 : decode cX7_isModel 1 = .ok (.i2l, 1) := by decide +kernel
theorem dX7_isModel_2 : decode cX7_isModel 2 = .ok (.lconst 0, 1) := by decide +kernel
theorem dX7_isModel_3 : decode cX7_isModel 3 = .ok (.ldc2_w 87, 3) := by decide +kernel
theorem dX7_isModel_6 : decode cX7_isModel 6 = .ok (.invokestatic 56, 3) := by decide +kernel
theorem dX7_isModel_9 : decode cX7_isModel 9 = .ok (.ireturn, 1) := by decide +kernel
set_option maxRecDepth 20000 in
theorem ggX7_isHalf_X7_in : GoodIn wsX7_isHalf wsX7_in := goodIn_r _ [4] (by decide +kernel) (by decide +kernel)
set_option maxRecDepth 20000 in
theorem gX7_isHalf_X7_in : GoodIn wsX7_isHalf (va_wsS RX7 56 yX7_in wsX7_in) := goodIn_app (goodIn_of _ (by decide +kernel)) ggX7_isHalf_X7_in
theorem dX7_isHalf_0 : decode cX7_isHalf 0 = .ok (.iload_n 0, 1) := by decide +kernel
theorem dX7_isHalf_1 : decode cX7_isHalf 1 = .ok (.i2l, 1) := by decide +kernel
theorem dX7_isHalf_2 : decode cX7_isHalf 2 = .ok (.lconst 0, 1) := by decide +kernel
