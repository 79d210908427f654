theorem dX10_load_0 : decode cX10_load 0 = .ok (.aload_n 0, 1) := by decide +kernel
theorem dX10_load_1 : decode cX10_load 1 = .ok (.invokevirtual 97, 3) := by decide +kernel
theorem dX10_load_4 : decode cX10_load 4 = .ok (.istore_n 1, 1) := by decide +kernel
theorem dX10_load_5 : decode cX10_load 5 = .ok (.iload_n 1, 1) := by decide +kernel
theorem dX10_load_6 : decode cX10_load 6 = .ok (.ifCond .lt 8, 3) := by decide +kernel
theorem dX10_load_9 : decode cX10_load 9 = .ok (.bipush (-10), 2) := by decide +kernel
theorem dX10_load_11 : decode cX10_load 11 = .ok (.iload_n 1, 1) := by decide +kernel
theorem dX10_load_12 : decode cX10_load 12 = .ok (.isub, 1) := by decide +kernel
theorem dX10_load_13 : decode cX10_load 13 = .ok (.ireturn, 1) := by decide +kernel
theorem dX10_load_14 : decode cX10_load 14 = .ok (.aload_n 0, 1) := by decide +kernel
theorem dX10_load_15 : decode cX10_load 15 = .ok (.invokevirtual 100, 3) := by decide +kernel
theorem dX10_load_18 : decode cX10_load 18 = .ok (.aload_n 0, 1) := by decide +kernel
theorem dX10_load_19 : decode cX10_load 19 = .ok (.aload_n 0, 1) := by decide +kernel
theorem dX10_load_20 : decode cX10_load 20 = .ok (.getfield 26, 3) := by decide +kernel
theorem dX10_load_23 : decode cX10_load 23 = .ok (.iconst 0, 1) := by decide +kernel
theorem dX10_load_24 : decode cX10_load 24 = .ok (.invokevirtual 103, 3) := by decide +kernel
theorem dX10_load_27 : decode cX10_load 27 = .ok (.aload_n 0, 1) := by decide +kernel
theorem dX10_load_28 : decode cX10_load 28 = .ok (.iconst 0, 1) := by decide +kernel
theorem dX10_load_29 : decode cX10_load 29 = .ok (.putfield 69, 3) := by decide +kernel
theorem dX10_load_32 : decode cX10_load 32 = .ok (.aload_n 0, 1) := by decide +kernel
theorem dX10_load_33 : decode cX10_load 33 = .ok (.invokevirtual 61, 3) := by decide +kernel
theorem dX10_load_36 : decode cX10_load 36 = .ok (.ireturn, 1) := by decide +kernel
set_option maxRecDepth 20000 in
theorem ggX10_crossingCount_X10_crossings : GoodIn wsX10_crossingCount wsX10_crossings := goodIn_r _ [5, 6, 7, 8, 9, 10, 11, 12, 13, 14, 15, 16, 17, 18, 19, 20, 21, 22, 23] (by decide +kernel) (by decide +kernel)
set_option maxRecDepth 20000 in
theorem gX10_crossingCount_X10_crossings : GoodIn wsX10_crossingCount (wsV RX10 61 RX10 yX10_crossings wsX10_crossings) := goodIn_app (goodIn_of _ (by decide +kernel)) ggX10_crossingCount_X10_crossings
theorem dX10_crossingCount_0 : decode cX10_crossingCount 0 = .ok (.aload_n 0, 1) := by decide +kernel
theorem dX10_crossingCount_1 : decode cX10_crossingCount 1 = .ok (.invokevirtual 61, 3) := by decide +kernel
theorem dX10_crossingCount_4 : decode cX10_crossingCount 4 = .ok (.ireturn, 1) := by decide +kernel
theorem dX10_circleCount_0 : decode cX10_circleCount 0 = .ok (.aload_n 0, 1) := by decide +kernel
theorem dX10_circleCount_1 : decode cX10_circleCount 1 = .ok (.getfield 7, 3) := by decide +kernel
theorem dX10_circleCount_4 : decode cX10_circleCount 4 = .ok (.iconst 1, 1) := by decide +kernel
theorem dX10_circleCount_5 : decode cX10_circleCount 5 = .ok (.iaload, 1) := by decide +kernel
theorem dX10_circleCount_6 : decode cX10_circleCount 6 = .ok (.ireturn, 1) := by decide +kernel
set_option maxRecDepth 20000 in
theorem ggX10_arcAt_X10_isCrossing : GoodIn wsX10_arcAt wsX10_isCrossing := goodIn_r _ [6, 7, 8, 9, 5, 10, 11, 12, 13, 14, 19, 20, 21, 22, 23, 24, 25, 26, 27, 28, 29, 30, 31, 32, 33, 34, 35] (by decide +kernel) (by decide +kernel)
set_option maxRecDepth 20000 in
theorem gX10_arcAt_X10_isCrossing : GoodIn wsX10_arcAt (wsV RX10 107 RX10 yX10_isCrossing wsX10_isCrossing) := goodIn_app (goodIn_of _ (by decide +kernel)) ggX10_arcAt_X10_isCrossing
set_option maxRecDepth 20000 in
theorem ggX10_arcAt_X10_in : GoodIn wsX10_arcAt wsX10_in := goodIn_r _ [14] (by decide +kernel) (by decide +kernel)
set_option maxRecDepth 20000 in
theorem gX10_arcAt_X10_in : GoodIn wsX10_arcAt (va_wsS RX10 64 yX10_in wsX10_in) := goodIn_app (goodIn_of _ (by decide +kernel)) ggX10_arcAt_X10_in
set_option maxRecDepth 20000 in
theorem ggX10_arcAt_X10_arc : GoodIn wsX10_arcAt wsX10_arc := goodIn_r _ [18, 11, 19, 20, 21, 22, 23, 24, 25, 26, 27, 28, 29, 30, 31, 32, 33, 34, 35] (by decide +kernel) (by decide +kernel)
set_option maxRecDepth 20000 in
theorem gX10_arcAt_X10_arc : GoodIn wsX10_arcAt (wsV RX10 57 RX10 yX10_arc wsX10_arc) := goodIn_app (goodIn_of _ (by decide +kernel)) ggX10_arcAt_X10_arc
theorem dX10_arcAt_0 : decode cX10_arcAt 0 = .ok (.aload_n 0, 1) := by decide +kernel
theorem dX10_arcAt_1 : decode cX10_arcAt 1 = .ok (.iload_n 1, 1) := by decide +kernel
theorem dX10_arcAt_2 : decode cX10_arcAt 2 = .ok (.invokevirtual 107, 3) := by decide +kernel
theorem dX10_arcAt_5 : decode cX10_arcAt 5 = .ok (.ifCond .eq 24, 3) := by decide +kernel
theorem dX10_arcAt_8 : decode cX10_arcAt 8 = .ok (.iload_n 2, 1) := by decide +kernel
theorem dX10_arcAt_9 : decode cX10_arcAt 9 = .ok (.iconst 0, 1) := by decide +kernel
theorem dX10_arcAt_10 : decode cX10_arcAt 10 = .ok (.iconst 3, 1) := by decide +kernel
theorem dX10_arcAt_11 : decode cX10_arcAt 11 = .ok (.invokestatic 64, 3) := by decide +kernel
theorem dX10_arcAt_14 : decode cX10_arcAt 14 = .ok (.ifCond .eq 15, 3) := by decide +kernel
theorem dX10_arcAt_17 : decode cX10_arcAt 17 = .ok (.aload_n 0, 1) := by decide +kernel
theorem dX10_arcAt_18 : decode cX10_arcAt 18 = .ok (.iconst 4, 1) := by decide +kernel
theorem dX10_arcAt_19 : decode cX10_arcAt 19 = .ok (.iload_n 1, 1) := by decide +kernel
theorem dX10_arcAt_20 : decode cX10_arcAt 20 = .ok (.imul, 1) := by decide +kernel
theorem dX10_arcAt_21 : decode cX10_arcAt 21 = .ok (.iload_n 2, 1) := by decide +kernel
theorem dX10_arcAt_22 : decode cX10_arcAt 22 = .ok (.iadd, 1) := by decide +kernel
theorem dX10_arcAt_23 : decode cX10_arcAt 23 = .ok (.invokevirtual 57, 3) := by decide +kernel
theorem dX10_arcAt_26 : decode cX10_arcAt 26 = .ok (.goto 5, 3) := by decide +kernel
theorem dX10_arcAt_29 : decode cX10_arcAt 29 = .ok (.ldc 68, 2) := by decide +kernel
theorem dX10_arcAt_31 : decode cX10_arcAt 31 = .ok (.ireturn, 1) := by decide +kernel
set_option maxRecDepth 20000 in
theorem ggX10_orient_X10_ends : GoodIn wsX10_orient wsX10_ends := goodIn_r _ [6, 7, 24, 25, 26, 27, 28, 29, 30, 31, 32, 33, 34, 35, 36, 37, 38, 39, 40] (by decide +kernel) (by decide +kernel)
set_option maxRecDepth 20000 in
theorem gX10_orient_X10_ends : GoodIn wsX10_orient (wsV RX10 53 RX10 yX10_ends wsX10_ends) := goodIn_app (goodIn_of _ (by decide +kernel)) ggX10_orient_X10_ends
set_option maxRecDepth 20000 in
theorem ggX10_orient_X10_arc : GoodIn wsX10_orient wsX10_arc := goodIn_r _ [11, 7, 24, 25, 26, 27, 28, 29, 30, 31, 32, 33, 34, 35, 36, 37, 38, 39, 40] (by decide +kernel) (by decide +kernel)
set_option maxRecDepth 20000 in
theorem gX10_orient_X10_arc : GoodIn wsX10_orient (wsV RX10 57 RX10 yX10_arc wsX10_arc) := goodIn_app (goodIn_of _ (by decide +kernel)) ggX10_orient_X10_arc
set_option maxRecDepth 20000 in
theorem ggX10_orient_X10_other : GoodIn wsX10_orient wsX10_other := goodIn_r _ [15, 2, 3, 4, 5, 6, 7, 8, 9, 10, 11, 24, 25, 26, 27, 28, 29, 30, 31, 32, 33, 34, 35, 36, 37, 38, 39, 40] (by decide +kernel) (by decide +kernel)
set_option maxRecDepth 20000 in
theorem gX10_orient_X10_other : GoodIn wsX10_orient (wsV RX10 110 RX10 yX10_other wsX10_other) := goodIn_app (goodIn_of _ (by decide +kernel)) ggX10_orient_X10_other
set_option maxRecDepth 20000 in
theorem ggX10_orient_X10_follow : GoodIn wsX10_orient wsX10_follow := goodIn_r _ [19, 20, 1, 8, 9, 10, 5, 11, 7, 21, 22, 23, 12, 13, 14, 15, 2, 3, 4, 6, 24, 25, 26, 27, 28, 29, 30, 31, 32, 33, 34, 35, 36, 37, 38, 39, 40] (by decide +kernel) (by decide +kernel)
set_option maxRecDepth 20000 in
theorem gX10_orient_X10_follow : GoodIn wsX10_orient (wsV RX10 113 RX10 yX10_follow wsX10_follow) := goodIn_app (goodIn_of _ (by decide +kernel)) ggX10_orient_X10_follow
theorem dX10_orient_0 : decode cX10_orient 0 = .ok (.iconst 0, 1) := by decide +kernel
theorem dX10_orient_1 : decode cX10_orient 1 = .ok (.istore_n 1, 1) := by decide +kernel
theorem dX10_orient_2 : decode cX10_orient 2 = .ok (.iload_n 1, 1) := by decide +kernel
theorem dX10_orient_3 : decode cX10_orient 3 = .ok (.bipush 16, 2) := by decide +kernel
theorem dX10_orient_5 : decode cX10_orient 5 = .ok (.if_icmp .gt 16, 3) := by decide +kernel
theorem dX10_orient_8 : decode cX10_orient 8 = .ok (.aload_n 0, 1) := by decide +kernel
theorem dX10_orient_9 : decode cX10_orient 9 = .ok (.getfield 35, 3) := by decide +kernel
theorem dX10_orient_12 : decode cX10_orient 12 = .ok (.iload_n 1, 1) := by decide +kernel
theorem dX10_orient_13 : decode cX10_orient 13 = .ok (.iconst 0, 1) := by decide +kernel
theorem dX10_orient_14 : decode cX10_orient 14 = .ok (.bastore, 1) := by decide +kernel
theorem dX10_orient_15 : decode cX10_orient 15 = .ok (.iinc 1 1, 3) := by decide +kernel
theorem dX10_orient_18 : decode cX10_orient 18 = .ok (.goto (-16), 3) := by decide +kernel
theorem dX10_orient_21 : decode cX10_orient 21 = .ok (.iconst 1, 1) := by decide +kernel
theorem dX10_orient_22 : decode cX10_orient 22 = .ok (.istore_n 1, 1) := by decide +kernel
theorem dX10_orient_23 : decode cX10_orient 23 = .ok (.iload_n 1, 1) := by decide +kernel
theorem dX10_orient_24 : decode cX10_orient 24 = .ok (.bipush 16, 2) := by decide +kernel
theorem dX10_orient_26 : decode cX10_orient 26 = .ok (.if_icmp .gt 65, 3) := by decide +kernel
theorem dX10_orient_29 : decode cX10_orient 29 = .ok (.iconst (-1), 1) := by decide +kernel
theorem dX10_orient_30 : decode cX10_orient 30 = .ok (.istore_n 2, 1) := by decide +kernel
theorem dX10_orient_31 : decode cX10_orient 31 = .ok (.aload_n 0, 1) := by decide +kernel
theorem dX10_orient_32 : decode cX10_orient 32 = .ok (.invokevirtual 53, 3) := by decide +kernel
theorem dX10_orient_35 : decode cX10_orient 35 = .ok (.iconst 1, 1) := by decide +kernel
theorem dX10_orient_36 : decode cX10_orient 36 = .ok (.isub, 1) := by decide +kernel
theorem dX10_orient_37 : decode cX10_orient 37 = .ok (.istore_n 3, 1) := by decide +kernel
theorem dX10_orient_38 : decode cX10_orient 38 = .ok (.iload_n 3, 1) := by decide +kernel
theorem dX10_orient_39 : decode cX10_orient 39 = .ok (.ifCond .lt 24, 3) := by decide +kernel
theorem dX10_orient_42 : decode cX10_orient 42 = .ok (.aload_n 0, 1) := by decide +kernel
theorem dX10_orient_43 : decode cX10_orient 43 = .ok (.iload_n 3, 1) := by decide +kernel
theorem dX10_orient_44 : decode cX10_orient 44 = .ok (.invokevirtual 57, 3) := by decide +kernel
theorem dX10_orient_47 : decode cX10_orient 47 = .ok (.iload_n 1, 1) := by decide +kernel
theorem dX10_orient_48 : decode cX10_orient 48 = .ok (.if_icmp .ne 7, 3) := by decide +kernel
theorem dX10_orient_51 : decode cX10_orient 51 = .ok (.iload_n 3, 1) := by decide +kernel
theorem dX10_orient_52 : decode cX10_orient 52 = .ok (.goto 4, 3) := by decide +kernel
theorem dX10_orient_55 : decode cX10_orient 55 = .ok (.iload_n 2, 1) := by decide +kernel
theorem dX10_orient_56 : decode cX10_orient 56 = .ok (.istore_n 2, 1) := by decide +kernel
theorem dX10_orient_57 : decode cX10_orient 57 = .ok (.iinc 3 (-1), 3) := by decide +kernel
theorem dX10_orient_60 : decode cX10_orient 60 = .ok (.goto (-22), 3) := by decide +kernel
theorem dX10_orient_63 : decode cX10_orient 63 = .ok (.iload_n 2, 1) := by decide +kernel
theorem dX10_orient_64 : decode cX10_orient 64 = .ok (.ifCond .lt 21, 3) := by decide +kernel
theorem dX10_orient_67 : decode cX10_orient 67 = .ok (.aload_n 0, 1) := by decide +kernel
theorem dX10_orient_68 : decode cX10_orient 68 = .ok (.getfield 35, 3) := by decide +kernel
theorem dX10_orient_71 : decode cX10_orient 71 = .ok (.iload_n 1, 1) := by decide +kernel
theorem dX10_orient_72 : decode cX10_orient 72 = .ok (.baload, 1) := by decide +kernel
theorem dX10_orient_73 : decode cX10_orient 73 = .ok (.ifCond .ne 12, 3) := by decide +kernel
theorem dX10_orient_76 : decode cX10_orient 76 = .ok (.aload_n 0, 1) := by decide +kernel
theorem dX10_orient_77 : decode cX10_orient 77 = .ok (.aload_n 0, 1) := by decide +kernel
theorem dX10_orient_78 : decode cX10_orient 78 = .ok (.iload_n 2, 1) := by decide +kernel
theorem dX10_orient_79 : decode cX10_orient 79 = .ok (.invokevirtual 110, 3) := by decide +kernel
theorem dX10_orient_82 : decode cX10_orient 82 = .ok (.invokevirtual 113, 3) := by decide +kernel
theorem dX10_orient_85 : decode cX10_orient 85 = .ok (.iinc 1 1, 3) := by decide +kernel
theorem dX10_orient_88 : decode cX10_orient 88 = .ok (.goto (-65), 3) := by decide +kernel
theorem dX10_orient_91 : decode cX10_orient 91 = .ok (.return_, 1) := by decide +kernel
set_option maxRecDepth 20000 in
theorem ggX10_follow_X10_arc : GoodIn wsX10_follow wsX10_arc := goodIn_r _ [7, 8, 20, 21, 22, 23, 24, 25, 26, 27, 28, 29, 30, 31, 32, 33, 34, 35, 36] (by decide +kernel) (by decide +kernel)
set_option maxRecDepth 20000 in
theorem gX10_follow_X10_arc : GoodIn wsX10_follow (wsV RX10 57 RX10 yX10_arc wsX10_arc) := goodIn_app (goodIn_of _ (by decide +kernel)) ggX10_follow_X10_arc
set_option maxRecDepth 20000 in
theorem ggX10_follow_X10_turn : GoodIn wsX10_follow wsX10_turn := goodIn_r _ [11] (by decide +kernel) (by decide +kernel)
set_option maxRecDepth 20000 in
theorem gX10_follow_X10_turn : GoodIn wsX10_follow (va_wsS RX10 117 yX10_turn wsX10_turn) := goodIn_app (goodIn_of _ (by decide +kernel)) ggX10_follow_X10_turn
set_option maxRecDepth 20000 in
theorem ggX10_follow_X10_other : GoodIn wsX10_follow wsX10_other := goodIn_r _ [15, 16, 17, 18, 6, 19, 8, 3, 4, 5, 7, 20, 21, 22, 23, 24, 25, 26, 27, 28, 29, 30, 31, 32, 33, 34, 35, 36] (by decide +kernel) (by decide +kernel)
set_option maxRecDepth 20000 in
theorem gX10_follow_X10_other : GoodIn wsX10_follow (wsV RX10 110 RX10 yX10_other wsX10_other) := goodIn_app (goodIn_of _ (by decide +kernel)) ggX10_follow_X10_other
theorem dX10_follow_0 : decode cX10_follow 0 = .ok (.iload_n 1, 1) := by decide +kernel
theorem dX10_follow_1 : decode cX10_follow 1 = .ok (.istore_n 2, 1) := by decide +kernel
theorem dX10_follow_2 : decode cX10_follow 2 = .ok (.iconst 1, 1) := by decide +kernel
theorem dX10_follow_3 : decode cX10_follow 3 = .ok (.istore_n 3, 1) := by decide +kernel
theorem dX10_follow_4 : decode cX10_follow 4 = .ok (.iload_n 3, 1) := by decide +kernel
theorem dX10_follow_5 : decode cX10_follow 5 = .ok (.ifCond .eq 55, 3) := by decide +kernel
theorem dX10_follow_8 : decode cX10_follow 8 = .ok (.aload_n 0, 1) := by decide +kernel
theorem dX10_follow_9 : decode cX10_follow 9 = .ok (.getfield 32, 3) := by decide +kernel
theorem dX10_follow_12 : decode cX10_follow 12 = .ok (.iload_n 2, 1) := by decide +kernel
theorem dX10_follow_13 : decode cX10_follow 13 = .ok (.iconst 4, 1) := by decide +kernel
theorem dX10_follow_14 : decode cX10_follow 14 = .ok (.idiv, 1) := by decide +kernel
theorem dX10_follow_15 : decode cX10_follow 15 = .ok (.iconst 2, 1) := by decide +kernel
theorem dX10_follow_16 : decode cX10_follow 16 = .ok (.imul, 1) := by decide +kernel
theorem dX10_follow_17 : decode cX10_follow 17 = .ok (.iload_n 2, 1) := by decide +kernel
theorem dX10_follow_18 : decode cX10_follow 18 = .ok (.iconst 2, 1) := by decide +kernel
theorem dX10_follow_19 : decode cX10_follow 19 = .ok (.irem, 1) := by decide +kernel
theorem dX10_follow_20 : decode cX10_follow 20 = .ok (.iadd, 1) := by decide +kernel
theorem dX10_follow_21 : decode cX10_follow 21 = .ok (.iload_n 2, 1) := by decide +kernel
theorem dX10_follow_22 : decode cX10_follow 22 = .ok (.iconst 4, 1) := by decide +kernel
theorem dX10_follow_23 : decode cX10_follow 23 = .ok (.irem, 1) := by decide +kernel
theorem dX10_follow_24 : decode cX10_follow 24 = .ok (.iastore, 1) := by decide +kernel
theorem dX10_follow_25 : decode cX10_follow 25 = .ok (.aload_n 0, 1) := by decide +kernel
theorem dX10_follow_26 : decode cX10_follow 26 = .ok (.getfield 35, 3) := by decide +kernel
theorem dX10_follow_29 : decode cX10_follow 29 = .ok (.aload_n 0, 1) := by decide +kernel
theorem dX10_follow_30 : decode cX10_follow 30 = .ok (.iload_n 2, 1) := by decide +kernel
theorem dX10_follow_31 : decode cX10_follow 31 = .ok (.invokevirtual 57, 3) := by decide +kernel
theorem dX10_follow_34 : decode cX10_follow 34 = .ok (.iconst 1, 1) := by decide +kernel
theorem dX10_follow_35 : decode cX10_follow 35 = .ok (.bastore, 1) := by decide +kernel
theorem dX10_follow_36 : decode cX10_follow 36 = .ok (.aload_n 0, 1) := by decide +kernel
theorem dX10_follow_37 : decode cX10_follow 37 = .ok (.iload_n 2, 1) := by decide +kernel
theorem dX10_follow_38 : decode cX10_follow 38 = .ok (.iconst 2, 1) := by decide +kernel
theorem dX10_follow_39 : decode cX10_follow 39 = .ok (.invokestatic 117, 3) := by decide +kernel
theorem dX10_follow_42 : decode cX10_follow 42 = .ok (.invokevirtual 110, 3) := by decide +kernel
theorem dX10_follow_45 : decode cX10_follow 45 = .ok (.istore_n 2, 1) := by decide +kernel
theorem dX10_follow_46 : decode cX10_follow 46 = .ok (.iload_n 2, 1) := by decide +kernel
theorem dX10_follow_47 : decode cX10_follow 47 = .ok (.iload_n 1, 1) := by decide +kernel
theorem dX10_follow_48 : decode cX10_follow 48 = .ok (.if_icmp .eq 7, 3) := by decide +kernel
theorem dX10_follow_51 : decode cX10_follow 51 = .ok (.iconst 1, 1) := by decide +kernel
theorem dX10_follow_52 : decode cX10_follow 52 = .ok (.goto 4, 3) := by decide +kernel
theorem dX10_follow_55 : decode cX10_follow 55 = .ok (.iconst 0, 1) := by decide +kernel
theorem dX10_follow_56 : decode cX10_follow 56 = .ok (.istore_n 3, 1) := by decide +kernel
theorem dX10_follow_57 : decode cX10_follow 57 = .ok (.goto (-53), 3) := by decide +kernel
theorem dX10_follow_60 : decode cX10_follow 60 = .ok (.return_, 1) := by decide +kernel
theorem dX10_sign_0 : decode cX10_sign 0 = .ok (.aload_n 0, 1) := by decide +kernel
theorem dX10_sign_1 : decode cX10_sign 1 = .ok (.getfield 32, 3) := by decide +kernel
theorem dX10_sign_4 : decode cX10_sign 4 = .ok (.iconst 2, 1) := by decide +kernel
theorem dX10_sign_5 : decode cX10_sign 5 = .ok (.iload_n 1, 1) := by decide +kernel
theorem dX10_sign_6 : decode cX10_sign 6 = .ok (.imul, 1) := by decide +kernel
theorem dX10_sign_7 : decode cX10_sign 7 = .ok (.iaload, 1) := by decide +kernel
theorem dX10_sign_8 : decode cX10_sign 8 = .ok (.ifCond .ne 7, 3) := by decide +kernel
theorem dX10_sign_11 : decode cX10_sign 11 = .ok (.iconst 1, 1) := by decide +kernel
theorem dX10_sign_12 : decode cX10_sign 12 = .ok (.goto 4, 3) := by decide +kernel
theorem dX10_sign_15 : decode cX10_sign 15 = .ok (.iconst 0, 1) := by decide +kernel
theorem dX10_sign_16 : decode cX10_sign 16 = .ok (.istore_n 2, 1) := by decide +kernel
theorem dX10_sign_17 : decode cX10_sign 17 = .ok (.aload_n 0, 1) := by decide +kernel
theorem dX10_sign_18 : decode cX10_sign 18 = .ok (.getfield 32, 3) := by decide +kernel
theorem dX10_sign_21 : decode cX10_sign 21 = .ok (.iconst 2, 1) := by decide +kernel
theorem dX10_sign_22 : decode cX10_sign 22 = .ok (.iload_n 1, 1) := by decide +kernel
theorem dX10_sign_23 : decode cX10_sign 23 = .ok (.imul, 1) := by decide +kernel
theorem dX10_sign_24 : decode cX10_sign 24 = .ok (.iconst 1, 1) := by decide +kernel
theorem dX10_sign_25 : decode cX10_sign 25 = .ok (.iadd, 1) := by decide +kernel
theorem dX10_sign_26 : decode cX10_sign 26 = .ok (.iaload, 1) := by decide +kernel
theorem dX10_sign_27 : decode cX10_sign 27 = .ok (.iconst 3, 1) := by decide +kernel
theorem dX10_sign_28 : decode cX10_sign 28 = .ok (.if_icmp .ne 7, 3) := by decide +kernel
theorem dX10_sign_31 : decode cX10_sign 31 = .ok (.iconst 1, 1) := by decide +kernel
theorem dX10_sign_32 : decode cX10_sign 32 = .ok (.goto 4, 3) := by decide +kernel
theorem dX10_sign_35 : decode cX10_sign 35 = .ok (.iconst 0, 1) := by decide +kernel
theorem dX10_sign_36 : decode cX10_sign 36 = .ok (.istore_n 3, 1) := by decide +kernel
theorem dX10_sign_37 : decode cX10_sign 37 = .ok (.iload_n 2, 1) := by decide +kernel
theorem dX10_sign_38 : decode cX10_sign 38 = .ok (.iload_n 3, 1) := by decide +kernel
theorem dX10_sign_39 : decode cX10_sign 39 = .ok (.if_icmp .ne 7, 3) := by decide +kernel
theorem dX10_sign_42 : decode cX10_sign 42 = .ok (.iconst 1, 1) := by decide +kernel
theorem dX10_sign_43 : decode cX10_sign 43 = .ok (.goto 4, 3) := by decide +kernel
theorem dX10_sign_46 : decode cX10_sign 46 = .ok (.iconst (-1), 1) := by decide +kernel
theorem dX10_sign_47 : decode cX10_sign 47 = .ok (.ireturn, 1) := by decide +kernel
set_option maxRecDepth 20000 in
theorem ggX10_writheNow_X10_orient : GoodIn wsX10_writheNow wsX10_orient := goodIn_r _ [5, 6, 7, 8, 9, 4, 10, 11, 12, 13, 14, 15, 16, 17, 18, 19, 20, 21, 22, 23, 24, 25, 26, 27, 36, 37, 38, 39, 40, 41, 42, 43, 44, 45, 46, 47, 48, 49, 50, 51, 52] (by decide +kernel) (by decide +kernel)
set_option maxRecDepth 20000 in
theorem gX10_writheNow_X10_orient : GoodIn wsX10_writheNow (wsV RX10 121 RX10 yX10_orient wsX10_orient) := goodIn_app (goodIn_of _ (by decide +kernel)) ggX10_writheNow_X10_orient
set_option maxRecDepth 20000 in
theorem ggX10_writheNow_X10_crossings : GoodIn wsX10_writheNow wsX10_crossings := goodIn_r _ [31, 11, 36, 37, 38, 39, 40, 41, 42, 43, 44, 45, 46, 47, 48, 49, 50, 51, 52] (by decide +kernel) (by decide +kernel)
set_option maxRecDepth 20000 in
theorem gX10_writheNow_X10_crossings : GoodIn wsX10_writheNow (wsV RX10 61 RX10 yX10_crossings wsX10_crossings) := goodIn_app (goodIn_of _ (by decide +kernel)) ggX10_writheNow_X10_crossings
set_option maxRecDepth 20000 in
theorem ggX10_writheNow_X10_sign : GoodIn wsX10_writheNow wsX10_sign := goodIn_r _ [35, 24, 36, 37, 38, 39, 40, 41, 42, 43, 44, 45, 46, 47, 48, 49, 50, 51, 52] (by decide +kernel) (by decide +kernel)
set_option maxRecDepth 20000 in
theorem gX10_writheNow_X10_sign : GoodIn wsX10_writheNow (wsV RX10 124 RX10 yX10_sign wsX10_sign) := goodIn_app (goodIn_of _ (by decide +kernel)) ggX10_writheNow_X10_sign
theorem dX10_writheNow_0 : decode cX10_writheNow 0 = .ok (.aload_n 0, 1) := by decide +kernel
theorem dX10_writheNow_1 : decode cX10_writheNow 1 = .ok (.invokevirtual 121, 3) := by decide +kernel
theorem dX10_writheNow_4 : decode cX10_writheNow 4 = .ok (.iconst 0, 1) := by decide +kernel
theorem dX10_writheNow_5 : decode cX10_writheNow 5 = .ok (.istore_n 1, 1) := by decide +kernel
theorem dX10_writheNow_6 : decode cX10_writheNow 6 = .ok (.iconst 0, 1) := by decide +kernel
theorem dX10_writheNow_7 : decode cX10_writheNow 7 = .ok (.istore_n 2, 1) := by decide +kernel
theorem dX10_writheNow_8 : decode cX10_writheNow 8 = .ok (.iload_n 2, 1) := by decide +kernel
theorem dX10_writheNow_9 : decode cX10_writheNow 9 = .ok (.aload_n 0, 1) := by decide +kernel
theorem dX10_writheNow_10 : decode cX10_writheNow 10 = .ok (.invokevirtual 61, 3) := by decide +kernel
theorem dX10_writheNow_13 : decode cX10_writheNow 13 = .ok (.if_icmp .ge 17, 3) := by decide +kernel
theorem dX10_writheNow_16 : decode cX10_writheNow 16 = .ok (.iload_n 1, 1) := by decide +kernel
theorem dX10_writheNow_17 : decode cX10_writheNow 17 = .ok (.aload_n 0, 1) := by decide +kernel
theorem dX10_writheNow_18 : decode cX10_writheNow 18 = .ok (.iload_n 2, 1) := by decide +kernel
theorem dX10_writheNow_19 : decode cX10_writheNow 19 = .ok (.invokevirtual 124, 3) := by decide +kernel
theorem dX10_writheNow_22 : decode cX10_writheNow 22 = .ok (.iadd, 1) := by decide +kernel
theorem dX10_writheNow_23 : decode cX10_writheNow 23 = .ok (.istore_n 1, 1) := by decide +kernel
theorem dX10_writheNow_24 : decode cX10_writheNow 24 = .ok (.iinc 2 1, 3) := by decide +kernel
theorem dX10_writheNow_27 : decode cX10_writheNow 27 = .ok (.goto (-19), 3) := by decide +kernel
theorem dX10_writheNow_30 : decode cX10_writheNow 30 = .ok (.iload_n 1, 1) := by decide +kernel
theorem dX10_writheNow_31 : decode cX10_writheNow 31 = .ok (.ireturn, 1) := by decide +kernel
set_option maxRecDepth 20000 in
theorem ggX10_crossingSign_X10_isCrossing : GoodIn wsX10_crossingSign wsX10_isCrossing := goodIn_r _ [6, 7, 8, 9, 5, 10, 11, 12, 13, 14, 44, 45, 46, 47, 48, 49, 50, 51, 52, 53, 54, 55, 56, 57, 58, 59, 60] (by decide +kernel) (by decide +kernel)
set_option maxRecDepth 20000 in
theorem gX10_crossingSign_X10_isCrossing : GoodIn wsX10_crossingSign (wsV RX10 107 RX10 yX10_isCrossing wsX10_isCrossing) := goodIn_app (goodIn_of _ (by decide +kernel)) ggX10_crossingSign_X10_isCrossing
set_option maxRecDepth 20000 in
theorem ggX10_crossingSign_X10_orient : GoodIn wsX10_crossingSign wsX10_orient := goodIn_r _ [18, 19, 20, 21, 22, 5, 23, 11, 24, 25, 26, 27, 28, 29, 30, 31, 32, 33, 34, 35, 36, 37, 38, 39, 44, 45, 46, 47, 48, 49, 50, 51, 52, 53, 54, 55, 56, 57, 58, 59, 60] (by decide +kernel) (by decide +kernel)
set_option maxRecDepth 20000 in
theorem gX10_crossingSign_X10_orient : GoodIn wsX10_crossingSign (wsV RX10 121 RX10 yX10_orient wsX10_orient) := goodIn_app (goodIn_of _ (by decide +kernel)) ggX10_crossingSign_X10_orient
set_option maxRecDepth 20000 in
theorem ggX10_crossingSign_X10_sign : GoodIn wsX10_crossingSign wsX10_sign := goodIn_r _ [43, 36, 44, 45, 46, 47, 48, 49, 50, 51, 52, 53, 54, 55, 56, 57, 58, 59, 60] (by decide +kernel) (by decide +kernel)
set_option maxRecDepth 20000 in
theorem gX10_crossingSign_X10_sign : GoodIn wsX10_crossingSign (wsV RX10 124 RX10 yX10_sign wsX10_sign) := goodIn_app (goodIn_of _ (by decide +kernel)) ggX10_crossingSign_X10_sign
theorem dX10_crossingSign_0 : decode cX10_crossingSign 0 = .ok (.aload_n 0, 1) := by decide +kernel
theorem dX10_crossingSign_1 : decode cX10_crossingSign 1 = .ok (.iload_n 1, 1) := by decide +kernel
theorem dX10_crossingSign_2 : decode cX10_crossingSign 2 = .ok (.invokevirtual 107, 3) := by decide +kernel
theorem dX10_crossingSign_5 : decode cX10_crossingSign 5 = .ok (.ifCond .ne 6, 3) := by decide +kernel
theorem dX10_crossingSign_8 : decode cX10_crossingSign 8 = .ok (.ldc 68, 2) := by decide +kernel
theorem dX10_crossingSign_10 : decode cX10_crossingSign 10 = .ok (.ireturn, 1) := by decide +kernel
theorem dX10_crossingSign_11 : decode cX10_crossingSign 11 = .ok (.aload_n 0, 1) := by decide +kernel
theorem dX10_crossingSign_12 : decode cX10_crossingSign 12 = .ok (.invokevirtual 121, 3) := by decide +kernel
theorem dX10_crossingSign_15 : decode cX10_crossingSign 15 = .ok (.aload_n 0, 1) := by decide +kernel
theorem dX10_crossingSign_16 : decode cX10_crossingSign 16 = .ok (.iload_n 1, 1) := by decide +kernel
theorem dX10_crossingSign_17 : decode cX10_crossingSign 17 = .ok (.invokevirtual 124, 3) := by decide +kernel
theorem dX10_crossingSign_20 : decode cX10_crossingSign 20 = .ok (.ireturn, 1) := by decide +kernel
set_option maxRecDepth 20000 in
theorem ggX10_writhe_X10_writheNow : GoodIn wsX10_writhe wsX10_writheNow := goodIn_r _ [5, 6, 7, 8, 4, 9, 10, 11, 12, 13, 14, 15, 16, 17, 18, 19, 20, 21, 22, 23, 24, 25, 26, 27, 28, 29, 30, 31, 32, 33, 34, 35, 36, 37, 38, 39, 40, 41, 42, 43, 44, 45, 46, 47, 48, 49, 50, 51, 52, 53, 54, 55, 56] (by decide +kernel) (by decide +kernel)
set_option maxRecDepth 20000 in
theorem gX10_writhe_X10_writheNow : GoodIn wsX10_writhe (wsV RX10 127 RX10 yX10_writheNow wsX10_writheNow) := goodIn_app (goodIn_of _ (by decide +kernel)) ggX10_writhe_X10_writheNow
theorem dX10_writhe_0 : decode cX10_writhe 0 = .ok (.aload_n 0, 1) := by decide +kernel
theorem dX10_writhe_1 : decode cX10_writhe 1 = .ok (.invokevirtual 127, 3) := by decide +kernel
theorem dX10_writhe_4 : decode cX10_writhe 4 = .ok (.ireturn, 1) := by decide +kernel
theorem dX10_exchange_0 : decode cX10_exchange 0 = .ok (.iconst 2, 1) := by decide +kernel
theorem dX10_exchange_1 : decode cX10_exchange 1 = .ok (.iconst 4, 1) := by decide +kernel
theorem dX10_exchange_2 : decode cX10_exchange 2 = .ok (.iload_n 1, 1) := by decide +kernel
theorem dX10_exchange_3 : decode cX10_exchange 3 = .ok (.imul, 1) := by decide +kernel
theorem dX10_exchange_4 : decode cX10_exchange 4 = .ok (.iadd, 1) := by decide +kernel
theorem dX10_exchange_5 : decode cX10_exchange 5 = .ok (.istore_n 2, 1) := by decide +kernel
theorem dX10_exchange_6 : decode cX10_exchange 6 = .ok (.aload_n 0, 1) := by decide +kernel
theorem dX10_exchange_7 : decode cX10_exchange 7 = .ok (.getfield 7, 3) := by decide +kernel
theorem dX10_exchange_10 : decode cX10_exchange 10 = .ok (.iload_n 2, 1) := by decide +kernel
theorem dX10_exchange_11 : decode cX10_exchange 11 = .ok (.iaload, 1) := by decide +kernel
theorem dX10_exchange_12 : decode cX10_exchange 12 = .ok (.istore_n 3, 1) := by decide +kernel
theorem dX10_exchange_13 : decode cX10_exchange 13 = .ok (.aload_n 0, 1) := by decide +kernel
theorem dX10_exchange_14 : decode cX10_exchange 14 = .ok (.getfield 7, 3) := by decide +kernel
theorem dX10_exchange_17 : decode cX10_exchange 17 = .ok (.iload_n 2, 1) := by decide +kernel
theorem dX10_exchange_18 : decode cX10_exchange 18 = .ok (.aload_n 0, 1) := by decide +kernel
theorem dX10_exchange_19 : decode cX10_exchange 19 = .ok (.getfield 7, 3) := by decide +kernel
theorem dX10_exchange_22 : decode cX10_exchange 22 = .ok (.iload_n 2, 1) := by decide +kernel
theorem dX10_exchange_23 : decode cX10_exchange 23 = .ok (.iconst 1, 1) := by decide +kernel
theorem dX10_exchange_24 : decode cX10_exchange 24 = .ok (.iadd, 1) := by decide +kernel
theorem dX10_exchange_25 : decode cX10_exchange 25 = .ok (.iaload, 1) := by decide +kernel
theorem dX10_exchange_26 : decode cX10_exchange 26 = .ok (.iastore, 1) := by decide +kernel
theorem dX10_exchange_27 : decode cX10_exchange 27 = .ok (.aload_n 0, 1) := by decide +kernel
theorem dX10_exchange_28 : decode cX10_exchange 28 = .ok (.getfield 7, 3) := by decide +kernel
theorem dX10_exchange_31 : decode cX10_exchange 31 = .ok (.iload_n 2, 1) := by decide +kernel
theorem dX10_exchange_32 : decode cX10_exchange 32 = .ok (.iconst 1, 1) := by decide +kernel
theorem dX10_exchange_33 : decode cX10_exchange 33 = .ok (.iadd, 1) := by decide +kernel
theorem dX10_exchange_34 : decode cX10_exchange 34 = .ok (.aload_n 0, 1) := by decide +kernel
theorem dX10_exchange_35 : decode cX10_exchange 35 = .ok (.getfield 7, 3) := by decide +kernel
theorem dX10_exchange_38 : decode cX10_exchange 38 = .ok (.iload_n 2, 1) := by decide +kernel
theorem dX10_exchange_39 : decode cX10_exchange 39 = .ok (.iconst 2, 1) := by decide +kernel
theorem dX10_exchange_40 : decode cX10_exchange 40 = .ok (.iadd, 1) := by decide +kernel
theorem dX10_exchange_41 : decode cX10_exchange 41 = .ok (.iaload, 1) := by decide +kernel
theorem dX10_exchange_42 : decode cX10_exchange 42 = .ok (.iastore, 1) := by decide +kernel
theorem dX10_exchange_43 : decode cX10_exchange 43 = .ok (.aload_n 0, 1) := by decide +kernel
theorem dX10_exchange_44 : decode cX10_exchange 44 = .ok (.getfield 7, 3) := by decide +kernel
theorem dX10_exchange_47 : decode cX10_exchange 47 = .ok (.iload_n 2, 1) := by decide +kernel
theorem dX10_exchange_48 : decode cX10_exchange 48 = .ok (.iconst 2, 1) := by decide +kernel
theorem dX10_exchange_49 : decode cX10_exchange 49 = .ok (.iadd, 1) := by decide +kernel
theorem dX10_exchange_50 : decode cX10_exchange 50 = .ok (.aload_n 0, 1) := by decide +kernel
theorem dX10_exchange_51 : decode cX10_exchange 51 = .ok (.getfield 7, 3) := by decide +kernel
theorem dX10_exchange_54 : decode cX10_exchange 54 = .ok (.iload_n 2, 1) := by decide +kernel
theorem dX10_exchange_55 : decode cX10_exchange 55 = .ok (.iconst 3, 1) := by decide +kernel
theorem dX10_exchange_56 : decode cX10_exchange 56 = .ok (.iadd, 1) := by decide +kernel
theorem dX10_exchange_57 : decode cX10_exchange 57 = .ok (.iaload, 1) := by decide +kernel
theorem dX10_exchange_58 : decode cX10_exchange 58 = .ok (.iastore, 1) := by decide +kernel
theorem dX10_exchange_59 : decode cX10_exchange 59 = .ok (.aload_n 0, 1) := by decide +kernel
theorem dX10_exchange_60 : decode cX10_exchange 60 = .ok (.getfield 7, 3) := by decide +kernel
theorem dX10_exchange_63 : decode cX10_exchange 63 = .ok (.iload_n 2, 1) := by decide +kernel
theorem dX10_exchange_64 : decode cX10_exchange 64 = .ok (.iconst 3, 1) := by decide +kernel
theorem dX10_exchange_65 : decode cX10_exchange 65 = .ok (.iadd, 1) := by decide +kernel
theorem dX10_exchange_66 : decode cX10_exchange 66 = .ok (.iload_n 3, 1) := by decide +kernel
theorem dX10_exchange_67 : decode cX10_exchange 67 = .ok (.iastore, 1) := by decide +kernel
theorem dX10_exchange_68 : decode cX10_exchange 68 = .ok (.return_, 1) := by decide +kernel
set_option maxRecDepth 20000 in
theorem ggX10_switchCrossing_X10_isCrossing : GoodIn wsX10_switchCrossing wsX10_isCrossing := goodIn_r _ [6, 7, 8, 9, 5, 10, 11, 12, 13, 14, 54, 55, 56, 57, 58, 59, 60, 61, 62, 63, 64, 65, 66, 67, 68, 69, 70] (by decide +kernel) (by decide +kernel)
set_option maxRecDepth 20000 in
theorem gX10_switchCrossing_X10_isCrossing : GoodIn wsX10_switchCrossing (wsV RX10 107 RX10 yX10_isCrossing wsX10_isCrossing) := goodIn_app (goodIn_of _ (by decide +kernel)) ggX10_switchCrossing_X10_isCrossing
set_option maxRecDepth 20000 in
theorem ggX10_switchCrossing_X10_remember : GoodIn wsX10_switchCrossing wsX10_remember := goodIn_r _ [18, 19, 20, 11, 54, 55, 56, 57, 58, 59, 60, 61, 62, 63, 64, 65, 66, 67, 68, 69, 70] (by decide +kernel) (by decide +kernel)
set_option maxRecDepth 20000 in
theorem gX10_switchCrossing_X10_remember : GoodIn wsX10_switchCrossing (wsV RX10 100 RX10 yX10_remember wsX10_remember) := goodIn_app (goodIn_of _ (by decide +kernel)) ggX10_switchCrossing_X10_remember
set_option maxRecDepth 20000 in
theorem ggX10_switchCrossing_X10_exchange : GoodIn wsX10_switchCrossing wsX10_exchange := goodIn_r _ [24, 11, 54, 55, 56, 57, 58, 59, 60, 61, 62, 63, 64, 65, 66, 67, 68, 69, 70] (by decide +kernel) (by decide +kernel)
set_option maxRecDepth 20000 in
theorem gX10_switchCrossing_X10_exchange : GoodIn wsX10_switchCrossing (wsV RX10 130 RX10 yX10_exchange wsX10_exchange) := goodIn_app (goodIn_of _ (by decide +kernel)) ggX10_switchCrossing_X10_exchange
set_option maxRecDepth 20000 in
theorem ggX10_switchCrossing_X10_orient : GoodIn wsX10_switchCrossing wsX10_orient := goodIn_r _ [28, 29, 30, 31, 32, 5, 33, 11, 34, 35, 36, 37, 38, 39, 40, 41, 42, 43, 44, 45, 46, 47, 48, 49, 54, 55, 56, 57, 58, 59, 60, 61, 62, 63, 64, 65, 66, 67, 68, 69, 70] (by decide +kernel) (by decide +kernel)
set_option maxRecDepth 20000 in
theorem gX10_switchCrossing_X10_orient : GoodIn wsX10_switchCrossing (wsV RX10 121 RX10 yX10_orient wsX10_orient) := goodIn_app (goodIn_of _ (by decide +kernel)) ggX10_switchCrossing_X10_orient
set_option maxRecDepth 20000 in
theorem ggX10_switchCrossing_X10_sign : GoodIn wsX10_switchCrossing wsX10_sign := goodIn_r _ [53, 46, 54, 55, 56, 57, 58, 59, 60, 61, 62, 63, 64, 65, 66, 67, 68, 69, 70] (by decide +kernel) (by decide +kernel)
set_option maxRecDepth 20000 in
theorem gX10_switchCrossing_X10_sign : GoodIn wsX10_switchCrossing (wsV RX10 124 RX10 yX10_sign wsX10_sign) := goodIn_app (goodIn_of _ (by decide +kernel)) ggX10_switchCrossing_X10_sign
theorem dX10_switchCrossing_0 : decode cX10_switchCrossing 0 = .ok (.aload_n 0, 1) := by decide +kernel
theorem dX10_switchCrossing_1 : decode cX10_switchCrossing 1 = .ok (.iload_n 1, 1) := by decide +kernel
theorem dX10_switchCrossing_2 : decode cX10_switchCrossing 2 = .ok (.invokevirtual 107, 3) := by decide +kernel
theorem dX10_switchCrossing_5 : decode cX10_switchCrossing 5 = .ok (.ifCond .ne 6, 3) := by decide +kernel
theorem dX10_switchCrossing_8 : decode cX10_switchCrossing 8 = .ok (.ldc 68, 2) := by decide +kernel
theorem dX10_switchCrossing_10 : decode cX10_switchCrossing 10 = .ok (.ireturn, 1) := by decide +kernel
theorem dX10_switchCrossing_11 : decode cX10_switchCrossing 11 = .ok (.aload_n 0, 1) := by decide +kernel
theorem dX10_switchCrossing_12 : decode cX10_switchCrossing 12 = .ok (.invokevirtual 100, 3) := by decide +kernel
theorem dX10_switchCrossing_15 : decode cX10_switchCrossing 15 = .ok (.aload_n 0, 1) := by decide +kernel
theorem dX10_switchCrossing_16 : decode cX10_switchCrossing 16 = .ok (.iload_n 1, 1) := by decide +kernel
theorem dX10_switchCrossing_17 : decode cX10_switchCrossing 17 = .ok (.invokevirtual 130, 3) := by decide +kernel
theorem dX10_switchCrossing_20 : decode cX10_switchCrossing 20 = .ok (.aload_n 0, 1) := by decide +kernel
theorem dX10_switchCrossing_21 : decode cX10_switchCrossing 21 = .ok (.invokevirtual 121, 3) := by decide +kernel
theorem dX10_switchCrossing_24 : decode cX10_switchCrossing 24 = .ok (.aload_n 0, 1) := by decide +kernel
theorem dX10_switchCrossing_25 : decode cX10_switchCrossing 25 = .ok (.iload_n 1, 1) := by decide +kernel
theorem dX10_switchCrossing_26 : decode cX10_switchCrossing 26 = .ok (.invokevirtual 124, 3) := by decide +kernel
theorem dX10_switchCrossing_29 : decode cX10_switchCrossing 29 = .ok (.ireturn, 1) := by decide +kernel
set_option maxRecDepth 20000 in
theorem ggX10_mirror_X10_crossings : GoodIn wsX10_mirror wsX10_crossings := goodIn_r _ [6, 7, 51, 52, 53, 54, 55, 56, 57, 58, 59, 60, 61, 62, 63, 64, 65, 66, 67] (by decide +kernel) (by decide +kernel)
set_option maxRecDepth 20000 in
theorem gX10_mirror_X10_crossings : GoodIn wsX10_mirror (wsV RX10 61 RX10 yX10_crossings wsX10_crossings) := goodIn_app (goodIn_of _ (by decide +kernel)) ggX10_mirror_X10_crossings
set_option maxRecDepth 20000 in
theorem ggX10_mirror_X10_remember : GoodIn wsX10_mirror wsX10_remember := goodIn_r _ [11, 12, 13, 7, 51, 52, 53, 54, 55, 56, 57, 58, 59, 60, 61, 62, 63, 64, 65, 66, 67] (by decide +kernel) (by decide +kernel)
set_option maxRecDepth 20000 in
theorem gX10_mirror_X10_remember : GoodIn wsX10_mirror (wsV RX10 100 RX10 yX10_remember wsX10_remember) := goodIn_app (goodIn_of _ (by decide +kernel)) ggX10_mirror_X10_remember
set_option maxRecDepth 20000 in
theorem ggX10_mirror_X10_exchange : GoodIn wsX10_mirror wsX10_exchange := goodIn_r _ [17, 7, 51, 52, 53, 54, 55, 56, 57, 58, 59, 60, 61, 62, 63, 64, 65, 66, 67] (by decide +kernel) (by decide +kernel)
set_option maxRecDepth 20000 in
theorem gX10_mirror_X10_exchange : GoodIn wsX10_mirror (wsV RX10 130 RX10 yX10_exchange wsX10_exchange) := goodIn_app (goodIn_of _ (by decide +kernel)) ggX10_mirror_X10_exchange
set_option maxRecDepth 20000 in
theorem ggX10_mirror_X10_writheNow : GoodIn wsX10_mirror wsX10_writheNow := goodIn_r _ [21, 22, 23, 24, 5, 25, 26, 27, 28, 29, 30, 7, 31, 32, 33, 34, 35, 36, 37, 38, 39, 40, 41, 42, 43, 44, 45, 46, 2, 3, 4, 6, 47, 48, 49, 50, 51, 52, 53, 54, 55, 56, 57, 58, 59, 60, 61, 62, 63, 64, 65, 66, 67] (by decide +kernel) (by decide +kernel)
set_option maxRecDepth 20000 in
theorem gX10_mirror_X10_writheNow : GoodIn wsX10_mirror (wsV RX10 127 RX10 yX10_writheNow wsX10_writheNow) := goodIn_app (goodIn_of _ (by decide +kernel)) ggX10_mirror_X10_writheNow
theorem dX10_mirror_0 : decode cX10_mirror 0 = .ok (.aload_n 0, 1) := by decide +kernel
theorem dX10_mirror_1 : decode cX10_mirror 1 = .ok (.invokevirtual 61, 3) := by decide +kernel
theorem dX10_mirror_4 : decode cX10_mirror 4 = .ok (.ifCond .ne 6, 3) := by decide +kernel
theorem dX10_mirror_7 : decode cX10_mirror 7 = .ok (.ldc 133, 2) := by decide +kernel
theorem dX10_mirror_9 : decode cX10_mirror 9 = .ok (.ireturn, 1) := by decide +kernel
theorem dX10_mirror_10 : decode cX10_mirror 10 = .ok (.aload_n 0, 1) := by decide +kernel
theorem dX10_mirror_11 : decode cX10_mirror 11 = .ok (.invokevirtual 100, 3) := by decide +kernel
theorem dX10_mirror_14 : decode cX10_mirror 14 = .ok (.iconst 0, 1) := by decide +kernel
theorem dX10_mirror_15 : decode cX10_mirror 15 = .ok (.istore_n 1, 1) := by decide +kernel
theorem dX10_mirror_16 : decode cX10_mirror 16 = .ok (.iload_n 1, 1) := by decide +kernel
theorem dX10_mirror_17 : decode cX10_mirror 17 = .ok (.aload_n 0, 1) := by decide +kernel
theorem dX10_mirror_18 : decode cX10_mirror 18 = .ok (.invokevirtual 61, 3) := by decide +kernel
theorem dX10_mirror_21 : decode cX10_mirror 21 = .ok (.if_icmp .ge 14, 3) := by decide +kernel
theorem dX10_mirror_24 : decode cX10_mirror 24 = .ok (.aload_n 0, 1) := by decide +kernel
theorem dX10_mirror_25 : decode cX10_mirror 25 = .ok (.iload_n 1, 1) := by decide +kernel
theorem dX10_mirror_26 : decode cX10_mirror 26 = .ok (.invokevirtual 130, 3) := by decide +kernel
theorem dX10_mirror_29 : decode cX10_mirror 29 = .ok (.iinc 1 1, 3) := by decide +kernel
theorem dX10_mirror_32 : decode cX10_mirror 32 = .ok (.goto (-16), 3) := by decide +kernel
theorem dX10_mirror_35 : decode cX10_mirror 35 = .ok (.aload_n 0, 1) := by decide +kernel
theorem dX10_mirror_36 : decode cX10_mirror 36 = .ok (.invokevirtual 127, 3) := by decide +kernel
theorem dX10_mirror_39 : decode cX10_mirror 39 = .ok (.ireturn, 1) := by decide +kernel
set_option maxRecDepth 20000 in
theorem ggX10_kinkEnd_X10_arc : GoodIn wsX10_kinkEnd wsX10_arc := goodIn_r _ [5, 6, 10, 11, 12, 13, 14, 15, 16, 17, 18, 19, 20, 21, 22, 23, 24, 25, 26] (by decide +kernel) (by decide +kernel)
set_option maxRecDepth 20000 in
theorem gX10_kinkEnd_X10_arc : GoodIn wsX10_kinkEnd (wsV RX10 57 RX10 yX10_arc wsX10_arc) := goodIn_app (goodIn_of _ (by decide +kernel)) ggX10_kinkEnd_X10_arc
set_option maxRecDepth 20000 in
theorem ggX10_kinkEnd_X10_turn : GoodIn wsX10_kinkEnd wsX10_turn := goodIn_r _ [9] (by decide +kernel) (by decide +kernel)
set_option maxRecDepth 20000 in
theorem gX10_kinkEnd_X10_turn : GoodIn wsX10_kinkEnd (va_wsS RX10 117 yX10_turn wsX10_turn) := goodIn_app (goodIn_of _ (by decide +kernel)) ggX10_kinkEnd_X10_turn
theorem dX10_kinkEnd_0 : decode cX10_kinkEnd 0 = .ok (.iconst (-1), 1) := by decide +kernel
theorem dX10_kinkEnd_1 : decode cX10_kinkEnd 1 = .ok (.istore_n 2, 1) := by decide +kernel
theorem dX10_kinkEnd_2 : decode cX10_kinkEnd 2 = .ok (.iconst 3, 1) := by decide +kernel
theorem dX10_kinkEnd_3 : decode cX10_kinkEnd 3 = .ok (.istore_n 3, 1) := by decide +kernel
theorem dX10_kinkEnd_4 : decode cX10_kinkEnd 4 = .ok (.iload_n 3, 1) := by decide +kernel
theorem dX10_kinkEnd_5 : decode cX10_kinkEnd 5 = .ok (.ifCond .lt 42, 3) := by decide +kernel
theorem dX10_kinkEnd_8 : decode cX10_kinkEnd 8 = .ok (.iconst 4, 1) := by decide +kernel
theorem dX10_kinkEnd_9 : decode cX10_kinkEnd 9 = .ok (.iload_n 1, 1) := by decide +kernel
theorem dX10_kinkEnd_10 : decode cX10_kinkEnd 10 = .ok (.imul, 1) := by decide +kernel
theorem dX10_kinkEnd_11 : decode cX10_kinkEnd 11 = .ok (.iload_n 3, 1) := by decide +kernel
theorem dX10_kinkEnd_12 : decode cX10_kinkEnd 12 = .ok (.iadd, 1) := by decide +kernel
theorem dX10_kinkEnd_13 : decode cX10_kinkEnd 13 = .ok (.istore 4, 2) := by decide +kernel
theorem dX10_kinkEnd_15 : decode cX10_kinkEnd 15 = .ok (.aload_n 0, 1) := by decide +kernel
theorem dX10_kinkEnd_16 : decode cX10_kinkEnd 16 = .ok (.iload 4, 2) := by decide +kernel
theorem dX10_kinkEnd_18 : decode cX10_kinkEnd 18 = .ok (.invokevirtual 57, 3) := by decide +kernel
theorem dX10_kinkEnd_21 : decode cX10_kinkEnd 21 = .ok (.aload_n 0, 1) := by decide +kernel
theorem dX10_kinkEnd_22 : decode cX10_kinkEnd 22 = .ok (.iload 4, 2) := by decide +kernel
theorem dX10_kinkEnd_24 : decode cX10_kinkEnd 24 = .ok (.iconst 1, 1) := by decide +kernel
theorem dX10_kinkEnd_25 : decode cX10_kinkEnd 25 = .ok (.invokestatic 117, 3) := by decide +kernel
theorem dX10_kinkEnd_28 : decode cX10_kinkEnd 28 = .ok (.invokevirtual 57, 3) := by decide +kernel
theorem dX10_kinkEnd_31 : decode cX10_kinkEnd 31 = .ok (.if_icmp .ne 8, 3) := by decide +kernel
theorem dX10_kinkEnd_34 : decode cX10_kinkEnd 34 = .ok (.iload 4, 2) := by decide +kernel
theorem dX10_kinkEnd_36 : decode cX10_kinkEnd 36 = .ok (.goto 4, 3) := by decide +kernel
theorem dX10_kinkEnd_39 : decode cX10_kinkEnd 39 = .ok (.iload_n 2, 1) := by decide +kernel
theorem dX10_kinkEnd_40 : decode cX10_kinkEnd 40 = .ok (.istore_n 2, 1) := by decide +kernel
theorem dX10_kinkEnd_41 : decode cX10_kinkEnd 41 = .ok (.iinc 3 (-1), 3) := by decide +kernel
theorem dX10_kinkEnd_44 : decode cX10_kinkEnd 44 = .ok (.goto (-40), 3) := by decide +kernel
theorem dX10_kinkEnd_47 : decode cX10_kinkEnd 47 = .ok (.iload_n 2, 1) := by decide +kernel
theorem dX10_kinkEnd_48 : decode cX10_kinkEnd 48 = .ok (.ireturn, 1) := by decide +kernel
theorem dX10_join_0 : decode cX10_join 0 = .ok (.iload_n 1, 1) := by decide +kernel
theorem dX10_join_1 : decode cX10_join 1 = .ok (.iload_n 2, 1) := by decide +kernel
theorem dX10_join_2 : decode cX10_join 2 = .ok (.if_icmp .ne 5, 3) := by decide +kernel
theorem dX10_join_5 : decode cX10_join 5 = .ok (.iconst 1, 1) := by decide +kernel
theorem dX10_join_6 : decode cX10_join 6 = .ok (.ireturn, 1) := by decide +kernel
theorem dX10_join_7 : decode cX10_join 7 = .ok (.iload_n 1, 1) := by decide +kernel
theorem dX10_join_8 : decode cX10_join 8 = .ok (.iload_n 2, 1) := by decide +kernel
theorem dX10_join_9 : decode cX10_join 9 = .ok (.if_icmp .ge 7, 3) := by decide +kernel
theorem dX10_join_12 : decode cX10_join 12 = .ok (.iload_n 1, 1) := by decide +kernel
theorem dX10_join_13 : decode cX10_join 13 = .ok (.goto 4, 3) := by decide +kernel
theorem dX10_join_16 : decode cX10_join 16 = .ok (.iload_n 2, 1) := by decide +kernel
theorem dX10_join_17 : decode cX10_join 17 = .ok (.istore_n 3, 1) := by decide +kernel
theorem dX10_join_18 : decode cX10_join 18 = .ok (.iconst 2, 1) := by decide +kernel
theorem dX10_join_19 : decode cX10_join 19 = .ok (.istore 4, 2) := by decide +kernel
theorem dX10_join_21 : decode cX10_join 21 = .ok (.iload 4, 2) := by decide +kernel
theorem dX10_join_23 : decode cX10_join 23 = .ok (.bipush 34, 2) := by decide +kernel
theorem dX10_join_25 : decode cX10_join 25 = .ok (.if_icmp .ge 37, 3) := by decide +kernel
theorem dX10_join_28 : decode cX10_join 28 = .ok (.aload_n 0, 1) := by decide +kernel
theorem dX10_join_29 : decode cX10_join 29 = .ok (.iload 4, 2) := by decide +kernel
theorem dX10_join_31 : decode cX10_join 31 = .ok (.aload_n 0, 1) := by decide +kernel
theorem dX10_join_32 : decode cX10_join 32 = .ok (.iload 4, 2) := by decide +kernel
theorem dX10_join_34 : decode cX10_join 34 = .ok (.iaload, 1) := by decide +kernel
theorem dX10_join_35 : decode cX10_join 35 = .ok (.iload_n 1, 1) := by decide +kernel
theorem dX10_join_36 : decode cX10_join 36 = .ok (.if_icmp .eq 11, 3) := by decide +kernel
theorem dX10_join_39 : decode cX10_join 39 = .ok (.aload_n 0, 1) := by decide +kernel
theorem dX10_join_40 : decode cX10_join 40 = .ok (.iload 4, 2) := by decide +kernel
theorem dX10_join_42 : decode cX10_join 42 = .ok (.iaload, 1) := by decide +kernel
theorem dX10_join_43 : decode cX10_join 43 = .ok (.iload_n 2, 1) := by decide +kernel
theorem dX10_join_44 : decode cX10_join 44 = .ok (.if_icmp .ne 7, 3) := by decide +kernel
theorem dX10_join_47 : decode cX10_join 47 = .ok (.iload_n 3, 1) := by decide +kernel
theorem dX10_join_48 : decode cX10_join 48 = .ok (.goto 7, 3) := by decide +kernel
theorem dX10_join_51 : decode cX10_join 51 = .ok (.aload_n 0, 1) := by decide +kernel
theorem dX10_join_52 : decode cX10_join 52 = .ok (.iload 4, 2) := by decide +kernel
theorem dX10_join_54 : decode cX10_join 54 = .ok (.iaload, 1) := by decide +kernel
theorem dX10_join_55 : decode cX10_join 55 = .ok (.iastore, 1) := by decide +kernel
theorem dX10_join_56 : decode cX10_join 56 = .ok (.iinc 4 1, 3) := by decide +kernel
theorem dX10_join_59 : decode cX10_join 59 = .ok (.goto (-38), 3) := by decide +kernel
theorem dX10_join_62 : decode cX10_join 62 = .ok (.iconst 0, 1) := by decide +kernel
theorem dX10_join_63 : decode cX10_join 63 = .ok (.ireturn, 1) := by decide +kernel
theorem dX10_dropCrossing_0 : decode cX10_dropCrossing 0 = .ok (.iconst 2, 1) := by decide +kernel
theorem dX10_dropCrossing_1 : decode cX10_dropCrossing 1 = .ok (.iconst 4, 1) := by decide +kernel
theorem dX10_dropCrossing_2 : decode cX10_dropCrossing 2 = .ok (.iload_n 1, 1) := by decide +kernel
theorem dX10_dropCrossing_3 : decode cX10_dropCrossing 3 = .ok (.imul, 1) := by decide +kernel
theorem dX10_dropCrossing_4 : decode cX10_dropCrossing 4 = .ok (.iadd, 1) := by decide +kernel
theorem dX10_dropCrossing_5 : decode cX10_dropCrossing 5 = .ok (.istore_n 2, 1) := by decide +kernel
theorem dX10_dropCrossing_6 : decode cX10_dropCrossing 6 = .ok (.iload_n 2, 1) := by decide +kernel
theorem dX10_dropCrossing_7 : decode cX10_dropCrossing 7 = .ok (.iconst 4, 1) := by decide +kernel
theorem dX10_dropCrossing_8 : decode cX10_dropCrossing 8 = .ok (.iadd, 1) := by decide +kernel
theorem dX10_dropCrossing_9 : decode cX10_dropCrossing 9 = .ok (.bipush 34, 2) := by decide +kernel
theorem dX10_dropCrossing_11 : decode cX10_dropCrossing 11 = .ok (.if_icmp .ge 17, 3) := by decide +kernel
theorem dX10_dropCrossing_14 : decode cX10_dropCrossing 14 = .ok (.aload_n 0, 1) := by decide +kernel
theorem dX10_dropCrossing_15 : decode cX10_dropCrossing 15 = .ok (.iload_n 2, 1) := by decide +kernel
theorem dX10_dropCrossing_16 : decode cX10_dropCrossing 16 = .ok (.aload_n 0, 1) := by decide +kernel
theorem dX10_dropCrossing_17 : decode cX10_dropCrossing 17 = .ok (.iload_n 2, 1) := by decide +kernel
theorem dX10_dropCrossing_18 : decode cX10_dropCrossing 18 = .ok (.iconst 4, 1) := by decide +kernel
theorem dX10_dropCrossing_19 : decode cX10_dropCrossing 19 = .ok (.iadd, 1) := by decide +kernel
theorem dX10_dropCrossing_20 : decode cX10_dropCrossing 20 = .ok (.iaload, 1) := by decide +kernel
theorem dX10_dropCrossing_21 : decode cX10_dropCrossing 21 = .ok (.iastore, 1) := by decide +kernel
theorem dX10_dropCrossing_22 : decode cX10_dropCrossing 22 = .ok (.iinc 2 1, 3) := by decide +kernel
theorem dX10_dropCrossing_25 : decode cX10_dropCrossing 25 = .ok (.goto (-19), 3) := by decide +kernel
theorem dX10_dropCrossing_28 : decode cX10_dropCrossing 28 = .ok (.bipush 30, 2) := by decide +kernel
theorem dX10_dropCrossing_30 : decode cX10_dropCrossing 30 = .ok (.istore_n 2, 1) := by decide +kernel
theorem dX10_dropCrossing_31 : decode cX10_dropCrossing 31 = .ok (.iload_n 2, 1) := by decide +kernel
theorem dX10_dropCrossing_32 : decode cX10_dropCrossing 32 = .ok (.bipush 34, 2) := by decide +kernel
theorem dX10_dropCrossing_34 : decode cX10_dropCrossing 34 = .ok (.if_icmp .ge 13, 3) := by decide +kernel
theorem dX10_dropCrossing_37 : decode cX10_dropCrossing 37 = .ok (.aload_n 0, 1) := by decide +kernel
theorem dX10_dropCrossing_38 : decode cX10_dropCrossing 38 = .ok (.iload_n 2, 1) := by decide +kernel
theorem dX10_dropCrossing_39 : decode cX10_dropCrossing 39 = .ok (.iconst 0, 1) := by decide +kernel
theorem dX10_dropCrossing_40 : decode cX10_dropCrossing 40 = .ok (.iastore, 1) := by decide +kernel
theorem dX10_dropCrossing_41 : decode cX10_dropCrossing 41 = .ok (.iinc 2 1, 3) := by decide +kernel
theorem dX10_dropCrossing_44 : decode cX10_dropCrossing 44 = .ok (.goto (-13), 3) := by decide +kernel
theorem dX10_dropCrossing_47 : decode cX10_dropCrossing 47 = .ok (.aload_n 0, 1) := by decide +kernel
theorem dX10_dropCrossing_48 : decode cX10_dropCrossing 48 = .ok (.iconst 0, 1) := by decide +kernel
theorem dX10_dropCrossing_49 : decode cX10_dropCrossing 49 = .ok (.dup2, 1) := by decide +kernel
theorem dX10_dropCrossing_50 : decode cX10_dropCrossing 50 = .ok (.iaload, 1) := by decide +kernel
theorem dX10_dropCrossing_51 : decode cX10_dropCrossing 51 = .ok (.iconst 1, 1) := by decide +kernel
theorem dX10_dropCrossing_52 : decode cX10_dropCrossing 52 = .ok (.isub, 1) := by decide +kernel
theorem dX10_dropCrossing_53 : decode cX10_dropCrossing 53 = .ok (.iastore, 1) := by decide +kernel
theorem dX10_dropCrossing_54 : decode cX10_dropCrossing 54 = .ok (.return_, 1) := by decide +kernel
theorem dX10_beginDraft_0 : decode cX10_beginDraft 0 = .ok (.iconst 0, 1) := by decide +kernel
theorem dX10_beginDraft_1 : decode cX10_beginDraft 1 = .ok (.istore_n 1, 1) := by decide +kernel
theorem dX10_beginDraft_2 : decode cX10_beginDraft 2 = .ok (.iload_n 1, 1) := by decide +kernel
theorem dX10_beginDraft_3 : decode cX10_beginDraft 3 = .ok (.bipush 34, 2) := by decide +kernel
theorem dX10_beginDraft_5 : decode cX10_beginDraft 5 = .ok (.if_icmp .ge 21, 3) := by decide +kernel
theorem dX10_beginDraft_8 : decode cX10_beginDraft 8 = .ok (.aload_n 0, 1) := by decide +kernel
theorem dX10_beginDraft_9 : decode cX10_beginDraft 9 = .ok (.getfield 38, 3) := by decide +kernel
theorem dX10_beginDraft_12 : decode cX10_beginDraft 12 = .ok (.iload_n 1, 1) := by decide +kernel
theorem dX10_beginDraft_13 : decode cX10_beginDraft 13 = .ok (.aload_n 0, 1) := by decide +kernel
theorem dX10_beginDraft_14 : decode cX10_beginDraft 14 = .ok (.getfield 7, 3) := by decide +kernel
theorem dX10_beginDraft_17 : decode cX10_beginDraft 17 = .ok (.iload_n 1, 1) := by decide +kernel
theorem dX10_beginDraft_18 : decode cX10_beginDraft 18 = .ok (.iaload, 1) := by decide +kernel
theorem dX10_beginDraft_19 : decode cX10_beginDraft 19 = .ok (.iastore, 1) := by decide +kernel
theorem dX10_beginDraft_20 : decode cX10_beginDraft 20 = .ok (.iinc 1 1, 3) := by decide +kernel
theorem dX10_beginDraft_23 : decode cX10_beginDraft 23 = .ok (.goto (-21), 3) := by decide +kernel
theorem dX10_beginDraft_26 : decode cX10_beginDraft 26 = .ok (.return_, 1) := by decide +kernel
set_option maxRecDepth 20000 in
theorem ggX10_finishDraft_X10_remember : GoodIn wsX10_finishDraft wsX10_remember := goodIn_r _ [7, 8, 9, 10, 19, 20, 21, 22, 23, 24, 25, 26, 27, 28, 29, 30, 31, 32, 33, 34, 35] (by decide +kernel) (by decide +kernel)
set_option maxRecDepth 20000 in
theorem gX10_finishDraft_X10_remember : GoodIn wsX10_finishDraft (wsV RX10 100 RX10 yX10_remember wsX10_remember) := goodIn_app (goodIn_of _ (by decide +kernel)) ggX10_finishDraft_X10_remember
set_option maxRecDepth 20000 in
theorem ggX10_finishDraft_X10_become : GoodIn wsX10_finishDraft wsX10_become := goodIn_r _ [14, 10, 19, 20, 21, 22, 23, 24, 25, 26, 27, 28, 29, 30, 31, 32, 33, 34, 35] (by decide +kernel) (by decide +kernel)
set_option maxRecDepth 20000 in
theorem gX10_finishDraft_X10_become : GoodIn wsX10_finishDraft (wsV RX10 103 RX10 yX10_become wsX10_become) := goodIn_app (goodIn_of _ (by decide +kernel)) ggX10_finishDraft_X10_become
set_option maxRecDepth 20000 in
theorem ggX10_finishDraft_X10_crossings : GoodIn wsX10_finishDraft wsX10_crossings := goodIn_r _ [18, 10, 19, 20, 21, 22, 23, 24, 25, 26, 27, 28, 29, 30, 31, 32, 33, 34, 35] (by decide +kernel) (by decide +kernel)
set_option maxRecDepth 20000 in
theorem gX10_finishDraft_X10_crossings : GoodIn wsX10_finishDraft (wsV RX10 61 RX10 yX10_crossings wsX10_crossings) := goodIn_app (goodIn_of _ (by decide +kernel)) ggX10_finishDraft_X10_crossings
theorem dX10_finishDraft_0 : decode cX10_finishDraft 0 = .ok (.aload_n 0, 1) := by decide +kernel
theorem dX10_finishDraft_1 : decode cX10_finishDraft 1 = .ok (.getfield 38, 3) := by decide +kernel
theorem dX10_finishDraft_4 : decode cX10_finishDraft 4 = .ok (.iconst 1, 1) := by decide +kernel
theorem dX10_finishDraft_5 : decode cX10_finishDraft 5 = .ok (.iaload, 1) := by decide +kernel
theorem dX10_finishDraft_6 : decode cX10_finishDraft 6 = .ok (.iconst 4, 1) := by decide +kernel
theorem dX10_finishDraft_7 : decode cX10_finishDraft 7 = .ok (.if_icmp .le 6, 3) := by decide +kernel
theorem dX10_finishDraft_10 : decode cX10_finishDraft 10 = .ok (.ldc 73, 2) := by decide +kernel
theorem dX10_finishDraft_12 : decode cX10_finishDraft 12 = .ok (.ireturn, 1) := by decide +kernel
theorem dX10_finishDraft_13 : decode cX10_finishDraft 13 = .ok (.aload_n 0, 1) := by decide +kernel
theorem dX10_finishDraft_14 : decode cX10_finishDraft 14 = .ok (.invokevirtual 100, 3) := by decide +kernel
theorem dX10_finishDraft_17 : decode cX10_finishDraft 17 = .ok (.aload_n 0, 1) := by decide +kernel
theorem dX10_finishDraft_18 : decode cX10_finishDraft 18 = .ok (.aload_n 0, 1) := by decide +kernel
theorem dX10_finishDraft_19 : decode cX10_finishDraft 19 = .ok (.getfield 38, 3) := by decide +kernel
theorem dX10_finishDraft_22 : decode cX10_finishDraft 22 = .ok (.iconst 0, 1) := by decide +kernel
theorem dX10_finishDraft_23 : decode cX10_finishDraft 23 = .ok (.invokevirtual 103, 3) := by decide +kernel
theorem dX10_finishDraft_26 : decode cX10_finishDraft 26 = .ok (.aload_n 0, 1) := by decide +kernel
theorem dX10_finishDraft_27 : decode cX10_finishDraft 27 = .ok (.invokevirtual 61, 3) := by decide +kernel
theorem dX10_finishDraft_30 : decode cX10_finishDraft 30 = .ok (.ireturn, 1) := by decide +kernel
set_option maxRecDepth 20000 in
theorem ggX10_removeKink_X10_isCrossing : GoodIn wsX10_removeKink wsX10_isCrossing := goodIn_r _ [8, 9, 10, 11, 7, 12, 13, 14, 15, 16, 53, 54, 55, 56, 57, 58, 59, 60, 61, 62, 63, 64, 65, 66, 67, 68, 69] (by decide +kernel) (by decide +kernel)
set_option maxRecDepth 20000 in
theorem gX10_removeKink_X10_isCrossing : GoodIn wsX10_removeKink (wsV RX10 107 RX10 yX10_isCrossing wsX10_isCrossing) := goodIn_app (goodIn_of _ (by decide +kernel)) ggX10_removeKink_X10_isCrossing
set_option maxRecDepth 20000 in
theorem ggX10_removeKink_X10_kinkEnd : GoodIn wsX10_removeKink wsX10_kinkEnd := goodIn_r _ [20, 21, 22, 23, 7, 24, 13, 25, 26, 27, 53, 54, 55, 56, 57, 58, 59, 60, 61, 62, 63, 64, 65, 66, 67, 68, 69] (by decide +kernel) (by decide +kernel)
set_option maxRecDepth 20000 in
theorem gX10_removeKink_X10_kinkEnd : GoodIn wsX10_removeKink (wsV RX10 134 RX10 yX10_kinkEnd wsX10_kinkEnd) := goodIn_app (goodIn_of _ (by decide +kernel)) ggX10_removeKink_X10_kinkEnd
set_option maxRecDepth 20000 in
theorem ggX10_removeKink_X10_beginDraft : GoodIn wsX10_removeKink wsX10_beginDraft := goodIn_r _ [31, 3, 13, 53, 54, 55, 56, 57, 58, 59, 60, 61, 62, 63, 64, 65, 66, 67, 68, 69] (by decide +kernel) (by decide +kernel)
set_option maxRecDepth 20000 in
theorem gX10_removeKink_X10_beginDraft : GoodIn wsX10_removeKink (wsV RX10 137 RX10 yX10_beginDraft wsX10_beginDraft) := goodIn_app (goodIn_of _ (by decide +kernel)) ggX10_removeKink_X10_beginDraft
set_option maxRecDepth 20000 in
theorem ggX10_removeKink_X10_turn : GoodIn wsX10_removeKink wsX10_turn := goodIn_r _ [27] (by decide +kernel) (by decide +kernel)
set_option maxRecDepth 20000 in
theorem gX10_removeKink_X10_turn : GoodIn wsX10_removeKink (va_wsS RX10 117 yX10_turn wsX10_turn) := goodIn_app (goodIn_of _ (by decide +kernel)) ggX10_removeKink_X10_turn
set_option maxRecDepth 20000 in
theorem ggX10_removeKink_X10_join : GoodIn wsX10_removeKink wsX10_join := goodIn_r _ [34] (by decide +kernel) (by decide +kernel)
set_option maxRecDepth 20000 in
theorem gX10_removeKink_X10_join : GoodIn wsX10_removeKink (va_wsS RX10 140 yX10_join wsX10_join) := goodIn_app (goodIn_of _ (by decide +kernel)) ggX10_removeKink_X10_join
set_option maxRecDepth 20000 in
theorem ggX10_removeKink_X10_dropCrossing : GoodIn wsX10_removeKink wsX10_dropCrossing := goodIn_r _ [37] (by decide +kernel) (by decide +kernel)
set_option maxRecDepth 20000 in
theorem gX10_removeKink_X10_dropCrossing : GoodIn wsX10_removeKink (va_wsS RX10 144 yX10_dropCrossing wsX10_dropCrossing) := goodIn_app (goodIn_of _ (by decide +kernel)) ggX10_removeKink_X10_dropCrossing
set_option maxRecDepth 20000 in
theorem ggX10_removeKink_X10_finishDraft : GoodIn wsX10_removeKink wsX10_finishDraft := goodIn_r _ [41, 3, 42, 43, 44, 45, 7, 46, 47, 48, 13, 49, 50, 51, 52, 9, 10, 11, 12, 53, 54, 55, 56, 57, 58, 59, 60, 61, 62, 63, 64, 65, 66, 67, 68, 69] (by decide +kernel) (by decide +kernel)
set_option maxRecDepth 20000 in
theorem gX10_removeKink_X10_finishDraft : GoodIn wsX10_removeKink (wsV RX10 147 RX10 yX10_finishDraft wsX10_finishDraft) := goodIn_app (goodIn_of _ (by decide +kernel)) ggX10_removeKink_X10_finishDraft
theorem dX10_removeKink_0 : decode cX10_removeKink 0 = .ok (.aload_n 0, 1) := by decide +kernel
theorem dX10_removeKink_1 : decode cX10_removeKink 1 = .ok (.iload_n 1, 1) := by decide +kernel
theorem dX10_removeKink_2 : decode cX10_removeKink 2 = .ok (.invokevirtual 107, 3) := by decide +kernel
theorem dX10_removeKink_5 : decode cX10_removeKink 5 = .ok (.ifCond .ne 6, 3) := by decide +kernel
theorem dX10_removeKink_8 : decode cX10_removeKink 8 = .ok (.ldc 68, 2) := by decide +kernel
theorem dX10_removeKink_10 : decode cX10_removeKink 10 = .ok (.ireturn, 1) := by decide +kernel
theorem dX10_removeKink_11 : decode cX10_removeKink 11 = .ok (.aload_n 0, 1) := by decide +kernel
theorem dX10_removeKink_12 : decode cX10_removeKink 12 = .ok (.iload_n 1, 1) := by decide +kernel
theorem dX10_removeKink_13 : decode cX10_removeKink 13 = .ok (.invokevirtual 134, 3) := by decide +kernel
theorem dX10_removeKink_16 : decode cX10_removeKink 16 = .ok (.istore_n 2, 1) := by decide +kernel
theorem dX10_removeKink_17 : decode cX10_removeKink 17 = .ok (.iload_n 2, 1) := by decide +kernel
theorem dX10_removeKink_18 : decode cX10_removeKink 18 = .ok (.ifCond .ge 6, 3) := by decide +kernel
theorem dX10_removeKink_21 : decode cX10_removeKink 21 = .ok (.ldc 133, 2) := by decide +kernel
theorem dX10_removeKink_23 : decode cX10_removeKink 23 = .ok (.ireturn, 1) := by decide +kernel
theorem dX10_removeKink_24 : decode cX10_removeKink 24 = .ok (.aload_n 0, 1) := by decide +kernel
theorem dX10_removeKink_25 : decode cX10_removeKink 25 = .ok (.invokevirtual 137, 3) := by decide +kernel
theorem dX10_removeKink_28 : decode cX10_removeKink 28 = .ok (.aload_n 0, 1) := by decide +kernel
theorem dX10_removeKink_29 : decode cX10_removeKink 29 = .ok (.getfield 38, 3) := by decide +kernel
theorem dX10_removeKink_32 : decode cX10_removeKink 32 = .ok (.iconst 1, 1) := by decide +kernel
theorem dX10_removeKink_33 : decode cX10_removeKink 33 = .ok (.dup2, 1) := by decide +kernel
theorem dX10_removeKink_34 : decode cX10_removeKink 34 = .ok (.iaload, 1) := by decide +kernel
theorem dX10_removeKink_35 : decode cX10_removeKink 35 = .ok (.aload_n 0, 1) := by decide +kernel
theorem dX10_removeKink_36 : decode cX10_removeKink 36 = .ok (.getfield 38, 3) := by decide +kernel
theorem dX10_removeKink_39 : decode cX10_removeKink 39 = .ok (.aload_n 0, 1) := by decide +kernel
theorem dX10_removeKink_40 : decode cX10_removeKink 40 = .ok (.getfield 38, 3) := by decide +kernel
theorem dX10_removeKink_43 : decode cX10_removeKink 43 = .ok (.iconst 2, 1) := by decide +kernel
theorem dX10_removeKink_44 : decode cX10_removeKink 44 = .ok (.iload_n 2, 1) := by decide +kernel
theorem dX10_removeKink_45 : decode cX10_removeKink 45 = .ok (.iconst 2, 1) := by decide +kernel
theorem dX10_removeKink_46 : decode cX10_removeKink 46 = .ok (.invokestatic 117, 3) := by decide +kernel
theorem dX10_removeKink_49 : decode cX10_removeKink 49 = .ok (.iadd, 1) := by decide +kernel
theorem dX10_removeKink_50 : decode cX10_removeKink 50 = .ok (.iaload, 1) := by decide +kernel
theorem dX10_removeKink_51 : decode cX10_removeKink 51 = .ok (.aload_n 0, 1) := by decide +kernel
theorem dX10_removeKink_52 : decode cX10_removeKink 52 = .ok (.getfield 38, 3) := by decide +kernel
theorem dX10_removeKink_55 : decode cX10_removeKink 55 = .ok (.iconst 2, 1) := by decide +kernel
theorem dX10_removeKink_56 : decode cX10_removeKink 56 = .ok (.iload_n 2, 1) := by decide +kernel
theorem dX10_removeKink_57 : decode cX10_removeKink 57 = .ok (.iconst 3, 1) := by decide +kernel
theorem dX10_removeKink_58 : decode cX10_removeKink 58 = .ok (.invokestatic 117, 3) := by decide +kernel
theorem dX10_removeKink_61 : decode cX10_removeKink 61 = .ok (.iadd, 1) := by decide +kernel
theorem dX10_removeKink_62 : decode cX10_removeKink 62 = .ok (.iaload, 1) := by decide +kernel
theorem dX10_removeKink_63 : decode cX10_removeKink 63 = .ok (.invokestatic 140, 3) := by decide +kernel
theorem dX10_removeKink_66 : decode cX10_removeKink 66 = .ok (.iadd, 1) := by decide +kernel
theorem dX10_removeKink_67 : decode cX10_removeKink 67 = .ok (.iastore, 1) := by decide +kernel
theorem dX10_removeKink_68 : decode cX10_removeKink 68 = .ok (.aload_n 0, 1) := by decide +kernel
theorem dX10_removeKink_69 : decode cX10_removeKink 69 = .ok (.getfield 38, 3) := by decide +kernel
theorem dX10_removeKink_72 : decode cX10_removeKink 72 = .ok (.iload_n 1, 1) := by decide +kernel
theorem dX10_removeKink_73 : decode cX10_removeKink 73 = .ok (.invokestatic 144, 3) := by decide +kernel
theorem dX10_removeKink_76 : decode cX10_removeKink 76 = .ok (.aload_n 0, 1) := by decide +kernel
theorem dX10_removeKink_77 : decode cX10_removeKink 77 = .ok (.invokevirtual 147, 3) := by decide +kernel
theorem dX10_removeKink_80 : decode cX10_removeKink 80 = .ok (.ireturn, 1) := by decide +kernel
set_option maxRecDepth 20000 in
theorem ggX10_bigon_X10_arc : GoodIn wsX10_bigon wsX10_arc := goodIn_r _ [5, 6, 10, 11, 12, 13, 14, 15, 16, 17, 18, 19, 20, 21, 22, 23, 24, 25, 26] (by decide +kernel) (by decide +kernel)
set_option maxRecDepth 20000 in
theorem gX10_bigon_X10_arc : GoodIn wsX10_bigon (wsV RX10 57 RX10 yX10_arc wsX10_arc) := goodIn_app (goodIn_of _ (by decide +kernel)) ggX10_bigon_X10_arc
set_option maxRecDepth 20000 in
theorem ggX10_bigon_X10_turn : GoodIn wsX10_bigon wsX10_turn := goodIn_r _ [9] (by decide +kernel) (by decide +kernel)
set_option maxRecDepth 20000 in
theorem gX10_bigon_X10_turn : GoodIn wsX10_bigon (va_wsS RX10 117 yX10_turn wsX10_turn) := goodIn_app (goodIn_of _ (by decide +kernel)) ggX10_bigon_X10_turn
theorem dX10_bigon_0 : decode cX10_bigon 0 = .ok (.iconst (-1), 1) := by decide +kernel
theorem dX10_bigon_1 : decode cX10_bigon 1 = .ok (.istore_n 3, 1) := by decide +kernel
theorem dX10_bigon_2 : decode cX10_bigon 2 = .ok (.bipush 15, 2) := by decide +kernel
theorem dX10_bigon_4 : decode cX10_bigon 4 = .ok (.istore 4, 2) := by decide +kernel
theorem dX10_bigon_6 : decode cX10_bigon 6 = .ok (.iload 4, 2) := by decide +kernel
theorem dX10_bigon_8 : decode cX10_bigon 8 = .ok (.ifCond .lt 97, 3) := by decide +kernel
theorem dX10_bigon_11 : decode cX10_bigon 11 = .ok (.iconst 4, 1) := by decide +kernel
theorem dX10_bigon_12 : decode cX10_bigon 12 = .ok (.iload_n 1, 1) := by decide +kernel
theorem dX10_bigon_13 : decode cX10_bigon 13 = .ok (.imul, 1) := by decide +kernel
theorem dX10_bigon_14 : decode cX10_bigon 14 = .ok (.iload 4, 2) := by decide +kernel
theorem dX10_bigon_16 : decode cX10_bigon 16 = .ok (.iconst 4, 1) := by decide +kernel
theorem dX10_bigon_17 : decode cX10_bigon 17 = .ok (.idiv, 1) := by decide +kernel
theorem dX10_bigon_18 : decode cX10_bigon 18 = .ok (.iadd, 1) := by decide +kernel
theorem dX10_bigon_19 : decode cX10_bigon 19 = .ok (.istore 5, 2) := by decide +kernel
theorem dX10_bigon_21 : decode cX10_bigon 21 = .ok (.iconst 4, 1) := by decide +kernel
theorem dX10_bigon_22 : decode cX10_bigon 22 = .ok (.iload_n 2, 1) := by decide +kernel
theorem dX10_bigon_23 : decode cX10_bigon 23 = .ok (.imul, 1) := by decide +kernel
theorem dX10_bigon_24 : decode cX10_bigon 24 = .ok (.iload 4, 2) := by decide +kernel
theorem dX10_bigon_26 : decode cX10_bigon 26 = .ok (.iconst 4, 1) := by decide +kernel
theorem dX10_bigon_27 : decode cX10_bigon 27 = .ok (.irem, 1) := by decide +kernel
theorem dX10_bigon_28 : decode cX10_bigon 28 = .ok (.iadd, 1) := by decide +kernel
theorem dX10_bigon_29 : decode cX10_bigon 29 = .ok (.istore 6, 2) := by decide +kernel
theorem dX10_bigon_31 : decode cX10_bigon 31 = .ok (.iload 5, 2) := by decide +kernel
theorem dX10_bigon_33 : decode cX10_bigon 33 = .ok (.iload 6, 2) := by decide +kernel
theorem dX10_bigon_35 : decode cX10_bigon 35 = .ok (.iadd, 1) := by decide +kernel
theorem dX10_bigon_36 : decode cX10_bigon 36 = .ok (.iconst 2, 1) := by decide +kernel
theorem dX10_bigon_37 : decode cX10_bigon 37 = .ok (.irem, 1) := by decide +kernel
theorem dX10_bigon_38 : decode cX10_bigon 38 = .ok (.iconst 1, 1) := by decide +kernel
theorem dX10_bigon_39 : decode cX10_bigon 39 = .ok (.if_icmp .ne 45, 3) := by decide +kernel
theorem dX10_bigon_42 : decode cX10_bigon 42 = .ok (.aload_n 0, 1) := by decide +kernel
theorem dX10_bigon_43 : decode cX10_bigon 43 = .ok (.iload 5, 2) := by decide +kernel
theorem dX10_bigon_45 : decode cX10_bigon 45 = .ok (.invokevirtual 57, 3) := by decide +kernel
theorem dX10_bigon_48 : decode cX10_bigon 48 = .ok (.aload_n 0, 1) := by decide +kernel
theorem dX10_bigon_49 : decode cX10_bigon 49 = .ok (.iload 6, 2) := by decide +kernel
theorem dX10_bigon_51 : decode cX10_bigon 51 = .ok (.iconst 1, 1) := by decide +kernel
theorem dX10_bigon_52 : decode cX10_bigon 52 = .ok (.invokestatic 117, 3) := by decide +kernel
theorem dX10_bigon_55 : decode cX10_bigon 55 = .ok (.invokevirtual 57, 3) := by decide +kernel
theorem dX10_bigon_58 : decode cX10_bigon 58 = .ok (.if_icmp .ne 26, 3) := by decide +kernel
theorem dX10_bigon_61 : decode cX10_bigon 61 = .ok (.aload_n 0, 1) := by decide +kernel
theorem dX10_bigon_62 : decode cX10_bigon 62 = .ok (.iload 5, 2) := by decide +kernel
theorem dX10_bigon_64 : decode cX10_bigon 64 = .ok (.iconst 1, 1) := by decide +kernel
theorem dX10_bigon_65 : decode cX10_bigon 65 = .ok (.invokestatic 117, 3) := by decide +kernel
theorem dX10_bigon_68 : decode cX10_bigon 68 = .ok (.invokevirtual 57, 3) := by decide +kernel
theorem dX10_bigon_71 : decode cX10_bigon 71 = .ok (.aload_n 0, 1) := by decide +kernel
theorem dX10_bigon_72 : decode cX10_bigon 72 = .ok (.iload 6, 2) := by decide +kernel
theorem dX10_bigon_74 : decode cX10_bigon 74 = .ok (.invokevirtual 57, 3) := by decide +kernel
theorem dX10_bigon_77 : decode cX10_bigon 77 = .ok (.if_icmp .ne 7, 3) := by decide +kernel
theorem dX10_bigon_80 : decode cX10_bigon 80 = .ok (.iconst 1, 1) := by decide +kernel
theorem dX10_bigon_81 : decode cX10_bigon 81 = .ok (.goto 4, 3) := by decide +kernel
theorem dX10_bigon_84 : decode cX10_bigon 84 = .ok (.iconst 0, 1) := by decide +kernel
theorem dX10_bigon_85 : decode cX10_bigon 85 = .ok (.istore 7, 2) := by decide +kernel
theorem dX10_bigon_87 : decode cX10_bigon 87 = .ok (.iload 7, 2) := by decide +kernel
theorem dX10_bigon_89 : decode cX10_bigon 89 = .ok (.ifCond .eq 8, 3) := by decide +kernel
theorem dX10_bigon_92 : decode cX10_bigon 92 = .ok (.iload 4, 2) := by decide +kernel
theorem dX10_bigon_94 : decode cX10_bigon 94 = .ok (.goto 4, 3) := by decide +kernel
theorem dX10_bigon_97 : decode cX10_bigon 97 = .ok (.iload_n 3, 1) := by decide +kernel
theorem dX10_bigon_98 : decode cX10_bigon 98 = .ok (.istore_n 3, 1) := by decide +kernel
theorem dX10_bigon_99 : decode cX10_bigon 99 = .ok (.iinc 4 (-1), 3) := by decide +kernel
theorem dX10_bigon_102 : decode cX10_bigon 102 = .ok (.goto (-96), 3) := by decide +kernel
theorem dX10_bigon_105 : decode cX10_bigon 105 = .ok (.iload_n 3, 1) := by decide +kernel
theorem dX10_bigon_106 : decode cX10_bigon 106 = .ok (.ireturn, 1) := by decide +kernel
set_option maxRecDepth 20000 in
theorem ggX10_removeBigon_X10_isCrossing : GoodIn wsX10_removeBigon wsX10_isCrossing := goodIn_r _ [8, 9, 10, 11, 7, 12, 13, 14, 15, 16, 53, 54, 55, 56, 57, 58, 59, 60, 61, 62, 63, 64, 65, 66, 67, 68, 69] (by decide +kernel) (by decide +kernel)
set_option maxRecDepth 20000 in
theorem gX10_removeBigon_X10_isCrossing : GoodIn wsX10_removeBigon (wsV RX10 107 RX10 yX10_isCrossing wsX10_isCrossing) := goodIn_app (goodIn_of _ (by decide +kernel)) ggX10_removeBigon_X10_isCrossing
set_option maxRecDepth 20000 in
theorem ggX10_removeBigon_X10_bigon : GoodIn wsX10_removeBigon wsX10_bigon := goodIn_r _ [20, 21, 22, 23, 7, 24, 13, 25, 26, 27, 53, 54, 55, 56, 57, 58, 59, 60, 61, 62, 63, 64, 65, 66, 67, 68, 69] (by decide +kernel) (by decide +kernel)
set_option maxRecDepth 20000 in
theorem gX10_removeBigon_X10_bigon : GoodIn wsX10_removeBigon (wsV RX10 150 RX10 yX10_bigon wsX10_bigon) := goodIn_app (goodIn_of _ (by decide +kernel)) ggX10_removeBigon_X10_bigon
set_option maxRecDepth 20000 in
theorem ggX10_removeBigon_X10_beginDraft : GoodIn wsX10_removeBigon wsX10_beginDraft := goodIn_r _ [31, 3, 13, 53, 54, 55, 56, 57, 58, 59, 60, 61, 62, 63, 64, 65, 66, 67, 68, 69] (by decide +kernel) (by decide +kernel)
set_option maxRecDepth 20000 in
theorem gX10_removeBigon_X10_beginDraft : GoodIn wsX10_removeBigon (wsV RX10 137 RX10 yX10_beginDraft wsX10_beginDraft) := goodIn_app (goodIn_of _ (by decide +kernel)) ggX10_removeBigon_X10_beginDraft
set_option maxRecDepth 20000 in
theorem ggX10_removeBigon_X10_turn : GoodIn wsX10_removeBigon wsX10_turn := goodIn_r _ [27] (by decide +kernel) (by decide +kernel)
set_option maxRecDepth 20000 in
theorem gX10_removeBigon_X10_turn : GoodIn wsX10_removeBigon (va_wsS RX10 117 yX10_turn wsX10_turn) := goodIn_app (goodIn_of _ (by decide +kernel)) ggX10_removeBigon_X10_turn
set_option maxRecDepth 20000 in
theorem ggX10_removeBigon_X10_join : GoodIn wsX10_removeBigon wsX10_join := goodIn_r _ [34] (by decide +kernel) (by decide +kernel)
set_option maxRecDepth 20000 in
theorem gX10_removeBigon_X10_join : GoodIn wsX10_removeBigon (va_wsS RX10 140 yX10_join wsX10_join) := goodIn_app (goodIn_of _ (by decide +kernel)) ggX10_removeBigon_X10_join
set_option maxRecDepth 20000 in
theorem ggX10_removeBigon_X10_dropCrossing : GoodIn wsX10_removeBigon wsX10_dropCrossing := goodIn_r _ [37] (by decide +kernel) (by decide +kernel)
set_option maxRecDepth 20000 in
theorem gX10_removeBigon_X10_dropCrossing : GoodIn wsX10_removeBigon (va_wsS RX10 144 yX10_dropCrossing wsX10_dropCrossing) := goodIn_app (goodIn_of _ (by decide +kernel)) ggX10_removeBigon_X10_dropCrossing
set_option maxRecDepth 20000 in
theorem ggX10_removeBigon_X10_finishDraft : GoodIn wsX10_removeBigon wsX10_finishDraft := goodIn_r _ [41, 3, 42, 43, 44, 45, 7, 46, 47, 48, 13, 49, 50, 51, 52, 9, 10, 11, 12, 53, 54, 55, 56, 57, 58, 59, 60, 61, 62, 63, 64, 65, 66, 67, 68, 69] (by decide +kernel) (by decide +kernel)
set_option maxRecDepth 20000 in
theorem gX10_removeBigon_X10_finishDraft : GoodIn wsX10_removeBigon (wsV RX10 147 RX10 yX10_finishDraft wsX10_finishDraft) := goodIn_app (goodIn_of _ (by decide +kernel)) ggX10_removeBigon_X10_finishDraft
theorem dX10_removeBigon_0 : decode cX10_removeBigon 0 = .ok (.aload_n 0, 1) := by decide +kernel
theorem dX10_removeBigon_1 : decode cX10_removeBigon 1 = .ok (.iload_n 1, 1) := by decide +kernel
theorem dX10_removeBigon_2 : decode cX10_removeBigon 2 = .ok (.invokevirtual 107, 3) := by decide +kernel
theorem dX10_removeBigon_5 : decode cX10_removeBigon 5 = .ok (.ifCond .eq 16, 3) := by decide +kernel
theorem dX10_removeBigon_8 : decode cX10_removeBigon 8 = .ok (.aload_n 0, 1) := by decide +kernel
theorem dX10_removeBigon_9 : decode cX10_removeBigon 9 = .ok (.iload_n 2, 1) := by decide +kernel
theorem dX10_removeBigon_10 : decode cX10_removeBigon 10 = .ok (.invokevirtual 107, 3) := by decide +kernel
theorem dX10_removeBigon_13 : decode cX10_removeBigon 13 = .ok (.ifCond .eq 8, 3) := by decide +kernel
theorem dX10_removeBigon_16 : decode cX10_removeBigon 16 = .ok (.iload_n 1, 1) := by decide +kernel
theorem dX10_removeBigon_17 : decode cX10_removeBigon 17 = .ok (.iload_n 2, 1) := by decide +kernel
theorem dX10_removeBigon_18 : decode cX10_removeBigon 18 = .ok (.if_icmp .ne 6, 3) := by decide +kernel
theorem dX10_removeBigon_21 : decode cX10_removeBigon 21 = .ok (.ldc 68, 2) := by decide +kernel
theorem dX10_removeBigon_23 : decode cX10_removeBigon 23 = .ok (.ireturn, 1) := by decide +kernel
theorem dX10_removeBigon_24 : decode cX10_removeBigon 24 = .ok (.aload_n 0, 1) := by decide +kernel
theorem dX10_removeBigon_25 : decode cX10_removeBigon 25 = .ok (.iload_n 1, 1) := by decide +kernel
theorem dX10_removeBigon_26 : decode cX10_removeBigon 26 = .ok (.iload_n 2, 1) := by decide +kernel
theorem dX10_removeBigon_27 : decode cX10_removeBigon 27 = .ok (.invokevirtual 150, 3) := by decide +kernel
theorem dX10_removeBigon_30 : decode cX10_removeBigon 30 = .ok (.istore_n 3, 1) := by decide +kernel
theorem dX10_removeBigon_31 : decode cX10_removeBigon 31 = .ok (.iload_n 3, 1) := by decide +kernel
theorem dX10_removeBigon_32 : decode cX10_removeBigon 32 = .ok (.ifCond .ge 6, 3) := by decide +kernel
theorem dX10_removeBigon_35 : decode cX10_removeBigon 35 = .ok (.ldc 133, 2) := by decide +kernel
theorem dX10_removeBigon_37 : decode cX10_removeBigon 37 = .ok (.ireturn, 1) := by decide +kernel
theorem dX10_removeBigon_38 : decode cX10_removeBigon 38 = .ok (.iconst 4, 1) := by decide +kernel
theorem dX10_removeBigon_39 : decode cX10_removeBigon 39 = .ok (.iload_n 1, 1) := by decide +kernel
theorem dX10_removeBigon_40 : decode cX10_removeBigon 40 = .ok (.imul, 1) := by decide +kernel
theorem dX10_removeBigon_41 : decode cX10_removeBigon 41 = .ok (.iload_n 3, 1) := by decide +kernel
theorem dX10_removeBigon_42 : decode cX10_removeBigon 42 = .ok (.iconst 4, 1) := by decide +kernel
theorem dX10_removeBigon_43 : decode cX10_removeBigon 43 = .ok (.idiv, 1) := by decide +kernel
theorem dX10_removeBigon_44 : decode cX10_removeBigon 44 = .ok (.iadd, 1) := by decide +kernel
theorem dX10_removeBigon_45 : decode cX10_removeBigon 45 = .ok (.istore 4, 2) := by decide +kernel
theorem dX10_removeBigon_47 : decode cX10_removeBigon 47 = .ok (.iconst 4, 1) := by decide +kernel
theorem dX10_removeBigon_48 : decode cX10_removeBigon 48 = .ok (.iload_n 2, 1) := by decide +kernel
theorem dX10_removeBigon_49 : decode cX10_removeBigon 49 = .ok (.imul, 1) := by decide +kernel
theorem dX10_removeBigon_50 : decode cX10_removeBigon 50 = .ok (.iload_n 3, 1) := by decide +kernel
theorem dX10_removeBigon_51 : decode cX10_removeBigon 51 = .ok (.iconst 4, 1) := by decide +kernel
theorem dX10_removeBigon_52 : decode cX10_removeBigon 52 = .ok (.irem, 1) := by decide +kernel
theorem dX10_removeBigon_53 : decode cX10_removeBigon 53 = .ok (.iadd, 1) := by decide +kernel
theorem dX10_removeBigon_54 : decode cX10_removeBigon 54 = .ok (.istore 5, 2) := by decide +kernel
theorem dX10_removeBigon_56 : decode cX10_removeBigon 56 = .ok (.aload_n 0, 1) := by decide +kernel
theorem dX10_removeBigon_57 : decode cX10_removeBigon 57 = .ok (.invokevirtual 137, 3) := by decide +kernel
theorem dX10_removeBigon_60 : decode cX10_removeBigon 60 = .ok (.aload_n 0, 1) := by decide +kernel
theorem dX10_removeBigon_61 : decode cX10_removeBigon 61 = .ok (.getfield 38, 3) := by decide +kernel
theorem dX10_removeBigon_64 : decode cX10_removeBigon 64 = .ok (.iconst 1, 1) := by decide +kernel
theorem dX10_removeBigon_65 : decode cX10_removeBigon 65 = .ok (.dup2, 1) := by decide +kernel
theorem dX10_removeBigon_66 : decode cX10_removeBigon 66 = .ok (.iaload, 1) := by decide +kernel
theorem dX10_removeBigon_67 : decode cX10_removeBigon 67 = .ok (.aload_n 0, 1) := by decide +kernel
theorem dX10_removeBigon_68 : decode cX10_removeBigon 68 = .ok (.getfield 38, 3) := by decide +kernel
theorem dX10_removeBigon_71 : decode cX10_removeBigon 71 = .ok (.aload_n 0, 1) := by decide +kernel
theorem dX10_removeBigon_72 : decode cX10_removeBigon 72 = .ok (.getfield 38, 3) := by decide +kernel
theorem dX10_removeBigon_75 : decode cX10_removeBigon 75 = .ok (.iconst 2, 1) := by decide +kernel
theorem dX10_removeBigon_76 : decode cX10_removeBigon 76 = .ok (.iload 4, 2) := by decide +kernel
theorem dX10_removeBigon_78 : decode cX10_removeBigon 78 = .ok (.iconst 2, 1) := by decide +kernel
theorem dX10_removeBigon_79 : decode cX10_removeBigon 79 = .ok (.invokestatic 117, 3) := by decide +kernel
theorem dX10_removeBigon_82 : decode cX10_removeBigon 82 = .ok (.iadd, 1) := by decide +kernel
theorem dX10_removeBigon_83 : decode cX10_removeBigon 83 = .ok (.iaload, 1) := by decide +kernel
theorem dX10_removeBigon_84 : decode cX10_removeBigon 84 = .ok (.aload_n 0, 1) := by decide +kernel
theorem dX10_removeBigon_85 : decode cX10_removeBigon 85 = .ok (.getfield 38, 3) := by decide +kernel
theorem dX10_removeBigon_88 : decode cX10_removeBigon 88 = .ok (.iconst 2, 1) := by decide +kernel
theorem dX10_removeBigon_89 : decode cX10_removeBigon 89 = .ok (.iload 5, 2) := by decide +kernel
theorem dX10_removeBigon_91 : decode cX10_removeBigon 91 = .ok (.iconst 3, 1) := by decide +kernel
theorem dX10_removeBigon_92 : decode cX10_removeBigon 92 = .ok (.invokestatic 117, 3) := by decide +kernel
theorem dX10_removeBigon_95 : decode cX10_removeBigon 95 = .ok (.iadd, 1) := by decide +kernel
theorem dX10_removeBigon_96 : decode cX10_removeBigon 96 = .ok (.iaload, 1) := by decide +kernel
theorem dX10_removeBigon_97 : decode cX10_removeBigon 97 = .ok (.invokestatic 140, 3) := by decide +kernel
theorem dX10_removeBigon_100 : decode cX10_removeBigon 100 = .ok (.iadd, 1) := by decide +kernel
theorem dX10_removeBigon_101 : decode cX10_removeBigon 101 = .ok (.iastore, 1) := by decide +kernel
theorem dX10_removeBigon_102 : decode cX10_removeBigon 102 = .ok (.aload_n 0, 1) := by decide +kernel
theorem dX10_removeBigon_103 : decode cX10_removeBigon 103 = .ok (.getfield 38, 3) := by decide +kernel
theorem dX10_removeBigon_106 : decode cX10_removeBigon 106 = .ok (.iconst 1, 1) := by decide +kernel
theorem dX10_removeBigon_107 : decode cX10_removeBigon 107 = .ok (.dup2, 1) := by decide +kernel
theorem dX10_removeBigon_108 : decode cX10_removeBigon 108 = .ok (.iaload, 1) := by decide +kernel
theorem dX10_removeBigon_109 : decode cX10_removeBigon 109 = .ok (.aload_n 0, 1) := by decide +kernel
theorem dX10_removeBigon_110 : decode cX10_removeBigon 110 = .ok (.getfield 38, 3) := by decide +kernel
theorem dX10_removeBigon_113 : decode cX10_removeBigon 113 = .ok (.aload_n 0, 1) := by decide +kernel
theorem dX10_removeBigon_114 : decode cX10_removeBigon 114 = .ok (.getfield 38, 3) := by decide +kernel
theorem dX10_removeBigon_117 : decode cX10_removeBigon 117 = .ok (.iconst 2, 1) := by decide +kernel
theorem dX10_removeBigon_118 : decode cX10_removeBigon 118 = .ok (.iload 4, 2) := by decide +kernel
theorem dX10_removeBigon_120 : decode cX10_removeBigon 120 = .ok (.iconst 3, 1) := by decide +kernel
theorem dX10_removeBigon_121 : decode cX10_removeBigon 121 = .ok (.invokestatic 117, 3) := by decide +kernel
theorem dX10_removeBigon_124 : decode cX10_removeBigon 124 = .ok (.iadd, 1) := by decide +kernel
theorem dX10_removeBigon_125 : decode cX10_removeBigon 125 = .ok (.iaload, 1) := by decide +kernel
theorem dX10_removeBigon_126 : decode cX10_removeBigon 126 = .ok (.aload_n 0, 1) := by decide +kernel
theorem dX10_removeBigon_127 : decode cX10_removeBigon 127 = .ok (.getfield 38, 3) := by decide +kernel
theorem dX10_removeBigon_130 : decode cX10_removeBigon 130 = .ok (.iconst 2, 1) := by decide +kernel
theorem dX10_removeBigon_131 : decode cX10_removeBigon 131 = .ok (.iload 5, 2) := by decide +kernel
theorem dX10_removeBigon_133 : decode cX10_removeBigon 133 = .ok (.iconst 2, 1) := by decide +kernel
theorem dX10_removeBigon_134 : decode cX10_removeBigon 134 = .ok (.invokestatic 117, 3) := by decide +kernel
theorem dX10_removeBigon_137 : decode cX10_removeBigon 137 = .ok (.iadd, 1) := by decide +kernel
theorem dX10_removeBigon_138 : decode cX10_removeBigon 138 = .ok (.iaload, 1) := by decide +kernel
theorem dX10_removeBigon_139 : decode cX10_removeBigon 139 = .ok (.invokestatic 140, 3) := by decide +kernel
theorem dX10_removeBigon_142 : decode cX10_removeBigon 142 = .ok (.iadd, 1) := by decide +kernel
theorem dX10_removeBigon_143 : decode cX10_removeBigon 143 = .ok (.iastore, 1) := by decide +kernel
theorem dX10_removeBigon_144 : decode cX10_removeBigon 144 = .ok (.aload_n 0, 1) := by decide +kernel
theorem dX10_removeBigon_145 : decode cX10_removeBigon 145 = .ok (.getfield 38, 3) := by decide +kernel
theorem dX10_removeBigon_148 : decode cX10_removeBigon 148 = .ok (.iload_n 1, 1) := by decide +kernel
theorem dX10_removeBigon_149 : decode cX10_removeBigon 149 = .ok (.iload_n 2, 1) := by decide +kernel
theorem dX10_removeBigon_150 : decode cX10_removeBigon 150 = .ok (.if_icmp .le 7, 3) := by decide +kernel
theorem dX10_removeBigon_153 : decode cX10_removeBigon 153 = .ok (.iload_n 1, 1) := by decide +kernel
theorem dX10_removeBigon_154 : decode cX10_removeBigon 154 = .ok (.goto 4, 3) := by decide +kernel
theorem dX10_removeBigon_157 : decode cX10_removeBigon 157 = .ok (.iload_n 2, 1) := by decide +kernel
theorem dX10_removeBigon_158 : decode cX10_removeBigon 158 = .ok (.invokestatic 144, 3) := by decide +kernel
theorem dX10_removeBigon_161 : decode cX10_removeBigon 161 = .ok (.aload_n 0, 1) := by decide +kernel
theorem dX10_removeBigon_162 : decode cX10_removeBigon 162 = .ok (.getfield 38, 3) := by decide +kernel
theorem dX10_removeBigon_165 : decode cX10_removeBigon 165 = .ok (.iload_n 1, 1) := by decide +kernel
theorem dX10_removeBigon_166 : decode cX10_removeBigon 166 = .ok (.iload_n 2, 1) := by decide +kernel
theorem dX10_removeBigon_167 : decode cX10_removeBigon 167 = .ok (.if_icmp .le 7, 3) := by decide +kernel
theorem dX10_removeBigon_170 : decode cX10_removeBigon 170 = .ok (.iload_n 2, 1) := by decide +kernel
theorem dX10_removeBigon_171 : decode cX10_removeBigon 171 = .ok (.goto 4, 3) := by decide +kernel
theorem dX10_removeBigon_174 : decode cX10_removeBigon 174 = .ok (.iload_n 1, 1) := by decide +kernel
theorem dX10_removeBigon_175 : decode cX10_removeBigon 175 = .ok (.invokestatic 144, 3) := by decide +kernel
theorem dX10_removeBigon_178 : decode cX10_removeBigon 178 = .ok (.aload_n 0, 1) := by decide +kernel
theorem dX10_removeBigon_179 : decode cX10_removeBigon 179 = .ok (.invokevirtual 147, 3) := by decide +kernel
theorem dX10_removeBigon_182 : decode cX10_removeBigon 182 = .ok (.ireturn, 1) := by decide +kernel
set_option maxRecDepth 20000 in
theorem ggX10_isKink_X10_isCrossing : GoodIn wsX10_isKink wsX10_isCrossing := goodIn_r _ [6, 7, 8, 9, 5, 10, 11, 12, 13, 14, 26, 27, 28, 29, 30, 31, 32, 33, 34, 35, 36, 37, 38, 39, 40, 41, 42] (by decide +kernel) (by decide +kernel)
set_option maxRecDepth 20000 in
theorem gX10_isKink_X10_isCrossing : GoodIn wsX10_isKink (wsV RX10 107 RX10 yX10_isCrossing wsX10_isCrossing) := goodIn_app (goodIn_of _ (by decide +kernel)) ggX10_isKink_X10_isCrossing
set_option maxRecDepth 20000 in
theorem ggX10_isKink_X10_kinkEnd : GoodIn wsX10_isKink wsX10_kinkEnd := goodIn_r _ [18, 19, 20, 21, 5, 22, 11, 23, 24, 25, 26, 27, 28, 29, 30, 31, 32, 33, 34, 35, 36, 37, 38, 39, 40, 41, 42] (by decide +kernel) (by decide +kernel)
set_option maxRecDepth 20000 in
theorem gX10_isKink_X10_kinkEnd : GoodIn wsX10_isKink (wsV RX10 134 RX10 yX10_kinkEnd wsX10_kinkEnd) := goodIn_app (goodIn_of _ (by decide +kernel)) ggX10_isKink_X10_kinkEnd
theorem dX10_isKink_0 : decode cX10_isKink 0 = .ok (.aload_n 0, 1) := by decide +kernel
theorem dX10_isKink_1 : decode cX10_isKink 1 = .ok (.iload_n 1, 1) := by decide +kernel
theorem dX10_isKink_2 : decode cX10_isKink 2 = .ok (.invokevirtual 107, 3) := by decide +kernel
theorem dX10_isKink_5 : decode cX10_isKink 5 = .ok (.ifCond .ne 8, 3) := by decide +kernel
theorem dX10_isKink_8 : decode cX10_isKink 8 = .ok (.ldc 68, 2) := by decide +kernel
theorem dX10_isKink_10 : decode cX10_isKink 10 = .ok (.goto 16, 3) := by decide +kernel
theorem dX10_isKink_13 : decode cX10_isKink 13 = .ok (.aload_n 0, 1) := by decide +kernel
theorem dX10_isKink_14 : decode cX10_isKink 14 = .ok (.iload_n 1, 1) := by decide +kernel
theorem dX10_isKink_15 : decode cX10_isKink 15 = .ok (.invokevirtual 134, 3) := by decide +kernel
theorem dX10_isKink_18 : decode cX10_isKink 18 = .ok (.ifCond .lt 7, 3) := by decide +kernel
theorem dX10_isKink_21 : decode cX10_isKink 21 = .ok (.iconst 1, 1) := by decide +kernel
theorem dX10_isKink_22 : decode cX10_isKink 22 = .ok (.goto 4, 3) := by decide +kernel
theorem dX10_isKink_25 : decode cX10_isKink 25 = .ok (.iconst 0, 1) := by decide +kernel
theorem dX10_isKink_26 : decode cX10_isKink 26 = .ok (.ireturn, 1) := by decide +kernel
set_option maxRecDepth 20000 in
theorem ggX10_bigonPartner_X10_isCrossing : GoodIn wsX10_bigonPartner wsX10_isCrossing := goodIn_r _ [7, 8, 9, 10, 6, 11, 12, 13, 14, 15, 27, 28, 29, 30, 31, 32, 33, 34, 35, 36, 37, 38, 39, 40, 41, 42, 43] (by decide +kernel) (by decide +kernel)
set_option maxRecDepth 20000 in
theorem gX10_bigonPartner_X10_isCrossing : GoodIn wsX10_bigonPartner (wsV RX10 107 RX10 yX10_isCrossing wsX10_isCrossing) := goodIn_app (goodIn_of _ (by decide +kernel)) ggX10_bigonPartner_X10_isCrossing
set_option maxRecDepth 20000 in
theorem ggX10_bigonPartner_X10_crossings : GoodIn wsX10_bigonPartner wsX10_crossings := goodIn_r _ [11, 12, 27, 28, 29, 30, 31, 32, 33, 34, 35, 36, 37, 38, 39, 40, 41, 42, 43] (by decide +kernel) (by decide +kernel)
set_option maxRecDepth 20000 in
theorem gX10_bigonPartner_X10_crossings : GoodIn wsX10_bigonPartner (wsV RX10 61 RX10 yX10_crossings wsX10_crossings) := goodIn_app (goodIn_of _ (by decide +kernel)) ggX10_bigonPartner_X10_crossings
set_option maxRecDepth 20000 in
theorem ggX10_bigonPartner_X10_bigon : GoodIn wsX10_bigonPartner wsX10_bigon := goodIn_r _ [19, 20, 21, 22, 6, 23, 12, 24, 25, 26, 27, 28, 29, 30, 31, 32, 33, 34, 35, 36, 37, 38, 39, 40, 41, 42, 43] (by decide +kernel) (by decide +kernel)
set_option maxRecDepth 20000 in
theorem gX10_bigonPartner_X10_bigon : GoodIn wsX10_bigonPartner (wsV RX10 150 RX10 yX10_bigon wsX10_bigon) := goodIn_app (goodIn_of _ (by decide +kernel)) ggX10_bigonPartner_X10_bigon
theorem dX10_bigonPartner_0 : decode cX10_bigonPartner 0 = .ok (.aload_n 0, 1) := by decide +kernel
theorem dX10_bigonPartner_1 : decode cX10_bigonPartner 1 = .ok (.iload_n 1, 1) := by decide +kernel
theorem dX10_bigonPartner_2 : decode cX10_bigonPartner 2 = .ok (.invokevirtual 107, 3) := by decide +kernel
theorem dX10_bigonPartner_5 : decode cX10_bigonPartner 5 = .ok (.ifCond .ne 6, 3) := by decide +kernel
theorem dX10_bigonPartner_8 : decode cX10_bigonPartner 8 = .ok (.ldc 68, 2) := by decide +kernel
theorem dX10_bigonPartner_10 : decode cX10_bigonPartner 10 = .ok (.ireturn, 1) := by decide +kernel
theorem dX10_bigonPartner_11 : decode cX10_bigonPartner 11 = .ok (.ldc 153, 2) := by decide +kernel
theorem dX10_bigonPartner_13 : decode cX10_bigonPartner 13 = .ok (.istore_n 2, 1) := by decide +kernel
theorem dX10_bigonPartner_14 : decode cX10_bigonPartner 14 = .ok (.aload_n 0, 1) := by decide +kernel
theorem dX10_bigonPartner_15 : decode cX10_bigonPartner 15 = .ok (.invokevirtual 61, 3) := by decide +kernel
theorem dX10_bigonPartner_18 : decode cX10_bigonPartner 18 = .ok (.iconst 1, 1) := by decide +kernel
theorem dX10_bigonPartner_19 : decode cX10_bigonPartner 19 = .ok (.isub, 1) := by decide +kernel
theorem dX10_bigonPartner_20 : decode cX10_bigonPartner 20 = .ok (.istore_n 3, 1) := by decide +kernel
theorem dX10_bigonPartner_21 : decode cX10_bigonPartner 21 = .ok (.iload_n 3, 1) := by decide +kernel
theorem dX10_bigonPartner_22 : decode cX10_bigonPartner 22 = .ok (.ifCond .lt 29, 3) := by decide +kernel
theorem dX10_bigonPartner_25 : decode cX10_bigonPartner 25 = .ok (.iload_n 3, 1) := by decide +kernel
theorem dX10_bigonPartner_26 : decode cX10_bigonPartner 26 = .ok (.iload_n 1, 1) := by decide +kernel
theorem dX10_bigonPartner_27 : decode cX10_bigonPartner 27 = .ok (.if_icmp .eq 16, 3) := by decide +kernel
theorem dX10_bigonPartner_30 : decode cX10_bigonPartner 30 = .ok (.aload_n 0, 1) := by decide +kernel
theorem dX10_bigonPartner_31 : decode cX10_bigonPartner 31 = .ok (.iload_n 1, 1) := by decide +kernel
theorem dX10_bigonPartner_32 : decode cX10_bigonPartner 32 = .ok (.iload_n 3, 1) := by decide +kernel
theorem dX10_bigonPartner_33 : decode cX10_bigonPartner 33 = .ok (.invokevirtual 150, 3) := by decide +kernel
theorem dX10_bigonPartner_36 : decode cX10_bigonPartner 36 = .ok (.ifCond .lt 7, 3) := by decide +kernel
theorem dX10_bigonPartner_39 : decode cX10_bigonPartner 39 = .ok (.iload_n 3, 1) := by decide +kernel
theorem dX10_bigonPartner_40 : decode cX10_bigonPartner 40 = .ok (.goto 4, 3) := by decide +kernel
theorem dX10_bigonPartner_43 : decode cX10_bigonPartner 43 = .ok (.iload_n 2, 1) := by decide +kernel
theorem dX10_bigonPartner_44 : decode cX10_bigonPartner 44 = .ok (.istore_n 2, 1) := by decide +kernel
theorem dX10_bigonPartner_45 : decode cX10_bigonPartner 45 = .ok (.iinc 3 (-1), 3) := by decide +kernel
theorem dX10_bigonPartner_48 : decode cX10_bigonPartner 48 = .ok (.goto (-27), 3) := by decide +kernel
theorem dX10_bigonPartner_51 : decode cX10_bigonPartner 51 = .ok (.iload_n 2, 1) := by decide +kernel
theorem dX10_bigonPartner_52 : decode cX10_bigonPartner 52 = .ok (.ireturn, 1) := by decide +kernel
theorem dX10_beginClasses_0 : decode cX10_beginClasses 0 = .ok (.iconst 0, 1) := by decide +kernel
theorem dX10_beginClasses_1 : decode cX10_beginClasses 1 = .ok (.istore_n 1, 1) := by decide +kernel
theorem dX10_beginClasses_2 : decode cX10_beginClasses 2 = .ok (.iload_n 1, 1) := by decide +kernel
theorem dX10_beginClasses_3 : decode cX10_beginClasses 3 = .ok (.bipush 16, 2) := by decide +kernel
theorem dX10_beginClasses_5 : decode cX10_beginClasses 5 = .ok (.if_icmp .gt 16, 3) := by decide +kernel
theorem dX10_beginClasses_8 : decode cX10_beginClasses 8 = .ok (.aload_n 0, 1) := by decide +kernel
theorem dX10_beginClasses_9 : decode cX10_beginClasses 9 = .ok (.getfield 41, 3) := by decide +kernel
theorem dX10_beginClasses_12 : decode cX10_beginClasses 12 = .ok (.iload_n 1, 1) := by decide +kernel
theorem dX10_beginClasses_13 : decode cX10_beginClasses 13 = .ok (.iload_n 1, 1) := by decide +kernel
theorem dX10_beginClasses_14 : decode cX10_beginClasses 14 = .ok (.iastore, 1) := by decide +kernel
theorem dX10_beginClasses_15 : decode cX10_beginClasses 15 = .ok (.iinc 1 1, 3) := by decide +kernel
theorem dX10_beginClasses_18 : decode cX10_beginClasses 18 = .ok (.goto (-16), 3) := by decide +kernel
theorem dX10_beginClasses_21 : decode cX10_beginClasses 21 = .ok (.return_, 1) := by decide +kernel
set_option maxRecDepth 20000 in
theorem ggX10_unite_X10_arc : GoodIn wsX10_unite wsX10_arc := goodIn_r _ [6, 7, 8, 9, 10, 11, 12, 13, 14, 15, 16, 17, 18, 19, 20, 21, 22, 23, 24] (by decide +kernel) (by decide +kernel)
set_option maxRecDepth 20000 in
theorem gX10_unite_X10_arc : GoodIn wsX10_unite (wsV RX10 57 RX10 yX10_arc wsX10_arc) := goodIn_app (goodIn_of _ (by decide +kernel)) ggX10_unite_X10_arc
theorem dX10_unite_0 : decode cX10_unite 0 = .ok (.aload_n 0, 1) := by decide +kernel
theorem dX10_unite_1 : decode cX10_unite 1 = .ok (.getfield 41, 3) := by decide +kernel
theorem dX10_unite_4 : decode cX10_unite 4 = .ok (.aload_n 0, 1) := by decide +kernel
theorem dX10_unite_5 : decode cX10_unite 5 = .ok (.iload_n 1, 1) := by decide +kernel
theorem dX10_unite_6 : decode cX10_unite 6 = .ok (.invokevirtual 57, 3) := by decide +kernel
theorem dX10_unite_9 : decode cX10_unite 9 = .ok (.iaload, 1) := by decide +kernel
theorem dX10_unite_10 : decode cX10_unite 10 = .ok (.istore_n 3, 1) := by decide +kernel
theorem dX10_unite_11 : decode cX10_unite 11 = .ok (.aload_n 0, 1) := by decide +kernel
theorem dX10_unite_12 : decode cX10_unite 12 = .ok (.getfield 41, 3) := by decide +kernel
theorem dX10_unite_15 : decode cX10_unite 15 = .ok (.aload_n 0, 1) := by decide +kernel
theorem dX10_unite_16 : decode cX10_unite 16 = .ok (.iload_n 2, 1) := by decide +kernel
theorem dX10_unite_17 : decode cX10_unite 17 = .ok (.invokevirtual 57, 3) := by decide +kernel
theorem dX10_unite_20 : decode cX10_unite 20 = .ok (.iaload, 1) := by decide +kernel
theorem dX10_unite_21 : decode cX10_unite 21 = .ok (.istore 4, 2) := by decide +kernel
theorem dX10_unite_23 : decode cX10_unite 23 = .ok (.iload_n 3, 1) := by decide +kernel
theorem dX10_unite_24 : decode cX10_unite 24 = .ok (.iload 4, 2) := by decide +kernel
theorem dX10_unite_26 : decode cX10_unite 26 = .ok (.if_icmp .ge 7, 3) := by decide +kernel
theorem dX10_unite_29 : decode cX10_unite 29 = .ok (.iload_n 3, 1) := by decide +kernel
theorem dX10_unite_30 : decode cX10_unite 30 = .ok (.goto 5, 3) := by decide +kernel
theorem dX10_unite_33 : decode cX10_unite 33 = .ok (.iload 4, 2) := by decide +kernel
theorem dX10_unite_35 : decode cX10_unite 35 = .ok (.istore 5, 2) := by decide +kernel
theorem dX10_unite_37 : decode cX10_unite 37 = .ok (.iconst 1, 1) := by decide +kernel
theorem dX10_unite_38 : decode cX10_unite 38 = .ok (.istore 6, 2) := by decide +kernel
theorem dX10_unite_40 : decode cX10_unite 40 = .ok (.iload 6, 2) := by decide +kernel
theorem dX10_unite_42 : decode cX10_unite 42 = .ok (.bipush 16, 2) := by decide +kernel
theorem dX10_unite_44 : decode cX10_unite 44 = .ok (.if_icmp .gt 51, 3) := by decide +kernel
theorem dX10_unite_47 : decode cX10_unite 47 = .ok (.aload_n 0, 1) := by decide +kernel
theorem dX10_unite_48 : decode cX10_unite 48 = .ok (.getfield 41, 3) := by decide +kernel
theorem dX10_unite_51 : decode cX10_unite 51 = .ok (.iload 6, 2) := by decide +kernel
theorem dX10_unite_53 : decode cX10_unite 53 = .ok (.aload_n 0, 1) := by decide +kernel
theorem dX10_unite_54 : decode cX10_unite 54 = .ok (.getfield 41, 3) := by decide +kernel
theorem dX10_unite_57 : decode cX10_unite 57 = .ok (.iload 6, 2) := by decide +kernel
theorem dX10_unite_59 : decode cX10_unite 59 = .ok (.iaload, 1) := by decide +kernel
theorem dX10_unite_60 : decode cX10_unite 60 = .ok (.iload_n 3, 1) := by decide +kernel
theorem dX10_unite_61 : decode cX10_unite 61 = .ok (.if_icmp .eq 15, 3) := by decide +kernel
theorem dX10_unite_64 : decode cX10_unite 64 = .ok (.aload_n 0, 1) := by decide +kernel
theorem dX10_unite_65 : decode cX10_unite 65 = .ok (.getfield 41, 3) := by decide +kernel
theorem dX10_unite_68 : decode cX10_unite 68 = .ok (.iload 6, 2) := by decide +kernel
theorem dX10_unite_70 : decode cX10_unite 70 = .ok (.iaload, 1) := by decide +kernel
theorem dX10_unite_71 : decode cX10_unite 71 = .ok (.iload 4, 2) := by decide +kernel
theorem dX10_unite_73 : decode cX10_unite 73 = .ok (.if_icmp .ne 8, 3) := by decide +kernel
theorem dX10_unite_76 : decode cX10_unite 76 = .ok (.iload 5, 2) := by decide +kernel
theorem dX10_unite_78 : decode cX10_unite 78 = .ok (.goto 10, 3) := by decide +kernel
theorem dX10_unite_81 : decode cX10_unite 81 = .ok (.aload_n 0, 1) := by decide +kernel
theorem dX10_unite_82 : decode cX10_unite 82 = .ok (.getfield 41, 3) := by decide +kernel
theorem dX10_unite_85 : decode cX10_unite 85 = .ok (.iload 6, 2) := by decide +kernel
theorem dX10_unite_87 : decode cX10_unite 87 = .ok (.iaload, 1) := by decide +kernel
theorem dX10_unite_88 : decode cX10_unite 88 = .ok (.iastore, 1) := by decide +kernel
theorem dX10_unite_89 : decode cX10_unite 89 = .ok (.iinc 6 1, 3) := by decide +kernel
theorem dX10_unite_92 : decode cX10_unite 92 = .ok (.goto (-52), 3) := by decide +kernel
theorem dX10_unite_95 : decode cX10_unite 95 = .ok (.return_, 1) := by decide +kernel
set_option maxRecDepth 20000 in
theorem ggX10_occurs_X10_ends : GoodIn wsX10_occurs wsX10_ends := goodIn_r _ [5, 6, 11, 12, 13, 14, 15, 16, 17, 18, 19, 20, 21, 22, 23, 24, 25, 26, 27] (by decide +kernel) (by decide +kernel)
set_option maxRecDepth 20000 in
theorem gX10_occurs_X10_ends : GoodIn wsX10_occurs (wsV RX10 53 RX10 yX10_ends wsX10_ends) := goodIn_app (goodIn_of _ (by decide +kernel)) ggX10_occurs_X10_ends
set_option maxRecDepth 20000 in
theorem ggX10_occurs_X10_arc : GoodIn wsX10_occurs wsX10_arc := goodIn_r _ [10, 6, 11, 12, 13, 14, 15, 16, 17, 18, 19, 20, 21, 22, 23, 24, 25, 26, 27] (by decide +kernel) (by decide +kernel)
set_option maxRecDepth 20000 in
theorem gX10_occurs_X10_arc : GoodIn wsX10_occurs (wsV RX10 57 RX10 yX10_arc wsX10_arc) := goodIn_app (goodIn_of _ (by decide +kernel)) ggX10_occurs_X10_arc
theorem dX10_occurs_0 : decode cX10_occurs 0 = .ok (.iconst 0, 1) := by decide +kernel
theorem dX10_occurs_1 : decode cX10_occurs 1 = .ok (.istore_n 2, 1) := by decide +kernel
theorem dX10_occurs_2 : decode cX10_occurs 2 = .ok (.iconst 0, 1) := by decide +kernel
theorem dX10_occurs_3 : decode cX10_occurs 3 = .ok (.istore_n 3, 1) := by decide +kernel
theorem dX10_occurs_4 : decode cX10_occurs 4 = .ok (.iload_n 3, 1) := by decide +kernel
theorem dX10_occurs_5 : decode cX10_occurs 5 = .ok (.aload_n 0, 1) := by decide +kernel
theorem dX10_occurs_6 : decode cX10_occurs 6 = .ok (.invokevirtual 53, 3) := by decide +kernel
theorem dX10_occurs_9 : decode cX10_occurs 9 = .ok (.if_icmp .ge 28, 3) := by decide +kernel
theorem dX10_occurs_12 : decode cX10_occurs 12 = .ok (.iload_n 2, 1) := by decide +kernel
theorem dX10_occurs_13 : decode cX10_occurs 13 = .ok (.ifCond .ne 12, 3) := by decide +kernel
theorem dX10_occurs_16 : decode cX10_occurs 16 = .ok (.aload_n 0, 1) := by decide +kernel
theorem dX10_occurs_17 : decode cX10_occurs 17 = .ok (.iload_n 3, 1) := by decide +kernel
theorem dX10_occurs_18 : decode cX10_occurs 18 = .ok (.invokevirtual 57, 3) := by decide +kernel
theorem dX10_occurs_21 : decode cX10_occurs 21 = .ok (.iload_n 1, 1) := by decide +kernel
theorem dX10_occurs_22 : decode cX10_occurs 22 = .ok (.if_icmp .ne 7, 3) := by decide +kernel
theorem dX10_occurs_25 : decode cX10_occurs 25 = .ok (.iconst 1, 1) := by decide +kernel
theorem dX10_occurs_26 : decode cX10_occurs 26 = .ok (.goto 4, 3) := by decide +kernel
theorem dX10_occurs_29 : decode cX10_occurs 29 = .ok (.iconst 0, 1) := by decide +kernel
theorem dX10_occurs_30 : decode cX10_occurs 30 = .ok (.istore_n 2, 1) := by decide +kernel
theorem dX10_occurs_31 : decode cX10_occurs 31 = .ok (.iinc 3 1, 3) := by decide +kernel
theorem dX10_occurs_34 : decode cX10_occurs 34 = .ok (.goto (-30), 3) := by decide +kernel
theorem dX10_occurs_37 : decode cX10_occurs 37 = .ok (.iload_n 2, 1) := by decide +kernel
theorem dX10_occurs_38 : decode cX10_occurs 38 = .ok (.ireturn, 1) := by decide +kernel
set_option maxRecDepth 20000 in
theorem ggX10_classes_X10_occurs : GoodIn wsX10_classes wsX10_occurs := goodIn_r _ [6, 7, 8, 9, 5, 10, 11, 12, 13, 14, 15, 16, 17, 18, 19, 20, 21, 22, 23, 24, 25, 26, 27, 28, 29, 30, 31, 32] (by decide +kernel) (by decide +kernel)
set_option maxRecDepth 20000 in
theorem gX10_classes_X10_occurs : GoodIn wsX10_classes (wsV RX10 154 RX10 yX10_occurs wsX10_occurs) := goodIn_app (goodIn_of _ (by decide +kernel)) ggX10_classes_X10_occurs
theorem dX10_classes_0 : decode cX10_classes 0 = .ok (.iconst 0, 1) := by decide +kernel
theorem dX10_classes_1 : decode cX10_classes 1 = .ok (.istore_n 1, 1) := by decide +kernel
theorem dX10_classes_2 : decode cX10_classes 2 = .ok (.iconst 1, 1) := by decide +kernel
theorem dX10_classes_3 : decode cX10_classes 3 = .ok (.istore_n 2, 1) := by decide +kernel
theorem dX10_classes_4 : decode cX10_classes 4 = .ok (.iload_n 2, 1) := by decide +kernel
theorem dX10_classes_5 : decode cX10_classes 5 = .ok (.bipush 16, 2) := by decide +kernel
theorem dX10_classes_7 : decode cX10_classes 7 = .ok (.if_icmp .gt 35, 3) := by decide +kernel
theorem dX10_classes_10 : decode cX10_classes 10 = .ok (.iload_n 1, 1) := by decide +kernel
theorem dX10_classes_11 : decode cX10_classes 11 = .ok (.aload_n 0, 1) := by decide +kernel
theorem dX10_classes_12 : decode cX10_classes 12 = .ok (.iload_n 2, 1) := by decide +kernel
theorem dX10_classes_13 : decode cX10_classes 13 = .ok (.invokevirtual 154, 3) := by decide +kernel
theorem dX10_classes_16 : decode cX10_classes 16 = .ok (.ifCond .eq 17, 3) := by decide +kernel
theorem dX10_classes_19 : decode cX10_classes 19 = .ok (.aload_n 0, 1) := by decide +kernel
theorem dX10_classes_20 : decode cX10_classes 20 = .ok (.getfield 41, 3) := by decide +kernel
theorem dX10_classes_23 : decode cX10_classes 23 = .ok (.iload_n 2, 1) := by decide +kernel
theorem dX10_classes_24 : decode cX10_classes 24 = .ok (.iaload, 1) := by decide +kernel
theorem dX10_classes_25 : decode cX10_classes 25 = .ok (.iload_n 2, 1) := by decide +kernel
theorem dX10_classes_26 : decode cX10_classes 26 = .ok (.if_icmp .ne 7, 3) := by decide +kernel
theorem dX10_classes_29 : decode cX10_classes 29 = .ok (.iconst 1, 1) := by decide +kernel
theorem dX10_classes_30 : decode cX10_classes 30 = .ok (.goto 4, 3) := by decide +kernel
theorem dX10_classes_33 : decode cX10_classes 33 = .ok (.iconst 0, 1) := by decide +kernel
theorem dX10_classes_34 : decode cX10_classes 34 = .ok (.iadd, 1) := by decide +kernel
theorem dX10_classes_35 : decode cX10_classes 35 = .ok (.istore_n 1, 1) := by decide +kernel
theorem dX10_classes_36 : decode cX10_classes 36 = .ok (.iinc 2 1, 3) := by decide +kernel
theorem dX10_classes_39 : decode cX10_classes 39 = .ok (.goto (-35), 3) := by decide +kernel
theorem dX10_classes_42 : decode cX10_classes 42 = .ok (.iload_n 1, 1) := by decide +kernel
theorem dX10_classes_43 : decode cX10_classes 43 = .ok (.ireturn, 1) := by decide +kernel
set_option maxRecDepth 20000 in
theorem ggX10_componentCount_X10_beginClasses : GoodIn wsX10_componentCount wsX10_beginClasses := goodIn_r _ [6, 7, 31, 32, 33, 34, 35, 36, 37, 38, 39, 40, 41, 42, 43, 44, 45, 46, 47] (by decide +kernel) (by decide +kernel)
set_option maxRecDepth 20000 in
theorem gX10_componentCount_X10_beginClasses : GoodIn wsX10_componentCount (wsV RX10 157 RX10 yX10_beginClasses wsX10_beginClasses) := goodIn_app (goodIn_of _ (by decide +kernel)) ggX10_componentCount_X10_beginClasses
set_option maxRecDepth 20000 in
theorem ggX10_componentCount_X10_ends : GoodIn wsX10_componentCount wsX10_ends := goodIn_r _ [11, 1, 31, 32, 33, 34, 35, 36, 37, 38, 39, 40, 41, 42, 43, 44, 45, 46, 47] (by decide +kernel) (by decide +kernel)
set_option maxRecDepth 20000 in
theorem gX10_componentCount_X10_ends : GoodIn wsX10_componentCount (wsV RX10 53 RX10 yX10_ends wsX10_ends) := goodIn_app (goodIn_of _ (by decide +kernel)) ggX10_componentCount_X10_ends
set_option maxRecDepth 20000 in
theorem ggX10_componentCount_X10_turn : GoodIn wsX10_componentCount wsX10_turn := goodIn_r _ [14] (by decide +kernel) (by decide +kernel)
set_option maxRecDepth 20000 in
theorem gX10_componentCount_X10_turn : GoodIn wsX10_componentCount (va_wsS RX10 117 yX10_turn wsX10_turn) := goodIn_app (goodIn_of _ (by decide +kernel)) ggX10_componentCount_X10_turn
set_option maxRecDepth 20000 in
theorem ggX10_componentCount_X10_unite : GoodIn wsX10_componentCount wsX10_unite := goodIn_r _ [18, 7, 19, 20, 21, 5, 22, 1, 31, 32, 33, 34, 35, 36, 37, 38, 39, 40, 41, 42, 43, 44, 45, 46, 47] (by decide +kernel) (by decide +kernel)
set_option maxRecDepth 20000 in
theorem gX10_componentCount_X10_unite : GoodIn wsX10_componentCount (wsV RX10 160 RX10 yX10_unite wsX10_unite) := goodIn_app (goodIn_of _ (by decide +kernel)) ggX10_componentCount_X10_unite
set_option maxRecDepth 20000 in
theorem ggX10_componentCount_X10_classes : GoodIn wsX10_componentCount wsX10_classes := goodIn_r _ [26, 7, 27, 28, 29, 5, 30, 8, 9, 10, 11, 1, 19, 20, 21, 22, 31, 32, 33, 34, 35, 36, 37, 38, 39, 40, 41, 42, 43, 44, 45, 46, 47] (by decide +kernel) (by decide +kernel)
set_option maxRecDepth 20000 in
theorem gX10_componentCount_X10_classes : GoodIn wsX10_componentCount (wsV RX10 164 RX10 yX10_classes wsX10_classes) := goodIn_app (goodIn_of _ (by decide +kernel)) ggX10_componentCount_X10_classes
theorem dX10_componentCount_0 : decode cX10_componentCount 0 = .ok (.aload_n 0, 1) := by decide +kernel
theorem dX10_componentCount_1 : decode cX10_componentCount 1 = .ok (.invokevirtual 157, 3) := by decide +kernel
theorem dX10_componentCount_4 : decode cX10_componentCount 4 = .ok (.iconst 0, 1) := by decide +kernel
theorem dX10_componentCount_5 : decode cX10_componentCount 5 = .ok (.istore_n 1, 1) := by decide +kernel
theorem dX10_componentCount_6 : decode cX10_componentCount 6 = .ok (.iload_n 1, 1) := by decide +kernel
theorem dX10_componentCount_7 : decode cX10_componentCount 7 = .ok (.aload_n 0, 1) := by decide +kernel
theorem dX10_componentCount_8 : decode cX10_componentCount 8 = .ok (.invokevirtual 53, 3) := by decide +kernel
theorem dX10_componentCount_11 : decode cX10_componentCount 11 = .ok (.if_icmp .ge 19, 3) := by decide +kernel
theorem dX10_componentCount_14 : decode cX10_componentCount 14 = .ok (.aload_n 0, 1) := by decide +kernel
theorem dX10_componentCount_15 : decode cX10_componentCount 15 = .ok (.iload_n 1, 1) := by decide +kernel
theorem dX10_componentCount_16 : decode cX10_componentCount 16 = .ok (.iload_n 1, 1) := by decide +kernel
theorem dX10_componentCount_17 : decode cX10_componentCount 17 = .ok (.iconst 2, 1) := by decide +kernel
theorem dX10_componentCount_18 : decode cX10_componentCount 18 = .ok (.invokestatic 117, 3) := by decide +kernel
theorem dX10_componentCount_21 : decode cX10_componentCount 21 = .ok (.invokevirtual 160, 3) := by decide +kernel
theorem dX10_componentCount_24 : decode cX10_componentCount 24 = .ok (.iinc 1 1, 3) := by decide +kernel
theorem dX10_componentCount_27 : decode cX10_componentCount 27 = .ok (.goto (-21), 3) := by decide +kernel
theorem dX10_componentCount_30 : decode cX10_componentCount 30 = .ok (.aload_n 0, 1) := by decide +kernel
theorem dX10_componentCount_31 : decode cX10_componentCount 31 = .ok (.invokevirtual 164, 3) := by decide +kernel
theorem dX10_componentCount_34 : decode cX10_componentCount 34 = .ok (.aload_n 0, 1) := by decide +kernel
theorem dX10_componentCount_35 : decode cX10_componentCount 35 = .ok (.getfield 7, 3) := by decide +kernel
theorem dX10_componentCount_38 : decode cX10_componentCount 38 = .ok (.iconst 1, 1) := by decide +kernel
theorem dX10_componentCount_39 : decode cX10_componentCount 39 = .ok (.iaload, 1) := by decide +kernel
theorem dX10_componentCount_40 : decode cX10_componentCount 40 = .ok (.iadd, 1) := by decide +kernel
theorem dX10_componentCount_41 : decode cX10_componentCount 41 = .ok (.ireturn, 1) := by decide +kernel
set_option maxRecDepth 20000 in
theorem ggX10_partCount_X10_beginClasses : GoodIn wsX10_partCount wsX10_beginClasses := goodIn_r _ [6, 7, 31, 32, 33, 34, 35, 36, 37, 38, 39, 40, 41, 42, 43, 44, 45, 46, 47] (by decide +kernel) (by decide +kernel)
set_option maxRecDepth 20000 in
theorem gX10_partCount_X10_beginClasses : GoodIn wsX10_partCount (wsV RX10 157 RX10 yX10_beginClasses wsX10_beginClasses) := goodIn_app (goodIn_of _ (by decide +kernel)) ggX10_partCount_X10_beginClasses
set_option maxRecDepth 20000 in
theorem ggX10_partCount_X10_ends : GoodIn wsX10_partCount wsX10_ends := goodIn_r _ [11, 1, 31, 32, 33, 34, 35, 36, 37, 38, 39, 40, 41, 42, 43, 44, 45, 46, 47] (by decide +kernel) (by decide +kernel)
set_option maxRecDepth 20000 in
theorem gX10_partCount_X10_ends : GoodIn wsX10_partCount (wsV RX10 53 RX10 yX10_ends wsX10_ends) := goodIn_app (goodIn_of _ (by decide +kernel)) ggX10_partCount_X10_ends
set_option maxRecDepth 20000 in
theorem ggX10_partCount_X10_turn : GoodIn wsX10_partCount wsX10_turn := goodIn_r _ [14] (by decide +kernel) (by decide +kernel)
set_option maxRecDepth 20000 in
theorem gX10_partCount_X10_turn : GoodIn wsX10_partCount (va_wsS RX10 117 yX10_turn wsX10_turn) := goodIn_app (goodIn_of _ (by decide +kernel)) ggX10_partCount_X10_turn
set_option maxRecDepth 20000 in
theorem ggX10_partCount_X10_unite : GoodIn wsX10_partCount wsX10_unite := goodIn_r _ [18, 7, 19, 20, 21, 5, 22, 1, 31, 32, 33, 34, 35, 36, 37, 38, 39, 40, 41, 42, 43, 44, 45, 46, 47] (by decide +kernel) (by decide +kernel)
set_option maxRecDepth 20000 in
theorem gX10_partCount_X10_unite : GoodIn wsX10_partCount (wsV RX10 160 RX10 yX10_unite wsX10_unite) := goodIn_app (goodIn_of _ (by decide +kernel)) ggX10_partCount_X10_unite
set_option maxRecDepth 20000 in
theorem ggX10_partCount_X10_classes : GoodIn wsX10_partCount wsX10_classes := goodIn_r _ [26, 7, 27, 28, 29, 5, 30, 8, 9, 10, 11, 1, 19, 20, 21, 22, 31, 32, 33, 34, 35, 36, 37, 38, 39, 40, 41, 42, 43, 44, 45, 46, 47] (by decide +kernel) (by decide +kernel)
set_option maxRecDepth 20000 in
theorem gX10_partCount_X10_classes : GoodIn wsX10_partCount (wsV RX10 164 RX10 yX10_classes wsX10_classes) := goodIn_app (goodIn_of _ (by decide +kernel)) ggX10_partCount_X10_classes
theorem dX10_partCount_0 : decode cX10_partCount 0 = .ok (.aload_n 0, 1) := by decide +kernel
theorem dX10_partCount_1 : decode cX10_partCount 1 = .ok (.invokevirtual 157, 3) := by decide +kernel
theorem dX10_partCount_4 : decode cX10_partCount 4 = .ok (.iconst 0, 1) := by decide +kernel
theorem dX10_partCount_5 : decode cX10_partCount 5 = .ok (.istore_n 1, 1) := by decide +kernel
theorem dX10_partCount_6 : decode cX10_partCount 6 = .ok (.iload_n 1, 1) := by decide +kernel
theorem dX10_partCount_7 : decode cX10_partCount 7 = .ok (.aload_n 0, 1) := by decide +kernel
theorem dX10_partCount_8 : decode cX10_partCount 8 = .ok (.invokevirtual 53, 3) := by decide +kernel
theorem dX10_partCount_11 : decode cX10_partCount 11 = .ok (.if_icmp .ge 19, 3) := by decide +kernel
theorem dX10_partCount_14 : decode cX10_partCount 14 = .ok (.aload_n 0, 1) := by decide +kernel
theorem dX10_partCount_15 : decode cX10_partCount 15 = .ok (.iload_n 1, 1) := by decide +kernel
theorem dX10_partCount_16 : decode cX10_partCount 16 = .ok (.iload_n 1, 1) := by decide +kernel
theorem dX10_partCount_17 : decode cX10_partCount 17 = .ok (.iconst 1, 1) := by decide +kernel
theorem dX10_partCount_18 : decode cX10_partCount 18 = .ok (.invokestatic 117, 3) := by decide +kernel
theorem dX10_partCount_21 : decode cX10_partCount 21 = .ok (.invokevirtual 160, 3) := by decide +kernel
theorem dX10_partCount_24 : decode cX10_partCount 24 = .ok (.iinc 1 1, 3) := by decide +kernel
theorem dX10_partCount_27 : decode cX10_partCount 27 = .ok (.goto (-21), 3) := by decide +kernel
theorem dX10_partCount_30 : decode cX10_partCount 30 = .ok (.aload_n 0, 1) := by decide +kernel
theorem dX10_partCount_31 : decode cX10_partCount 31 = .ok (.invokevirtual 164, 3) := by decide +kernel
theorem dX10_partCount_34 : decode cX10_partCount 34 = .ok (.aload_n 0, 1) := by decide +kernel
theorem dX10_partCount_35 : decode cX10_partCount 35 = .ok (.getfield 7, 3) := by decide +kernel
theorem dX10_partCount_38 : decode cX10_partCount 38 = .ok (.iconst 1, 1) := by decide +kernel
theorem dX10_partCount_39 : decode cX10_partCount 39 = .ok (.iaload, 1) := by decide +kernel
theorem dX10_partCount_40 : decode cX10_partCount 40 = .ok (.iadd, 1) := by decide +kernel
theorem dX10_partCount_41 : decode cX10_partCount 41 = .ok (.ireturn, 1) := by decide +kernel
set_option maxRecDepth 20000 in
theorem ggX10_faceCount_X10_ends : GoodIn wsX10_faceCount wsX10_ends := goodIn_r _ [7, 2, 19, 20, 21, 22, 23, 24, 25, 26, 27, 28, 29, 30, 31, 32, 33, 34, 35] (by decide +kernel) (by decide +kernel)
set_option maxRecDepth 20000 in
theorem gX10_faceCount_X10_ends : GoodIn wsX10_faceCount (wsV RX10 53 RX10 yX10_ends wsX10_ends) := goodIn_app (goodIn_of _ (by decide +kernel)) ggX10_faceCount_X10_ends
set_option maxRecDepth 20000 in
theorem ggX10_faceCount_X10_other : GoodIn wsX10_faceCount wsX10_other := goodIn_r _ [11, 3, 4, 5, 6, 7, 2, 12, 13, 14, 15, 19, 20, 21, 22, 23, 24, 25, 26, 27, 28, 29, 30, 31, 32, 33, 34, 35] (by decide +kernel) (by decide +kernel)
set_option maxRecDepth 20000 in
theorem gX10_faceCount_X10_other : GoodIn wsX10_faceCount (wsV RX10 110 RX10 yX10_other wsX10_other) := goodIn_app (goodIn_of _ (by decide +kernel)) ggX10_faceCount_X10_other
set_option maxRecDepth 20000 in
theorem ggX10_faceCount_X10_turn : GoodIn wsX10_faceCount wsX10_turn := goodIn_r _ [18] (by decide +kernel) (by decide +kernel)
set_option maxRecDepth 20000 in
theorem gX10_faceCount_X10_turn : GoodIn wsX10_faceCount (va_wsS RX10 117 yX10_turn wsX10_turn) := goodIn_app (goodIn_of _ (by decide +kernel)) ggX10_faceCount_X10_turn
theorem dX10_faceCount_0 : decode cX10_faceCount 0 = .ok (.iconst 0, 1) := by decide +kernel
theorem dX10_faceCount_1 : decode cX10_faceCount 1 = .ok (.istore_n 1, 1) := by decide +kernel
theorem dX10_faceCount_2 : decode cX10_faceCount 2 = .ok (.iload_n 1, 1) := by decide +kernel
theorem dX10_faceCount_3 : decode cX10_faceCount 3 = .ok (.aload_n 0, 1) := by decide +kernel
theorem dX10_faceCount_4 : decode cX10_faceCount 4 = .ok (.invokevirtual 53, 3) := by decide +kernel
theorem dX10_faceCount_7 : decode cX10_faceCount 7 = .ok (.if_icmp .ge 16, 3) := by decide +kernel
theorem dX10_faceCount_10 : decode cX10_faceCount 10 = .ok (.aload_n 0, 1) := by decide +kernel
theorem dX10_faceCount_11 : decode cX10_faceCount 11 = .ok (.getfield 44, 3) := by decide +kernel
theorem dX10_faceCount_14 : decode cX10_faceCount 14 = .ok (.iload_n 1, 1) := by decide +kernel
theorem dX10_faceCount_15 : decode cX10_faceCount 15 = .ok (.iconst 0, 1) := by decide +kernel
theorem dX10_faceCount_16 : decode cX10_faceCount 16 = .ok (.bastore, 1) := by decide +kernel
theorem dX10_faceCount_17 : decode cX10_faceCount 17 = .ok (.iinc 1 1, 3) := by decide +kernel
theorem dX10_faceCount_20 : decode cX10_faceCount 20 = .ok (.goto (-18), 3) := by decide +kernel
theorem dX10_faceCount_23 : decode cX10_faceCount 23 = .ok (.iconst 2, 1) := by decide +kernel
theorem dX10_faceCount_24 : decode cX10_faceCount 24 = .ok (.aload_n 0, 1) := by decide +kernel
theorem dX10_faceCount_25 : decode cX10_faceCount 25 = .ok (.getfield 7, 3) := by decide +kernel
theorem dX10_faceCount_28 : decode cX10_faceCount 28 = .ok (.iconst 1, 1) := by decide +kernel
theorem dX10_faceCount_29 : decode cX10_faceCount 29 = .ok (.iaload, 1) := by decide +kernel
theorem dX10_faceCount_30 : decode cX10_faceCount 30 = .ok (.imul, 1) := by decide +kernel
theorem dX10_faceCount_31 : decode cX10_faceCount 31 = .ok (.istore_n 1, 1) := by decide +kernel
theorem dX10_faceCount_32 : decode cX10_faceCount 32 = .ok (.iconst 0, 1) := by decide +kernel
theorem dX10_faceCount_33 : decode cX10_faceCount 33 = .ok (.istore_n 2, 1) := by decide +kernel
theorem dX10_faceCount_34 : decode cX10_faceCount 34 = .ok (.iload_n 2, 1) := by decide +kernel
theorem dX10_faceCount_35 : decode cX10_faceCount 35 = .ok (.aload_n 0, 1) := by decide +kernel
theorem dX10_faceCount_36 : decode cX10_faceCount 36 = .ok (.invokevirtual 53, 3) := by decide +kernel
theorem dX10_faceCount_39 : decode cX10_faceCount 39 = .ok (.if_icmp .ge 57, 3) := by decide +kernel
theorem dX10_faceCount_42 : decode cX10_faceCount 42 = .ok (.iload_n 1, 1) := by decide +kernel
theorem dX10_faceCount_43 : decode cX10_faceCount 43 = .ok (.aload_n 0, 1) := by decide +kernel
theorem dX10_faceCount_44 : decode cX10_faceCount 44 = .ok (.getfield 44, 3) := by decide +kernel
theorem dX10_faceCount_47 : decode cX10_faceCount 47 = .ok (.iload_n 2, 1) := by decide +kernel
theorem dX10_faceCount_48 : decode cX10_faceCount 48 = .ok (.baload, 1) := by decide +kernel
theorem dX10_faceCount_49 : decode cX10_faceCount 49 = .ok (.ifCond .eq 7, 3) := by decide +kernel
theorem dX10_faceCount_52 : decode cX10_faceCount 52 = .ok (.iconst 0, 1) := by decide +kernel
theorem dX10_faceCount_53 : decode cX10_faceCount 53 = .ok (.goto 4, 3) := by decide +kernel
theorem dX10_faceCount_56 : decode cX10_faceCount 56 = .ok (.iconst 1, 1) := by decide +kernel
theorem dX10_faceCount_57 : decode cX10_faceCount 57 = .ok (.iadd, 1) := by decide +kernel
theorem dX10_faceCount_58 : decode cX10_faceCount 58 = .ok (.istore_n 1, 1) := by decide +kernel
theorem dX10_faceCount_59 : decode cX10_faceCount 59 = .ok (.iload_n 2, 1) := by decide +kernel
theorem dX10_faceCount_60 : decode cX10_faceCount 60 = .ok (.istore_n 3, 1) := by decide +kernel
theorem dX10_faceCount_61 : decode cX10_faceCount 61 = .ok (.aload_n 0, 1) := by decide +kernel
theorem dX10_faceCount_62 : decode cX10_faceCount 62 = .ok (.getfield 44, 3) := by decide +kernel
theorem dX10_faceCount_65 : decode cX10_faceCount 65 = .ok (.iload_n 3, 1) := by decide +kernel
theorem dX10_faceCount_66 : decode cX10_faceCount 66 = .ok (.baload, 1) := by decide +kernel
theorem dX10_faceCount_67 : decode cX10_faceCount 67 = .ok (.ifCond .ne 23, 3) := by decide +kernel
theorem dX10_faceCount_70 : decode cX10_faceCount 70 = .ok (.aload_n 0, 1) := by decide +kernel
theorem dX10_faceCount_71 : decode cX10_faceCount 71 = .ok (.getfield 44, 3) := by decide +kernel
theorem dX10_faceCount_74 : decode cX10_faceCount 74 = .ok (.iload_n 3, 1) := by decide +kernel
theorem dX10_faceCount_75 : decode cX10_faceCount 75 = .ok (.iconst 1, 1) := by decide +kernel
theorem dX10_faceCount_76 : decode cX10_faceCount 76 = .ok (.bastore, 1) := by decide +kernel
theorem dX10_faceCount_77 : decode cX10_faceCount 77 = .ok (.aload_n 0, 1) := by decide +kernel
theorem dX10_faceCount_78 : decode cX10_faceCount 78 = .ok (.iload_n 3, 1) := by decide +kernel
theorem dX10_faceCount_79 : decode cX10_faceCount 79 = .ok (.invokevirtual 110, 3) := by decide +kernel
theorem dX10_faceCount_82 : decode cX10_faceCount 82 = .ok (.iconst 1, 1) := by decide +kernel
theorem dX10_faceCount_83 : decode cX10_faceCount 83 = .ok (.invokestatic 117, 3) := by decide +kernel
theorem dX10_faceCount_86 : decode cX10_faceCount 86 = .ok (.istore_n 3, 1) := by decide +kernel
theorem dX10_faceCount_87 : decode cX10_faceCount 87 = .ok (.goto (-26), 3) := by decide +kernel
theorem dX10_faceCount_90 : decode cX10_faceCount 90 = .ok (.iinc 2 1, 3) := by decide +kernel
theorem dX10_faceCount_93 : decode cX10_faceCount 93 = .ok (.goto (-59), 3) := by decide +kernel
theorem dX10_faceCount_96 : decode cX10_faceCount 96 = .ok (.iload_n 1, 1) := by decide +kernel
theorem dX10_faceCount_97 : decode cX10_faceCount 97 = .ok (.ireturn, 1) := by decide +kernel
set_option maxRecDepth 20000 in
theorem ggX10_genus_X10_crossings : GoodIn wsX10_genus wsX10_crossings := goodIn_r _ [5, 6, 48, 49, 50, 51, 52, 53, 54, 55, 56, 57, 58, 59, 60, 61, 62, 63, 64] (by decide +kernel) (by decide +kernel)
set_option maxRecDepth 20000 in
theorem gX10_genus_X10_crossings : GoodIn wsX10_genus (wsV RX10 61 RX10 yX10_crossings wsX10_crossings) := goodIn_app (goodIn_of _ (by decide +kernel)) ggX10_genus_X10_crossings
set_option maxRecDepth 20000 in
theorem ggX10_genus_X10_partCount : GoodIn wsX10_genus wsX10_partCount := goodIn_r _ [10, 6, 11, 12, 13, 4, 14, 15, 16, 17, 18, 19, 20, 21, 22, 23, 24, 25, 26, 27, 28, 29, 30, 31, 32, 33, 34, 35, 36, 37, 38, 48, 49, 50, 51, 52, 53, 54, 55, 56, 57, 58, 59, 60, 61, 62, 63, 64] (by decide +kernel) (by decide +kernel)
set_option maxRecDepth 20000 in
theorem gX10_genus_X10_partCount : GoodIn wsX10_genus (wsV RX10 167 RX10 yX10_partCount wsX10_partCount) := goodIn_app (goodIn_of _ (by decide +kernel)) ggX10_genus_X10_partCount
set_option maxRecDepth 20000 in
theorem ggX10_genus_X10_faceCount : GoodIn wsX10_genus wsX10_faceCount := goodIn_r _ [42, 43, 6, 16, 17, 18, 4, 19, 44, 45, 46, 47, 27, 28, 29, 30, 20, 21, 22, 48, 49, 50, 51, 52, 53, 54, 55, 56, 57, 58, 59, 60, 61, 62, 63, 64] (by decide +kernel) (by decide +kernel)
set_option maxRecDepth 20000 in
theorem gX10_genus_X10_faceCount : GoodIn wsX10_genus (wsV RX10 170 RX10 yX10_faceCount wsX10_faceCount) := goodIn_app (goodIn_of _ (by decide +kernel)) ggX10_genus_X10_faceCount
theorem dX10_genus_0 : decode cX10_genus 0 = .ok (.aload_n 0, 1) := by decide +kernel
theorem dX10_genus_1 : decode cX10_genus 1 = .ok (.invokevirtual 61, 3) := by decide +kernel
theorem dX10_genus_4 : decode cX10_genus 4 = .ok (.iconst 2, 1) := by decide +kernel
theorem dX10_genus_5 : decode cX10_genus 5 = .ok (.aload_n 0, 1) := by decide +kernel
theorem dX10_genus_6 : decode cX10_genus 6 = .ok (.invokevirtual 167, 3) := by decide +kernel
theorem dX10_genus_9 : decode cX10_genus 9 = .ok (.imul, 1) := by decide +kernel
theorem dX10_genus_10 : decode cX10_genus 10 = .ok (.iadd, 1) := by decide +kernel
theorem dX10_genus_11 : decode cX10_genus 11 = .ok (.aload_n 0, 1) := by decide +kernel
theorem dX10_genus_12 : decode cX10_genus 12 = .ok (.invokevirtual 170, 3) := by decide +kernel
theorem dX10_genus_15 : decode cX10_genus 15 = .ok (.isub, 1) := by decide +kernel
theorem dX10_genus_16 : decode cX10_genus 16 = .ok (.iconst 2, 1) := by decide +kernel
theorem dX10_genus_17 : decode cX10_genus 17 = .ok (.idiv, 1) := by decide +kernel
theorem dX10_genus_18 : decode cX10_genus 18 = .ok (.ireturn, 1) := by decide +kernel
set_option maxRecDepth 20000 in
theorem ggX10_isAlternating_X10_ends : GoodIn wsX10_isAlternating wsX10_ends := goodIn_r _ [5, 6, 15, 16, 17, 18, 19, 20, 21, 22, 23, 24, 25, 26, 27, 28, 29, 30, 31] (by decide +kernel) (by decide +kernel)
set_option maxRecDepth 20000 in
theorem gX10_isAlternating_X10_ends : GoodIn wsX10_isAlternating (wsV RX10 53 RX10 yX10_ends wsX10_ends) := goodIn_app (goodIn_of _ (by decide +kernel)) ggX10_isAlternating_X10_ends
set_option maxRecDepth 20000 in
theorem ggX10_isAlternating_X10_other : GoodIn wsX10_isAlternating wsX10_other := goodIn_r _ [10, 1, 2, 3, 4, 5, 6, 11, 12, 13, 14, 15, 16, 17, 18, 19, 20, 21, 22, 23, 24, 25, 26, 27, 28, 29, 30, 31] (by decide +kernel) (by decide +kernel)
set_option maxRecDepth 20000 in
theorem gX10_isAlternating_X10_other : GoodIn wsX10_isAlternating (wsV RX10 110 RX10 yX10_other wsX10_other) := goodIn_app (goodIn_of _ (by decide +kernel)) ggX10_isAlternating_X10_other
theorem dX10_isAlternating_0 : decode cX10_isAlternating 0 = .ok (.iconst 1, 1) := by decide +kernel
theorem dX10_isAlternating_1 : decode cX10_isAlternating 1 = .ok (.istore_n 1, 1) := by decide +kernel
theorem dX10_isAlternating_2 : decode cX10_isAlternating 2 = .ok (.iconst 0, 1) := by decide +kernel
theorem dX10_isAlternating_3 : decode cX10_isAlternating 3 = .ok (.istore_n 2, 1) := by decide +kernel
theorem dX10_isAlternating_4 : decode cX10_isAlternating 4 = .ok (.iload_n 2, 1) := by decide +kernel
theorem dX10_isAlternating_5 : decode cX10_isAlternating 5 = .ok (.aload_n 0, 1) := by decide +kernel
theorem dX10_isAlternating_6 : decode cX10_isAlternating 6 = .ok (.invokevirtual 53, 3) := by decide +kernel
theorem dX10_isAlternating_9 : decode cX10_isAlternating 9 = .ok (.if_icmp .ge 32, 3) := by decide +kernel
theorem dX10_isAlternating_12 : decode cX10_isAlternating 12 = .ok (.iload_n 1, 1) := by decide +kernel
theorem dX10_isAlternating_13 : decode cX10_isAlternating 13 = .ok (.ifCond .eq 20, 3) := by decide +kernel
theorem dX10_isAlternating_16 : decode cX10_isAlternating 16 = .ok (.iload_n 2, 1) := by decide +kernel
theorem dX10_isAlternating_17 : decode cX10_isAlternating 17 = .ok (.aload_n 0, 1) := by decide +kernel
theorem dX10_isAlternating_18 : decode cX10_isAlternating 18 = .ok (.iload_n 2, 1) := by decide +kernel
theorem dX10_isAlternating_19 : decode cX10_isAlternating 19 = .ok (.invokevirtual 110, 3) := by decide +kernel
theorem dX10_isAlternating_22 : decode cX10_isAlternating 22 = .ok (.iadd, 1) := by decide +kernel
theorem dX10_isAlternating_23 : decode cX10_isAlternating 23 = .ok (.iconst 2, 1) := by decide +kernel
theorem dX10_isAlternating_24 : decode cX10_isAlternating 24 = .ok (.irem, 1) := by decide +kernel
theorem dX10_isAlternating_25 : decode cX10_isAlternating 25 = .ok (.iconst 1, 1) := by decide +kernel
theorem dX10_isAlternating_26 : decode cX10_isAlternating 26 = .ok (.if_icmp .ne 7, 3) := by decide +kernel
theorem dX10_isAlternating_29 : decode cX10_isAlternating 29 = .ok (.iconst 1, 1) := by decide +kernel
theorem dX10_isAlternating_30 : decode cX10_isAlternating 30 = .ok (.goto 4, 3) := by decide +kernel
theorem dX10_isAlternating_33 : decode cX10_isAlternating 33 = .ok (.iconst 0, 1) := by decide +kernel
theorem dX10_isAlternating_34 : decode cX10_isAlternating 34 = .ok (.istore_n 1, 1) := by decide +kernel
theorem dX10_isAlternating_35 : decode cX10_isAlternating 35 = .ok (.iinc 2 1, 3) := by decide +kernel
theorem dX10_isAlternating_38 : decode cX10_isAlternating 38 = .ok (.goto (-34), 3) := by decide +kernel
theorem dX10_isAlternating_41 : decode cX10_isAlternating 41 = .ok (.iload_n 1, 1) := by decide +kernel
theorem dX10_isAlternating_42 : decode cX10_isAlternating 42 = .ok (.ifCond .eq 7, 3) := by decide +kernel
theorem dX10_isAlternating_45 : decode cX10_isAlternating 45 = .ok (.iconst 1, 1) := by decide +kernel
theorem dX10_isAlternating_46 : decode cX10_isAlternating 46 = .ok (.goto 4, 3) := by decide +kernel
theorem dX10_isAlternating_49 : decode cX10_isAlternating 49 = .ok (.iconst 0, 1) := by decide +kernel
theorem dX10_isAlternating_50 : decode cX10_isAlternating 50 = .ok (.ireturn, 1) := by decide +kernel
set_option maxRecDepth 20000 in
theorem ggX10_loops_X10_beginClasses : GoodIn wsX10_loops wsX10_beginClasses := goodIn_r _ [6, 7, 32, 33, 34, 35, 36, 37, 38, 39, 40, 41, 42, 43, 44, 45, 46, 47, 48] (by decide +kernel) (by decide +kernel)
set_option maxRecDepth 20000 in
theorem gX10_loops_X10_beginClasses : GoodIn wsX10_loops (wsV RX10 157 RX10 yX10_beginClasses wsX10_beginClasses) := goodIn_app (goodIn_of _ (by decide +kernel)) ggX10_loops_X10_beginClasses
set_option maxRecDepth 20000 in
theorem ggX10_loops_X10_crossings : GoodIn wsX10_loops wsX10_crossings := goodIn_r _ [11, 1, 32, 33, 34, 35, 36, 37, 38, 39, 40, 41, 42, 43, 44, 45, 46, 47, 48] (by decide +kernel) (by decide +kernel)
set_option maxRecDepth 20000 in
theorem gX10_loops_X10_crossings : GoodIn wsX10_loops (wsV RX10 61 RX10 yX10_crossings wsX10_crossings) := goodIn_app (goodIn_of _ (by decide +kernel)) ggX10_loops_X10_crossings
set_option maxRecDepth 20000 in
theorem ggX10_loops_X10_unite : GoodIn wsX10_loops wsX10_unite := goodIn_r _ [15, 7, 16, 17, 18, 5, 19, 1, 32, 33, 34, 35, 36, 37, 38, 39, 40, 41, 42, 43, 44, 45, 46, 47, 48] (by decide +kernel) (by decide +kernel)
set_option maxRecDepth 20000 in
theorem gX10_loops_X10_unite : GoodIn wsX10_loops (wsV RX10 160 RX10 yX10_unite wsX10_unite) := goodIn_app (goodIn_of _ (by decide +kernel)) ggX10_loops_X10_unite
set_option maxRecDepth 20000 in
theorem ggX10_loops_X10_classes : GoodIn wsX10_loops wsX10_classes := goodIn_r _ [23, 7, 24, 25, 26, 5, 27, 28, 29, 30, 31, 1, 16, 17, 18, 19, 32, 33, 34, 35, 36, 37, 38, 39, 40, 41, 42, 43, 44, 45, 46, 47, 48] (by decide +kernel) (by decide +kernel)
set_option maxRecDepth 20000 in
theorem gX10_loops_X10_classes : GoodIn wsX10_loops (wsV RX10 164 RX10 yX10_classes wsX10_classes) := goodIn_app (goodIn_of _ (by decide +kernel)) ggX10_loops_X10_classes
theorem dX10_loops_0 : decode cX10_loops 0 = .ok (.aload_n 0, 1) := by decide +kernel
theorem dX10_loops_1 : decode cX10_loops 1 = .ok (.invokevirtual 157, 3) := by decide +kernel
theorem dX10_loops_4 : decode cX10_loops 4 = .ok (.iconst 0, 1) := by decide +kernel
theorem dX10_loops_5 : decode cX10_loops 5 = .ok (.istore_n 2, 1) := by decide +kernel
theorem dX10_loops_6 : decode cX10_loops 6 = .ok (.iload_n 2, 1) := by decide +kernel
theorem dX10_loops_7 : decode cX10_loops 7 = .ok (.aload_n 0, 1) := by decide +kernel
theorem dX10_loops_8 : decode cX10_loops 8 = .ok (.invokevirtual 61, 3) := by decide +kernel
theorem dX10_loops_11 : decode cX10_loops 11 = .ok (.if_icmp .ge 69, 3) := by decide +kernel
theorem dX10_loops_14 : decode cX10_loops 14 = .ok (.iconst 4, 1) := by decide +kernel
theorem dX10_loops_15 : decode cX10_loops 15 = .ok (.iload_n 2, 1) := by decide +kernel
theorem dX10_loops_16 : decode cX10_loops 16 = .ok (.imul, 1) := by decide +kernel
theorem dX10_loops_17 : decode cX10_loops 17 = .ok (.istore_n 3, 1) := by decide +kernel
theorem dX10_loops_18 : decode cX10_loops 18 = .ok (.iload_n 1, 1) := by decide +kernel
theorem dX10_loops_19 : decode cX10_loops 19 = .ok (.iload_n 2, 1) := by decide +kernel
theorem dX10_loops_20 : decode cX10_loops 20 = .ok (.ishr, 1) := by decide +kernel
theorem dX10_loops_21 : decode cX10_loops 21 = .ok (.iconst 1, 1) := by decide +kernel
theorem dX10_loops_22 : decode cX10_loops 22 = .ok (.iand, 1) := by decide +kernel
theorem dX10_loops_23 : decode cX10_loops 23 = .ok (.iconst 1, 1) := by decide +kernel
theorem dX10_loops_24 : decode cX10_loops 24 = .ok (.if_icmp .ne 7, 3) := by decide +kernel
theorem dX10_loops_27 : decode cX10_loops 27 = .ok (.iconst 1, 1) := by decide +kernel
theorem dX10_loops_28 : decode cX10_loops 28 = .ok (.goto 4, 3) := by decide +kernel
theorem dX10_loops_31 : decode cX10_loops 31 = .ok (.iconst 0, 1) := by decide +kernel
theorem dX10_loops_32 : decode cX10_loops 32 = .ok (.istore 4, 2) := by decide +kernel
theorem dX10_loops_34 : decode cX10_loops 34 = .ok (.aload_n 0, 1) := by decide +kernel
theorem dX10_loops_35 : decode cX10_loops 35 = .ok (.iload_n 3, 1) := by decide +kernel
theorem dX10_loops_36 : decode cX10_loops 36 = .ok (.iload 4, 2) := by decide +kernel
theorem dX10_loops_38 : decode cX10_loops 38 = .ok (.ifCond .eq 9, 3) := by decide +kernel
theorem dX10_loops_41 : decode cX10_loops 41 = .ok (.iload_n 3, 1) := by decide +kernel
theorem dX10_loops_42 : decode cX10_loops 42 = .ok (.iconst 3, 1) := by decide +kernel
theorem dX10_loops_43 : decode cX10_loops 43 = .ok (.iadd, 1) := by decide +kernel
theorem dX10_loops_44 : decode cX10_loops 44 = .ok (.goto 6, 3) := by decide +kernel
theorem dX10_loops_47 : decode cX10_loops 47 = .ok (.iload_n 3, 1) := by decide +kernel
theorem dX10_loops_48 : decode cX10_loops 48 = .ok (.iconst 1, 1) := by decide +kernel
theorem dX10_loops_49 : decode cX10_loops 49 = .ok (.iadd, 1) := by decide +kernel
theorem dX10_loops_50 : decode cX10_loops 50 = .ok (.invokevirtual 160, 3) := by decide +kernel
theorem dX10_loops_53 : decode cX10_loops 53 = .ok (.aload_n 0, 1) := by decide +kernel
theorem dX10_loops_54 : decode cX10_loops 54 = .ok (.iload_n 3, 1) := by decide +kernel
theorem dX10_loops_55 : decode cX10_loops 55 = .ok (.iconst 2, 1) := by decide +kernel
theorem dX10_loops_56 : decode cX10_loops 56 = .ok (.iadd, 1) := by decide +kernel
theorem dX10_loops_57 : decode cX10_loops 57 = .ok (.iload 4, 2) := by decide +kernel
theorem dX10_loops_59 : decode cX10_loops 59 = .ok (.ifCond .eq 9, 3) := by decide +kernel
theorem dX10_loops_62 : decode cX10_loops 62 = .ok (.iload_n 3, 1) := by decide +kernel
theorem dX10_loops_63 : decode cX10_loops 63 = .ok (.iconst 1, 1) := by decide +kernel
theorem dX10_loops_64 : decode cX10_loops 64 = .ok (.iadd, 1) := by decide +kernel
theorem dX10_loops_65 : decode cX10_loops 65 = .ok (.goto 6, 3) := by decide +kernel
theorem dX10_loops_68 : decode cX10_loops 68 = .ok (.iload_n 3, 1) := by decide +kernel
theorem dX10_loops_69 : decode cX10_loops 69 = .ok (.iconst 3, 1) := by decide +kernel
theorem dX10_loops_70 : decode cX10_loops 70 = .ok (.iadd, 1) := by decide +kernel
theorem dX10_loops_71 : decode cX10_loops 71 = .ok (.invokevirtual 160, 3) := by decide +kernel
theorem dX10_loops_74 : decode cX10_loops 74 = .ok (.iinc 2 1, 3) := by decide +kernel
theorem dX10_loops_77 : decode cX10_loops 77 = .ok (.goto (-71), 3) := by decide +kernel
theorem dX10_loops_80 : decode cX10_loops 80 = .ok (.aload_n 0, 1) := by decide +kernel
theorem dX10_loops_81 : decode cX10_loops 81 = .ok (.invokevirtual 164, 3) := by decide +kernel
theorem dX10_loops_84 : decode cX10_loops 84 = .ok (.aload_n 0, 1) := by decide +kernel
theorem dX10_loops_85 : decode cX10_loops 85 = .ok (.getfield 7, 3) := by decide +kernel
theorem dX10_loops_88 : decode cX10_loops 88 = .ok (.iconst 1, 1) := by decide +kernel
theorem dX10_loops_89 : decode cX10_loops 89 = .ok (.iaload, 1) := by decide +kernel
theorem dX10_loops_90 : decode cX10_loops 90 = .ok (.iadd, 1) := by decide +kernel
theorem dX10_loops_91 : decode cX10_loops 91 = .ok (.ireturn, 1) := by decide +kernel
set_option maxRecDepth 20000 in
theorem ggX10_findBracket_X10_crossings : GoodIn wsX10_findBracket wsX10_crossings := goodIn_r _ [6, 7, 37, 38, 39, 40, 41, 42, 43, 44, 45, 46, 47, 48, 49, 50, 51, 52, 53] (by decide +kernel) (by decide +kernel)
set_option maxRecDepth 20000 in
theorem gX10_findBracket_X10_crossings : GoodIn wsX10_findBracket (wsV RX10 61 RX10 yX10_crossings wsX10_crossings) := goodIn_app (goodIn_of _ (by decide +kernel)) ggX10_findBracket_X10_crossings
set_option maxRecDepth 20000 in
theorem ggX10_findBracket_X10_loops : GoodIn wsX10_findBracket wsX10_loops := goodIn_r _ [11, 7, 12, 13, 14, 5, 15, 16, 2, 3, 4, 6, 17, 18, 19, 20, 21, 22, 23, 24, 25, 26, 27, 28, 29, 30, 31, 32, 33, 34, 35, 36, 37, 38, 39, 40, 41, 42, 43, 44, 45, 46, 47, 48, 49, 50, 51, 52, 53] (by decide +kernel) (by decide +kernel)
set_option maxRecDepth 20000 in
theorem gX10_findBracket_X10_loops : GoodIn wsX10_findBracket (wsV RX10 173 RX10 yX10_loops wsX10_loops) := goodIn_app (goodIn_of _ (by decide +kernel)) ggX10_findBracket_X10_loops
